/-! what the class and the reference have in common between two calls -/
def mkO (w h : Nat) (f : Nat → Nat → Int32) (tw : Int32) : List (List Nat) := opG (fun e => crB w h f tw e && !ltR w h f tw e) (nxR w h f tw) (nE w h)
def mkL (w h : Nat) (f : Nat → Nat → Int32) (tw : Int32) : List (List Nat) := csG (crB w h f tw) (nxR w h f tw) (mkO w h f tw) (nE w h)
def IA (w h : Nat) (tw : Int32) (f : Nat → Nat → Int32) (L : List (List Nat)) (no : Nat) : Prop := 2 ≤ w ∧ w ≤ 12 ∧ 2 ≤ h ∧ h ≤ 12 ∧ (∀ x y, x < w → y < h → sB (f x y)) ∧ tB tw ∧ L.length ≤ 132 ∧ no ≤ L.length ∧ L.flatten.Nodup ∧ ∀ z ∈ L.flatten, z < nE w h
def IC (w h : Nat) (f : Nat → Nat → Int32) (L : List (List Nat)) (sm od st ow : Nat → Int32) : Prop := (∀ x y, x < w → y < h → sm (y * w + x) = f x y) ∧ st 0 = 0 ∧ (∀ i, i ≤ L.length → st i = nI (pfx L i)) ∧ (∀ j, j < L.flatten.length → od j = nI (L.flatten.getD j 0)) ∧ ∀ c, c < L.length → ∀ e, e < 264 → (ow e = nI c ↔ e ∈ nthL L c)
def IR (w h : Nat) (f : Nat → Nat → Int32) (L : List (List Nat)) (no : Nat) (sm od st cl : Nat → Int32) : Prop := (∀ x y, x < w → y < h → sm (12 * y + x) = f x y) ∧ (∀ i, i ≤ L.length → st i = nI (pfx L i)) ∧ (∀ j, j < L.flatten.length → od j = nI (L.flatten.getD j 0)) ∧ ∀ i, i < L.length → cl i = bI (decide (no ≤ i))
theorem IA.len {w h : Nat} {tw : Int32} {f : Nat → Nat → Int32} {L : List (List Nat)} {no : Nat} (a : IA w h tw f L no) : L.flatten.length ≤ 264 := by
  have := nd_len a.2.2.2.2.2.2.2.2.1 a.2.2.2.2.2.2.2.2.2
  have := nE_le a.2.1 a.2.2.2.1
  omega
theorem sB_0 : sB 0 := ⟨by decide, by decide⟩
theorem IA_0 : IA 2 2 1 (fun _ _ => 0) [] 0 :=
  ⟨by decide, by decide, by decide, by decide, fun x y _ _ => sB_0, ⟨by decide, by decide, by decide⟩, by decide, by decide, by simp, fun z h => by simp at h⟩
theorem pfx_nil (i : Nat) : pfx [] i = 0 := by simp [pfx]
theorem IC_0 : IC 2 2 (fun _ _ => 0) [] zF zF zF zF :=
  ⟨fun _ _ _ _ => rfl, rfl, fun i _ => by rw [pfx_nil]; rfl, fun j hj => by simp at hj, fun c hc => by simp at hc⟩
theorem IR_0 : IR 2 2 (fun _ _ => 0) [] 0 zF zF zF zF :=
  ⟨fun _ _ _ _ => rfl, fun i _ => by rw [pfx_nil]; rfl, fun j hj => by simp at hj, fun c hc => by simp at hc⟩
/-- field -/
theorem okF_n {a b : Int32} (hk : okF a b = true) : ∃ w h, 2 ≤ w ∧ w ≤ 12 ∧ 2 ≤ h ∧ h ≤ 12 ∧ a = nI w ∧ b = nI h := by
  obtain ⟨⟨h1, h2⟩, h3, h4⟩ := okF_ok.mp hk
  have go : ∀ x : Int32, 2 ≤ x → x ≤ 12 → ∃ k, 2 ≤ k ∧ k ≤ 12 ∧ x = nI k := by
    intro x g1 g2
    rw [Int32.le_iff_toInt_le] at g1 g2
    rw [i2_2] at g1
    rw [show (12 : Int32).toInt = 12 from by decide] at g2
    exact ⟨x.toInt.toNat, by omega, by omega, nI_ofI (by omega) (by omega)⟩
  obtain ⟨w, a1, a2, a3⟩ := go a h1 h2
  obtain ⟨h, b1, b2, b3⟩ := go b h3 h4
  exact ⟨w, h, a1, a2, b1, b2, a3, b3⟩
theorem IA_field {w h w' h' : Nat} {tw : Int32} {f : Nat → Nat → Int32} {L : List (List Nat)} {no : Nat} (a : IA w h tw f L no) (h1 : 2 ≤ w') (h2 : w' ≤ 12) (h3 : 2 ≤ h') (h4 : h' ≤ 12) : IA w' h' tw (fun _ _ => 0) [] 0 :=
  ⟨h1, h2, h3, h4, fun x y _ _ => sB_0, a.2.2.2.2.2.1, by decide, by decide, by simp, fun z h => by simp at h⟩
theorem IC_field {w h w' h' : Nat} {f : Nat → Nat → Int32} {L : List (List Nat)} {sm od st ow ow' : Nat → Int32} (c : IC w h f L sm od st ow) (h2 : w' ≤ 12) (h4 : h' ≤ 12) : IC w' h' (fun _ _ => 0) [] (filF 144 0 sm) od st ow' :=
  ⟨fun x y hx hy => filF_in (sA_lt h2 h4 hx hy), c.2.1, fun i hi => by
    have : i = 0 := by simpa using hi
    subst this; rw [c.2.1]; rfl, fun j hj => by simp at hj, fun c hc => by simp at hc⟩
theorem IR_field {w h w' h' : Nat} {f : Nat → Nat → Int32} {L : List (List Nat)} {no : Nat} {sm od st cl : Nat → Int32} (c : IR w h f L no sm od st cl) (h2 : w' ≤ 12) (h4 : h' ≤ 12) : IR w' h' (fun _ _ => 0) [] 0 (filF 144 0 sm) od st cl :=
  ⟨fun x y hx hy => filF_in (by omega), fun i hi => by
    have : i = 0 := by simpa using hi
    subst this; rw [c.2.1 0 (Nat.zero_le _), pfx_0, pfx_0], fun j hj => by simp at hj, fun c hc => by simp at hc⟩
/-- set -/
def setF (f : Nat → Nat → Int32) (x0 y0 : Nat) (v : Int32) : Nat → Nat → Int32 := fun x y => if x = x0 ∧ y = y0 then v else f x y
theorem okS_n {w h : Nat} {a b v : Int32} (hw : w ≤ 12) (hh : h ≤ 12) (hk : okS w h a b v = true) : ∃ x y, x < w ∧ y < h ∧ a = nI x ∧ b = nI y ∧ sB v := by
  unfold okS at hk
  simp only [Bool.and_eq_true, hold_ok, decide_eq_true_eq] at hk
  obtain ⟨h1, h2, h3, h4⟩ := hk
  obtain ⟨x, hx, ex⟩ := okY_n (h := w) (y := a) (by unfold okY; rw [decide_eq_true h1.1, decide_eq_true h1.2]; rfl) (by omega)
  obtain ⟨y, hy, ey⟩ := okY_n h2 (by omega)
  rw [Int32.le_iff_toInt_le, show (-1000000 : Int32).toInt = -1000000 from by decide] at h3
  rw [Int32.le_iff_toInt_le, show (1000000 : Int32).toInt = 1000000 from by decide] at h4
  exact ⟨x, y, hx, hy, ex, ey, h3, h4⟩
theorem ix_inj {w x y x0 y0 : Nat} (hx : x < w) (hx0 : x0 < w) (e : y * w + x = y0 * w + x0) : x = x0 ∧ y = y0 := by
  have h1 : (y * w + x) % w = x := by rw [Nat.mul_comm, Nat.mul_add_mod, Nat.mod_eq_of_lt hx]
  have h2 : (y0 * w + x0) % w = x0 := by rw [Nat.mul_comm, Nat.mul_add_mod, Nat.mod_eq_of_lt hx0]
  have h3 : (y * w + x) / w = y := by rw [Nat.mul_comm, Nat.mul_add_div (by omega), Nat.div_eq_of_lt hx, Nat.add_zero]
  have h4 : (y0 * w + x0) / w = y0 := by rw [Nat.mul_comm, Nat.mul_add_div (by omega), Nat.div_eq_of_lt hx0, Nat.add_zero]
  rw [e] at h1 h3
  exact ⟨by omega, by omega⟩
theorem IA_set {w h : Nat} {tw : Int32} {f : Nat → Nat → Int32} {L : List (List Nat)} {no : Nat} (a : IA w h tw f L no) {x0 y0 : Nat} {v : Int32} (hv : sB v) : IA w h tw (setF f x0 y0 v) L no := by
  obtain ⟨a1, a2, a3, a4, a5, a6⟩ := a
  refine ⟨a1, a2, a3, a4, fun x y hx hy => ?_, a6⟩
  unfold setF
  split
  · exact hv
  · exact a5 x y hx hy
theorem IC_set {w h : Nat} {f : Nat → Nat → Int32} {L : List (List Nat)} {sm od st ow : Nat → Int32} (c : IC w h f L sm od st ow) {x0 y0 : Nat} {v : Int32} (hx0 : x0 < w) : IC w h (setF f x0 y0 v) L (upd sm (y0 * w + x0) v) od st ow := by
  refine ⟨fun x y hx hy => ?_, c.2⟩
  unfold upd setF
  by_cases e : y * w + x = y0 * w + x0
  · rw [if_pos e, if_pos (ix_inj hx hx0 e)]
  · rw [if_neg e, if_neg (fun q => e (by rw [q.1, q.2]))]
    exact c.1 x y hx hy
theorem IR_set {w h : Nat} {f : Nat → Nat → Int32} {L : List (List Nat)} {no : Nat} {sm od st cl : Nat → Int32} (c : IR w h f L no sm od st cl) (hw : w ≤ 12) {x0 y0 : Nat} {v : Int32} (hx0 : x0 < w) : IR w h (setF f x0 y0 v) L no (upd sm (12 * y0 + x0) v) od st cl := by
  refine ⟨fun x y hx hy => ?_, c.2⟩
  unfold upd setF
  by_cases e : 12 * y + x = 12 * y0 + x0
  · rw [if_pos e, if_pos (by omega)]
  · rw [if_neg e, if_neg (fun q => e (by rw [q.1, q.2]))]
    exact c.1 x y hx hy
/-- row -/
def rowA (f : Nat → Nat → Int32) (y0 : Nat) (fr sp : Int32) : Nat → Nat → Int32 := fun x y => if y = y0 then holdI (fr.toInt64 + (nI x).toInt64 * sp.toInt64) else f x y
theorem hold_B (v : Int64) : sB (holdI v) := by
  by_cases h1 : v < -1000000
  · rw [hold_lo h1]; exact ⟨by decide, by decide⟩
  · by_cases h2 : 1000000 < v
    · rw [hold_hi h2]; exact ⟨by decide, by decide⟩
    · rw [hold_in h1 h2]
      have g1 := Int64.not_lt.mp h1
      have g2 := Int64.not_lt.mp h2
      rw [Int64.le_iff_toInt_le, show (-1000000 : Int64).toInt = -1000000 from by decide] at g1
      rw [Int64.le_iff_toInt_le, show (1000000 : Int64).toInt = 1000000 from by decide] at g2
      have e : v.toInt32.toInt = v.toInt := by
        rw [Int64.toInt_toInt32]
        apply Int.bmod_eq_of_le
        · simp; omega
        · simp; omega
      unfold sB
      rw [e]; omega
theorem IA_row {w h : Nat} {tw : Int32} {f : Nat → Nat → Int32} {L : List (List Nat)} {no : Nat} (a : IA w h tw f L no) {y0 : Nat} {fr sp : Int32} : IA w h tw (rowA f y0 fr sp) L no := by
  obtain ⟨a1, a2, a3, a4, a5, a6⟩ := a
  refine ⟨a1, a2, a3, a4, fun x y hx hy => ?_, a6⟩
  unfold rowA
  split
  · exact hold_B _
  · exact a5 x y hx hy
theorem rowF_v {w y0 : Nat} {fr sp : Int32} {sm : Nat → Int32} : ∀ j, j ≤ w → ∀ x y, x < w → rowF w y0 fr sp sm j (y * w + x) = if y = y0 ∧ x < j then holdI (fr.toInt64 + (nI x).toInt64 * sp.toInt64) else sm (y * w + x) := by
  intro j
  induction j with
  | zero => intro _ x y _; rw [if_neg (by omega)]; rfl
  | succ j ih =>
    intro hj x y hx
    show upd (rowF w y0 fr sp sm j) (y0 * w + j) _ (y * w + x) = _
    unfold upd
    by_cases e : y * w + x = y0 * w + j
    · obtain ⟨e1, e2⟩ := ix_inj hx (by omega) e
      subst e1; subst e2
      rw [if_pos rfl, if_pos ⟨rfl, by omega⟩]
    · rw [if_neg e, ih (by omega) x y hx]
      by_cases q : y = y0 ∧ x < j
      · rw [if_pos q, if_pos ⟨q.1, by omega⟩]
      · rw [if_neg q, if_neg]
        rintro ⟨q1, q2⟩
        by_cases q3 : x < j
        · exact q ⟨q1, q3⟩
        · exact e (by rw [q1, show x = j from by omega])
theorem rowR_v {w y0 : Nat} {fr sp : Int32} {sm : Nat → Int32} (hw : w ≤ 12) : ∀ j, j ≤ w → ∀ x y, x < w → rowR y0 fr sp sm j (12 * y + x) = if y = y0 ∧ x < j then holdI (fr.toInt64 + (nI x).toInt64 * sp.toInt64) else sm (12 * y + x) := by
  intro j
  induction j with
  | zero => intro _ x y _; rw [if_neg (by omega)]; rfl
  | succ j ih =>
    intro hj x y hx
    show upd (rowR y0 fr sp sm j) (12 * y0 + j) _ (12 * y + x) = _
    unfold upd
    by_cases e : 12 * y + x = 12 * y0 + j
    · have e1 : x = j := by omega
      have e2 : y = y0 := by omega
      subst e1; subst e2
      rw [if_pos rfl, if_pos ⟨rfl, by omega⟩]
    · rw [if_neg e, ih (by omega) x y hx]
      by_cases q : y = y0 ∧ x < j
      · rw [if_pos q, if_pos ⟨q.1, by omega⟩]
      · rw [if_neg q, if_neg]
        rintro ⟨q1, q2⟩
        by_cases q3 : x < j
        · exact q ⟨q1, q3⟩
        · exact e (by rw [q1, show x = j from by omega])
theorem IC_row {w h : Nat} {f : Nat → Nat → Int32} {L : List (List Nat)} {sm od st ow : Nat → Int32} (c : IC w h f L sm od st ow) {y0 : Nat} {fr sp : Int32} : IC w h (rowA f y0 fr sp) L (rowF w y0 fr sp sm w) od st ow := by
  refine ⟨fun x y hx hy => ?_, c.2⟩
  rw [rowF_v w (Nat.le_refl _) x y hx]
  unfold rowA
  by_cases q : y = y0
  · rw [if_pos ⟨q, hx⟩, if_pos q]
  · rw [if_neg (fun z => q z.1), if_neg q]; exact c.1 x y hx hy
theorem IR_row {w h : Nat} {f : Nat → Nat → Int32} {L : List (List Nat)} {no : Nat} {sm od st cl : Nat → Int32} (c : IR w h f L no sm od st cl) (hw : w ≤ 12) {y0 : Nat} {fr sp : Int32} : IR w h (rowA f y0 fr sp) L no (rowR y0 fr sp sm w) od st cl := by
  refine ⟨fun x y hx hy => ?_, c.2⟩
  rw [rowR_v hw w (Nat.le_refl _) x y hx]
  unfold rowA
  by_cases q : y = y0
  · rw [if_pos ⟨q, hx⟩, if_pos q]
  · rw [if_neg (fun z => q z.1), if_neg q]; exact c.1 x y hx hy
/-- height -/
theorem okT_B {t : Int32} (hk : okT t = true) : tB t := by
  obtain ⟨h1, h2, h3⟩ := okT_ok.mp hk
  rw [Int32.le_iff_toInt_le, show (-1999999 : Int32).toInt = -1999999 from by decide] at h2
  rw [Int32.le_iff_toInt_le, show (1999999 : Int32).toInt = 1999999 from by decide] at h3
  refine ⟨h2, h3, ?_⟩
  have h4 : t &&& 1 = nI (t.toBitVec.toNat % 2) := pk_and t 1 (by decide)
  have h5 : t.toInt % 2 = ((t.toBitVec.toNat % 2 : Nat) : Int) := by
    rw [show t.toInt = t.toBitVec.toInt from rfl, BitVec.toInt_eq_toNat_cond]
    split <;> omega
  rw [h1] at h4
  rcases Nat.mod_two_eq_zero_or_one t.toBitVec.toNat with q | q
  · rw [q] at h4; exact absurd h4 (by decide)
  · rw [q] at h5; omega
theorem IA_height {w h : Nat} {tw t : Int32} {f : Nat → Nat → Int32} {L : List (List Nat)} {no : Nat} (a : IA w h tw f L no) (ht : tB t) : IA w h t f L no := by
  obtain ⟨a1, a2, a3, a4, a5, a6, a7⟩ := a
  exact ⟨a1, a2, a3, a4, a5, ht, a7⟩
/-- make -/
theorem wOr_out (L : List (List Nat)) : ∀ (c0 : Nat) (g : Nat → Int32) (e : Nat), e ∉ L.flatten → wOr L c0 g e = g e := by
  induction L with
  | nil => intro _ _ _ _; rfl
  | cons l L ih =>
    intro c0 g e he
    rw [List.flatten_cons, List.mem_append] at he
    simp only [wOr]
    rw [ih _ _ _ (fun z => he (Or.inr z))]
    unfold gW
    rw [if_neg (fun z => he (Or.inl z))]
theorem wOr_in (L : List (List Nat)) : ∀ (c0 : Nat) (g : Nat → Int32) (e : Nat), c0 + L.length < 2 ^ 31 → L.flatten.Nodup → (∀ k, c0 ≤ k → k < c0 + L.length → ¬ g e = nI k) → ∀ c, c < L.length → (wOr L c0 g e = nI (c0 + c) ↔ e ∈ nthL L c) := by
  induction L with
  | nil => intro _ _ _ _ _ _ c hc; simp at hc
  | cons l L ih =>
    intro c0 g e hl hn hg c hc
    simp only [List.length_cons] at hl hg hc
    rw [List.flatten_cons, List.nodup_append] at hn
    obtain ⟨n1, n2, n3⟩ := hn
    simp only [wOr]
    have hg2 : ∀ k, c0 + 1 ≤ k → k < c0 + 1 + L.length → ¬ gW g (nI c0) l e = nI k := by
      intro k k1 k2
      unfold gW
      by_cases hel : e ∈ l
      · rw [if_pos hel]
        intro q
        have := nI_inj31 (by omega) (by omega) q
        omega
      · rw [if_neg hel]; exact hg k (by omega) (by omega)
    have i := ih (c0 + 1) (gW g (nI c0) l) e (by omega) n2 hg2
    cases c with
    | zero =>
      have hnth : nthL (l :: L) 0 = l := by simp [nthL]
      rw [hnth, Nat.add_zero]
      by_cases hel : e ∈ l
      · have heL : e ∉ L.flatten := fun z => n3 e hel e z rfl
        rw [wOr_out _ _ _ _ heL]
        unfold gW
        rw [if_pos hel]
        exact ⟨fun _ => hel, fun _ => rfl⟩
      · refine ⟨fun q => ?_, fun q => absurd q hel⟩
        exfalso
        by_cases heL : e ∈ L.flatten
        · obtain ⟨p, hp, hep⟩ := List.mem_flatten.mp heL
          obtain ⟨k, hk⟩ := List.getElem?_of_mem hp
          have hkl := (List.getElem?_eq_some_iff.mp hk).1
          have hnk : nthL L k = p := by unfold nthL; simp [List.getD, hk]
          have := (i k hkl).mpr (by rw [hnk]; exact hep)
          rw [this] at q
          have := nI_inj31 (by omega) (by omega) q
          omega
        · rw [wOr_out _ _ _ _ heL] at q
          unfold gW at q
          rw [if_neg hel] at q
          exact hg c0 (Nat.le_refl _) (by omega) q
    | succ c =>
      have hnth : nthL (l :: L) (c + 1) = nthL L c := by simp [nthL]
      rw [hnth, show c0 + (c + 1) = c0 + 1 + c from by omega]
      exact i c (by omega)
section MK
variable {w h : Nat} {f : Nat → Nat → Int32} {tw : Int32}
theorem mk_op (gw : 2 ≤ w) (gw2 : w ≤ 12) (gh : 2 ≤ h) (gh2 : h ≤ 12) : ∀ e, e ≤ nE w h → gGood (nE w h) (nxR w h f tw) (opG (fun e => crB w h f tw e && !ltR w h f tw e) (nxR w h f tw) e) := fun e he => (op_good (nE_le gw2 gh2) (nx_gN gw2 gh2) (nx_gCS gw gw2 gh gh2) e he).1
theorem mk_cs (gw : 2 ≤ w) (gw2 : w ≤ 12) (gh : 2 ≤ h) (gh2 : h ≤ 12) : ∀ e, e ≤ nE w h → gGood (nE w h) (nxR w h f tw) (csG (crB w h f tw) (nxR w h f tw) (opG (fun e => crB w h f tw e && !ltR w h f tw e) (nxR w h f tw) (nE w h)) e) ∧ (opG (fun e => crB w h f tw e && !ltR w h f tw e) (nxR w h f tw) (nE w h)).length ≤ (csG (crB w h f tw) (nxR w h f tw) (opG (fun e => crB w h f tw e && !ltR w h f tw e) (nxR w h f tw) (nE w h)) e).length := fun e he => by
  obtain ⟨a, -, b⟩ := cs_good (nE_le gw2 gh2) (nx_gN (f := f) (tw := tw) gw2 gh2) (nx_gCS gw gw2 gh gh2) e he
  exact ⟨a, b⟩
theorem mk_opE (gw2 : w ≤ 12) (gh2 : h ≤ 12) {nx bf : Nat → Int32} (h1 : ∀ e, e < 264 → nx e = -1) (h2 : ∀ e, e < 264 → bf e = -1) (gw : 2 ≤ w) (gh : 2 ≤ h) : ∀ e, e ≤ nE w h → opL (dlN w h f tw nx (h - 1)) (dlB w h f tw bf (h - 1)) e = opG (fun e => crB w h f tw e && !ltR w h f tw e) (nxR w h f tw) e := by
  refine op_eq (nE_le gw2 gh2) (dl_eq gw2 gh2 h1) (nx_gN gw2 gh2) ?_
  intro z hz
  rw [dl_eq gw2 gh2 h1 z hz, dl_bf gw2 gh2 h2 z hz]
  show (crB w h f tw z && !ltR w h f tw z) = true ↔ _
  rw [Bool.and_eq_true]
  constructor
  · rintro ⟨a, b⟩
    have hl : ltR w h f tw z = false := by cases q : ltR w h f tw z <;> simp_all
    refine ⟨?_, hl⟩
    rcases cr_of gw gw2 gh gh2 hz a with q | q
    · exact q
    · rw [hl] at q; cases q
  · rintro ⟨a, b⟩
    exact ⟨cr_nx a, by rw [b]; rfl⟩
theorem mk_csE (gw : 2 ≤ w) (gw2 : w ≤ 12) (gh : 2 ≤ h) (gh2 : h ≤ 12) {nx : Nat → Int32} (h1 : ∀ e, e < 264 → nx e = -1) : ∀ e, e ≤ nE w h → csL (dlN w h f tw nx (h - 1)) (opG (fun e => crB w h f tw e && !ltR w h f tw e) (nxR w h f tw) (nE w h)) e = csG (crB w h f tw) (nxR w h f tw) (opG (fun e => crB w h f tw e && !ltR w h f tw e) (nxR w h f tw) (nE w h)) e :=
  cs_eq (nE_le gw2 gh2) (dl_eq gw2 gh2 h1) (nx_gN gw2 gh2) (nx_gCS gw gw2 gh gh2)
theorem IA_make {L : List (List Nat)} {no : Nat} (a : IA w h tw f L no) : IA w h tw f (mkL w h f tw) (mkO w h f tw).length := by
  obtain ⟨a1, a2, a3, a4, a5, a6, -⟩ := a
  obtain ⟨g, hl⟩ := mk_cs (f := f) (tw := tw) a1 a2 a3 a4 (nE w h) (Nat.le_refl _)
  exact ⟨a1, a2, a3, a4, a5, a6, (g.gd (nE_le a2 a4)).1, hl, g.1, g.2.1⟩
theorem IC_make {L : List (List Nat)} {no : Nat} {sm od st ow ow' : Nat → Int32} (a : IA w h tw f L no) (c : IC w h f L sm od st ow) (h0 : ∀ e, e < 264 → ow' e = -1) : IC w h f (mkL w h f tw) sm (oA od (mkL w h f tw)) (sA st (mkL w h f tw)) (wO ow' (mkL w h f tw)) := by
  have a' := IA_make a
  refine ⟨c.1, by unfold sA; rw [if_neg (by omega)]; exact c.2.1, sA_len c.2.1, oA_in, fun k hk e he => ?_⟩
  have hl : (mkL w h f tw).length ≤ 132 := a'.2.2.2.2.2.2.1
  have := wOr_in (mkL w h f tw) 0 ow' e (by omega) a'.2.2.2.2.2.2.2.2.1 (fun k _ hk2 q => by rw [h0 e he] at q; exact nI_nm1 (by omega) q.symm) k hk
  rw [Nat.zero_add] at this
  exact this
theorem IR_make {L : List (List Nat)} {no : Nat} {sm od st cl : Nat → Int32} (a : IA w h tw f L no) (c : IR w h f L no sm od st cl) : IR w h f (mkL w h f tw) (mkO w h f tw).length sm (oA od (mkL w h f tw)) (sA (upd st 0 0) (mkL w h f tw)) (zA (zA cl 0 (mkO w h f tw).length (bI false)) (mkO w h f tw).length (mkL w h f tw).length (bI true)) := by
  have a' := IA_make a
  refine ⟨c.1, sA_len (by simp [upd]), oA_in, fun i hi => ?_⟩
  unfold zA
  by_cases q : (mkO w h f tw).length ≤ i
  · rw [if_pos ⟨q, hi⟩, decide_eq_true q]
  · rw [if_neg (fun z => q z.1), if_pos ⟨Nat.zero_le _, by omega⟩, decide_eq_false q]
end MK
