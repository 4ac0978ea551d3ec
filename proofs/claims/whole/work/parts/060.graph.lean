/-! chains over a next edge that is one to one: pure -/
theorem nI_inj31 {a b : Nat} (ha : a < 2 ^ 31) (hb : b < 2 ^ 31) (h : nI a = nI b) : a = b := (nI_eq ha hb).mp h
/-- a relation from a finite list into itself, one to one backwards, meets every element -/
theorem fin_onto {l : List Nat} (hn : l.Nodup) (R : Nat → Nat → Prop) (hR : ∀ z ∈ l, ∃ a ∈ l, R a z) (hi : ∀ a z z', R a z → R a z' → z = z') : ∀ a ∈ l, ∃ z ∈ l, R a z := by
  have hch : ∀ z : Nat, ∃ a : Nat, z ∈ l → a ∈ l ∧ R a z := by
    intro z
    by_cases hz : z ∈ l
    · obtain ⟨a, h1, h2⟩ := hR z hz
      exact ⟨a, fun _ => ⟨h1, h2⟩⟩
    · exact ⟨0, fun h => absurd h hz⟩
  obtain ⟨g, gs⟩ := Classical.axiomOfChoice hch
  have hmap : ∀ (k : List Nat), k.Nodup → (∀ z ∈ k, z ∈ l) → (k.map g).Nodup := by
    intro k
    induction k with
    | nil => intro _ _; simp
    | cons z k ih =>
      intro hk hs
      rw [List.map_cons, List.nodup_cons]
      have hk2 := List.nodup_cons.mp hk
      refine ⟨?_, ih hk2.2 (fun a ha => hs a (List.mem_cons_of_mem _ ha))⟩
      intro hm
      obtain ⟨z', hz', he⟩ := List.mem_map.mp hm
      have h1 := (gs z (hs z List.mem_cons_self)).2
      have h2 := (gs z' (hs z' (List.mem_cons_of_mem _ hz'))).2
      rw [he] at h2
      have := hi _ _ _ h1 h2
      subst this
      exact hk2.1 hz'
  intro a ha
  have ham : a ∈ l.map g := by
    apply Classical.byContradiction
    intro hna
    have h1 := nd_sub (l.map g) (l.erase a) (hmap l hn (fun z hz => hz)) (fun b hb => by
      obtain ⟨z, hz, rfl⟩ := List.mem_map.mp hb
      have hne : g z ≠ a := fun e => hna (e ▸ hb)
      exact (List.mem_erase_of_ne hne).mpr (gs z hz).1)
    rw [List.length_map, List.length_erase_of_mem ha] at h1
    have := List.length_pos_of_mem ha
    omega
  obtain ⟨z, hz, rfl⟩ := List.mem_map.mp ham
  exact ⟨z, hz, (gs z hz).2⟩
section GR
variable {n : Nat} {N : Nat → Int32}
/-- the next edge: in range, one to one, never the edge itself -/
def gN1 (n : Nat) (N : Nat → Int32) : Prop := (∀ a, a < n → N a = -1 ∨ ∃ b, b < n ∧ N a = nI b) ∧ (∀ a a' b, a < n → a' < n → b < n → N a = nI b → N a' = nI b → a = a') ∧ (∀ a, a < n → ¬ N a = nI a)
def clB (n : Nat) (N : Nat → Int32) (U : List Nat) : Prop := ∀ a, a < n → ∀ b ∈ U, N a = nI b → a ∈ U
def clF (n : Nat) (N : Nat → Int32) (U : List Nat) : Prop := ∀ a ∈ U, ∀ b, b < n → N a = nI b → b ∈ U
theorem pth_go (hn : n ≤ 264) (g : gN1 n N) : ∀ (fu : Nat) (V : List Nat) (cur : Int32), V.Nodup → (∀ z ∈ V, z < n) → (cur = -1 ∨ ∃ c, c < n ∧ cur = nI c) → n ≤ fu + V.length →
    (V ++ pth fu N V cur).Nodup ∧ (∀ z ∈ pth fu N V cur, z < n) ∧ (∀ z ∈ pth fu N V cur, N z = -1 ∨ ∃ b, b < n ∧ b ∈ V ++ pth fu N V cur ∧ N z = nI b) ∧ (∀ z ∈ pth fu N V cur, cur = nI z ∨ ∃ a ∈ pth fu N V cur, N a = nI z) ∧ (∀ c, c < n → cur = nI c → c ∉ V → ∃ r, pth fu N V cur = c :: r ∧ r = pth (fu - 1) N (V ++ [c]) (N c)) := by
  intro fu
  induction fu with
  | zero =>
    intro V cur hV hb hc hl
    rw [pth_0]
    refine ⟨by rw [List.append_nil]; exact hV, fun z h => absurd h List.not_mem_nil, fun z h => absurd h List.not_mem_nil, fun z h => absurd h List.not_mem_nil, ?_⟩
    intro c hcn _ hcV
    exfalso
    have h1 := nd_len (nd_snoc hV hcV) (n := n) (fun a ha => (List.mem_append.mp ha).elim (hb a) (fun h => by rw [List.mem_singleton] at h; omega))
    rw [List.length_append, List.length_singleton] at h1
    omega
  | succ fu ih =>
    intro V cur hV hb hc hl
    rcases hc with rfl | ⟨c, hcn, rfl⟩
    · rw [pth_m]
      refine ⟨by rw [List.append_nil]; exact hV, fun z h => absurd h List.not_mem_nil, fun z h => absurd h List.not_mem_nil, fun z h => absurd h List.not_mem_nil, ?_⟩
      intro c hcn e _
      exact absurd e.symm (nI_nm1 (by omega))
    · by_cases hcV : c ∈ V
      · rw [pth_i (by omega) hcV]
        refine ⟨by rw [List.append_nil]; exact hV, fun z h => absurd h List.not_mem_nil, fun z h => absurd h List.not_mem_nil, fun z h => absurd h List.not_mem_nil, ?_⟩
        intro c' hc' e hn'
        have := nI_inj31 (by omega) (by omega) e
        subst this
        exact absurd hcV hn'
      · rw [pth_s (by omega) hcV]
        have hV2 := nd_snoc hV hcV
        have hb2 : ∀ z ∈ V ++ [c], z < n := fun a ha => (List.mem_append.mp ha).elim (hb a) (fun h => by rw [List.mem_singleton] at h; omega)
        obtain ⟨i1, i2, i3, i4, i5⟩ := ih (V ++ [c]) (N c) hV2 hb2 (g.1 c hcn) (by rw [List.length_append, List.length_singleton]; omega)
        rw [List.append_assoc] at i1
        have i1 : (V ++ c :: pth fu N (V ++ [c]) (N c)).Nodup := i1
        refine ⟨i1, ?_, ?_, ?_, ?_⟩
        · intro z hz
          rcases List.mem_cons.mp hz with rfl | hz
          · exact hcn
          · exact i2 z hz
        · intro z hz
          rcases List.mem_cons.mp hz with rfl | hz
          · rcases g.1 z hcn with h | ⟨b, hbn, h⟩
            · exact Or.inl h
            · right
              refine ⟨b, hbn, ?_, h⟩
              by_cases hbV : b ∈ V ++ [z]
              · rcases List.mem_append.mp hbV with q | q
                · exact List.mem_append_left _ q
                · rw [List.mem_singleton] at q; subst q; exact List.mem_append_right _ List.mem_cons_self
              · obtain ⟨r, hr, -⟩ := i5 b hbn h hbV
                exact List.mem_append_right _ (List.mem_cons_of_mem _ (by rw [hr]; exact List.mem_cons_self))
          · rcases i3 z hz with h | ⟨b, hbn, hbm, h⟩
            · exact Or.inl h
            · right
              refine ⟨b, hbn, ?_, h⟩
              rw [List.append_assoc] at hbm
              exact hbm
        · intro z hz
          rcases List.mem_cons.mp hz with rfl | hz
          · exact Or.inl rfl
          · rcases i4 z hz with h | ⟨a, ha, h⟩
            · exact Or.inr ⟨c, List.mem_cons_self, h⟩
            · exact Or.inr ⟨a, List.mem_cons_of_mem _ ha, h⟩
        · intro c' hc' e _
          have := nI_inj31 (by omega) (by omega) e
          subst this
          exact ⟨_, rfl, rfl⟩
/-- a chain from an edge that isn't used yet -/
theorem pth_ok (hn : n ≤ 264) (g : gN1 n N) {U : List Nat} {e : Nat} (hU : U.Nodup) (hb : ∀ z ∈ U, z < n) (hB : clB n N U) (he : e < n) (heU : e ∉ U) :
    (U ++ pth 264 N U (nI e)).Nodup ∧ (∀ z ∈ pth 264 N U (nI e), z < n) ∧ (∀ z ∈ pth 264 N U (nI e), N z = -1 ∨ ∃ b, b < n ∧ b ∈ pth 264 N U (nI e) ∧ N z = nI b) ∧ (∀ z ∈ pth 264 N U (nI e), z = e ∨ ∃ a ∈ pth 264 N U (nI e), N a = nI z) ∧ e ∈ pth 264 N U (nI e) ∧ (¬ N e = -1 → 2 ≤ (pth 264 N U (nI e)).length) := by
  obtain ⟨i1, i2, i3, i4, i5⟩ := pth_go hn g 264 U (nI e) hU hb (Or.inr ⟨e, he, rfl⟩) (by omega)
  obtain ⟨r, hr, hr2⟩ := i5 e he rfl heU
  refine ⟨i1, i2, ?_, ?_, by rw [hr]; exact List.mem_cons_self, ?_⟩
  · intro z hz
    rcases i3 z hz with h | ⟨b, hbn, hbm, h⟩
    · exact Or.inl h
    · refine Or.inr ⟨b, hbn, ?_, h⟩
      rcases List.mem_append.mp hbm with q | q
      · have hzU := hB z (i2 z hz) b q h
        exact absurd rfl ((List.nodup_append.mp i1).2.2 z hzU z hz)
      · exact q
  · intro z hz
    rcases i4 z hz with h | h
    · exact Or.inl (nI_inj31 (by omega) (by have := i2 z hz; omega) h).symm
    · exact Or.inr h
  · intro hne
    rcases g.1 e he with h | ⟨b, hbn, h⟩
    · exact absurd h hne
    · have hbU : b ∉ U ++ [e] := by
        intro q
        rcases List.mem_append.mp q with q | q
        · exact heU (hB e he b q h)
        · rw [List.mem_singleton] at q; subst q; exact g.2.2 b he h
      have hV2 := nd_snoc hU heU
      have hb2 : ∀ z ∈ U ++ [e], z < n := fun a ha => (List.mem_append.mp ha).elim (hb a) (fun h => by rw [List.mem_singleton] at h; omega)
      have hl2 := nd_len hV2 hb2
      have hl3 := nd_len (nd_snoc hV2 hbU) (n := n) (fun a ha => (List.mem_append.mp ha).elim (hb2 a) (fun h => by rw [List.mem_singleton] at h; omega))
      obtain ⟨-, -, -, -, j5⟩ := pth_go hn g (264 - 1) (U ++ [e]) (N e) hV2 hb2 (Or.inr ⟨b, hbn, h⟩) (by rw [List.length_append, List.length_singleton] at *; omega)
      obtain ⟨r2, hr3, -⟩ := j5 b hbn h hbU
      rw [hr, hr2, hr3]
      simp
/-- what all chains so far are -/
def gGood (n : Nat) (N : Nat → Int32) (L : List (List Nat)) : Prop := L.flatten.Nodup ∧ (∀ z ∈ L.flatten, z < n) ∧ clB n N L.flatten ∧ clF n N L.flatten ∧ 2 * L.length ≤ L.flatten.length
theorem gGood.gd {L : List (List Nat)} (hn : n ≤ 264) (h : gGood n N L) : gdL L := by
  have h1 := nd_len h.1 h.2.1
  exact ⟨by have := h.2.2.2.2; omega, h.1, fun z hz => by have := h.2.1 z hz; omega⟩
theorem gGood_add (hn : n ≤ 264) (g : gN1 n N) {L : List (List Nat)} {e : Nat} (h : gGood n N L) (he : e < n) (heU : e ∉ L.flatten) (hne : ¬ N e = -1)
    (hpre : ∀ a, a < n → N a = nI e → a ∈ pth 264 N L.flatten (nI e)) : gGood n N (L ++ [pth 264 N L.flatten (nI e)]) := by
  obtain ⟨h1, h2, h3, h4, h5⟩ := h
  obtain ⟨p1, p2, p3, p4, p5, p6⟩ := pth_ok hn g h1 h2 h3 he heU
  unfold gGood
  rw [flat_app]
  refine ⟨p1, fun z hz => (List.mem_append.mp hz).elim (h2 z) (p2 z), ?_, ?_, ?_⟩
  · intro a ha b hb hab
    rcases List.mem_append.mp hb with q | q
    · exact List.mem_append_left _ (h3 a ha b q hab)
    · rcases p4 b q with rfl | ⟨a', ha', h'⟩
      · exact List.mem_append_right _ (hpre a ha hab)
      · have := g.2.1 a a' b ha (p2 a' ha') (p2 b q) hab h'
        subst this
        exact List.mem_append_right _ ha'
  · intro a ha b hb hab
    rcases List.mem_append.mp ha with q | q
    · exact List.mem_append_left _ (h4 a q b hb hab)
    · rcases p3 a q with h' | ⟨b', hb', hm, h'⟩
      · rw [h'] at hab; exact absurd hab.symm (nI_nm1 (by omega))
      · rw [h'] at hab
        have := nI_inj31 (by omega) (by omega) hab
        subst this
        exact List.mem_append_right _ hm
  · have := p6 hne
    rw [List.length_append, List.length_singleton, List.length_append]
    omega
/-- crossed edges C and starts S over the next edge -/
def gCS (n : Nat) (N : Nat → Int32) (C S : Nat → Bool) : Prop := (∀ a, a < n → ¬ N a = -1 → C a = true) ∧ (∀ a b, a < n → b < n → N a = nI b → C b = true) ∧ (∀ z, z < n → (S z = true ↔ C z = true ∧ ∀ a, a < n → ¬ N a = nI z)) ∧ (∀ z, z < n → S z = true → ¬ N z = -1)
theorem gGood_nil : gGood n N [] := by
  refine ⟨by simp, fun z h => by simp at h, fun a _ b hb => by simp at hb, fun a ha => by simp at ha, by simp⟩
theorem op_good (hn : n ≤ 264) (g : gN1 n N) {C S : Nat → Bool} (c : gCS n N C S) : ∀ e, e ≤ n → gGood n N (opG S N e) ∧ (∀ z ∈ (opG S N e).flatten, z < e ∨ ∃ a, a < n ∧ N a = nI z) ∧ (∀ z, z < e → S z = true → z ∈ (opG S N e).flatten) := by
  intro e
  induction e with
  | zero => intro _; exact ⟨gGood_nil, fun z h => by simp [opG] at h, fun z h => by omega⟩
  | succ e ih =>
    intro he
    obtain ⟨i1, i2, i3⟩ := ih (by omega)
    cases hS : S e with
    | false =>
      rw [opG_f hS]
      refine ⟨i1, fun z hz => (i2 z hz).elim (fun q => Or.inl (by omega)) Or.inr, ?_⟩
      intro z hz hs
      rcases Nat.lt_or_ge z e with q | q
      · exact i3 z q hs
      · have : z = e := by omega
        subst this
        rw [hS] at hs; cases hs
    | true =>
      have hs := (c.2.2.1 e (by omega)).mp hS
      have heU : e ∉ (opG S N e).flatten := by
        intro q
        rcases i2 e q with h | ⟨a, ha, h⟩
        · omega
        · exact hs.2 a ha h
      have hne := c.2.2.2 e (by omega) hS
      rw [opG_t hS]
      obtain ⟨p1, p2, p3, p4, p5, p6⟩ := pth_ok hn g i1.1 i1.2.1 i1.2.2.1 (by omega) heU
      refine ⟨gGood_add hn g i1 (by omega) heU hne (fun a ha h => absurd h (hs.2 a ha)), ?_, ?_⟩
      · rw [flat_app]
        intro z hz
        rcases List.mem_append.mp hz with q | q
        · exact (i2 z q).elim (fun q => Or.inl (by omega)) Or.inr
        · rcases p4 z q with rfl | ⟨a, ha, h⟩
          · exact Or.inl (by omega)
          · exact Or.inr ⟨a, p2 a ha, h⟩
      · rw [flat_app]
        intro z hz hsz
        rcases Nat.lt_or_ge z e with q | q
        · exact List.mem_append_left _ (i3 z q hsz)
        · have : z = e := by omega
          subst this
          exact List.mem_append_right _ p5
/-- behind the open chains every crossed edge without a next one is used -/
theorem op_ends (hn : n ≤ 264) (g : gN1 n N) {C S : Nat → Bool} (c : gCS n N C S) : ∀ z, z < n → C z = true → N z = -1 → z ∈ (opG S N n).flatten := by
  obtain ⟨i1, i2, i3⟩ := op_good hn g c n (Nat.le_refl _)
  intro z hz hC hN
  apply Classical.byContradiction
  intro hzU
  let l := (List.range n).filter (fun a => C a && decide (a ∉ (opG S N n).flatten))
  have hl : l.Nodup := List.nodup_range.filter _
  have hml : ∀ a, a ∈ l ↔ a < n ∧ C a = true ∧ a ∉ (opG S N n).flatten := by
    intro a
    simp [l, List.mem_filter]
  have hR : ∀ b ∈ l, ∃ a ∈ l, N a = nI b := by
    intro b hb
    obtain ⟨h1, h2, h3⟩ := (hml b).mp hb
    have hns : ¬ S b = true := fun q => h3 (i3 b h1 q)
    have hex : ∃ a, a < n ∧ N a = nI b := by
      apply Classical.byContradiction
      intro q
      exact hns ((c.2.2.1 b h1).mpr ⟨h2, fun a ha h => q ⟨a, ha, h⟩⟩)
    obtain ⟨a, ha, h⟩ := hex
    refine ⟨a, (hml a).mpr ⟨ha, c.1 a ha (by rw [h]; exact nI_nm1 (by omega)), ?_⟩, h⟩
    intro q
    exact h3 (i1.2.2.2.1 a q b h1 h)
  obtain ⟨b, hb, h⟩ := fin_onto (l := l) hl (fun a b => N a = nI b ∧ b < n) (fun b hb => by obtain ⟨a, h1, h2⟩ := hR b hb; exact ⟨a, h1, h2, ((hml b).mp hb).1⟩) (fun a z z' h1 h2 => nI_inj31 (by omega) (by omega) (h1.1.symm.trans h2.1)) z ((hml z).mpr ⟨hz, hC, hzU⟩)
  rw [hN] at h
  exact absurd h.1.symm (nI_nm1 (by omega))
theorem cs_good (hn : n ≤ 264) (g : gN1 n N) {C S : Nat → Bool} (c : gCS n N C S) : ∀ e, e ≤ n → gGood n N (csG C N (opG S N n) e) ∧ (∀ z ∈ (opG S N n).flatten, z ∈ (csG C N (opG S N n) e).flatten) ∧ (opG S N n).length ≤ (csG C N (opG S N n) e).length := by
  intro e
  induction e with
  | zero => intro _; exact ⟨(op_good hn g c n (Nat.le_refl _)).1, fun z h => h, Nat.le_refl _⟩
  | succ e ih =>
    intro he
    obtain ⟨i1, i2, i3⟩ := ih (by omega)
    by_cases hh : C e = true ∧ e ∉ (csG C N (opG S N n) e).flatten
    · rw [csG_t hh.1 hh.2]
      have hne : ¬ N e = -1 := fun q => hh.2 (i2 e (op_ends hn g c e (by omega) hh.1 q))
      obtain ⟨p1, p2, p3, p4, p5, p6⟩ := pth_ok hn g i1.1 i1.2.1 i1.2.2.1 (by omega) hh.2
      have hstep : ∀ z ∈ pth 264 N (csG C N (opG S N n) e).flatten (nI e), ∃ b, b < n ∧ b ∈ pth 264 N (csG C N (opG S N n) e).flatten (nI e) ∧ N z = nI b := by
        intro z hz
        rcases p3 z hz with h | h
        · exfalso
          rcases p4 z hz with rfl | ⟨a, ha, h'⟩
          · exact hne h
          · have hCz := c.2.1 a z (p2 a ha) (p2 z hz) h'
            have hzU := i2 z (op_ends hn g c z (p2 z hz) hCz h)
            exact absurd rfl ((List.nodup_append.mp p1).2.2 z hzU z hz)
        · exact h
      have hpre : ∀ a, a < n → N a = nI e → a ∈ pth 264 N (csG C N (opG S N n) e).flatten (nI e) := by
        intro a ha h
        have hnd : (pth 264 N (csG C N (opG S N n) e).flatten (nI e)).Nodup := (List.nodup_append.mp p1).2.1
        obtain ⟨a', ha', h'⟩ := fin_onto hnd (fun b z => N z = nI b ∧ b < n ∧ z < n) (fun z hz => by
          obtain ⟨b, hb, hm, h⟩ := hstep z hz
          exact ⟨b, hm, h, hb, p2 z hz⟩) (fun b z z' h1 h2 => g.2.1 z z' b h1.2.2 h2.2.2 h1.2.1 h1.1 h2.1) e p5
        have := g.2.1 a a' e ha h'.2.2 h'.2.1 h h'.1
        subst this
        exact ha'
      refine ⟨gGood_add hn g i1 (by omega) hh.2 hne hpre, ?_, by rw [List.length_append, List.length_singleton]; omega⟩
      rw [flat_app]
      exact fun z hz => List.mem_append_left _ (i2 z hz)
    · have hf : C e = false ∨ e ∈ (csG C N (opG S N n) e).flatten := by
        rcases Bool.eq_false_or_eq_true (C e) with q | q
        · right
          apply Classical.byContradiction
          exact fun z => hh ⟨q, z⟩
        · exact Or.inl q
      rw [csG_f hf]
      exact ⟨i1, i2, i3⟩
/-- the class's chains are the reference's -/
theorem pth_cg {M : Nat → Int32} (hn : n ≤ 264) (hM : ∀ a, a < n → M a = N a) (g : gN1 n N) : ∀ (fu : Nat) (V : List Nat) (cur : Int32), (cur = -1 ∨ ∃ c, c < n ∧ cur = nI c) → pth fu M V cur = pth fu N V cur := by
  intro fu
  induction fu with
  | zero => intro V cur _; rfl
  | succ fu ih =>
    intro V cur hc
    rcases hc with rfl | ⟨c, hcn, rfl⟩
    · rw [pth_m, pth_m]
    · by_cases hcV : c ∈ V
      · rw [pth_i (by omega) hcV, pth_i (by omega) hcV]
      · rw [pth_s (by omega) hcV, pth_s (by omega) hcV, hM c hcn, ih _ _ (g.1 c hcn)]
theorem op_eq {M B : Nat → Int32} {S : Nat → Bool} (hn : n ≤ 264) (hM : ∀ a, a < n → M a = N a) (g : gN1 n N) (hS : ∀ z, z < n → (S z = true ↔ ¬ M z = -1 ∧ B z = -1)) : ∀ e, e ≤ n → opL M B e = opG S N e := by
  intro e
  induction e with
  | zero => intro _; rfl
  | succ e ih =>
    intro he
    have i := ih (by omega)
    cases h : S e with
    | true =>
      have hs := (hS e (by omega)).mp h
      rw [opL_t hs.1 hs.2, opG_t h, i, pth_cg hn hM g 264 _ _ (Or.inr ⟨e, by omega, rfl⟩)]
    | false =>
      rw [opG_f h, opL_f, i]
      apply Classical.byContradiction
      intro q
      have : S e = true := (hS e (by omega)).mpr ⟨fun z => q (Or.inl z), Classical.not_not.mp (fun z => q (Or.inr z))⟩
      rw [h] at this; cases this
theorem cs_eq {M : Nat → Int32} {C S : Nat → Bool} (hn : n ≤ 264) (hM : ∀ a, a < n → M a = N a) (g : gN1 n N) (c : gCS n N C S) : ∀ e, e ≤ n → csL M (opG S N n) e = csG C N (opG S N n) e := by
  intro e
  induction e with
  | zero => intro _; rfl
  | succ e ih =>
    intro he
    have i := ih (by omega)
    obtain ⟨j1, j2, -⟩ := cs_good hn g c e (by omega)
    by_cases hh : C e = true ∧ e ∉ (csG C N (opG S N n) e).flatten
    · have hne : ¬ N e = -1 := fun q => hh.2 (j2 e (op_ends hn g c e (by omega) hh.1 q))
      rw [csG_t hh.1 hh.2, csL_t (by rw [hM e (by omega)]; exact hne) (by rw [i]; exact hh.2), i, pth_cg hn hM g 264 _ _ (Or.inr ⟨e, by omega, rfl⟩)]
    · have hf : C e = false ∨ e ∈ (csG C N (opG S N n) e).flatten := by
        rcases Bool.eq_false_or_eq_true (C e) with q | q
        · right
          apply Classical.byContradiction
          exact fun z => hh ⟨q, z⟩
        · exact Or.inl q
      rw [csG_f hf, csL_f, i]
      rcases hf with q | q
      · left
        apply Classical.byContradiction
        intro z
        rw [hM e (by omega)] at z
        rw [c.1 e (by omega) z] at q; cases q
      · right; rw [i]; exact q
end GR
