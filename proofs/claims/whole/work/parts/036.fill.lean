set_option maxHeartbeats 4000000 in
set_option maxRecDepth 100000 in
/-- Arrays.fill(int[], int) -/
theorem c_fill (l : Launch) (D : va_G) (cI : ClassId) (a n0 : Nat) (f : Nat → Int32) (v : Int32) (gn : n0 < 2 ^ 30) : wvMet l yJ7_fill_53178 wsJ7_fill_53178 ({ frames := 0, cells := 0, slots := 0, locals := 0 } : Room) D [(a, .inl (cI, n0, .inl f))] [(a, .inl (cI, n0, .inl (filF n0 v f)))] [(cI, .int)] [.ref a, .int v] := by
  refine Met.ofW (cc := cJ7_fill_53178) (maxL := 4) (ret := none) (by decide) rfl ?_
  intro p e s m args below meth c s₁ B hml hv
  obtain ⟨rfl, hP, hK, hD0⟩ := hv
  have hx := B.exec
  have hb := B.bytes
  have hr := B.returns
  have hts := atoms_spec (ws := wsJ7_fill_53178) B.pre
  have hlocks := B.notSynchronized
  have hD := wA_D hD0
  have hS : va_S (wA [(a, .inl (cI, n0, .inl f))]) s.heap s.heap [] := va_S.rf
  have hP : va_P D vwCl [(a, .inl (cI, n0, .inl f))] s.heap := hP
  have hl := lv_entry ([.ref a, .int v]) (n := 4) (Nat.le_of_ble_eq_true rfl)
  rw [lg_entry_eq]
  generalize (lg_sl ([.ref a, .int v]) ++ List.replicate (4 - (lg_sl ([.ref a, .int v])).length) Slot.unset).toArray = ls at hl ⊢
  have hl : lv_has ls 4 [(0, .ref a), (1, .int v)] := hl
  have lp : ∀ (n j : Nat), j ≤ n0 → n0 + 1 ≤ j + n → ∀ (H : Heap) (locs : List Loc) (ls : Array Slot), va_P D vwCl [(a, .inl (cI, n0, .inl (filF j v f)))] H → va_D (wA [(a, .inl (cI, n0, .inl f))]) [(a, .inl (cI, n0, .inl (filF j v f)))] → va_S (wA [(a, .inl (cI, n0, .inl f))]) s.heap H locs → lv_has ls 4 [(2, .int (nI j)), (3, .int (nI n0)), (0, .ref a), (1, .int v)] → W p l e (headSpec wsJ7_fill_53178 ({ frames := 0, cells := 0, slots := 0, locals := 0 } : Room)).room s m ([.ref a, .int v] : List Value).toArray below meth c H locs 0 0 (MQ below (va_Qv (fun _ : Unit => True) (wB D [(a, .inl (cI, n0, .inl f))] [(a, .inl (cI, n0, .inl (filF n0 v f)))] [(cI, .int)]) (wA [(a, .inl (cI, n0, .inl f))])) ([.ref a, .int v] : List Value).toArray s 0 0 (wA [(a, .inl (cI, n0, .inl f))])) (F0 m 5 ls []) := by
    intro n
    induction n with
    | zero =>
      intro j hj hn
      exact absurd hn (by omega)
    | succ n ih =>
      intro j hj hn H locs ls hP hD hS hl
      refine lv_iload_n hx hb dJ7_fill_53178_5 rfl (lv_at hl 0 rfl) ?_
      refine lv_iload_n hx hb dJ7_fill_53178_6 rfl (lv_at hl 1 rfl) ?_
      refine lv_icmp_ge (tgt := 20) hx hb dJ7_fill_53178_7 (by decide) (fun c7 => ?_) (fun c7 => ?_)
      · have hj2 : j = n0 := by have := le_n c7 (by omega) (by omega); omega
        subst hj2
        exact W.vret hx hb hr (fun t ht hW => ⟨⟨(), rfl, trivial, by rw [ht]; exact hP, va_K.moved hW.alike hK, hD⟩, hS.F ht⟩) hS.2.2 dJ7_fill_53178_20
      · have hj2 : j < n0 := nle_n c7 (by omega) (by omega)
        refine lv_aload_n hx hb dJ7_fill_53178_10 rfl (lv_at hl 2 rfl) ?_
        refine lv_iload_n hx hb dJ7_fill_53178_11 rfl (lv_at hl 0 rfl) ?_
        refine lv_iload_n hx hb dJ7_fill_53178_12 rfl (lv_at hl 3 rfl) ?_
        refine an_iast (D := D) hx hb hK hP hD hS 0 0 rfl rfl (k := j) hj2 (by omega) dJ7_fill_53178_13 (fun H locs hP hD hS => ?_)
        have hP : va_P D vwCl [(a, .inl (cI, n0, .inl (upd (filF j v f) j v)))] H := hP
        have hD : va_D (wA [(a, .inl (cI, n0, .inl f))]) [(a, .inl (cI, n0, .inl (upd (filF j v f) j v)))] := hD
        rw [filF_s] at hP hD
        refine lv_iinc (v := (nI (j + 1))) (lv' := [(2, .int (nI (j + 1))), (3, .int (nI n0)), (0, .ref a), (1, .int v)]) hx hb dJ7_fill_53178_14 hl (k := 0) rfl (nI_p1 _) (by decide) rfl (fun ls hl => ?_)
        refine lv_goto (tgt := 5) hx hb dJ7_fill_53178_17 (by decide) ?_
        exact ih (j + 1) hj2 (by omega) _ _ _ hP hD hS hl
  refine lv_iconst (v := 0) hx hb dJ7_fill_53178_0 (by decide) ?_
  refine lv_istore_n (lv' := [(2, .int 0), (0, .ref a), (1, .int v)]) hx hb dJ7_fill_53178_1 rfl hl (by decide) rfl (fun ls hl => ?_)
  refine lv_aload_n hx hb dJ7_fill_53178_2 rfl (lv_at hl 1 rfl) ?_
  refine va_alen (D := D) (v := nI n0) hx hb hK hP 0 0 rfl rfl rfl dJ7_fill_53178_3 ?_
  refine lv_istore_n (lv' := [(3, .int (nI n0)), (2, .int 0), (0, .ref a), (1, .int v)]) hx hb dJ7_fill_53178_4 rfl hl (by decide) rfl (fun ls hl => ?_)
  refine lp (n0 + 1) 0 (Nat.zero_le _) (by omega) _ _ _ ?_ ?_ hS (lv_sub hl [1, 0, 2, 3] rfl)
  · rw [filF_0]; exact hP
  · rw [filF_0]; exact hD
