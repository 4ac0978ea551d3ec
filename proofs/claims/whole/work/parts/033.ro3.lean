set_option maxHeartbeats 4000000 in
set_option maxRecDepth 100000 in
theorem c_X0_exitFrom (l : Launch) (D : va_G) (a : Nat) (k : Nat) (t : Nat) (ga : a < 16) (gk : k < 4) (gt : t < 4) : roMet l yX0_exitFrom wsX0_exitFrom ({ frames := 2, cells := 0, slots := 0, locals := 42 } : Room) D [] [] [.int (nI a), .int (nI k), .int (nI t)] (fun r => r = nI (exA a k t)) := by
  refine Met.ofW (cc := cX0_exitFrom) (maxL := 5) (ret := (some .int)) (by decide) rfl ?_
  intro p e s m args below meth c s₁ B hml hv
  obtain ⟨rfl, hP, hK⟩ := hv
  have hx := B.exec
  have hb := B.bytes
  have hr := B.returns
  have hts := atoms_spec (ws := wsX0_exitFrom) B.pre
  have hown : s.vm.findClass RX0 = some m.cls := findClass_of_methodNamed B.named
  have hlocks := B.notSynchronized
  have hS : va_S (fun _ => False) s.heap s.heap [] := va_S.rf
  have hP : va_P D vwCl [] s.heap := hP
  have hl := lv_entry ([.int (nI a), .int (nI k), .int (nI t)]) (n := 5) (Nat.le_of_ble_eq_true rfl)
  rw [lg_entry_eq]
  generalize (lg_sl ([.int (nI a), .int (nI k), .int (nI t)]) ++ List.replicate (5 - (lg_sl ([.int (nI a), .int (nI k), .int (nI t)])).length) Slot.unset).toArray = ls at hl ⊢
  have hl : lv_has ls 5 [(0, .int (nI a)), (1, .int (nI k)), (2, .int (nI t))] := hl
  have lp : ∀ (n : Nat) (j : Nat) (s0 : Nat), (j ≤ 4) → (5 ≤ j + n) → (s0 < 4) → (exL (4 - j) a s0 t = exA a k t) → ∀ (H : Heap) (locs : List Loc) (ls : Array Slot), va_P D vwCl [] H → va_S (fun _ => False) s.heap H locs → lv_has ls 5 [(3, .int (nI s0)), (4, .int (nI j)), (0, .int (nI a)), (1, .int (nI k)), (2, .int (nI t))] → W p l e (headSpec wsX0_exitFrom ({ frames := 2, cells := 0, slots := 0, locals := 42 } : Room)).room s m ([.int (nI a), .int (nI k), .int (nI t)]).toArray below meth c H locs 0 0 (MQ below (va_Qi (fun r (_ : Unit) => r = nI (exA a k t)) (fun _ _ => True) (fun _ => False)) ([.int (nI a), .int (nI k), .int (nI t)]).toArray s 0 0 (fun _ => False)) (F0 m 9 ls []) := by
    intro n
    induction n with
    | zero =>
      intro j s0 hj hn hs0 he
      exact absurd hn (by omega)
    | succ n ih =>
      intro j s0 hj hn hs0 he H locs ls hP hS hl
      refine lv_iload hx hb dX0_exitFrom_9 (lv_at hl 1 rfl) ?_
      refine lv_iconst (v := 4) hx hb dX0_exitFrom_11 (by decide) ?_
      refine lv_icmp_ge (tgt := 35) hx hb dX0_exitFrom_12 (by decide) (fun c12 => ?_) (fun c12 => ?_)
      · refine lv_iload_n hx hb dX0_exitFrom_35 rfl (lv_at hl 0 rfl) ?_
        exact W.iret (v := nI s0) hx hb hr (fun t ht hW => ⟨⟨_, (), rfl, by rw [← he, exL_0 (by have := le_n (a := 4) c12 (by decide) (by omega); omega)], trivial⟩, hS.F ht⟩) hS.2.2 dX0_exitFrom_36
      · refine lv_iload_n hx hb dX0_exitFrom_15 rfl (lv_at hl 2 rfl) ?_
        refine lv_iload_n hx hb dX0_exitFrom_16 rfl (lv_at hl 0 rfl) ?_
        refine ro_S2 ⟨hx, hb, hml, hown, hts⟩ (c_X0_leavesAt l D a s0 ga (by omega)) (va_cwS 2 hts gX0_exitFrom_X0_leavesAt rfl rfl rfl (by decide +kernel) ⟨Nat.le_of_ble_eq_true rfl, Nat.le_of_ble_eq_true rfl⟩) (va_P0 D vwCl _) (hK.sub [] rfl) hP hS rfl hl.1 (lv_room (Nat.le_of_ble_eq_true rfl)) dX0_exitFrom_17 ⟨Nat.le_of_ble_eq_true rfl, Nat.le_of_ble_eq_true rfl⟩ (fun r17 H locs hr17 hP hS => ?_)
        subst hr17
        refine lv_if_ne (tgt := 35) hx hb dX0_exitFrom_20 (by decide) (fun c20 => ?_) (fun c20 => ?_)
        · refine lv_iload_n hx hb dX0_exitFrom_35 rfl (lv_at hl 0 rfl) ?_
          exact W.iret (v := nI s0) hx hb hr (fun t ht hW => ⟨⟨_, (), rfl, by rw [← he, exL_t (by have := nle_n (a := 4) c12 (by decide) (by omega); omega) (bI_n0.mp c20)], trivial⟩, hS.F ht⟩) hS.2.2 dX0_exitFrom_36
        · refine lv_iload_n hx hb dX0_exitFrom_23 rfl (lv_at hl 0 rfl) ?_
          refine lv_iload_n hx hb dX0_exitFrom_24 rfl (lv_at hl 4 rfl) ?_
          refine lv_iadd hx hb dX0_exitFrom_25 ?_
          rw [show (nI s0 + nI t) = nI (s0 + t) from nI_add _ _]
          refine lv_iconst (v := 4) hx hb dX0_exitFrom_26 (by decide) ?_
          refine lv_irem hx hb dX0_exitFrom_27 (by decide) ?_
          rw [show (nI (s0 + t) - nI (s0 + t) / 4 * 4) = nI ((s0 + t) % 4) from rem4 (by omega)]
          refine lv_istore_n (lv' := [(3, .int (nI ((s0 + t) % 4))), (4, .int (nI j)), (0, .int (nI a)), (1, .int (nI k)), (2, .int (nI t))]) hx hb dX0_exitFrom_28 rfl hl (by decide) rfl (fun ls hl => ?_)
          refine lv_iinc (v := (nI (j + 1))) (lv' := [(4, .int (nI (j + 1))), (3, .int (nI ((s0 + t) % 4))), (0, .int (nI a)), (1, .int (nI k)), (2, .int (nI t))]) hx hb dX0_exitFrom_29 hl (k := 1) rfl (nI_p1 _) (by decide) rfl (fun ls hl => ?_)
          refine lv_goto (tgt := 9) hx hb dX0_exitFrom_32 (by decide) ?_
          exact ih (j + 1) ((s0 + t) % 4) (by have := nle_n (a := 4) c12 (by decide) (by omega); omega) (by omega) (Nat.mod_lt _ (by decide)) (by rw [← exL_f (n := 4 - j) (by have := nle_n (a := 4) c12 (by decide) (by omega); omega) (bI_0.mp c20)]; exact he) _ _ _ hP hS (lv_sub hl [1, 0, 2, 3, 4] rfl)
  refine lv_iload_n hx hb dX0_exitFrom_0 rfl (lv_at hl 1 rfl) ?_
  refine lv_iload_n hx hb dX0_exitFrom_1 rfl (lv_at hl 2 rfl) ?_
  refine lv_iadd hx hb dX0_exitFrom_2 ?_
  rw [show (nI k + nI t) = nI (k + t) from nI_add _ _]
  refine lv_iconst (v := 4) hx hb dX0_exitFrom_3 (by decide) ?_
  refine lv_irem hx hb dX0_exitFrom_4 (by decide) ?_
  rw [show (nI (k + t) - nI (k + t) / 4 * 4) = nI ((k + t) % 4) from rem4 (by omega)]
  refine lv_istore_n (lv' := [(3, .int (nI ((k + t) % 4))), (0, .int (nI a)), (1, .int (nI k)), (2, .int (nI t))]) hx hb dX0_exitFrom_5 rfl hl (by decide) rfl (fun ls hl => ?_)
  refine lv_iconst (v := 0) hx hb dX0_exitFrom_6 (by decide) ?_
  refine lv_istore (lv' := [(4, .int 0), (3, .int (nI ((k + t) % 4))), (0, .int (nI a)), (1, .int (nI k)), (2, .int (nI t))]) hx hb dX0_exitFrom_7 hl (by decide) rfl (fun ls hl => ?_)
  exact lp 5 0 ((k + t) % 4) (by decide) (by decide) (Nat.mod_lt _ (by decide)) rfl _ _ _ hP hS (lv_sub hl [1, 0, 2, 3, 4] rfl)

set_option maxHeartbeats 4000000 in
set_option maxRecDepth 100000 in
theorem c_X0_cornersAbove (l : Launch) (D : va_G) (o : Nat → Nat) (cI : ClassId) (tw op ch : Int32) (sm nx bf od st ow : Nat → Int32) (w : Nat) (h : Nat) (f : Nat → Nat → Int32) (x : Nat) (y : Nat) (gw2 : w ≤ 12) (gh2 : h ≤ 12) (gf : ∀ x y, x < w → y < h → sm (y * w + x) = f x y) (gx : x + 1 < w) (gy : y + 1 < h) : roMet l yX0_cornersAbove wsX0_cornersAbove ({ frames := 2, cells := 0, slots := 0, locals := 45 } : Room) D (W0 o cI (nI w) (nI h) tw op ch sm nx bf od st ow) [(cI, .int)] [.ref (o 0), .int (nI x), .int (nI y)] (fun r => r = nI (mk4 (crn f tw x y) 4)) := by
  refine Met.ofW (cc := cX0_cornersAbove) (maxL := 5) (ret := (some .int)) (by decide) rfl ?_
  intro p e s m args below meth c s₁ B hml hv
  obtain ⟨rfl, hP, hK⟩ := hv
  have hx := B.exec
  have hb := B.bytes
  have hr := B.returns
  have hts := atoms_spec (ws := wsX0_cornersAbove) B.pre
  have hown : s.vm.findClass RX0 = some m.cls := findClass_of_methodNamed B.named
  have hlocks := B.notSynchronized
  have hin0 : ∀ w ∈ u_ws RX0 TX0 11, w ∈ wsX0_cornersAbove := by decide +kernel
  have hS : va_S (fun _ => False) s.heap s.heap [] := va_S.rf
  have hP : va_P D vwCl (W0 o cI (nI w) (nI h) tw op ch sm nx bf od st ow) s.heap := hP
  have hl := lv_entry ([.ref (o 0), .int (nI x), .int (nI y)]) (n := 5) (Nat.le_of_ble_eq_true rfl)
  rw [lg_entry_eq]
  generalize (lg_sl ([.ref (o 0), .int (nI x), .int (nI y)]) ++ List.replicate (5 - (lg_sl ([.ref (o 0), .int (nI x), .int (nI y)])).length) Slot.unset).toArray = ls at hl ⊢
  have hl : lv_has ls 5 [(0, .ref (o 0)), (1, .int (nI x)), (2, .int (nI y))] := hl
  have lp : ∀ (n : Nat) (j : Nat), (j ≤ 4) → (5 ≤ j + n) → ∀ (H : Heap) (locs : List Loc) (ls : Array Slot), va_P D vwCl (W0 o cI (nI w) (nI h) tw op ch sm nx bf od st ow) H → va_S (fun _ => False) s.heap H locs → lv_has ls 5 [(3, .int (nI (mk4 (crn f tw x y) j))), (4, .int (nI j)), (0, .ref (o 0)), (1, .int (nI x)), (2, .int (nI y))] → W p l e (headSpec wsX0_cornersAbove ({ frames := 2, cells := 0, slots := 0, locals := 45 } : Room)).room s m ([.ref (o 0), .int (nI x), .int (nI y)]).toArray below meth c H locs 0 0 (MQ below (va_Qi (fun r (_ : Unit) => r = nI (mk4 (crn f tw x y) 4)) (fun _ _ => True) (fun _ => False)) ([.ref (o 0), .int (nI x), .int (nI y)]).toArray s 0 0 (fun _ => False)) (F0 m 5 ls []) := by
    intro n
    induction n with
    | zero =>
      intro j hj hn
      exact absurd hn (by omega)
    | succ n ih =>
      intro j hj hn H locs ls hP hS hl
      refine lv_iload hx hb dX0_cornersAbove_5 (lv_at hl 1 rfl) ?_
      refine lv_iconst (v := 4) hx hb dX0_cornersAbove_7 (by decide) ?_
      refine lv_icmp_ge (tgt := 39) hx hb dX0_cornersAbove_8 (by decide) (fun c8 => ?_) (fun c8 => ?_)
      · refine lv_iload_n hx hb dX0_cornersAbove_39 rfl (lv_at hl 0 rfl) ?_
        exact W.iret (v := nI (mk4 (crn f tw x y) j)) hx hb hr (fun t ht hW => ⟨⟨_, (), rfl, by rw [show j = 4 from by have := le_n (a := 4) c8 (by decide) (by omega); omega], trivial⟩, hS.F ht⟩) hS.2.2 dX0_cornersAbove_40
      · refine lv_aload_n hx hb dX0_cornersAbove_11 rfl (lv_at hl 2 rfl) ?_
        refine lv_aload_n hx hb dX0_cornersAbove_12 rfl (lv_at hl 2 rfl) ?_
        refine lv_iload_n hx hb dX0_cornersAbove_13 rfl (lv_at hl 3 rfl) ?_
        refine lv_iload_n hx hb dX0_cornersAbove_14 rfl (lv_at hl 4 rfl) ?_
        refine lv_iload hx hb dX0_cornersAbove_15 (lv_at hl 1 rfl) ?_
        refine ro_V3 ⟨hx, hb, hml, hown, hts⟩ (c_X0_cornerSample l D o cI (nI h) tw op ch sm nx bf od st ow w x y j (by have := nle_n (a := 4) c8 (by decide) (by omega); omega)) (cwV 3 hts gX0_cornersAbove_X0_cornerSample rfl rfl rfl (by decide +kernel) ⟨Nat.le_of_ble_eq_true rfl, Nat.le_of_ble_eq_true rfl⟩) (va_recv hK hP (ci := 0) (q0 := 0) rfl rfl) hP hK hP hS rfl hl.1 (lv_room (Nat.le_of_ble_eq_true rfl)) dX0_cornersAbove_17 ⟨Nat.le_of_ble_eq_true rfl, Nat.le_of_ble_eq_true rfl⟩ (fun r17 H locs hr17 hP hS => ?_)
        subst hr17
        refine ro_V1 ⟨hx, hb, hml, hown, hts⟩ (c_X0_isAbove l D o cI (nI w) (nI h) tw op ch sm nx bf od st ow (cY y j * w + cX x j) (sA_lt gw2 gh2 (cX_lt j gx) (cY_lt j gy))) (cwV 1 hts gX0_cornersAbove_X0_isAbove rfl rfl rfl (by decide +kernel) ⟨Nat.le_of_ble_eq_true rfl, Nat.le_of_ble_eq_true rfl⟩) (va_recv hK hP (ci := 0) (q0 := 0) rfl rfl) hP hK hP hS rfl hl.1 (lv_room (Nat.le_of_ble_eq_true rfl)) dX0_cornersAbove_20 ⟨Nat.le_of_ble_eq_true rfl, Nat.le_of_ble_eq_true rfl⟩ (fun r20 H locs hr20 hP hS => ?_)
        subst hr20
        rw [show (bI (abI tw (sm (cY y j * w + cX x j)))) = bI (crn f tw x y j) from by rw [gf _ _ (cX_lt j gx) (cY_lt j gy)]; rfl]
        refine lv_if_eq (tgt := 33) hx hb dX0_cornersAbove_23 (by decide) (fun c23 => ?_) (fun c23 => ?_)
        · refine lv_iinc (v := (nI (j + 1))) (lv' := [(4, .int (nI (j + 1))), (3, .int (nI (mk4 (crn f tw x y) j))), (0, .ref (o 0)), (1, .int (nI x)), (2, .int (nI y))]) hx hb dX0_cornersAbove_33 hl (k := 1) rfl (nI_p1 _) (by decide) rfl (fun ls hl => ?_)
          refine lv_goto (tgt := 5) hx hb dX0_cornersAbove_36 (by decide) ?_
          have hm : mk4 (crn f tw x y) (j + 1) = mk4 (crn f tw x y) j := by simp [mk4, bI_0.mp c23]
          rw [← hm] at hl
          exact ih (j + 1) (by have := nle_n (a := 4) c8 (by decide) (by omega); omega) (by omega) _ _ _ hP hS (lv_sub hl [1, 0, 2, 3, 4] rfl)
        · refine lv_iload_n hx hb dX0_cornersAbove_26 rfl (lv_at hl 0 rfl) ?_
          refine lv_iconst (v := 1) hx hb dX0_cornersAbove_27 (by decide) ?_
          refine lv_iload hx hb dX0_cornersAbove_28 (lv_at hl 1 rfl) ?_
          refine lv_ishl hx hb dX0_cornersAbove_30 ?_
          refine lv_ior hx hb dX0_cornersAbove_31 ?_
          rw [show (nI (mk4 (crn f tw x y) j) ||| (1 <<< (nI j &&& 31))) = nI (mk4 (crn f tw x y) j + 2 ^ j) from or4 j (by have := nle_n (a := 4) c8 (by decide) (by omega); omega) _ (by have := mk4_lt (crn f tw x y) j; have h9 : 2 ^ j ≤ 2 ^ 3 := Nat.pow_le_pow_right (by decide) (by have := nle_n (a := 4) c8 (by decide) (by omega); omega); omega) (mk4_lt _ _)]
          refine lv_istore_n (lv' := [(3, .int (nI (mk4 (crn f tw x y) j + 2 ^ j))), (4, .int (nI j)), (0, .ref (o 0)), (1, .int (nI x)), (2, .int (nI y))]) hx hb dX0_cornersAbove_32 rfl hl (by decide) rfl (fun ls hl => ?_)
          refine lv_iinc (v := (nI (j + 1))) (lv' := [(4, .int (nI (j + 1))), (3, .int (nI (mk4 (crn f tw x y) j + 2 ^ j))), (0, .ref (o 0)), (1, .int (nI x)), (2, .int (nI y))]) hx hb dX0_cornersAbove_33 hl (k := 1) rfl (nI_p1 _) (by decide) rfl (fun ls hl => ?_)
          refine lv_goto (tgt := 5) hx hb dX0_cornersAbove_36 (by decide) ?_
          have hm : mk4 (crn f tw x y) (j + 1) = mk4 (crn f tw x y) j + 2 ^ j := by simp [mk4, bI_n0.mp c23]
          rw [← hm] at hl
          exact ih (j + 1) (by have := nle_n (a := 4) c8 (by decide) (by omega); omega) (by omega) _ _ _ hP hS (lv_sub hl [1, 0, 2, 3, 4] rfl)
  refine lv_iconst (v := 0) hx hb dX0_cornersAbove_0 (by decide) ?_
  refine lv_istore_n (lv' := [(3, .int 0), (0, .ref (o 0)), (1, .int (nI x)), (2, .int (nI y))]) hx hb dX0_cornersAbove_1 rfl hl (by decide) rfl (fun ls hl => ?_)
  refine lv_iconst (v := 0) hx hb dX0_cornersAbove_2 (by decide) ?_
  refine lv_istore (lv' := [(4, .int 0), (3, .int 0), (0, .ref (o 0)), (1, .int (nI x)), (2, .int (nI y))]) hx hb dX0_cornersAbove_3 hl (by decide) rfl (fun ls hl => ?_)
  exact lp 5 0 (by decide) (by decide) _ _ _ hP hS (lv_sub hl [1, 0, 2, 3, 4] rfl)

set_option maxHeartbeats 4000000 in
set_option maxRecDepth 100000 in
theorem c_X0_greatestDivisor (l : Launch) (D : va_G) (a : Nat) (b : Nat) (ga : a < 2 ^ 31) (gb : b < 2 ^ 31) : roMet l yX0_greatestDivisor wsX0_greatestDivisor ({ frames := 0, cells := 0, slots := 0, locals := 0 } : Room) D [] [] [.int (nI a), .int (nI b)] (fun r => r = nI (euc 64 a b)) := by
  refine Met.ofW (cc := cX0_greatestDivisor) (maxL := 6) (ret := (some .int)) (by decide) rfl ?_
  intro p e s m args below meth c s₁ B hml hv
  obtain ⟨rfl, hP, hK⟩ := hv
  have hx := B.exec
  have hb := B.bytes
  have hr := B.returns
  have hts := atoms_spec (ws := wsX0_greatestDivisor) B.pre
  have hown : s.vm.findClass RX0 = some m.cls := findClass_of_methodNamed B.named
  have hlocks := B.notSynchronized
  have hS : va_S (fun _ => False) s.heap s.heap [] := va_S.rf
  have hP : va_P D vwCl [] s.heap := hP
  have hl := lv_entry ([.int (nI a), .int (nI b)]) (n := 6) (Nat.le_of_ble_eq_true rfl)
  rw [lg_entry_eq]
  generalize (lg_sl ([.int (nI a), .int (nI b)]) ++ List.replicate (6 - (lg_sl ([.int (nI a), .int (nI b)])).length) Slot.unset).toArray = ls at hl ⊢
  have hl : lv_has ls 6 [(0, .int (nI a)), (1, .int (nI b))] := hl
  have lp : ∀ (n : Nat) (j : Nat) (u : Nat) (v : Nat), (j ≤ 64) → (65 ≤ j + n) → (u < 2 ^ 31) → (v < 2 ^ 31) → (euc (64 - j) u v = euc 64 a b) → ∀ (H : Heap) (locs : List Loc) (ls : Array Slot), va_P D vwCl [] H → va_S (fun _ => False) s.heap H locs → lv_has ls 6 [(2, .int (nI u)), (3, .int (nI v)), (4, .int (nI j)), (0, .int (nI a)), (1, .int (nI b))] → W p l e (headSpec wsX0_greatestDivisor ({ frames := 0, cells := 0, slots := 0, locals := 0 } : Room)).room s m ([.int (nI a), .int (nI b)]).toArray below meth c H locs 0 0 (MQ below (va_Qi (fun r (_ : Unit) => r = nI (euc 64 a b)) (fun _ _ => True) (fun _ => False)) ([.int (nI a), .int (nI b)]).toArray s 0 0 (fun _ => False)) (F0 m 7 ls []) := by
    intro n
    induction n with
    | zero =>
      intro j u v hj hn hu hv he
      exact absurd hn (by omega)
    | succ n ih =>
      intro j u v hj hn hu hv he H locs ls hP hS hl
      refine lv_iload hx hb dX0_greatestDivisor_7 (lv_at hl 2 rfl) ?_
      refine lv_bipush (v := 64) hx hb dX0_greatestDivisor_9 (by decide) ?_
      refine lv_icmp_ge (tgt := 34) hx hb dX0_greatestDivisor_11 (by decide) (fun c11 => ?_) (fun c11 => ?_)
      · refine lv_iload_n hx hb dX0_greatestDivisor_34 rfl (lv_at hl 0 rfl) ?_
        exact W.iret (v := nI u) hx hb hr (fun t ht hW => ⟨⟨_, (), rfl, by rw [← he, euc_0 (Or.inl (by have := le_n (a := 64) c11 (by decide) (by omega); omega))], trivial⟩, hS.F ht⟩) hS.2.2 dX0_greatestDivisor_35
      · refine lv_iload_n hx hb dX0_greatestDivisor_14 rfl (lv_at hl 1 rfl) ?_
        refine lv_if_eq (tgt := 34) hx hb dX0_greatestDivisor_15 (by decide) (fun c15 => ?_) (fun c15 => ?_)
        · refine lv_iload_n hx hb dX0_greatestDivisor_34 rfl (lv_at hl 0 rfl) ?_
          exact W.iret (v := nI u) hx hb hr (fun t ht hW => ⟨⟨_, (), rfl, by rw [← he, euc_0 (Or.inr ((nI_eq hv (by decide)).mp (c15.trans nI_0.symm)))], trivial⟩, hS.F ht⟩) hS.2.2 dX0_greatestDivisor_35
        · refine lv_iload_n hx hb dX0_greatestDivisor_18 rfl (lv_at hl 0 rfl) ?_
          refine lv_iload_n hx hb dX0_greatestDivisor_19 rfl (lv_at hl 1 rfl) ?_
          refine lv_irem hx hb dX0_greatestDivisor_20 c15 ?_
          rw [show (nI u - nI u / nI v * nI v) = nI (u % v) from pk_rem hu (Nat.pos_of_ne_zero (fun z => c15 (by rw [z]; rfl))) hv]
          refine lv_istore (lv' := [(5, .int (nI (u % v))), (2, .int (nI u)), (3, .int (nI v)), (4, .int (nI j)), (0, .int (nI a)), (1, .int (nI b))]) hx hb dX0_greatestDivisor_21 hl (by decide) rfl (fun ls hl => ?_)
          refine lv_iload_n hx hb dX0_greatestDivisor_23 rfl (lv_at hl 2 rfl) ?_
          refine lv_istore_n (lv' := [(2, .int (nI v)), (5, .int (nI (u % v))), (3, .int (nI v)), (4, .int (nI j)), (0, .int (nI a)), (1, .int (nI b))]) hx hb dX0_greatestDivisor_24 rfl hl (by decide) rfl (fun ls hl => ?_)
          refine lv_iload hx hb dX0_greatestDivisor_25 (lv_at hl 1 rfl) ?_
          refine lv_istore_n (lv' := [(3, .int (nI (u % v))), (2, .int (nI v)), (5, .int (nI (u % v))), (4, .int (nI j)), (0, .int (nI a)), (1, .int (nI b))]) hx hb dX0_greatestDivisor_27 rfl hl (by decide) rfl (fun ls hl => ?_)
          refine lv_iinc (v := (nI (j + 1))) (lv' := [(4, .int (nI (j + 1))), (3, .int (nI (u % v))), (2, .int (nI v)), (5, .int (nI (u % v))), (0, .int (nI a)), (1, .int (nI b))]) hx hb dX0_greatestDivisor_28 hl (k := 3) rfl (nI_p1 _) (by decide) rfl (fun ls hl => ?_)
          refine lv_goto (tgt := 7) hx hb dX0_greatestDivisor_31 (by decide) ?_
          exact ih (j + 1) v (u % v) (by have := nle_n (a := 64) c11 (by decide) (by omega); omega) (by omega) hv (Nat.lt_of_lt_of_le (Nat.mod_lt _ (Nat.pos_of_ne_zero (fun z => c15 (by rw [z]; rfl)))) (Nat.le_of_lt hv)) (by rw [← euc_s (n := 64 - j) (by have := nle_n (a := 64) c11 (by decide) (by omega); omega) (fun z => c15 (by rw [z]; rfl))]; exact he) _ _ _ hP hS (lv_sub hl [2, 1, 0, 4, 5] rfl)
  refine lv_iload_n hx hb dX0_greatestDivisor_0 rfl (lv_at hl 0 rfl) ?_
  refine lv_istore_n (lv' := [(2, .int (nI a)), (0, .int (nI a)), (1, .int (nI b))]) hx hb dX0_greatestDivisor_1 rfl hl (by decide) rfl (fun ls hl => ?_)
  refine lv_iload_n hx hb dX0_greatestDivisor_2 rfl (lv_at hl 2 rfl) ?_
  refine lv_istore_n (lv' := [(3, .int (nI b)), (2, .int (nI a)), (0, .int (nI a)), (1, .int (nI b))]) hx hb dX0_greatestDivisor_3 rfl hl (by decide) rfl (fun ls hl => ?_)
  refine lv_iconst (v := 0) hx hb dX0_greatestDivisor_4 (by decide) ?_
  refine lv_istore (lv' := [(4, .int 0), (3, .int (nI b)), (2, .int (nI a)), (0, .int (nI a)), (1, .int (nI b))]) hx hb dX0_greatestDivisor_5 hl (by decide) rfl (fun ls hl => ?_)
  exact lp 65 0 a b (by decide) (by decide) ga gb rfl _ _ _ hP hS (lv_sub hl [2, 1, 0, 3, 4] rfl)

set_option maxHeartbeats 4000000 in
set_option maxRecDepth 100000 in
theorem c_X0_crossed (l : Launch) (D : va_G) (o : Nat → Nat) (cI : ClassId) (tw op ch : Int32) (sm nx bf od st ow : Nat → Int32) (w : Nat) (h : Nat) (f : Nat → Nat → Int32) (gw : 2 ≤ w) (gw2 : w ≤ 12) (gh : 2 ≤ h) (gh2 : h ≤ 12) (gf : ∀ x y, x < w → y < h → sm (y * w + x) = f x y) : roMet l yX0_crossed wsX0_crossed ({ frames := 4, cells := 0, slots := 0, locals := 83 } : Room) D (W0 o cI (nI w) (nI h) tw op ch sm nx bf od st ow) [(cI, .int)] [.ref (o 0)] (fun r => r = nI (cntB (crB w h f tw) (nE w h))) := by
  refine Met.ofW (cc := cX0_crossed) (maxL := 3) (ret := (some .int)) (by decide) rfl ?_
  intro p e s m args below meth c s₁ B hml hv
  obtain ⟨rfl, hP, hK⟩ := hv
  have hx := B.exec
  have hb := B.bytes
  have hr := B.returns
  have hts := atoms_spec (ws := wsX0_crossed) B.pre
  have hown : s.vm.findClass RX0 = some m.cls := findClass_of_methodNamed B.named
  have hlocks := B.notSynchronized
  have hin0 : ∀ w ∈ u_ws RX0 TX0 11, w ∈ wsX0_crossed := by decide +kernel
  have hS : va_S (fun _ => False) s.heap s.heap [] := va_S.rf
  have hP : va_P D vwCl (W0 o cI (nI w) (nI h) tw op ch sm nx bf od st ow) s.heap := hP
  have hl := lv_entry ([.ref (o 0)]) (n := 3) (Nat.le_of_ble_eq_true rfl)
  rw [lg_entry_eq]
  generalize (lg_sl ([.ref (o 0)]) ++ List.replicate (3 - (lg_sl ([.ref (o 0)])).length) Slot.unset).toArray = ls at hl ⊢
  have hl : lv_has ls 3 [(0, .ref (o 0))] := hl
  have lp : ∀ (n : Nat) (e0 : Nat), (e0 ≤ nE w h) → (e0 ≤ 264) → (nE w h + 1 ≤ e0 + n) → ∀ (H : Heap) (locs : List Loc) (ls : Array Slot), va_P D vwCl (W0 o cI (nI w) (nI h) tw op ch sm nx bf od st ow) H → va_S (fun _ => False) s.heap H locs → lv_has ls 3 [(1, .int (nI (cntB (crB w h f tw) e0))), (2, .int (nI e0)), (0, .ref (o 0))] → W p l e (headSpec wsX0_crossed ({ frames := 4, cells := 0, slots := 0, locals := 83 } : Room)).room s m ([.ref (o 0)]).toArray below meth c H locs 0 0 (MQ below (va_Qi (fun r (_ : Unit) => r = nI (cntB (crB w h f tw) (nE w h))) (fun _ _ => True) (fun _ => False)) ([.ref (o 0)]).toArray s 0 0 (fun _ => False)) (F0 m 4 ls []) := by
    intro n
    induction n with
    | zero =>
      intro e0 hj hj2 hn
      exact absurd hn (by omega)
    | succ n ih =>
      intro e0 hj hj2 hn H locs ls hP hS hl
      refine lv_iload_n hx hb dX0_crossed_4 rfl (lv_at hl 1 rfl) ?_
      refine lv_aload_n hx hb dX0_crossed_5 rfl (lv_at hl 2 rfl) ?_
      refine ro_V0 ⟨hx, hb, hml, hown, hts⟩ (c_X0_edgeCount l D o cI tw op ch sm nx bf od st ow w h (by omega) (by omega)) (cwV 0 hts gX0_crossed_X0_edgeCount rfl rfl rfl (by decide +kernel) ⟨Nat.le_of_ble_eq_true rfl, Nat.le_of_ble_eq_true rfl⟩) (va_recv hK hP (ci := 0) (q0 := 0) rfl rfl) hP hK hP hS rfl hl.1 (lv_room (Nat.le_of_ble_eq_true rfl)) dX0_crossed_6 ⟨Nat.le_of_ble_eq_true rfl, Nat.le_of_ble_eq_true rfl⟩ (fun r6 H locs hr6 hP hS => ?_)
      subst hr6
      refine lv_icmp_ge (tgt := 29) hx hb dX0_crossed_9 (by decide) (fun c9 => ?_) (fun c9 => ?_)
      · refine lv_iload_n hx hb dX0_crossed_29 rfl (lv_at hl 0 rfl) ?_
        exact W.iret (v := nI (cntB (crB w h f tw) e0)) hx hb hr (fun t ht hW => ⟨⟨_, (), rfl, by rw [show e0 = nE w h from by have := le_n c9 (by have := nE_le gw2 gh2; omega) (by omega); omega], trivial⟩, hS.F ht⟩) hS.2.2 dX0_crossed_30
      · refine lv_aload_n hx hb dX0_crossed_12 rfl (lv_at hl 2 rfl) ?_
        refine lv_iload_n hx hb dX0_crossed_13 rfl (lv_at hl 1 rfl) ?_
        refine ro_V1 ⟨hx, hb, hml, hown, hts⟩ (c_X0_isCrossed l D o cI tw op ch sm nx bf od st ow w h f e0 gw gw2 gh gh2 gf (nle_n c9 (by have := nE_le gw2 gh2; omega) (by omega))) (cwV 1 hts gX0_crossed_X0_isCrossed rfl rfl rfl (by decide +kernel) ⟨Nat.le_of_ble_eq_true rfl, Nat.le_of_ble_eq_true rfl⟩) (va_recv hK hP (ci := 0) (q0 := 0) rfl rfl) hP hK hP hS rfl hl.1 (lv_room (Nat.le_of_ble_eq_true rfl)) dX0_crossed_14 ⟨Nat.le_of_ble_eq_true rfl, Nat.le_of_ble_eq_true rfl⟩ (fun r14 H locs hr14 hP hS => ?_)
        subst hr14
        refine lv_if_eq (tgt := 23) hx hb dX0_crossed_17 (by decide) (fun c17 => ?_) (fun c17 => ?_)
        · refine lv_iinc (v := (nI (e0 + 1))) (lv' := [(2, .int (nI (e0 + 1))), (1, .int (nI (cntB (crB w h f tw) e0))), (0, .ref (o 0))]) hx hb dX0_crossed_23 hl (k := 1) rfl (nI_p1 _) (by decide) rfl (fun ls hl => ?_)
          refine lv_goto (tgt := 4) hx hb dX0_crossed_26 (by decide) ?_
          rw [← cntB_f (p := crB w h f tw) (bI_0.mp c17)] at hl
          exact ih (e0 + 1) (nle_n c9 (by have := nE_le gw2 gh2; omega) (by omega)) (by have := nE_le gw2 gh2; have h9 := (nle_n c9 (by have := nE_le gw2 gh2; omega) (by omega)); omega) (by omega) _ _ _ hP hS (lv_sub hl [1, 0, 2] rfl)
        · refine lv_iinc (v := (nI (cntB (crB w h f tw) e0 + 1))) (lv' := [(1, .int (nI (cntB (crB w h f tw) e0 + 1))), (2, .int (nI e0)), (0, .ref (o 0))]) hx hb dX0_crossed_20 hl (k := 0) rfl (nI_p1 _) (by decide) rfl (fun ls hl => ?_)
          refine lv_iinc (v := (nI (e0 + 1))) (lv' := [(2, .int (nI (e0 + 1))), (1, .int (nI (cntB (crB w h f tw) e0 + 1))), (0, .ref (o 0))]) hx hb dX0_crossed_23 hl (k := 1) rfl (nI_p1 _) (by decide) rfl (fun ls hl => ?_)
          refine lv_goto (tgt := 4) hx hb dX0_crossed_26 (by decide) ?_
          rw [← cntB_t (p := crB w h f tw) (bI_n0.mp c17)] at hl
          exact ih (e0 + 1) (nle_n c9 (by have := nE_le gw2 gh2; omega) (by omega)) (by have := nE_le gw2 gh2; have h9 := (nle_n c9 (by have := nE_le gw2 gh2; omega) (by omega)); omega) (by omega) _ _ _ hP hS (lv_sub hl [1, 0, 2] rfl)
  refine lv_iconst (v := 0) hx hb dX0_crossed_0 (by decide) ?_
  refine lv_istore_n (lv' := [(1, .int 0), (0, .ref (o 0))]) hx hb dX0_crossed_1 rfl hl (by decide) rfl (fun ls hl => ?_)
  refine lv_iconst (v := 0) hx hb dX0_crossed_2 (by decide) ?_
  refine lv_istore_n (lv' := [(2, .int 0), (1, .int 0), (0, .ref (o 0))]) hx hb dX0_crossed_3 rfl hl (by decide) rfl (fun ls hl => ?_)
  exact lp (nE w h + 1) 0 (Nat.zero_le _) (Nat.zero_le _) (by omega) _ _ _ hP hS (lv_sub hl [1, 0, 2] rfl)
