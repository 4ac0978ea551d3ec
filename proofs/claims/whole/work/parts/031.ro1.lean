set_option maxHeartbeats 4000000 in
set_option maxRecDepth 100000 in
theorem c_X0_edgeCount (l : Launch) (D : va_G) (o : Nat → Nat) (cI : ClassId) (tw op ch : Int32) (sm nx bf od st ow : Nat → Int32) (w : Nat) (h : Nat) (gw : 1 ≤ w) (gh : 1 ≤ h) : roMet l yX0_edgeCount wsX0_edgeCount ({ frames := 1, cells := 0, slots := 0, locals := 20 } : Room) D (W0 o cI (nI w) (nI h) tw op ch sm nx bf od st ow) [(cI, .int)] [.ref (o 0)] (fun r => r = nI (nE w h)) := by
  refine Met.ofW (cc := cX0_edgeCount) (maxL := 1) (ret := (some .int)) (by decide) rfl ?_
  intro p e s m args below meth c s₁ B hml hv
  obtain ⟨rfl, hP, hK⟩ := hv
  have hx := B.exec
  have hb := B.bytes
  have hr := B.returns
  have hts := atoms_spec (ws := wsX0_edgeCount) B.pre
  have hown : s.vm.findClass RX0 = some m.cls := findClass_of_methodNamed B.named
  have hlocks := B.notSynchronized
  have hin0 : ∀ w ∈ u_ws RX0 TX0 11, w ∈ wsX0_edgeCount := by decide +kernel
  have hS : va_S (fun _ => False) s.heap s.heap [] := va_S.rf
  have hP : va_P D vwCl (W0 o cI (nI w) (nI h) tw op ch sm nx bf od st ow) s.heap := hP
  have hl := lv_entry ([.ref (o 0)]) (n := 1) (Nat.le_of_ble_eq_true rfl)
  rw [lg_entry_eq]
  generalize (lg_sl ([.ref (o 0)]) ++ List.replicate (1 - (lg_sl ([.ref (o 0)])).length) Slot.unset).toArray = ls at hl ⊢
  have hl : lv_has ls 1 [(0, .ref (o 0))] := hl
  refine lv_aload_n hx hb dX0_edgeCount_0 rfl (lv_at hl 0 rfl) ?_
  refine ro_V0 ⟨hx, hb, hml, hown, hts⟩ (c_X0_rightwardEdges l D o cI tw op ch sm nx bf od st ow w h gw) (cwV 0 hts gX0_edgeCount_X0_rightwardEdges rfl rfl rfl (by decide +kernel) ⟨Nat.le_of_ble_eq_true rfl, Nat.le_of_ble_eq_true rfl⟩) (va_recv hK hP (ci := 0) (q0 := 0) rfl rfl) hP hK hP hS rfl hl.1 (lv_room (Nat.le_of_ble_eq_true rfl)) dX0_edgeCount_1 ⟨Nat.le_of_ble_eq_true rfl, Nat.le_of_ble_eq_true rfl⟩ (fun r1 H locs hr1 hP hS => ?_)
  subst hr1
  refine lv_aload_n hx hb dX0_edgeCount_4 rfl (lv_at hl 0 rfl) ?_
  refine va_get (D := D) (ci := 0) (v := .int (nI h)) (C := RX0) (T := TX0) (N := 11) hx hb hts hin0 hown hK hP 0 rfl rfl 1 (by decide) (hts (.fieldLink RX0 13 "HeightLines" "rows" "I") (by decide +kernel)) (fun _ h9 => h9) rfl dX0_edgeCount_5 ?_
  refine lv_iconst (v := 1) hx hb dX0_edgeCount_8 (by decide) ?_
  refine lv_isub hx hb dX0_edgeCount_9 ?_
  refine lv_aload_n hx hb dX0_edgeCount_10 rfl (lv_at hl 0 rfl) ?_
  refine va_get (D := D) (ci := 0) (v := .int (nI w)) (C := RX0) (T := TX0) (N := 11) hx hb hts hin0 hown hK hP 0 rfl rfl 0 (by decide) (hts (.fieldLink RX0 9 "HeightLines" "columns" "I") (by decide +kernel)) (fun _ h9 => h9) rfl dX0_edgeCount_11 ?_
  refine lv_imul hx hb dX0_edgeCount_14 ?_
  refine lv_iadd hx hb dX0_edgeCount_15 ?_
  exact W.iret (v := ((nI (nR w h)) + (((nI h) - 1) * (nI w)))) hx hb hr (fun t ht hW => ⟨⟨_, (), rfl, by rw [nI_m1 gh, pk_mul, nI_add]; rfl, trivial⟩, hS.F ht⟩) hS.2.2 dX0_edgeCount_16

set_option maxHeartbeats 4000000 in
set_option maxRecDepth 100000 in
theorem c_X0_upwardEdge (l : Launch) (D : va_G) (o : Nat → Nat) (cI : ClassId) (tw op ch : Int32) (sm nx bf od st ow : Nat → Int32) (w : Nat) (h : Nat) (x : Nat) (y : Nat) (gw : 1 ≤ w) : roMet l yX0_upwardEdge wsX0_upwardEdge ({ frames := 1, cells := 0, slots := 0, locals := 20 } : Room) D (W0 o cI (nI w) (nI h) tw op ch sm nx bf od st ow) [(cI, .int)] [.ref (o 0), .int (nI x), .int (nI y)] (fun r => r = nI (nR w h + y * w + x)) := by
  refine Met.ofW (cc := cX0_upwardEdge) (maxL := 3) (ret := (some .int)) (by decide) rfl ?_
  intro p e s m args below meth c s₁ B hml hv
  obtain ⟨rfl, hP, hK⟩ := hv
  have hx := B.exec
  have hb := B.bytes
  have hr := B.returns
  have hts := atoms_spec (ws := wsX0_upwardEdge) B.pre
  have hown : s.vm.findClass RX0 = some m.cls := findClass_of_methodNamed B.named
  have hlocks := B.notSynchronized
  have hin0 : ∀ w ∈ u_ws RX0 TX0 11, w ∈ wsX0_upwardEdge := by decide +kernel
  have hS : va_S (fun _ => False) s.heap s.heap [] := va_S.rf
  have hP : va_P D vwCl (W0 o cI (nI w) (nI h) tw op ch sm nx bf od st ow) s.heap := hP
  have hl := lv_entry ([.ref (o 0), .int (nI x), .int (nI y)]) (n := 3) (Nat.le_of_ble_eq_true rfl)
  rw [lg_entry_eq]
  generalize (lg_sl ([.ref (o 0), .int (nI x), .int (nI y)]) ++ List.replicate (3 - (lg_sl ([.ref (o 0), .int (nI x), .int (nI y)])).length) Slot.unset).toArray = ls at hl ⊢
  have hl : lv_has ls 3 [(0, .ref (o 0)), (1, .int (nI x)), (2, .int (nI y))] := hl
  refine lv_aload_n hx hb dX0_upwardEdge_0 rfl (lv_at hl 0 rfl) ?_
  refine ro_V0 ⟨hx, hb, hml, hown, hts⟩ (c_X0_rightwardEdges l D o cI tw op ch sm nx bf od st ow w h gw) (cwV 0 hts gX0_upwardEdge_X0_rightwardEdges rfl rfl rfl (by decide +kernel) ⟨Nat.le_of_ble_eq_true rfl, Nat.le_of_ble_eq_true rfl⟩) (va_recv hK hP (ci := 0) (q0 := 0) rfl rfl) hP hK hP hS rfl hl.1 (lv_room (Nat.le_of_ble_eq_true rfl)) dX0_upwardEdge_1 ⟨Nat.le_of_ble_eq_true rfl, Nat.le_of_ble_eq_true rfl⟩ (fun r1 H locs hr1 hP hS => ?_)
  subst hr1
  refine lv_iload_n hx hb dX0_upwardEdge_4 rfl (lv_at hl 2 rfl) ?_
  refine lv_aload_n hx hb dX0_upwardEdge_5 rfl (lv_at hl 0 rfl) ?_
  refine va_get (D := D) (ci := 0) (v := .int (nI w)) (C := RX0) (T := TX0) (N := 11) hx hb hts hin0 hown hK hP 0 rfl rfl 0 (by decide) (hts (.fieldLink RX0 9 "HeightLines" "columns" "I") (by decide +kernel)) (fun _ h9 => h9) rfl dX0_upwardEdge_6 ?_
  refine lv_imul hx hb dX0_upwardEdge_9 ?_
  refine lv_iadd hx hb dX0_upwardEdge_10 ?_
  refine lv_iload_n hx hb dX0_upwardEdge_11 rfl (lv_at hl 1 rfl) ?_
  refine lv_iadd hx hb dX0_upwardEdge_12 ?_
  exact W.iret (v := (((nI (nR w h)) + (nI y * (nI w))) + nI x)) hx hb hr (fun t ht hW => ⟨⟨_, (), rfl, by rw [pk_mul, nI_add, nI_add], trivial⟩, hS.F ht⟩) hS.2.2 dX0_upwardEdge_13

set_option maxHeartbeats 4000000 in
set_option maxRecDepth 100000 in
theorem c_X0_firstSample (l : Launch) (D : va_G) (o : Nat → Nat) (cI : ClassId) (tw op ch : Int32) (sm nx bf od st ow : Nat → Int32) (w : Nat) (h : Nat) (e0 : Nat) (gw : 2 ≤ w) (gw2 : w ≤ 12) (gh2 : h ≤ 12) (ge : e0 < 264) : roMet l yX0_firstSample wsX0_firstSample ({ frames := 1, cells := 0, slots := 0, locals := 20 } : Room) D (W0 o cI (nI w) (nI h) tw op ch sm nx bf od st ow) [(cI, .int)] [.ref (o 0), .int (nI e0)] (fun r => r = nI (fS w h e0)) := by
  refine Met.ofW (cc := cX0_firstSample) (maxL := 2) (ret := (some .int)) (by decide) rfl ?_
  intro p e s m args below meth c s₁ B hml hv
  obtain ⟨rfl, hP, hK⟩ := hv
  have hx := B.exec
  have hb := B.bytes
  have hr := B.returns
  have hts := atoms_spec (ws := wsX0_firstSample) B.pre
  have hown : s.vm.findClass RX0 = some m.cls := findClass_of_methodNamed B.named
  have hlocks := B.notSynchronized
  have hin0 : ∀ w ∈ u_ws RX0 TX0 11, w ∈ wsX0_firstSample := by decide +kernel
  have hS : va_S (fun _ => False) s.heap s.heap [] := va_S.rf
  have hP : va_P D vwCl (W0 o cI (nI w) (nI h) tw op ch sm nx bf od st ow) s.heap := hP
  have hl := lv_entry ([.ref (o 0), .int (nI e0)]) (n := 2) (Nat.le_of_ble_eq_true rfl)
  rw [lg_entry_eq]
  generalize (lg_sl ([.ref (o 0), .int (nI e0)]) ++ List.replicate (2 - (lg_sl ([.ref (o 0), .int (nI e0)])).length) Slot.unset).toArray = ls at hl ⊢
  have hl : lv_has ls 2 [(0, .ref (o 0)), (1, .int (nI e0))] := hl
  refine lv_iload_n hx hb dX0_firstSample_0 rfl (lv_at hl 1 rfl) ?_
  refine lv_aload_n hx hb dX0_firstSample_1 rfl (lv_at hl 0 rfl) ?_
  refine ro_V0 ⟨hx, hb, hml, hown, hts⟩ (c_X0_rightwardEdges l D o cI tw op ch sm nx bf od st ow w h (by omega)) (cwV 0 hts gX0_firstSample_X0_rightwardEdges rfl rfl rfl (by decide +kernel) ⟨Nat.le_of_ble_eq_true rfl, Nat.le_of_ble_eq_true rfl⟩) (va_recv hK hP (ci := 0) (q0 := 0) rfl rfl) hP hK hP hS rfl hl.1 (lv_room (Nat.le_of_ble_eq_true rfl)) dX0_firstSample_2 ⟨Nat.le_of_ble_eq_true rfl, Nat.le_of_ble_eq_true rfl⟩ (fun r2 H locs hr2 hP hS => ?_)
  subst hr2
  refine lv_icmp_lt (tgt := 15) hx hb dX0_firstSample_5 (by decide) (fun c5 => ?_) (fun c5 => ?_)
  · refine lv_iload_n hx hb dX0_firstSample_15 rfl (lv_at hl 1 rfl) ?_
    refine lv_iload_n hx hb dX0_firstSample_16 rfl (lv_at hl 1 rfl) ?_
    refine lv_aload_n hx hb dX0_firstSample_17 rfl (lv_at hl 0 rfl) ?_
    refine va_get (D := D) (ci := 0) (v := .int (nI w)) (C := RX0) (T := TX0) (N := 11) hx hb hts hin0 hown hK hP 0 rfl rfl 0 (by decide) (hts (.fieldLink RX0 9 "HeightLines" "columns" "I") (by decide +kernel)) (fun _ h9 => h9) rfl dX0_firstSample_18 ?_
    refine lv_iconst (v := 1) hx hb dX0_firstSample_21 (by decide) ?_
    refine lv_isub hx hb dX0_firstSample_22 ?_
    rw [show ((nI w) - 1) = nI (w - 1) from nI_m1 (by omega)]
    refine lv_idiv hx hb dX0_firstSample_23 (nI_ne0 (by omega) (by omega)) ?_
    refine lv_iadd hx hb dX0_firstSample_24 ?_
    exact W.iret (v := (nI e0 + (nI e0 / nI (w - 1)))) hx hb hr (fun t ht hW => ⟨⟨_, (), rfl, fS_b gw gw2 gh2 ge c5, trivial⟩, hS.F ht⟩) hS.2.2 dX0_firstSample_25
  · refine lv_iload_n hx hb dX0_firstSample_8 rfl (lv_at hl 1 rfl) ?_
    refine lv_aload_n hx hb dX0_firstSample_9 rfl (lv_at hl 0 rfl) ?_
    refine ro_V0 ⟨hx, hb, hml, hown, hts⟩ (c_X0_rightwardEdges l D o cI tw op ch sm nx bf od st ow w h (by omega)) (cwV 0 hts gX0_firstSample_X0_rightwardEdges rfl rfl rfl (by decide +kernel) ⟨Nat.le_of_ble_eq_true rfl, Nat.le_of_ble_eq_true rfl⟩) (va_recv hK hP (ci := 0) (q0 := 0) rfl rfl) hP hK hP hS rfl hl.1 (lv_room (Nat.le_of_ble_eq_true rfl)) dX0_firstSample_10 ⟨Nat.le_of_ble_eq_true rfl, Nat.le_of_ble_eq_true rfl⟩ (fun r10 H locs hr10 hP hS => ?_)
    subst hr10
    refine lv_isub hx hb dX0_firstSample_13 ?_
    exact W.iret (v := (nI e0 - (nI (nR w h)))) hx hb hr (fun t ht hW => ⟨⟨_, (), rfl, fS_a gw2 gh2 ge c5, trivial⟩, hS.F ht⟩) hS.2.2 dX0_firstSample_14

set_option maxHeartbeats 4000000 in
set_option maxRecDepth 100000 in
theorem c_X0_secondSample (l : Launch) (D : va_G) (o : Nat → Nat) (cI : ClassId) (tw op ch : Int32) (sm nx bf od st ow : Nat → Int32) (w : Nat) (h : Nat) (e0 : Nat) (gw : 2 ≤ w) (gw2 : w ≤ 12) (gh2 : h ≤ 12) (ge : e0 < 264) : roMet l yX0_secondSample wsX0_secondSample ({ frames := 2, cells := 0, slots := 0, locals := 41 } : Room) D (W0 o cI (nI w) (nI h) tw op ch sm nx bf od st ow) [(cI, .int)] [.ref (o 0), .int (nI e0)] (fun r => r = nI (sS w h e0)) := by
  refine Met.ofW (cc := cX0_secondSample) (maxL := 2) (ret := (some .int)) (by decide) rfl ?_
  intro p e s m args below meth c s₁ B hml hv
  obtain ⟨rfl, hP, hK⟩ := hv
  have hx := B.exec
  have hb := B.bytes
  have hr := B.returns
  have hts := atoms_spec (ws := wsX0_secondSample) B.pre
  have hown : s.vm.findClass RX0 = some m.cls := findClass_of_methodNamed B.named
  have hlocks := B.notSynchronized
  have hin0 : ∀ w ∈ u_ws RX0 TX0 11, w ∈ wsX0_secondSample := by decide +kernel
  have hS : va_S (fun _ => False) s.heap s.heap [] := va_S.rf
  have hP : va_P D vwCl (W0 o cI (nI w) (nI h) tw op ch sm nx bf od st ow) s.heap := hP
  have hl := lv_entry ([.ref (o 0), .int (nI e0)]) (n := 2) (Nat.le_of_ble_eq_true rfl)
  rw [lg_entry_eq]
  generalize (lg_sl ([.ref (o 0), .int (nI e0)]) ++ List.replicate (2 - (lg_sl ([.ref (o 0), .int (nI e0)])).length) Slot.unset).toArray = ls at hl ⊢
  have hl : lv_has ls 2 [(0, .ref (o 0)), (1, .int (nI e0))] := hl
  refine lv_aload_n hx hb dX0_secondSample_0 rfl (lv_at hl 0 rfl) ?_
  refine lv_iload_n hx hb dX0_secondSample_1 rfl (lv_at hl 1 rfl) ?_
  refine ro_V1 ⟨hx, hb, hml, hown, hts⟩ (c_X0_firstSample l D o cI tw op ch sm nx bf od st ow w h e0 gw gw2 gh2 ge) (cwV 1 hts gX0_secondSample_X0_firstSample rfl rfl rfl (by decide +kernel) ⟨Nat.le_of_ble_eq_true rfl, Nat.le_of_ble_eq_true rfl⟩) (va_recv hK hP (ci := 0) (q0 := 0) rfl rfl) hP hK hP hS rfl hl.1 (lv_room (Nat.le_of_ble_eq_true rfl)) dX0_secondSample_2 ⟨Nat.le_of_ble_eq_true rfl, Nat.le_of_ble_eq_true rfl⟩ (fun r2 H locs hr2 hP hS => ?_)
  subst hr2
  refine lv_iload_n hx hb dX0_secondSample_5 rfl (lv_at hl 1 rfl) ?_
  refine lv_aload_n hx hb dX0_secondSample_6 rfl (lv_at hl 0 rfl) ?_
  refine ro_V0 ⟨hx, hb, hml, hown, hts⟩ (c_X0_rightwardEdges l D o cI tw op ch sm nx bf od st ow w h (by omega)) (cwV 0 hts gX0_secondSample_X0_rightwardEdges rfl rfl rfl (by decide +kernel) ⟨Nat.le_of_ble_eq_true rfl, Nat.le_of_ble_eq_true rfl⟩) (va_recv hK hP (ci := 0) (q0 := 0) rfl rfl) hP hK hP hS rfl hl.1 (lv_room (Nat.le_of_ble_eq_true rfl)) dX0_secondSample_7 ⟨Nat.le_of_ble_eq_true rfl, Nat.le_of_ble_eq_true rfl⟩ (fun r7 H locs hr7 hP hS => ?_)
  subst hr7
  refine lv_icmp_ge (tgt := 17) hx hb dX0_secondSample_10 (by decide) (fun c10 => ?_) (fun c10 => ?_)
  · refine lv_aload_n hx hb dX0_secondSample_17 rfl (lv_at hl 0 rfl) ?_
    refine va_get (D := D) (ci := 0) (v := .int (nI w)) (C := RX0) (T := TX0) (N := 11) hx hb hts hin0 hown hK hP 0 rfl rfl 0 (by decide) (hts (.fieldLink RX0 9 "HeightLines" "columns" "I") (by decide +kernel)) (fun _ h9 => h9) rfl dX0_secondSample_18 ?_
    refine lv_iadd hx hb dX0_secondSample_21 ?_
    exact W.iret (v := ((nI (fS w h e0)) + (nI w))) hx hb hr (fun t ht hW => ⟨⟨_, (), rfl, sS_a gw2 gh2 ge c10, trivial⟩, hS.F ht⟩) hS.2.2 dX0_secondSample_22
  · refine lv_iconst (v := 1) hx hb dX0_secondSample_13 (by decide) ?_
    refine lv_goto (tgt := 21) hx hb dX0_secondSample_14 (by decide) ?_
    refine lv_iadd hx hb dX0_secondSample_21 ?_
    exact W.iret (v := ((nI (fS w h e0)) + 1)) hx hb hr (fun t ht hW => ⟨⟨_, (), rfl, sS_b gw2 gh2 ge c10, trivial⟩, hS.F ht⟩) hS.2.2 dX0_secondSample_22

set_option maxHeartbeats 4000000 in
set_option maxRecDepth 100000 in
theorem c_X0_isCrossed (l : Launch) (D : va_G) (o : Nat → Nat) (cI : ClassId) (tw op ch : Int32) (sm nx bf od st ow : Nat → Int32) (w : Nat) (h : Nat) (f : Nat → Nat → Int32) (e0 : Nat) (gw : 2 ≤ w) (gw2 : w ≤ 12) (gh : 2 ≤ h) (gh2 : h ≤ 12) (gf : ∀ x y, x < w → y < h → sm (y * w + x) = f x y) (ge : e0 < nE w h) : roMet l yX0_isCrossed wsX0_isCrossed ({ frames := 3, cells := 0, slots := 0, locals := 62 } : Room) D (W0 o cI (nI w) (nI h) tw op ch sm nx bf od st ow) [(cI, .int)] [.ref (o 0), .int (nI e0)] (fun r => r = bI (crB w h f tw e0)) := by
  refine Met.ofW (cc := cX0_isCrossed) (maxL := 2) (ret := (some .boolean)) (by decide) rfl ?_
  intro p e s m args below meth c s₁ B hml hv
  obtain ⟨rfl, hP, hK⟩ := hv
  have hx := B.exec
  have hb := B.bytes
  have hr := B.returns
  have hts := atoms_spec (ws := wsX0_isCrossed) B.pre
  have hown : s.vm.findClass RX0 = some m.cls := findClass_of_methodNamed B.named
  have hlocks := B.notSynchronized
  have hin0 : ∀ w ∈ u_ws RX0 TX0 11, w ∈ wsX0_isCrossed := by decide +kernel
  have hS : va_S (fun _ => False) s.heap s.heap [] := va_S.rf
  have hP : va_P D vwCl (W0 o cI (nI w) (nI h) tw op ch sm nx bf od st ow) s.heap := hP
  have hl := lv_entry ([.ref (o 0), .int (nI e0)]) (n := 2) (Nat.le_of_ble_eq_true rfl)
  rw [lg_entry_eq]
  generalize (lg_sl ([.ref (o 0), .int (nI e0)]) ++ List.replicate (2 - (lg_sl ([.ref (o 0), .int (nI e0)])).length) Slot.unset).toArray = ls at hl ⊢
  have hl : lv_has ls 2 [(0, .ref (o 0)), (1, .int (nI e0))] := hl
  refine lv_aload_n hx hb dX0_isCrossed_0 rfl (lv_at hl 0 rfl) ?_
  refine lv_aload_n hx hb dX0_isCrossed_1 rfl (lv_at hl 0 rfl) ?_
  refine lv_iload_n hx hb dX0_isCrossed_2 rfl (lv_at hl 1 rfl) ?_
  refine ro_V1 ⟨hx, hb, hml, hown, hts⟩ (c_X0_firstSample l D o cI tw op ch sm nx bf od st ow w h e0 gw gw2 gh2 (by have := nE_le gw2 gh2; omega)) (cwV 1 hts gX0_isCrossed_X0_firstSample rfl rfl rfl (by decide +kernel) ⟨Nat.le_of_ble_eq_true rfl, Nat.le_of_ble_eq_true rfl⟩) (va_recv hK hP (ci := 0) (q0 := 0) rfl rfl) hP hK hP hS rfl hl.1 (lv_room (Nat.le_of_ble_eq_true rfl)) dX0_isCrossed_3 ⟨Nat.le_of_ble_eq_true rfl, Nat.le_of_ble_eq_true rfl⟩ (fun r3 H locs hr3 hP hS => ?_)
  subst hr3
  refine ro_V1 ⟨hx, hb, hml, hown, hts⟩ (c_X0_isAbove l D o cI (nI w) (nI h) tw op ch sm nx bf od st ow (fS w h e0) ((fS_lt gw gw2 gh gh2 ge).1)) (cwV 1 hts gX0_isCrossed_X0_isAbove rfl rfl rfl (by decide +kernel) ⟨Nat.le_of_ble_eq_true rfl, Nat.le_of_ble_eq_true rfl⟩) (va_recv hK hP (ci := 0) (q0 := 0) rfl rfl) hP hK hP hS rfl hl.1 (lv_room (Nat.le_of_ble_eq_true rfl)) dX0_isCrossed_6 ⟨Nat.le_of_ble_eq_true rfl, Nat.le_of_ble_eq_true rfl⟩ (fun r6 H locs hr6 hP hS => ?_)
  subst hr6
  rw [show (bI (abI tw (sm (fS w h e0)))) = bI (abI tw (fst2 w h f e0)) from by rw [fS_f gw gh gf ge]]
  refine lv_aload_n hx hb dX0_isCrossed_9 rfl (lv_at hl 0 rfl) ?_
  refine lv_aload_n hx hb dX0_isCrossed_10 rfl (lv_at hl 0 rfl) ?_
  refine lv_iload_n hx hb dX0_isCrossed_11 rfl (lv_at hl 1 rfl) ?_
  refine ro_V1 ⟨hx, hb, hml, hown, hts⟩ (c_X0_secondSample l D o cI tw op ch sm nx bf od st ow w h e0 gw gw2 gh2 (by have := nE_le gw2 gh2; omega)) (cwV 1 hts gX0_isCrossed_X0_secondSample rfl rfl rfl (by decide +kernel) ⟨Nat.le_of_ble_eq_true rfl, Nat.le_of_ble_eq_true rfl⟩) (va_recv hK hP (ci := 0) (q0 := 0) rfl rfl) hP hK hP hS rfl hl.1 (lv_room (Nat.le_of_ble_eq_true rfl)) dX0_isCrossed_12 ⟨Nat.le_of_ble_eq_true rfl, Nat.le_of_ble_eq_true rfl⟩ (fun r12 H locs hr12 hP hS => ?_)
  subst hr12
  refine ro_V1 ⟨hx, hb, hml, hown, hts⟩ (c_X0_isAbove l D o cI (nI w) (nI h) tw op ch sm nx bf od st ow (sS w h e0) ((fS_lt gw gw2 gh gh2 ge).2)) (cwV 1 hts gX0_isCrossed_X0_isAbove rfl rfl rfl (by decide +kernel) ⟨Nat.le_of_ble_eq_true rfl, Nat.le_of_ble_eq_true rfl⟩) (va_recv hK hP (ci := 0) (q0 := 0) rfl rfl) hP hK hP hS rfl hl.1 (lv_room (Nat.le_of_ble_eq_true rfl)) dX0_isCrossed_15 ⟨Nat.le_of_ble_eq_true rfl, Nat.le_of_ble_eq_true rfl⟩ (fun r15 H locs hr15 hP hS => ?_)
  subst hr15
  rw [show (bI (abI tw (sm (sS w h e0)))) = bI (abI tw (snd2 w h f e0)) from by rw [sS_f gw gh gf ge]]
  refine lv_icmp_eq (tgt := 25) hx hb dX0_isCrossed_18 (by decide) (fun c18 => ?_) (fun c18 => ?_)
  · refine lv_iconst (v := 0) hx hb dX0_isCrossed_25 (by decide) ?_
    exact W.zret (v := 0) (ty := .boolean) hx hb hr rfl (fun t ht hW => ⟨⟨_, (), rfl, bI_z (by unfold crB; rw [bI_inj.mp c18]; simp), trivial⟩, hS.F ht⟩) hS.2.2 dX0_isCrossed_26
  · refine lv_iconst (v := 1) hx hb dX0_isCrossed_21 (by decide) ?_
    refine lv_goto (tgt := 26) hx hb dX0_isCrossed_22 (by decide) ?_
    exact W.zret (v := 1) (ty := .boolean) hx hb hr rfl (fun t ht hW => ⟨⟨_, (), rfl, bI_1 (bne_iff_ne.mpr (fun z => c18 (by rw [z]))), trivial⟩, hS.F ht⟩) hS.2.2 dX0_isCrossed_26

set_option maxHeartbeats 4000000 in
set_option maxRecDepth 100000 in
theorem c_X0_cornerSample (l : Launch) (D : va_G) (o : Nat → Nat) (cI : ClassId) (ro tw op ch : Int32) (sm nx bf od st ow : Nat → Int32) (w : Nat) (x : Nat) (y : Nat) (k : Nat) (gk : k < 4) : roMet l yX0_cornerSample wsX0_cornerSample ({ frames := 1, cells := 0, slots := 0, locals := 22 } : Room) D (W0 o cI (nI w) ro tw op ch sm nx bf od st ow) [(cI, .int)] [.ref (o 0), .int (nI x), .int (nI y), .int (nI k)] (fun r => r = nI (cY y k * w + cX x k)) := by
  refine Met.ofW (cc := cX0_cornerSample) (maxL := 4) (ret := (some .int)) (by decide) rfl ?_
  intro p e s m args below meth c s₁ B hml hv
  obtain ⟨rfl, hP, hK⟩ := hv
  have hx := B.exec
  have hb := B.bytes
  have hr := B.returns
  have hts := atoms_spec (ws := wsX0_cornerSample) B.pre
  have hown : s.vm.findClass RX0 = some m.cls := findClass_of_methodNamed B.named
  have hlocks := B.notSynchronized
  have hin0 : ∀ w ∈ u_ws RX0 TX0 11, w ∈ wsX0_cornerSample := by decide +kernel
  have hS : va_S (fun _ => False) s.heap s.heap [] := va_S.rf
  have hP : va_P D vwCl (W0 o cI (nI w) ro tw op ch sm nx bf od st ow) s.heap := hP
  have hl := lv_entry ([.ref (o 0), .int (nI x), .int (nI y), .int (nI k)]) (n := 4) (Nat.le_of_ble_eq_true rfl)
  rw [lg_entry_eq]
  generalize (lg_sl ([.ref (o 0), .int (nI x), .int (nI y), .int (nI k)]) ++ List.replicate (4 - (lg_sl ([.ref (o 0), .int (nI x), .int (nI y), .int (nI k)])).length) Slot.unset).toArray = ls at hl ⊢
  have hl : lv_has ls 4 [(0, .ref (o 0)), (1, .int (nI x)), (2, .int (nI y)), (3, .int (nI k))] := hl
  refine lv_iload_n hx hb dX0_cornerSample_0 rfl (lv_at hl 3 rfl) ?_
  rcases (show k = 0 ∨ k = 1 ∨ k = 2 ∨ k = 3 by omega) with rfl | rfl | rfl | rfl
  · refine lv_tableIn (tgt := 28) hx hb dX0_cornerSample_1 (by decide) (by decide) rfl (by decide) ?_
    refine lv_aload_n hx hb dX0_cornerSample_28 rfl (lv_at hl 0 rfl) ?_
    refine lv_iload_n hx hb dX0_cornerSample_29 rfl (lv_at hl 1 rfl) ?_
    refine lv_iload_n hx hb dX0_cornerSample_30 rfl (lv_at hl 2 rfl) ?_
    refine ro_V2 ⟨hx, hb, hml, hown, hts⟩ (c_X0_sampleAt l D o cI ro tw op ch sm nx bf od st ow w x y) (cwV 2 hts gX0_cornerSample_X0_sampleAt rfl rfl rfl (by decide +kernel) ⟨Nat.le_of_ble_eq_true rfl, Nat.le_of_ble_eq_true rfl⟩) (va_recv hK hP (ci := 0) (q0 := 0) rfl rfl) hP hK hP hS rfl hl.1 (lv_room (Nat.le_of_ble_eq_true rfl)) dX0_cornerSample_31 ⟨Nat.le_of_ble_eq_true rfl, Nat.le_of_ble_eq_true rfl⟩ (fun r31 H locs hr31 hP hS => ?_)
    subst hr31
    exact W.iret (v := (nI (y * w + x))) hx hb hr (fun t ht hW => ⟨⟨_, (), rfl, rfl, trivial⟩, hS.F ht⟩) hS.2.2 dX0_cornerSample_34
  · refine lv_tableIn (tgt := 35) hx hb dX0_cornerSample_1 (by decide) (by decide) rfl (by decide) ?_
    refine lv_aload_n hx hb dX0_cornerSample_35 rfl (lv_at hl 0 rfl) ?_
    refine lv_iload_n hx hb dX0_cornerSample_36 rfl (lv_at hl 1 rfl) ?_
    refine lv_iconst (v := 1) hx hb dX0_cornerSample_37 (by decide) ?_
    refine lv_iadd hx hb dX0_cornerSample_38 ?_
    rw [show (nI x + 1) = nI (x + 1) from nI_p1 x]
    refine lv_iload_n hx hb dX0_cornerSample_39 rfl (lv_at hl 2 rfl) ?_
    refine ro_V2 ⟨hx, hb, hml, hown, hts⟩ (c_X0_sampleAt l D o cI ro tw op ch sm nx bf od st ow w (x + 1) y) (cwV 2 hts gX0_cornerSample_X0_sampleAt rfl rfl rfl (by decide +kernel) ⟨Nat.le_of_ble_eq_true rfl, Nat.le_of_ble_eq_true rfl⟩) (va_recv hK hP (ci := 0) (q0 := 0) rfl rfl) hP hK hP hS rfl hl.1 (lv_room (Nat.le_of_ble_eq_true rfl)) dX0_cornerSample_40 ⟨Nat.le_of_ble_eq_true rfl, Nat.le_of_ble_eq_true rfl⟩ (fun r40 H locs hr40 hP hS => ?_)
    subst hr40
    exact W.iret (v := (nI (y * w + (x + 1)))) hx hb hr (fun t ht hW => ⟨⟨_, (), rfl, rfl, trivial⟩, hS.F ht⟩) hS.2.2 dX0_cornerSample_43
  · refine lv_tableIn (tgt := 44) hx hb dX0_cornerSample_1 (by decide) (by decide) rfl (by decide) ?_
    refine lv_aload_n hx hb dX0_cornerSample_44 rfl (lv_at hl 0 rfl) ?_
    refine lv_iload_n hx hb dX0_cornerSample_45 rfl (lv_at hl 1 rfl) ?_
    refine lv_iconst (v := 1) hx hb dX0_cornerSample_46 (by decide) ?_
    refine lv_iadd hx hb dX0_cornerSample_47 ?_
    rw [show (nI x + 1) = nI (x + 1) from nI_p1 x]
    refine lv_iload_n hx hb dX0_cornerSample_48 rfl (lv_at hl 2 rfl) ?_
    refine lv_iconst (v := 1) hx hb dX0_cornerSample_49 (by decide) ?_
    refine lv_iadd hx hb dX0_cornerSample_50 ?_
    rw [show (nI y + 1) = nI (y + 1) from nI_p1 y]
    refine ro_V2 ⟨hx, hb, hml, hown, hts⟩ (c_X0_sampleAt l D o cI ro tw op ch sm nx bf od st ow w (x + 1) (y + 1)) (cwV 2 hts gX0_cornerSample_X0_sampleAt rfl rfl rfl (by decide +kernel) ⟨Nat.le_of_ble_eq_true rfl, Nat.le_of_ble_eq_true rfl⟩) (va_recv hK hP (ci := 0) (q0 := 0) rfl rfl) hP hK hP hS rfl hl.1 (lv_room (Nat.le_of_ble_eq_true rfl)) dX0_cornerSample_51 ⟨Nat.le_of_ble_eq_true rfl, Nat.le_of_ble_eq_true rfl⟩ (fun r51 H locs hr51 hP hS => ?_)
    subst hr51
    exact W.iret (v := (nI ((y + 1) * w + (x + 1)))) hx hb hr (fun t ht hW => ⟨⟨_, (), rfl, rfl, trivial⟩, hS.F ht⟩) hS.2.2 dX0_cornerSample_54
  · refine lv_tableOut (tgt := 55) hx hb dX0_cornerSample_1 (by decide) (by decide) ?_
    refine lv_aload_n hx hb dX0_cornerSample_55 rfl (lv_at hl 0 rfl) ?_
    refine lv_iload_n hx hb dX0_cornerSample_56 rfl (lv_at hl 1 rfl) ?_
    refine lv_iload_n hx hb dX0_cornerSample_57 rfl (lv_at hl 2 rfl) ?_
    refine lv_iconst (v := 1) hx hb dX0_cornerSample_58 (by decide) ?_
    refine lv_iadd hx hb dX0_cornerSample_59 ?_
    rw [show (nI y + 1) = nI (y + 1) from nI_p1 y]
    refine ro_V2 ⟨hx, hb, hml, hown, hts⟩ (c_X0_sampleAt l D o cI ro tw op ch sm nx bf od st ow w x (y + 1)) (cwV 2 hts gX0_cornerSample_X0_sampleAt rfl rfl rfl (by decide +kernel) ⟨Nat.le_of_ble_eq_true rfl, Nat.le_of_ble_eq_true rfl⟩) (va_recv hK hP (ci := 0) (q0 := 0) rfl rfl) hP hK hP hS rfl hl.1 (lv_room (Nat.le_of_ble_eq_true rfl)) dX0_cornerSample_60 ⟨Nat.le_of_ble_eq_true rfl, Nat.le_of_ble_eq_true rfl⟩ (fun r60 H locs hr60 hP hS => ?_)
    subst hr60
    exact W.iret (v := (nI ((y + 1) * w + x))) hx hb hr (fun t ht hW => ⟨⟨_, (), rfl, rfl, trivial⟩, hS.F ht⟩) hS.2.2 dX0_cornerSample_63

set_option maxHeartbeats 4000000 in
set_option maxRecDepth 100000 in
theorem c_X0_sideEdge (l : Launch) (D : va_G) (o : Nat → Nat) (cI : ClassId) (tw op ch : Int32) (sm nx bf od st ow : Nat → Int32) (w : Nat) (h : Nat) (x : Nat) (y : Nat) (k : Nat) (gw : 1 ≤ w) (gk : k < 4) : roMet l yX0_sideEdge wsX0_sideEdge ({ frames := 2, cells := 0, slots := 0, locals := 42 } : Room) D (W0 o cI (nI w) (nI h) tw op ch sm nx bf od st ow) [(cI, .int)] [.ref (o 0), .int (nI x), .int (nI y), .int (nI k)] (fun r => r = nI (eO w h x y k)) := by
  refine Met.ofW (cc := cX0_sideEdge) (maxL := 4) (ret := (some .int)) (by decide) rfl ?_
  intro p e s m args below meth c s₁ B hml hv
  obtain ⟨rfl, hP, hK⟩ := hv
  have hx := B.exec
  have hb := B.bytes
  have hr := B.returns
  have hts := atoms_spec (ws := wsX0_sideEdge) B.pre
  have hown : s.vm.findClass RX0 = some m.cls := findClass_of_methodNamed B.named
  have hlocks := B.notSynchronized
  have hin0 : ∀ w ∈ u_ws RX0 TX0 11, w ∈ wsX0_sideEdge := by decide +kernel
  have hS : va_S (fun _ => False) s.heap s.heap [] := va_S.rf
  have hP : va_P D vwCl (W0 o cI (nI w) (nI h) tw op ch sm nx bf od st ow) s.heap := hP
  have hl := lv_entry ([.ref (o 0), .int (nI x), .int (nI y), .int (nI k)]) (n := 4) (Nat.le_of_ble_eq_true rfl)
  rw [lg_entry_eq]
  generalize (lg_sl ([.ref (o 0), .int (nI x), .int (nI y), .int (nI k)]) ++ List.replicate (4 - (lg_sl ([.ref (o 0), .int (nI x), .int (nI y), .int (nI k)])).length) Slot.unset).toArray = ls at hl ⊢
  have hl : lv_has ls 4 [(0, .ref (o 0)), (1, .int (nI x)), (2, .int (nI y)), (3, .int (nI k))] := hl
  refine lv_iload_n hx hb dX0_sideEdge_0 rfl (lv_at hl 3 rfl) ?_
  rcases (show k = 0 ∨ k = 1 ∨ k = 2 ∨ k = 3 by omega) with rfl | rfl | rfl | rfl
  · refine lv_tableIn (tgt := 28) hx hb dX0_sideEdge_1 (by decide) (by decide) rfl (by decide) ?_
    refine lv_aload_n hx hb dX0_sideEdge_28 rfl (lv_at hl 0 rfl) ?_
    refine lv_iload_n hx hb dX0_sideEdge_29 rfl (lv_at hl 1 rfl) ?_
    refine lv_iload_n hx hb dX0_sideEdge_30 rfl (lv_at hl 2 rfl) ?_
    refine ro_V2 ⟨hx, hb, hml, hown, hts⟩ (c_X0_rightwardEdge l D o cI (nI h) tw op ch sm nx bf od st ow w x y gw) (cwV 2 hts gX0_sideEdge_X0_rightwardEdge rfl rfl rfl (by decide +kernel) ⟨Nat.le_of_ble_eq_true rfl, Nat.le_of_ble_eq_true rfl⟩) (va_recv hK hP (ci := 0) (q0 := 0) rfl rfl) hP hK hP hS rfl hl.1 (lv_room (Nat.le_of_ble_eq_true rfl)) dX0_sideEdge_31 ⟨Nat.le_of_ble_eq_true rfl, Nat.le_of_ble_eq_true rfl⟩ (fun r31 H locs hr31 hP hS => ?_)
    subst hr31
    exact W.iret (v := (nI (y * (w - 1) + x))) hx hb hr (fun t ht hW => ⟨⟨_, (), rfl, rfl, trivial⟩, hS.F ht⟩) hS.2.2 dX0_sideEdge_34
  · refine lv_tableIn (tgt := 35) hx hb dX0_sideEdge_1 (by decide) (by decide) rfl (by decide) ?_
    refine lv_aload_n hx hb dX0_sideEdge_35 rfl (lv_at hl 0 rfl) ?_
    refine lv_iload_n hx hb dX0_sideEdge_36 rfl (lv_at hl 1 rfl) ?_
    refine lv_iconst (v := 1) hx hb dX0_sideEdge_37 (by decide) ?_
    refine lv_iadd hx hb dX0_sideEdge_38 ?_
    rw [show (nI x + 1) = nI (x + 1) from nI_p1 x]
    refine lv_iload_n hx hb dX0_sideEdge_39 rfl (lv_at hl 2 rfl) ?_
    refine ro_V2 ⟨hx, hb, hml, hown, hts⟩ (c_X0_upwardEdge l D o cI tw op ch sm nx bf od st ow w h (x + 1) y gw) (cwV 2 hts gX0_sideEdge_X0_upwardEdge rfl rfl rfl (by decide +kernel) ⟨Nat.le_of_ble_eq_true rfl, Nat.le_of_ble_eq_true rfl⟩) (va_recv hK hP (ci := 0) (q0 := 0) rfl rfl) hP hK hP hS rfl hl.1 (lv_room (Nat.le_of_ble_eq_true rfl)) dX0_sideEdge_40 ⟨Nat.le_of_ble_eq_true rfl, Nat.le_of_ble_eq_true rfl⟩ (fun r40 H locs hr40 hP hS => ?_)
    subst hr40
    exact W.iret (v := (nI (nR w h + y * w + (x + 1)))) hx hb hr (fun t ht hW => ⟨⟨_, (), rfl, rfl, trivial⟩, hS.F ht⟩) hS.2.2 dX0_sideEdge_43
  · refine lv_tableIn (tgt := 44) hx hb dX0_sideEdge_1 (by decide) (by decide) rfl (by decide) ?_
    refine lv_aload_n hx hb dX0_sideEdge_44 rfl (lv_at hl 0 rfl) ?_
    refine lv_iload_n hx hb dX0_sideEdge_45 rfl (lv_at hl 1 rfl) ?_
    refine lv_iload_n hx hb dX0_sideEdge_46 rfl (lv_at hl 2 rfl) ?_
    refine lv_iconst (v := 1) hx hb dX0_sideEdge_47 (by decide) ?_
    refine lv_iadd hx hb dX0_sideEdge_48 ?_
    rw [show (nI y + 1) = nI (y + 1) from nI_p1 y]
    refine ro_V2 ⟨hx, hb, hml, hown, hts⟩ (c_X0_rightwardEdge l D o cI (nI h) tw op ch sm nx bf od st ow w x (y + 1) gw) (cwV 2 hts gX0_sideEdge_X0_rightwardEdge rfl rfl rfl (by decide +kernel) ⟨Nat.le_of_ble_eq_true rfl, Nat.le_of_ble_eq_true rfl⟩) (va_recv hK hP (ci := 0) (q0 := 0) rfl rfl) hP hK hP hS rfl hl.1 (lv_room (Nat.le_of_ble_eq_true rfl)) dX0_sideEdge_49 ⟨Nat.le_of_ble_eq_true rfl, Nat.le_of_ble_eq_true rfl⟩ (fun r49 H locs hr49 hP hS => ?_)
    subst hr49
    exact W.iret (v := (nI ((y + 1) * (w - 1) + x))) hx hb hr (fun t ht hW => ⟨⟨_, (), rfl, rfl, trivial⟩, hS.F ht⟩) hS.2.2 dX0_sideEdge_52
  · refine lv_tableOut (tgt := 53) hx hb dX0_sideEdge_1 (by decide) (by decide) ?_
    refine lv_aload_n hx hb dX0_sideEdge_53 rfl (lv_at hl 0 rfl) ?_
    refine lv_iload_n hx hb dX0_sideEdge_54 rfl (lv_at hl 1 rfl) ?_
    refine lv_iload_n hx hb dX0_sideEdge_55 rfl (lv_at hl 2 rfl) ?_
    refine ro_V2 ⟨hx, hb, hml, hown, hts⟩ (c_X0_upwardEdge l D o cI tw op ch sm nx bf od st ow w h x y gw) (cwV 2 hts gX0_sideEdge_X0_upwardEdge rfl rfl rfl (by decide +kernel) ⟨Nat.le_of_ble_eq_true rfl, Nat.le_of_ble_eq_true rfl⟩) (va_recv hK hP (ci := 0) (q0 := 0) rfl rfl) hP hK hP hS rfl hl.1 (lv_room (Nat.le_of_ble_eq_true rfl)) dX0_sideEdge_56 ⟨Nat.le_of_ble_eq_true rfl, Nat.le_of_ble_eq_true rfl⟩ (fun r56 H locs hr56 hP hS => ?_)
    subst hr56
    exact W.iret (v := (nI (nR w h + y * w + x))) hx hb hr (fun t ht hW => ⟨⟨_, (), rfl, rfl, trivial⟩, hS.F ht⟩) hS.2.2 dX0_sideEdge_59

set_option maxHeartbeats 4000000 in
set_option maxRecDepth 100000 in
theorem c_X0_hasCorner (l : Launch) (D : va_G) (a : Nat) (k : Nat) (ga : a < 16) (gk : k < 8) : roMet l yX0_hasCorner wsX0_hasCorner ({ frames := 0, cells := 0, slots := 0, locals := 0 } : Room) D [] [] [.int (nI a), .int (nI k)] (fun r => r = bI (a.testBit (k % 4))) := by
  refine Met.ofW (cc := cX0_hasCorner) (maxL := 2) (ret := (some .boolean)) (by decide) rfl ?_
  intro p e s m args below meth c s₁ B hml hv
  obtain ⟨rfl, hP, hK⟩ := hv
  have hx := B.exec
  have hb := B.bytes
  have hr := B.returns
  have hts := atoms_spec (ws := wsX0_hasCorner) B.pre
  have hown : s.vm.findClass RX0 = some m.cls := findClass_of_methodNamed B.named
  have hlocks := B.notSynchronized
  have hS : va_S (fun _ => False) s.heap s.heap [] := va_S.rf
  have hP : va_P D vwCl [] s.heap := hP
  have hl := lv_entry ([.int (nI a), .int (nI k)]) (n := 2) (Nat.le_of_ble_eq_true rfl)
  rw [lg_entry_eq]
  generalize (lg_sl ([.int (nI a), .int (nI k)]) ++ List.replicate (2 - (lg_sl ([.int (nI a), .int (nI k)])).length) Slot.unset).toArray = ls at hl ⊢
  have hl : lv_has ls 2 [(0, .int (nI a)), (1, .int (nI k))] := hl
  refine lv_iload_n hx hb dX0_hasCorner_0 rfl (lv_at hl 0 rfl) ?_
  refine lv_iload_n hx hb dX0_hasCorner_1 rfl (lv_at hl 1 rfl) ?_
  refine lv_iconst (v := 4) hx hb dX0_hasCorner_2 (by decide) ?_
  refine lv_irem hx hb dX0_hasCorner_3 (by decide) ?_
  refine lv_ishr hx hb dX0_hasCorner_4 ?_
  refine lv_iconst (v := 1) hx hb dX0_hasCorner_5 (by decide) ?_
  refine lv_iand hx hb dX0_hasCorner_6 ?_
  rw [show ((nI a >>> ((nI k - nI k / 4 * 4) &&& 31)) &&& 1) = bI (a.testBit (k % 4)) from hc_eq a ga k gk]
  refine lv_iconst (v := 1) hx hb dX0_hasCorner_7 (by decide) ?_
  refine lv_icmp_ne (tgt := 15) hx hb dX0_hasCorner_8 (by decide) (fun c8 => ?_) (fun c8 => ?_)
  · refine lv_iconst (v := 0) hx hb dX0_hasCorner_15 (by decide) ?_
    exact W.zret (v := 0) (ty := .boolean) hx hb hr rfl (fun t ht hW => ⟨⟨_, (), rfl, bI_z (bI_ne1 c8), trivial⟩, hS.F ht⟩) hS.2.2 dX0_hasCorner_16
  · refine lv_iconst (v := 1) hx hb dX0_hasCorner_11 (by decide) ?_
    refine lv_goto (tgt := 16) hx hb dX0_hasCorner_12 (by decide) ?_
    exact W.zret (v := 1) (ty := .boolean) hx hb hr rfl (fun t ht hW => ⟨⟨_, (), rfl, bI_1 (bI_e1 (by simpa using c8)), trivial⟩, hS.F ht⟩) hS.2.2 dX0_hasCorner_16

set_option maxHeartbeats 4000000 in
set_option maxRecDepth 100000 in
theorem c_X0_entersAt (l : Launch) (D : va_G) (a : Nat) (k : Nat) (ga : a < 16) (gk : k < 7) : roMet l yX0_entersAt wsX0_entersAt ({ frames := 1, cells := 0, slots := 0, locals := 21 } : Room) D [] [] [.int (nI a), .int (nI k)] (fun r => r = bI (inA a k)) := by
  refine Met.ofW (cc := cX0_entersAt) (maxL := 2) (ret := (some .boolean)) (by decide) rfl ?_
  intro p e s m args below meth c s₁ B hml hv
  obtain ⟨rfl, hP, hK⟩ := hv
  have hx := B.exec
  have hb := B.bytes
  have hr := B.returns
  have hts := atoms_spec (ws := wsX0_entersAt) B.pre
  have hown : s.vm.findClass RX0 = some m.cls := findClass_of_methodNamed B.named
  have hlocks := B.notSynchronized
  have hS : va_S (fun _ => False) s.heap s.heap [] := va_S.rf
  have hP : va_P D vwCl [] s.heap := hP
  have hl := lv_entry ([.int (nI a), .int (nI k)]) (n := 2) (Nat.le_of_ble_eq_true rfl)
  rw [lg_entry_eq]
  generalize (lg_sl ([.int (nI a), .int (nI k)]) ++ List.replicate (2 - (lg_sl ([.int (nI a), .int (nI k)])).length) Slot.unset).toArray = ls at hl ⊢
  have hl : lv_has ls 2 [(0, .int (nI a)), (1, .int (nI k))] := hl
  refine lv_iload_n hx hb dX0_entersAt_0 rfl (lv_at hl 0 rfl) ?_
  refine lv_iload_n hx hb dX0_entersAt_1 rfl (lv_at hl 1 rfl) ?_
  refine ro_S2 ⟨hx, hb, hml, hown, hts⟩ (c_X0_hasCorner l D a k ga (by omega)) (va_cwS 2 hts gX0_entersAt_X0_hasCorner rfl rfl rfl (by decide +kernel) ⟨Nat.le_of_ble_eq_true rfl, Nat.le_of_ble_eq_true rfl⟩) (va_P0 D vwCl _) (hK.sub [] rfl) hP hS rfl hl.1 (lv_room (Nat.le_of_ble_eq_true rfl)) dX0_entersAt_2 ⟨Nat.le_of_ble_eq_true rfl, Nat.le_of_ble_eq_true rfl⟩ (fun r2 H locs hr2 hP hS => ?_)
  subst hr2
  refine lv_if_eq (tgt := 22) hx hb dX0_entersAt_5 (by decide) (fun c5 => ?_) (fun c5 => ?_)
  · refine lv_iconst (v := 0) hx hb dX0_entersAt_22 (by decide) ?_
    exact W.zret (v := 0) (ty := .boolean) hx hb hr rfl (fun t ht hW => ⟨⟨_, (), rfl, by unfold inA; simp_all [bI_0, bI_n0, bI_t, bI_f, bI], trivial⟩, hS.F ht⟩) hS.2.2 dX0_entersAt_23
  · refine lv_iload_n hx hb dX0_entersAt_8 rfl (lv_at hl 0 rfl) ?_
    refine lv_iload_n hx hb dX0_entersAt_9 rfl (lv_at hl 1 rfl) ?_
    refine lv_iconst (v := 1) hx hb dX0_entersAt_10 (by decide) ?_
    refine lv_iadd hx hb dX0_entersAt_11 ?_
    rw [show (nI k + 1) = nI (k + 1) from nI_p1 k]
    refine ro_S2 ⟨hx, hb, hml, hown, hts⟩ (c_X0_hasCorner l D a (k + 1) ga (by omega)) (va_cwS 2 hts gX0_entersAt_X0_hasCorner rfl rfl rfl (by decide +kernel) ⟨Nat.le_of_ble_eq_true rfl, Nat.le_of_ble_eq_true rfl⟩) (va_P0 D vwCl _) (hK.sub [] rfl) hP hS rfl hl.1 (lv_room (Nat.le_of_ble_eq_true rfl)) dX0_entersAt_12 ⟨Nat.le_of_ble_eq_true rfl, Nat.le_of_ble_eq_true rfl⟩ (fun r12 H locs hr12 hP hS => ?_)
    subst hr12
    refine lv_if_ne (tgt := 22) hx hb dX0_entersAt_15 (by decide) (fun c15 => ?_) (fun c15 => ?_)
    · refine lv_iconst (v := 0) hx hb dX0_entersAt_22 (by decide) ?_
      exact W.zret (v := 0) (ty := .boolean) hx hb hr rfl (fun t ht hW => ⟨⟨_, (), rfl, by unfold inA; simp_all [bI_0, bI_n0, bI_t, bI_f, bI], trivial⟩, hS.F ht⟩) hS.2.2 dX0_entersAt_23
    · refine lv_iconst (v := 1) hx hb dX0_entersAt_18 (by decide) ?_
      refine lv_goto (tgt := 23) hx hb dX0_entersAt_19 (by decide) ?_
      exact W.zret (v := 1) (ty := .boolean) hx hb hr rfl (fun t ht hW => ⟨⟨_, (), rfl, by unfold inA; simp_all [bI_0, bI_n0, bI_t, bI_f, bI], trivial⟩, hS.F ht⟩) hS.2.2 dX0_entersAt_23

set_option maxHeartbeats 4000000 in
set_option maxRecDepth 100000 in
theorem c_X0_leavesAt (l : Launch) (D : va_G) (a : Nat) (k : Nat) (ga : a < 16) (gk : k < 7) : roMet l yX0_leavesAt wsX0_leavesAt ({ frames := 1, cells := 0, slots := 0, locals := 21 } : Room) D [] [] [.int (nI a), .int (nI k)] (fun r => r = bI (outA a k)) := by
  refine Met.ofW (cc := cX0_leavesAt) (maxL := 2) (ret := (some .boolean)) (by decide) rfl ?_
  intro p e s m args below meth c s₁ B hml hv
  obtain ⟨rfl, hP, hK⟩ := hv
  have hx := B.exec
  have hb := B.bytes
  have hr := B.returns
  have hts := atoms_spec (ws := wsX0_leavesAt) B.pre
  have hown : s.vm.findClass RX0 = some m.cls := findClass_of_methodNamed B.named
  have hlocks := B.notSynchronized
  have hS : va_S (fun _ => False) s.heap s.heap [] := va_S.rf
  have hP : va_P D vwCl [] s.heap := hP
  have hl := lv_entry ([.int (nI a), .int (nI k)]) (n := 2) (Nat.le_of_ble_eq_true rfl)
  rw [lg_entry_eq]
  generalize (lg_sl ([.int (nI a), .int (nI k)]) ++ List.replicate (2 - (lg_sl ([.int (nI a), .int (nI k)])).length) Slot.unset).toArray = ls at hl ⊢
  have hl : lv_has ls 2 [(0, .int (nI a)), (1, .int (nI k))] := hl
  refine lv_iload_n hx hb dX0_leavesAt_0 rfl (lv_at hl 0 rfl) ?_
  refine lv_iload_n hx hb dX0_leavesAt_1 rfl (lv_at hl 1 rfl) ?_
  refine ro_S2 ⟨hx, hb, hml, hown, hts⟩ (c_X0_hasCorner l D a k ga (by omega)) (va_cwS 2 hts gX0_leavesAt_X0_hasCorner rfl rfl rfl (by decide +kernel) ⟨Nat.le_of_ble_eq_true rfl, Nat.le_of_ble_eq_true rfl⟩) (va_P0 D vwCl _) (hK.sub [] rfl) hP hS rfl hl.1 (lv_room (Nat.le_of_ble_eq_true rfl)) dX0_leavesAt_2 ⟨Nat.le_of_ble_eq_true rfl, Nat.le_of_ble_eq_true rfl⟩ (fun r2 H locs hr2 hP hS => ?_)
  subst hr2
  refine lv_if_ne (tgt := 22) hx hb dX0_leavesAt_5 (by decide) (fun c5 => ?_) (fun c5 => ?_)
  · refine lv_iconst (v := 0) hx hb dX0_leavesAt_22 (by decide) ?_
    exact W.zret (v := 0) (ty := .boolean) hx hb hr rfl (fun t ht hW => ⟨⟨_, (), rfl, by unfold outA; simp_all [bI_0, bI_n0, bI_t, bI_f, bI], trivial⟩, hS.F ht⟩) hS.2.2 dX0_leavesAt_23
  · refine lv_iload_n hx hb dX0_leavesAt_8 rfl (lv_at hl 0 rfl) ?_
    refine lv_iload_n hx hb dX0_leavesAt_9 rfl (lv_at hl 1 rfl) ?_
    refine lv_iconst (v := 1) hx hb dX0_leavesAt_10 (by decide) ?_
    refine lv_iadd hx hb dX0_leavesAt_11 ?_
    rw [show (nI k + 1) = nI (k + 1) from nI_p1 k]
    refine ro_S2 ⟨hx, hb, hml, hown, hts⟩ (c_X0_hasCorner l D a (k + 1) ga (by omega)) (va_cwS 2 hts gX0_leavesAt_X0_hasCorner rfl rfl rfl (by decide +kernel) ⟨Nat.le_of_ble_eq_true rfl, Nat.le_of_ble_eq_true rfl⟩) (va_P0 D vwCl _) (hK.sub [] rfl) hP hS rfl hl.1 (lv_room (Nat.le_of_ble_eq_true rfl)) dX0_leavesAt_12 ⟨Nat.le_of_ble_eq_true rfl, Nat.le_of_ble_eq_true rfl⟩ (fun r12 H locs hr12 hP hS => ?_)
    subst hr12
    refine lv_if_eq (tgt := 22) hx hb dX0_leavesAt_15 (by decide) (fun c15 => ?_) (fun c15 => ?_)
    · refine lv_iconst (v := 0) hx hb dX0_leavesAt_22 (by decide) ?_
      exact W.zret (v := 0) (ty := .boolean) hx hb hr rfl (fun t ht hW => ⟨⟨_, (), rfl, by unfold outA; simp_all [bI_0, bI_n0, bI_t, bI_f, bI], trivial⟩, hS.F ht⟩) hS.2.2 dX0_leavesAt_23
    · refine lv_iconst (v := 1) hx hb dX0_leavesAt_18 (by decide) ?_
      refine lv_goto (tgt := 23) hx hb dX0_leavesAt_19 (by decide) ?_
      exact W.zret (v := 1) (ty := .boolean) hx hb hr rfl (fun t ht hW => ⟨⟨_, (), rfl, by unfold outA; simp_all [bI_0, bI_n0, bI_t, bI_f, bI], trivial⟩, hS.F ht⟩) hS.2.2 dX0_leavesAt_23

set_option maxHeartbeats 4000000 in
set_option maxRecDepth 100000 in
theorem c_X0_heldToBounds (l : Launch) (D : va_G) (v : Int64) : roMet l yX0_heldToBounds wsX0_heldToBounds ({ frames := 1, cells := 0, slots := 0, locals := 23 } : Room) D [] [] [.long v] (fun r => r = holdI v) := by
  refine Met.ofW (cc := cX0_heldToBounds) (maxL := 2) (ret := (some .int)) (by decide) rfl ?_
  intro p e s m args below meth c s₁ B hml hv
  obtain ⟨rfl, hP, hK⟩ := hv
  have hx := B.exec
  have hb := B.bytes
  have hr := B.returns
  have hts := atoms_spec (ws := wsX0_heldToBounds) B.pre
  have hown : s.vm.findClass RX0 = some m.cls := findClass_of_methodNamed B.named
  have hlocks := B.notSynchronized
  have hS : va_S (fun _ => False) s.heap s.heap [] := va_S.rf
  have hP : va_P D vwCl [] s.heap := hP
  have hl := lv_entry ([.long v]) (n := 2) (Nat.le_of_ble_eq_true rfl)
  rw [lg_entry_eq]
  generalize (lg_sl ([.long v]) ++ List.replicate (2 - (lg_sl ([.long v])).length) Slot.unset).toArray = ls at hl ⊢
  have hl : lv_has ls 2 [(0, .long v)] := hl
  refine lv_ldc2 (v := (-1000000)) hx hb hown (hts (.constantLong RX0 116 (-1000000)) (by decide +kernel)) dX0_heldToBounds_0 ?_
  refine lv_ldc2 (v := 1000000) hx hb hown (hts (.constantLong RX0 118 (1000000)) (by decide +kernel)) dX0_heldToBounds_3 ?_
  refine lv_lload_n hx hb dX0_heldToBounds_6 rfl (lv_at hl 0 rfl) ?_
  refine va_mmin_long hx hb (by rw [hml]; exact hl.1.symm) hown (hts (.methodLink RX0 120 Lib.MathLoose.min_long.x) (by decide +kernel)) (hts (.static Lib.MathLoose.min_long.x) (by decide +kernel)) (hts (.initialized "java/lang/Math") (by decide +kernel)) (hts (.code Lib.MathLoose.min_long.x Lib.MathLoose.min_long.code 4 (some .long)) (by decide +kernel)) (Nat.le_of_ble_eq_true rfl) (Nat.le_of_ble_eq_true rfl) (Nat.le_of_ble_eq_true rfl) (Nat.le_of_ble_eq_true rfl) dX0_heldToBounds_7 ?_
  refine va_mmax_long hx hb (by rw [hml]; exact hl.1.symm) hown (hts (.methodLink RX0 124 Lib.MathLoose.max_long.x) (by decide +kernel)) (hts (.static Lib.MathLoose.max_long.x) (by decide +kernel)) (hts (.initialized "java/lang/Math") (by decide +kernel)) (hts (.code Lib.MathLoose.max_long.x Lib.MathLoose.max_long.code 4 (some .long)) (by decide +kernel)) (Nat.le_of_ble_eq_true rfl) (Nat.le_of_ble_eq_true rfl) (Nat.le_of_ble_eq_true rfl) (Nat.le_of_ble_eq_true rfl) dX0_heldToBounds_10 ?_
  refine lv_l2i hx hb dX0_heldToBounds_13 rfl ?_
  exact W.iret (v := (if (if v < 1000000 then v else 1000000) < (-1000000) then (-1000000) else (if v < 1000000 then v else 1000000)).toInt32) hx hb hr (fun t ht hW => ⟨⟨_, (), rfl, rfl, trivial⟩, hS.F ht⟩) hS.2.2 dX0_heldToBounds_14

set_option maxHeartbeats 4000000 in
set_option maxRecDepth 100000 in
theorem c_X0_isMiddleAbove (l : Launch) (D : va_G) (o : Nat → Nat) (cI : ClassId) (tw op ch : Int32) (sm nx bf od st ow : Nat → Int32) (w : Nat) (h : Nat) (f : Nat → Nat → Int32) (x : Nat) (y : Nat) (gw2 : w ≤ 12) (gh2 : h ≤ 12) (gf : ∀ x y, x < w → y < h → sm (y * w + x) = f x y) (gx : x + 1 < w) (gy : y + 1 < h) : roMet l yX0_isMiddleAbove wsX0_isMiddleAbove ({ frames := 2, cells := 0, slots := 0, locals := 45 } : Room) D (W0 o cI (nI w) (nI h) tw op ch sm nx bf od st ow) [(cI, .int)] [.ref (o 0), .int (nI x), .int (nI y)] (fun r => r = bI (mdB f tw x y)) := by
  refine Met.ofW (cc := cX0_isMiddleAbove) (maxL := 17) (ret := (some .boolean)) (by decide) rfl ?_
  intro p e s m args below meth c s₁ B hml hv
  obtain ⟨rfl, hP, hK⟩ := hv
  have hx := B.exec
  have hb := B.bytes
  have hr := B.returns
  have hts := atoms_spec (ws := wsX0_isMiddleAbove) B.pre
  have hown : s.vm.findClass RX0 = some m.cls := findClass_of_methodNamed B.named
  have hlocks := B.notSynchronized
  have hin0 : ∀ w ∈ u_ws RX0 TX0 11, w ∈ wsX0_isMiddleAbove := by decide +kernel
  have hS : va_S (fun _ => False) s.heap s.heap [] := va_S.rf
  have hP : va_P D vwCl (W0 o cI (nI w) (nI h) tw op ch sm nx bf od st ow) s.heap := hP
  have hl := lv_entry ([.ref (o 0), .int (nI x), .int (nI y)]) (n := 17) (Nat.le_of_ble_eq_true rfl)
  rw [lg_entry_eq]
  generalize (lg_sl ([.ref (o 0), .int (nI x), .int (nI y)]) ++ List.replicate (17 - (lg_sl ([.ref (o 0), .int (nI x), .int (nI y)])).length) Slot.unset).toArray = ls at hl ⊢
  have hl : lv_has ls 17 [(0, .ref (o 0)), (1, .int (nI x)), (2, .int (nI y))] := hl
  refine lv_aload_n hx hb dX0_isMiddleAbove_0 rfl (lv_at hl 0 rfl) ?_
  refine va_get (D := D) (ci := 0) (v := .ref (o 1)) (C := RX0) (T := TX0) (N := 11) hx hb hts hin0 hown hK hP 0 rfl rfl 3 (by decide) (hts (.fieldLink RX0 19 "HeightLines" "samples" "[I") (by decide +kernel)) (fun _ h9 => h9) rfl dX0_isMiddleAbove_1 ?_
  refine lv_aload_n hx hb dX0_isMiddleAbove_4 rfl (lv_at hl 0 rfl) ?_
  refine lv_iload_n hx hb dX0_isMiddleAbove_5 rfl (lv_at hl 1 rfl) ?_
  refine lv_iload_n hx hb dX0_isMiddleAbove_6 rfl (lv_at hl 2 rfl) ?_
  refine lv_iconst (v := 0) hx hb dX0_isMiddleAbove_7 (by decide) ?_
  refine ro_V3 ⟨hx, hb, hml, hown, hts⟩ (c_X0_cornerSample l D o cI (nI h) tw op ch sm nx bf od st ow w x y 0 (by decide)) (cwV 3 hts gX0_isMiddleAbove_X0_cornerSample rfl rfl rfl (by decide +kernel) ⟨Nat.le_of_ble_eq_true rfl, Nat.le_of_ble_eq_true rfl⟩) (va_recv hK hP (ci := 0) (q0 := 0) rfl rfl) hP hK hP hS rfl hl.1 (lv_room (Nat.le_of_ble_eq_true rfl)) dX0_isMiddleAbove_8 ⟨Nat.le_of_ble_eq_true rfl, Nat.le_of_ble_eq_true rfl⟩ (fun r8 H locs hr8 hP hS => ?_)
  subst hr8
  refine an_iald (D := D) hx hb hK hP 1 0 rfl rfl (k := cY y 0 * w + cX x 0) (sA_lt gw2 gh2 (show cX x 0 < w by simp [cX]; omega) (show cY y 0 < h by simp [cY]; omega)) (by decide) dX0_isMiddleAbove_11 ?_
  refine lv_i2l hx hb dX0_isMiddleAbove_12 rfl ?_
  refine lv_topl (fun x13 ex13 => ?_)
  refine lv_lstore_n (lv' := [(3, .long x13), (0, .ref (o 0)), (1, .int (nI x)), (2, .int (nI y))]) hx hb dX0_isMiddleAbove_13 rfl hl (by decide) rfl (fun ls hl => ?_)
  refine lv_aload_n hx hb dX0_isMiddleAbove_14 rfl (lv_at hl 1 rfl) ?_
  refine va_get (D := D) (ci := 0) (v := .ref (o 1)) (C := RX0) (T := TX0) (N := 11) hx hb hts hin0 hown hK hP 0 rfl rfl 3 (by decide) (hts (.fieldLink RX0 19 "HeightLines" "samples" "[I") (by decide +kernel)) (fun _ h9 => h9) rfl dX0_isMiddleAbove_15 ?_
  refine lv_aload_n hx hb dX0_isMiddleAbove_18 rfl (lv_at hl 1 rfl) ?_
  refine lv_iload_n hx hb dX0_isMiddleAbove_19 rfl (lv_at hl 2 rfl) ?_
  refine lv_iload_n hx hb dX0_isMiddleAbove_20 rfl (lv_at hl 3 rfl) ?_
  refine lv_iconst (v := 1) hx hb dX0_isMiddleAbove_21 (by decide) ?_
  refine ro_V3 ⟨hx, hb, hml, hown, hts⟩ (c_X0_cornerSample l D o cI (nI h) tw op ch sm nx bf od st ow w x y 1 (by decide)) (cwV 3 hts gX0_isMiddleAbove_X0_cornerSample rfl rfl rfl (by decide +kernel) ⟨Nat.le_of_ble_eq_true rfl, Nat.le_of_ble_eq_true rfl⟩) (va_recv hK hP (ci := 0) (q0 := 0) rfl rfl) hP hK hP hS rfl hl.1 (lv_room (Nat.le_of_ble_eq_true rfl)) dX0_isMiddleAbove_22 ⟨Nat.le_of_ble_eq_true rfl, Nat.le_of_ble_eq_true rfl⟩ (fun r22 H locs hr22 hP hS => ?_)
  subst hr22
  refine an_iald (D := D) hx hb hK hP 1 0 rfl rfl (k := cY y 1 * w + cX x 1) (sA_lt gw2 gh2 (show cX x 1 < w by simp [cX]; omega) (show cY y 1 < h by simp [cY]; omega)) (by decide) dX0_isMiddleAbove_25 ?_
  refine lv_i2l hx hb dX0_isMiddleAbove_26 rfl ?_
  refine lv_topl (fun x27 ex27 => ?_)
  refine lv_lstore (lv' := [(5, .long x27), (3, .long x13), (0, .ref (o 0)), (1, .int (nI x)), (2, .int (nI y))]) hx hb dX0_isMiddleAbove_27 hl (by decide) rfl (fun ls hl => ?_)
  refine lv_aload_n hx hb dX0_isMiddleAbove_29 rfl (lv_at hl 2 rfl) ?_
  refine va_get (D := D) (ci := 0) (v := .ref (o 1)) (C := RX0) (T := TX0) (N := 11) hx hb hts hin0 hown hK hP 0 rfl rfl 3 (by decide) (hts (.fieldLink RX0 19 "HeightLines" "samples" "[I") (by decide +kernel)) (fun _ h9 => h9) rfl dX0_isMiddleAbove_30 ?_
  refine lv_aload_n hx hb dX0_isMiddleAbove_33 rfl (lv_at hl 2 rfl) ?_
  refine lv_iload_n hx hb dX0_isMiddleAbove_34 rfl (lv_at hl 3 rfl) ?_
  refine lv_iload_n hx hb dX0_isMiddleAbove_35 rfl (lv_at hl 4 rfl) ?_
  refine lv_iconst (v := 2) hx hb dX0_isMiddleAbove_36 (by decide) ?_
  refine ro_V3 ⟨hx, hb, hml, hown, hts⟩ (c_X0_cornerSample l D o cI (nI h) tw op ch sm nx bf od st ow w x y 2 (by decide)) (cwV 3 hts gX0_isMiddleAbove_X0_cornerSample rfl rfl rfl (by decide +kernel) ⟨Nat.le_of_ble_eq_true rfl, Nat.le_of_ble_eq_true rfl⟩) (va_recv hK hP (ci := 0) (q0 := 0) rfl rfl) hP hK hP hS rfl hl.1 (lv_room (Nat.le_of_ble_eq_true rfl)) dX0_isMiddleAbove_37 ⟨Nat.le_of_ble_eq_true rfl, Nat.le_of_ble_eq_true rfl⟩ (fun r37 H locs hr37 hP hS => ?_)
  subst hr37
  refine an_iald (D := D) hx hb hK hP 1 0 rfl rfl (k := cY y 2 * w + cX x 2) (sA_lt gw2 gh2 (show cX x 2 < w by simp [cX]; omega) (show cY y 2 < h by simp [cY]; omega)) (by decide) dX0_isMiddleAbove_40 ?_
  refine lv_i2l hx hb dX0_isMiddleAbove_41 rfl ?_
  refine lv_topl (fun x42 ex42 => ?_)
  refine lv_lstore (lv' := [(7, .long x42), (5, .long x27), (3, .long x13), (0, .ref (o 0)), (1, .int (nI x)), (2, .int (nI y))]) hx hb dX0_isMiddleAbove_42 hl (by decide) rfl (fun ls hl => ?_)
  refine lv_aload_n hx hb dX0_isMiddleAbove_44 rfl (lv_at hl 3 rfl) ?_
  refine va_get (D := D) (ci := 0) (v := .ref (o 1)) (C := RX0) (T := TX0) (N := 11) hx hb hts hin0 hown hK hP 0 rfl rfl 3 (by decide) (hts (.fieldLink RX0 19 "HeightLines" "samples" "[I") (by decide +kernel)) (fun _ h9 => h9) rfl dX0_isMiddleAbove_45 ?_
  refine lv_aload_n hx hb dX0_isMiddleAbove_48 rfl (lv_at hl 3 rfl) ?_
  refine lv_iload_n hx hb dX0_isMiddleAbove_49 rfl (lv_at hl 4 rfl) ?_
  refine lv_iload_n hx hb dX0_isMiddleAbove_50 rfl (lv_at hl 5 rfl) ?_
  refine lv_iconst (v := 3) hx hb dX0_isMiddleAbove_51 (by decide) ?_
  refine ro_V3 ⟨hx, hb, hml, hown, hts⟩ (c_X0_cornerSample l D o cI (nI h) tw op ch sm nx bf od st ow w x y 3 (by decide)) (cwV 3 hts gX0_isMiddleAbove_X0_cornerSample rfl rfl rfl (by decide +kernel) ⟨Nat.le_of_ble_eq_true rfl, Nat.le_of_ble_eq_true rfl⟩) (va_recv hK hP (ci := 0) (q0 := 0) rfl rfl) hP hK hP hS rfl hl.1 (lv_room (Nat.le_of_ble_eq_true rfl)) dX0_isMiddleAbove_52 ⟨Nat.le_of_ble_eq_true rfl, Nat.le_of_ble_eq_true rfl⟩ (fun r52 H locs hr52 hP hS => ?_)
  subst hr52
  refine an_iald (D := D) hx hb hK hP 1 0 rfl rfl (k := cY y 3 * w + cX x 3) (sA_lt gw2 gh2 (show cX x 3 < w by simp [cX]; omega) (show cY y 3 < h by simp [cY]; omega)) (by decide) dX0_isMiddleAbove_55 ?_
  refine lv_i2l hx hb dX0_isMiddleAbove_56 rfl ?_
  refine lv_topl (fun x57 ex57 => ?_)
  refine lv_lstore (lv' := [(9, .long x57), (7, .long x42), (5, .long x27), (3, .long x13), (0, .ref (o 0)), (1, .int (nI x)), (2, .int (nI y))]) hx hb dX0_isMiddleAbove_57 hl (by decide) rfl (fun ls hl => ?_)
  refine lv_lload_n hx hb dX0_isMiddleAbove_59 rfl (lv_at hl 3 rfl) ?_
  refine lv_lload hx hb dX0_isMiddleAbove_60 (lv_at hl 1 rfl) ?_
  refine lv_ladd hx hb dX0_isMiddleAbove_62 ?_
  refine lv_lload hx hb dX0_isMiddleAbove_63 (lv_at hl 2 rfl) ?_
  refine lv_lsub hx hb dX0_isMiddleAbove_65 ?_
  refine lv_lload hx hb dX0_isMiddleAbove_66 (lv_at hl 0 rfl) ?_
  refine lv_lsub hx hb dX0_isMiddleAbove_68 ?_
  refine lv_topl (fun x69 ex69 => ?_)
  refine lv_lstore (lv' := [(11, .long x69), (9, .long x57), (7, .long x42), (5, .long x27), (3, .long x13), (0, .ref (o 0)), (1, .int (nI x)), (2, .int (nI y))]) hx hb dX0_isMiddleAbove_69 hl (by decide) rfl (fun ls hl => ?_)
  refine lv_ldc2 (v := 2) hx hb hown (hts (.constantLong RX0 169 (2)) (by decide +kernel)) dX0_isMiddleAbove_71 ?_
  refine lv_lload_n hx hb dX0_isMiddleAbove_74 rfl (lv_at hl 4 rfl) ?_
  refine lv_lload hx hb dX0_isMiddleAbove_75 (lv_at hl 2 rfl) ?_
  refine lv_lmul hx hb dX0_isMiddleAbove_77 ?_
  refine lv_lload hx hb dX0_isMiddleAbove_78 (lv_at hl 3 rfl) ?_
  refine lv_lload hx hb dX0_isMiddleAbove_80 (lv_at hl 1 rfl) ?_
  refine lv_lmul hx hb dX0_isMiddleAbove_82 ?_
  refine lv_lsub hx hb dX0_isMiddleAbove_83 ?_
  refine lv_lmul hx hb dX0_isMiddleAbove_84 ?_
  refine lv_topl (fun x85 ex85 => ?_)
  refine lv_lstore (lv' := [(13, .long x85), (11, .long x69), (9, .long x57), (7, .long x42), (5, .long x27), (3, .long x13), (0, .ref (o 0)), (1, .int (nI x)), (2, .int (nI y))]) hx hb dX0_isMiddleAbove_85 hl (by decide) rfl (fun ls hl => ?_)
  refine lv_aload_n hx hb dX0_isMiddleAbove_87 rfl (lv_at hl 6 rfl) ?_
  refine va_get (D := D) (ci := 0) (v := .int tw) (C := RX0) (T := TX0) (N := 11) hx hb hts hin0 hown hK hP 0 rfl rfl 2 (by decide) (hts (.fieldLink RX0 16 "HeightLines" "twiceHeight" "I") (by decide +kernel)) (fun _ h9 => h9) rfl dX0_isMiddleAbove_88 ?_
  refine lv_i2l hx hb dX0_isMiddleAbove_91 rfl ?_
  refine lv_lload hx hb dX0_isMiddleAbove_92 (lv_at hl 1 rfl) ?_
  refine lv_lmul hx hb dX0_isMiddleAbove_94 ?_
  refine lv_topl (fun x95 ex95 => ?_)
  refine lv_lstore (lv' := [(15, .long x95), (13, .long x85), (11, .long x69), (9, .long x57), (7, .long x42), (5, .long x27), (3, .long x13), (0, .ref (o 0)), (1, .int (nI x)), (2, .int (nI y))]) hx hb dX0_isMiddleAbove_95 hl (by decide) rfl (fun ls hl => ?_)
  refine lv_lload hx hb dX0_isMiddleAbove_97 (lv_at hl 2 rfl) ?_
  refine lv_lconst (v := 0) hx hb dX0_isMiddleAbove_99 (by decide) ?_
  refine W.lcmp hx hb dX0_isMiddleAbove_100 ?_
  refine lv_if_le (tgt := 120) hx hb dX0_isMiddleAbove_101 (by decide) (fun c101 => ?_) (fun c101 => ?_)
  · refine lv_lload hx hb dX0_isMiddleAbove_120 (lv_at hl 1 rfl) ?_
    refine lv_lload hx hb dX0_isMiddleAbove_122 (lv_at hl 0 rfl) ?_
    refine W.lcmp hx hb dX0_isMiddleAbove_124 ?_
    refine lv_if_ge (tgt := 132) hx hb dX0_isMiddleAbove_125 (by decide) (fun c125 => ?_) (fun c125 => ?_)
    · refine lv_iconst (v := 0) hx hb dX0_isMiddleAbove_132 (by decide) ?_
      exact W.zret (v := 0) (ty := .boolean) hx hb hr rfl (fun t ht hW => ⟨⟨_, (), rfl, bI_z (by unfold mdB; rw [(mid_2 (lo := x69) (mi := x85) (lv := x95) (a := f x y) (b := f (x + 1) y) (c := f (x + 1) (y + 1)) (d := f x (y + 1)) (by rw [ex69, ex13, ex27, ex42, ex57, ← gf x y (by omega) (by omega), ← gf (x + 1) y (by omega) (by omega), ← gf (x + 1) (y + 1) (by omega) (by omega), ← gf x (y + 1) (by omega) (by omega)]; rfl) (by rw [ex85, ex13, ex27, ex42, ex57, ← gf x y (by omega) (by omega), ← gf (x + 1) y (by omega) (by omega), ← gf (x + 1) (y + 1) (by omega) (by omega), ← gf x (y + 1) (by omega) (by omega)]; rfl) ex95 c101)]; exact decide_eq_false (Int64.not_lt.mpr ((lg_cmp_ge _ _).mp c125))), trivial⟩, hS.F ht⟩) hS.2.2 dX0_isMiddleAbove_133
    · refine lv_iconst (v := 1) hx hb dX0_isMiddleAbove_128 (by decide) ?_
      refine lv_goto (tgt := 133) hx hb dX0_isMiddleAbove_129 (by decide) ?_
      exact W.zret (v := 1) (ty := .boolean) hx hb hr rfl (fun t ht hW => ⟨⟨_, (), rfl, bI_1 (by unfold mdB; rw [(mid_2 (lo := x69) (mi := x85) (lv := x95) (a := f x y) (b := f (x + 1) y) (c := f (x + 1) (y + 1)) (d := f x (y + 1)) (by rw [ex69, ex13, ex27, ex42, ex57, ← gf x y (by omega) (by omega), ← gf (x + 1) y (by omega) (by omega), ← gf (x + 1) (y + 1) (by omega) (by omega), ← gf x (y + 1) (by omega) (by omega)]; rfl) (by rw [ex85, ex13, ex27, ex42, ex57, ← gf x y (by omega) (by omega), ← gf (x + 1) y (by omega) (by omega), ← gf (x + 1) (y + 1) (by omega) (by omega), ← gf x (y + 1) (by omega) (by omega)]; rfl) ex95 c101)]; exact decide_eq_true (Int64.not_le.mp (fun z => c125 ((lg_cmp_ge _ _).mpr z)))), trivial⟩, hS.F ht⟩) hS.2.2 dX0_isMiddleAbove_133
  · refine lv_lload hx hb dX0_isMiddleAbove_104 (lv_at hl 1 rfl) ?_
    refine lv_lload hx hb dX0_isMiddleAbove_106 (lv_at hl 0 rfl) ?_
    refine W.lcmp hx hb dX0_isMiddleAbove_108 ?_
    refine lv_if_le (tgt := 116) hx hb dX0_isMiddleAbove_109 (by decide) (fun c109 => ?_) (fun c109 => ?_)
    · refine lv_iconst (v := 0) hx hb dX0_isMiddleAbove_116 (by decide) ?_
      refine lv_goto (tgt := 133) hx hb dX0_isMiddleAbove_117 (by decide) ?_
      exact W.zret (v := 0) (ty := .boolean) hx hb hr rfl (fun t ht hW => ⟨⟨_, (), rfl, bI_z (by unfold mdB; rw [(mid_1 (lo := x69) (mi := x85) (lv := x95) (a := f x y) (b := f (x + 1) y) (c := f (x + 1) (y + 1)) (d := f x (y + 1)) (by rw [ex69, ex13, ex27, ex42, ex57, ← gf x y (by omega) (by omega), ← gf (x + 1) y (by omega) (by omega), ← gf (x + 1) (y + 1) (by omega) (by omega), ← gf x (y + 1) (by omega) (by omega)]; rfl) (by rw [ex85, ex13, ex27, ex42, ex57, ← gf x y (by omega) (by omega), ← gf (x + 1) y (by omega) (by omega), ← gf (x + 1) (y + 1) (by omega) (by omega), ← gf x (y + 1) (by omega) (by omega)]; rfl) ex95 c101)]; exact decide_eq_false (Int64.not_lt.mpr ((lg_cmp_le _ _).mp c109))), trivial⟩, hS.F ht⟩) hS.2.2 dX0_isMiddleAbove_133
    · refine lv_iconst (v := 1) hx hb dX0_isMiddleAbove_112 (by decide) ?_
      refine lv_goto (tgt := 133) hx hb dX0_isMiddleAbove_113 (by decide) ?_
      exact W.zret (v := 1) (ty := .boolean) hx hb hr rfl (fun t ht hW => ⟨⟨_, (), rfl, bI_1 (by unfold mdB; rw [(mid_1 (lo := x69) (mi := x85) (lv := x95) (a := f x y) (b := f (x + 1) y) (c := f (x + 1) (y + 1)) (d := f x (y + 1)) (by rw [ex69, ex13, ex27, ex42, ex57, ← gf x y (by omega) (by omega), ← gf (x + 1) y (by omega) (by omega), ← gf (x + 1) (y + 1) (by omega) (by omega), ← gf x (y + 1) (by omega) (by omega)]; rfl) (by rw [ex85, ex13, ex27, ex42, ex57, ← gf x y (by omega) (by omega), ← gf (x + 1) y (by omega) (by omega), ← gf (x + 1) (y + 1) (by omega) (by omega), ← gf x (y + 1) (by omega) (by omega)]; rfl) ex95 c101)]; exact decide_eq_true (Int64.not_le.mp (fun z => c109 ((lg_cmp_le _ _).mpr z)))), trivial⟩, hS.F ht⟩) hS.2.2 dX0_isMiddleAbove_133
