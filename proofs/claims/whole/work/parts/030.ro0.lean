set_option maxHeartbeats 4000000 in
set_option maxRecDepth 100000 in
/-- isSide -/
theorem c_X0_isSide (l : Launch) (D : va_G) (x : Int32) : roMet l yX0_isSide wsX0_isSide ({ frames := 0, cells := 0, slots := 0, locals := 0 } : Room) D [] [] [.int x] (fun r => r = bI (decide (2 ≤ x) && decide (x ≤ 12))) := by
  refine Met.ofW (cc := cX0_isSide) (maxL := 1) (ret := (some .boolean)) (by decide) rfl ?_
  intro p e s m args below meth c s₁ B hml hv
  obtain ⟨rfl, hP, hK⟩ := hv
  have hx := B.exec
  have hb := B.bytes
  have hr := B.returns
  have hts := atoms_spec (ws := wsX0_isSide) B.pre
  have hown : s.vm.findClass RX0 = some m.cls := findClass_of_methodNamed B.named
  have hlocks := B.notSynchronized
  have hS : va_S (fun _ => False) s.heap s.heap [] := va_S.rf
  have hP : va_P D vwCl [] s.heap := hP
  have hl := lv_entry ([.int x]) (n := 1) (Nat.le_of_ble_eq_true rfl)
  rw [lg_entry_eq]
  generalize (lg_sl ([.int x]) ++ List.replicate (1 - (lg_sl ([.int x])).length) Slot.unset).toArray = ls at hl ⊢
  have hl : lv_has ls 1 [(0, .int x)] := hl
  refine lv_iload_n hx hb dX0_isSide_0 rfl (lv_at hl 0 rfl) ?_
  refine lv_iconst (v := 2) hx hb dX0_isSide_1 (by decide) ?_
  refine lv_icmp_lt (tgt := 15) hx hb dX0_isSide_2 (by decide) (fun c2 => ?_) (fun c2 => ?_)
  · refine lv_iconst (v := 0) hx hb dX0_isSide_15 (by decide) ?_
    exact W.zret (v := 0) (ty := .boolean) hx hb hr rfl (fun t ht hW => ⟨⟨_, (), rfl, by first | (simp_all [bI]; done) | (simp_all [bI, Int32.lt_iff_toInt_lt, Int32.le_iff_toInt_le]; try omega), trivial⟩, hS.F ht⟩) hS.2.2 dX0_isSide_16
  · refine lv_iload_n hx hb dX0_isSide_5 rfl (lv_at hl 0 rfl) ?_
    refine lv_bipush (v := 12) hx hb dX0_isSide_6 (by decide) ?_
    refine lv_icmp_gt (tgt := 15) hx hb dX0_isSide_8 (by decide) (fun c8 => ?_) (fun c8 => ?_)
    · refine lv_iconst (v := 0) hx hb dX0_isSide_15 (by decide) ?_
      exact W.zret (v := 0) (ty := .boolean) hx hb hr rfl (fun t ht hW => ⟨⟨_, (), rfl, by first | (simp_all [bI]; done) | (simp_all [bI, Int32.lt_iff_toInt_lt, Int32.le_iff_toInt_le]; try omega), trivial⟩, hS.F ht⟩) hS.2.2 dX0_isSide_16
    · refine lv_iconst (v := 1) hx hb dX0_isSide_11 (by decide) ?_
      refine lv_goto (tgt := 16) hx hb dX0_isSide_12 (by decide) ?_
      exact W.zret (v := 1) (ty := .boolean) hx hb hr rfl (fun t ht hW => ⟨⟨_, (), rfl, by first | (simp_all [bI]; done) | (simp_all [bI, Int32.lt_iff_toInt_lt, Int32.le_iff_toInt_le]; try omega), trivial⟩, hS.F ht⟩) hS.2.2 dX0_isSide_16

set_option maxHeartbeats 4000000 in
set_option maxRecDepth 100000 in
/-- hasRow -/
theorem c_X0_hasRow (l : Launch) (D : va_G) (o : Nat → Nat) (cI : ClassId) (co ro tw op ch : Int32) (sm nx bf od st ow : Nat → Int32) (y : Int32) : roMet l yX0_hasRow wsX0_hasRow ({ frames := 0, cells := 0, slots := 0, locals := 0 } : Room) D (W0 o cI co ro tw op ch sm nx bf od st ow) [(cI, .int)] [.ref (o 0), .int y] (fun r => r = bI (decide (0 ≤ y) && decide (y < ro))) := by
  refine Met.ofW (cc := cX0_hasRow) (maxL := 2) (ret := (some .boolean)) (by decide) rfl ?_
  intro p e s m args below meth c s₁ B hml hv
  obtain ⟨rfl, hP, hK⟩ := hv
  have hx := B.exec
  have hb := B.bytes
  have hr := B.returns
  have hts := atoms_spec (ws := wsX0_hasRow) B.pre
  have hown : s.vm.findClass RX0 = some m.cls := findClass_of_methodNamed B.named
  have hlocks := B.notSynchronized
  have hin0 : ∀ w ∈ u_ws RX0 TX0 11, w ∈ wsX0_hasRow := by decide +kernel
  have hS : va_S (fun _ => False) s.heap s.heap [] := va_S.rf
  have hP : va_P D vwCl (W0 o cI co ro tw op ch sm nx bf od st ow) s.heap := hP
  have hl := lv_entry ([.ref (o 0), .int y]) (n := 2) (Nat.le_of_ble_eq_true rfl)
  rw [lg_entry_eq]
  generalize (lg_sl ([.ref (o 0), .int y]) ++ List.replicate (2 - (lg_sl ([.ref (o 0), .int y])).length) Slot.unset).toArray = ls at hl ⊢
  have hl : lv_has ls 2 [(0, .ref (o 0)), (1, .int y)] := hl
  refine lv_iload_n hx hb dX0_hasRow_0 rfl (lv_at hl 1 rfl) ?_
  refine lv_if_lt (tgt := 16) hx hb dX0_hasRow_1 (by decide) (fun c1 => ?_) (fun c1 => ?_)
  · refine lv_iconst (v := 0) hx hb dX0_hasRow_16 (by decide) ?_
    exact W.zret (v := 0) (ty := .boolean) hx hb hr rfl (fun t ht hW => ⟨⟨_, (), rfl, by first | (simp_all [bI]; done) | (simp_all [bI, Int32.lt_iff_toInt_lt, Int32.le_iff_toInt_le]; try omega), trivial⟩, hS.F ht⟩) hS.2.2 dX0_hasRow_17
  · refine lv_iload_n hx hb dX0_hasRow_4 rfl (lv_at hl 1 rfl) ?_
    refine lv_aload_n hx hb dX0_hasRow_5 rfl (lv_at hl 0 rfl) ?_
    refine va_get (D := D) (ci := 0) (v := .int ro) (C := RX0) (T := TX0) (N := 11) hx hb hts hin0 hown hK hP 0 rfl rfl 1 (by decide) (hts (.fieldLink RX0 13 "HeightLines" "rows" "I") (by decide +kernel)) (fun _ h9 => h9) rfl dX0_hasRow_6 ?_
    refine lv_icmp_ge (tgt := 16) hx hb dX0_hasRow_9 (by decide) (fun c9 => ?_) (fun c9 => ?_)
    · refine lv_iconst (v := 0) hx hb dX0_hasRow_16 (by decide) ?_
      exact W.zret (v := 0) (ty := .boolean) hx hb hr rfl (fun t ht hW => ⟨⟨_, (), rfl, by first | (simp_all [bI]; done) | (simp_all [bI, Int32.lt_iff_toInt_lt, Int32.le_iff_toInt_le]; try omega), trivial⟩, hS.F ht⟩) hS.2.2 dX0_hasRow_17
    · refine lv_iconst (v := 1) hx hb dX0_hasRow_12 (by decide) ?_
      refine lv_goto (tgt := 17) hx hb dX0_hasRow_13 (by decide) ?_
      exact W.zret (v := 1) (ty := .boolean) hx hb hr rfl (fun t ht hW => ⟨⟨_, (), rfl, by first | (simp_all [bI]; done) | (simp_all [bI, Int32.lt_iff_toInt_lt, Int32.le_iff_toInt_le]; try omega), trivial⟩, hS.F ht⟩) hS.2.2 dX0_hasRow_17

set_option maxHeartbeats 4000000 in
set_option maxRecDepth 100000 in
/-- hasChain -/
theorem c_X0_hasChain (l : Launch) (D : va_G) (o : Nat → Nat) (cI : ClassId) (co ro tw op ch : Int32) (sm nx bf od st ow : Nat → Int32) (y : Int32) : roMet l yX0_hasChain wsX0_hasChain ({ frames := 0, cells := 0, slots := 0, locals := 0 } : Room) D (W0 o cI co ro tw op ch sm nx bf od st ow) [(cI, .int)] [.ref (o 0), .int y] (fun r => r = bI (decide (0 ≤ y) && decide (y < ch))) := by
  refine Met.ofW (cc := cX0_hasChain) (maxL := 2) (ret := (some .boolean)) (by decide) rfl ?_
  intro p e s m args below meth c s₁ B hml hv
  obtain ⟨rfl, hP, hK⟩ := hv
  have hx := B.exec
  have hb := B.bytes
  have hr := B.returns
  have hts := atoms_spec (ws := wsX0_hasChain) B.pre
  have hown : s.vm.findClass RX0 = some m.cls := findClass_of_methodNamed B.named
  have hlocks := B.notSynchronized
  have hin0 : ∀ w ∈ u_ws RX0 TX0 11, w ∈ wsX0_hasChain := by decide +kernel
  have hS : va_S (fun _ => False) s.heap s.heap [] := va_S.rf
  have hP : va_P D vwCl (W0 o cI co ro tw op ch sm nx bf od st ow) s.heap := hP
  have hl := lv_entry ([.ref (o 0), .int y]) (n := 2) (Nat.le_of_ble_eq_true rfl)
  rw [lg_entry_eq]
  generalize (lg_sl ([.ref (o 0), .int y]) ++ List.replicate (2 - (lg_sl ([.ref (o 0), .int y])).length) Slot.unset).toArray = ls at hl ⊢
  have hl : lv_has ls 2 [(0, .ref (o 0)), (1, .int y)] := hl
  refine lv_iload_n hx hb dX0_hasChain_0 rfl (lv_at hl 1 rfl) ?_
  refine lv_if_lt (tgt := 16) hx hb dX0_hasChain_1 (by decide) (fun c1 => ?_) (fun c1 => ?_)
  · refine lv_iconst (v := 0) hx hb dX0_hasChain_16 (by decide) ?_
    exact W.zret (v := 0) (ty := .boolean) hx hb hr rfl (fun t ht hW => ⟨⟨_, (), rfl, by first | (simp_all [bI]; done) | (simp_all [bI, Int32.lt_iff_toInt_lt, Int32.le_iff_toInt_le]; try omega), trivial⟩, hS.F ht⟩) hS.2.2 dX0_hasChain_17
  · refine lv_iload_n hx hb dX0_hasChain_4 rfl (lv_at hl 1 rfl) ?_
    refine lv_aload_n hx hb dX0_hasChain_5 rfl (lv_at hl 0 rfl) ?_
    refine va_get (D := D) (ci := 0) (v := .int ch) (C := RX0) (T := TX0) (N := 11) hx hb hts hin0 hown hK hP 0 rfl rfl 10 (by decide) (hts (.fieldLink RX0 41 "HeightLines" "chains" "I") (by decide +kernel)) (fun _ h9 => h9) rfl dX0_hasChain_6 ?_
    refine lv_icmp_ge (tgt := 16) hx hb dX0_hasChain_9 (by decide) (fun c9 => ?_) (fun c9 => ?_)
    · refine lv_iconst (v := 0) hx hb dX0_hasChain_16 (by decide) ?_
      exact W.zret (v := 0) (ty := .boolean) hx hb hr rfl (fun t ht hW => ⟨⟨_, (), rfl, by first | (simp_all [bI]; done) | (simp_all [bI, Int32.lt_iff_toInt_lt, Int32.le_iff_toInt_le]; try omega), trivial⟩, hS.F ht⟩) hS.2.2 dX0_hasChain_17
    · refine lv_iconst (v := 1) hx hb dX0_hasChain_12 (by decide) ?_
      refine lv_goto (tgt := 17) hx hb dX0_hasChain_13 (by decide) ?_
      exact W.zret (v := 1) (ty := .boolean) hx hb hr rfl (fun t ht hW => ⟨⟨_, (), rfl, by first | (simp_all [bI]; done) | (simp_all [bI, Int32.lt_iff_toInt_lt, Int32.le_iff_toInt_le]; try omega), trivial⟩, hS.F ht⟩) hS.2.2 dX0_hasChain_17

set_option maxHeartbeats 4000000 in
set_option maxRecDepth 100000 in
/-- sampleAt -/
theorem c_X0_sampleAt (l : Launch) (D : va_G) (o : Nat → Nat) (cI : ClassId) (ro tw op ch : Int32) (sm nx bf od st ow : Nat → Int32) (w : Nat) (x : Nat) (y : Nat) : roMet l yX0_sampleAt wsX0_sampleAt ({ frames := 0, cells := 0, slots := 0, locals := 0 } : Room) D (W0 o cI (nI w) ro tw op ch sm nx bf od st ow) [(cI, .int)] [.ref (o 0), .int (nI x), .int (nI y)] (fun r => r = nI (y * w + x)) := by
  refine Met.ofW (cc := cX0_sampleAt) (maxL := 3) (ret := (some .int)) (by decide) rfl ?_
  intro p e s m args below meth c s₁ B hml hv
  obtain ⟨rfl, hP, hK⟩ := hv
  have hx := B.exec
  have hb := B.bytes
  have hr := B.returns
  have hts := atoms_spec (ws := wsX0_sampleAt) B.pre
  have hown : s.vm.findClass RX0 = some m.cls := findClass_of_methodNamed B.named
  have hlocks := B.notSynchronized
  have hin0 : ∀ w ∈ u_ws RX0 TX0 11, w ∈ wsX0_sampleAt := by decide +kernel
  have hS : va_S (fun _ => False) s.heap s.heap [] := va_S.rf
  have hP : va_P D vwCl (W0 o cI (nI w) ro tw op ch sm nx bf od st ow) s.heap := hP
  have hl := lv_entry ([.ref (o 0), .int (nI x), .int (nI y)]) (n := 3) (Nat.le_of_ble_eq_true rfl)
  rw [lg_entry_eq]
  generalize (lg_sl ([.ref (o 0), .int (nI x), .int (nI y)]) ++ List.replicate (3 - (lg_sl ([.ref (o 0), .int (nI x), .int (nI y)])).length) Slot.unset).toArray = ls at hl ⊢
  have hl : lv_has ls 3 [(0, .ref (o 0)), (1, .int (nI x)), (2, .int (nI y))] := hl
  refine lv_iload_n hx hb dX0_sampleAt_0 rfl (lv_at hl 2 rfl) ?_
  refine lv_aload_n hx hb dX0_sampleAt_1 rfl (lv_at hl 0 rfl) ?_
  refine va_get (D := D) (ci := 0) (v := .int (nI w)) (C := RX0) (T := TX0) (N := 11) hx hb hts hin0 hown hK hP 0 rfl rfl 0 (by decide) (hts (.fieldLink RX0 9 "HeightLines" "columns" "I") (by decide +kernel)) (fun _ h9 => h9) rfl dX0_sampleAt_2 ?_
  refine lv_imul hx hb dX0_sampleAt_5 ?_
  refine lv_iload_n hx hb dX0_sampleAt_6 rfl (lv_at hl 1 rfl) ?_
  refine lv_iadd hx hb dX0_sampleAt_7 ?_
  exact W.iret (v := ((nI y * (nI w)) + nI x)) hx hb hr (fun t ht hW => ⟨⟨_, (), rfl, by rw [pk_mul, nI_add], trivial⟩, hS.F ht⟩) hS.2.2 dX0_sampleAt_8

set_option maxHeartbeats 4000000 in
set_option maxRecDepth 100000 in
/-- rightwardEdges -/
theorem c_X0_rightwardEdges (l : Launch) (D : va_G) (o : Nat → Nat) (cI : ClassId) (tw op ch : Int32) (sm nx bf od st ow : Nat → Int32) (w : Nat) (h : Nat) (hw : 1 ≤ w) : roMet l yX0_rightwardEdges wsX0_rightwardEdges ({ frames := 0, cells := 0, slots := 0, locals := 0 } : Room) D (W0 o cI (nI w) (nI h) tw op ch sm nx bf od st ow) [(cI, .int)] [.ref (o 0)] (fun r => r = nI (nR w h)) := by
  refine Met.ofW (cc := cX0_rightwardEdges) (maxL := 1) (ret := (some .int)) (by decide) rfl ?_
  intro p e s m args below meth c s₁ B hml hv
  obtain ⟨rfl, hP, hK⟩ := hv
  have hx := B.exec
  have hb := B.bytes
  have hr := B.returns
  have hts := atoms_spec (ws := wsX0_rightwardEdges) B.pre
  have hown : s.vm.findClass RX0 = some m.cls := findClass_of_methodNamed B.named
  have hlocks := B.notSynchronized
  have hin0 : ∀ w ∈ u_ws RX0 TX0 11, w ∈ wsX0_rightwardEdges := by decide +kernel
  have hS : va_S (fun _ => False) s.heap s.heap [] := va_S.rf
  have hP : va_P D vwCl (W0 o cI (nI w) (nI h) tw op ch sm nx bf od st ow) s.heap := hP
  have hl := lv_entry ([.ref (o 0)]) (n := 1) (Nat.le_of_ble_eq_true rfl)
  rw [lg_entry_eq]
  generalize (lg_sl ([.ref (o 0)]) ++ List.replicate (1 - (lg_sl ([.ref (o 0)])).length) Slot.unset).toArray = ls at hl ⊢
  have hl : lv_has ls 1 [(0, .ref (o 0))] := hl
  refine lv_aload_n hx hb dX0_rightwardEdges_0 rfl (lv_at hl 0 rfl) ?_
  refine va_get (D := D) (ci := 0) (v := .int (nI h)) (C := RX0) (T := TX0) (N := 11) hx hb hts hin0 hown hK hP 0 rfl rfl 1 (by decide) (hts (.fieldLink RX0 13 "HeightLines" "rows" "I") (by decide +kernel)) (fun _ h9 => h9) rfl dX0_rightwardEdges_1 ?_
  refine lv_aload_n hx hb dX0_rightwardEdges_4 rfl (lv_at hl 0 rfl) ?_
  refine va_get (D := D) (ci := 0) (v := .int (nI w)) (C := RX0) (T := TX0) (N := 11) hx hb hts hin0 hown hK hP 0 rfl rfl 0 (by decide) (hts (.fieldLink RX0 9 "HeightLines" "columns" "I") (by decide +kernel)) (fun _ h9 => h9) rfl dX0_rightwardEdges_5 ?_
  refine lv_iconst (v := 1) hx hb dX0_rightwardEdges_8 (by decide) ?_
  refine lv_isub hx hb dX0_rightwardEdges_9 ?_
  refine lv_imul hx hb dX0_rightwardEdges_10 ?_
  exact W.iret (v := ((nI h) * ((nI w) - 1))) hx hb hr (fun t ht hW => ⟨⟨_, (), rfl, by rw [nI_m1 hw, pk_mul]; rfl, trivial⟩, hS.F ht⟩) hS.2.2 dX0_rightwardEdges_11

set_option maxHeartbeats 4000000 in
set_option maxRecDepth 100000 in
/-- rightwardEdge -/
theorem c_X0_rightwardEdge (l : Launch) (D : va_G) (o : Nat → Nat) (cI : ClassId) (ro tw op ch : Int32) (sm nx bf od st ow : Nat → Int32) (w : Nat) (x : Nat) (y : Nat) (hw : 1 ≤ w) : roMet l yX0_rightwardEdge wsX0_rightwardEdge ({ frames := 0, cells := 0, slots := 0, locals := 0 } : Room) D (W0 o cI (nI w) ro tw op ch sm nx bf od st ow) [(cI, .int)] [.ref (o 0), .int (nI x), .int (nI y)] (fun r => r = nI (y * (w - 1) + x)) := by
  refine Met.ofW (cc := cX0_rightwardEdge) (maxL := 3) (ret := (some .int)) (by decide) rfl ?_
  intro p e s m args below meth c s₁ B hml hv
  obtain ⟨rfl, hP, hK⟩ := hv
  have hx := B.exec
  have hb := B.bytes
  have hr := B.returns
  have hts := atoms_spec (ws := wsX0_rightwardEdge) B.pre
  have hown : s.vm.findClass RX0 = some m.cls := findClass_of_methodNamed B.named
  have hlocks := B.notSynchronized
  have hin0 : ∀ w ∈ u_ws RX0 TX0 11, w ∈ wsX0_rightwardEdge := by decide +kernel
  have hS : va_S (fun _ => False) s.heap s.heap [] := va_S.rf
  have hP : va_P D vwCl (W0 o cI (nI w) ro tw op ch sm nx bf od st ow) s.heap := hP
  have hl := lv_entry ([.ref (o 0), .int (nI x), .int (nI y)]) (n := 3) (Nat.le_of_ble_eq_true rfl)
  rw [lg_entry_eq]
  generalize (lg_sl ([.ref (o 0), .int (nI x), .int (nI y)]) ++ List.replicate (3 - (lg_sl ([.ref (o 0), .int (nI x), .int (nI y)])).length) Slot.unset).toArray = ls at hl ⊢
  have hl : lv_has ls 3 [(0, .ref (o 0)), (1, .int (nI x)), (2, .int (nI y))] := hl
  refine lv_iload_n hx hb dX0_rightwardEdge_0 rfl (lv_at hl 2 rfl) ?_
  refine lv_aload_n hx hb dX0_rightwardEdge_1 rfl (lv_at hl 0 rfl) ?_
  refine va_get (D := D) (ci := 0) (v := .int (nI w)) (C := RX0) (T := TX0) (N := 11) hx hb hts hin0 hown hK hP 0 rfl rfl 0 (by decide) (hts (.fieldLink RX0 9 "HeightLines" "columns" "I") (by decide +kernel)) (fun _ h9 => h9) rfl dX0_rightwardEdge_2 ?_
  refine lv_iconst (v := 1) hx hb dX0_rightwardEdge_5 (by decide) ?_
  refine lv_isub hx hb dX0_rightwardEdge_6 ?_
  refine lv_imul hx hb dX0_rightwardEdge_7 ?_
  refine lv_iload_n hx hb dX0_rightwardEdge_8 rfl (lv_at hl 1 rfl) ?_
  refine lv_iadd hx hb dX0_rightwardEdge_9 ?_
  exact W.iret (v := ((nI y * ((nI w) - 1)) + nI x)) hx hb hr (fun t ht hW => ⟨⟨_, (), rfl, by rw [nI_m1 hw, pk_mul, nI_add], trivial⟩, hS.F ht⟩) hS.2.2 dX0_rightwardEdge_10

set_option maxHeartbeats 4000000 in
set_option maxRecDepth 100000 in
/-- isAbove -/
theorem c_X0_isAbove (l : Launch) (D : va_G) (o : Nat → Nat) (cI : ClassId) (co ro tw op ch : Int32) (sm nx bf od st ow : Nat → Int32) (k : Nat) (hk : k < 144) : roMet l yX0_isAbove wsX0_isAbove ({ frames := 0, cells := 0, slots := 0, locals := 0 } : Room) D (W0 o cI co ro tw op ch sm nx bf od st ow) [(cI, .int)] [.ref (o 0), .int (nI k)] (fun r => r = bI (abI tw (sm k))) := by
  refine Met.ofW (cc := cX0_isAbove) (maxL := 2) (ret := (some .boolean)) (by decide) rfl ?_
  intro p e s m args below meth c s₁ B hml hv
  obtain ⟨rfl, hP, hK⟩ := hv
  have hx := B.exec
  have hb := B.bytes
  have hr := B.returns
  have hts := atoms_spec (ws := wsX0_isAbove) B.pre
  have hown : s.vm.findClass RX0 = some m.cls := findClass_of_methodNamed B.named
  have hlocks := B.notSynchronized
  have hin0 : ∀ w ∈ u_ws RX0 TX0 11, w ∈ wsX0_isAbove := by decide +kernel
  have hS : va_S (fun _ => False) s.heap s.heap [] := va_S.rf
  have hP : va_P D vwCl (W0 o cI co ro tw op ch sm nx bf od st ow) s.heap := hP
  have hl := lv_entry ([.ref (o 0), .int (nI k)]) (n := 2) (Nat.le_of_ble_eq_true rfl)
  rw [lg_entry_eq]
  generalize (lg_sl ([.ref (o 0), .int (nI k)]) ++ List.replicate (2 - (lg_sl ([.ref (o 0), .int (nI k)])).length) Slot.unset).toArray = ls at hl ⊢
  have hl : lv_has ls 2 [(0, .ref (o 0)), (1, .int (nI k))] := hl
  refine lv_iconst (v := 2) hx hb dX0_isAbove_0 (by decide) ?_
  refine lv_aload_n hx hb dX0_isAbove_1 rfl (lv_at hl 0 rfl) ?_
  refine va_get (D := D) (ci := 0) (v := .ref (o 1)) (C := RX0) (T := TX0) (N := 11) hx hb hts hin0 hown hK hP 0 rfl rfl 3 (by decide) (hts (.fieldLink RX0 19 "HeightLines" "samples" "[I") (by decide +kernel)) (fun _ h9 => h9) rfl dX0_isAbove_2 ?_
  refine lv_iload_n hx hb dX0_isAbove_5 rfl (lv_at hl 1 rfl) ?_
  refine an_iald (D := D) hx hb hK hP 1 0 rfl rfl (k := k) hk (by decide) dX0_isAbove_6 ?_
  refine lv_imul hx hb dX0_isAbove_7 ?_
  refine lv_aload_n hx hb dX0_isAbove_8 rfl (lv_at hl 0 rfl) ?_
  refine va_get (D := D) (ci := 0) (v := .int tw) (C := RX0) (T := TX0) (N := 11) hx hb hts hin0 hown hK hP 0 rfl rfl 2 (by decide) (hts (.fieldLink RX0 16 "HeightLines" "twiceHeight" "I") (by decide +kernel)) (fun _ h9 => h9) rfl dX0_isAbove_9 ?_
  refine lv_icmp_le (tgt := 19) hx hb dX0_isAbove_12 (by decide) (fun c12 => ?_) (fun c12 => ?_)
  · refine lv_iconst (v := 0) hx hb dX0_isAbove_19 (by decide) ?_
    exact W.zret (v := 0) (ty := .boolean) hx hb hr rfl (fun t ht hW => ⟨⟨_, (), rfl, by first | (simp_all [bI, abI]; done) | (simp_all [bI, abI, Int32.lt_iff_toInt_lt, Int32.le_iff_toInt_le]; try omega), trivial⟩, hS.F ht⟩) hS.2.2 dX0_isAbove_20
  · refine lv_iconst (v := 1) hx hb dX0_isAbove_15 (by decide) ?_
    refine lv_goto (tgt := 20) hx hb dX0_isAbove_16 (by decide) ?_
    exact W.zret (v := 1) (ty := .boolean) hx hb hr rfl (fun t ht hW => ⟨⟨_, (), rfl, by first | (simp_all [bI, abI]; done) | (simp_all [bI, abI, Int32.lt_iff_toInt_lt, Int32.le_iff_toInt_le]; try omega), trivial⟩, hS.F ht⟩) hS.2.2 dX0_isAbove_20
