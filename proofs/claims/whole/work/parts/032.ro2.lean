set_option maxHeartbeats 4000000 in
set_option maxRecDepth 100000 in
theorem c_X1_all (l : Launch) (D : va_G) (o : Nat → Nat) (cI cZ : ClassId) (th tw ch : Int32) (sm od st cl us : Nat → Int32) (w : Nat) (h : Nat) (gw : 1 ≤ w) (gh : 1 ≤ h) : roMet l yX1_all wsX1_all ({ frames := 0, cells := 0, slots := 0, locals := 0 } : Room) D (W1 o cI cZ th (nI w) (nI h) tw ch sm od st cl us) [(cI, .int), (cZ, .boolean)] [.ref (o 0)] (fun r => r = nI (nE w h)) := by
  refine Met.ofW (cc := cX1_all) (maxL := 1) (ret := (some .int)) (by decide) rfl ?_
  intro p e s m args below meth c s₁ B hml hv
  obtain ⟨rfl, hP, hK⟩ := hv
  have hx := B.exec
  have hb := B.bytes
  have hr := B.returns
  have hts := atoms_spec (ws := wsX1_all) B.pre
  have hown : s.vm.findClass RX1 = some m.cls := findClass_of_methodNamed B.named
  have hlocks := B.notSynchronized
  have hin0 : ∀ w ∈ u_ws RX1 TX1 10, w ∈ wsX1_all := by decide +kernel
  have hS : va_S (fun _ => False) s.heap s.heap [] := va_S.rf
  have hP : va_P D vwCl (W1 o cI cZ th (nI w) (nI h) tw ch sm od st cl us) s.heap := hP
  have hl := lv_entry ([.ref (o 0)]) (n := 1) (Nat.le_of_ble_eq_true rfl)
  rw [lg_entry_eq]
  generalize (lg_sl ([.ref (o 0)]) ++ List.replicate (1 - (lg_sl ([.ref (o 0)])).length) Slot.unset).toArray = ls at hl ⊢
  have hl : lv_has ls 1 [(0, .ref (o 0))] := hl
  refine lv_aload_n hx hb dX1_all_0 rfl (lv_at hl 0 rfl) ?_
  refine va_get (D := D) (ci := 1) (v := .int (nI h)) (C := RX1) (T := TX1) (N := 10) hx hb hts hin0 hown hK hP 0 rfl rfl 2 (by decide) (hts (.fieldLink RX1 13 "HeightLinesModel" "h" "I") (by decide +kernel)) (fun _ h9 => h9) rfl dX1_all_1 ?_
  refine lv_aload_n hx hb dX1_all_4 rfl (lv_at hl 0 rfl) ?_
  refine va_get (D := D) (ci := 1) (v := .int (nI w)) (C := RX1) (T := TX1) (N := 10) hx hb hts hin0 hown hK hP 0 rfl rfl 1 (by decide) (hts (.fieldLink RX1 7 "HeightLinesModel" "w" "I") (by decide +kernel)) (fun _ h9 => h9) rfl dX1_all_5 ?_
  refine lv_iconst (v := 1) hx hb dX1_all_8 (by decide) ?_
  refine lv_isub hx hb dX1_all_9 ?_
  rw [show ((nI w) - 1) = nI (w - 1) from nI_m1 (by omega)]
  refine lv_imul hx hb dX1_all_10 ?_
  refine lv_aload_n hx hb dX1_all_11 rfl (lv_at hl 0 rfl) ?_
  refine va_get (D := D) (ci := 1) (v := .int (nI h)) (C := RX1) (T := TX1) (N := 10) hx hb hts hin0 hown hK hP 0 rfl rfl 2 (by decide) (hts (.fieldLink RX1 13 "HeightLinesModel" "h" "I") (by decide +kernel)) (fun _ h9 => h9) rfl dX1_all_12 ?_
  refine lv_iconst (v := 1) hx hb dX1_all_15 (by decide) ?_
  refine lv_isub hx hb dX1_all_16 ?_
  rw [show ((nI h) - 1) = nI (h - 1) from nI_m1 (by omega)]
  refine lv_aload_n hx hb dX1_all_17 rfl (lv_at hl 0 rfl) ?_
  refine va_get (D := D) (ci := 1) (v := .int (nI w)) (C := RX1) (T := TX1) (N := 10) hx hb hts hin0 hown hK hP 0 rfl rfl 1 (by decide) (hts (.fieldLink RX1 7 "HeightLinesModel" "w" "I") (by decide +kernel)) (fun _ h9 => h9) rfl dX1_all_18 ?_
  refine lv_imul hx hb dX1_all_21 ?_
  refine lv_iadd hx hb dX1_all_22 ?_
  exact W.iret (v := (((nI h) * nI (w - 1)) + (nI (h - 1) * (nI w)))) hx hb hr (fun t ht hW => ⟨⟨_, (), rfl, by rw [pk_mul, pk_mul, nI_add]; rfl, trivial⟩, hS.F ht⟩) hS.2.2 dX1_all_23

set_option maxHeartbeats 4000000 in
set_option maxRecDepth 100000 in
theorem c_X1_isAcross (l : Launch) (D : va_G) (o : Nat → Nat) (cI cZ : ClassId) (th tw ch : Int32) (sm od st cl us : Nat → Int32) (w : Nat) (h : Nat) (e0 : Nat) (gw : 2 ≤ w) (gw2 : w ≤ 12) (gh2 : h ≤ 12) (ge : e0 < 264) : roMet l yX1_isAcross wsX1_isAcross ({ frames := 0, cells := 0, slots := 0, locals := 0 } : Room) D (W1 o cI cZ th (nI w) (nI h) tw ch sm od st cl us) [(cI, .int), (cZ, .boolean)] [.ref (o 0), .int (nI e0)] (fun r => r = bI (decide (e0 < nR w h))) := by
  refine Met.ofW (cc := cX1_isAcross) (maxL := 2) (ret := (some .boolean)) (by decide) rfl ?_
  intro p e s m args below meth c s₁ B hml hv
  obtain ⟨rfl, hP, hK⟩ := hv
  have hx := B.exec
  have hb := B.bytes
  have hr := B.returns
  have hts := atoms_spec (ws := wsX1_isAcross) B.pre
  have hown : s.vm.findClass RX1 = some m.cls := findClass_of_methodNamed B.named
  have hlocks := B.notSynchronized
  have hin0 : ∀ w ∈ u_ws RX1 TX1 10, w ∈ wsX1_isAcross := by decide +kernel
  have hS : va_S (fun _ => False) s.heap s.heap [] := va_S.rf
  have hP : va_P D vwCl (W1 o cI cZ th (nI w) (nI h) tw ch sm od st cl us) s.heap := hP
  have hl := lv_entry ([.ref (o 0), .int (nI e0)]) (n := 2) (Nat.le_of_ble_eq_true rfl)
  rw [lg_entry_eq]
  generalize (lg_sl ([.ref (o 0), .int (nI e0)]) ++ List.replicate (2 - (lg_sl ([.ref (o 0), .int (nI e0)])).length) Slot.unset).toArray = ls at hl ⊢
  have hl : lv_has ls 2 [(0, .ref (o 0)), (1, .int (nI e0))] := hl
  refine lv_iload_n hx hb dX1_isAcross_0 rfl (lv_at hl 1 rfl) ?_
  refine lv_aload_n hx hb dX1_isAcross_1 rfl (lv_at hl 0 rfl) ?_
  refine va_get (D := D) (ci := 1) (v := .int (nI h)) (C := RX1) (T := TX1) (N := 10) hx hb hts hin0 hown hK hP 0 rfl rfl 2 (by decide) (hts (.fieldLink RX1 13 "HeightLinesModel" "h" "I") (by decide +kernel)) (fun _ h9 => h9) rfl dX1_isAcross_2 ?_
  refine lv_aload_n hx hb dX1_isAcross_5 rfl (lv_at hl 0 rfl) ?_
  refine va_get (D := D) (ci := 1) (v := .int (nI w)) (C := RX1) (T := TX1) (N := 10) hx hb hts hin0 hown hK hP 0 rfl rfl 1 (by decide) (hts (.fieldLink RX1 7 "HeightLinesModel" "w" "I") (by decide +kernel)) (fun _ h9 => h9) rfl dX1_isAcross_6 ?_
  refine lv_iconst (v := 1) hx hb dX1_isAcross_9 (by decide) ?_
  refine lv_isub hx hb dX1_isAcross_10 ?_
  rw [show ((nI w) - 1) = nI (w - 1) from nI_m1 (by omega)]
  refine lv_imul hx hb dX1_isAcross_11 ?_
  rw [show ((nI h) * nI (w - 1)) = nI (nR w h) from pk_mul _ _]
  refine lv_icmp_ge (tgt := 19) hx hb dX1_isAcross_12 (by decide) (fun c12 => ?_) (fun c12 => ?_)
  · refine lv_iconst (v := 0) hx hb dX1_isAcross_19 (by decide) ?_
    exact W.zret (v := 0) (ty := .boolean) hx hb hr rfl (fun t ht hW => ⟨⟨_, (), rfl, bI_z (decide_eq_false (by rw [nI_leI (nR_lt31 gw2 gh2) (by omega)] at c12; omega)), trivial⟩, hS.F ht⟩) hS.2.2 dX1_isAcross_20
  · refine lv_iconst (v := 1) hx hb dX1_isAcross_15 (by decide) ?_
    refine lv_goto (tgt := 20) hx hb dX1_isAcross_16 (by decide) ?_
    exact W.zret (v := 1) (ty := .boolean) hx hb hr rfl (fun t ht hW => ⟨⟨_, (), rfl, bI_1 (decide_eq_true (by rw [nI_leI (nR_lt31 gw2 gh2) (by omega)] at c12; omega)), trivial⟩, hS.F ht⟩) hS.2.2 dX1_isAcross_20

set_option maxHeartbeats 4000000 in
set_option maxRecDepth 100000 in
theorem c_X1_xOf (l : Launch) (D : va_G) (o : Nat → Nat) (cI cZ : ClassId) (th tw ch : Int32) (sm od st cl us : Nat → Int32) (w : Nat) (h : Nat) (e0 : Nat) (gw : 2 ≤ w) (gw2 : w ≤ 12) (gh2 : h ≤ 12) (ge : e0 < 264) : roMet l yX1_xOf wsX1_xOf ({ frames := 1, cells := 0, slots := 0, locals := 21 } : Room) D (W1 o cI cZ th (nI w) (nI h) tw ch sm od st cl us) [(cI, .int), (cZ, .boolean)] [.ref (o 0), .int (nI e0)] (fun r => r = nI (xE w h e0)) := by
  refine Met.ofW (cc := cX1_xOf) (maxL := 2) (ret := (some .int)) (by decide) rfl ?_
  intro p e s m args below meth c s₁ B hml hv
  obtain ⟨rfl, hP, hK⟩ := hv
  have hx := B.exec
  have hb := B.bytes
  have hr := B.returns
  have hts := atoms_spec (ws := wsX1_xOf) B.pre
  have hown : s.vm.findClass RX1 = some m.cls := findClass_of_methodNamed B.named
  have hlocks := B.notSynchronized
  have hin0 : ∀ w ∈ u_ws RX1 TX1 10, w ∈ wsX1_xOf := by decide +kernel
  have hS : va_S (fun _ => False) s.heap s.heap [] := va_S.rf
  have hP : va_P D vwCl (W1 o cI cZ th (nI w) (nI h) tw ch sm od st cl us) s.heap := hP
  have hl := lv_entry ([.ref (o 0), .int (nI e0)]) (n := 2) (Nat.le_of_ble_eq_true rfl)
  rw [lg_entry_eq]
  generalize (lg_sl ([.ref (o 0), .int (nI e0)]) ++ List.replicate (2 - (lg_sl ([.ref (o 0), .int (nI e0)])).length) Slot.unset).toArray = ls at hl ⊢
  have hl : lv_has ls 2 [(0, .ref (o 0)), (1, .int (nI e0))] := hl
  refine lv_aload_n hx hb dX1_xOf_0 rfl (lv_at hl 0 rfl) ?_
  refine lv_iload_n hx hb dX1_xOf_1 rfl (lv_at hl 1 rfl) ?_
  refine ro_V1 ⟨hx, hb, hml, hown, hts⟩ (c_X1_isAcross l D o cI cZ th tw ch sm od st cl us w h e0 gw gw2 gh2 ge) (cwV 1 hts gX1_xOf_X1_isAcross rfl rfl rfl (by decide +kernel) ⟨Nat.le_of_ble_eq_true rfl, Nat.le_of_ble_eq_true rfl⟩) (va_recv hK hP (ci := 1) (q0 := 0) rfl rfl) hP hK hP hS rfl hl.1 (lv_room (Nat.le_of_ble_eq_true rfl)) dX1_xOf_2 ⟨Nat.le_of_ble_eq_true rfl, Nat.le_of_ble_eq_true rfl⟩ (fun r2 H locs hr2 hP hS => ?_)
  subst hr2
  refine lv_if_eq (tgt := 19) hx hb dX1_xOf_5 (by decide) (fun c5 => ?_) (fun c5 => ?_)
  · refine lv_iload_n hx hb dX1_xOf_19 rfl (lv_at hl 1 rfl) ?_
    refine lv_aload_n hx hb dX1_xOf_20 rfl (lv_at hl 0 rfl) ?_
    refine va_get (D := D) (ci := 1) (v := .int (nI h)) (C := RX1) (T := TX1) (N := 10) hx hb hts hin0 hown hK hP 0 rfl rfl 2 (by decide) (hts (.fieldLink RX1 13 "HeightLinesModel" "h" "I") (by decide +kernel)) (fun _ h9 => h9) rfl dX1_xOf_21 ?_
    refine lv_aload_n hx hb dX1_xOf_24 rfl (lv_at hl 0 rfl) ?_
    refine va_get (D := D) (ci := 1) (v := .int (nI w)) (C := RX1) (T := TX1) (N := 10) hx hb hts hin0 hown hK hP 0 rfl rfl 1 (by decide) (hts (.fieldLink RX1 7 "HeightLinesModel" "w" "I") (by decide +kernel)) (fun _ h9 => h9) rfl dX1_xOf_25 ?_
    refine lv_iconst (v := 1) hx hb dX1_xOf_28 (by decide) ?_
    refine lv_isub hx hb dX1_xOf_29 ?_
    rw [show ((nI w) - 1) = nI (w - 1) from nI_m1 (by omega)]
    refine lv_imul hx hb dX1_xOf_30 ?_
    rw [show ((nI h) * nI (w - 1)) = nI (nR w h) from pk_mul _ _]
    refine lv_isub hx hb dX1_xOf_31 ?_
    refine lv_aload_n hx hb dX1_xOf_32 rfl (lv_at hl 0 rfl) ?_
    refine va_get (D := D) (ci := 1) (v := .int (nI w)) (C := RX1) (T := TX1) (N := 10) hx hb hts hin0 hown hK hP 0 rfl rfl 1 (by decide) (hts (.fieldLink RX1 7 "HeightLinesModel" "w" "I") (by decide +kernel)) (fun _ h9 => h9) rfl dX1_xOf_33 ?_
    refine lv_irem hx hb dX1_xOf_36 (nI_ne0 (by omega) (by omega)) ?_
    exact W.iret (v := ((nI e0 - nI (nR w h)) - (nI e0 - nI (nR w h)) / (nI w) * (nI w))) hx hb hr (fun t ht hW => ⟨⟨_, (), rfl, xE_b gw gw2 gh2 ge (bd_f c5), trivial⟩, hS.F ht⟩) hS.2.2 dX1_xOf_37
  · refine lv_iload_n hx hb dX1_xOf_8 rfl (lv_at hl 1 rfl) ?_
    refine lv_aload_n hx hb dX1_xOf_9 rfl (lv_at hl 0 rfl) ?_
    refine va_get (D := D) (ci := 1) (v := .int (nI w)) (C := RX1) (T := TX1) (N := 10) hx hb hts hin0 hown hK hP 0 rfl rfl 1 (by decide) (hts (.fieldLink RX1 7 "HeightLinesModel" "w" "I") (by decide +kernel)) (fun _ h9 => h9) rfl dX1_xOf_10 ?_
    refine lv_iconst (v := 1) hx hb dX1_xOf_13 (by decide) ?_
    refine lv_isub hx hb dX1_xOf_14 ?_
    rw [show ((nI w) - 1) = nI (w - 1) from nI_m1 (by omega)]
    refine lv_irem hx hb dX1_xOf_15 (nI_ne0 (by omega) (by omega)) ?_
    refine lv_goto (tgt := 37) hx hb dX1_xOf_16 (by decide) ?_
    exact W.iret (v := (nI e0 - nI e0 / nI (w - 1) * nI (w - 1))) hx hb hr (fun t ht hW => ⟨⟨_, (), rfl, xE_a gw gw2 ge (bd_t c5), trivial⟩, hS.F ht⟩) hS.2.2 dX1_xOf_37

set_option maxHeartbeats 4000000 in
set_option maxRecDepth 100000 in
theorem c_X1_yOf (l : Launch) (D : va_G) (o : Nat → Nat) (cI cZ : ClassId) (th tw ch : Int32) (sm od st cl us : Nat → Int32) (w : Nat) (h : Nat) (e0 : Nat) (gw : 2 ≤ w) (gw2 : w ≤ 12) (gh2 : h ≤ 12) (ge : e0 < 264) : roMet l yX1_yOf wsX1_yOf ({ frames := 1, cells := 0, slots := 0, locals := 21 } : Room) D (W1 o cI cZ th (nI w) (nI h) tw ch sm od st cl us) [(cI, .int), (cZ, .boolean)] [.ref (o 0), .int (nI e0)] (fun r => r = nI (yE w h e0)) := by
  refine Met.ofW (cc := cX1_yOf) (maxL := 2) (ret := (some .int)) (by decide) rfl ?_
  intro p e s m args below meth c s₁ B hml hv
  obtain ⟨rfl, hP, hK⟩ := hv
  have hx := B.exec
  have hb := B.bytes
  have hr := B.returns
  have hts := atoms_spec (ws := wsX1_yOf) B.pre
  have hown : s.vm.findClass RX1 = some m.cls := findClass_of_methodNamed B.named
  have hlocks := B.notSynchronized
  have hin0 : ∀ w ∈ u_ws RX1 TX1 10, w ∈ wsX1_yOf := by decide +kernel
  have hS : va_S (fun _ => False) s.heap s.heap [] := va_S.rf
  have hP : va_P D vwCl (W1 o cI cZ th (nI w) (nI h) tw ch sm od st cl us) s.heap := hP
  have hl := lv_entry ([.ref (o 0), .int (nI e0)]) (n := 2) (Nat.le_of_ble_eq_true rfl)
  rw [lg_entry_eq]
  generalize (lg_sl ([.ref (o 0), .int (nI e0)]) ++ List.replicate (2 - (lg_sl ([.ref (o 0), .int (nI e0)])).length) Slot.unset).toArray = ls at hl ⊢
  have hl : lv_has ls 2 [(0, .ref (o 0)), (1, .int (nI e0))] := hl
  refine lv_aload_n hx hb dX1_yOf_0 rfl (lv_at hl 0 rfl) ?_
  refine lv_iload_n hx hb dX1_yOf_1 rfl (lv_at hl 1 rfl) ?_
  refine ro_V1 ⟨hx, hb, hml, hown, hts⟩ (c_X1_isAcross l D o cI cZ th tw ch sm od st cl us w h e0 gw gw2 gh2 ge) (cwV 1 hts gX1_yOf_X1_isAcross rfl rfl rfl (by decide +kernel) ⟨Nat.le_of_ble_eq_true rfl, Nat.le_of_ble_eq_true rfl⟩) (va_recv hK hP (ci := 1) (q0 := 0) rfl rfl) hP hK hP hS rfl hl.1 (lv_room (Nat.le_of_ble_eq_true rfl)) dX1_yOf_2 ⟨Nat.le_of_ble_eq_true rfl, Nat.le_of_ble_eq_true rfl⟩ (fun r2 H locs hr2 hP hS => ?_)
  subst hr2
  refine lv_if_eq (tgt := 19) hx hb dX1_yOf_5 (by decide) (fun c5 => ?_) (fun c5 => ?_)
  · refine lv_iload_n hx hb dX1_yOf_19 rfl (lv_at hl 1 rfl) ?_
    refine lv_aload_n hx hb dX1_yOf_20 rfl (lv_at hl 0 rfl) ?_
    refine va_get (D := D) (ci := 1) (v := .int (nI h)) (C := RX1) (T := TX1) (N := 10) hx hb hts hin0 hown hK hP 0 rfl rfl 2 (by decide) (hts (.fieldLink RX1 13 "HeightLinesModel" "h" "I") (by decide +kernel)) (fun _ h9 => h9) rfl dX1_yOf_21 ?_
    refine lv_aload_n hx hb dX1_yOf_24 rfl (lv_at hl 0 rfl) ?_
    refine va_get (D := D) (ci := 1) (v := .int (nI w)) (C := RX1) (T := TX1) (N := 10) hx hb hts hin0 hown hK hP 0 rfl rfl 1 (by decide) (hts (.fieldLink RX1 7 "HeightLinesModel" "w" "I") (by decide +kernel)) (fun _ h9 => h9) rfl dX1_yOf_25 ?_
    refine lv_iconst (v := 1) hx hb dX1_yOf_28 (by decide) ?_
    refine lv_isub hx hb dX1_yOf_29 ?_
    rw [show ((nI w) - 1) = nI (w - 1) from nI_m1 (by omega)]
    refine lv_imul hx hb dX1_yOf_30 ?_
    rw [show ((nI h) * nI (w - 1)) = nI (nR w h) from pk_mul _ _]
    refine lv_isub hx hb dX1_yOf_31 ?_
    refine lv_aload_n hx hb dX1_yOf_32 rfl (lv_at hl 0 rfl) ?_
    refine va_get (D := D) (ci := 1) (v := .int (nI w)) (C := RX1) (T := TX1) (N := 10) hx hb hts hin0 hown hK hP 0 rfl rfl 1 (by decide) (hts (.fieldLink RX1 7 "HeightLinesModel" "w" "I") (by decide +kernel)) (fun _ h9 => h9) rfl dX1_yOf_33 ?_
    refine lv_idiv hx hb dX1_yOf_36 (nI_ne0 (by omega) (by omega)) ?_
    exact W.iret (v := ((nI e0 - nI (nR w h)) / (nI w))) hx hb hr (fun t ht hW => ⟨⟨_, (), rfl, yE_b gw gw2 gh2 ge (bd_f c5), trivial⟩, hS.F ht⟩) hS.2.2 dX1_yOf_37
  · refine lv_iload_n hx hb dX1_yOf_8 rfl (lv_at hl 1 rfl) ?_
    refine lv_aload_n hx hb dX1_yOf_9 rfl (lv_at hl 0 rfl) ?_
    refine va_get (D := D) (ci := 1) (v := .int (nI w)) (C := RX1) (T := TX1) (N := 10) hx hb hts hin0 hown hK hP 0 rfl rfl 1 (by decide) (hts (.fieldLink RX1 7 "HeightLinesModel" "w" "I") (by decide +kernel)) (fun _ h9 => h9) rfl dX1_yOf_10 ?_
    refine lv_iconst (v := 1) hx hb dX1_yOf_13 (by decide) ?_
    refine lv_isub hx hb dX1_yOf_14 ?_
    rw [show ((nI w) - 1) = nI (w - 1) from nI_m1 (by omega)]
    refine lv_idiv hx hb dX1_yOf_15 (nI_ne0 (by omega) (by omega)) ?_
    refine lv_goto (tgt := 37) hx hb dX1_yOf_16 (by decide) ?_
    exact W.iret (v := (nI e0 / nI (w - 1))) hx hb hr (fun t ht hW => ⟨⟨_, (), rfl, yE_a gw gw2 ge (bd_t c5), trivial⟩, hS.F ht⟩) hS.2.2 dX1_yOf_37

set_option maxHeartbeats 4000000 in
set_option maxRecDepth 100000 in
theorem c_X1_at (l : Launch) (D : va_G) (o : Nat → Nat) (cI cZ : ClassId) (th tw ch : Int32) (sm od st cl us : Nat → Int32) (w : Nat) (h : Nat) (f : Nat → Nat → Int32) (x : Nat) (y : Nat) (gw2 : w ≤ 12) (gh2 : h ≤ 12) (gf : ∀ x y, x < w → y < h → sm (12 * y + x) = f x y) (gx : x < w) (gy : y < h) : roMet l yX1_at wsX1_at ({ frames := 0, cells := 0, slots := 0, locals := 0 } : Room) D (W1 o cI cZ th (nI w) (nI h) tw ch sm od st cl us) [(cI, .int), (cZ, .boolean)] [.ref (o 0), .int (nI x), .int (nI y)] (fun r => r = f x y) := by
  refine Met.ofW (cc := cX1_at) (maxL := 3) (ret := (some .int)) (by decide) rfl ?_
  intro p e s m args below meth c s₁ B hml hv
  obtain ⟨rfl, hP, hK⟩ := hv
  have hx := B.exec
  have hb := B.bytes
  have hr := B.returns
  have hts := atoms_spec (ws := wsX1_at) B.pre
  have hown : s.vm.findClass RX1 = some m.cls := findClass_of_methodNamed B.named
  have hlocks := B.notSynchronized
  have hin0 : ∀ w ∈ u_ws RX1 TX1 10, w ∈ wsX1_at := by decide +kernel
  have hS : va_S (fun _ => False) s.heap s.heap [] := va_S.rf
  have hP : va_P D vwCl (W1 o cI cZ th (nI w) (nI h) tw ch sm od st cl us) s.heap := hP
  have hl := lv_entry ([.ref (o 0), .int (nI x), .int (nI y)]) (n := 3) (Nat.le_of_ble_eq_true rfl)
  rw [lg_entry_eq]
  generalize (lg_sl ([.ref (o 0), .int (nI x), .int (nI y)]) ++ List.replicate (3 - (lg_sl ([.ref (o 0), .int (nI x), .int (nI y)])).length) Slot.unset).toArray = ls at hl ⊢
  have hl : lv_has ls 3 [(0, .ref (o 0)), (1, .int (nI x)), (2, .int (nI y))] := hl
  refine lv_aload_n hx hb dX1_at_0 rfl (lv_at hl 0 rfl) ?_
  refine va_get (D := D) (ci := 1) (v := .ref (o 1)) (C := RX1) (T := TX1) (N := 10) hx hb hts hin0 hown hK hP 0 rfl rfl 4 (by decide) (hts (.fieldLink RX1 19 "HeightLinesModel" "samples" "[I") (by decide +kernel)) (fun _ h9 => h9) rfl dX1_at_1 ?_
  refine lv_bipush (v := 12) hx hb dX1_at_4 (by decide) ?_
  refine lv_iload_n hx hb dX1_at_6 rfl (lv_at hl 2 rfl) ?_
  refine lv_imul hx hb dX1_at_7 ?_
  refine lv_iload_n hx hb dX1_at_8 rfl (lv_at hl 1 rfl) ?_
  refine lv_iadd hx hb dX1_at_9 ?_
  rw [show ((12 * nI y) + nI x) = nI (12 * y + x) from nI_12]
  refine an_iald (D := D) hx hb hK hP 1 0 rfl rfl (k := 12 * y + x) (by omega) (by decide) dX1_at_10 ?_
  exact W.iret (v := (sm (12 * y + x))) hx hb hr (fun t ht hW => ⟨⟨_, (), rfl, gf x y gx gy, trivial⟩, hS.F ht⟩) hS.2.2 dX1_at_11

set_option maxHeartbeats 4000000 in
set_option maxRecDepth 100000 in
theorem c_X1_first (l : Launch) (D : va_G) (o : Nat → Nat) (cI cZ : ClassId) (th tw ch : Int32) (sm od st cl us : Nat → Int32) (w : Nat) (h : Nat) (f : Nat → Nat → Int32) (e0 : Nat) (gw : 2 ≤ w) (gw2 : w ≤ 12) (gh : 2 ≤ h) (gh2 : h ≤ 12) (gf : ∀ x y, x < w → y < h → sm (12 * y + x) = f x y) (ge : e0 < nE w h) : roMet l yX1_first wsX1_first ({ frames := 2, cells := 0, slots := 0, locals := 42 } : Room) D (W1 o cI cZ th (nI w) (nI h) tw ch sm od st cl us) [(cI, .int), (cZ, .boolean)] [.ref (o 0), .int (nI e0)] (fun r => r = fst2 w h f e0) := by
  refine Met.ofW (cc := cX1_first) (maxL := 2) (ret := (some .int)) (by decide) rfl ?_
  intro p e s m args below meth c s₁ B hml hv
  obtain ⟨rfl, hP, hK⟩ := hv
  have hx := B.exec
  have hb := B.bytes
  have hr := B.returns
  have hts := atoms_spec (ws := wsX1_first) B.pre
  have hown : s.vm.findClass RX1 = some m.cls := findClass_of_methodNamed B.named
  have hlocks := B.notSynchronized
  have hin0 : ∀ w ∈ u_ws RX1 TX1 10, w ∈ wsX1_first := by decide +kernel
  have hS : va_S (fun _ => False) s.heap s.heap [] := va_S.rf
  have hP : va_P D vwCl (W1 o cI cZ th (nI w) (nI h) tw ch sm od st cl us) s.heap := hP
  have hl := lv_entry ([.ref (o 0), .int (nI e0)]) (n := 2) (Nat.le_of_ble_eq_true rfl)
  rw [lg_entry_eq]
  generalize (lg_sl ([.ref (o 0), .int (nI e0)]) ++ List.replicate (2 - (lg_sl ([.ref (o 0), .int (nI e0)])).length) Slot.unset).toArray = ls at hl ⊢
  have hl : lv_has ls 2 [(0, .ref (o 0)), (1, .int (nI e0))] := hl
  refine lv_aload_n hx hb dX1_first_0 rfl (lv_at hl 0 rfl) ?_
  refine lv_aload_n hx hb dX1_first_1 rfl (lv_at hl 0 rfl) ?_
  refine lv_iload_n hx hb dX1_first_2 rfl (lv_at hl 1 rfl) ?_
  refine ro_V1 ⟨hx, hb, hml, hown, hts⟩ (c_X1_xOf l D o cI cZ th tw ch sm od st cl us w h e0 gw gw2 gh2 (by have := nE_le gw2 gh2; omega)) (cwV 1 hts gX1_first_X1_xOf rfl rfl rfl (by decide +kernel) ⟨Nat.le_of_ble_eq_true rfl, Nat.le_of_ble_eq_true rfl⟩) (va_recv hK hP (ci := 1) (q0 := 0) rfl rfl) hP hK hP hS rfl hl.1 (lv_room (Nat.le_of_ble_eq_true rfl)) dX1_first_3 ⟨Nat.le_of_ble_eq_true rfl, Nat.le_of_ble_eq_true rfl⟩ (fun r3 H locs hr3 hP hS => ?_)
  subst hr3
  refine lv_aload_n hx hb dX1_first_6 rfl (lv_at hl 0 rfl) ?_
  refine lv_iload_n hx hb dX1_first_7 rfl (lv_at hl 1 rfl) ?_
  refine ro_V1 ⟨hx, hb, hml, hown, hts⟩ (c_X1_yOf l D o cI cZ th tw ch sm od st cl us w h e0 gw gw2 gh2 (by have := nE_le gw2 gh2; omega)) (cwV 1 hts gX1_first_X1_yOf rfl rfl rfl (by decide +kernel) ⟨Nat.le_of_ble_eq_true rfl, Nat.le_of_ble_eq_true rfl⟩) (va_recv hK hP (ci := 1) (q0 := 0) rfl rfl) hP hK hP hS rfl hl.1 (lv_room (Nat.le_of_ble_eq_true rfl)) dX1_first_8 ⟨Nat.le_of_ble_eq_true rfl, Nat.le_of_ble_eq_true rfl⟩ (fun r8 H locs hr8 hP hS => ?_)
  subst hr8
  refine ro_V2 ⟨hx, hb, hml, hown, hts⟩ (c_X1_at l D o cI cZ th tw ch sm od st cl us w h f (xE w h e0) (yE w h e0) gw2 gh2 gf ((xy_1 gw gh ge).1) ((xy_1 gw gh ge).2)) (cwV 2 hts gX1_first_X1_at rfl rfl rfl (by decide +kernel) ⟨Nat.le_of_ble_eq_true rfl, Nat.le_of_ble_eq_true rfl⟩) (va_recv hK hP (ci := 1) (q0 := 0) rfl rfl) hP hK hP hS rfl hl.1 (lv_room (Nat.le_of_ble_eq_true rfl)) dX1_first_11 ⟨Nat.le_of_ble_eq_true rfl, Nat.le_of_ble_eq_true rfl⟩ (fun r11 H locs hr11 hP hS => ?_)
  subst hr11
  exact W.iret (v := (f (xE w h e0) (yE w h e0))) hx hb hr (fun t ht hW => ⟨⟨_, (), rfl, rfl, trivial⟩, hS.F ht⟩) hS.2.2 dX1_first_14

set_option maxHeartbeats 4000000 in
set_option maxRecDepth 100000 in
theorem c_X1_second (l : Launch) (D : va_G) (o : Nat → Nat) (cI cZ : ClassId) (th tw ch : Int32) (sm od st cl us : Nat → Int32) (w : Nat) (h : Nat) (f : Nat → Nat → Int32) (e0 : Nat) (gw : 2 ≤ w) (gw2 : w ≤ 12) (gh : 2 ≤ h) (gh2 : h ≤ 12) (gf : ∀ x y, x < w → y < h → sm (12 * y + x) = f x y) (ge : e0 < nE w h) : roMet l yX1_second wsX1_second ({ frames := 2, cells := 0, slots := 0, locals := 42 } : Room) D (W1 o cI cZ th (nI w) (nI h) tw ch sm od st cl us) [(cI, .int), (cZ, .boolean)] [.ref (o 0), .int (nI e0)] (fun r => r = snd2 w h f e0) := by
  refine Met.ofW (cc := cX1_second) (maxL := 2) (ret := (some .int)) (by decide) rfl ?_
  intro p e s m args below meth c s₁ B hml hv
  obtain ⟨rfl, hP, hK⟩ := hv
  have hx := B.exec
  have hb := B.bytes
  have hr := B.returns
  have hts := atoms_spec (ws := wsX1_second) B.pre
  have hown : s.vm.findClass RX1 = some m.cls := findClass_of_methodNamed B.named
  have hlocks := B.notSynchronized
  have hin0 : ∀ w ∈ u_ws RX1 TX1 10, w ∈ wsX1_second := by decide +kernel
  have hS : va_S (fun _ => False) s.heap s.heap [] := va_S.rf
  have hP : va_P D vwCl (W1 o cI cZ th (nI w) (nI h) tw ch sm od st cl us) s.heap := hP
  have hl := lv_entry ([.ref (o 0), .int (nI e0)]) (n := 2) (Nat.le_of_ble_eq_true rfl)
  rw [lg_entry_eq]
  generalize (lg_sl ([.ref (o 0), .int (nI e0)]) ++ List.replicate (2 - (lg_sl ([.ref (o 0), .int (nI e0)])).length) Slot.unset).toArray = ls at hl ⊢
  have hl : lv_has ls 2 [(0, .ref (o 0)), (1, .int (nI e0))] := hl
  refine lv_aload_n hx hb dX1_second_0 rfl (lv_at hl 0 rfl) ?_
  refine lv_iload_n hx hb dX1_second_1 rfl (lv_at hl 1 rfl) ?_
  refine ro_V1 ⟨hx, hb, hml, hown, hts⟩ (c_X1_isAcross l D o cI cZ th tw ch sm od st cl us w h e0 gw gw2 gh2 (by have := nE_le gw2 gh2; omega)) (cwV 1 hts gX1_second_X1_isAcross rfl rfl rfl (by decide +kernel) ⟨Nat.le_of_ble_eq_true rfl, Nat.le_of_ble_eq_true rfl⟩) (va_recv hK hP (ci := 1) (q0 := 0) rfl rfl) hP hK hP hS rfl hl.1 (lv_room (Nat.le_of_ble_eq_true rfl)) dX1_second_2 ⟨Nat.le_of_ble_eq_true rfl, Nat.le_of_ble_eq_true rfl⟩ (fun r2 H locs hr2 hP hS => ?_)
  subst hr2
  refine lv_if_eq (tgt := 27) hx hb dX1_second_5 (by decide) (fun c5 => ?_) (fun c5 => ?_)
  · refine lv_aload_n hx hb dX1_second_27 rfl (lv_at hl 0 rfl) ?_
    refine lv_aload_n hx hb dX1_second_28 rfl (lv_at hl 0 rfl) ?_
    refine lv_iload_n hx hb dX1_second_29 rfl (lv_at hl 1 rfl) ?_
    refine ro_V1 ⟨hx, hb, hml, hown, hts⟩ (c_X1_xOf l D o cI cZ th tw ch sm od st cl us w h e0 gw gw2 gh2 (by have := nE_le gw2 gh2; omega)) (cwV 1 hts gX1_second_X1_xOf rfl rfl rfl (by decide +kernel) ⟨Nat.le_of_ble_eq_true rfl, Nat.le_of_ble_eq_true rfl⟩) (va_recv hK hP (ci := 1) (q0 := 0) rfl rfl) hP hK hP hS rfl hl.1 (lv_room (Nat.le_of_ble_eq_true rfl)) dX1_second_30 ⟨Nat.le_of_ble_eq_true rfl, Nat.le_of_ble_eq_true rfl⟩ (fun r30 H locs hr30 hP hS => ?_)
    subst hr30
    refine lv_aload_n hx hb dX1_second_33 rfl (lv_at hl 0 rfl) ?_
    refine lv_iload_n hx hb dX1_second_34 rfl (lv_at hl 1 rfl) ?_
    refine ro_V1 ⟨hx, hb, hml, hown, hts⟩ (c_X1_yOf l D o cI cZ th tw ch sm od st cl us w h e0 gw gw2 gh2 (by have := nE_le gw2 gh2; omega)) (cwV 1 hts gX1_second_X1_yOf rfl rfl rfl (by decide +kernel) ⟨Nat.le_of_ble_eq_true rfl, Nat.le_of_ble_eq_true rfl⟩) (va_recv hK hP (ci := 1) (q0 := 0) rfl rfl) hP hK hP hS rfl hl.1 (lv_room (Nat.le_of_ble_eq_true rfl)) dX1_second_35 ⟨Nat.le_of_ble_eq_true rfl, Nat.le_of_ble_eq_true rfl⟩ (fun r35 H locs hr35 hP hS => ?_)
    subst hr35
    refine lv_iconst (v := 1) hx hb dX1_second_38 (by decide) ?_
    refine lv_iadd hx hb dX1_second_39 ?_
    rw [show ((nI (yE w h e0)) + 1) = nI (yE w h e0 + 1) from nI_p1 _]
    refine ro_V2 ⟨hx, hb, hml, hown, hts⟩ (c_X1_at l D o cI cZ th tw ch sm od st cl us w h f (xE w h e0) (yE w h e0 + 1) gw2 gh2 gf ((xy_b gw gh ge (bd_f c5)).1) ((xy_b gw gh ge (bd_f c5)).2)) (cwV 2 hts gX1_second_X1_at rfl rfl rfl (by decide +kernel) ⟨Nat.le_of_ble_eq_true rfl, Nat.le_of_ble_eq_true rfl⟩) (va_recv hK hP (ci := 1) (q0 := 0) rfl rfl) hP hK hP hS rfl hl.1 (lv_room (Nat.le_of_ble_eq_true rfl)) dX1_second_40 ⟨Nat.le_of_ble_eq_true rfl, Nat.le_of_ble_eq_true rfl⟩ (fun r40 H locs hr40 hP hS => ?_)
    subst hr40
    exact W.iret (v := (f (xE w h e0) (yE w h e0 + 1))) hx hb hr (fun t ht hW => ⟨⟨_, (), rfl, by unfold snd2; rw [if_neg (bd_f c5)], trivial⟩, hS.F ht⟩) hS.2.2 dX1_second_43
  · refine lv_aload_n hx hb dX1_second_8 rfl (lv_at hl 0 rfl) ?_
    refine lv_aload_n hx hb dX1_second_9 rfl (lv_at hl 0 rfl) ?_
    refine lv_iload_n hx hb dX1_second_10 rfl (lv_at hl 1 rfl) ?_
    refine ro_V1 ⟨hx, hb, hml, hown, hts⟩ (c_X1_xOf l D o cI cZ th tw ch sm od st cl us w h e0 gw gw2 gh2 (by have := nE_le gw2 gh2; omega)) (cwV 1 hts gX1_second_X1_xOf rfl rfl rfl (by decide +kernel) ⟨Nat.le_of_ble_eq_true rfl, Nat.le_of_ble_eq_true rfl⟩) (va_recv hK hP (ci := 1) (q0 := 0) rfl rfl) hP hK hP hS rfl hl.1 (lv_room (Nat.le_of_ble_eq_true rfl)) dX1_second_11 ⟨Nat.le_of_ble_eq_true rfl, Nat.le_of_ble_eq_true rfl⟩ (fun r11 H locs hr11 hP hS => ?_)
    subst hr11
    refine lv_iconst (v := 1) hx hb dX1_second_14 (by decide) ?_
    refine lv_iadd hx hb dX1_second_15 ?_
    rw [show ((nI (xE w h e0)) + 1) = nI (xE w h e0 + 1) from nI_p1 _]
    refine lv_aload_n hx hb dX1_second_16 rfl (lv_at hl 0 rfl) ?_
    refine lv_iload_n hx hb dX1_second_17 rfl (lv_at hl 1 rfl) ?_
    refine ro_V1 ⟨hx, hb, hml, hown, hts⟩ (c_X1_yOf l D o cI cZ th tw ch sm od st cl us w h e0 gw gw2 gh2 (by have := nE_le gw2 gh2; omega)) (cwV 1 hts gX1_second_X1_yOf rfl rfl rfl (by decide +kernel) ⟨Nat.le_of_ble_eq_true rfl, Nat.le_of_ble_eq_true rfl⟩) (va_recv hK hP (ci := 1) (q0 := 0) rfl rfl) hP hK hP hS rfl hl.1 (lv_room (Nat.le_of_ble_eq_true rfl)) dX1_second_18 ⟨Nat.le_of_ble_eq_true rfl, Nat.le_of_ble_eq_true rfl⟩ (fun r18 H locs hr18 hP hS => ?_)
    subst hr18
    refine ro_V2 ⟨hx, hb, hml, hown, hts⟩ (c_X1_at l D o cI cZ th tw ch sm od st cl us w h f (xE w h e0 + 1) (yE w h e0) gw2 gh2 gf ((xy_a gw (bd_t c5)).1) ((xy_a gw (bd_t c5)).2)) (cwV 2 hts gX1_second_X1_at rfl rfl rfl (by decide +kernel) ⟨Nat.le_of_ble_eq_true rfl, Nat.le_of_ble_eq_true rfl⟩) (va_recv hK hP (ci := 1) (q0 := 0) rfl rfl) hP hK hP hS rfl hl.1 (lv_room (Nat.le_of_ble_eq_true rfl)) dX1_second_21 ⟨Nat.le_of_ble_eq_true rfl, Nat.le_of_ble_eq_true rfl⟩ (fun r21 H locs hr21 hP hS => ?_)
    subst hr21
    refine lv_goto (tgt := 43) hx hb dX1_second_24 (by decide) ?_
    exact W.iret (v := (f (xE w h e0 + 1) (yE w h e0))) hx hb hr (fun t ht hW => ⟨⟨_, (), rfl, by unfold snd2; rw [if_pos (bd_t c5)], trivial⟩, hS.F ht⟩) hS.2.2 dX1_second_43

set_option maxHeartbeats 4000000 in
set_option maxRecDepth 100000 in
theorem c_X1_isAbove (l : Launch) (D : va_G) (o : Nat → Nat) (cI cZ : ClassId) (th co ro tw ch : Int32) (sm od st cl us : Nat → Int32) (v : Int32) : roMet l yX1_isAbove wsX1_isAbove ({ frames := 0, cells := 0, slots := 0, locals := 0 } : Room) D (W1 o cI cZ th co ro tw ch sm od st cl us) [(cI, .int), (cZ, .boolean)] [.ref (o 0), .int v] (fun r => r = bI (abI tw v)) := by
  refine Met.ofW (cc := cX1_isAbove) (maxL := 2) (ret := (some .boolean)) (by decide) rfl ?_
  intro p e s m args below meth c s₁ B hml hv
  obtain ⟨rfl, hP, hK⟩ := hv
  have hx := B.exec
  have hb := B.bytes
  have hr := B.returns
  have hts := atoms_spec (ws := wsX1_isAbove) B.pre
  have hown : s.vm.findClass RX1 = some m.cls := findClass_of_methodNamed B.named
  have hlocks := B.notSynchronized
  have hin0 : ∀ w ∈ u_ws RX1 TX1 10, w ∈ wsX1_isAbove := by decide +kernel
  have hS : va_S (fun _ => False) s.heap s.heap [] := va_S.rf
  have hP : va_P D vwCl (W1 o cI cZ th co ro tw ch sm od st cl us) s.heap := hP
  have hl := lv_entry ([.ref (o 0), .int v]) (n := 2) (Nat.le_of_ble_eq_true rfl)
  rw [lg_entry_eq]
  generalize (lg_sl ([.ref (o 0), .int v]) ++ List.replicate (2 - (lg_sl ([.ref (o 0), .int v])).length) Slot.unset).toArray = ls at hl ⊢
  have hl : lv_has ls 2 [(0, .ref (o 0)), (1, .int v)] := hl
  refine lv_iconst (v := 2) hx hb dX1_isAbove_0 (by decide) ?_
  refine lv_iload_n hx hb dX1_isAbove_1 rfl (lv_at hl 1 rfl) ?_
  refine lv_imul hx hb dX1_isAbove_2 ?_
  refine lv_aload_n hx hb dX1_isAbove_3 rfl (lv_at hl 0 rfl) ?_
  refine va_get (D := D) (ci := 1) (v := .int tw) (C := RX1) (T := TX1) (N := 10) hx hb hts hin0 hown hK hP 0 rfl rfl 3 (by decide) (hts (.fieldLink RX1 16 "HeightLinesModel" "twice" "I") (by decide +kernel)) (fun _ h9 => h9) rfl dX1_isAbove_4 ?_
  refine lv_icmp_le (tgt := 14) hx hb dX1_isAbove_7 (by decide) (fun c7 => ?_) (fun c7 => ?_)
  · refine lv_iconst (v := 0) hx hb dX1_isAbove_14 (by decide) ?_
    exact W.zret (v := 0) (ty := .boolean) hx hb hr rfl (fun t ht hW => ⟨⟨_, (), rfl, by first | (simp_all [bI, abI]; done) | (simp_all [bI, abI, Int32.lt_iff_toInt_lt, Int32.le_iff_toInt_le]; try omega), trivial⟩, hS.F ht⟩) hS.2.2 dX1_isAbove_15
  · refine lv_iconst (v := 1) hx hb dX1_isAbove_10 (by decide) ?_
    refine lv_goto (tgt := 15) hx hb dX1_isAbove_11 (by decide) ?_
    exact W.zret (v := 1) (ty := .boolean) hx hb hr rfl (fun t ht hW => ⟨⟨_, (), rfl, by first | (simp_all [bI, abI]; done) | (simp_all [bI, abI, Int32.lt_iff_toInt_lt, Int32.le_iff_toInt_le]; try omega), trivial⟩, hS.F ht⟩) hS.2.2 dX1_isAbove_15

set_option maxHeartbeats 4000000 in
set_option maxRecDepth 100000 in
theorem c_X1_isCrossed (l : Launch) (D : va_G) (o : Nat → Nat) (cI cZ : ClassId) (th tw ch : Int32) (sm od st cl us : Nat → Int32) (w : Nat) (h : Nat) (f : Nat → Nat → Int32) (e0 : Nat) (gw : 2 ≤ w) (gw2 : w ≤ 12) (gh : 2 ≤ h) (gh2 : h ≤ 12) (gf : ∀ x y, x < w → y < h → sm (12 * y + x) = f x y) (ge : e0 < nE w h) : roMet l yX1_isCrossed wsX1_isCrossed ({ frames := 3, cells := 0, slots := 0, locals := 63 } : Room) D (W1 o cI cZ th (nI w) (nI h) tw ch sm od st cl us) [(cI, .int), (cZ, .boolean)] [.ref (o 0), .int (nI e0)] (fun r => r = bI (crB w h f tw e0)) := by
  refine Met.ofW (cc := cX1_isCrossed) (maxL := 2) (ret := (some .boolean)) (by decide) rfl ?_
  intro p e s m args below meth c s₁ B hml hv
  obtain ⟨rfl, hP, hK⟩ := hv
  have hx := B.exec
  have hb := B.bytes
  have hr := B.returns
  have hts := atoms_spec (ws := wsX1_isCrossed) B.pre
  have hown : s.vm.findClass RX1 = some m.cls := findClass_of_methodNamed B.named
  have hlocks := B.notSynchronized
  have hin0 : ∀ w ∈ u_ws RX1 TX1 10, w ∈ wsX1_isCrossed := by decide +kernel
  have hS : va_S (fun _ => False) s.heap s.heap [] := va_S.rf
  have hP : va_P D vwCl (W1 o cI cZ th (nI w) (nI h) tw ch sm od st cl us) s.heap := hP
  have hl := lv_entry ([.ref (o 0), .int (nI e0)]) (n := 2) (Nat.le_of_ble_eq_true rfl)
  rw [lg_entry_eq]
  generalize (lg_sl ([.ref (o 0), .int (nI e0)]) ++ List.replicate (2 - (lg_sl ([.ref (o 0), .int (nI e0)])).length) Slot.unset).toArray = ls at hl ⊢
  have hl : lv_has ls 2 [(0, .ref (o 0)), (1, .int (nI e0))] := hl
  refine lv_aload_n hx hb dX1_isCrossed_0 rfl (lv_at hl 0 rfl) ?_
  refine lv_aload_n hx hb dX1_isCrossed_1 rfl (lv_at hl 0 rfl) ?_
  refine lv_iload_n hx hb dX1_isCrossed_2 rfl (lv_at hl 1 rfl) ?_
  refine ro_V1 ⟨hx, hb, hml, hown, hts⟩ (c_X1_first l D o cI cZ th tw ch sm od st cl us w h f e0 gw gw2 gh gh2 gf ge) (cwV 1 hts gX1_isCrossed_X1_first rfl rfl rfl (by decide +kernel) ⟨Nat.le_of_ble_eq_true rfl, Nat.le_of_ble_eq_true rfl⟩) (va_recv hK hP (ci := 1) (q0 := 0) rfl rfl) hP hK hP hS rfl hl.1 (lv_room (Nat.le_of_ble_eq_true rfl)) dX1_isCrossed_3 ⟨Nat.le_of_ble_eq_true rfl, Nat.le_of_ble_eq_true rfl⟩ (fun r3 H locs hr3 hP hS => ?_)
  subst hr3
  refine ro_V1 ⟨hx, hb, hml, hown, hts⟩ (c_X1_isAbove l D o cI cZ th (nI w) (nI h) tw ch sm od st cl us (fst2 w h f e0)) (cwV 1 hts gX1_isCrossed_X1_isAbove rfl rfl rfl (by decide +kernel) ⟨Nat.le_of_ble_eq_true rfl, Nat.le_of_ble_eq_true rfl⟩) (va_recv hK hP (ci := 1) (q0 := 0) rfl rfl) hP hK hP hS rfl hl.1 (lv_room (Nat.le_of_ble_eq_true rfl)) dX1_isCrossed_6 ⟨Nat.le_of_ble_eq_true rfl, Nat.le_of_ble_eq_true rfl⟩ (fun r6 H locs hr6 hP hS => ?_)
  subst hr6
  refine lv_aload_n hx hb dX1_isCrossed_9 rfl (lv_at hl 0 rfl) ?_
  refine lv_aload_n hx hb dX1_isCrossed_10 rfl (lv_at hl 0 rfl) ?_
  refine lv_iload_n hx hb dX1_isCrossed_11 rfl (lv_at hl 1 rfl) ?_
  refine ro_V1 ⟨hx, hb, hml, hown, hts⟩ (c_X1_second l D o cI cZ th tw ch sm od st cl us w h f e0 gw gw2 gh gh2 gf ge) (cwV 1 hts gX1_isCrossed_X1_second rfl rfl rfl (by decide +kernel) ⟨Nat.le_of_ble_eq_true rfl, Nat.le_of_ble_eq_true rfl⟩) (va_recv hK hP (ci := 1) (q0 := 0) rfl rfl) hP hK hP hS rfl hl.1 (lv_room (Nat.le_of_ble_eq_true rfl)) dX1_isCrossed_12 ⟨Nat.le_of_ble_eq_true rfl, Nat.le_of_ble_eq_true rfl⟩ (fun r12 H locs hr12 hP hS => ?_)
  subst hr12
  refine ro_V1 ⟨hx, hb, hml, hown, hts⟩ (c_X1_isAbove l D o cI cZ th (nI w) (nI h) tw ch sm od st cl us (snd2 w h f e0)) (cwV 1 hts gX1_isCrossed_X1_isAbove rfl rfl rfl (by decide +kernel) ⟨Nat.le_of_ble_eq_true rfl, Nat.le_of_ble_eq_true rfl⟩) (va_recv hK hP (ci := 1) (q0 := 0) rfl rfl) hP hK hP hS rfl hl.1 (lv_room (Nat.le_of_ble_eq_true rfl)) dX1_isCrossed_15 ⟨Nat.le_of_ble_eq_true rfl, Nat.le_of_ble_eq_true rfl⟩ (fun r15 H locs hr15 hP hS => ?_)
  subst hr15
  refine lv_icmp_eq (tgt := 25) hx hb dX1_isCrossed_18 (by decide) (fun c18 => ?_) (fun c18 => ?_)
  · refine lv_iconst (v := 0) hx hb dX1_isCrossed_25 (by decide) ?_
    exact W.zret (v := 0) (ty := .boolean) hx hb hr rfl (fun t ht hW => ⟨⟨_, (), rfl, bI_z (by unfold crB; rw [bI_inj.mp c18]; simp), trivial⟩, hS.F ht⟩) hS.2.2 dX1_isCrossed_26
  · refine lv_iconst (v := 1) hx hb dX1_isCrossed_21 (by decide) ?_
    refine lv_goto (tgt := 26) hx hb dX1_isCrossed_22 (by decide) ?_
    exact W.zret (v := 1) (ty := .boolean) hx hb hr rfl (fun t ht hW => ⟨⟨_, (), rfl, bI_1 (bne_iff_ne.mpr (fun z => c18 (by rw [z]))), trivial⟩, hS.F ht⟩) hS.2.2 dX1_isCrossed_26

set_option maxHeartbeats 4000000 in
set_option maxRecDepth 100000 in
theorem c_X1_corner (l : Launch) (D : va_G) (o : Nat → Nat) (cI cZ : ClassId) (th tw ch : Int32) (sm od st cl us : Nat → Int32) (w : Nat) (h : Nat) (f : Nat → Nat → Int32) (x : Nat) (y : Nat) (k : Nat) (gw2 : w ≤ 12) (gh2 : h ≤ 12) (gf : ∀ x y, x < w → y < h → sm (12 * y + x) = f x y) (gx : x + 1 < w) (gy : y + 1 < h) (gk : k < 100) : roMet l yX1_corner wsX1_corner ({ frames := 1, cells := 0, slots := 0, locals := 22 } : Room) D (W1 o cI cZ th (nI w) (nI h) tw ch sm od st cl us) [(cI, .int), (cZ, .boolean)] [.ref (o 0), .int (nI x), .int (nI y), .int (nI k)] (fun r => r = f (cX x k) (cY y k)) := by
  refine Met.ofW (cc := cX1_corner) (maxL := 4) (ret := (some .int)) (by decide) rfl ?_
  intro p e s m args below meth c s₁ B hml hv
  obtain ⟨rfl, hP, hK⟩ := hv
  have hx := B.exec
  have hb := B.bytes
  have hr := B.returns
  have hts := atoms_spec (ws := wsX1_corner) B.pre
  have hown : s.vm.findClass RX1 = some m.cls := findClass_of_methodNamed B.named
  have hlocks := B.notSynchronized
  have hin0 : ∀ w ∈ u_ws RX1 TX1 10, w ∈ wsX1_corner := by decide +kernel
  have hS : va_S (fun _ => False) s.heap s.heap [] := va_S.rf
  have hP : va_P D vwCl (W1 o cI cZ th (nI w) (nI h) tw ch sm od st cl us) s.heap := hP
  have hl := lv_entry ([.ref (o 0), .int (nI x), .int (nI y), .int (nI k)]) (n := 4) (Nat.le_of_ble_eq_true rfl)
  rw [lg_entry_eq]
  generalize (lg_sl ([.ref (o 0), .int (nI x), .int (nI y), .int (nI k)]) ++ List.replicate (4 - (lg_sl ([.ref (o 0), .int (nI x), .int (nI y), .int (nI k)])).length) Slot.unset).toArray = ls at hl ⊢
  have hl : lv_has ls 4 [(0, .ref (o 0)), (1, .int (nI x)), (2, .int (nI y)), (3, .int (nI k))] := hl
  refine lv_iload_n hx hb dX1_corner_0 rfl (lv_at hl 3 rfl) ?_
  refine lv_iconst (v := 3) hx hb dX1_corner_1 (by decide) ?_
  refine lv_iand hx hb dX1_corner_2 ?_
  rw [show (nI k &&& 3) = nI (k % 4) from nI_and3 (by omega)]
  obtain ⟨j, ej⟩ : ∃ j, j = k % 4 := ⟨_, rfl⟩
  rw [← ej]
  rcases (show j = 0 ∨ j = 1 ∨ j = 2 ∨ j = 3 by omega) with rfl | rfl | rfl | rfl
  · refine lv_tableIn (tgt := 28) hx hb dX1_corner_3 (by decide) (by decide) rfl (by decide) ?_
    refine lv_aload_n hx hb dX1_corner_28 rfl (lv_at hl 0 rfl) ?_
    refine lv_iload_n hx hb dX1_corner_29 rfl (lv_at hl 1 rfl) ?_
    refine lv_iload_n hx hb dX1_corner_30 rfl (lv_at hl 2 rfl) ?_
    refine ro_V2 ⟨hx, hb, hml, hown, hts⟩ (c_X1_at l D o cI cZ th tw ch sm od st cl us w h f x y gw2 gh2 gf (by omega) (by omega)) (cwV 2 hts gX1_corner_X1_at rfl rfl rfl (by decide +kernel) ⟨Nat.le_of_ble_eq_true rfl, Nat.le_of_ble_eq_true rfl⟩) (va_recv hK hP (ci := 1) (q0 := 0) rfl rfl) hP hK hP hS rfl hl.1 (lv_room (Nat.le_of_ble_eq_true rfl)) dX1_corner_31 ⟨Nat.le_of_ble_eq_true rfl, Nat.le_of_ble_eq_true rfl⟩ (fun r31 H locs hr31 hP hS => ?_)
    subst hr31
    exact W.iret (v := (f x y)) hx hb hr (fun t ht hW => ⟨⟨_, (), rfl, by rw [cX_0 ej, cY_0 ej], trivial⟩, hS.F ht⟩) hS.2.2 dX1_corner_34
  · refine lv_tableIn (tgt := 35) hx hb dX1_corner_3 (by decide) (by decide) rfl (by decide) ?_
    refine lv_aload_n hx hb dX1_corner_35 rfl (lv_at hl 0 rfl) ?_
    refine lv_iload_n hx hb dX1_corner_36 rfl (lv_at hl 1 rfl) ?_
    refine lv_iconst (v := 1) hx hb dX1_corner_37 (by decide) ?_
    refine lv_iadd hx hb dX1_corner_38 ?_
    rw [show (nI x + 1) = nI (x + 1) from nI_p1 x]
    refine lv_iload_n hx hb dX1_corner_39 rfl (lv_at hl 2 rfl) ?_
    refine ro_V2 ⟨hx, hb, hml, hown, hts⟩ (c_X1_at l D o cI cZ th tw ch sm od st cl us w h f (x + 1) y gw2 gh2 gf (by omega) (by omega)) (cwV 2 hts gX1_corner_X1_at rfl rfl rfl (by decide +kernel) ⟨Nat.le_of_ble_eq_true rfl, Nat.le_of_ble_eq_true rfl⟩) (va_recv hK hP (ci := 1) (q0 := 0) rfl rfl) hP hK hP hS rfl hl.1 (lv_room (Nat.le_of_ble_eq_true rfl)) dX1_corner_40 ⟨Nat.le_of_ble_eq_true rfl, Nat.le_of_ble_eq_true rfl⟩ (fun r40 H locs hr40 hP hS => ?_)
    subst hr40
    exact W.iret (v := (f (x + 1) y)) hx hb hr (fun t ht hW => ⟨⟨_, (), rfl, by rw [cX_1 ej, cY_1 ej], trivial⟩, hS.F ht⟩) hS.2.2 dX1_corner_43
  · refine lv_tableIn (tgt := 44) hx hb dX1_corner_3 (by decide) (by decide) rfl (by decide) ?_
    refine lv_aload_n hx hb dX1_corner_44 rfl (lv_at hl 0 rfl) ?_
    refine lv_iload_n hx hb dX1_corner_45 rfl (lv_at hl 1 rfl) ?_
    refine lv_iconst (v := 1) hx hb dX1_corner_46 (by decide) ?_
    refine lv_iadd hx hb dX1_corner_47 ?_
    rw [show (nI x + 1) = nI (x + 1) from nI_p1 x]
    refine lv_iload_n hx hb dX1_corner_48 rfl (lv_at hl 2 rfl) ?_
    refine lv_iconst (v := 1) hx hb dX1_corner_49 (by decide) ?_
    refine lv_iadd hx hb dX1_corner_50 ?_
    rw [show (nI y + 1) = nI (y + 1) from nI_p1 y]
    refine ro_V2 ⟨hx, hb, hml, hown, hts⟩ (c_X1_at l D o cI cZ th tw ch sm od st cl us w h f (x + 1) (y + 1) gw2 gh2 gf (by omega) (by omega)) (cwV 2 hts gX1_corner_X1_at rfl rfl rfl (by decide +kernel) ⟨Nat.le_of_ble_eq_true rfl, Nat.le_of_ble_eq_true rfl⟩) (va_recv hK hP (ci := 1) (q0 := 0) rfl rfl) hP hK hP hS rfl hl.1 (lv_room (Nat.le_of_ble_eq_true rfl)) dX1_corner_51 ⟨Nat.le_of_ble_eq_true rfl, Nat.le_of_ble_eq_true rfl⟩ (fun r51 H locs hr51 hP hS => ?_)
    subst hr51
    exact W.iret (v := (f (x + 1) (y + 1))) hx hb hr (fun t ht hW => ⟨⟨_, (), rfl, by rw [cX_2 ej, cY_2 ej], trivial⟩, hS.F ht⟩) hS.2.2 dX1_corner_54
  · refine lv_tableOut (tgt := 55) hx hb dX1_corner_3 (by decide) (by decide) ?_
    refine lv_aload_n hx hb dX1_corner_55 rfl (lv_at hl 0 rfl) ?_
    refine lv_iload_n hx hb dX1_corner_56 rfl (lv_at hl 1 rfl) ?_
    refine lv_iload_n hx hb dX1_corner_57 rfl (lv_at hl 2 rfl) ?_
    refine lv_iconst (v := 1) hx hb dX1_corner_58 (by decide) ?_
    refine lv_iadd hx hb dX1_corner_59 ?_
    rw [show (nI y + 1) = nI (y + 1) from nI_p1 y]
    refine ro_V2 ⟨hx, hb, hml, hown, hts⟩ (c_X1_at l D o cI cZ th tw ch sm od st cl us w h f x (y + 1) gw2 gh2 gf (by omega) (by omega)) (cwV 2 hts gX1_corner_X1_at rfl rfl rfl (by decide +kernel) ⟨Nat.le_of_ble_eq_true rfl, Nat.le_of_ble_eq_true rfl⟩) (va_recv hK hP (ci := 1) (q0 := 0) rfl rfl) hP hK hP hS rfl hl.1 (lv_room (Nat.le_of_ble_eq_true rfl)) dX1_corner_60 ⟨Nat.le_of_ble_eq_true rfl, Nat.le_of_ble_eq_true rfl⟩ (fun r60 H locs hr60 hP hS => ?_)
    subst hr60
    exact W.iret (v := (f x (y + 1))) hx hb hr (fun t ht hW => ⟨⟨_, (), rfl, by rw [cX_3 ej, cY_3 ej], trivial⟩, hS.F ht⟩) hS.2.2 dX1_corner_63

set_option maxHeartbeats 4000000 in
set_option maxRecDepth 100000 in
theorem c_X1_edgeOf (l : Launch) (D : va_G) (o : Nat → Nat) (cI cZ : ClassId) (th tw ch : Int32) (sm od st cl us : Nat → Int32) (w : Nat) (h : Nat) (x : Nat) (y : Nat) (k : Nat) (gw : 1 ≤ w) (gk : k < 100) : roMet l yX1_edgeOf wsX1_edgeOf ({ frames := 0, cells := 0, slots := 0, locals := 0 } : Room) D (W1 o cI cZ th (nI w) (nI h) tw ch sm od st cl us) [(cI, .int), (cZ, .boolean)] [.ref (o 0), .int (nI x), .int (nI y), .int (nI k)] (fun r => r = nI (eO w h x y k)) := by
  refine Met.ofW (cc := cX1_edgeOf) (maxL := 5) (ret := (some .int)) (by decide) rfl ?_
  intro p e s m args below meth c s₁ B hml hv
  obtain ⟨rfl, hP, hK⟩ := hv
  have hx := B.exec
  have hb := B.bytes
  have hr := B.returns
  have hts := atoms_spec (ws := wsX1_edgeOf) B.pre
  have hown : s.vm.findClass RX1 = some m.cls := findClass_of_methodNamed B.named
  have hlocks := B.notSynchronized
  have hin0 : ∀ w ∈ u_ws RX1 TX1 10, w ∈ wsX1_edgeOf := by decide +kernel
  have hS : va_S (fun _ => False) s.heap s.heap [] := va_S.rf
  have hP : va_P D vwCl (W1 o cI cZ th (nI w) (nI h) tw ch sm od st cl us) s.heap := hP
  have hl := lv_entry ([.ref (o 0), .int (nI x), .int (nI y), .int (nI k)]) (n := 5) (Nat.le_of_ble_eq_true rfl)
  rw [lg_entry_eq]
  generalize (lg_sl ([.ref (o 0), .int (nI x), .int (nI y), .int (nI k)]) ++ List.replicate (5 - (lg_sl ([.ref (o 0), .int (nI x), .int (nI y), .int (nI k)])).length) Slot.unset).toArray = ls at hl ⊢
  have hl : lv_has ls 5 [(0, .ref (o 0)), (1, .int (nI x)), (2, .int (nI y)), (3, .int (nI k))] := hl
  refine lv_aload_n hx hb dX1_edgeOf_0 rfl (lv_at hl 0 rfl) ?_
  refine va_get (D := D) (ci := 1) (v := .int (nI h)) (C := RX1) (T := TX1) (N := 10) hx hb hts hin0 hown hK hP 0 rfl rfl 2 (by decide) (hts (.fieldLink RX1 13 "HeightLinesModel" "h" "I") (by decide +kernel)) (fun _ h9 => h9) rfl dX1_edgeOf_1 ?_
  refine lv_aload_n hx hb dX1_edgeOf_4 rfl (lv_at hl 0 rfl) ?_
  refine va_get (D := D) (ci := 1) (v := .int (nI w)) (C := RX1) (T := TX1) (N := 10) hx hb hts hin0 hown hK hP 0 rfl rfl 1 (by decide) (hts (.fieldLink RX1 7 "HeightLinesModel" "w" "I") (by decide +kernel)) (fun _ h9 => h9) rfl dX1_edgeOf_5 ?_
  refine lv_iconst (v := 1) hx hb dX1_edgeOf_8 (by decide) ?_
  refine lv_isub hx hb dX1_edgeOf_9 ?_
  rw [show ((nI w) - 1) = nI (w - 1) from nI_m1 (by omega)]
  refine lv_imul hx hb dX1_edgeOf_10 ?_
  rw [show ((nI h) * nI (w - 1)) = nI (nR w h) from pk_mul _ _]
  refine lv_istore (lv' := [(4, .int (nI (nR w h))), (0, .ref (o 0)), (1, .int (nI x)), (2, .int (nI y)), (3, .int (nI k))]) hx hb dX1_edgeOf_11 hl (by decide) rfl (fun ls hl => ?_)
  refine lv_iload_n hx hb dX1_edgeOf_13 rfl (lv_at hl 4 rfl) ?_
  refine lv_iconst (v := 3) hx hb dX1_edgeOf_14 (by decide) ?_
  refine lv_iand hx hb dX1_edgeOf_15 ?_
  rw [show (nI k &&& 3) = nI (k % 4) from nI_and3 (by omega)]
  obtain ⟨j, ej⟩ : ∃ j, j = k % 4 := ⟨_, rfl⟩
  rw [← ej]
  rcases (show j = 0 ∨ j = 1 ∨ j = 2 ∨ j = 3 by omega) with rfl | rfl | rfl | rfl
  · refine lv_tableIn (tgt := 44) hx hb dX1_edgeOf_16 (by decide) (by decide) rfl (by decide) ?_
    refine lv_iload_n hx hb dX1_edgeOf_44 rfl (lv_at hl 3 rfl) ?_
    refine lv_aload_n hx hb dX1_edgeOf_45 rfl (lv_at hl 1 rfl) ?_
    refine va_get (D := D) (ci := 1) (v := .int (nI w)) (C := RX1) (T := TX1) (N := 10) hx hb hts hin0 hown hK hP 0 rfl rfl 1 (by decide) (hts (.fieldLink RX1 7 "HeightLinesModel" "w" "I") (by decide +kernel)) (fun _ h9 => h9) rfl dX1_edgeOf_46 ?_
    refine lv_iconst (v := 1) hx hb dX1_edgeOf_49 (by decide) ?_
    refine lv_isub hx hb dX1_edgeOf_50 ?_
    rw [show ((nI w) - 1) = nI (w - 1) from nI_m1 (by omega)]
    refine lv_imul hx hb dX1_edgeOf_51 ?_
    refine lv_iload_n hx hb dX1_edgeOf_52 rfl (lv_at hl 2 rfl) ?_
    refine lv_iadd hx hb dX1_edgeOf_53 ?_
    exact W.iret (v := ((nI y * nI (w - 1)) + nI x)) hx hb hr (fun t ht hW => ⟨⟨_, (), rfl, by rw [pk_mul, nI_add, eO_0 ej], trivial⟩, hS.F ht⟩) hS.2.2 dX1_edgeOf_54
  · refine lv_tableIn (tgt := 55) hx hb dX1_edgeOf_16 (by decide) (by decide) rfl (by decide) ?_
    refine lv_iload hx hb dX1_edgeOf_55 (lv_at hl 0 rfl) ?_
    refine lv_iload_n hx hb dX1_edgeOf_57 rfl (lv_at hl 3 rfl) ?_
    refine lv_aload_n hx hb dX1_edgeOf_58 rfl (lv_at hl 1 rfl) ?_
    refine va_get (D := D) (ci := 1) (v := .int (nI w)) (C := RX1) (T := TX1) (N := 10) hx hb hts hin0 hown hK hP 0 rfl rfl 1 (by decide) (hts (.fieldLink RX1 7 "HeightLinesModel" "w" "I") (by decide +kernel)) (fun _ h9 => h9) rfl dX1_edgeOf_59 ?_
    refine lv_imul hx hb dX1_edgeOf_62 ?_
    refine lv_iadd hx hb dX1_edgeOf_63 ?_
    refine lv_iload_n hx hb dX1_edgeOf_64 rfl (lv_at hl 2 rfl) ?_
    refine lv_iadd hx hb dX1_edgeOf_65 ?_
    refine lv_iconst (v := 1) hx hb dX1_edgeOf_66 (by decide) ?_
    refine lv_iadd hx hb dX1_edgeOf_67 ?_
    exact W.iret (v := (((nI (nR w h) + (nI y * (nI w))) + nI x) + 1)) hx hb hr (fun t ht hW => ⟨⟨_, (), rfl, by rw [pk_mul, nI_add, nI_add, nI_p1, eO_1 ej]; rfl, trivial⟩, hS.F ht⟩) hS.2.2 dX1_edgeOf_68
  · refine lv_tableIn (tgt := 69) hx hb dX1_edgeOf_16 (by decide) (by decide) rfl (by decide) ?_
    refine lv_iload_n hx hb dX1_edgeOf_69 rfl (lv_at hl 3 rfl) ?_
    refine lv_iconst (v := 1) hx hb dX1_edgeOf_70 (by decide) ?_
    refine lv_iadd hx hb dX1_edgeOf_71 ?_
    rw [show (nI y + 1) = nI (y + 1) from nI_p1 y]
    refine lv_aload_n hx hb dX1_edgeOf_72 rfl (lv_at hl 1 rfl) ?_
    refine va_get (D := D) (ci := 1) (v := .int (nI w)) (C := RX1) (T := TX1) (N := 10) hx hb hts hin0 hown hK hP 0 rfl rfl 1 (by decide) (hts (.fieldLink RX1 7 "HeightLinesModel" "w" "I") (by decide +kernel)) (fun _ h9 => h9) rfl dX1_edgeOf_73 ?_
    refine lv_iconst (v := 1) hx hb dX1_edgeOf_76 (by decide) ?_
    refine lv_isub hx hb dX1_edgeOf_77 ?_
    rw [show ((nI w) - 1) = nI (w - 1) from nI_m1 (by omega)]
    refine lv_imul hx hb dX1_edgeOf_78 ?_
    refine lv_iload_n hx hb dX1_edgeOf_79 rfl (lv_at hl 2 rfl) ?_
    refine lv_iadd hx hb dX1_edgeOf_80 ?_
    exact W.iret (v := ((nI (y + 1) * nI (w - 1)) + nI x)) hx hb hr (fun t ht hW => ⟨⟨_, (), rfl, by rw [pk_mul, nI_add, eO_2 ej], trivial⟩, hS.F ht⟩) hS.2.2 dX1_edgeOf_81
  · refine lv_tableOut (tgt := 82) hx hb dX1_edgeOf_16 (by decide) (by decide) ?_
    refine lv_iload hx hb dX1_edgeOf_82 (lv_at hl 0 rfl) ?_
    refine lv_iload_n hx hb dX1_edgeOf_84 rfl (lv_at hl 3 rfl) ?_
    refine lv_aload_n hx hb dX1_edgeOf_85 rfl (lv_at hl 1 rfl) ?_
    refine va_get (D := D) (ci := 1) (v := .int (nI w)) (C := RX1) (T := TX1) (N := 10) hx hb hts hin0 hown hK hP 0 rfl rfl 1 (by decide) (hts (.fieldLink RX1 7 "HeightLinesModel" "w" "I") (by decide +kernel)) (fun _ h9 => h9) rfl dX1_edgeOf_86 ?_
    refine lv_imul hx hb dX1_edgeOf_89 ?_
    refine lv_iadd hx hb dX1_edgeOf_90 ?_
    refine lv_iload_n hx hb dX1_edgeOf_91 rfl (lv_at hl 2 rfl) ?_
    refine lv_iadd hx hb dX1_edgeOf_92 ?_
    exact W.iret (v := ((nI (nR w h) + (nI y * (nI w))) + nI x)) hx hb hr (fun t ht hW => ⟨⟨_, (), rfl, by rw [pk_mul, nI_add, nI_add, eO_3 ej], trivial⟩, hS.F ht⟩) hS.2.2 dX1_edgeOf_93

set_option maxHeartbeats 4000000 in
set_option maxRecDepth 100000 in
theorem c_X1_isDown (l : Launch) (D : va_G) (o : Nat → Nat) (cI cZ : ClassId) (th tw ch : Int32) (sm od st cl us : Nat → Int32) (w : Nat) (h : Nat) (f : Nat → Nat → Int32) (x : Nat) (y : Nat) (k : Nat) (gw2 : w ≤ 12) (gh2 : h ≤ 12) (gf : ∀ x y, x < w → y < h → sm (12 * y + x) = f x y) (gx : x + 1 < w) (gy : y + 1 < h) (gk : k < 99) : roMet l yX1_isDown wsX1_isDown ({ frames := 2, cells := 0, slots := 0, locals := 45 } : Room) D (W1 o cI cZ th (nI w) (nI h) tw ch sm od st cl us) [(cI, .int), (cZ, .boolean)] [.ref (o 0), .int (nI x), .int (nI y), .int (nI k)] (fun r => r = bI (dnB f tw x y k)) := by
  refine Met.ofW (cc := cX1_isDown) (maxL := 4) (ret := (some .boolean)) (by decide) rfl ?_
  intro p e s m args below meth c s₁ B hml hv
  obtain ⟨rfl, hP, hK⟩ := hv
  have hx := B.exec
  have hb := B.bytes
  have hr := B.returns
  have hts := atoms_spec (ws := wsX1_isDown) B.pre
  have hown : s.vm.findClass RX1 = some m.cls := findClass_of_methodNamed B.named
  have hlocks := B.notSynchronized
  have hin0 : ∀ w ∈ u_ws RX1 TX1 10, w ∈ wsX1_isDown := by decide +kernel
  have hS : va_S (fun _ => False) s.heap s.heap [] := va_S.rf
  have hP : va_P D vwCl (W1 o cI cZ th (nI w) (nI h) tw ch sm od st cl us) s.heap := hP
  have hl := lv_entry ([.ref (o 0), .int (nI x), .int (nI y), .int (nI k)]) (n := 4) (Nat.le_of_ble_eq_true rfl)
  rw [lg_entry_eq]
  generalize (lg_sl ([.ref (o 0), .int (nI x), .int (nI y), .int (nI k)]) ++ List.replicate (4 - (lg_sl ([.ref (o 0), .int (nI x), .int (nI y), .int (nI k)])).length) Slot.unset).toArray = ls at hl ⊢
  have hl : lv_has ls 4 [(0, .ref (o 0)), (1, .int (nI x)), (2, .int (nI y)), (3, .int (nI k))] := hl
  refine lv_aload_n hx hb dX1_isDown_0 rfl (lv_at hl 0 rfl) ?_
  refine lv_aload_n hx hb dX1_isDown_1 rfl (lv_at hl 0 rfl) ?_
  refine lv_iload_n hx hb dX1_isDown_2 rfl (lv_at hl 1 rfl) ?_
  refine lv_iload_n hx hb dX1_isDown_3 rfl (lv_at hl 2 rfl) ?_
  refine lv_iload_n hx hb dX1_isDown_4 rfl (lv_at hl 3 rfl) ?_
  refine ro_V3 ⟨hx, hb, hml, hown, hts⟩ (c_X1_corner l D o cI cZ th tw ch sm od st cl us w h f x y k gw2 gh2 gf gx gy (by omega)) (cwV 3 hts gX1_isDown_X1_corner rfl rfl rfl (by decide +kernel) ⟨Nat.le_of_ble_eq_true rfl, Nat.le_of_ble_eq_true rfl⟩) (va_recv hK hP (ci := 1) (q0 := 0) rfl rfl) hP hK hP hS rfl hl.1 (lv_room (Nat.le_of_ble_eq_true rfl)) dX1_isDown_5 ⟨Nat.le_of_ble_eq_true rfl, Nat.le_of_ble_eq_true rfl⟩ (fun r5 H locs hr5 hP hS => ?_)
  subst hr5
  refine ro_V1 ⟨hx, hb, hml, hown, hts⟩ (c_X1_isAbove l D o cI cZ th (nI w) (nI h) tw ch sm od st cl us (f (cX x (k)) (cY y (k)))) (cwV 1 hts gX1_isDown_X1_isAbove rfl rfl rfl (by decide +kernel) ⟨Nat.le_of_ble_eq_true rfl, Nat.le_of_ble_eq_true rfl⟩) (va_recv hK hP (ci := 1) (q0 := 0) rfl rfl) hP hK hP hS rfl hl.1 (lv_room (Nat.le_of_ble_eq_true rfl)) dX1_isDown_8 ⟨Nat.le_of_ble_eq_true rfl, Nat.le_of_ble_eq_true rfl⟩ (fun r8 H locs hr8 hP hS => ?_)
  subst hr8
  refine lv_if_eq (tgt := 34) hx hb dX1_isDown_11 (by decide) (fun c11 => ?_) (fun c11 => ?_)
  · refine lv_iconst (v := 0) hx hb dX1_isDown_34 (by decide) ?_
    exact W.zret (v := 0) (ty := .boolean) hx hb hr rfl (fun t ht hW => ⟨⟨_, (), rfl, by unfold dnB crn; simp_all [bI_0, bI_n0, bI_t, bI_f, bI], trivial⟩, hS.F ht⟩) hS.2.2 dX1_isDown_35
  · refine lv_aload_n hx hb dX1_isDown_14 rfl (lv_at hl 0 rfl) ?_
    refine lv_aload_n hx hb dX1_isDown_15 rfl (lv_at hl 0 rfl) ?_
    refine lv_iload_n hx hb dX1_isDown_16 rfl (lv_at hl 1 rfl) ?_
    refine lv_iload_n hx hb dX1_isDown_17 rfl (lv_at hl 2 rfl) ?_
    refine lv_iload_n hx hb dX1_isDown_18 rfl (lv_at hl 3 rfl) ?_
    refine lv_iconst (v := 1) hx hb dX1_isDown_19 (by decide) ?_
    refine lv_iadd hx hb dX1_isDown_20 ?_
    rw [show (nI k + 1) = nI (k + 1) from nI_p1 k]
    refine ro_V3 ⟨hx, hb, hml, hown, hts⟩ (c_X1_corner l D o cI cZ th tw ch sm od st cl us w h f x y (k + 1) gw2 gh2 gf gx gy (by omega)) (cwV 3 hts gX1_isDown_X1_corner rfl rfl rfl (by decide +kernel) ⟨Nat.le_of_ble_eq_true rfl, Nat.le_of_ble_eq_true rfl⟩) (va_recv hK hP (ci := 1) (q0 := 0) rfl rfl) hP hK hP hS rfl hl.1 (lv_room (Nat.le_of_ble_eq_true rfl)) dX1_isDown_21 ⟨Nat.le_of_ble_eq_true rfl, Nat.le_of_ble_eq_true rfl⟩ (fun r21 H locs hr21 hP hS => ?_)
    subst hr21
    refine ro_V1 ⟨hx, hb, hml, hown, hts⟩ (c_X1_isAbove l D o cI cZ th (nI w) (nI h) tw ch sm od st cl us (f (cX x (k + 1)) (cY y (k + 1)))) (cwV 1 hts gX1_isDown_X1_isAbove rfl rfl rfl (by decide +kernel) ⟨Nat.le_of_ble_eq_true rfl, Nat.le_of_ble_eq_true rfl⟩) (va_recv hK hP (ci := 1) (q0 := 0) rfl rfl) hP hK hP hS rfl hl.1 (lv_room (Nat.le_of_ble_eq_true rfl)) dX1_isDown_24 ⟨Nat.le_of_ble_eq_true rfl, Nat.le_of_ble_eq_true rfl⟩ (fun r24 H locs hr24 hP hS => ?_)
    subst hr24
    refine lv_if_ne (tgt := 34) hx hb dX1_isDown_27 (by decide) (fun c27 => ?_) (fun c27 => ?_)
    · refine lv_iconst (v := 0) hx hb dX1_isDown_34 (by decide) ?_
      exact W.zret (v := 0) (ty := .boolean) hx hb hr rfl (fun t ht hW => ⟨⟨_, (), rfl, by unfold dnB crn; simp_all [bI_0, bI_n0, bI_t, bI_f, bI], trivial⟩, hS.F ht⟩) hS.2.2 dX1_isDown_35
    · refine lv_iconst (v := 1) hx hb dX1_isDown_30 (by decide) ?_
      refine lv_goto (tgt := 35) hx hb dX1_isDown_31 (by decide) ?_
      exact W.zret (v := 1) (ty := .boolean) hx hb hr rfl (fun t ht hW => ⟨⟨_, (), rfl, by unfold dnB crn; simp_all [bI_0, bI_n0, bI_t, bI_f, bI], trivial⟩, hS.F ht⟩) hS.2.2 dX1_isDown_35

set_option maxHeartbeats 4000000 in
set_option maxRecDepth 100000 in
theorem c_X1_isUp (l : Launch) (D : va_G) (o : Nat → Nat) (cI cZ : ClassId) (th tw ch : Int32) (sm od st cl us : Nat → Int32) (w : Nat) (h : Nat) (f : Nat → Nat → Int32) (x : Nat) (y : Nat) (k : Nat) (gw2 : w ≤ 12) (gh2 : h ≤ 12) (gf : ∀ x y, x < w → y < h → sm (12 * y + x) = f x y) (gx : x + 1 < w) (gy : y + 1 < h) (gk : k < 99) : roMet l yX1_isUp wsX1_isUp ({ frames := 2, cells := 0, slots := 0, locals := 45 } : Room) D (W1 o cI cZ th (nI w) (nI h) tw ch sm od st cl us) [(cI, .int), (cZ, .boolean)] [.ref (o 0), .int (nI x), .int (nI y), .int (nI k)] (fun r => r = bI (upB f tw x y k)) := by
  refine Met.ofW (cc := cX1_isUp) (maxL := 4) (ret := (some .boolean)) (by decide) rfl ?_
  intro p e s m args below meth c s₁ B hml hv
  obtain ⟨rfl, hP, hK⟩ := hv
  have hx := B.exec
  have hb := B.bytes
  have hr := B.returns
  have hts := atoms_spec (ws := wsX1_isUp) B.pre
  have hown : s.vm.findClass RX1 = some m.cls := findClass_of_methodNamed B.named
  have hlocks := B.notSynchronized
  have hin0 : ∀ w ∈ u_ws RX1 TX1 10, w ∈ wsX1_isUp := by decide +kernel
  have hS : va_S (fun _ => False) s.heap s.heap [] := va_S.rf
  have hP : va_P D vwCl (W1 o cI cZ th (nI w) (nI h) tw ch sm od st cl us) s.heap := hP
  have hl := lv_entry ([.ref (o 0), .int (nI x), .int (nI y), .int (nI k)]) (n := 4) (Nat.le_of_ble_eq_true rfl)
  rw [lg_entry_eq]
  generalize (lg_sl ([.ref (o 0), .int (nI x), .int (nI y), .int (nI k)]) ++ List.replicate (4 - (lg_sl ([.ref (o 0), .int (nI x), .int (nI y), .int (nI k)])).length) Slot.unset).toArray = ls at hl ⊢
  have hl : lv_has ls 4 [(0, .ref (o 0)), (1, .int (nI x)), (2, .int (nI y)), (3, .int (nI k))] := hl
  refine lv_aload_n hx hb dX1_isUp_0 rfl (lv_at hl 0 rfl) ?_
  refine lv_aload_n hx hb dX1_isUp_1 rfl (lv_at hl 0 rfl) ?_
  refine lv_iload_n hx hb dX1_isUp_2 rfl (lv_at hl 1 rfl) ?_
  refine lv_iload_n hx hb dX1_isUp_3 rfl (lv_at hl 2 rfl) ?_
  refine lv_iload_n hx hb dX1_isUp_4 rfl (lv_at hl 3 rfl) ?_
  refine ro_V3 ⟨hx, hb, hml, hown, hts⟩ (c_X1_corner l D o cI cZ th tw ch sm od st cl us w h f x y k gw2 gh2 gf gx gy (by omega)) (cwV 3 hts gX1_isUp_X1_corner rfl rfl rfl (by decide +kernel) ⟨Nat.le_of_ble_eq_true rfl, Nat.le_of_ble_eq_true rfl⟩) (va_recv hK hP (ci := 1) (q0 := 0) rfl rfl) hP hK hP hS rfl hl.1 (lv_room (Nat.le_of_ble_eq_true rfl)) dX1_isUp_5 ⟨Nat.le_of_ble_eq_true rfl, Nat.le_of_ble_eq_true rfl⟩ (fun r5 H locs hr5 hP hS => ?_)
  subst hr5
  refine ro_V1 ⟨hx, hb, hml, hown, hts⟩ (c_X1_isAbove l D o cI cZ th (nI w) (nI h) tw ch sm od st cl us (f (cX x (k)) (cY y (k)))) (cwV 1 hts gX1_isUp_X1_isAbove rfl rfl rfl (by decide +kernel) ⟨Nat.le_of_ble_eq_true rfl, Nat.le_of_ble_eq_true rfl⟩) (va_recv hK hP (ci := 1) (q0 := 0) rfl rfl) hP hK hP hS rfl hl.1 (lv_room (Nat.le_of_ble_eq_true rfl)) dX1_isUp_8 ⟨Nat.le_of_ble_eq_true rfl, Nat.le_of_ble_eq_true rfl⟩ (fun r8 H locs hr8 hP hS => ?_)
  subst hr8
  refine lv_if_ne (tgt := 34) hx hb dX1_isUp_11 (by decide) (fun c11 => ?_) (fun c11 => ?_)
  · refine lv_iconst (v := 0) hx hb dX1_isUp_34 (by decide) ?_
    exact W.zret (v := 0) (ty := .boolean) hx hb hr rfl (fun t ht hW => ⟨⟨_, (), rfl, by unfold upB crn; simp_all [bI_0, bI_n0, bI_t, bI_f, bI], trivial⟩, hS.F ht⟩) hS.2.2 dX1_isUp_35
  · refine lv_aload_n hx hb dX1_isUp_14 rfl (lv_at hl 0 rfl) ?_
    refine lv_aload_n hx hb dX1_isUp_15 rfl (lv_at hl 0 rfl) ?_
    refine lv_iload_n hx hb dX1_isUp_16 rfl (lv_at hl 1 rfl) ?_
    refine lv_iload_n hx hb dX1_isUp_17 rfl (lv_at hl 2 rfl) ?_
    refine lv_iload_n hx hb dX1_isUp_18 rfl (lv_at hl 3 rfl) ?_
    refine lv_iconst (v := 1) hx hb dX1_isUp_19 (by decide) ?_
    refine lv_iadd hx hb dX1_isUp_20 ?_
    rw [show (nI k + 1) = nI (k + 1) from nI_p1 k]
    refine ro_V3 ⟨hx, hb, hml, hown, hts⟩ (c_X1_corner l D o cI cZ th tw ch sm od st cl us w h f x y (k + 1) gw2 gh2 gf gx gy (by omega)) (cwV 3 hts gX1_isUp_X1_corner rfl rfl rfl (by decide +kernel) ⟨Nat.le_of_ble_eq_true rfl, Nat.le_of_ble_eq_true rfl⟩) (va_recv hK hP (ci := 1) (q0 := 0) rfl rfl) hP hK hP hS rfl hl.1 (lv_room (Nat.le_of_ble_eq_true rfl)) dX1_isUp_21 ⟨Nat.le_of_ble_eq_true rfl, Nat.le_of_ble_eq_true rfl⟩ (fun r21 H locs hr21 hP hS => ?_)
    subst hr21
    refine ro_V1 ⟨hx, hb, hml, hown, hts⟩ (c_X1_isAbove l D o cI cZ th (nI w) (nI h) tw ch sm od st cl us (f (cX x (k + 1)) (cY y (k + 1)))) (cwV 1 hts gX1_isUp_X1_isAbove rfl rfl rfl (by decide +kernel) ⟨Nat.le_of_ble_eq_true rfl, Nat.le_of_ble_eq_true rfl⟩) (va_recv hK hP (ci := 1) (q0 := 0) rfl rfl) hP hK hP hS rfl hl.1 (lv_room (Nat.le_of_ble_eq_true rfl)) dX1_isUp_24 ⟨Nat.le_of_ble_eq_true rfl, Nat.le_of_ble_eq_true rfl⟩ (fun r24 H locs hr24 hP hS => ?_)
    subst hr24
    refine lv_if_eq (tgt := 34) hx hb dX1_isUp_27 (by decide) (fun c27 => ?_) (fun c27 => ?_)
    · refine lv_iconst (v := 0) hx hb dX1_isUp_34 (by decide) ?_
      exact W.zret (v := 0) (ty := .boolean) hx hb hr rfl (fun t ht hW => ⟨⟨_, (), rfl, by unfold upB crn; simp_all [bI_0, bI_n0, bI_t, bI_f, bI], trivial⟩, hS.F ht⟩) hS.2.2 dX1_isUp_35
    · refine lv_iconst (v := 1) hx hb dX1_isUp_30 (by decide) ?_
      refine lv_goto (tgt := 35) hx hb dX1_isUp_31 (by decide) ?_
      exact W.zret (v := 1) (ty := .boolean) hx hb hr rfl (fun t ht hW => ⟨⟨_, (), rfl, by unfold upB crn; simp_all [bI_0, bI_n0, bI_t, bI_f, bI], trivial⟩, hS.F ht⟩) hS.2.2 dX1_isUp_35

set_option maxHeartbeats 4000000 in
set_option maxRecDepth 100000 in
theorem c_X1_isMiddleAbove (l : Launch) (D : va_G) (o : Nat → Nat) (cI cZ : ClassId) (th tw ch : Int32) (sm od st cl us : Nat → Int32) (w : Nat) (h : Nat) (f : Nat → Nat → Int32) (x : Nat) (y : Nat) (gw2 : w ≤ 12) (gh2 : h ≤ 12) (gf : ∀ x y, x < w → y < h → sm (12 * y + x) = f x y) (gx : x + 1 < w) (gy : y + 1 < h) : roMet l yX1_isMiddleAbove wsX1_isMiddleAbove ({ frames := 2, cells := 0, slots := 0, locals := 45 } : Room) D (W1 o cI cZ th (nI w) (nI h) tw ch sm od st cl us) [(cI, .int), (cZ, .boolean)] [.ref (o 0), .int (nI x), .int (nI y)] (fun r => r = bI (mdB f tw x y)) := by
  refine Met.ofW (cc := cX1_isMiddleAbove) (maxL := 15) (ret := (some .boolean)) (by decide) rfl ?_
  intro p e s m args below meth c s₁ B hml hv
  obtain ⟨rfl, hP, hK⟩ := hv
  have hx := B.exec
  have hb := B.bytes
  have hr := B.returns
  have hts := atoms_spec (ws := wsX1_isMiddleAbove) B.pre
  have hown : s.vm.findClass RX1 = some m.cls := findClass_of_methodNamed B.named
  have hlocks := B.notSynchronized
  have hin0 : ∀ w ∈ u_ws RX1 TX1 10, w ∈ wsX1_isMiddleAbove := by decide +kernel
  have hS : va_S (fun _ => False) s.heap s.heap [] := va_S.rf
  have hP : va_P D vwCl (W1 o cI cZ th (nI w) (nI h) tw ch sm od st cl us) s.heap := hP
  have hl := lv_entry ([.ref (o 0), .int (nI x), .int (nI y)]) (n := 15) (Nat.le_of_ble_eq_true rfl)
  rw [lg_entry_eq]
  generalize (lg_sl ([.ref (o 0), .int (nI x), .int (nI y)]) ++ List.replicate (15 - (lg_sl ([.ref (o 0), .int (nI x), .int (nI y)])).length) Slot.unset).toArray = ls at hl ⊢
  have hl : lv_has ls 15 [(0, .ref (o 0)), (1, .int (nI x)), (2, .int (nI y))] := hl
  refine lv_aload_n hx hb dX1_isMiddleAbove_0 rfl (lv_at hl 0 rfl) ?_
  refine lv_iload_n hx hb dX1_isMiddleAbove_1 rfl (lv_at hl 1 rfl) ?_
  refine lv_iload_n hx hb dX1_isMiddleAbove_2 rfl (lv_at hl 2 rfl) ?_
  refine lv_iconst (v := 0) hx hb dX1_isMiddleAbove_3 (by decide) ?_
  refine ro_V3 ⟨hx, hb, hml, hown, hts⟩ (c_X1_corner l D o cI cZ th tw ch sm od st cl us w h f x y 0 gw2 gh2 gf gx gy (by decide)) (cwV 3 hts gX1_isMiddleAbove_X1_corner rfl rfl rfl (by decide +kernel) ⟨Nat.le_of_ble_eq_true rfl, Nat.le_of_ble_eq_true rfl⟩) (va_recv hK hP (ci := 1) (q0 := 0) rfl rfl) hP hK hP hS rfl hl.1 (lv_room (Nat.le_of_ble_eq_true rfl)) dX1_isMiddleAbove_4 ⟨Nat.le_of_ble_eq_true rfl, Nat.le_of_ble_eq_true rfl⟩ (fun r4 H locs hr4 hP hS => ?_)
  subst hr4
  refine lv_i2l hx hb dX1_isMiddleAbove_7 rfl ?_
  refine lv_topl (fun x8 ex8 => ?_)
  refine lv_lstore_n (lv' := [(3, .long x8), (0, .ref (o 0)), (1, .int (nI x)), (2, .int (nI y))]) hx hb dX1_isMiddleAbove_8 rfl hl (by decide) rfl (fun ls hl => ?_)
  refine lv_aload_n hx hb dX1_isMiddleAbove_9 rfl (lv_at hl 1 rfl) ?_
  refine lv_iload_n hx hb dX1_isMiddleAbove_10 rfl (lv_at hl 2 rfl) ?_
  refine lv_iload_n hx hb dX1_isMiddleAbove_11 rfl (lv_at hl 3 rfl) ?_
  refine lv_iconst (v := 1) hx hb dX1_isMiddleAbove_12 (by decide) ?_
  refine ro_V3 ⟨hx, hb, hml, hown, hts⟩ (c_X1_corner l D o cI cZ th tw ch sm od st cl us w h f x y 1 gw2 gh2 gf gx gy (by decide)) (cwV 3 hts gX1_isMiddleAbove_X1_corner rfl rfl rfl (by decide +kernel) ⟨Nat.le_of_ble_eq_true rfl, Nat.le_of_ble_eq_true rfl⟩) (va_recv hK hP (ci := 1) (q0 := 0) rfl rfl) hP hK hP hS rfl hl.1 (lv_room (Nat.le_of_ble_eq_true rfl)) dX1_isMiddleAbove_13 ⟨Nat.le_of_ble_eq_true rfl, Nat.le_of_ble_eq_true rfl⟩ (fun r13 H locs hr13 hP hS => ?_)
  subst hr13
  refine lv_i2l hx hb dX1_isMiddleAbove_16 rfl ?_
  refine lv_topl (fun x17 ex17 => ?_)
  refine lv_lstore (lv' := [(5, .long x17), (3, .long x8), (0, .ref (o 0)), (1, .int (nI x)), (2, .int (nI y))]) hx hb dX1_isMiddleAbove_17 hl (by decide) rfl (fun ls hl => ?_)
  refine lv_aload_n hx hb dX1_isMiddleAbove_19 rfl (lv_at hl 2 rfl) ?_
  refine lv_iload_n hx hb dX1_isMiddleAbove_20 rfl (lv_at hl 3 rfl) ?_
  refine lv_iload_n hx hb dX1_isMiddleAbove_21 rfl (lv_at hl 4 rfl) ?_
  refine lv_iconst (v := 2) hx hb dX1_isMiddleAbove_22 (by decide) ?_
  refine ro_V3 ⟨hx, hb, hml, hown, hts⟩ (c_X1_corner l D o cI cZ th tw ch sm od st cl us w h f x y 2 gw2 gh2 gf gx gy (by decide)) (cwV 3 hts gX1_isMiddleAbove_X1_corner rfl rfl rfl (by decide +kernel) ⟨Nat.le_of_ble_eq_true rfl, Nat.le_of_ble_eq_true rfl⟩) (va_recv hK hP (ci := 1) (q0 := 0) rfl rfl) hP hK hP hS rfl hl.1 (lv_room (Nat.le_of_ble_eq_true rfl)) dX1_isMiddleAbove_23 ⟨Nat.le_of_ble_eq_true rfl, Nat.le_of_ble_eq_true rfl⟩ (fun r23 H locs hr23 hP hS => ?_)
  subst hr23
  refine lv_i2l hx hb dX1_isMiddleAbove_26 rfl ?_
  refine lv_topl (fun x27 ex27 => ?_)
  refine lv_lstore (lv' := [(7, .long x27), (5, .long x17), (3, .long x8), (0, .ref (o 0)), (1, .int (nI x)), (2, .int (nI y))]) hx hb dX1_isMiddleAbove_27 hl (by decide) rfl (fun ls hl => ?_)
  refine lv_aload_n hx hb dX1_isMiddleAbove_29 rfl (lv_at hl 3 rfl) ?_
  refine lv_iload_n hx hb dX1_isMiddleAbove_30 rfl (lv_at hl 4 rfl) ?_
  refine lv_iload_n hx hb dX1_isMiddleAbove_31 rfl (lv_at hl 5 rfl) ?_
  refine lv_iconst (v := 3) hx hb dX1_isMiddleAbove_32 (by decide) ?_
  refine ro_V3 ⟨hx, hb, hml, hown, hts⟩ (c_X1_corner l D o cI cZ th tw ch sm od st cl us w h f x y 3 gw2 gh2 gf gx gy (by decide)) (cwV 3 hts gX1_isMiddleAbove_X1_corner rfl rfl rfl (by decide +kernel) ⟨Nat.le_of_ble_eq_true rfl, Nat.le_of_ble_eq_true rfl⟩) (va_recv hK hP (ci := 1) (q0 := 0) rfl rfl) hP hK hP hS rfl hl.1 (lv_room (Nat.le_of_ble_eq_true rfl)) dX1_isMiddleAbove_33 ⟨Nat.le_of_ble_eq_true rfl, Nat.le_of_ble_eq_true rfl⟩ (fun r33 H locs hr33 hP hS => ?_)
  subst hr33
  refine lv_i2l hx hb dX1_isMiddleAbove_36 rfl ?_
  refine lv_topl (fun x37 ex37 => ?_)
  refine lv_lstore (lv' := [(9, .long x37), (7, .long x27), (5, .long x17), (3, .long x8), (0, .ref (o 0)), (1, .int (nI x)), (2, .int (nI y))]) hx hb dX1_isMiddleAbove_37 hl (by decide) rfl (fun ls hl => ?_)
  refine lv_lload_n hx hb dX1_isMiddleAbove_39 rfl (lv_at hl 3 rfl) ?_
  refine lv_lload hx hb dX1_isMiddleAbove_40 (lv_at hl 1 rfl) ?_
  refine lv_ladd hx hb dX1_isMiddleAbove_42 ?_
  refine lv_lload hx hb dX1_isMiddleAbove_43 (lv_at hl 2 rfl) ?_
  refine lv_lsub hx hb dX1_isMiddleAbove_45 ?_
  refine lv_lload hx hb dX1_isMiddleAbove_46 (lv_at hl 0 rfl) ?_
  refine lv_lsub hx hb dX1_isMiddleAbove_48 ?_
  refine lv_topl (fun x49 ex49 => ?_)
  refine lv_lstore (lv' := [(11, .long x49), (9, .long x37), (7, .long x27), (5, .long x17), (3, .long x8), (0, .ref (o 0)), (1, .int (nI x)), (2, .int (nI y))]) hx hb dX1_isMiddleAbove_49 hl (by decide) rfl (fun ls hl => ?_)
  refine lv_ldc2 (v := 2) hx hb hown (hts (.constantLong RX1 78 (2)) (by decide +kernel)) dX1_isMiddleAbove_51 ?_
  refine lv_lload_n hx hb dX1_isMiddleAbove_54 rfl (lv_at hl 4 rfl) ?_
  refine lv_lload hx hb dX1_isMiddleAbove_55 (lv_at hl 2 rfl) ?_
  refine lv_lmul hx hb dX1_isMiddleAbove_57 ?_
  refine lv_lload hx hb dX1_isMiddleAbove_58 (lv_at hl 3 rfl) ?_
  refine lv_lload hx hb dX1_isMiddleAbove_60 (lv_at hl 1 rfl) ?_
  refine lv_lmul hx hb dX1_isMiddleAbove_62 ?_
  refine lv_lsub hx hb dX1_isMiddleAbove_63 ?_
  refine lv_lmul hx hb dX1_isMiddleAbove_64 ?_
  refine lv_topl (fun x65 ex65 => ?_)
  refine lv_lstore (lv' := [(13, .long x65), (11, .long x49), (9, .long x37), (7, .long x27), (5, .long x17), (3, .long x8), (0, .ref (o 0)), (1, .int (nI x)), (2, .int (nI y))]) hx hb dX1_isMiddleAbove_65 hl (by decide) rfl (fun ls hl => ?_)
  refine lv_lload hx hb dX1_isMiddleAbove_67 (lv_at hl 1 rfl) ?_
  refine lv_lconst (v := 0) hx hb dX1_isMiddleAbove_69 (by decide) ?_
  refine W.lcmp hx hb dX1_isMiddleAbove_70 ?_
  refine lv_if_le (tgt := 96) hx hb dX1_isMiddleAbove_71 (by decide) (fun c71 => ?_) (fun c71 => ?_)
  · refine lv_lload hx hb dX1_isMiddleAbove_96 (lv_at hl 0 rfl) ?_
    refine lv_aload_n hx hb dX1_isMiddleAbove_98 rfl (lv_at hl 6 rfl) ?_
    refine va_get (D := D) (ci := 1) (v := .int tw) (C := RX1) (T := TX1) (N := 10) hx hb hts hin0 hown hK hP 0 rfl rfl 3 (by decide) (hts (.fieldLink RX1 16 "HeightLinesModel" "twice" "I") (by decide +kernel)) (fun _ h9 => h9) rfl dX1_isMiddleAbove_99 ?_
    refine lv_i2l hx hb dX1_isMiddleAbove_102 rfl ?_
    refine lv_lload hx hb dX1_isMiddleAbove_103 (lv_at hl 1 rfl) ?_
    refine lv_lmul hx hb dX1_isMiddleAbove_105 ?_
    refine W.lcmp hx hb dX1_isMiddleAbove_106 ?_
    refine lv_if_ge (tgt := 114) hx hb dX1_isMiddleAbove_107 (by decide) (fun c107 => ?_) (fun c107 => ?_)
    · refine lv_iconst (v := 0) hx hb dX1_isMiddleAbove_114 (by decide) ?_
      exact W.zret (v := 0) (ty := .boolean) hx hb hr rfl (fun t ht hW => ⟨⟨_, (), rfl, bI_z (by unfold mdB; rw [(mid_2 (lo := x49) (mi := x65) (lv := tw.toInt64 * x49) (a := f x y) (b := f (x + 1) y) (c := f (x + 1) (y + 1)) (d := f x (y + 1)) (by rw [ex49, ex8, ex17, ex27, ex37]; rfl) (by rw [ex65, ex8, ex17, ex27, ex37]; rfl) rfl c71)]; exact decide_eq_false (Int64.not_lt.mpr ((lg_cmp_ge _ _).mp c107))), trivial⟩, hS.F ht⟩) hS.2.2 dX1_isMiddleAbove_115
    · refine lv_iconst (v := 1) hx hb dX1_isMiddleAbove_110 (by decide) ?_
      refine lv_goto (tgt := 115) hx hb dX1_isMiddleAbove_111 (by decide) ?_
      exact W.zret (v := 1) (ty := .boolean) hx hb hr rfl (fun t ht hW => ⟨⟨_, (), rfl, bI_1 (by unfold mdB; rw [(mid_2 (lo := x49) (mi := x65) (lv := tw.toInt64 * x49) (a := f x y) (b := f (x + 1) y) (c := f (x + 1) (y + 1)) (d := f x (y + 1)) (by rw [ex49, ex8, ex17, ex27, ex37]; rfl) (by rw [ex65, ex8, ex17, ex27, ex37]; rfl) rfl c71)]; exact decide_eq_true (Int64.not_le.mp (fun z => c107 ((lg_cmp_ge _ _).mpr z)))), trivial⟩, hS.F ht⟩) hS.2.2 dX1_isMiddleAbove_115
  · refine lv_lload hx hb dX1_isMiddleAbove_74 (lv_at hl 0 rfl) ?_
    refine lv_aload_n hx hb dX1_isMiddleAbove_76 rfl (lv_at hl 6 rfl) ?_
    refine va_get (D := D) (ci := 1) (v := .int tw) (C := RX1) (T := TX1) (N := 10) hx hb hts hin0 hown hK hP 0 rfl rfl 3 (by decide) (hts (.fieldLink RX1 16 "HeightLinesModel" "twice" "I") (by decide +kernel)) (fun _ h9 => h9) rfl dX1_isMiddleAbove_77 ?_
    refine lv_i2l hx hb dX1_isMiddleAbove_80 rfl ?_
    refine lv_lload hx hb dX1_isMiddleAbove_81 (lv_at hl 1 rfl) ?_
    refine lv_lmul hx hb dX1_isMiddleAbove_83 ?_
    refine W.lcmp hx hb dX1_isMiddleAbove_84 ?_
    refine lv_if_le (tgt := 92) hx hb dX1_isMiddleAbove_85 (by decide) (fun c85 => ?_) (fun c85 => ?_)
    · refine lv_iconst (v := 0) hx hb dX1_isMiddleAbove_92 (by decide) ?_
      refine lv_goto (tgt := 115) hx hb dX1_isMiddleAbove_93 (by decide) ?_
      exact W.zret (v := 0) (ty := .boolean) hx hb hr rfl (fun t ht hW => ⟨⟨_, (), rfl, bI_z (by unfold mdB; rw [(mid_1 (lo := x49) (mi := x65) (lv := tw.toInt64 * x49) (a := f x y) (b := f (x + 1) y) (c := f (x + 1) (y + 1)) (d := f x (y + 1)) (by rw [ex49, ex8, ex17, ex27, ex37]; rfl) (by rw [ex65, ex8, ex17, ex27, ex37]; rfl) rfl c71)]; exact decide_eq_false (Int64.not_lt.mpr ((lg_cmp_le _ _).mp c85))), trivial⟩, hS.F ht⟩) hS.2.2 dX1_isMiddleAbove_115
    · refine lv_iconst (v := 1) hx hb dX1_isMiddleAbove_88 (by decide) ?_
      refine lv_goto (tgt := 115) hx hb dX1_isMiddleAbove_89 (by decide) ?_
      exact W.zret (v := 1) (ty := .boolean) hx hb hr rfl (fun t ht hW => ⟨⟨_, (), rfl, bI_1 (by unfold mdB; rw [(mid_1 (lo := x49) (mi := x65) (lv := tw.toInt64 * x49) (a := f x y) (b := f (x + 1) y) (c := f (x + 1) (y + 1)) (d := f x (y + 1)) (by rw [ex49, ex8, ex17, ex27, ex37]; rfl) (by rw [ex65, ex8, ex17, ex27, ex37]; rfl) rfl c71)]; exact decide_eq_true (Int64.not_le.mp (fun z => c85 ((lg_cmp_le _ _).mpr z)))), trivial⟩, hS.F ht⟩) hS.2.2 dX1_isMiddleAbove_115

set_option maxHeartbeats 4000000 in
set_option maxRecDepth 100000 in
theorem c_X1_isCell (l : Launch) (D : va_G) (o : Nat → Nat) (cI cZ : ClassId) (th tw ch : Int32) (sm od st cl us : Nat → Int32) (w : Nat) (h : Nat) (x : Int32) (y : Int32) (gw : 1 ≤ w) (gh : 1 ≤ h) : roMet l yX1_isCell wsX1_isCell ({ frames := 0, cells := 0, slots := 0, locals := 0 } : Room) D (W1 o cI cZ th (nI w) (nI h) tw ch sm od st cl us) [(cI, .int), (cZ, .boolean)] [.ref (o 0), .int x, .int y] (fun r => r = bI (decide (0 ≤ x) && decide (x < nI (w - 1)) && decide (0 ≤ y) && decide (y < nI (h - 1)))) := by
  refine Met.ofW (cc := cX1_isCell) (maxL := 3) (ret := (some .boolean)) (by decide) rfl ?_
  intro p e s m args below meth c s₁ B hml hv
  obtain ⟨rfl, hP, hK⟩ := hv
  have hx := B.exec
  have hb := B.bytes
  have hr := B.returns
  have hts := atoms_spec (ws := wsX1_isCell) B.pre
  have hown : s.vm.findClass RX1 = some m.cls := findClass_of_methodNamed B.named
  have hlocks := B.notSynchronized
  have hin0 : ∀ w ∈ u_ws RX1 TX1 10, w ∈ wsX1_isCell := by decide +kernel
  have hS : va_S (fun _ => False) s.heap s.heap [] := va_S.rf
  have hP : va_P D vwCl (W1 o cI cZ th (nI w) (nI h) tw ch sm od st cl us) s.heap := hP
  have hl := lv_entry ([.ref (o 0), .int x, .int y]) (n := 3) (Nat.le_of_ble_eq_true rfl)
  rw [lg_entry_eq]
  generalize (lg_sl ([.ref (o 0), .int x, .int y]) ++ List.replicate (3 - (lg_sl ([.ref (o 0), .int x, .int y])).length) Slot.unset).toArray = ls at hl ⊢
  have hl : lv_has ls 3 [(0, .ref (o 0)), (1, .int x), (2, .int y)] := hl
  refine lv_iload_n hx hb dX1_isCell_0 rfl (lv_at hl 1 rfl) ?_
  refine lv_if_lt (tgt := 32) hx hb dX1_isCell_1 (by decide) (fun c1 => ?_) (fun c1 => ?_)
  · refine lv_iconst (v := 0) hx hb dX1_isCell_32 (by decide) ?_
    exact W.zret (v := 0) (ty := .boolean) hx hb hr rfl (fun t ht hW => ⟨⟨_, (), rfl, by first | (simp_all [bI]; done) | (simp_all [bI, Int32.lt_iff_toInt_lt, Int32.le_iff_toInt_le]; try omega), trivial⟩, hS.F ht⟩) hS.2.2 dX1_isCell_33
  · refine lv_iload_n hx hb dX1_isCell_4 rfl (lv_at hl 1 rfl) ?_
    refine lv_aload_n hx hb dX1_isCell_5 rfl (lv_at hl 0 rfl) ?_
    refine va_get (D := D) (ci := 1) (v := .int (nI w)) (C := RX1) (T := TX1) (N := 10) hx hb hts hin0 hown hK hP 0 rfl rfl 1 (by decide) (hts (.fieldLink RX1 7 "HeightLinesModel" "w" "I") (by decide +kernel)) (fun _ h9 => h9) rfl dX1_isCell_6 ?_
    refine lv_iconst (v := 1) hx hb dX1_isCell_9 (by decide) ?_
    refine lv_isub hx hb dX1_isCell_10 ?_
    rw [show ((nI w) - 1) = nI (w - 1) from nI_m1 (by omega)]
    refine lv_icmp_ge (tgt := 32) hx hb dX1_isCell_11 (by decide) (fun c11 => ?_) (fun c11 => ?_)
    · refine lv_iconst (v := 0) hx hb dX1_isCell_32 (by decide) ?_
      exact W.zret (v := 0) (ty := .boolean) hx hb hr rfl (fun t ht hW => ⟨⟨_, (), rfl, by first | (simp_all [bI]; done) | (simp_all [bI, Int32.lt_iff_toInt_lt, Int32.le_iff_toInt_le]; try omega), trivial⟩, hS.F ht⟩) hS.2.2 dX1_isCell_33
    · refine lv_iload_n hx hb dX1_isCell_14 rfl (lv_at hl 2 rfl) ?_
      refine lv_if_lt (tgt := 32) hx hb dX1_isCell_15 (by decide) (fun c15 => ?_) (fun c15 => ?_)
      · refine lv_iconst (v := 0) hx hb dX1_isCell_32 (by decide) ?_
        exact W.zret (v := 0) (ty := .boolean) hx hb hr rfl (fun t ht hW => ⟨⟨_, (), rfl, by first | (simp_all [bI]; done) | (simp_all [bI, Int32.lt_iff_toInt_lt, Int32.le_iff_toInt_le]; try omega), trivial⟩, hS.F ht⟩) hS.2.2 dX1_isCell_33
      · refine lv_iload_n hx hb dX1_isCell_18 rfl (lv_at hl 2 rfl) ?_
        refine lv_aload_n hx hb dX1_isCell_19 rfl (lv_at hl 0 rfl) ?_
        refine va_get (D := D) (ci := 1) (v := .int (nI h)) (C := RX1) (T := TX1) (N := 10) hx hb hts hin0 hown hK hP 0 rfl rfl 2 (by decide) (hts (.fieldLink RX1 13 "HeightLinesModel" "h" "I") (by decide +kernel)) (fun _ h9 => h9) rfl dX1_isCell_20 ?_
        refine lv_iconst (v := 1) hx hb dX1_isCell_23 (by decide) ?_
        refine lv_isub hx hb dX1_isCell_24 ?_
        rw [show ((nI h) - 1) = nI (h - 1) from nI_m1 (by omega)]
        refine lv_icmp_ge (tgt := 32) hx hb dX1_isCell_25 (by decide) (fun c25 => ?_) (fun c25 => ?_)
        · refine lv_iconst (v := 0) hx hb dX1_isCell_32 (by decide) ?_
          exact W.zret (v := 0) (ty := .boolean) hx hb hr rfl (fun t ht hW => ⟨⟨_, (), rfl, by first | (simp_all [bI]; done) | (simp_all [bI, Int32.lt_iff_toInt_lt, Int32.le_iff_toInt_le]; try omega), trivial⟩, hS.F ht⟩) hS.2.2 dX1_isCell_33
        · refine lv_iconst (v := 1) hx hb dX1_isCell_28 (by decide) ?_
          refine lv_goto (tgt := 33) hx hb dX1_isCell_29 (by decide) ?_
          exact W.zret (v := 1) (ty := .boolean) hx hb hr rfl (fun t ht hW => ⟨⟨_, (), rfl, by first | (simp_all [bI]; done) | (simp_all [bI, Int32.lt_iff_toInt_lt, Int32.le_iff_toInt_le]; try omega), trivial⟩, hS.F ht⟩) hS.2.2 dX1_isCell_33

set_option maxHeartbeats 4000000 in
set_option maxRecDepth 100000 in
theorem c_X1_isChain (l : Launch) (D : va_G) (o : Nat → Nat) (cI cZ : ClassId) (th co ro tw ch : Int32) (sm od st cl us : Nat → Int32) (y : Int32) : roMet l yX1_isChain wsX1_isChain ({ frames := 0, cells := 0, slots := 0, locals := 0 } : Room) D (W1 o cI cZ th co ro tw ch sm od st cl us) [(cI, .int), (cZ, .boolean)] [.ref (o 0), .int y] (fun r => r = bI (decide (0 ≤ y) && decide (y < ch))) := by
  refine Met.ofW (cc := cX1_isChain) (maxL := 2) (ret := (some .boolean)) (by decide) rfl ?_
  intro p e s m args below meth c s₁ B hml hv
  obtain ⟨rfl, hP, hK⟩ := hv
  have hx := B.exec
  have hb := B.bytes
  have hr := B.returns
  have hts := atoms_spec (ws := wsX1_isChain) B.pre
  have hown : s.vm.findClass RX1 = some m.cls := findClass_of_methodNamed B.named
  have hlocks := B.notSynchronized
  have hin0 : ∀ w ∈ u_ws RX1 TX1 10, w ∈ wsX1_isChain := by decide +kernel
  have hS : va_S (fun _ => False) s.heap s.heap [] := va_S.rf
  have hP : va_P D vwCl (W1 o cI cZ th co ro tw ch sm od st cl us) s.heap := hP
  have hl := lv_entry ([.ref (o 0), .int y]) (n := 2) (Nat.le_of_ble_eq_true rfl)
  rw [lg_entry_eq]
  generalize (lg_sl ([.ref (o 0), .int y]) ++ List.replicate (2 - (lg_sl ([.ref (o 0), .int y])).length) Slot.unset).toArray = ls at hl ⊢
  have hl : lv_has ls 2 [(0, .ref (o 0)), (1, .int y)] := hl
  refine lv_iload_n hx hb dX1_isChain_0 rfl (lv_at hl 1 rfl) ?_
  refine lv_if_lt (tgt := 16) hx hb dX1_isChain_1 (by decide) (fun c1 => ?_) (fun c1 => ?_)
  · refine lv_iconst (v := 0) hx hb dX1_isChain_16 (by decide) ?_
    exact W.zret (v := 0) (ty := .boolean) hx hb hr rfl (fun t ht hW => ⟨⟨_, (), rfl, by first | (simp_all [bI]; done) | (simp_all [bI, Int32.lt_iff_toInt_lt, Int32.le_iff_toInt_le]; try omega), trivial⟩, hS.F ht⟩) hS.2.2 dX1_isChain_17
  · refine lv_iload_n hx hb dX1_isChain_4 rfl (lv_at hl 1 rfl) ?_
    refine lv_aload_n hx hb dX1_isChain_5 rfl (lv_at hl 0 rfl) ?_
    refine va_get (D := D) (ci := 1) (v := .int ch) (C := RX1) (T := TX1) (N := 10) hx hb hts hin0 hown hK hP 0 rfl rfl 9 (by decide) (hts (.fieldLink RX1 39 "HeightLinesModel" "chains" "I") (by decide +kernel)) (fun _ h9 => h9) rfl dX1_isChain_6 ?_
    refine lv_icmp_ge (tgt := 16) hx hb dX1_isChain_9 (by decide) (fun c9 => ?_) (fun c9 => ?_)
    · refine lv_iconst (v := 0) hx hb dX1_isChain_16 (by decide) ?_
      exact W.zret (v := 0) (ty := .boolean) hx hb hr rfl (fun t ht hW => ⟨⟨_, (), rfl, by first | (simp_all [bI]; done) | (simp_all [bI, Int32.lt_iff_toInt_lt, Int32.le_iff_toInt_le]; try omega), trivial⟩, hS.F ht⟩) hS.2.2 dX1_isChain_17
    · refine lv_iconst (v := 1) hx hb dX1_isChain_12 (by decide) ?_
      refine lv_goto (tgt := 17) hx hb dX1_isChain_13 (by decide) ?_
      exact W.zret (v := 1) (ty := .boolean) hx hb hr rfl (fun t ht hW => ⟨⟨_, (), rfl, by first | (simp_all [bI]; done) | (simp_all [bI, Int32.lt_iff_toInt_lt, Int32.le_iff_toInt_le]; try omega), trivial⟩, hS.F ht⟩) hS.2.2 dX1_isChain_17
