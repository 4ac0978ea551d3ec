set_option maxHeartbeats 4000000 in
set_option maxRecDepth 100000 in
theorem c_X1_crossing (l : Launch) (D : va_G) (o : Nat → Nat) (cI cZ : ClassId) (th tw ch : Int32) (sm od st cl us : Nat → Int32) (w : Nat) (h : Nat) (f : Nat → Nat → Int32) (a : Int32) (b : Int32) (gw : 2 ≤ w) (gw2 : w ≤ 12) (gh : 2 ≤ h) (gh2 : h ≤ 12) (gf : ∀ x y, x < w → y < h → sm (12 * y + x) = f x y) (gb : ∀ x y, x < w → y < h → sB (f x y)) (gt : tB tw) : wiMet l yX1_crossing wsX1_crossing ({ frames := 4, cells := 0, slots := 0, locals := 84 } : Room) D (W1 o cI cZ th (nI w) (nI h) tw ch sm od st cl us) (W1 o cI cZ (bif okC w h f tw a b then 0 else 1) (nI w) (nI h) tw ch sm od st cl us) [(cI, .int), (cZ, .boolean)] [.ref (o 0), .int a, .int b] (crA w h f tw a b) := by
  refine Met.ofW (cc := cX1_crossing) (maxL := 9) (ret := (some .int)) (by decide) rfl ?_
  intro p e s m args below meth c s₁ B hml hv
  obtain ⟨rfl, hP, hK, hD0⟩ := hv
  have hx := B.exec
  have hb := B.bytes
  have hr := B.returns
  have hts := atoms_spec (ws := wsX1_crossing) B.pre
  have hown : s.vm.findClass RX1 = some m.cls := findClass_of_methodNamed B.named
  have hlocks := B.notSynchronized
  have hin0 : ∀ w ∈ u_ws RX1 TX1 10, w ∈ wsX1_crossing := by decide +kernel
  have hD := wA_D hD0
  have hS : va_S (wA (W1 o cI cZ th (nI w) (nI h) tw ch sm od st cl us)) s.heap s.heap [] := va_S.rf
  obtain ⟨H, hH, hP, hS⟩ : ∃ H : Heap, s.heap = H ∧ va_P D vwCl (W1 o cI cZ th (nI w) (nI h) tw ch sm od st cl us) H ∧ va_S (wA (W1 o cI cZ th (nI w) (nI h) tw ch sm od st cl us)) s.heap H [] := ⟨_, rfl, hP, hS⟩
  rw [hH]
  have hl := lv_entry ([.ref (o 0), .int a, .int b]) (n := 9) (Nat.le_of_ble_eq_true rfl)
  rw [lg_entry_eq]
  generalize (lg_sl ([.ref (o 0), .int a, .int b]) ++ List.replicate (9 - (lg_sl ([.ref (o 0), .int a, .int b])).length) Slot.unset).toArray = ls at hl ⊢
  have hl : lv_has ls 9 [(0, .ref (o 0)), (1, .int a), (2, .int b)] := hl
  refine lv_iload_n hx hb dX1_crossing_0 rfl (lv_at hl 1 rfl) ?_
  refine lv_if_lt (tgt := 33) hx hb dX1_crossing_1 (by decide) (fun c1 => ?_) (fun c1 => ?_)
  · refine lv_iconst (v := 0) hx hb dX1_crossing_33 (by decide) ?_
    refine lv_istore_n (lv' := [(3, .int 0), (0, .ref (o 0)), (1, .int a), (2, .int b)]) hx hb dX1_crossing_34 rfl hl (by decide) rfl (fun ls hl => ?_)
    refine lv_aload_n hx hb dX1_crossing_35 rfl (lv_at hl 1 rfl) ?_
    refine lv_iload_n hx hb dX1_crossing_36 rfl (lv_at hl 0 rfl) ?_
    refine lv_if_eq (tgt := 44) hx hb dX1_crossing_37 (by decide) (fun c37 => ?_) (fun c37 => ?_)
    · refine lv_iconst (v := 1) hx hb dX1_crossing_44 (by decide) ?_
      refine va_put (D := D) (ci := 1) (v := .int 1) (ty := .int) (C := RX1) (T := TX1) (N := 10) hx hb hts hin0 tyX1 tyX1_ok nmX1 hown hK hP hD hS 0 rfl rfl 0 (by decide) (hts (.fieldLink RX1 36 "HeightLinesModel" "thrown" "I") (by decide +kernel)) (fun _ h9 => h9) rfl (by decide +kernel) rfl rfl (Nat.le_of_ble_eq_true rfl) dX1_crossing_45 (fun H locs hP hD hS => ?_)
      have hP : va_P D vwCl (W1 o cI cZ 1 (nI w) (nI h) tw ch sm od st cl us) H := hP
      have hD : va_D (wA (W1 o cI cZ th (nI w) (nI h) tw ch sm od st cl us)) (W1 o cI cZ 1 (nI w) (nI h) tw ch sm od st cl us) := hD
      refine lv_iload_n hx hb dX1_crossing_48 rfl (lv_at hl 0 rfl) ?_
      refine lv_if_ne (tgt := 54) hx hb dX1_crossing_49 (by decide) (fun c49 => ?_) (fun c49 => ?_)
      · exact absurd c49 (by decide)
      · refine lv_iconst (v := 0) hx hb dX1_crossing_52 (by decide) ?_
        have hok : okC w h f tw a b = false := by unfold okC okY; rw [decide_eq_false (Int32.not_le.mpr c1)]; rfl
        have hP : va_P D vwCl (W1 o cI cZ (bif okC w h f tw a b then 0 else 1) (nI w) (nI h) tw ch sm od st cl us) H := by rw [hok]; exact hP
        have hD : va_D (wA (W1 o cI cZ th (nI w) (nI h) tw ch sm od st cl us)) (W1 o cI cZ (bif okC w h f tw a b then 0 else 1) (nI w) (nI h) tw ch sm od st cl us) := by rw [hok]; exact hD
        exact W.iret (v := 0) hx hb hr (fun t ht hW => ⟨⟨_, (), rfl, by unfold crA; rw [hok]; rfl, by rw [ht]; exact hP, va_K.moved hW.alike hK, hD⟩, hS.F ht⟩) hS.2.2 dX1_crossing_53
    · exact absurd c37 (by decide)
  · refine lv_iload_n hx hb dX1_crossing_4 rfl (lv_at hl 1 rfl) ?_
    refine lv_aload_n hx hb dX1_crossing_5 rfl (lv_at hl 0 rfl) ?_
    refine ro_V0 ⟨hx, hb, hml, hown, hts⟩ (c_X1_all l D o cI cZ th tw ch sm od st cl us w h (by omega) (by omega)) (cwV 0 hts gX1_crossing_X1_all rfl rfl rfl (by decide +kernel) ⟨Nat.le_of_ble_eq_true rfl, Nat.le_of_ble_eq_true rfl⟩) (va_recv hK hP (ci := 1) (q0 := 0) rfl rfl) hP hK hP hS rfl hl.1 (lv_room (Nat.le_of_ble_eq_true rfl)) dX1_crossing_6 ⟨Nat.le_of_ble_eq_true rfl, Nat.le_of_ble_eq_true rfl⟩ (fun r6 H locs hr6 hP hS => ?_)
    subst hr6
    refine lv_icmp_ge (tgt := 33) hx hb dX1_crossing_9 (by decide) (fun c9 => ?_) (fun c9 => ?_)
    · refine lv_iconst (v := 0) hx hb dX1_crossing_33 (by decide) ?_
      refine lv_istore_n (lv' := [(3, .int 0), (0, .ref (o 0)), (1, .int a), (2, .int b)]) hx hb dX1_crossing_34 rfl hl (by decide) rfl (fun ls hl => ?_)
      refine lv_aload_n hx hb dX1_crossing_35 rfl (lv_at hl 1 rfl) ?_
      refine lv_iload_n hx hb dX1_crossing_36 rfl (lv_at hl 0 rfl) ?_
      refine lv_if_eq (tgt := 44) hx hb dX1_crossing_37 (by decide) (fun c37 => ?_) (fun c37 => ?_)
      · refine lv_iconst (v := 1) hx hb dX1_crossing_44 (by decide) ?_
        refine va_put (D := D) (ci := 1) (v := .int 1) (ty := .int) (C := RX1) (T := TX1) (N := 10) hx hb hts hin0 tyX1 tyX1_ok nmX1 hown hK hP hD hS 0 rfl rfl 0 (by decide) (hts (.fieldLink RX1 36 "HeightLinesModel" "thrown" "I") (by decide +kernel)) (fun _ h9 => h9) rfl (by decide +kernel) rfl rfl (Nat.le_of_ble_eq_true rfl) dX1_crossing_45 (fun H locs hP hD hS => ?_)
        have hP : va_P D vwCl (W1 o cI cZ 1 (nI w) (nI h) tw ch sm od st cl us) H := hP
        have hD : va_D (wA (W1 o cI cZ th (nI w) (nI h) tw ch sm od st cl us)) (W1 o cI cZ 1 (nI w) (nI h) tw ch sm od st cl us) := hD
        refine lv_iload_n hx hb dX1_crossing_48 rfl (lv_at hl 0 rfl) ?_
        refine lv_if_ne (tgt := 54) hx hb dX1_crossing_49 (by decide) (fun c49 => ?_) (fun c49 => ?_)
        · exact absurd c49 (by decide)
        · refine lv_iconst (v := 0) hx hb dX1_crossing_52 (by decide) ?_
          have hok : okC w h f tw a b = false := by unfold okC okY; rw [decide_eq_false (Int32.not_lt.mpr c9)]; simp
          have hP : va_P D vwCl (W1 o cI cZ (bif okC w h f tw a b then 0 else 1) (nI w) (nI h) tw ch sm od st cl us) H := by rw [hok]; exact hP
          have hD : va_D (wA (W1 o cI cZ th (nI w) (nI h) tw ch sm od st cl us)) (W1 o cI cZ (bif okC w h f tw a b then 0 else 1) (nI w) (nI h) tw ch sm od st cl us) := by rw [hok]; exact hD
          exact W.iret (v := 0) hx hb hr (fun t ht hW => ⟨⟨_, (), rfl, by unfold crA; rw [hok]; rfl, by rw [ht]; exact hP, va_K.moved hW.alike hK, hD⟩, hS.F ht⟩) hS.2.2 dX1_crossing_53
      · exact absurd c37 (by decide)
    · obtain ⟨e0, he0, ea⟩ : ∃ j, j < nE w h ∧ a = nI j := okY_n (h := nE w h) (by unfold okY; rw [decide_eq_true (Int32.not_lt.mp c1), decide_eq_true (Int32.not_le.mp c9)]; rfl) (by have := nE_le gw2 gh2; omega)
      have he2 := nE_le gw2 gh2
      rw [ea] at hl
      refine lv_iload_n hx hb dX1_crossing_12 rfl (lv_at hl 2 rfl) ?_
      refine lv_if_lt (tgt := 33) hx hb dX1_crossing_13 (by decide) (fun c13 => ?_) (fun c13 => ?_)
      · refine lv_iconst (v := 0) hx hb dX1_crossing_33 (by decide) ?_
        refine lv_istore_n (lv' := [(3, .int 0), (0, .ref (o 0)), (1, .int (nI e0)), (2, .int b)]) hx hb dX1_crossing_34 rfl hl (by decide) rfl (fun ls hl => ?_)
        refine lv_aload_n hx hb dX1_crossing_35 rfl (lv_at hl 1 rfl) ?_
        refine lv_iload_n hx hb dX1_crossing_36 rfl (lv_at hl 0 rfl) ?_
        refine lv_if_eq (tgt := 44) hx hb dX1_crossing_37 (by decide) (fun c37 => ?_) (fun c37 => ?_)
        · refine lv_iconst (v := 1) hx hb dX1_crossing_44 (by decide) ?_
          refine va_put (D := D) (ci := 1) (v := .int 1) (ty := .int) (C := RX1) (T := TX1) (N := 10) hx hb hts hin0 tyX1 tyX1_ok nmX1 hown hK hP hD hS 0 rfl rfl 0 (by decide) (hts (.fieldLink RX1 36 "HeightLinesModel" "thrown" "I") (by decide +kernel)) (fun _ h9 => h9) rfl (by decide +kernel) rfl rfl (Nat.le_of_ble_eq_true rfl) dX1_crossing_45 (fun H locs hP hD hS => ?_)
          have hP : va_P D vwCl (W1 o cI cZ 1 (nI w) (nI h) tw ch sm od st cl us) H := hP
          have hD : va_D (wA (W1 o cI cZ th (nI w) (nI h) tw ch sm od st cl us)) (W1 o cI cZ 1 (nI w) (nI h) tw ch sm od st cl us) := hD
          refine lv_iload_n hx hb dX1_crossing_48 rfl (lv_at hl 0 rfl) ?_
          refine lv_if_ne (tgt := 54) hx hb dX1_crossing_49 (by decide) (fun c49 => ?_) (fun c49 => ?_)
          · exact absurd c49 (by decide)
          · refine lv_iconst (v := 0) hx hb dX1_crossing_52 (by decide) ?_
            have hok : okC w h f tw a b = false := by unfold okC; rw [decide_eq_false (Int32.not_le.mpr c13)]; simp
            have hP : va_P D vwCl (W1 o cI cZ (bif okC w h f tw a b then 0 else 1) (nI w) (nI h) tw ch sm od st cl us) H := by rw [hok]; exact hP
            have hD : va_D (wA (W1 o cI cZ th (nI w) (nI h) tw ch sm od st cl us)) (W1 o cI cZ (bif okC w h f tw a b then 0 else 1) (nI w) (nI h) tw ch sm od st cl us) := by rw [hok]; exact hD
            exact W.iret (v := 0) hx hb hr (fun t ht hW => ⟨⟨_, (), rfl, by unfold crA; rw [hok]; rfl, by rw [ht]; exact hP, va_K.moved hW.alike hK, hD⟩, hS.F ht⟩) hS.2.2 dX1_crossing_53
        · exact absurd c37 (by decide)
      · refine lv_iload_n hx hb dX1_crossing_16 rfl (lv_at hl 2 rfl) ?_
        refine lv_iconst (v := 2) hx hb dX1_crossing_17 (by decide) ?_
        refine lv_icmp_ge (tgt := 33) hx hb dX1_crossing_18 (by decide) (fun c18 => ?_) (fun c18 => ?_)
        · refine lv_iconst (v := 0) hx hb dX1_crossing_33 (by decide) ?_
          refine lv_istore_n (lv' := [(3, .int 0), (0, .ref (o 0)), (1, .int (nI e0)), (2, .int b)]) hx hb dX1_crossing_34 rfl hl (by decide) rfl (fun ls hl => ?_)
          refine lv_aload_n hx hb dX1_crossing_35 rfl (lv_at hl 1 rfl) ?_
          refine lv_iload_n hx hb dX1_crossing_36 rfl (lv_at hl 0 rfl) ?_
          refine lv_if_eq (tgt := 44) hx hb dX1_crossing_37 (by decide) (fun c37 => ?_) (fun c37 => ?_)
          · refine lv_iconst (v := 1) hx hb dX1_crossing_44 (by decide) ?_
            refine va_put (D := D) (ci := 1) (v := .int 1) (ty := .int) (C := RX1) (T := TX1) (N := 10) hx hb hts hin0 tyX1 tyX1_ok nmX1 hown hK hP hD hS 0 rfl rfl 0 (by decide) (hts (.fieldLink RX1 36 "HeightLinesModel" "thrown" "I") (by decide +kernel)) (fun _ h9 => h9) rfl (by decide +kernel) rfl rfl (Nat.le_of_ble_eq_true rfl) dX1_crossing_45 (fun H locs hP hD hS => ?_)
            have hP : va_P D vwCl (W1 o cI cZ 1 (nI w) (nI h) tw ch sm od st cl us) H := hP
            have hD : va_D (wA (W1 o cI cZ th (nI w) (nI h) tw ch sm od st cl us)) (W1 o cI cZ 1 (nI w) (nI h) tw ch sm od st cl us) := hD
            refine lv_iload_n hx hb dX1_crossing_48 rfl (lv_at hl 0 rfl) ?_
            refine lv_if_ne (tgt := 54) hx hb dX1_crossing_49 (by decide) (fun c49 => ?_) (fun c49 => ?_)
            · exact absurd c49 (by decide)
            · refine lv_iconst (v := 0) hx hb dX1_crossing_52 (by decide) ?_
              have hok : okC w h f tw a b = false := by unfold okC; rw [decide_eq_false (Int32.not_lt.mpr c18)]; simp
              have hP : va_P D vwCl (W1 o cI cZ (bif okC w h f tw a b then 0 else 1) (nI w) (nI h) tw ch sm od st cl us) H := by rw [hok]; exact hP
              have hD : va_D (wA (W1 o cI cZ th (nI w) (nI h) tw ch sm od st cl us)) (W1 o cI cZ (bif okC w h f tw a b then 0 else 1) (nI w) (nI h) tw ch sm od st cl us) := by rw [hok]; exact hD
              exact W.iret (v := 0) hx hb hr (fun t ht hW => ⟨⟨_, (), rfl, by unfold crA; rw [hok]; rfl, by rw [ht]; exact hP, va_K.moved hW.alike hK, hD⟩, hS.F ht⟩) hS.2.2 dX1_crossing_53
          · exact absurd c37 (by decide)
        · refine lv_aload_n hx hb dX1_crossing_21 rfl (lv_at hl 0 rfl) ?_
          refine lv_iload_n hx hb dX1_crossing_22 rfl (lv_at hl 1 rfl) ?_
          refine ro_V1 ⟨hx, hb, hml, hown, hts⟩ (c_X1_isCrossed l D o cI cZ th tw ch sm od st cl us w h f e0 gw gw2 gh gh2 gf he0) (cwV 1 hts gX1_crossing_X1_isCrossed rfl rfl rfl (by decide +kernel) ⟨Nat.le_of_ble_eq_true rfl, Nat.le_of_ble_eq_true rfl⟩) (va_recv hK hP (ci := 1) (q0 := 0) rfl rfl) hP hK hP hS rfl hl.1 (lv_room (Nat.le_of_ble_eq_true rfl)) dX1_crossing_23 ⟨Nat.le_of_ble_eq_true rfl, Nat.le_of_ble_eq_true rfl⟩ (fun r23 H locs hr23 hP hS => ?_)
          subst hr23
          refine lv_if_eq (tgt := 33) hx hb dX1_crossing_26 (by decide) (fun c26 => ?_) (fun c26 => ?_)
          · refine lv_iconst (v := 0) hx hb dX1_crossing_33 (by decide) ?_
            refine lv_istore_n (lv' := [(3, .int 0), (0, .ref (o 0)), (1, .int (nI e0)), (2, .int b)]) hx hb dX1_crossing_34 rfl hl (by decide) rfl (fun ls hl => ?_)
            refine lv_aload_n hx hb dX1_crossing_35 rfl (lv_at hl 1 rfl) ?_
            refine lv_iload_n hx hb dX1_crossing_36 rfl (lv_at hl 0 rfl) ?_
            refine lv_if_eq (tgt := 44) hx hb dX1_crossing_37 (by decide) (fun c37 => ?_) (fun c37 => ?_)
            · refine lv_iconst (v := 1) hx hb dX1_crossing_44 (by decide) ?_
              refine va_put (D := D) (ci := 1) (v := .int 1) (ty := .int) (C := RX1) (T := TX1) (N := 10) hx hb hts hin0 tyX1 tyX1_ok nmX1 hown hK hP hD hS 0 rfl rfl 0 (by decide) (hts (.fieldLink RX1 36 "HeightLinesModel" "thrown" "I") (by decide +kernel)) (fun _ h9 => h9) rfl (by decide +kernel) rfl rfl (Nat.le_of_ble_eq_true rfl) dX1_crossing_45 (fun H locs hP hD hS => ?_)
              have hP : va_P D vwCl (W1 o cI cZ 1 (nI w) (nI h) tw ch sm od st cl us) H := hP
              have hD : va_D (wA (W1 o cI cZ th (nI w) (nI h) tw ch sm od st cl us)) (W1 o cI cZ 1 (nI w) (nI h) tw ch sm od st cl us) := hD
              refine lv_iload_n hx hb dX1_crossing_48 rfl (lv_at hl 0 rfl) ?_
              refine lv_if_ne (tgt := 54) hx hb dX1_crossing_49 (by decide) (fun c49 => ?_) (fun c49 => ?_)
              · exact absurd c49 (by decide)
              · refine lv_iconst (v := 0) hx hb dX1_crossing_52 (by decide) ?_
                have hok : okC w h f tw a b = false := by unfold okC; rw [ea, nI_clamp (by omega), bI_0.mp c26]; simp
                have hP : va_P D vwCl (W1 o cI cZ (bif okC w h f tw a b then 0 else 1) (nI w) (nI h) tw ch sm od st cl us) H := by rw [hok]; exact hP
                have hD : va_D (wA (W1 o cI cZ th (nI w) (nI h) tw ch sm od st cl us)) (W1 o cI cZ (bif okC w h f tw a b then 0 else 1) (nI w) (nI h) tw ch sm od st cl us) := by rw [hok]; exact hD
                exact W.iret (v := 0) hx hb hr (fun t ht hW => ⟨⟨_, (), rfl, by unfold crA; rw [hok]; rfl, by rw [ht]; exact hP, va_K.moved hW.alike hK, hD⟩, hS.F ht⟩) hS.2.2 dX1_crossing_53
            · exact absurd c37 (by decide)
          · refine lv_iconst (v := 1) hx hb dX1_crossing_29 (by decide) ?_
            refine lv_goto (tgt := 34) hx hb dX1_crossing_30 (by decide) ?_
            refine lv_istore_n (lv' := [(3, .int 1), (0, .ref (o 0)), (1, .int (nI e0)), (2, .int b)]) hx hb dX1_crossing_34 rfl hl (by decide) rfl (fun ls hl => ?_)
            refine lv_aload_n hx hb dX1_crossing_35 rfl (lv_at hl 1 rfl) ?_
            refine lv_iload_n hx hb dX1_crossing_36 rfl (lv_at hl 0 rfl) ?_
            refine lv_if_eq (tgt := 44) hx hb dX1_crossing_37 (by decide) (fun c37 => ?_) (fun c37 => ?_)
            · exact absurd c37 (by decide)
            · refine lv_iconst (v := 0) hx hb dX1_crossing_40 (by decide) ?_
              refine lv_goto (tgt := 45) hx hb dX1_crossing_41 (by decide) ?_
              refine va_put (D := D) (ci := 1) (v := .int 0) (ty := .int) (C := RX1) (T := TX1) (N := 10) hx hb hts hin0 tyX1 tyX1_ok nmX1 hown hK hP hD hS 0 rfl rfl 0 (by decide) (hts (.fieldLink RX1 36 "HeightLinesModel" "thrown" "I") (by decide +kernel)) (fun _ h9 => h9) rfl (by decide +kernel) rfl rfl (Nat.le_of_ble_eq_true rfl) dX1_crossing_45 (fun H locs hP hD hS => ?_)
              have hP : va_P D vwCl (W1 o cI cZ 0 (nI w) (nI h) tw ch sm od st cl us) H := hP
              have hD : va_D (wA (W1 o cI cZ th (nI w) (nI h) tw ch sm od st cl us)) (W1 o cI cZ 0 (nI w) (nI h) tw ch sm od st cl us) := hD
              refine lv_iload_n hx hb dX1_crossing_48 rfl (lv_at hl 0 rfl) ?_
              refine lv_if_ne (tgt := 54) hx hb dX1_crossing_49 (by decide) (fun c49 => ?_) (fun c49 => ?_)
              · refine lv_aload_n hx hb dX1_crossing_54 rfl (lv_at hl 1 rfl) ?_
                refine va_get (D := D) (ci := 1) (v := .int tw) (C := RX1) (T := TX1) (N := 10) hx hb hts hin0 hown hK hP 0 rfl rfl 3 (by decide) (hts (.fieldLink RX1 16 "HeightLinesModel" "twice" "I") (by decide +kernel)) (fun _ h9 => h9) rfl dX1_crossing_55 ?_
                refine lv_iconst (v := 2) hx hb dX1_crossing_58 (by decide) ?_
                refine lv_aload_n hx hb dX1_crossing_59 rfl (lv_at hl 1 rfl) ?_
                refine lv_iload_n hx hb dX1_crossing_60 rfl (lv_at hl 2 rfl) ?_
                refine ro_V1 ⟨hx, hb, hml, hown, hts⟩ (c_X1_first l D o cI cZ 0 tw ch sm od st cl us w h f e0 gw gw2 gh gh2 gf he0) (cwV 1 hts gX1_crossing_X1_first rfl rfl rfl (by decide +kernel) ⟨Nat.le_of_ble_eq_true rfl, Nat.le_of_ble_eq_true rfl⟩) (va_recv hK hP (ci := 1) (q0 := 0) rfl rfl) hP hK hP hS rfl hl.1 (lv_room (Nat.le_of_ble_eq_true rfl)) dX1_crossing_61 ⟨Nat.le_of_ble_eq_true rfl, Nat.le_of_ble_eq_true rfl⟩ (fun r61 H locs hr61 hP hS => ?_)
                subst hr61
                refine lv_imul hx hb dX1_crossing_64 ?_
                refine lv_isub hx hb dX1_crossing_65 ?_
                refine lv_topi (fun x66 ex66 => ?_)
                refine lv_istore (lv' := [(4, .int x66), (3, .int 1), (0, .ref (o 0)), (1, .int (nI e0)), (2, .int b)]) hx hb dX1_crossing_66 hl (by decide) rfl (fun ls hl => ?_)
                refine lv_iconst (v := 2) hx hb dX1_crossing_68 (by decide) ?_
                refine lv_aload_n hx hb dX1_crossing_69 rfl (lv_at hl 2 rfl) ?_
                refine lv_iload_n hx hb dX1_crossing_70 rfl (lv_at hl 3 rfl) ?_
                refine ro_V1 ⟨hx, hb, hml, hown, hts⟩ (c_X1_second l D o cI cZ 0 tw ch sm od st cl us w h f e0 gw gw2 gh gh2 gf he0) (cwV 1 hts gX1_crossing_X1_second rfl rfl rfl (by decide +kernel) ⟨Nat.le_of_ble_eq_true rfl, Nat.le_of_ble_eq_true rfl⟩) (va_recv hK hP (ci := 1) (q0 := 0) rfl rfl) hP hK hP hS rfl hl.1 (lv_room (Nat.le_of_ble_eq_true rfl)) dX1_crossing_71 ⟨Nat.le_of_ble_eq_true rfl, Nat.le_of_ble_eq_true rfl⟩ (fun r71 H locs hr71 hP hS => ?_)
                subst hr71
                refine lv_aload_n hx hb dX1_crossing_74 rfl (lv_at hl 2 rfl) ?_
                refine lv_iload_n hx hb dX1_crossing_75 rfl (lv_at hl 3 rfl) ?_
                refine ro_V1 ⟨hx, hb, hml, hown, hts⟩ (c_X1_first l D o cI cZ 0 tw ch sm od st cl us w h f e0 gw gw2 gh gh2 gf he0) (cwV 1 hts gX1_crossing_X1_first rfl rfl rfl (by decide +kernel) ⟨Nat.le_of_ble_eq_true rfl, Nat.le_of_ble_eq_true rfl⟩) (va_recv hK hP (ci := 1) (q0 := 0) rfl rfl) hP hK hP hS rfl hl.1 (lv_room (Nat.le_of_ble_eq_true rfl)) dX1_crossing_76 ⟨Nat.le_of_ble_eq_true rfl, Nat.le_of_ble_eq_true rfl⟩ (fun r76 H locs hr76 hP hS => ?_)
                subst hr76
                refine lv_isub hx hb dX1_crossing_79 ?_
                refine lv_imul hx hb dX1_crossing_80 ?_
                refine lv_topi (fun x81 ex81 => ?_)
                refine lv_istore (lv' := [(5, .int x81), (4, .int x66), (3, .int 1), (0, .ref (o 0)), (1, .int (nI e0)), (2, .int b)]) hx hb dX1_crossing_81 hl (by decide) rfl (fun ls hl => ?_)
                refine lv_iload hx hb dX1_crossing_83 (lv_at hl 0 rfl) ?_
                refine lv_if_ge (tgt := 98) hx hb dX1_crossing_85 (by decide) (fun c85 => ?_) (fun c85 => ?_)
                · have hcp := cr_pos gt (fst_B gw gh gb he0) (snd_B gw gh gb he0) (bI_n0.mp c26) (by rw [← ex81]; exact c85)
                  have hu4 : x66 = nI (upN tw (fst2 w h f e0)) := by rw [ex66]; exact hcp.1
                  have hu5 : x81 = nI (loN (fst2 w h f e0) (snd2 w h f e0)) := by rw [ex81]; exact hcp.2
                  rw [hu4, hu5] at hl
                  refine lv_iload hx hb dX1_crossing_98 (lv_at hl 1 rfl) ?_
                  refine lv_istore (lv' := [(6, .int (nI (upN tw (fst2 w h f e0)))), (5, .int (nI (loN (fst2 w h f e0) (snd2 w h f e0)))), (4, .int (nI (upN tw (fst2 w h f e0)))), (3, .int 1), (0, .ref (o 0)), (1, .int (nI e0)), (2, .int b)]) hx hb dX1_crossing_100 hl (by decide) rfl (fun ls hl => ?_)
                  refine lv_iload hx hb dX1_crossing_102 (lv_at hl 1 rfl) ?_
                  refine lv_istore (lv' := [(7, .int (nI (loN (fst2 w h f e0) (snd2 w h f e0)))), (6, .int (nI (upN tw (fst2 w h f e0)))), (5, .int (nI (loN (fst2 w h f e0) (snd2 w h f e0)))), (4, .int (nI (upN tw (fst2 w h f e0)))), (3, .int 1), (0, .ref (o 0)), (1, .int (nI e0)), (2, .int b)]) hx hb dX1_crossing_104 hl (by decide) rfl (fun ls hl => ?_)
                  have lp : ∀ (n : Nat) (u : Nat) (v : Nat), (v + 1 ≤ n) → (u < 2 ^ 31) → (v < 2 ^ 31) → (Nat.gcd u v = Nat.gcd (upN tw (fst2 w h f e0)) (loN (fst2 w h f e0) (snd2 w h f e0))) → ∀ (H : Heap) (locs : List Loc) (ls : Array Slot), va_P D vwCl (W1 o cI cZ 0 (nI w) (nI h) tw ch sm od st cl us) H → va_D (wA (W1 o cI cZ th (nI w) (nI h) tw ch sm od st cl us)) (W1 o cI cZ 0 (nI w) (nI h) tw ch sm od st cl us) → va_S (wA (W1 o cI cZ th (nI w) (nI h) tw ch sm od st cl us)) s.heap H locs → lv_has ls 9 [(6, .int (nI u)), (7, .int (nI v)), (4, .int (nI (upN tw (fst2 w h f e0)))), (5, .int (nI (loN (fst2 w h f e0) (snd2 w h f e0)))), (0, .ref (o 0)), (1, .int (nI e0)), (2, .int b), (3, .int 1)] → W p l e (headSpec wsX1_crossing ({ frames := 4, cells := 0, slots := 0, locals := 84 } : Room)).room s m ([.ref (o 0), .int a, .int b] : List Value).toArray below meth c H locs 0 0 (MQ below (va_Qi (fun r (_ : Unit) => r = crA w h f tw a b) (wB D (W1 o cI cZ th (nI w) (nI h) tw ch sm od st cl us) (W1 o cI cZ (bif okC w h f tw a b then 0 else 1) (nI w) (nI h) tw ch sm od st cl us) [(cI, .int), (cZ, .boolean)]) (wA (W1 o cI cZ th (nI w) (nI h) tw ch sm od st cl us))) ([.ref (o 0), .int a, .int b] : List Value).toArray s 0 0 (wA (W1 o cI cZ th (nI w) (nI h) tw ch sm od st cl us))) (F0 m 106 ls []) := by
                    intro n
                    induction n with
                    | zero =>
                      intro u v hn hu hv hg
                      exact absurd hn (by omega)
                    | succ n ih =>
                      intro u v hn hu hv hg H locs ls hP hD hS hl
                      refine lv_iload hx hb dX1_crossing_106 (lv_at hl 1 rfl) ?_
                      refine lv_if_eq (tgt := 129) hx hb dX1_crossing_108 (by decide) (fun c108 => ?_) (fun c108 => ?_)
                      · have hv0 : v = 0 := (nI_eq hv (by decide)).mp (c108.trans nI_0.symm)
                        have hug : u = Nat.gcd (upN tw (fst2 w h f e0)) (loN (fst2 w h f e0) (snd2 w h f e0)) := by rw [← hg, hv0, Nat.gcd_zero_right]
                        have hgp := cr_gpos gt (fst_B gw gh gb he0) (snd_B gw gh gb he0) (bI_n0.mp c26)
                        have hU9 := upN_lt gt (fst_B gw gh gb he0)
                        have hV9 := loN_lt (fst_B gw gh gb he0) (snd_B gw gh gb he0)
                        refine lv_iload_n hx hb dX1_crossing_129 rfl (lv_at hl 6 rfl) ?_
                        refine lv_if_ne (tgt := 141) hx hb dX1_crossing_130 (by decide) (fun c130 => ?_) (fun c130 => ?_)
                        · refine lv_iload hx hb dX1_crossing_141 (lv_at hl 3 rfl) ?_
                          refine lv_iload hx hb dX1_crossing_143 (lv_at hl 0 rfl) ?_
                          refine lv_idiv hx hb dX1_crossing_145 (nI_ne0 (by rw [hug]; exact hgp) hu) ?_
                          have hok : okC w h f tw a b = true := by unfold okC; rw [ea, nI_clamp (by omega), okY_nI he0 (by omega), decide_eq_true (Int32.not_lt.mp c13), decide_eq_true (Int32.not_le.mp c18), bI_n0.mp c26]; rfl
                          have hP : va_P D vwCl (W1 o cI cZ (bif okC w h f tw a b then 0 else 1) (nI w) (nI h) tw ch sm od st cl us) H := by rw [hok]; exact hP
                          have hD : va_D (wA (W1 o cI cZ th (nI w) (nI h) tw ch sm od st cl us)) (W1 o cI cZ (bif okC w h f tw a b then 0 else 1) (nI w) (nI h) tw ch sm od st cl us) := by rw [hok]; exact hD
                          exact W.iret (v := (nI (loN (fst2 w h f e0) (snd2 w h f e0)) / nI u)) hx hb hr (fun t ht hW => ⟨⟨_, (), rfl, by unfold crA; rw [hok, ea, nI_clamp (by omega)]; show _ = crV _ _ _ _; unfold crV; rw [if_neg c130, ← hug, pk_div (by omega) (by rw [hug]; exact hgp) hu], by rw [ht]; exact hP, va_K.moved hW.alike hK, hD⟩, hS.F ht⟩) hS.2.2 dX1_crossing_146
                        · refine lv_iload hx hb dX1_crossing_133 (lv_at hl 2 rfl) ?_
                          refine lv_iload hx hb dX1_crossing_135 (lv_at hl 0 rfl) ?_
                          refine lv_idiv hx hb dX1_crossing_137 (nI_ne0 (by rw [hug]; exact hgp) hu) ?_
                          refine lv_goto (tgt := 146) hx hb dX1_crossing_138 (by decide) ?_
                          have hok : okC w h f tw a b = true := by unfold okC; rw [ea, nI_clamp (by omega), okY_nI he0 (by omega), decide_eq_true (Int32.not_lt.mp c13), decide_eq_true (Int32.not_le.mp c18), bI_n0.mp c26]; rfl
                          have hP : va_P D vwCl (W1 o cI cZ (bif okC w h f tw a b then 0 else 1) (nI w) (nI h) tw ch sm od st cl us) H := by rw [hok]; exact hP
                          have hD : va_D (wA (W1 o cI cZ th (nI w) (nI h) tw ch sm od st cl us)) (W1 o cI cZ (bif okC w h f tw a b then 0 else 1) (nI w) (nI h) tw ch sm od st cl us) := by rw [hok]; exact hD
                          exact W.iret (v := (nI (upN tw (fst2 w h f e0)) / nI u)) hx hb hr (fun t ht hW => ⟨⟨_, (), rfl, by unfold crA; rw [hok, ea, nI_clamp (by omega)]; show _ = crV _ _ _ _; unfold crV; rw [if_pos c130, ← hug, pk_div (by omega) (by rw [hug]; exact hgp) hu], by rw [ht]; exact hP, va_K.moved hW.alike hK, hD⟩, hS.F ht⟩) hS.2.2 dX1_crossing_146
                      · refine lv_iload hx hb dX1_crossing_111 (lv_at hl 0 rfl) ?_
                        refine lv_iload hx hb dX1_crossing_113 (lv_at hl 1 rfl) ?_
                        refine lv_irem hx hb dX1_crossing_115 c108 ?_
                        rw [show (nI u - nI u / nI v * nI v) = nI (u % v) from pk_rem hu (Nat.pos_of_ne_zero (n := v) (fun z => c108 (by rw [z]; rfl))) hv]
                        refine lv_istore (lv' := [(8, .int (nI (u % v))), (6, .int (nI u)), (7, .int (nI v)), (4, .int (nI (upN tw (fst2 w h f e0)))), (5, .int (nI (loN (fst2 w h f e0) (snd2 w h f e0)))), (0, .ref (o 0)), (1, .int (nI e0)), (2, .int b), (3, .int 1)]) hx hb dX1_crossing_116 hl (by decide) rfl (fun ls hl => ?_)
                        refine lv_iload hx hb dX1_crossing_118 (lv_at hl 2 rfl) ?_
                        refine lv_istore (lv' := [(6, .int (nI v)), (8, .int (nI (u % v))), (7, .int (nI v)), (4, .int (nI (upN tw (fst2 w h f e0)))), (5, .int (nI (loN (fst2 w h f e0) (snd2 w h f e0)))), (0, .ref (o 0)), (1, .int (nI e0)), (2, .int b), (3, .int 1)]) hx hb dX1_crossing_120 hl (by decide) rfl (fun ls hl => ?_)
                        refine lv_iload hx hb dX1_crossing_122 (lv_at hl 1 rfl) ?_
                        refine lv_istore (lv' := [(7, .int (nI (u % v))), (6, .int (nI v)), (8, .int (nI (u % v))), (4, .int (nI (upN tw (fst2 w h f e0)))), (5, .int (nI (loN (fst2 w h f e0) (snd2 w h f e0)))), (0, .ref (o 0)), (1, .int (nI e0)), (2, .int b), (3, .int 1)]) hx hb dX1_crossing_124 hl (by decide) rfl (fun ls hl => ?_)
                        refine lv_goto (tgt := 106) hx hb dX1_crossing_126 (by decide) ?_
                        exact ih v (u % v) (by have := Nat.mod_lt u (Nat.pos_of_ne_zero (n := v) (fun z => c108 (by rw [z]; rfl))); omega) hv (Nat.lt_of_lt_of_le (Nat.mod_lt _ (Nat.pos_of_ne_zero (n := v) (fun z => c108 (by rw [z]; rfl)))) (Nat.le_of_lt hv)) (by rw [← hg]; rw [Nat.gcd_comm v, ← Nat.gcd_rec, Nat.gcd_comm]) _ _ _ hP hD hS (lv_sub hl [1, 0, 3, 4, 5, 6, 7, 8] rfl)
                  have hU8 := upN_lt gt (fst_B gw gh gb he0)
                  have hV8 := loN_lt (fst_B gw gh gb he0) (snd_B gw gh gb he0)
                  exact lp ((loN (fst2 w h f e0) (snd2 w h f e0)) + 1) (upN tw (fst2 w h f e0)) (loN (fst2 w h f e0) (snd2 w h f e0)) (Nat.le_refl _) (by omega) (by omega) rfl _ _ _ hP hD hS (lv_sub hl [1, 0, 3, 2, 5, 6, 7, 4] rfl)
                · refine lv_iload hx hb dX1_crossing_88 (lv_at hl 1 rfl) ?_
                  refine lv_ineg hx hb dX1_crossing_90 ?_
                  refine lv_istore (lv' := [(4, .int (-x66)), (5, .int x81), (3, .int 1), (0, .ref (o 0)), (1, .int (nI e0)), (2, .int b)]) hx hb dX1_crossing_91 hl (by decide) rfl (fun ls hl => ?_)
                  refine lv_iload hx hb dX1_crossing_93 (lv_at hl 1 rfl) ?_
                  refine lv_ineg hx hb dX1_crossing_95 ?_
                  refine lv_istore (lv' := [(5, .int (-x81)), (4, .int (-x66)), (3, .int 1), (0, .ref (o 0)), (1, .int (nI e0)), (2, .int b)]) hx hb dX1_crossing_96 hl (by decide) rfl (fun ls hl => ?_)
                  have hcp := cr_neg gt (fst_B gw gh gb he0) (snd_B gw gh gb he0) (bI_n0.mp c26) (by rw [← ex81]; exact c85)
                  have hu4 : (-x66) = nI (upN tw (fst2 w h f e0)) := by rw [ex66]; exact hcp.1
                  have hu5 : (-x81) = nI (loN (fst2 w h f e0) (snd2 w h f e0)) := by rw [ex81]; exact hcp.2
                  rw [hu4, hu5] at hl
                  refine lv_iload hx hb dX1_crossing_98 (lv_at hl 1 rfl) ?_
                  refine lv_istore (lv' := [(6, .int (nI (upN tw (fst2 w h f e0)))), (5, .int (nI (loN (fst2 w h f e0) (snd2 w h f e0)))), (4, .int (nI (upN tw (fst2 w h f e0)))), (3, .int 1), (0, .ref (o 0)), (1, .int (nI e0)), (2, .int b)]) hx hb dX1_crossing_100 hl (by decide) rfl (fun ls hl => ?_)
                  refine lv_iload hx hb dX1_crossing_102 (lv_at hl 1 rfl) ?_
                  refine lv_istore (lv' := [(7, .int (nI (loN (fst2 w h f e0) (snd2 w h f e0)))), (6, .int (nI (upN tw (fst2 w h f e0)))), (5, .int (nI (loN (fst2 w h f e0) (snd2 w h f e0)))), (4, .int (nI (upN tw (fst2 w h f e0)))), (3, .int 1), (0, .ref (o 0)), (1, .int (nI e0)), (2, .int b)]) hx hb dX1_crossing_104 hl (by decide) rfl (fun ls hl => ?_)
                  have lp : ∀ (n : Nat) (u : Nat) (v : Nat), (v + 1 ≤ n) → (u < 2 ^ 31) → (v < 2 ^ 31) → (Nat.gcd u v = Nat.gcd (upN tw (fst2 w h f e0)) (loN (fst2 w h f e0) (snd2 w h f e0))) → ∀ (H : Heap) (locs : List Loc) (ls : Array Slot), va_P D vwCl (W1 o cI cZ 0 (nI w) (nI h) tw ch sm od st cl us) H → va_D (wA (W1 o cI cZ th (nI w) (nI h) tw ch sm od st cl us)) (W1 o cI cZ 0 (nI w) (nI h) tw ch sm od st cl us) → va_S (wA (W1 o cI cZ th (nI w) (nI h) tw ch sm od st cl us)) s.heap H locs → lv_has ls 9 [(6, .int (nI u)), (7, .int (nI v)), (4, .int (nI (upN tw (fst2 w h f e0)))), (5, .int (nI (loN (fst2 w h f e0) (snd2 w h f e0)))), (0, .ref (o 0)), (1, .int (nI e0)), (2, .int b), (3, .int 1)] → W p l e (headSpec wsX1_crossing ({ frames := 4, cells := 0, slots := 0, locals := 84 } : Room)).room s m ([.ref (o 0), .int a, .int b] : List Value).toArray below meth c H locs 0 0 (MQ below (va_Qi (fun r (_ : Unit) => r = crA w h f tw a b) (wB D (W1 o cI cZ th (nI w) (nI h) tw ch sm od st cl us) (W1 o cI cZ (bif okC w h f tw a b then 0 else 1) (nI w) (nI h) tw ch sm od st cl us) [(cI, .int), (cZ, .boolean)]) (wA (W1 o cI cZ th (nI w) (nI h) tw ch sm od st cl us))) ([.ref (o 0), .int a, .int b] : List Value).toArray s 0 0 (wA (W1 o cI cZ th (nI w) (nI h) tw ch sm od st cl us))) (F0 m 106 ls []) := by
                    intro n
                    induction n with
                    | zero =>
                      intro u v hn hu hv hg
                      exact absurd hn (by omega)
                    | succ n ih =>
                      intro u v hn hu hv hg H locs ls hP hD hS hl
                      refine lv_iload hx hb dX1_crossing_106 (lv_at hl 1 rfl) ?_
                      refine lv_if_eq (tgt := 129) hx hb dX1_crossing_108 (by decide) (fun c108 => ?_) (fun c108 => ?_)
                      · have hv0 : v = 0 := (nI_eq hv (by decide)).mp (c108.trans nI_0.symm)
                        have hug : u = Nat.gcd (upN tw (fst2 w h f e0)) (loN (fst2 w h f e0) (snd2 w h f e0)) := by rw [← hg, hv0, Nat.gcd_zero_right]
                        have hgp := cr_gpos gt (fst_B gw gh gb he0) (snd_B gw gh gb he0) (bI_n0.mp c26)
                        have hU9 := upN_lt gt (fst_B gw gh gb he0)
                        have hV9 := loN_lt (fst_B gw gh gb he0) (snd_B gw gh gb he0)
                        refine lv_iload_n hx hb dX1_crossing_129 rfl (lv_at hl 6 rfl) ?_
                        refine lv_if_ne (tgt := 141) hx hb dX1_crossing_130 (by decide) (fun c130 => ?_) (fun c130 => ?_)
                        · refine lv_iload hx hb dX1_crossing_141 (lv_at hl 3 rfl) ?_
                          refine lv_iload hx hb dX1_crossing_143 (lv_at hl 0 rfl) ?_
                          refine lv_idiv hx hb dX1_crossing_145 (nI_ne0 (by rw [hug]; exact hgp) hu) ?_
                          have hok : okC w h f tw a b = true := by unfold okC; rw [ea, nI_clamp (by omega), okY_nI he0 (by omega), decide_eq_true (Int32.not_lt.mp c13), decide_eq_true (Int32.not_le.mp c18), bI_n0.mp c26]; rfl
                          have hP : va_P D vwCl (W1 o cI cZ (bif okC w h f tw a b then 0 else 1) (nI w) (nI h) tw ch sm od st cl us) H := by rw [hok]; exact hP
                          have hD : va_D (wA (W1 o cI cZ th (nI w) (nI h) tw ch sm od st cl us)) (W1 o cI cZ (bif okC w h f tw a b then 0 else 1) (nI w) (nI h) tw ch sm od st cl us) := by rw [hok]; exact hD
                          exact W.iret (v := (nI (loN (fst2 w h f e0) (snd2 w h f e0)) / nI u)) hx hb hr (fun t ht hW => ⟨⟨_, (), rfl, by unfold crA; rw [hok, ea, nI_clamp (by omega)]; show _ = crV _ _ _ _; unfold crV; rw [if_neg c130, ← hug, pk_div (by omega) (by rw [hug]; exact hgp) hu], by rw [ht]; exact hP, va_K.moved hW.alike hK, hD⟩, hS.F ht⟩) hS.2.2 dX1_crossing_146
                        · refine lv_iload hx hb dX1_crossing_133 (lv_at hl 2 rfl) ?_
                          refine lv_iload hx hb dX1_crossing_135 (lv_at hl 0 rfl) ?_
                          refine lv_idiv hx hb dX1_crossing_137 (nI_ne0 (by rw [hug]; exact hgp) hu) ?_
                          refine lv_goto (tgt := 146) hx hb dX1_crossing_138 (by decide) ?_
                          have hok : okC w h f tw a b = true := by unfold okC; rw [ea, nI_clamp (by omega), okY_nI he0 (by omega), decide_eq_true (Int32.not_lt.mp c13), decide_eq_true (Int32.not_le.mp c18), bI_n0.mp c26]; rfl
                          have hP : va_P D vwCl (W1 o cI cZ (bif okC w h f tw a b then 0 else 1) (nI w) (nI h) tw ch sm od st cl us) H := by rw [hok]; exact hP
                          have hD : va_D (wA (W1 o cI cZ th (nI w) (nI h) tw ch sm od st cl us)) (W1 o cI cZ (bif okC w h f tw a b then 0 else 1) (nI w) (nI h) tw ch sm od st cl us) := by rw [hok]; exact hD
                          exact W.iret (v := (nI (upN tw (fst2 w h f e0)) / nI u)) hx hb hr (fun t ht hW => ⟨⟨_, (), rfl, by unfold crA; rw [hok, ea, nI_clamp (by omega)]; show _ = crV _ _ _ _; unfold crV; rw [if_pos c130, ← hug, pk_div (by omega) (by rw [hug]; exact hgp) hu], by rw [ht]; exact hP, va_K.moved hW.alike hK, hD⟩, hS.F ht⟩) hS.2.2 dX1_crossing_146
                      · refine lv_iload hx hb dX1_crossing_111 (lv_at hl 0 rfl) ?_
                        refine lv_iload hx hb dX1_crossing_113 (lv_at hl 1 rfl) ?_
                        refine lv_irem hx hb dX1_crossing_115 c108 ?_
                        rw [show (nI u - nI u / nI v * nI v) = nI (u % v) from pk_rem hu (Nat.pos_of_ne_zero (n := v) (fun z => c108 (by rw [z]; rfl))) hv]
                        refine lv_istore (lv' := [(8, .int (nI (u % v))), (6, .int (nI u)), (7, .int (nI v)), (4, .int (nI (upN tw (fst2 w h f e0)))), (5, .int (nI (loN (fst2 w h f e0) (snd2 w h f e0)))), (0, .ref (o 0)), (1, .int (nI e0)), (2, .int b), (3, .int 1)]) hx hb dX1_crossing_116 hl (by decide) rfl (fun ls hl => ?_)
                        refine lv_iload hx hb dX1_crossing_118 (lv_at hl 2 rfl) ?_
                        refine lv_istore (lv' := [(6, .int (nI v)), (8, .int (nI (u % v))), (7, .int (nI v)), (4, .int (nI (upN tw (fst2 w h f e0)))), (5, .int (nI (loN (fst2 w h f e0) (snd2 w h f e0)))), (0, .ref (o 0)), (1, .int (nI e0)), (2, .int b), (3, .int 1)]) hx hb dX1_crossing_120 hl (by decide) rfl (fun ls hl => ?_)
                        refine lv_iload hx hb dX1_crossing_122 (lv_at hl 1 rfl) ?_
                        refine lv_istore (lv' := [(7, .int (nI (u % v))), (6, .int (nI v)), (8, .int (nI (u % v))), (4, .int (nI (upN tw (fst2 w h f e0)))), (5, .int (nI (loN (fst2 w h f e0) (snd2 w h f e0)))), (0, .ref (o 0)), (1, .int (nI e0)), (2, .int b), (3, .int 1)]) hx hb dX1_crossing_124 hl (by decide) rfl (fun ls hl => ?_)
                        refine lv_goto (tgt := 106) hx hb dX1_crossing_126 (by decide) ?_
                        exact ih v (u % v) (by have := Nat.mod_lt u (Nat.pos_of_ne_zero (n := v) (fun z => c108 (by rw [z]; rfl))); omega) hv (Nat.lt_of_lt_of_le (Nat.mod_lt _ (Nat.pos_of_ne_zero (n := v) (fun z => c108 (by rw [z]; rfl)))) (Nat.le_of_lt hv)) (by rw [← hg]; rw [Nat.gcd_comm v, ← Nat.gcd_rec, Nat.gcd_comm]) _ _ _ hP hD hS (lv_sub hl [1, 0, 3, 4, 5, 6, 7, 8] rfl)
                  have hU8 := upN_lt gt (fst_B gw gh gb he0)
                  have hV8 := loN_lt (fst_B gw gh gb he0) (snd_B gw gh gb he0)
                  exact lp ((loN (fst2 w h f e0) (snd2 w h f e0)) + 1) (upN tw (fst2 w h f e0)) (loN (fst2 w h f e0) (snd2 w h f e0)) (Nat.le_refl _) (by omega) (by omega) rfl _ _ _ hP hD hS (lv_sub hl [1, 0, 3, 2, 5, 6, 7, 4] rfl)
              · exact absurd c49 (by decide)
