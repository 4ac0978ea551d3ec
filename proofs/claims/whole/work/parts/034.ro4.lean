set_option maxHeartbeats 4000000 in
set_option maxRecDepth 100000 in
theorem c_X1_leads (l : Launch) (D : va_G) (o : Nat → Nat) (cI cZ : ClassId) (th tw ch : Int32) (sm od st cl us : Nat → Int32) (w : Nat) (h : Nat) (f : Nat → Nat → Int32) (x : Nat) (y : Nat) (k : Nat) (gw2 : w ≤ 12) (gh2 : h ≤ 12) (gf : ∀ x y, x < w → y < h → sm (12 * y + x) = f x y) (gx : x + 1 < w) (gy : y + 1 < h) (gk : k < 4) (gd : dnB f tw x y k = true) : roMet l yX1_leads wsX1_leads ({ frames := 3, cells := 0, slots := 0, locals := 79 } : Room) D (W1 o cI cZ th (nI w) (nI h) tw ch sm od st cl us) [(cI, .int), (cZ, .boolean)] [.ref (o 0), .int (nI x), .int (nI y), .int (nI k)] (fun r => r = nI (eO w h x y (ldB f tw x y k))) := by
  refine Met.ofW (cc := cX1_leads) (maxL := 6) (ret := (some .int)) (by decide) rfl ?_
  intro p e s m args below meth c s₁ B hml hv
  obtain ⟨rfl, hP, hK⟩ := hv
  have hx := B.exec
  have hb := B.bytes
  have hr := B.returns
  have hts := atoms_spec (ws := wsX1_leads) B.pre
  have hown : s.vm.findClass RX1 = some m.cls := findClass_of_methodNamed B.named
  have hlocks := B.notSynchronized
  have hin0 : ∀ w ∈ u_ws RX1 TX1 10, w ∈ wsX1_leads := by decide +kernel
  have hS : va_S (fun _ => False) s.heap s.heap [] := va_S.rf
  have hP : va_P D vwCl (W1 o cI cZ th (nI w) (nI h) tw ch sm od st cl us) s.heap := hP
  have hl := lv_entry ([.ref (o 0), .int (nI x), .int (nI y), .int (nI k)]) (n := 6) (Nat.le_of_ble_eq_true rfl)
  rw [lg_entry_eq]
  generalize (lg_sl ([.ref (o 0), .int (nI x), .int (nI y), .int (nI k)]) ++ List.replicate (6 - (lg_sl ([.ref (o 0), .int (nI x), .int (nI y), .int (nI k)])).length) Slot.unset).toArray = ls at hl ⊢
  have hl : lv_has ls 6 [(0, .ref (o 0)), (1, .int (nI x)), (2, .int (nI y)), (3, .int (nI k))] := hl
  refine lv_aload_n hx hb dX1_leads_0 rfl (lv_at hl 0 rfl) ?_
  refine lv_iload_n hx hb dX1_leads_1 rfl (lv_at hl 1 rfl) ?_
  refine lv_iload_n hx hb dX1_leads_2 rfl (lv_at hl 2 rfl) ?_
  refine lv_iload_n hx hb dX1_leads_3 rfl (lv_at hl 3 rfl) ?_
  refine lv_iconst (v := 1) hx hb dX1_leads_4 (by decide) ?_
  refine lv_iadd hx hb dX1_leads_5 ?_
  rw [show (nI k + 1) = nI (k + 1) from nI_p1 k]
  refine ro_V3 ⟨hx, hb, hml, hown, hts⟩ (c_X1_isUp l D o cI cZ th tw ch sm od st cl us w h f x y (k + 1) gw2 gh2 gf gx gy (by omega)) (cwV 3 hts gX1_leads_X1_isUp rfl rfl rfl (by decide +kernel) ⟨Nat.le_of_ble_eq_true rfl, Nat.le_of_ble_eq_true rfl⟩) (va_recv hK hP (ci := 1) (q0 := 0) rfl rfl) hP hK hP hS rfl hl.1 (lv_room (Nat.le_of_ble_eq_true rfl)) dX1_leads_6 ⟨Nat.le_of_ble_eq_true rfl, Nat.le_of_ble_eq_true rfl⟩ (fun r6 H locs hr6 hP hS => ?_)
  subst hr6
  refine lv_if_eq (tgt := 28) hx hb dX1_leads_9 (by decide) (fun c9 => ?_) (fun c9 => ?_)
  · refine lv_iconst (v := 0) hx hb dX1_leads_28 (by decide) ?_
    refine lv_istore (lv' := [(4, .int 0), (0, .ref (o 0)), (1, .int (nI x)), (2, .int (nI y)), (3, .int (nI k))]) hx hb dX1_leads_29 hl (by decide) rfl (fun ls hl => ?_)
    refine lv_iload hx hb dX1_leads_31 (lv_at hl 0 rfl) ?_
    refine lv_if_eq (tgt := 61) hx hb dX1_leads_33 (by decide) (fun c33 => ?_) (fun c33 => ?_)
    · refine lv_iload_n hx hb dX1_leads_61 rfl (lv_at hl 4 rfl) ?_
      refine lv_iconst (v := 1) hx hb dX1_leads_62 (by decide) ?_
      refine lv_iadd hx hb dX1_leads_63 ?_
      rw [show (nI k + 1) = nI (k + 1) from nI_p1 k]
      refine lv_istore (lv' := [(5, .int (nI (k + 1))), (4, .int 0), (0, .ref (o 0)), (1, .int (nI x)), (2, .int (nI y)), (3, .int (nI k))]) hx hb dX1_leads_64 hl (by decide) rfl (fun ls hl => ?_)
      refine lv_aload_n hx hb dX1_leads_66 rfl (lv_at hl 2 rfl) ?_
      refine lv_iload_n hx hb dX1_leads_67 rfl (lv_at hl 3 rfl) ?_
      refine lv_iload_n hx hb dX1_leads_68 rfl (lv_at hl 4 rfl) ?_
      refine lv_iload hx hb dX1_leads_69 (lv_at hl 0 rfl) ?_
      refine ro_V3 ⟨hx, hb, hml, hown, hts⟩ (c_X1_isUp l D o cI cZ th tw ch sm od st cl us w h f x y (k + 1) gw2 gh2 gf gx gy (by omega)) (cwV 3 hts gX1_leads_X1_isUp rfl rfl rfl (by decide +kernel) ⟨Nat.le_of_ble_eq_true rfl, Nat.le_of_ble_eq_true rfl⟩) (va_recv hK hP (ci := 1) (q0 := 0) rfl rfl) hP hK hP hS rfl hl.1 (lv_room (Nat.le_of_ble_eq_true rfl)) dX1_leads_71 ⟨Nat.le_of_ble_eq_true rfl, Nat.le_of_ble_eq_true rfl⟩ (fun r71 H locs hr71 hP hS => ?_)
      subst hr71
      refine lv_if_ne (tgt := 83) hx hb dX1_leads_74 (by decide) (fun c74 => ?_) (fun c74 => ?_)
      · exact absurd c9 c74
      · refine lv_iinc (v := (nI (k + 1 + 1))) (lv' := [(5, .int (nI (k + 1 + 1))), (4, .int 0), (0, .ref (o 0)), (1, .int (nI x)), (2, .int (nI y)), (3, .int (nI k))]) hx hb dX1_leads_77 hl (k := 0) rfl (nI_p1 _) (by decide) rfl (fun ls hl => ?_)
        refine lv_goto (tgt := 66) hx hb dX1_leads_80 (by decide) ?_
        refine lv_aload_n hx hb dX1_leads_66 rfl (lv_at hl 2 rfl) ?_
        refine lv_iload_n hx hb dX1_leads_67 rfl (lv_at hl 3 rfl) ?_
        refine lv_iload_n hx hb dX1_leads_68 rfl (lv_at hl 4 rfl) ?_
        refine lv_iload hx hb dX1_leads_69 (lv_at hl 0 rfl) ?_
        refine ro_V3 ⟨hx, hb, hml, hown, hts⟩ (c_X1_isUp l D o cI cZ th tw ch sm od st cl us w h f x y (k + 1 + 1) gw2 gh2 gf gx gy (by omega)) (cwV 3 hts gX1_leads_X1_isUp rfl rfl rfl (by decide +kernel) ⟨Nat.le_of_ble_eq_true rfl, Nat.le_of_ble_eq_true rfl⟩) (va_recv hK hP (ci := 1) (q0 := 0) rfl rfl) hP hK hP hS rfl hl.1 (lv_room (Nat.le_of_ble_eq_true rfl)) dX1_leads_71 ⟨Nat.le_of_ble_eq_true rfl, Nat.le_of_ble_eq_true rfl⟩ (fun r71 H locs hr71 hP hS => ?_)
        subst hr71
        refine lv_if_ne (tgt := 83) hx hb dX1_leads_74 (by decide) (fun c74_2 => ?_) (fun c74_2 => ?_)
        · refine lv_aload_n hx hb dX1_leads_83 rfl (lv_at hl 2 rfl) ?_
          refine lv_iload_n hx hb dX1_leads_84 rfl (lv_at hl 3 rfl) ?_
          refine lv_iload_n hx hb dX1_leads_85 rfl (lv_at hl 4 rfl) ?_
          refine lv_iload hx hb dX1_leads_86 (lv_at hl 0 rfl) ?_
          refine ro_V3 ⟨hx, hb, hml, hown, hts⟩ (c_X1_edgeOf l D o cI cZ th tw ch sm od st cl us w h x y (k + 1 + 1) (by omega) (by omega)) (cwV 3 hts gX1_leads_X1_edgeOf rfl rfl rfl (by decide +kernel) ⟨Nat.le_of_ble_eq_true rfl, Nat.le_of_ble_eq_true rfl⟩) (va_recv hK hP (ci := 1) (q0 := 0) rfl rfl) hP hK hP hS rfl hl.1 (lv_room (Nat.le_of_ble_eq_true rfl)) dX1_leads_88 ⟨Nat.le_of_ble_eq_true rfl, Nat.le_of_ble_eq_true rfl⟩ (fun r88 H locs hr88 hP hS => ?_)
          subst hr88
          exact W.iret (v := (nI (eO w h x y (k + 1 + 1)))) hx hb hr (fun t ht hW => ⟨⟨_, (), rfl, by rw [ldB_2 (bI_0.mp c9) (bI_n0.mp c74_2)], trivial⟩, hS.F ht⟩) hS.2.2 dX1_leads_91
        · refine lv_iinc (v := (nI (k + 1 + 1 + 1))) (lv' := [(5, .int (nI (k + 1 + 1 + 1))), (4, .int 0), (0, .ref (o 0)), (1, .int (nI x)), (2, .int (nI y)), (3, .int (nI k))]) hx hb dX1_leads_77 hl (k := 0) rfl (nI_p1 _) (by decide) rfl (fun ls hl => ?_)
          refine lv_goto (tgt := 66) hx hb dX1_leads_80 (by decide) ?_
          refine lv_aload_n hx hb dX1_leads_66 rfl (lv_at hl 2 rfl) ?_
          refine lv_iload_n hx hb dX1_leads_67 rfl (lv_at hl 3 rfl) ?_
          refine lv_iload_n hx hb dX1_leads_68 rfl (lv_at hl 4 rfl) ?_
          refine lv_iload hx hb dX1_leads_69 (lv_at hl 0 rfl) ?_
          refine ro_V3 ⟨hx, hb, hml, hown, hts⟩ (c_X1_isUp l D o cI cZ th tw ch sm od st cl us w h f x y (k + 1 + 1 + 1) gw2 gh2 gf gx gy (by omega)) (cwV 3 hts gX1_leads_X1_isUp rfl rfl rfl (by decide +kernel) ⟨Nat.le_of_ble_eq_true rfl, Nat.le_of_ble_eq_true rfl⟩) (va_recv hK hP (ci := 1) (q0 := 0) rfl rfl) hP hK hP hS rfl hl.1 (lv_room (Nat.le_of_ble_eq_true rfl)) dX1_leads_71 ⟨Nat.le_of_ble_eq_true rfl, Nat.le_of_ble_eq_true rfl⟩ (fun r71 H locs hr71 hP hS => ?_)
          subst hr71
          refine lv_if_ne (tgt := 83) hx hb dX1_leads_74 (by decide) (fun c74_3 => ?_) (fun c74_3 => ?_)
          · refine lv_aload_n hx hb dX1_leads_83 rfl (lv_at hl 2 rfl) ?_
            refine lv_iload_n hx hb dX1_leads_84 rfl (lv_at hl 3 rfl) ?_
            refine lv_iload_n hx hb dX1_leads_85 rfl (lv_at hl 4 rfl) ?_
            refine lv_iload hx hb dX1_leads_86 (lv_at hl 0 rfl) ?_
            refine ro_V3 ⟨hx, hb, hml, hown, hts⟩ (c_X1_edgeOf l D o cI cZ th tw ch sm od st cl us w h x y (k + 1 + 1 + 1) (by omega) (by omega)) (cwV 3 hts gX1_leads_X1_edgeOf rfl rfl rfl (by decide +kernel) ⟨Nat.le_of_ble_eq_true rfl, Nat.le_of_ble_eq_true rfl⟩) (va_recv hK hP (ci := 1) (q0 := 0) rfl rfl) hP hK hP hS rfl hl.1 (lv_room (Nat.le_of_ble_eq_true rfl)) dX1_leads_88 ⟨Nat.le_of_ble_eq_true rfl, Nat.le_of_ble_eq_true rfl⟩ (fun r88 H locs hr88 hP hS => ?_)
            subst hr88
            exact W.iret (v := (nI (eO w h x y (k + 1 + 1 + 1)))) hx hb hr (fun t ht hW => ⟨⟨_, (), rfl, by rw [ldB_3 (bI_0.mp c9) (bI_0.mp c74_2)], trivial⟩, hS.F ht⟩) hS.2.2 dX1_leads_91
          · exact absurd (up_some gd (bI_0.mp c74) (bI_0.mp c74_2)) (by rw [bI_0.mp c74_3]; decide)
    · exact absurd c33 (by decide)
  · refine lv_aload_n hx hb dX1_leads_12 rfl (lv_at hl 0 rfl) ?_
    refine lv_iload_n hx hb dX1_leads_13 rfl (lv_at hl 1 rfl) ?_
    refine lv_iload_n hx hb dX1_leads_14 rfl (lv_at hl 2 rfl) ?_
    refine lv_iload_n hx hb dX1_leads_15 rfl (lv_at hl 3 rfl) ?_
    refine lv_iconst (v := 3) hx hb dX1_leads_16 (by decide) ?_
    refine lv_iadd hx hb dX1_leads_17 ?_
    rw [show (nI k + 3) = nI (k + 3) from nI_add k 3]
    refine ro_V3 ⟨hx, hb, hml, hown, hts⟩ (c_X1_isUp l D o cI cZ th tw ch sm od st cl us w h f x y (k + 3) gw2 gh2 gf gx gy (by omega)) (cwV 3 hts gX1_leads_X1_isUp rfl rfl rfl (by decide +kernel) ⟨Nat.le_of_ble_eq_true rfl, Nat.le_of_ble_eq_true rfl⟩) (va_recv hK hP (ci := 1) (q0 := 0) rfl rfl) hP hK hP hS rfl hl.1 (lv_room (Nat.le_of_ble_eq_true rfl)) dX1_leads_18 ⟨Nat.le_of_ble_eq_true rfl, Nat.le_of_ble_eq_true rfl⟩ (fun r18 H locs hr18 hP hS => ?_)
    subst hr18
    refine lv_if_eq (tgt := 28) hx hb dX1_leads_21 (by decide) (fun c21 => ?_) (fun c21 => ?_)
    · refine lv_iconst (v := 0) hx hb dX1_leads_28 (by decide) ?_
      refine lv_istore (lv' := [(4, .int 0), (0, .ref (o 0)), (1, .int (nI x)), (2, .int (nI y)), (3, .int (nI k))]) hx hb dX1_leads_29 hl (by decide) rfl (fun ls hl => ?_)
      refine lv_iload hx hb dX1_leads_31 (lv_at hl 0 rfl) ?_
      refine lv_if_eq (tgt := 61) hx hb dX1_leads_33 (by decide) (fun c33 => ?_) (fun c33 => ?_)
      · refine lv_iload_n hx hb dX1_leads_61 rfl (lv_at hl 4 rfl) ?_
        refine lv_iconst (v := 1) hx hb dX1_leads_62 (by decide) ?_
        refine lv_iadd hx hb dX1_leads_63 ?_
        rw [show (nI k + 1) = nI (k + 1) from nI_p1 k]
        refine lv_istore (lv' := [(5, .int (nI (k + 1))), (4, .int 0), (0, .ref (o 0)), (1, .int (nI x)), (2, .int (nI y)), (3, .int (nI k))]) hx hb dX1_leads_64 hl (by decide) rfl (fun ls hl => ?_)
        refine lv_aload_n hx hb dX1_leads_66 rfl (lv_at hl 2 rfl) ?_
        refine lv_iload_n hx hb dX1_leads_67 rfl (lv_at hl 3 rfl) ?_
        refine lv_iload_n hx hb dX1_leads_68 rfl (lv_at hl 4 rfl) ?_
        refine lv_iload hx hb dX1_leads_69 (lv_at hl 0 rfl) ?_
        refine ro_V3 ⟨hx, hb, hml, hown, hts⟩ (c_X1_isUp l D o cI cZ th tw ch sm od st cl us w h f x y (k + 1) gw2 gh2 gf gx gy (by omega)) (cwV 3 hts gX1_leads_X1_isUp rfl rfl rfl (by decide +kernel) ⟨Nat.le_of_ble_eq_true rfl, Nat.le_of_ble_eq_true rfl⟩) (va_recv hK hP (ci := 1) (q0 := 0) rfl rfl) hP hK hP hS rfl hl.1 (lv_room (Nat.le_of_ble_eq_true rfl)) dX1_leads_71 ⟨Nat.le_of_ble_eq_true rfl, Nat.le_of_ble_eq_true rfl⟩ (fun r71 H locs hr71 hP hS => ?_)
        subst hr71
        refine lv_if_ne (tgt := 83) hx hb dX1_leads_74 (by decide) (fun c74 => ?_) (fun c74 => ?_)
        · refine lv_aload_n hx hb dX1_leads_83 rfl (lv_at hl 2 rfl) ?_
          refine lv_iload_n hx hb dX1_leads_84 rfl (lv_at hl 3 rfl) ?_
          refine lv_iload_n hx hb dX1_leads_85 rfl (lv_at hl 4 rfl) ?_
          refine lv_iload hx hb dX1_leads_86 (lv_at hl 0 rfl) ?_
          refine ro_V3 ⟨hx, hb, hml, hown, hts⟩ (c_X1_edgeOf l D o cI cZ th tw ch sm od st cl us w h x y (k + 1) (by omega) (by omega)) (cwV 3 hts gX1_leads_X1_edgeOf rfl rfl rfl (by decide +kernel) ⟨Nat.le_of_ble_eq_true rfl, Nat.le_of_ble_eq_true rfl⟩) (va_recv hK hP (ci := 1) (q0 := 0) rfl rfl) hP hK hP hS rfl hl.1 (lv_room (Nat.le_of_ble_eq_true rfl)) dX1_leads_88 ⟨Nat.le_of_ble_eq_true rfl, Nat.le_of_ble_eq_true rfl⟩ (fun r88 H locs hr88 hP hS => ?_)
          subst hr88
          exact W.iret (v := (nI (eO w h x y (k + 1)))) hx hb hr (fun t ht hW => ⟨⟨_, (), rfl, by rw [ldB_1 (bI_n0.mp c9) (bI_0.mp c21)], trivial⟩, hS.F ht⟩) hS.2.2 dX1_leads_91
        · exact absurd c74 c9
      · exact absurd c33 (by decide)
    · refine lv_iconst (v := 1) hx hb dX1_leads_24 (by decide) ?_
      refine lv_goto (tgt := 29) hx hb dX1_leads_25 (by decide) ?_
      refine lv_istore (lv' := [(4, .int 1), (0, .ref (o 0)), (1, .int (nI x)), (2, .int (nI y)), (3, .int (nI k))]) hx hb dX1_leads_29 hl (by decide) rfl (fun ls hl => ?_)
      refine lv_iload hx hb dX1_leads_31 (lv_at hl 0 rfl) ?_
      refine lv_if_eq (tgt := 61) hx hb dX1_leads_33 (by decide) (fun c33 => ?_) (fun c33 => ?_)
      · exact absurd c33 (by decide)
      · refine lv_aload_n hx hb dX1_leads_36 rfl (lv_at hl 1 rfl) ?_
        refine lv_iload_n hx hb dX1_leads_37 rfl (lv_at hl 2 rfl) ?_
        refine lv_iload_n hx hb dX1_leads_38 rfl (lv_at hl 3 rfl) ?_
        refine lv_aload_n hx hb dX1_leads_39 rfl (lv_at hl 1 rfl) ?_
        refine lv_iload_n hx hb dX1_leads_40 rfl (lv_at hl 2 rfl) ?_
        refine lv_iload_n hx hb dX1_leads_41 rfl (lv_at hl 3 rfl) ?_
        refine ro_V2 ⟨hx, hb, hml, hown, hts⟩ (c_X1_isMiddleAbove l D o cI cZ th tw ch sm od st cl us w h f x y gw2 gh2 gf gx gy) (cwV 2 hts gX1_leads_X1_isMiddleAbove rfl rfl rfl (by decide +kernel) ⟨Nat.le_of_ble_eq_true rfl, Nat.le_of_ble_eq_true rfl⟩) (va_recv hK hP (ci := 1) (q0 := 0) rfl rfl) hP hK hP hS rfl hl.1 (lv_room (Nat.le_of_ble_eq_true rfl)) dX1_leads_42 ⟨Nat.le_of_ble_eq_true rfl, Nat.le_of_ble_eq_true rfl⟩ (fun r42 H locs hr42 hP hS => ?_)
        subst hr42
        refine lv_if_eq (tgt := 54) hx hb dX1_leads_45 (by decide) (fun c45 => ?_) (fun c45 => ?_)
        · refine lv_iload_n hx hb dX1_leads_54 rfl (lv_at hl 4 rfl) ?_
          refine lv_iconst (v := 3) hx hb dX1_leads_55 (by decide) ?_
          refine lv_iadd hx hb dX1_leads_56 ?_
          rw [show (nI k + 3) = nI (k + 3) from nI_add k 3]
          refine ro_V3 ⟨hx, hb, hml, hown, hts⟩ (c_X1_edgeOf l D o cI cZ th tw ch sm od st cl us w h x y (k + 3) (by omega) (by omega)) (cwV 3 hts gX1_leads_X1_edgeOf rfl rfl rfl (by decide +kernel) ⟨Nat.le_of_ble_eq_true rfl, Nat.le_of_ble_eq_true rfl⟩) (va_recv hK hP (ci := 1) (q0 := 0) rfl rfl) hP hK hP hS rfl hl.1 (lv_room (Nat.le_of_ble_eq_true rfl)) dX1_leads_57 ⟨Nat.le_of_ble_eq_true rfl, Nat.le_of_ble_eq_true rfl⟩ (fun r57 H locs hr57 hP hS => ?_)
          subst hr57
          exact W.iret (v := (nI (eO w h x y (k + 3)))) hx hb hr (fun t ht hW => ⟨⟨_, (), rfl, by rw [ldB_4 (bI_n0.mp c9) (bI_n0.mp c21), if_neg (by simp [bI_0.mp c45])], trivial⟩, hS.F ht⟩) hS.2.2 dX1_leads_60
        · refine lv_iload_n hx hb dX1_leads_48 rfl (lv_at hl 4 rfl) ?_
          refine lv_iconst (v := 1) hx hb dX1_leads_49 (by decide) ?_
          refine lv_iadd hx hb dX1_leads_50 ?_
          rw [show (nI k + 1) = nI (k + 1) from nI_p1 k]
          refine lv_goto (tgt := 57) hx hb dX1_leads_51 (by decide) ?_
          refine ro_V3 ⟨hx, hb, hml, hown, hts⟩ (c_X1_edgeOf l D o cI cZ th tw ch sm od st cl us w h x y (k + 1) (by omega) (by omega)) (cwV 3 hts gX1_leads_X1_edgeOf rfl rfl rfl (by decide +kernel) ⟨Nat.le_of_ble_eq_true rfl, Nat.le_of_ble_eq_true rfl⟩) (va_recv hK hP (ci := 1) (q0 := 0) rfl rfl) hP hK hP hS rfl hl.1 (lv_room (Nat.le_of_ble_eq_true rfl)) dX1_leads_57 ⟨Nat.le_of_ble_eq_true rfl, Nat.le_of_ble_eq_true rfl⟩ (fun r57 H locs hr57 hP hS => ?_)
          subst hr57
          exact W.iret (v := (nI (eO w h x y (k + 1)))) hx hb hr (fun t ht hW => ⟨⟨_, (), rfl, by rw [ldB_4 (bI_n0.mp c9) (bI_n0.mp c21), if_pos (by simp [bI_n0.mp c45])], trivial⟩, hS.F ht⟩) hS.2.2 dX1_leads_60

set_option maxHeartbeats 4000000 in
set_option maxRecDepth 100000 in
theorem c_X1_next (l : Launch) (D : va_G) (o : Nat → Nat) (cI cZ : ClassId) (th tw ch : Int32) (sm od st cl us : Nat → Int32) (w : Nat) (h : Nat) (f : Nat → Nat → Int32) (e0 : Nat) (gw : 2 ≤ w) (gw2 : w ≤ 12) (gh : 2 ≤ h) (gh2 : h ≤ 12) (gf : ∀ x y, x < w → y < h → sm (12 * y + x) = f x y) (ge : e0 < nE w h) : roMet l yX1_next wsX1_next ({ frames := 4, cells := 0, slots := 0, locals := 104 } : Room) D (W1 o cI cZ th (nI w) (nI h) tw ch sm od st cl us) [(cI, .int), (cZ, .boolean)] [.ref (o 0), .int (nI e0)] (fun r => r = nxR w h f tw e0) := by
  refine Met.ofW (cc := cX1_next) (maxL := 9) (ret := (some .int)) (by decide) rfl ?_
  intro p e s m args below meth c s₁ B hml hv
  obtain ⟨rfl, hP, hK⟩ := hv
  have hx := B.exec
  have hb := B.bytes
  have hr := B.returns
  have hts := atoms_spec (ws := wsX1_next) B.pre
  have hown : s.vm.findClass RX1 = some m.cls := findClass_of_methodNamed B.named
  have hlocks := B.notSynchronized
  have hin0 : ∀ w ∈ u_ws RX1 TX1 10, w ∈ wsX1_next := by decide +kernel
  have hS : va_S (fun _ => False) s.heap s.heap [] := va_S.rf
  have hP : va_P D vwCl (W1 o cI cZ th (nI w) (nI h) tw ch sm od st cl us) s.heap := hP
  have hl := lv_entry ([.ref (o 0), .int (nI e0)]) (n := 9) (Nat.le_of_ble_eq_true rfl)
  rw [lg_entry_eq]
  generalize (lg_sl ([.ref (o 0), .int (nI e0)]) ++ List.replicate (9 - (lg_sl ([.ref (o 0), .int (nI e0)])).length) Slot.unset).toArray = ls at hl ⊢
  have hl : lv_has ls 9 [(0, .ref (o 0)), (1, .int (nI e0))] := hl
  have hxy := xy_1 gw gh ge
  obtain ⟨x0, ex0⟩ : ∃ z, z = xE w h e0 := ⟨_, rfl⟩
  obtain ⟨y0, ey0⟩ : ∃ z, z = yE w h e0 := ⟨_, rfl⟩
  rw [← ex0, ← ey0] at hxy
  refine lv_aload_n hx hb dX1_next_0 rfl (lv_at hl 0 rfl) ?_
  refine lv_iload_n hx hb dX1_next_1 rfl (lv_at hl 1 rfl) ?_
  refine ro_V1 ⟨hx, hb, hml, hown, hts⟩ (c_X1_xOf l D o cI cZ th tw ch sm od st cl us w h e0 gw gw2 gh2 (by have := nE_le gw2 gh2; omega)) (cwV 1 hts gX1_next_X1_xOf rfl rfl rfl (by decide +kernel) ⟨Nat.le_of_ble_eq_true rfl, Nat.le_of_ble_eq_true rfl⟩) (va_recv hK hP (ci := 1) (q0 := 0) rfl rfl) hP hK hP hS rfl hl.1 (lv_room (Nat.le_of_ble_eq_true rfl)) dX1_next_2 ⟨Nat.le_of_ble_eq_true rfl, Nat.le_of_ble_eq_true rfl⟩ (fun r2 H locs hr2 hP hS => ?_)
  subst hr2
  rw [show (nI (xE w h e0)) = nI x0 from by rw [ex0]]
  refine lv_istore_n (lv' := [(2, .int (nI x0)), (0, .ref (o 0)), (1, .int (nI e0))]) hx hb dX1_next_5 rfl hl (by decide) rfl (fun ls hl => ?_)
  refine lv_aload_n hx hb dX1_next_6 rfl (lv_at hl 1 rfl) ?_
  refine lv_iload_n hx hb dX1_next_7 rfl (lv_at hl 2 rfl) ?_
  refine ro_V1 ⟨hx, hb, hml, hown, hts⟩ (c_X1_yOf l D o cI cZ th tw ch sm od st cl us w h e0 gw gw2 gh2 (by have := nE_le gw2 gh2; omega)) (cwV 1 hts gX1_next_X1_yOf rfl rfl rfl (by decide +kernel) ⟨Nat.le_of_ble_eq_true rfl, Nat.le_of_ble_eq_true rfl⟩) (va_recv hK hP (ci := 1) (q0 := 0) rfl rfl) hP hK hP hS rfl hl.1 (lv_room (Nat.le_of_ble_eq_true rfl)) dX1_next_8 ⟨Nat.le_of_ble_eq_true rfl, Nat.le_of_ble_eq_true rfl⟩ (fun r8 H locs hr8 hP hS => ?_)
  subst hr8
  rw [show (nI (yE w h e0)) = nI y0 from by rw [ey0]]
  refine lv_istore_n (lv' := [(3, .int (nI y0)), (2, .int (nI x0)), (0, .ref (o 0)), (1, .int (nI e0))]) hx hb dX1_next_11 rfl hl (by decide) rfl (fun ls hl => ?_)
  refine lv_iconst (v := (-1)) hx hb dX1_next_12 (by decide) ?_
  refine lv_istore (lv' := [(4, .int (-1)), (3, .int (nI y0)), (2, .int (nI x0)), (0, .ref (o 0)), (1, .int (nI e0))]) hx hb dX1_next_13 hl (by decide) rfl (fun ls hl => ?_)
  refine lv_iconst (v := 0) hx hb dX1_next_15 (by decide) ?_
  refine lv_istore (lv' := [(5, .int 0), (4, .int (-1)), (3, .int (nI y0)), (2, .int (nI x0)), (0, .ref (o 0)), (1, .int (nI e0))]) hx hb dX1_next_16 hl (by decide) rfl (fun ls hl => ?_)
  refine lv_iload hx hb dX1_next_18 (lv_at hl 0 rfl) ?_
  refine lv_iconst (v := 2) hx hb dX1_next_20 (by decide) ?_
  refine lv_icmp_ge (tgt := 125) hx hb dX1_next_21 (by decide) (fun c21 => ?_) (fun c21 => ?_)
  · exact absurd c21 (by decide)
  · refine lv_aload_n hx hb dX1_next_24 rfl (lv_at hl 4 rfl) ?_
    refine lv_iload_n hx hb dX1_next_25 rfl (lv_at hl 5 rfl) ?_
    refine ro_V1 ⟨hx, hb, hml, hown, hts⟩ (c_X1_isAcross l D o cI cZ th tw ch sm od st cl us w h e0 gw gw2 gh2 (by have := nE_le gw2 gh2; omega)) (cwV 1 hts gX1_next_X1_isAcross rfl rfl rfl (by decide +kernel) ⟨Nat.le_of_ble_eq_true rfl, Nat.le_of_ble_eq_true rfl⟩) (va_recv hK hP (ci := 1) (q0 := 0) rfl rfl) hP hK hP hS rfl hl.1 (lv_room (Nat.le_of_ble_eq_true rfl)) dX1_next_26 ⟨Nat.le_of_ble_eq_true rfl, Nat.le_of_ble_eq_true rfl⟩ (fun r26 H locs hr26 hP hS => ?_)
    subst hr26
    refine lv_if_eq (tgt := 36) hx hb dX1_next_29 (by decide) (fun c29 => ?_) (fun c29 => ?_)
    · refine lv_iload_n hx hb dX1_next_36 rfl (lv_at hl 3 rfl) ?_
      refine lv_iload hx hb dX1_next_37 (lv_at hl 0 rfl) ?_
      refine lv_isub hx hb dX1_next_39 ?_
      rw [show ((nI x0) - 0) = nI x0 from by simp]
      refine lv_istore (lv' := [(6, .int (nI x0)), (5, .int 0), (4, .int (-1)), (3, .int (nI y0)), (2, .int (nI x0)), (0, .ref (o 0)), (1, .int (nI e0))]) hx hb dX1_next_40 hl (by decide) rfl (fun ls hl => ?_)
      refine lv_aload_n hx hb dX1_next_42 rfl (lv_at hl 5 rfl) ?_
      refine lv_iload_n hx hb dX1_next_43 rfl (lv_at hl 6 rfl) ?_
      refine ro_V1 ⟨hx, hb, hml, hown, hts⟩ (c_X1_isAcross l D o cI cZ th tw ch sm od st cl us w h e0 gw gw2 gh2 (by have := nE_le gw2 gh2; omega)) (cwV 1 hts gX1_next_X1_isAcross rfl rfl rfl (by decide +kernel) ⟨Nat.le_of_ble_eq_true rfl, Nat.le_of_ble_eq_true rfl⟩) (va_recv hK hP (ci := 1) (q0 := 0) rfl rfl) hP hK hP hS rfl hl.1 (lv_room (Nat.le_of_ble_eq_true rfl)) dX1_next_44 ⟨Nat.le_of_ble_eq_true rfl, Nat.le_of_ble_eq_true rfl⟩ (fun r44 H locs hr44 hP hS => ?_)
      subst hr44
      refine lv_if_eq (tgt := 57) hx hb dX1_next_47 (by decide) (fun c47 => ?_) (fun c47 => ?_)
      · refine lv_iload_n hx hb dX1_next_57 rfl (lv_at hl 3 rfl) ?_
        refine lv_istore (lv' := [(7, .int (nI y0)), (6, .int (nI x0)), (5, .int 0), (4, .int (-1)), (3, .int (nI y0)), (2, .int (nI x0)), (0, .ref (o 0)), (1, .int (nI e0))]) hx hb dX1_next_58 hl (by decide) rfl (fun ls hl => ?_)
        refine lv_aload_n hx hb dX1_next_60 rfl (lv_at hl 6 rfl) ?_
        refine lv_iload_n hx hb dX1_next_61 rfl (lv_at hl 7 rfl) ?_
        refine ro_V1 ⟨hx, hb, hml, hown, hts⟩ (c_X1_isAcross l D o cI cZ th tw ch sm od st cl us w h e0 gw gw2 gh2 (by have := nE_le gw2 gh2; omega)) (cwV 1 hts gX1_next_X1_isAcross rfl rfl rfl (by decide +kernel) ⟨Nat.le_of_ble_eq_true rfl, Nat.le_of_ble_eq_true rfl⟩) (va_recv hK hP (ci := 1) (q0 := 0) rfl rfl) hP hK hP hS rfl hl.1 (lv_room (Nat.le_of_ble_eq_true rfl)) dX1_next_62 ⟨Nat.le_of_ble_eq_true rfl, Nat.le_of_ble_eq_true rfl⟩ (fun r62 H locs hr62 hP hS => ?_)
        subst hr62
        refine lv_if_eq (tgt := 75) hx hb dX1_next_65 (by decide) (fun c65 => ?_) (fun c65 => ?_)
        · refine lv_iconst (v := 3) hx hb dX1_next_75 (by decide) ?_
          refine lv_iconst (v := 2) hx hb dX1_next_76 (by decide) ?_
          refine lv_iload hx hb dX1_next_77 (lv_at hl 2 rfl) ?_
          refine lv_imul hx hb dX1_next_79 ?_
          refine lv_isub hx hb dX1_next_80 ?_
          rw [show (3 - (2 * 0)) = nI 3 from by decide]
          refine lv_istore (lv' := [(8, .int (nI 3)), (7, .int (nI y0)), (6, .int (nI x0)), (5, .int 0), (4, .int (-1)), (3, .int (nI y0)), (2, .int (nI x0)), (0, .ref (o 0)), (1, .int (nI e0))]) hx hb dX1_next_81 hl (by decide) rfl (fun ls hl => ?_)
          refine lv_aload_n hx hb dX1_next_83 rfl (lv_at hl 7 rfl) ?_
          refine lv_iload hx hb dX1_next_84 (lv_at hl 2 rfl) ?_
          refine lv_iload hx hb dX1_next_86 (lv_at hl 1 rfl) ?_
          refine ro_V2 ⟨hx, hb, hml, hown, hts⟩ (c_X1_isCell l D o cI cZ th tw ch sm od st cl us w h (nI x0) (nI y0) (by omega) (by omega)) (cwV 2 hts gX1_next_X1_isCell rfl rfl rfl (by decide +kernel) ⟨Nat.le_of_ble_eq_true rfl, Nat.le_of_ble_eq_true rfl⟩) (va_recv hK hP (ci := 1) (q0 := 0) rfl rfl) hP hK hP hS rfl hl.1 (lv_room (Nat.le_of_ble_eq_true rfl)) dX1_next_88 ⟨Nat.le_of_ble_eq_true rfl, Nat.le_of_ble_eq_true rfl⟩ (fun r88 H locs hr88 hP hS => ?_)
          subst hr88
          rw [show (bI (decide (0 ≤ (nI x0)) && decide ((nI x0) < nI (w - 1)) && decide (0 ≤ (nI y0)) && decide ((nI y0) < nI (h - 1)))) = bI (cl0 w h x0 y0) from by rw [cl_0 gw gw2 gh gh2 (by omega) (by omega)]]
          refine lv_if_eq (tgt := 119) hx hb dX1_next_91 (by decide) (fun c91 => ?_) (fun c91 => ?_)
          · refine lv_iinc (v := 1) (lv' := [(5, .int 1), (8, .int (nI 3)), (7, .int (nI y0)), (6, .int (nI x0)), (4, .int (-1)), (3, .int (nI y0)), (2, .int (nI x0)), (0, .ref (o 0)), (1, .int (nI e0))]) hx hb dX1_next_119 hl (k := 3) rfl (by decide) (by decide) rfl (fun ls hl => ?_)
            refine lv_goto (tgt := 18) hx hb dX1_next_122 (by decide) ?_
            refine lv_iload hx hb dX1_next_18 (lv_at hl 0 rfl) ?_
            refine lv_iconst (v := 2) hx hb dX1_next_20 (by decide) ?_
            refine lv_icmp_ge (tgt := 125) hx hb dX1_next_21 (by decide) (fun c21_2 => ?_) (fun c21_2 => ?_)
            · exact absurd c21_2 (by decide)
            · refine lv_aload_n hx hb dX1_next_24 rfl (lv_at hl 7 rfl) ?_
              refine lv_iload_n hx hb dX1_next_25 rfl (lv_at hl 8 rfl) ?_
              refine ro_V1 ⟨hx, hb, hml, hown, hts⟩ (c_X1_isAcross l D o cI cZ th tw ch sm od st cl us w h e0 gw gw2 gh2 (by have := nE_le gw2 gh2; omega)) (cwV 1 hts gX1_next_X1_isAcross rfl rfl rfl (by decide +kernel) ⟨Nat.le_of_ble_eq_true rfl, Nat.le_of_ble_eq_true rfl⟩) (va_recv hK hP (ci := 1) (q0 := 0) rfl rfl) hP hK hP hS rfl hl.1 (lv_room (Nat.le_of_ble_eq_true rfl)) dX1_next_26 ⟨Nat.le_of_ble_eq_true rfl, Nat.le_of_ble_eq_true rfl⟩ (fun r26 H locs hr26 hP hS => ?_)
              subst hr26
              refine lv_if_eq (tgt := 36) hx hb dX1_next_29 (by decide) (fun c29_2 => ?_) (fun c29_2 => ?_)
              · refine lv_iload_n hx hb dX1_next_36 rfl (lv_at hl 6 rfl) ?_
                refine lv_iload hx hb dX1_next_37 (lv_at hl 0 rfl) ?_
                refine lv_isub hx hb dX1_next_39 ?_
                rw [show ((nI x0) - 1) = (nI x0 - 1) from rfl]
                refine lv_istore (lv' := [(6, .int (nI x0 - 1)), (5, .int 1), (8, .int (nI 3)), (7, .int (nI y0)), (4, .int (-1)), (3, .int (nI y0)), (2, .int (nI x0)), (0, .ref (o 0)), (1, .int (nI e0))]) hx hb dX1_next_40 hl (by decide) rfl (fun ls hl => ?_)
                refine lv_aload_n hx hb dX1_next_42 rfl (lv_at hl 7 rfl) ?_
                refine lv_iload_n hx hb dX1_next_43 rfl (lv_at hl 8 rfl) ?_
                refine ro_V1 ⟨hx, hb, hml, hown, hts⟩ (c_X1_isAcross l D o cI cZ th tw ch sm od st cl us w h e0 gw gw2 gh2 (by have := nE_le gw2 gh2; omega)) (cwV 1 hts gX1_next_X1_isAcross rfl rfl rfl (by decide +kernel) ⟨Nat.le_of_ble_eq_true rfl, Nat.le_of_ble_eq_true rfl⟩) (va_recv hK hP (ci := 1) (q0 := 0) rfl rfl) hP hK hP hS rfl hl.1 (lv_room (Nat.le_of_ble_eq_true rfl)) dX1_next_44 ⟨Nat.le_of_ble_eq_true rfl, Nat.le_of_ble_eq_true rfl⟩ (fun r44 H locs hr44 hP hS => ?_)
                subst hr44
                refine lv_if_eq (tgt := 57) hx hb dX1_next_47 (by decide) (fun c47_2 => ?_) (fun c47_2 => ?_)
                · refine lv_iload_n hx hb dX1_next_57 rfl (lv_at hl 5 rfl) ?_
                  refine lv_istore (lv' := [(7, .int (nI y0)), (6, .int (nI x0 - 1)), (5, .int 1), (8, .int (nI 3)), (4, .int (-1)), (3, .int (nI y0)), (2, .int (nI x0)), (0, .ref (o 0)), (1, .int (nI e0))]) hx hb dX1_next_58 hl (by decide) rfl (fun ls hl => ?_)
                  refine lv_aload_n hx hb dX1_next_60 rfl (lv_at hl 7 rfl) ?_
                  refine lv_iload_n hx hb dX1_next_61 rfl (lv_at hl 8 rfl) ?_
                  refine ro_V1 ⟨hx, hb, hml, hown, hts⟩ (c_X1_isAcross l D o cI cZ th tw ch sm od st cl us w h e0 gw gw2 gh2 (by have := nE_le gw2 gh2; omega)) (cwV 1 hts gX1_next_X1_isAcross rfl rfl rfl (by decide +kernel) ⟨Nat.le_of_ble_eq_true rfl, Nat.le_of_ble_eq_true rfl⟩) (va_recv hK hP (ci := 1) (q0 := 0) rfl rfl) hP hK hP hS rfl hl.1 (lv_room (Nat.le_of_ble_eq_true rfl)) dX1_next_62 ⟨Nat.le_of_ble_eq_true rfl, Nat.le_of_ble_eq_true rfl⟩ (fun r62 H locs hr62 hP hS => ?_)
                  subst hr62
                  refine lv_if_eq (tgt := 75) hx hb dX1_next_65 (by decide) (fun c65_2 => ?_) (fun c65_2 => ?_)
                  · refine lv_iconst (v := 3) hx hb dX1_next_75 (by decide) ?_
                    refine lv_iconst (v := 2) hx hb dX1_next_76 (by decide) ?_
                    refine lv_iload hx hb dX1_next_77 (lv_at hl 2 rfl) ?_
                    refine lv_imul hx hb dX1_next_79 ?_
                    refine lv_isub hx hb dX1_next_80 ?_
                    rw [show (3 - (2 * 1)) = nI 1 from by decide]
                    refine lv_istore (lv' := [(8, .int (nI 1)), (7, .int (nI y0)), (6, .int (nI x0 - 1)), (5, .int 1), (4, .int (-1)), (3, .int (nI y0)), (2, .int (nI x0)), (0, .ref (o 0)), (1, .int (nI e0))]) hx hb dX1_next_81 hl (by decide) rfl (fun ls hl => ?_)
                    refine lv_aload_n hx hb dX1_next_83 rfl (lv_at hl 7 rfl) ?_
                    refine lv_iload hx hb dX1_next_84 (lv_at hl 2 rfl) ?_
                    refine lv_iload hx hb dX1_next_86 (lv_at hl 1 rfl) ?_
                    refine ro_V2 ⟨hx, hb, hml, hown, hts⟩ (c_X1_isCell l D o cI cZ th tw ch sm od st cl us w h (nI x0 - 1) (nI y0) (by omega) (by omega)) (cwV 2 hts gX1_next_X1_isCell rfl rfl rfl (by decide +kernel) ⟨Nat.le_of_ble_eq_true rfl, Nat.le_of_ble_eq_true rfl⟩) (va_recv hK hP (ci := 1) (q0 := 0) rfl rfl) hP hK hP hS rfl hl.1 (lv_room (Nat.le_of_ble_eq_true rfl)) dX1_next_88 ⟨Nat.le_of_ble_eq_true rfl, Nat.le_of_ble_eq_true rfl⟩ (fun r88 H locs hr88 hP hS => ?_)
                    subst hr88
                    rw [show (bI (decide (0 ≤ (nI x0 - 1)) && decide ((nI x0 - 1) < nI (w - 1)) && decide (0 ≤ (nI y0)) && decide ((nI y0) < nI (h - 1)))) = bI (clX w h x0 y0) from by rw [cl_X gw gw2 gh gh2 (by omega) (by omega)]]
                    refine lv_if_eq (tgt := 119) hx hb dX1_next_91 (by decide) (fun c91_2 => ?_) (fun c91_2 => ?_)
                    · refine lv_iinc (v := 2) (lv' := [(5, .int 2), (8, .int (nI 1)), (7, .int (nI y0)), (6, .int (nI x0 - 1)), (4, .int (-1)), (3, .int (nI y0)), (2, .int (nI x0)), (0, .ref (o 0)), (1, .int (nI e0))]) hx hb dX1_next_119 hl (k := 3) rfl (by decide) (by decide) rfl (fun ls hl => ?_)
                      refine lv_goto (tgt := 18) hx hb dX1_next_122 (by decide) ?_
                      refine lv_iload hx hb dX1_next_18 (lv_at hl 0 rfl) ?_
                      refine lv_iconst (v := 2) hx hb dX1_next_20 (by decide) ?_
                      refine lv_icmp_ge (tgt := 125) hx hb dX1_next_21 (by decide) (fun c21_3 => ?_) (fun c21_3 => ?_)
                      · refine lv_iload hx hb dX1_next_125 (lv_at hl 4 rfl) ?_
                        exact W.iret (v := (-1)) hx hb hr (fun t ht hW => ⟨⟨_, (), rfl, by unfold nxR; rw [if_neg (bd_f c29), ← ex0, ← ey0]; simp [bI_0.mp c91, bI_0.mp c91_2], trivial⟩, hS.F ht⟩) hS.2.2 dX1_next_127
                      · exact absurd c21_3 (by decide)
                    · have hc1 := clX_ok (bI_n0.mp c91_2)
                      rw [nI_m1 hc1.2.1] at hl
                      refine lv_aload_n hx hb dX1_next_94 rfl (lv_at hl 7 rfl) ?_
                      refine lv_iload hx hb dX1_next_95 (lv_at hl 2 rfl) ?_
                      refine lv_iload hx hb dX1_next_97 (lv_at hl 1 rfl) ?_
                      refine lv_iload hx hb dX1_next_99 (lv_at hl 0 rfl) ?_
                      refine ro_V3 ⟨hx, hb, hml, hown, hts⟩ (c_X1_isDown l D o cI cZ th tw ch sm od st cl us w h f (x0 - 1) y0 1 gw2 gh2 gf (by omega) (by omega) (by decide)) (cwV 3 hts gX1_next_X1_isDown rfl rfl rfl (by decide +kernel) ⟨Nat.le_of_ble_eq_true rfl, Nat.le_of_ble_eq_true rfl⟩) (va_recv hK hP (ci := 1) (q0 := 0) rfl rfl) hP hK hP hS rfl hl.1 (lv_room (Nat.le_of_ble_eq_true rfl)) dX1_next_101 ⟨Nat.le_of_ble_eq_true rfl, Nat.le_of_ble_eq_true rfl⟩ (fun r101 H locs hr101 hP hS => ?_)
                      subst hr101
                      refine lv_if_eq (tgt := 119) hx hb dX1_next_104 (by decide) (fun c104 => ?_) (fun c104 => ?_)
                      · refine lv_iinc (v := 2) (lv' := [(5, .int 2), (8, .int (nI 1)), (7, .int (nI y0)), (6, .int (nI (x0 - 1))), (4, .int (-1)), (3, .int (nI y0)), (2, .int (nI x0)), (0, .ref (o 0)), (1, .int (nI e0))]) hx hb dX1_next_119 hl (k := 3) rfl (by decide) (by decide) rfl (fun ls hl => ?_)
                        refine lv_goto (tgt := 18) hx hb dX1_next_122 (by decide) ?_
                        refine lv_iload hx hb dX1_next_18 (lv_at hl 0 rfl) ?_
                        refine lv_iconst (v := 2) hx hb dX1_next_20 (by decide) ?_
                        refine lv_icmp_ge (tgt := 125) hx hb dX1_next_21 (by decide) (fun c21_3 => ?_) (fun c21_3 => ?_)
                        · refine lv_iload hx hb dX1_next_125 (lv_at hl 4 rfl) ?_
                          exact W.iret (v := (-1)) hx hb hr (fun t ht hW => ⟨⟨_, (), rfl, by unfold nxR; rw [if_neg (bd_f c29), ← ex0, ← ey0]; simp [bI_0.mp c91, bI_n0.mp c91_2, bI_0.mp c104], trivial⟩, hS.F ht⟩) hS.2.2 dX1_next_127
                        · exact absurd c21_3 (by decide)
                      · refine lv_aload_n hx hb dX1_next_107 rfl (lv_at hl 7 rfl) ?_
                        refine lv_iload hx hb dX1_next_108 (lv_at hl 2 rfl) ?_
                        refine lv_iload hx hb dX1_next_110 (lv_at hl 1 rfl) ?_
                        refine lv_iload hx hb dX1_next_112 (lv_at hl 0 rfl) ?_
                        refine ro_V3 ⟨hx, hb, hml, hown, hts⟩ (c_X1_leads l D o cI cZ th tw ch sm od st cl us w h f (x0 - 1) y0 1 gw2 gh2 gf (by omega) (by omega) (by decide) (bI_n0.mp c104)) (cwV 3 hts gX1_next_X1_leads rfl rfl rfl (by decide +kernel) ⟨Nat.le_of_ble_eq_true rfl, Nat.le_of_ble_eq_true rfl⟩) (va_recv hK hP (ci := 1) (q0 := 0) rfl rfl) hP hK hP hS rfl hl.1 (lv_room (Nat.le_of_ble_eq_true rfl)) dX1_next_114 ⟨Nat.le_of_ble_eq_true rfl, Nat.le_of_ble_eq_true rfl⟩ (fun r114 H locs hr114 hP hS => ?_)
                        subst hr114
                        refine lv_istore (lv' := [(4, .int (nI (eO w h (x0 - 1) y0 (ldB f tw (x0 - 1) y0 1)))), (8, .int (nI 1)), (7, .int (nI y0)), (6, .int (nI (x0 - 1))), (5, .int 1), (3, .int (nI y0)), (2, .int (nI x0)), (0, .ref (o 0)), (1, .int (nI e0))]) hx hb dX1_next_117 hl (by decide) rfl (fun ls hl => ?_)
                        refine lv_iinc (v := 2) (lv' := [(5, .int 2), (4, .int (nI (eO w h (x0 - 1) y0 (ldB f tw (x0 - 1) y0 1)))), (8, .int (nI 1)), (7, .int (nI y0)), (6, .int (nI (x0 - 1))), (3, .int (nI y0)), (2, .int (nI x0)), (0, .ref (o 0)), (1, .int (nI e0))]) hx hb dX1_next_119 hl (k := 4) rfl (by decide) (by decide) rfl (fun ls hl => ?_)
                        refine lv_goto (tgt := 18) hx hb dX1_next_122 (by decide) ?_
                        refine lv_iload hx hb dX1_next_18 (lv_at hl 0 rfl) ?_
                        refine lv_iconst (v := 2) hx hb dX1_next_20 (by decide) ?_
                        refine lv_icmp_ge (tgt := 125) hx hb dX1_next_21 (by decide) (fun c21_3 => ?_) (fun c21_3 => ?_)
                        · refine lv_iload hx hb dX1_next_125 (lv_at hl 1 rfl) ?_
                          exact W.iret (v := (nI (eO w h (x0 - 1) y0 (ldB f tw (x0 - 1) y0 1)))) hx hb hr (fun t ht hW => ⟨⟨_, (), rfl, by unfold nxR; rw [if_neg (bd_f c29), ← ex0, ← ey0]; simp [bI_0.mp c91, bI_n0.mp c91_2, bI_n0.mp c104], trivial⟩, hS.F ht⟩) hS.2.2 dX1_next_127
                        · exact absurd c21_3 (by decide)
                  · exact absurd c29 c65_2
                · exact absurd c29 c47_2
              · exact absurd c29 c29_2
          · have hc0 := cl0_ok (bI_n0.mp c91)
            refine lv_aload_n hx hb dX1_next_94 rfl (lv_at hl 7 rfl) ?_
            refine lv_iload hx hb dX1_next_95 (lv_at hl 2 rfl) ?_
            refine lv_iload hx hb dX1_next_97 (lv_at hl 1 rfl) ?_
            refine lv_iload hx hb dX1_next_99 (lv_at hl 0 rfl) ?_
            refine ro_V3 ⟨hx, hb, hml, hown, hts⟩ (c_X1_isDown l D o cI cZ th tw ch sm od st cl us w h f x0 y0 3 gw2 gh2 gf (by omega) (by omega) (by decide)) (cwV 3 hts gX1_next_X1_isDown rfl rfl rfl (by decide +kernel) ⟨Nat.le_of_ble_eq_true rfl, Nat.le_of_ble_eq_true rfl⟩) (va_recv hK hP (ci := 1) (q0 := 0) rfl rfl) hP hK hP hS rfl hl.1 (lv_room (Nat.le_of_ble_eq_true rfl)) dX1_next_101 ⟨Nat.le_of_ble_eq_true rfl, Nat.le_of_ble_eq_true rfl⟩ (fun r101 H locs hr101 hP hS => ?_)
            subst hr101
            refine lv_if_eq (tgt := 119) hx hb dX1_next_104 (by decide) (fun c104 => ?_) (fun c104 => ?_)
            · refine lv_iinc (v := 1) (lv' := [(5, .int 1), (8, .int (nI 3)), (7, .int (nI y0)), (6, .int (nI x0)), (4, .int (-1)), (3, .int (nI y0)), (2, .int (nI x0)), (0, .ref (o 0)), (1, .int (nI e0))]) hx hb dX1_next_119 hl (k := 3) rfl (by decide) (by decide) rfl (fun ls hl => ?_)
              refine lv_goto (tgt := 18) hx hb dX1_next_122 (by decide) ?_
              refine lv_iload hx hb dX1_next_18 (lv_at hl 0 rfl) ?_
              refine lv_iconst (v := 2) hx hb dX1_next_20 (by decide) ?_
              refine lv_icmp_ge (tgt := 125) hx hb dX1_next_21 (by decide) (fun c21_2 => ?_) (fun c21_2 => ?_)
              · exact absurd c21_2 (by decide)
              · refine lv_aload_n hx hb dX1_next_24 rfl (lv_at hl 7 rfl) ?_
                refine lv_iload_n hx hb dX1_next_25 rfl (lv_at hl 8 rfl) ?_
                refine ro_V1 ⟨hx, hb, hml, hown, hts⟩ (c_X1_isAcross l D o cI cZ th tw ch sm od st cl us w h e0 gw gw2 gh2 (by have := nE_le gw2 gh2; omega)) (cwV 1 hts gX1_next_X1_isAcross rfl rfl rfl (by decide +kernel) ⟨Nat.le_of_ble_eq_true rfl, Nat.le_of_ble_eq_true rfl⟩) (va_recv hK hP (ci := 1) (q0 := 0) rfl rfl) hP hK hP hS rfl hl.1 (lv_room (Nat.le_of_ble_eq_true rfl)) dX1_next_26 ⟨Nat.le_of_ble_eq_true rfl, Nat.le_of_ble_eq_true rfl⟩ (fun r26 H locs hr26 hP hS => ?_)
                subst hr26
                refine lv_if_eq (tgt := 36) hx hb dX1_next_29 (by decide) (fun c29_2 => ?_) (fun c29_2 => ?_)
                · refine lv_iload_n hx hb dX1_next_36 rfl (lv_at hl 6 rfl) ?_
                  refine lv_iload hx hb dX1_next_37 (lv_at hl 0 rfl) ?_
                  refine lv_isub hx hb dX1_next_39 ?_
                  rw [show ((nI x0) - 1) = (nI x0 - 1) from rfl]
                  refine lv_istore (lv' := [(6, .int (nI x0 - 1)), (5, .int 1), (8, .int (nI 3)), (7, .int (nI y0)), (4, .int (-1)), (3, .int (nI y0)), (2, .int (nI x0)), (0, .ref (o 0)), (1, .int (nI e0))]) hx hb dX1_next_40 hl (by decide) rfl (fun ls hl => ?_)
                  refine lv_aload_n hx hb dX1_next_42 rfl (lv_at hl 7 rfl) ?_
                  refine lv_iload_n hx hb dX1_next_43 rfl (lv_at hl 8 rfl) ?_
                  refine ro_V1 ⟨hx, hb, hml, hown, hts⟩ (c_X1_isAcross l D o cI cZ th tw ch sm od st cl us w h e0 gw gw2 gh2 (by have := nE_le gw2 gh2; omega)) (cwV 1 hts gX1_next_X1_isAcross rfl rfl rfl (by decide +kernel) ⟨Nat.le_of_ble_eq_true rfl, Nat.le_of_ble_eq_true rfl⟩) (va_recv hK hP (ci := 1) (q0 := 0) rfl rfl) hP hK hP hS rfl hl.1 (lv_room (Nat.le_of_ble_eq_true rfl)) dX1_next_44 ⟨Nat.le_of_ble_eq_true rfl, Nat.le_of_ble_eq_true rfl⟩ (fun r44 H locs hr44 hP hS => ?_)
                  subst hr44
                  refine lv_if_eq (tgt := 57) hx hb dX1_next_47 (by decide) (fun c47_2 => ?_) (fun c47_2 => ?_)
                  · refine lv_iload_n hx hb dX1_next_57 rfl (lv_at hl 5 rfl) ?_
                    refine lv_istore (lv' := [(7, .int (nI y0)), (6, .int (nI x0 - 1)), (5, .int 1), (8, .int (nI 3)), (4, .int (-1)), (3, .int (nI y0)), (2, .int (nI x0)), (0, .ref (o 0)), (1, .int (nI e0))]) hx hb dX1_next_58 hl (by decide) rfl (fun ls hl => ?_)
                    refine lv_aload_n hx hb dX1_next_60 rfl (lv_at hl 7 rfl) ?_
                    refine lv_iload_n hx hb dX1_next_61 rfl (lv_at hl 8 rfl) ?_
                    refine ro_V1 ⟨hx, hb, hml, hown, hts⟩ (c_X1_isAcross l D o cI cZ th tw ch sm od st cl us w h e0 gw gw2 gh2 (by have := nE_le gw2 gh2; omega)) (cwV 1 hts gX1_next_X1_isAcross rfl rfl rfl (by decide +kernel) ⟨Nat.le_of_ble_eq_true rfl, Nat.le_of_ble_eq_true rfl⟩) (va_recv hK hP (ci := 1) (q0 := 0) rfl rfl) hP hK hP hS rfl hl.1 (lv_room (Nat.le_of_ble_eq_true rfl)) dX1_next_62 ⟨Nat.le_of_ble_eq_true rfl, Nat.le_of_ble_eq_true rfl⟩ (fun r62 H locs hr62 hP hS => ?_)
                    subst hr62
                    refine lv_if_eq (tgt := 75) hx hb dX1_next_65 (by decide) (fun c65_2 => ?_) (fun c65_2 => ?_)
                    · refine lv_iconst (v := 3) hx hb dX1_next_75 (by decide) ?_
                      refine lv_iconst (v := 2) hx hb dX1_next_76 (by decide) ?_
                      refine lv_iload hx hb dX1_next_77 (lv_at hl 2 rfl) ?_
                      refine lv_imul hx hb dX1_next_79 ?_
                      refine lv_isub hx hb dX1_next_80 ?_
                      rw [show (3 - (2 * 1)) = nI 1 from by decide]
                      refine lv_istore (lv' := [(8, .int (nI 1)), (7, .int (nI y0)), (6, .int (nI x0 - 1)), (5, .int 1), (4, .int (-1)), (3, .int (nI y0)), (2, .int (nI x0)), (0, .ref (o 0)), (1, .int (nI e0))]) hx hb dX1_next_81 hl (by decide) rfl (fun ls hl => ?_)
                      refine lv_aload_n hx hb dX1_next_83 rfl (lv_at hl 7 rfl) ?_
                      refine lv_iload hx hb dX1_next_84 (lv_at hl 2 rfl) ?_
                      refine lv_iload hx hb dX1_next_86 (lv_at hl 1 rfl) ?_
                      refine ro_V2 ⟨hx, hb, hml, hown, hts⟩ (c_X1_isCell l D o cI cZ th tw ch sm od st cl us w h (nI x0 - 1) (nI y0) (by omega) (by omega)) (cwV 2 hts gX1_next_X1_isCell rfl rfl rfl (by decide +kernel) ⟨Nat.le_of_ble_eq_true rfl, Nat.le_of_ble_eq_true rfl⟩) (va_recv hK hP (ci := 1) (q0 := 0) rfl rfl) hP hK hP hS rfl hl.1 (lv_room (Nat.le_of_ble_eq_true rfl)) dX1_next_88 ⟨Nat.le_of_ble_eq_true rfl, Nat.le_of_ble_eq_true rfl⟩ (fun r88 H locs hr88 hP hS => ?_)
                      subst hr88
                      rw [show (bI (decide (0 ≤ (nI x0 - 1)) && decide ((nI x0 - 1) < nI (w - 1)) && decide (0 ≤ (nI y0)) && decide ((nI y0) < nI (h - 1)))) = bI (clX w h x0 y0) from by rw [cl_X gw gw2 gh gh2 (by omega) (by omega)]]
                      refine lv_if_eq (tgt := 119) hx hb dX1_next_91 (by decide) (fun c91_2 => ?_) (fun c91_2 => ?_)
                      · refine lv_iinc (v := 2) (lv' := [(5, .int 2), (8, .int (nI 1)), (7, .int (nI y0)), (6, .int (nI x0 - 1)), (4, .int (-1)), (3, .int (nI y0)), (2, .int (nI x0)), (0, .ref (o 0)), (1, .int (nI e0))]) hx hb dX1_next_119 hl (k := 3) rfl (by decide) (by decide) rfl (fun ls hl => ?_)
                        refine lv_goto (tgt := 18) hx hb dX1_next_122 (by decide) ?_
                        refine lv_iload hx hb dX1_next_18 (lv_at hl 0 rfl) ?_
                        refine lv_iconst (v := 2) hx hb dX1_next_20 (by decide) ?_
                        refine lv_icmp_ge (tgt := 125) hx hb dX1_next_21 (by decide) (fun c21_3 => ?_) (fun c21_3 => ?_)
                        · refine lv_iload hx hb dX1_next_125 (lv_at hl 4 rfl) ?_
                          exact W.iret (v := (-1)) hx hb hr (fun t ht hW => ⟨⟨_, (), rfl, by unfold nxR; rw [if_neg (bd_f c29), ← ex0, ← ey0]; simp [bI_n0.mp c91, bI_0.mp c91_2, bI_0.mp c104], trivial⟩, hS.F ht⟩) hS.2.2 dX1_next_127
                        · exact absurd c21_3 (by decide)
                      · have hc1 := clX_ok (bI_n0.mp c91_2)
                        rw [nI_m1 hc1.2.1] at hl
                        refine lv_aload_n hx hb dX1_next_94 rfl (lv_at hl 7 rfl) ?_
                        refine lv_iload hx hb dX1_next_95 (lv_at hl 2 rfl) ?_
                        refine lv_iload hx hb dX1_next_97 (lv_at hl 1 rfl) ?_
                        refine lv_iload hx hb dX1_next_99 (lv_at hl 0 rfl) ?_
                        refine ro_V3 ⟨hx, hb, hml, hown, hts⟩ (c_X1_isDown l D o cI cZ th tw ch sm od st cl us w h f (x0 - 1) y0 1 gw2 gh2 gf (by omega) (by omega) (by decide)) (cwV 3 hts gX1_next_X1_isDown rfl rfl rfl (by decide +kernel) ⟨Nat.le_of_ble_eq_true rfl, Nat.le_of_ble_eq_true rfl⟩) (va_recv hK hP (ci := 1) (q0 := 0) rfl rfl) hP hK hP hS rfl hl.1 (lv_room (Nat.le_of_ble_eq_true rfl)) dX1_next_101 ⟨Nat.le_of_ble_eq_true rfl, Nat.le_of_ble_eq_true rfl⟩ (fun r101 H locs hr101 hP hS => ?_)
                        subst hr101
                        refine lv_if_eq (tgt := 119) hx hb dX1_next_104 (by decide) (fun c104_2 => ?_) (fun c104_2 => ?_)
                        · refine lv_iinc (v := 2) (lv' := [(5, .int 2), (8, .int (nI 1)), (7, .int (nI y0)), (6, .int (nI (x0 - 1))), (4, .int (-1)), (3, .int (nI y0)), (2, .int (nI x0)), (0, .ref (o 0)), (1, .int (nI e0))]) hx hb dX1_next_119 hl (k := 3) rfl (by decide) (by decide) rfl (fun ls hl => ?_)
                          refine lv_goto (tgt := 18) hx hb dX1_next_122 (by decide) ?_
                          refine lv_iload hx hb dX1_next_18 (lv_at hl 0 rfl) ?_
                          refine lv_iconst (v := 2) hx hb dX1_next_20 (by decide) ?_
                          refine lv_icmp_ge (tgt := 125) hx hb dX1_next_21 (by decide) (fun c21_3 => ?_) (fun c21_3 => ?_)
                          · refine lv_iload hx hb dX1_next_125 (lv_at hl 4 rfl) ?_
                            exact W.iret (v := (-1)) hx hb hr (fun t ht hW => ⟨⟨_, (), rfl, by unfold nxR; rw [if_neg (bd_f c29), ← ex0, ← ey0]; simp [bI_n0.mp c91, bI_n0.mp c91_2, bI_0.mp c104, bI_0.mp c104_2], trivial⟩, hS.F ht⟩) hS.2.2 dX1_next_127
                          · exact absurd c21_3 (by decide)
                        · refine lv_aload_n hx hb dX1_next_107 rfl (lv_at hl 7 rfl) ?_
                          refine lv_iload hx hb dX1_next_108 (lv_at hl 2 rfl) ?_
                          refine lv_iload hx hb dX1_next_110 (lv_at hl 1 rfl) ?_
                          refine lv_iload hx hb dX1_next_112 (lv_at hl 0 rfl) ?_
                          refine ro_V3 ⟨hx, hb, hml, hown, hts⟩ (c_X1_leads l D o cI cZ th tw ch sm od st cl us w h f (x0 - 1) y0 1 gw2 gh2 gf (by omega) (by omega) (by decide) (bI_n0.mp c104_2)) (cwV 3 hts gX1_next_X1_leads rfl rfl rfl (by decide +kernel) ⟨Nat.le_of_ble_eq_true rfl, Nat.le_of_ble_eq_true rfl⟩) (va_recv hK hP (ci := 1) (q0 := 0) rfl rfl) hP hK hP hS rfl hl.1 (lv_room (Nat.le_of_ble_eq_true rfl)) dX1_next_114 ⟨Nat.le_of_ble_eq_true rfl, Nat.le_of_ble_eq_true rfl⟩ (fun r114 H locs hr114 hP hS => ?_)
                          subst hr114
                          refine lv_istore (lv' := [(4, .int (nI (eO w h (x0 - 1) y0 (ldB f tw (x0 - 1) y0 1)))), (8, .int (nI 1)), (7, .int (nI y0)), (6, .int (nI (x0 - 1))), (5, .int 1), (3, .int (nI y0)), (2, .int (nI x0)), (0, .ref (o 0)), (1, .int (nI e0))]) hx hb dX1_next_117 hl (by decide) rfl (fun ls hl => ?_)
                          refine lv_iinc (v := 2) (lv' := [(5, .int 2), (4, .int (nI (eO w h (x0 - 1) y0 (ldB f tw (x0 - 1) y0 1)))), (8, .int (nI 1)), (7, .int (nI y0)), (6, .int (nI (x0 - 1))), (3, .int (nI y0)), (2, .int (nI x0)), (0, .ref (o 0)), (1, .int (nI e0))]) hx hb dX1_next_119 hl (k := 4) rfl (by decide) (by decide) rfl (fun ls hl => ?_)
                          refine lv_goto (tgt := 18) hx hb dX1_next_122 (by decide) ?_
                          refine lv_iload hx hb dX1_next_18 (lv_at hl 0 rfl) ?_
                          refine lv_iconst (v := 2) hx hb dX1_next_20 (by decide) ?_
                          refine lv_icmp_ge (tgt := 125) hx hb dX1_next_21 (by decide) (fun c21_3 => ?_) (fun c21_3 => ?_)
                          · refine lv_iload hx hb dX1_next_125 (lv_at hl 1 rfl) ?_
                            exact W.iret (v := (nI (eO w h (x0 - 1) y0 (ldB f tw (x0 - 1) y0 1)))) hx hb hr (fun t ht hW => ⟨⟨_, (), rfl, by unfold nxR; rw [if_neg (bd_f c29), ← ex0, ← ey0]; simp [bI_n0.mp c91, bI_n0.mp c91_2, bI_0.mp c104, bI_n0.mp c104_2], trivial⟩, hS.F ht⟩) hS.2.2 dX1_next_127
                          · exact absurd c21_3 (by decide)
                    · exact absurd c29 c65_2
                  · exact absurd c29 c47_2
                · exact absurd c29 c29_2
            · refine lv_aload_n hx hb dX1_next_107 rfl (lv_at hl 7 rfl) ?_
              refine lv_iload hx hb dX1_next_108 (lv_at hl 2 rfl) ?_
              refine lv_iload hx hb dX1_next_110 (lv_at hl 1 rfl) ?_
              refine lv_iload hx hb dX1_next_112 (lv_at hl 0 rfl) ?_
              refine ro_V3 ⟨hx, hb, hml, hown, hts⟩ (c_X1_leads l D o cI cZ th tw ch sm od st cl us w h f x0 y0 3 gw2 gh2 gf (by omega) (by omega) (by decide) (bI_n0.mp c104)) (cwV 3 hts gX1_next_X1_leads rfl rfl rfl (by decide +kernel) ⟨Nat.le_of_ble_eq_true rfl, Nat.le_of_ble_eq_true rfl⟩) (va_recv hK hP (ci := 1) (q0 := 0) rfl rfl) hP hK hP hS rfl hl.1 (lv_room (Nat.le_of_ble_eq_true rfl)) dX1_next_114 ⟨Nat.le_of_ble_eq_true rfl, Nat.le_of_ble_eq_true rfl⟩ (fun r114 H locs hr114 hP hS => ?_)
              subst hr114
              refine lv_istore (lv' := [(4, .int (nI (eO w h x0 y0 (ldB f tw x0 y0 3)))), (8, .int (nI 3)), (7, .int (nI y0)), (6, .int (nI x0)), (5, .int 0), (3, .int (nI y0)), (2, .int (nI x0)), (0, .ref (o 0)), (1, .int (nI e0))]) hx hb dX1_next_117 hl (by decide) rfl (fun ls hl => ?_)
              refine lv_iinc (v := 1) (lv' := [(5, .int 1), (4, .int (nI (eO w h x0 y0 (ldB f tw x0 y0 3)))), (8, .int (nI 3)), (7, .int (nI y0)), (6, .int (nI x0)), (3, .int (nI y0)), (2, .int (nI x0)), (0, .ref (o 0)), (1, .int (nI e0))]) hx hb dX1_next_119 hl (k := 4) rfl (by decide) (by decide) rfl (fun ls hl => ?_)
              refine lv_goto (tgt := 18) hx hb dX1_next_122 (by decide) ?_
              refine lv_iload hx hb dX1_next_18 (lv_at hl 0 rfl) ?_
              refine lv_iconst (v := 2) hx hb dX1_next_20 (by decide) ?_
              refine lv_icmp_ge (tgt := 125) hx hb dX1_next_21 (by decide) (fun c21_2 => ?_) (fun c21_2 => ?_)
              · exact absurd c21_2 (by decide)
              · refine lv_aload_n hx hb dX1_next_24 rfl (lv_at hl 7 rfl) ?_
                refine lv_iload_n hx hb dX1_next_25 rfl (lv_at hl 8 rfl) ?_
                refine ro_V1 ⟨hx, hb, hml, hown, hts⟩ (c_X1_isAcross l D o cI cZ th tw ch sm od st cl us w h e0 gw gw2 gh2 (by have := nE_le gw2 gh2; omega)) (cwV 1 hts gX1_next_X1_isAcross rfl rfl rfl (by decide +kernel) ⟨Nat.le_of_ble_eq_true rfl, Nat.le_of_ble_eq_true rfl⟩) (va_recv hK hP (ci := 1) (q0 := 0) rfl rfl) hP hK hP hS rfl hl.1 (lv_room (Nat.le_of_ble_eq_true rfl)) dX1_next_26 ⟨Nat.le_of_ble_eq_true rfl, Nat.le_of_ble_eq_true rfl⟩ (fun r26 H locs hr26 hP hS => ?_)
                subst hr26
                refine lv_if_eq (tgt := 36) hx hb dX1_next_29 (by decide) (fun c29_2 => ?_) (fun c29_2 => ?_)
                · refine lv_iload_n hx hb dX1_next_36 rfl (lv_at hl 6 rfl) ?_
                  refine lv_iload hx hb dX1_next_37 (lv_at hl 0 rfl) ?_
                  refine lv_isub hx hb dX1_next_39 ?_
                  rw [show ((nI x0) - 1) = (nI x0 - 1) from rfl]
                  refine lv_istore (lv' := [(6, .int (nI x0 - 1)), (5, .int 1), (4, .int (nI (eO w h x0 y0 (ldB f tw x0 y0 3)))), (8, .int (nI 3)), (7, .int (nI y0)), (3, .int (nI y0)), (2, .int (nI x0)), (0, .ref (o 0)), (1, .int (nI e0))]) hx hb dX1_next_40 hl (by decide) rfl (fun ls hl => ?_)
                  refine lv_aload_n hx hb dX1_next_42 rfl (lv_at hl 7 rfl) ?_
                  refine lv_iload_n hx hb dX1_next_43 rfl (lv_at hl 8 rfl) ?_
                  refine ro_V1 ⟨hx, hb, hml, hown, hts⟩ (c_X1_isAcross l D o cI cZ th tw ch sm od st cl us w h e0 gw gw2 gh2 (by have := nE_le gw2 gh2; omega)) (cwV 1 hts gX1_next_X1_isAcross rfl rfl rfl (by decide +kernel) ⟨Nat.le_of_ble_eq_true rfl, Nat.le_of_ble_eq_true rfl⟩) (va_recv hK hP (ci := 1) (q0 := 0) rfl rfl) hP hK hP hS rfl hl.1 (lv_room (Nat.le_of_ble_eq_true rfl)) dX1_next_44 ⟨Nat.le_of_ble_eq_true rfl, Nat.le_of_ble_eq_true rfl⟩ (fun r44 H locs hr44 hP hS => ?_)
                  subst hr44
                  refine lv_if_eq (tgt := 57) hx hb dX1_next_47 (by decide) (fun c47_2 => ?_) (fun c47_2 => ?_)
                  · refine lv_iload_n hx hb dX1_next_57 rfl (lv_at hl 5 rfl) ?_
                    refine lv_istore (lv' := [(7, .int (nI y0)), (6, .int (nI x0 - 1)), (5, .int 1), (4, .int (nI (eO w h x0 y0 (ldB f tw x0 y0 3)))), (8, .int (nI 3)), (3, .int (nI y0)), (2, .int (nI x0)), (0, .ref (o 0)), (1, .int (nI e0))]) hx hb dX1_next_58 hl (by decide) rfl (fun ls hl => ?_)
                    refine lv_aload_n hx hb dX1_next_60 rfl (lv_at hl 7 rfl) ?_
                    refine lv_iload_n hx hb dX1_next_61 rfl (lv_at hl 8 rfl) ?_
                    refine ro_V1 ⟨hx, hb, hml, hown, hts⟩ (c_X1_isAcross l D o cI cZ th tw ch sm od st cl us w h e0 gw gw2 gh2 (by have := nE_le gw2 gh2; omega)) (cwV 1 hts gX1_next_X1_isAcross rfl rfl rfl (by decide +kernel) ⟨Nat.le_of_ble_eq_true rfl, Nat.le_of_ble_eq_true rfl⟩) (va_recv hK hP (ci := 1) (q0 := 0) rfl rfl) hP hK hP hS rfl hl.1 (lv_room (Nat.le_of_ble_eq_true rfl)) dX1_next_62 ⟨Nat.le_of_ble_eq_true rfl, Nat.le_of_ble_eq_true rfl⟩ (fun r62 H locs hr62 hP hS => ?_)
                    subst hr62
                    refine lv_if_eq (tgt := 75) hx hb dX1_next_65 (by decide) (fun c65_2 => ?_) (fun c65_2 => ?_)
                    · refine lv_iconst (v := 3) hx hb dX1_next_75 (by decide) ?_
                      refine lv_iconst (v := 2) hx hb dX1_next_76 (by decide) ?_
                      refine lv_iload hx hb dX1_next_77 (lv_at hl 2 rfl) ?_
                      refine lv_imul hx hb dX1_next_79 ?_
                      refine lv_isub hx hb dX1_next_80 ?_
                      rw [show (3 - (2 * 1)) = nI 1 from by decide]
                      refine lv_istore (lv' := [(8, .int (nI 1)), (7, .int (nI y0)), (6, .int (nI x0 - 1)), (5, .int 1), (4, .int (nI (eO w h x0 y0 (ldB f tw x0 y0 3)))), (3, .int (nI y0)), (2, .int (nI x0)), (0, .ref (o 0)), (1, .int (nI e0))]) hx hb dX1_next_81 hl (by decide) rfl (fun ls hl => ?_)
                      refine lv_aload_n hx hb dX1_next_83 rfl (lv_at hl 7 rfl) ?_
                      refine lv_iload hx hb dX1_next_84 (lv_at hl 2 rfl) ?_
                      refine lv_iload hx hb dX1_next_86 (lv_at hl 1 rfl) ?_
                      refine ro_V2 ⟨hx, hb, hml, hown, hts⟩ (c_X1_isCell l D o cI cZ th tw ch sm od st cl us w h (nI x0 - 1) (nI y0) (by omega) (by omega)) (cwV 2 hts gX1_next_X1_isCell rfl rfl rfl (by decide +kernel) ⟨Nat.le_of_ble_eq_true rfl, Nat.le_of_ble_eq_true rfl⟩) (va_recv hK hP (ci := 1) (q0 := 0) rfl rfl) hP hK hP hS rfl hl.1 (lv_room (Nat.le_of_ble_eq_true rfl)) dX1_next_88 ⟨Nat.le_of_ble_eq_true rfl, Nat.le_of_ble_eq_true rfl⟩ (fun r88 H locs hr88 hP hS => ?_)
                      subst hr88
                      rw [show (bI (decide (0 ≤ (nI x0 - 1)) && decide ((nI x0 - 1) < nI (w - 1)) && decide (0 ≤ (nI y0)) && decide ((nI y0) < nI (h - 1)))) = bI (clX w h x0 y0) from by rw [cl_X gw gw2 gh gh2 (by omega) (by omega)]]
                      refine lv_if_eq (tgt := 119) hx hb dX1_next_91 (by decide) (fun c91_2 => ?_) (fun c91_2 => ?_)
                      · refine lv_iinc (v := 2) (lv' := [(5, .int 2), (8, .int (nI 1)), (7, .int (nI y0)), (6, .int (nI x0 - 1)), (4, .int (nI (eO w h x0 y0 (ldB f tw x0 y0 3)))), (3, .int (nI y0)), (2, .int (nI x0)), (0, .ref (o 0)), (1, .int (nI e0))]) hx hb dX1_next_119 hl (k := 3) rfl (by decide) (by decide) rfl (fun ls hl => ?_)
                        refine lv_goto (tgt := 18) hx hb dX1_next_122 (by decide) ?_
                        refine lv_iload hx hb dX1_next_18 (lv_at hl 0 rfl) ?_
                        refine lv_iconst (v := 2) hx hb dX1_next_20 (by decide) ?_
                        refine lv_icmp_ge (tgt := 125) hx hb dX1_next_21 (by decide) (fun c21_3 => ?_) (fun c21_3 => ?_)
                        · refine lv_iload hx hb dX1_next_125 (lv_at hl 4 rfl) ?_
                          exact W.iret (v := (nI (eO w h x0 y0 (ldB f tw x0 y0 3)))) hx hb hr (fun t ht hW => ⟨⟨_, (), rfl, by unfold nxR; rw [if_neg (bd_f c29), ← ex0, ← ey0]; simp [bI_n0.mp c91, bI_0.mp c91_2, bI_n0.mp c104], trivial⟩, hS.F ht⟩) hS.2.2 dX1_next_127
                        · exact absurd c21_3 (by decide)
                      · have hc1 := clX_ok (bI_n0.mp c91_2)
                        rw [nI_m1 hc1.2.1] at hl
                        refine lv_aload_n hx hb dX1_next_94 rfl (lv_at hl 7 rfl) ?_
                        refine lv_iload hx hb dX1_next_95 (lv_at hl 2 rfl) ?_
                        refine lv_iload hx hb dX1_next_97 (lv_at hl 1 rfl) ?_
                        refine lv_iload hx hb dX1_next_99 (lv_at hl 0 rfl) ?_
                        refine ro_V3 ⟨hx, hb, hml, hown, hts⟩ (c_X1_isDown l D o cI cZ th tw ch sm od st cl us w h f (x0 - 1) y0 1 gw2 gh2 gf (by omega) (by omega) (by decide)) (cwV 3 hts gX1_next_X1_isDown rfl rfl rfl (by decide +kernel) ⟨Nat.le_of_ble_eq_true rfl, Nat.le_of_ble_eq_true rfl⟩) (va_recv hK hP (ci := 1) (q0 := 0) rfl rfl) hP hK hP hS rfl hl.1 (lv_room (Nat.le_of_ble_eq_true rfl)) dX1_next_101 ⟨Nat.le_of_ble_eq_true rfl, Nat.le_of_ble_eq_true rfl⟩ (fun r101 H locs hr101 hP hS => ?_)
                        subst hr101
                        refine lv_if_eq (tgt := 119) hx hb dX1_next_104 (by decide) (fun c104_2 => ?_) (fun c104_2 => ?_)
                        · refine lv_iinc (v := 2) (lv' := [(5, .int 2), (8, .int (nI 1)), (7, .int (nI y0)), (6, .int (nI (x0 - 1))), (4, .int (nI (eO w h x0 y0 (ldB f tw x0 y0 3)))), (3, .int (nI y0)), (2, .int (nI x0)), (0, .ref (o 0)), (1, .int (nI e0))]) hx hb dX1_next_119 hl (k := 3) rfl (by decide) (by decide) rfl (fun ls hl => ?_)
                          refine lv_goto (tgt := 18) hx hb dX1_next_122 (by decide) ?_
                          refine lv_iload hx hb dX1_next_18 (lv_at hl 0 rfl) ?_
                          refine lv_iconst (v := 2) hx hb dX1_next_20 (by decide) ?_
                          refine lv_icmp_ge (tgt := 125) hx hb dX1_next_21 (by decide) (fun c21_3 => ?_) (fun c21_3 => ?_)
                          · refine lv_iload hx hb dX1_next_125 (lv_at hl 4 rfl) ?_
                            exact W.iret (v := (nI (eO w h x0 y0 (ldB f tw x0 y0 3)))) hx hb hr (fun t ht hW => ⟨⟨_, (), rfl, by unfold nxR; rw [if_neg (bd_f c29), ← ex0, ← ey0]; simp [bI_n0.mp c91, bI_n0.mp c91_2, bI_n0.mp c104, bI_0.mp c104_2], trivial⟩, hS.F ht⟩) hS.2.2 dX1_next_127
                          · exact absurd c21_3 (by decide)
                        · refine lv_aload_n hx hb dX1_next_107 rfl (lv_at hl 7 rfl) ?_
                          refine lv_iload hx hb dX1_next_108 (lv_at hl 2 rfl) ?_
                          refine lv_iload hx hb dX1_next_110 (lv_at hl 1 rfl) ?_
                          refine lv_iload hx hb dX1_next_112 (lv_at hl 0 rfl) ?_
                          refine ro_V3 ⟨hx, hb, hml, hown, hts⟩ (c_X1_leads l D o cI cZ th tw ch sm od st cl us w h f (x0 - 1) y0 1 gw2 gh2 gf (by omega) (by omega) (by decide) (bI_n0.mp c104_2)) (cwV 3 hts gX1_next_X1_leads rfl rfl rfl (by decide +kernel) ⟨Nat.le_of_ble_eq_true rfl, Nat.le_of_ble_eq_true rfl⟩) (va_recv hK hP (ci := 1) (q0 := 0) rfl rfl) hP hK hP hS rfl hl.1 (lv_room (Nat.le_of_ble_eq_true rfl)) dX1_next_114 ⟨Nat.le_of_ble_eq_true rfl, Nat.le_of_ble_eq_true rfl⟩ (fun r114 H locs hr114 hP hS => ?_)
                          subst hr114
                          refine lv_istore (lv' := [(4, .int (nI (eO w h (x0 - 1) y0 (ldB f tw (x0 - 1) y0 1)))), (8, .int (nI 1)), (7, .int (nI y0)), (6, .int (nI (x0 - 1))), (5, .int 1), (3, .int (nI y0)), (2, .int (nI x0)), (0, .ref (o 0)), (1, .int (nI e0))]) hx hb dX1_next_117 hl (by decide) rfl (fun ls hl => ?_)
                          refine lv_iinc (v := 2) (lv' := [(5, .int 2), (4, .int (nI (eO w h (x0 - 1) y0 (ldB f tw (x0 - 1) y0 1)))), (8, .int (nI 1)), (7, .int (nI y0)), (6, .int (nI (x0 - 1))), (3, .int (nI y0)), (2, .int (nI x0)), (0, .ref (o 0)), (1, .int (nI e0))]) hx hb dX1_next_119 hl (k := 4) rfl (by decide) (by decide) rfl (fun ls hl => ?_)
                          refine lv_goto (tgt := 18) hx hb dX1_next_122 (by decide) ?_
                          refine lv_iload hx hb dX1_next_18 (lv_at hl 0 rfl) ?_
                          refine lv_iconst (v := 2) hx hb dX1_next_20 (by decide) ?_
                          refine lv_icmp_ge (tgt := 125) hx hb dX1_next_21 (by decide) (fun c21_3 => ?_) (fun c21_3 => ?_)
                          · refine lv_iload hx hb dX1_next_125 (lv_at hl 1 rfl) ?_
                            exact W.iret (v := (nI (eO w h (x0 - 1) y0 (ldB f tw (x0 - 1) y0 1)))) hx hb hr (fun t ht hW => ⟨⟨_, (), rfl, by unfold nxR; rw [if_neg (bd_f c29), ← ex0, ← ey0]; simp [bI_n0.mp c91, bI_n0.mp c91_2, bI_n0.mp c104, bI_n0.mp c104_2], trivial⟩, hS.F ht⟩) hS.2.2 dX1_next_127
                          · exact absurd c21_3 (by decide)
                    · exact absurd c29 c65_2
                  · exact absurd c29 c47_2
                · exact absurd c29 c29_2
        · exact absurd c29 c65
      · exact absurd c29 c47
    · refine lv_iload_n hx hb dX1_next_32 rfl (lv_at hl 3 rfl) ?_
      refine lv_goto (tgt := 40) hx hb dX1_next_33 (by decide) ?_
      refine lv_istore (lv' := [(6, .int (nI x0)), (5, .int 0), (4, .int (-1)), (3, .int (nI y0)), (2, .int (nI x0)), (0, .ref (o 0)), (1, .int (nI e0))]) hx hb dX1_next_40 hl (by decide) rfl (fun ls hl => ?_)
      refine lv_aload_n hx hb dX1_next_42 rfl (lv_at hl 5 rfl) ?_
      refine lv_iload_n hx hb dX1_next_43 rfl (lv_at hl 6 rfl) ?_
      refine ro_V1 ⟨hx, hb, hml, hown, hts⟩ (c_X1_isAcross l D o cI cZ th tw ch sm od st cl us w h e0 gw gw2 gh2 (by have := nE_le gw2 gh2; omega)) (cwV 1 hts gX1_next_X1_isAcross rfl rfl rfl (by decide +kernel) ⟨Nat.le_of_ble_eq_true rfl, Nat.le_of_ble_eq_true rfl⟩) (va_recv hK hP (ci := 1) (q0 := 0) rfl rfl) hP hK hP hS rfl hl.1 (lv_room (Nat.le_of_ble_eq_true rfl)) dX1_next_44 ⟨Nat.le_of_ble_eq_true rfl, Nat.le_of_ble_eq_true rfl⟩ (fun r44 H locs hr44 hP hS => ?_)
      subst hr44
      refine lv_if_eq (tgt := 57) hx hb dX1_next_47 (by decide) (fun c47 => ?_) (fun c47 => ?_)
      · exact absurd c47 c29
      · refine lv_iload_n hx hb dX1_next_50 rfl (lv_at hl 3 rfl) ?_
        refine lv_iload hx hb dX1_next_51 (lv_at hl 1 rfl) ?_
        refine lv_isub hx hb dX1_next_53 ?_
        rw [show ((nI y0) - 0) = nI y0 from by simp]
        refine lv_goto (tgt := 58) hx hb dX1_next_54 (by decide) ?_
        refine lv_istore (lv' := [(7, .int (nI y0)), (6, .int (nI x0)), (5, .int 0), (4, .int (-1)), (3, .int (nI y0)), (2, .int (nI x0)), (0, .ref (o 0)), (1, .int (nI e0))]) hx hb dX1_next_58 hl (by decide) rfl (fun ls hl => ?_)
        refine lv_aload_n hx hb dX1_next_60 rfl (lv_at hl 6 rfl) ?_
        refine lv_iload_n hx hb dX1_next_61 rfl (lv_at hl 7 rfl) ?_
        refine ro_V1 ⟨hx, hb, hml, hown, hts⟩ (c_X1_isAcross l D o cI cZ th tw ch sm od st cl us w h e0 gw gw2 gh2 (by have := nE_le gw2 gh2; omega)) (cwV 1 hts gX1_next_X1_isAcross rfl rfl rfl (by decide +kernel) ⟨Nat.le_of_ble_eq_true rfl, Nat.le_of_ble_eq_true rfl⟩) (va_recv hK hP (ci := 1) (q0 := 0) rfl rfl) hP hK hP hS rfl hl.1 (lv_room (Nat.le_of_ble_eq_true rfl)) dX1_next_62 ⟨Nat.le_of_ble_eq_true rfl, Nat.le_of_ble_eq_true rfl⟩ (fun r62 H locs hr62 hP hS => ?_)
        subst hr62
        refine lv_if_eq (tgt := 75) hx hb dX1_next_65 (by decide) (fun c65 => ?_) (fun c65 => ?_)
        · exact absurd c65 c29
        · refine lv_iconst (v := 2) hx hb dX1_next_68 (by decide) ?_
          refine lv_iload hx hb dX1_next_69 (lv_at hl 2 rfl) ?_
          refine lv_imul hx hb dX1_next_71 ?_
          rw [show (2 * 0) = nI 0 from by decide]
          refine lv_goto (tgt := 81) hx hb dX1_next_72 (by decide) ?_
          refine lv_istore (lv' := [(8, .int (nI 0)), (7, .int (nI y0)), (6, .int (nI x0)), (5, .int 0), (4, .int (-1)), (3, .int (nI y0)), (2, .int (nI x0)), (0, .ref (o 0)), (1, .int (nI e0))]) hx hb dX1_next_81 hl (by decide) rfl (fun ls hl => ?_)
          refine lv_aload_n hx hb dX1_next_83 rfl (lv_at hl 7 rfl) ?_
          refine lv_iload hx hb dX1_next_84 (lv_at hl 2 rfl) ?_
          refine lv_iload hx hb dX1_next_86 (lv_at hl 1 rfl) ?_
          refine ro_V2 ⟨hx, hb, hml, hown, hts⟩ (c_X1_isCell l D o cI cZ th tw ch sm od st cl us w h (nI x0) (nI y0) (by omega) (by omega)) (cwV 2 hts gX1_next_X1_isCell rfl rfl rfl (by decide +kernel) ⟨Nat.le_of_ble_eq_true rfl, Nat.le_of_ble_eq_true rfl⟩) (va_recv hK hP (ci := 1) (q0 := 0) rfl rfl) hP hK hP hS rfl hl.1 (lv_room (Nat.le_of_ble_eq_true rfl)) dX1_next_88 ⟨Nat.le_of_ble_eq_true rfl, Nat.le_of_ble_eq_true rfl⟩ (fun r88 H locs hr88 hP hS => ?_)
          subst hr88
          rw [show (bI (decide (0 ≤ (nI x0)) && decide ((nI x0) < nI (w - 1)) && decide (0 ≤ (nI y0)) && decide ((nI y0) < nI (h - 1)))) = bI (cl0 w h x0 y0) from by rw [cl_0 gw gw2 gh gh2 (by omega) (by omega)]]
          refine lv_if_eq (tgt := 119) hx hb dX1_next_91 (by decide) (fun c91 => ?_) (fun c91 => ?_)
          · refine lv_iinc (v := 1) (lv' := [(5, .int 1), (8, .int (nI 0)), (7, .int (nI y0)), (6, .int (nI x0)), (4, .int (-1)), (3, .int (nI y0)), (2, .int (nI x0)), (0, .ref (o 0)), (1, .int (nI e0))]) hx hb dX1_next_119 hl (k := 3) rfl (by decide) (by decide) rfl (fun ls hl => ?_)
            refine lv_goto (tgt := 18) hx hb dX1_next_122 (by decide) ?_
            refine lv_iload hx hb dX1_next_18 (lv_at hl 0 rfl) ?_
            refine lv_iconst (v := 2) hx hb dX1_next_20 (by decide) ?_
            refine lv_icmp_ge (tgt := 125) hx hb dX1_next_21 (by decide) (fun c21_2 => ?_) (fun c21_2 => ?_)
            · exact absurd c21_2 (by decide)
            · refine lv_aload_n hx hb dX1_next_24 rfl (lv_at hl 7 rfl) ?_
              refine lv_iload_n hx hb dX1_next_25 rfl (lv_at hl 8 rfl) ?_
              refine ro_V1 ⟨hx, hb, hml, hown, hts⟩ (c_X1_isAcross l D o cI cZ th tw ch sm od st cl us w h e0 gw gw2 gh2 (by have := nE_le gw2 gh2; omega)) (cwV 1 hts gX1_next_X1_isAcross rfl rfl rfl (by decide +kernel) ⟨Nat.le_of_ble_eq_true rfl, Nat.le_of_ble_eq_true rfl⟩) (va_recv hK hP (ci := 1) (q0 := 0) rfl rfl) hP hK hP hS rfl hl.1 (lv_room (Nat.le_of_ble_eq_true rfl)) dX1_next_26 ⟨Nat.le_of_ble_eq_true rfl, Nat.le_of_ble_eq_true rfl⟩ (fun r26 H locs hr26 hP hS => ?_)
              subst hr26
              refine lv_if_eq (tgt := 36) hx hb dX1_next_29 (by decide) (fun c29_2 => ?_) (fun c29_2 => ?_)
              · exact absurd c29_2 c29
              · refine lv_iload_n hx hb dX1_next_32 rfl (lv_at hl 6 rfl) ?_
                refine lv_goto (tgt := 40) hx hb dX1_next_33 (by decide) ?_
                refine lv_istore (lv' := [(6, .int (nI x0)), (5, .int 1), (8, .int (nI 0)), (7, .int (nI y0)), (4, .int (-1)), (3, .int (nI y0)), (2, .int (nI x0)), (0, .ref (o 0)), (1, .int (nI e0))]) hx hb dX1_next_40 hl (by decide) rfl (fun ls hl => ?_)
                refine lv_aload_n hx hb dX1_next_42 rfl (lv_at hl 7 rfl) ?_
                refine lv_iload_n hx hb dX1_next_43 rfl (lv_at hl 8 rfl) ?_
                refine ro_V1 ⟨hx, hb, hml, hown, hts⟩ (c_X1_isAcross l D o cI cZ th tw ch sm od st cl us w h e0 gw gw2 gh2 (by have := nE_le gw2 gh2; omega)) (cwV 1 hts gX1_next_X1_isAcross rfl rfl rfl (by decide +kernel) ⟨Nat.le_of_ble_eq_true rfl, Nat.le_of_ble_eq_true rfl⟩) (va_recv hK hP (ci := 1) (q0 := 0) rfl rfl) hP hK hP hS rfl hl.1 (lv_room (Nat.le_of_ble_eq_true rfl)) dX1_next_44 ⟨Nat.le_of_ble_eq_true rfl, Nat.le_of_ble_eq_true rfl⟩ (fun r44 H locs hr44 hP hS => ?_)
                subst hr44
                refine lv_if_eq (tgt := 57) hx hb dX1_next_47 (by decide) (fun c47_2 => ?_) (fun c47_2 => ?_)
                · exact absurd c47_2 c29
                · refine lv_iload_n hx hb dX1_next_50 rfl (lv_at hl 5 rfl) ?_
                  refine lv_iload hx hb dX1_next_51 (lv_at hl 1 rfl) ?_
                  refine lv_isub hx hb dX1_next_53 ?_
                  rw [show ((nI y0) - 1) = (nI y0 - 1) from rfl]
                  refine lv_goto (tgt := 58) hx hb dX1_next_54 (by decide) ?_
                  refine lv_istore (lv' := [(7, .int (nI y0 - 1)), (6, .int (nI x0)), (5, .int 1), (8, .int (nI 0)), (4, .int (-1)), (3, .int (nI y0)), (2, .int (nI x0)), (0, .ref (o 0)), (1, .int (nI e0))]) hx hb dX1_next_58 hl (by decide) rfl (fun ls hl => ?_)
                  refine lv_aload_n hx hb dX1_next_60 rfl (lv_at hl 7 rfl) ?_
                  refine lv_iload_n hx hb dX1_next_61 rfl (lv_at hl 8 rfl) ?_
                  refine ro_V1 ⟨hx, hb, hml, hown, hts⟩ (c_X1_isAcross l D o cI cZ th tw ch sm od st cl us w h e0 gw gw2 gh2 (by have := nE_le gw2 gh2; omega)) (cwV 1 hts gX1_next_X1_isAcross rfl rfl rfl (by decide +kernel) ⟨Nat.le_of_ble_eq_true rfl, Nat.le_of_ble_eq_true rfl⟩) (va_recv hK hP (ci := 1) (q0 := 0) rfl rfl) hP hK hP hS rfl hl.1 (lv_room (Nat.le_of_ble_eq_true rfl)) dX1_next_62 ⟨Nat.le_of_ble_eq_true rfl, Nat.le_of_ble_eq_true rfl⟩ (fun r62 H locs hr62 hP hS => ?_)
                  subst hr62
                  refine lv_if_eq (tgt := 75) hx hb dX1_next_65 (by decide) (fun c65_2 => ?_) (fun c65_2 => ?_)
                  · exact absurd c65_2 c29
                  · refine lv_iconst (v := 2) hx hb dX1_next_68 (by decide) ?_
                    refine lv_iload hx hb dX1_next_69 (lv_at hl 2 rfl) ?_
                    refine lv_imul hx hb dX1_next_71 ?_
                    rw [show (2 * 1) = nI 2 from by decide]
                    refine lv_goto (tgt := 81) hx hb dX1_next_72 (by decide) ?_
                    refine lv_istore (lv' := [(8, .int (nI 2)), (7, .int (nI y0 - 1)), (6, .int (nI x0)), (5, .int 1), (4, .int (-1)), (3, .int (nI y0)), (2, .int (nI x0)), (0, .ref (o 0)), (1, .int (nI e0))]) hx hb dX1_next_81 hl (by decide) rfl (fun ls hl => ?_)
                    refine lv_aload_n hx hb dX1_next_83 rfl (lv_at hl 7 rfl) ?_
                    refine lv_iload hx hb dX1_next_84 (lv_at hl 2 rfl) ?_
                    refine lv_iload hx hb dX1_next_86 (lv_at hl 1 rfl) ?_
                    refine ro_V2 ⟨hx, hb, hml, hown, hts⟩ (c_X1_isCell l D o cI cZ th tw ch sm od st cl us w h (nI x0) (nI y0 - 1) (by omega) (by omega)) (cwV 2 hts gX1_next_X1_isCell rfl rfl rfl (by decide +kernel) ⟨Nat.le_of_ble_eq_true rfl, Nat.le_of_ble_eq_true rfl⟩) (va_recv hK hP (ci := 1) (q0 := 0) rfl rfl) hP hK hP hS rfl hl.1 (lv_room (Nat.le_of_ble_eq_true rfl)) dX1_next_88 ⟨Nat.le_of_ble_eq_true rfl, Nat.le_of_ble_eq_true rfl⟩ (fun r88 H locs hr88 hP hS => ?_)
                    subst hr88
                    rw [show (bI (decide (0 ≤ (nI x0)) && decide ((nI x0) < nI (w - 1)) && decide (0 ≤ (nI y0 - 1)) && decide ((nI y0 - 1) < nI (h - 1)))) = bI (clY w h x0 y0) from by rw [cl_Y gw gw2 gh gh2 (by omega) (by omega)]]
                    refine lv_if_eq (tgt := 119) hx hb dX1_next_91 (by decide) (fun c91_2 => ?_) (fun c91_2 => ?_)
                    · refine lv_iinc (v := 2) (lv' := [(5, .int 2), (8, .int (nI 2)), (7, .int (nI y0 - 1)), (6, .int (nI x0)), (4, .int (-1)), (3, .int (nI y0)), (2, .int (nI x0)), (0, .ref (o 0)), (1, .int (nI e0))]) hx hb dX1_next_119 hl (k := 3) rfl (by decide) (by decide) rfl (fun ls hl => ?_)
                      refine lv_goto (tgt := 18) hx hb dX1_next_122 (by decide) ?_
                      refine lv_iload hx hb dX1_next_18 (lv_at hl 0 rfl) ?_
                      refine lv_iconst (v := 2) hx hb dX1_next_20 (by decide) ?_
                      refine lv_icmp_ge (tgt := 125) hx hb dX1_next_21 (by decide) (fun c21_3 => ?_) (fun c21_3 => ?_)
                      · refine lv_iload hx hb dX1_next_125 (lv_at hl 4 rfl) ?_
                        exact W.iret (v := (-1)) hx hb hr (fun t ht hW => ⟨⟨_, (), rfl, by unfold nxR; rw [if_pos (bd_t c29), ← ex0, ← ey0]; simp [bI_0.mp c91, bI_0.mp c91_2], trivial⟩, hS.F ht⟩) hS.2.2 dX1_next_127
                      · exact absurd c21_3 (by decide)
                    · have hc1 := clY_ok (bI_n0.mp c91_2)
                      rw [nI_m1 hc1.2.1] at hl
                      refine lv_aload_n hx hb dX1_next_94 rfl (lv_at hl 7 rfl) ?_
                      refine lv_iload hx hb dX1_next_95 (lv_at hl 2 rfl) ?_
                      refine lv_iload hx hb dX1_next_97 (lv_at hl 1 rfl) ?_
                      refine lv_iload hx hb dX1_next_99 (lv_at hl 0 rfl) ?_
                      refine ro_V3 ⟨hx, hb, hml, hown, hts⟩ (c_X1_isDown l D o cI cZ th tw ch sm od st cl us w h f x0 (y0 - 1) 2 gw2 gh2 gf (by omega) (by omega) (by decide)) (cwV 3 hts gX1_next_X1_isDown rfl rfl rfl (by decide +kernel) ⟨Nat.le_of_ble_eq_true rfl, Nat.le_of_ble_eq_true rfl⟩) (va_recv hK hP (ci := 1) (q0 := 0) rfl rfl) hP hK hP hS rfl hl.1 (lv_room (Nat.le_of_ble_eq_true rfl)) dX1_next_101 ⟨Nat.le_of_ble_eq_true rfl, Nat.le_of_ble_eq_true rfl⟩ (fun r101 H locs hr101 hP hS => ?_)
                      subst hr101
                      refine lv_if_eq (tgt := 119) hx hb dX1_next_104 (by decide) (fun c104 => ?_) (fun c104 => ?_)
                      · refine lv_iinc (v := 2) (lv' := [(5, .int 2), (8, .int (nI 2)), (7, .int (nI (y0 - 1))), (6, .int (nI x0)), (4, .int (-1)), (3, .int (nI y0)), (2, .int (nI x0)), (0, .ref (o 0)), (1, .int (nI e0))]) hx hb dX1_next_119 hl (k := 3) rfl (by decide) (by decide) rfl (fun ls hl => ?_)
                        refine lv_goto (tgt := 18) hx hb dX1_next_122 (by decide) ?_
                        refine lv_iload hx hb dX1_next_18 (lv_at hl 0 rfl) ?_
                        refine lv_iconst (v := 2) hx hb dX1_next_20 (by decide) ?_
                        refine lv_icmp_ge (tgt := 125) hx hb dX1_next_21 (by decide) (fun c21_3 => ?_) (fun c21_3 => ?_)
                        · refine lv_iload hx hb dX1_next_125 (lv_at hl 4 rfl) ?_
                          exact W.iret (v := (-1)) hx hb hr (fun t ht hW => ⟨⟨_, (), rfl, by unfold nxR; rw [if_pos (bd_t c29), ← ex0, ← ey0]; simp [bI_0.mp c91, bI_n0.mp c91_2, bI_0.mp c104], trivial⟩, hS.F ht⟩) hS.2.2 dX1_next_127
                        · exact absurd c21_3 (by decide)
                      · refine lv_aload_n hx hb dX1_next_107 rfl (lv_at hl 7 rfl) ?_
                        refine lv_iload hx hb dX1_next_108 (lv_at hl 2 rfl) ?_
                        refine lv_iload hx hb dX1_next_110 (lv_at hl 1 rfl) ?_
                        refine lv_iload hx hb dX1_next_112 (lv_at hl 0 rfl) ?_
                        refine ro_V3 ⟨hx, hb, hml, hown, hts⟩ (c_X1_leads l D o cI cZ th tw ch sm od st cl us w h f x0 (y0 - 1) 2 gw2 gh2 gf (by omega) (by omega) (by decide) (bI_n0.mp c104)) (cwV 3 hts gX1_next_X1_leads rfl rfl rfl (by decide +kernel) ⟨Nat.le_of_ble_eq_true rfl, Nat.le_of_ble_eq_true rfl⟩) (va_recv hK hP (ci := 1) (q0 := 0) rfl rfl) hP hK hP hS rfl hl.1 (lv_room (Nat.le_of_ble_eq_true rfl)) dX1_next_114 ⟨Nat.le_of_ble_eq_true rfl, Nat.le_of_ble_eq_true rfl⟩ (fun r114 H locs hr114 hP hS => ?_)
                        subst hr114
                        refine lv_istore (lv' := [(4, .int (nI (eO w h x0 (y0 - 1) (ldB f tw x0 (y0 - 1) 2)))), (8, .int (nI 2)), (7, .int (nI (y0 - 1))), (6, .int (nI x0)), (5, .int 1), (3, .int (nI y0)), (2, .int (nI x0)), (0, .ref (o 0)), (1, .int (nI e0))]) hx hb dX1_next_117 hl (by decide) rfl (fun ls hl => ?_)
                        refine lv_iinc (v := 2) (lv' := [(5, .int 2), (4, .int (nI (eO w h x0 (y0 - 1) (ldB f tw x0 (y0 - 1) 2)))), (8, .int (nI 2)), (7, .int (nI (y0 - 1))), (6, .int (nI x0)), (3, .int (nI y0)), (2, .int (nI x0)), (0, .ref (o 0)), (1, .int (nI e0))]) hx hb dX1_next_119 hl (k := 4) rfl (by decide) (by decide) rfl (fun ls hl => ?_)
                        refine lv_goto (tgt := 18) hx hb dX1_next_122 (by decide) ?_
                        refine lv_iload hx hb dX1_next_18 (lv_at hl 0 rfl) ?_
                        refine lv_iconst (v := 2) hx hb dX1_next_20 (by decide) ?_
                        refine lv_icmp_ge (tgt := 125) hx hb dX1_next_21 (by decide) (fun c21_3 => ?_) (fun c21_3 => ?_)
                        · refine lv_iload hx hb dX1_next_125 (lv_at hl 1 rfl) ?_
                          exact W.iret (v := (nI (eO w h x0 (y0 - 1) (ldB f tw x0 (y0 - 1) 2)))) hx hb hr (fun t ht hW => ⟨⟨_, (), rfl, by unfold nxR; rw [if_pos (bd_t c29), ← ex0, ← ey0]; simp [bI_0.mp c91, bI_n0.mp c91_2, bI_n0.mp c104], trivial⟩, hS.F ht⟩) hS.2.2 dX1_next_127
                        · exact absurd c21_3 (by decide)
          · have hc0 := cl0_ok (bI_n0.mp c91)
            refine lv_aload_n hx hb dX1_next_94 rfl (lv_at hl 7 rfl) ?_
            refine lv_iload hx hb dX1_next_95 (lv_at hl 2 rfl) ?_
            refine lv_iload hx hb dX1_next_97 (lv_at hl 1 rfl) ?_
            refine lv_iload hx hb dX1_next_99 (lv_at hl 0 rfl) ?_
            refine ro_V3 ⟨hx, hb, hml, hown, hts⟩ (c_X1_isDown l D o cI cZ th tw ch sm od st cl us w h f x0 y0 0 gw2 gh2 gf (by omega) (by omega) (by decide)) (cwV 3 hts gX1_next_X1_isDown rfl rfl rfl (by decide +kernel) ⟨Nat.le_of_ble_eq_true rfl, Nat.le_of_ble_eq_true rfl⟩) (va_recv hK hP (ci := 1) (q0 := 0) rfl rfl) hP hK hP hS rfl hl.1 (lv_room (Nat.le_of_ble_eq_true rfl)) dX1_next_101 ⟨Nat.le_of_ble_eq_true rfl, Nat.le_of_ble_eq_true rfl⟩ (fun r101 H locs hr101 hP hS => ?_)
            subst hr101
            refine lv_if_eq (tgt := 119) hx hb dX1_next_104 (by decide) (fun c104 => ?_) (fun c104 => ?_)
            · refine lv_iinc (v := 1) (lv' := [(5, .int 1), (8, .int (nI 0)), (7, .int (nI y0)), (6, .int (nI x0)), (4, .int (-1)), (3, .int (nI y0)), (2, .int (nI x0)), (0, .ref (o 0)), (1, .int (nI e0))]) hx hb dX1_next_119 hl (k := 3) rfl (by decide) (by decide) rfl (fun ls hl => ?_)
              refine lv_goto (tgt := 18) hx hb dX1_next_122 (by decide) ?_
              refine lv_iload hx hb dX1_next_18 (lv_at hl 0 rfl) ?_
              refine lv_iconst (v := 2) hx hb dX1_next_20 (by decide) ?_
              refine lv_icmp_ge (tgt := 125) hx hb dX1_next_21 (by decide) (fun c21_2 => ?_) (fun c21_2 => ?_)
              · exact absurd c21_2 (by decide)
              · refine lv_aload_n hx hb dX1_next_24 rfl (lv_at hl 7 rfl) ?_
                refine lv_iload_n hx hb dX1_next_25 rfl (lv_at hl 8 rfl) ?_
                refine ro_V1 ⟨hx, hb, hml, hown, hts⟩ (c_X1_isAcross l D o cI cZ th tw ch sm od st cl us w h e0 gw gw2 gh2 (by have := nE_le gw2 gh2; omega)) (cwV 1 hts gX1_next_X1_isAcross rfl rfl rfl (by decide +kernel) ⟨Nat.le_of_ble_eq_true rfl, Nat.le_of_ble_eq_true rfl⟩) (va_recv hK hP (ci := 1) (q0 := 0) rfl rfl) hP hK hP hS rfl hl.1 (lv_room (Nat.le_of_ble_eq_true rfl)) dX1_next_26 ⟨Nat.le_of_ble_eq_true rfl, Nat.le_of_ble_eq_true rfl⟩ (fun r26 H locs hr26 hP hS => ?_)
                subst hr26
                refine lv_if_eq (tgt := 36) hx hb dX1_next_29 (by decide) (fun c29_2 => ?_) (fun c29_2 => ?_)
                · exact absurd c29_2 c29
                · refine lv_iload_n hx hb dX1_next_32 rfl (lv_at hl 6 rfl) ?_
                  refine lv_goto (tgt := 40) hx hb dX1_next_33 (by decide) ?_
                  refine lv_istore (lv' := [(6, .int (nI x0)), (5, .int 1), (8, .int (nI 0)), (7, .int (nI y0)), (4, .int (-1)), (3, .int (nI y0)), (2, .int (nI x0)), (0, .ref (o 0)), (1, .int (nI e0))]) hx hb dX1_next_40 hl (by decide) rfl (fun ls hl => ?_)
                  refine lv_aload_n hx hb dX1_next_42 rfl (lv_at hl 7 rfl) ?_
                  refine lv_iload_n hx hb dX1_next_43 rfl (lv_at hl 8 rfl) ?_
                  refine ro_V1 ⟨hx, hb, hml, hown, hts⟩ (c_X1_isAcross l D o cI cZ th tw ch sm od st cl us w h e0 gw gw2 gh2 (by have := nE_le gw2 gh2; omega)) (cwV 1 hts gX1_next_X1_isAcross rfl rfl rfl (by decide +kernel) ⟨Nat.le_of_ble_eq_true rfl, Nat.le_of_ble_eq_true rfl⟩) (va_recv hK hP (ci := 1) (q0 := 0) rfl rfl) hP hK hP hS rfl hl.1 (lv_room (Nat.le_of_ble_eq_true rfl)) dX1_next_44 ⟨Nat.le_of_ble_eq_true rfl, Nat.le_of_ble_eq_true rfl⟩ (fun r44 H locs hr44 hP hS => ?_)
                  subst hr44
                  refine lv_if_eq (tgt := 57) hx hb dX1_next_47 (by decide) (fun c47_2 => ?_) (fun c47_2 => ?_)
                  · exact absurd c47_2 c29
                  · refine lv_iload_n hx hb dX1_next_50 rfl (lv_at hl 5 rfl) ?_
                    refine lv_iload hx hb dX1_next_51 (lv_at hl 1 rfl) ?_
                    refine lv_isub hx hb dX1_next_53 ?_
                    rw [show ((nI y0) - 1) = (nI y0 - 1) from rfl]
                    refine lv_goto (tgt := 58) hx hb dX1_next_54 (by decide) ?_
                    refine lv_istore (lv' := [(7, .int (nI y0 - 1)), (6, .int (nI x0)), (5, .int 1), (8, .int (nI 0)), (4, .int (-1)), (3, .int (nI y0)), (2, .int (nI x0)), (0, .ref (o 0)), (1, .int (nI e0))]) hx hb dX1_next_58 hl (by decide) rfl (fun ls hl => ?_)
                    refine lv_aload_n hx hb dX1_next_60 rfl (lv_at hl 7 rfl) ?_
                    refine lv_iload_n hx hb dX1_next_61 rfl (lv_at hl 8 rfl) ?_
                    refine ro_V1 ⟨hx, hb, hml, hown, hts⟩ (c_X1_isAcross l D o cI cZ th tw ch sm od st cl us w h e0 gw gw2 gh2 (by have := nE_le gw2 gh2; omega)) (cwV 1 hts gX1_next_X1_isAcross rfl rfl rfl (by decide +kernel) ⟨Nat.le_of_ble_eq_true rfl, Nat.le_of_ble_eq_true rfl⟩) (va_recv hK hP (ci := 1) (q0 := 0) rfl rfl) hP hK hP hS rfl hl.1 (lv_room (Nat.le_of_ble_eq_true rfl)) dX1_next_62 ⟨Nat.le_of_ble_eq_true rfl, Nat.le_of_ble_eq_true rfl⟩ (fun r62 H locs hr62 hP hS => ?_)
                    subst hr62
                    refine lv_if_eq (tgt := 75) hx hb dX1_next_65 (by decide) (fun c65_2 => ?_) (fun c65_2 => ?_)
                    · exact absurd c65_2 c29
                    · refine lv_iconst (v := 2) hx hb dX1_next_68 (by decide) ?_
                      refine lv_iload hx hb dX1_next_69 (lv_at hl 2 rfl) ?_
                      refine lv_imul hx hb dX1_next_71 ?_
                      rw [show (2 * 1) = nI 2 from by decide]
                      refine lv_goto (tgt := 81) hx hb dX1_next_72 (by decide) ?_
                      refine lv_istore (lv' := [(8, .int (nI 2)), (7, .int (nI y0 - 1)), (6, .int (nI x0)), (5, .int 1), (4, .int (-1)), (3, .int (nI y0)), (2, .int (nI x0)), (0, .ref (o 0)), (1, .int (nI e0))]) hx hb dX1_next_81 hl (by decide) rfl (fun ls hl => ?_)
                      refine lv_aload_n hx hb dX1_next_83 rfl (lv_at hl 7 rfl) ?_
                      refine lv_iload hx hb dX1_next_84 (lv_at hl 2 rfl) ?_
                      refine lv_iload hx hb dX1_next_86 (lv_at hl 1 rfl) ?_
                      refine ro_V2 ⟨hx, hb, hml, hown, hts⟩ (c_X1_isCell l D o cI cZ th tw ch sm od st cl us w h (nI x0) (nI y0 - 1) (by omega) (by omega)) (cwV 2 hts gX1_next_X1_isCell rfl rfl rfl (by decide +kernel) ⟨Nat.le_of_ble_eq_true rfl, Nat.le_of_ble_eq_true rfl⟩) (va_recv hK hP (ci := 1) (q0 := 0) rfl rfl) hP hK hP hS rfl hl.1 (lv_room (Nat.le_of_ble_eq_true rfl)) dX1_next_88 ⟨Nat.le_of_ble_eq_true rfl, Nat.le_of_ble_eq_true rfl⟩ (fun r88 H locs hr88 hP hS => ?_)
                      subst hr88
                      rw [show (bI (decide (0 ≤ (nI x0)) && decide ((nI x0) < nI (w - 1)) && decide (0 ≤ (nI y0 - 1)) && decide ((nI y0 - 1) < nI (h - 1)))) = bI (clY w h x0 y0) from by rw [cl_Y gw gw2 gh gh2 (by omega) (by omega)]]
                      refine lv_if_eq (tgt := 119) hx hb dX1_next_91 (by decide) (fun c91_2 => ?_) (fun c91_2 => ?_)
                      · refine lv_iinc (v := 2) (lv' := [(5, .int 2), (8, .int (nI 2)), (7, .int (nI y0 - 1)), (6, .int (nI x0)), (4, .int (-1)), (3, .int (nI y0)), (2, .int (nI x0)), (0, .ref (o 0)), (1, .int (nI e0))]) hx hb dX1_next_119 hl (k := 3) rfl (by decide) (by decide) rfl (fun ls hl => ?_)
                        refine lv_goto (tgt := 18) hx hb dX1_next_122 (by decide) ?_
                        refine lv_iload hx hb dX1_next_18 (lv_at hl 0 rfl) ?_
                        refine lv_iconst (v := 2) hx hb dX1_next_20 (by decide) ?_
                        refine lv_icmp_ge (tgt := 125) hx hb dX1_next_21 (by decide) (fun c21_3 => ?_) (fun c21_3 => ?_)
                        · refine lv_iload hx hb dX1_next_125 (lv_at hl 4 rfl) ?_
                          exact W.iret (v := (-1)) hx hb hr (fun t ht hW => ⟨⟨_, (), rfl, by unfold nxR; rw [if_pos (bd_t c29), ← ex0, ← ey0]; simp [bI_n0.mp c91, bI_0.mp c91_2, bI_0.mp c104], trivial⟩, hS.F ht⟩) hS.2.2 dX1_next_127
                        · exact absurd c21_3 (by decide)
                      · have hc1 := clY_ok (bI_n0.mp c91_2)
                        rw [nI_m1 hc1.2.1] at hl
                        refine lv_aload_n hx hb dX1_next_94 rfl (lv_at hl 7 rfl) ?_
                        refine lv_iload hx hb dX1_next_95 (lv_at hl 2 rfl) ?_
                        refine lv_iload hx hb dX1_next_97 (lv_at hl 1 rfl) ?_
                        refine lv_iload hx hb dX1_next_99 (lv_at hl 0 rfl) ?_
                        refine ro_V3 ⟨hx, hb, hml, hown, hts⟩ (c_X1_isDown l D o cI cZ th tw ch sm od st cl us w h f x0 (y0 - 1) 2 gw2 gh2 gf (by omega) (by omega) (by decide)) (cwV 3 hts gX1_next_X1_isDown rfl rfl rfl (by decide +kernel) ⟨Nat.le_of_ble_eq_true rfl, Nat.le_of_ble_eq_true rfl⟩) (va_recv hK hP (ci := 1) (q0 := 0) rfl rfl) hP hK hP hS rfl hl.1 (lv_room (Nat.le_of_ble_eq_true rfl)) dX1_next_101 ⟨Nat.le_of_ble_eq_true rfl, Nat.le_of_ble_eq_true rfl⟩ (fun r101 H locs hr101 hP hS => ?_)
                        subst hr101
                        refine lv_if_eq (tgt := 119) hx hb dX1_next_104 (by decide) (fun c104_2 => ?_) (fun c104_2 => ?_)
                        · refine lv_iinc (v := 2) (lv' := [(5, .int 2), (8, .int (nI 2)), (7, .int (nI (y0 - 1))), (6, .int (nI x0)), (4, .int (-1)), (3, .int (nI y0)), (2, .int (nI x0)), (0, .ref (o 0)), (1, .int (nI e0))]) hx hb dX1_next_119 hl (k := 3) rfl (by decide) (by decide) rfl (fun ls hl => ?_)
                          refine lv_goto (tgt := 18) hx hb dX1_next_122 (by decide) ?_
                          refine lv_iload hx hb dX1_next_18 (lv_at hl 0 rfl) ?_
                          refine lv_iconst (v := 2) hx hb dX1_next_20 (by decide) ?_
                          refine lv_icmp_ge (tgt := 125) hx hb dX1_next_21 (by decide) (fun c21_3 => ?_) (fun c21_3 => ?_)
                          · refine lv_iload hx hb dX1_next_125 (lv_at hl 4 rfl) ?_
                            exact W.iret (v := (-1)) hx hb hr (fun t ht hW => ⟨⟨_, (), rfl, by unfold nxR; rw [if_pos (bd_t c29), ← ex0, ← ey0]; simp [bI_n0.mp c91, bI_n0.mp c91_2, bI_0.mp c104, bI_0.mp c104_2], trivial⟩, hS.F ht⟩) hS.2.2 dX1_next_127
                          · exact absurd c21_3 (by decide)
                        · refine lv_aload_n hx hb dX1_next_107 rfl (lv_at hl 7 rfl) ?_
                          refine lv_iload hx hb dX1_next_108 (lv_at hl 2 rfl) ?_
                          refine lv_iload hx hb dX1_next_110 (lv_at hl 1 rfl) ?_
                          refine lv_iload hx hb dX1_next_112 (lv_at hl 0 rfl) ?_
                          refine ro_V3 ⟨hx, hb, hml, hown, hts⟩ (c_X1_leads l D o cI cZ th tw ch sm od st cl us w h f x0 (y0 - 1) 2 gw2 gh2 gf (by omega) (by omega) (by decide) (bI_n0.mp c104_2)) (cwV 3 hts gX1_next_X1_leads rfl rfl rfl (by decide +kernel) ⟨Nat.le_of_ble_eq_true rfl, Nat.le_of_ble_eq_true rfl⟩) (va_recv hK hP (ci := 1) (q0 := 0) rfl rfl) hP hK hP hS rfl hl.1 (lv_room (Nat.le_of_ble_eq_true rfl)) dX1_next_114 ⟨Nat.le_of_ble_eq_true rfl, Nat.le_of_ble_eq_true rfl⟩ (fun r114 H locs hr114 hP hS => ?_)
                          subst hr114
                          refine lv_istore (lv' := [(4, .int (nI (eO w h x0 (y0 - 1) (ldB f tw x0 (y0 - 1) 2)))), (8, .int (nI 2)), (7, .int (nI (y0 - 1))), (6, .int (nI x0)), (5, .int 1), (3, .int (nI y0)), (2, .int (nI x0)), (0, .ref (o 0)), (1, .int (nI e0))]) hx hb dX1_next_117 hl (by decide) rfl (fun ls hl => ?_)
                          refine lv_iinc (v := 2) (lv' := [(5, .int 2), (4, .int (nI (eO w h x0 (y0 - 1) (ldB f tw x0 (y0 - 1) 2)))), (8, .int (nI 2)), (7, .int (nI (y0 - 1))), (6, .int (nI x0)), (3, .int (nI y0)), (2, .int (nI x0)), (0, .ref (o 0)), (1, .int (nI e0))]) hx hb dX1_next_119 hl (k := 4) rfl (by decide) (by decide) rfl (fun ls hl => ?_)
                          refine lv_goto (tgt := 18) hx hb dX1_next_122 (by decide) ?_
                          refine lv_iload hx hb dX1_next_18 (lv_at hl 0 rfl) ?_
                          refine lv_iconst (v := 2) hx hb dX1_next_20 (by decide) ?_
                          refine lv_icmp_ge (tgt := 125) hx hb dX1_next_21 (by decide) (fun c21_3 => ?_) (fun c21_3 => ?_)
                          · refine lv_iload hx hb dX1_next_125 (lv_at hl 1 rfl) ?_
                            exact W.iret (v := (nI (eO w h x0 (y0 - 1) (ldB f tw x0 (y0 - 1) 2)))) hx hb hr (fun t ht hW => ⟨⟨_, (), rfl, by unfold nxR; rw [if_pos (bd_t c29), ← ex0, ← ey0]; simp [bI_n0.mp c91, bI_n0.mp c91_2, bI_0.mp c104, bI_n0.mp c104_2], trivial⟩, hS.F ht⟩) hS.2.2 dX1_next_127
                          · exact absurd c21_3 (by decide)
            · refine lv_aload_n hx hb dX1_next_107 rfl (lv_at hl 7 rfl) ?_
              refine lv_iload hx hb dX1_next_108 (lv_at hl 2 rfl) ?_
              refine lv_iload hx hb dX1_next_110 (lv_at hl 1 rfl) ?_
              refine lv_iload hx hb dX1_next_112 (lv_at hl 0 rfl) ?_
              refine ro_V3 ⟨hx, hb, hml, hown, hts⟩ (c_X1_leads l D o cI cZ th tw ch sm od st cl us w h f x0 y0 0 gw2 gh2 gf (by omega) (by omega) (by decide) (bI_n0.mp c104)) (cwV 3 hts gX1_next_X1_leads rfl rfl rfl (by decide +kernel) ⟨Nat.le_of_ble_eq_true rfl, Nat.le_of_ble_eq_true rfl⟩) (va_recv hK hP (ci := 1) (q0 := 0) rfl rfl) hP hK hP hS rfl hl.1 (lv_room (Nat.le_of_ble_eq_true rfl)) dX1_next_114 ⟨Nat.le_of_ble_eq_true rfl, Nat.le_of_ble_eq_true rfl⟩ (fun r114 H locs hr114 hP hS => ?_)
              subst hr114
              refine lv_istore (lv' := [(4, .int (nI (eO w h x0 y0 (ldB f tw x0 y0 0)))), (8, .int (nI 0)), (7, .int (nI y0)), (6, .int (nI x0)), (5, .int 0), (3, .int (nI y0)), (2, .int (nI x0)), (0, .ref (o 0)), (1, .int (nI e0))]) hx hb dX1_next_117 hl (by decide) rfl (fun ls hl => ?_)
              refine lv_iinc (v := 1) (lv' := [(5, .int 1), (4, .int (nI (eO w h x0 y0 (ldB f tw x0 y0 0)))), (8, .int (nI 0)), (7, .int (nI y0)), (6, .int (nI x0)), (3, .int (nI y0)), (2, .int (nI x0)), (0, .ref (o 0)), (1, .int (nI e0))]) hx hb dX1_next_119 hl (k := 4) rfl (by decide) (by decide) rfl (fun ls hl => ?_)
              refine lv_goto (tgt := 18) hx hb dX1_next_122 (by decide) ?_
              refine lv_iload hx hb dX1_next_18 (lv_at hl 0 rfl) ?_
              refine lv_iconst (v := 2) hx hb dX1_next_20 (by decide) ?_
              refine lv_icmp_ge (tgt := 125) hx hb dX1_next_21 (by decide) (fun c21_2 => ?_) (fun c21_2 => ?_)
              · exact absurd c21_2 (by decide)
              · refine lv_aload_n hx hb dX1_next_24 rfl (lv_at hl 7 rfl) ?_
                refine lv_iload_n hx hb dX1_next_25 rfl (lv_at hl 8 rfl) ?_
                refine ro_V1 ⟨hx, hb, hml, hown, hts⟩ (c_X1_isAcross l D o cI cZ th tw ch sm od st cl us w h e0 gw gw2 gh2 (by have := nE_le gw2 gh2; omega)) (cwV 1 hts gX1_next_X1_isAcross rfl rfl rfl (by decide +kernel) ⟨Nat.le_of_ble_eq_true rfl, Nat.le_of_ble_eq_true rfl⟩) (va_recv hK hP (ci := 1) (q0 := 0) rfl rfl) hP hK hP hS rfl hl.1 (lv_room (Nat.le_of_ble_eq_true rfl)) dX1_next_26 ⟨Nat.le_of_ble_eq_true rfl, Nat.le_of_ble_eq_true rfl⟩ (fun r26 H locs hr26 hP hS => ?_)
                subst hr26
                refine lv_if_eq (tgt := 36) hx hb dX1_next_29 (by decide) (fun c29_2 => ?_) (fun c29_2 => ?_)
                · exact absurd c29_2 c29
                · refine lv_iload_n hx hb dX1_next_32 rfl (lv_at hl 6 rfl) ?_
                  refine lv_goto (tgt := 40) hx hb dX1_next_33 (by decide) ?_
                  refine lv_istore (lv' := [(6, .int (nI x0)), (5, .int 1), (4, .int (nI (eO w h x0 y0 (ldB f tw x0 y0 0)))), (8, .int (nI 0)), (7, .int (nI y0)), (3, .int (nI y0)), (2, .int (nI x0)), (0, .ref (o 0)), (1, .int (nI e0))]) hx hb dX1_next_40 hl (by decide) rfl (fun ls hl => ?_)
                  refine lv_aload_n hx hb dX1_next_42 rfl (lv_at hl 7 rfl) ?_
                  refine lv_iload_n hx hb dX1_next_43 rfl (lv_at hl 8 rfl) ?_
                  refine ro_V1 ⟨hx, hb, hml, hown, hts⟩ (c_X1_isAcross l D o cI cZ th tw ch sm od st cl us w h e0 gw gw2 gh2 (by have := nE_le gw2 gh2; omega)) (cwV 1 hts gX1_next_X1_isAcross rfl rfl rfl (by decide +kernel) ⟨Nat.le_of_ble_eq_true rfl, Nat.le_of_ble_eq_true rfl⟩) (va_recv hK hP (ci := 1) (q0 := 0) rfl rfl) hP hK hP hS rfl hl.1 (lv_room (Nat.le_of_ble_eq_true rfl)) dX1_next_44 ⟨Nat.le_of_ble_eq_true rfl, Nat.le_of_ble_eq_true rfl⟩ (fun r44 H locs hr44 hP hS => ?_)
                  subst hr44
                  refine lv_if_eq (tgt := 57) hx hb dX1_next_47 (by decide) (fun c47_2 => ?_) (fun c47_2 => ?_)
                  · exact absurd c47_2 c29
                  · refine lv_iload_n hx hb dX1_next_50 rfl (lv_at hl 5 rfl) ?_
                    refine lv_iload hx hb dX1_next_51 (lv_at hl 1 rfl) ?_
                    refine lv_isub hx hb dX1_next_53 ?_
                    rw [show ((nI y0) - 1) = (nI y0 - 1) from rfl]
                    refine lv_goto (tgt := 58) hx hb dX1_next_54 (by decide) ?_
                    refine lv_istore (lv' := [(7, .int (nI y0 - 1)), (6, .int (nI x0)), (5, .int 1), (4, .int (nI (eO w h x0 y0 (ldB f tw x0 y0 0)))), (8, .int (nI 0)), (3, .int (nI y0)), (2, .int (nI x0)), (0, .ref (o 0)), (1, .int (nI e0))]) hx hb dX1_next_58 hl (by decide) rfl (fun ls hl => ?_)
                    refine lv_aload_n hx hb dX1_next_60 rfl (lv_at hl 7 rfl) ?_
                    refine lv_iload_n hx hb dX1_next_61 rfl (lv_at hl 8 rfl) ?_
                    refine ro_V1 ⟨hx, hb, hml, hown, hts⟩ (c_X1_isAcross l D o cI cZ th tw ch sm od st cl us w h e0 gw gw2 gh2 (by have := nE_le gw2 gh2; omega)) (cwV 1 hts gX1_next_X1_isAcross rfl rfl rfl (by decide +kernel) ⟨Nat.le_of_ble_eq_true rfl, Nat.le_of_ble_eq_true rfl⟩) (va_recv hK hP (ci := 1) (q0 := 0) rfl rfl) hP hK hP hS rfl hl.1 (lv_room (Nat.le_of_ble_eq_true rfl)) dX1_next_62 ⟨Nat.le_of_ble_eq_true rfl, Nat.le_of_ble_eq_true rfl⟩ (fun r62 H locs hr62 hP hS => ?_)
                    subst hr62
                    refine lv_if_eq (tgt := 75) hx hb dX1_next_65 (by decide) (fun c65_2 => ?_) (fun c65_2 => ?_)
                    · exact absurd c65_2 c29
                    · refine lv_iconst (v := 2) hx hb dX1_next_68 (by decide) ?_
                      refine lv_iload hx hb dX1_next_69 (lv_at hl 2 rfl) ?_
                      refine lv_imul hx hb dX1_next_71 ?_
                      rw [show (2 * 1) = nI 2 from by decide]
                      refine lv_goto (tgt := 81) hx hb dX1_next_72 (by decide) ?_
                      refine lv_istore (lv' := [(8, .int (nI 2)), (7, .int (nI y0 - 1)), (6, .int (nI x0)), (5, .int 1), (4, .int (nI (eO w h x0 y0 (ldB f tw x0 y0 0)))), (3, .int (nI y0)), (2, .int (nI x0)), (0, .ref (o 0)), (1, .int (nI e0))]) hx hb dX1_next_81 hl (by decide) rfl (fun ls hl => ?_)
                      refine lv_aload_n hx hb dX1_next_83 rfl (lv_at hl 7 rfl) ?_
                      refine lv_iload hx hb dX1_next_84 (lv_at hl 2 rfl) ?_
                      refine lv_iload hx hb dX1_next_86 (lv_at hl 1 rfl) ?_
                      refine ro_V2 ⟨hx, hb, hml, hown, hts⟩ (c_X1_isCell l D o cI cZ th tw ch sm od st cl us w h (nI x0) (nI y0 - 1) (by omega) (by omega)) (cwV 2 hts gX1_next_X1_isCell rfl rfl rfl (by decide +kernel) ⟨Nat.le_of_ble_eq_true rfl, Nat.le_of_ble_eq_true rfl⟩) (va_recv hK hP (ci := 1) (q0 := 0) rfl rfl) hP hK hP hS rfl hl.1 (lv_room (Nat.le_of_ble_eq_true rfl)) dX1_next_88 ⟨Nat.le_of_ble_eq_true rfl, Nat.le_of_ble_eq_true rfl⟩ (fun r88 H locs hr88 hP hS => ?_)
                      subst hr88
                      rw [show (bI (decide (0 ≤ (nI x0)) && decide ((nI x0) < nI (w - 1)) && decide (0 ≤ (nI y0 - 1)) && decide ((nI y0 - 1) < nI (h - 1)))) = bI (clY w h x0 y0) from by rw [cl_Y gw gw2 gh gh2 (by omega) (by omega)]]
                      refine lv_if_eq (tgt := 119) hx hb dX1_next_91 (by decide) (fun c91_2 => ?_) (fun c91_2 => ?_)
                      · refine lv_iinc (v := 2) (lv' := [(5, .int 2), (8, .int (nI 2)), (7, .int (nI y0 - 1)), (6, .int (nI x0)), (4, .int (nI (eO w h x0 y0 (ldB f tw x0 y0 0)))), (3, .int (nI y0)), (2, .int (nI x0)), (0, .ref (o 0)), (1, .int (nI e0))]) hx hb dX1_next_119 hl (k := 3) rfl (by decide) (by decide) rfl (fun ls hl => ?_)
                        refine lv_goto (tgt := 18) hx hb dX1_next_122 (by decide) ?_
                        refine lv_iload hx hb dX1_next_18 (lv_at hl 0 rfl) ?_
                        refine lv_iconst (v := 2) hx hb dX1_next_20 (by decide) ?_
                        refine lv_icmp_ge (tgt := 125) hx hb dX1_next_21 (by decide) (fun c21_3 => ?_) (fun c21_3 => ?_)
                        · refine lv_iload hx hb dX1_next_125 (lv_at hl 4 rfl) ?_
                          exact W.iret (v := (nI (eO w h x0 y0 (ldB f tw x0 y0 0)))) hx hb hr (fun t ht hW => ⟨⟨_, (), rfl, by unfold nxR; rw [if_pos (bd_t c29), ← ex0, ← ey0]; simp [bI_n0.mp c91, bI_0.mp c91_2, bI_n0.mp c104], trivial⟩, hS.F ht⟩) hS.2.2 dX1_next_127
                        · exact absurd c21_3 (by decide)
                      · have hc1 := clY_ok (bI_n0.mp c91_2)
                        rw [nI_m1 hc1.2.1] at hl
                        refine lv_aload_n hx hb dX1_next_94 rfl (lv_at hl 7 rfl) ?_
                        refine lv_iload hx hb dX1_next_95 (lv_at hl 2 rfl) ?_
                        refine lv_iload hx hb dX1_next_97 (lv_at hl 1 rfl) ?_
                        refine lv_iload hx hb dX1_next_99 (lv_at hl 0 rfl) ?_
                        refine ro_V3 ⟨hx, hb, hml, hown, hts⟩ (c_X1_isDown l D o cI cZ th tw ch sm od st cl us w h f x0 (y0 - 1) 2 gw2 gh2 gf (by omega) (by omega) (by decide)) (cwV 3 hts gX1_next_X1_isDown rfl rfl rfl (by decide +kernel) ⟨Nat.le_of_ble_eq_true rfl, Nat.le_of_ble_eq_true rfl⟩) (va_recv hK hP (ci := 1) (q0 := 0) rfl rfl) hP hK hP hS rfl hl.1 (lv_room (Nat.le_of_ble_eq_true rfl)) dX1_next_101 ⟨Nat.le_of_ble_eq_true rfl, Nat.le_of_ble_eq_true rfl⟩ (fun r101 H locs hr101 hP hS => ?_)
                        subst hr101
                        refine lv_if_eq (tgt := 119) hx hb dX1_next_104 (by decide) (fun c104_2 => ?_) (fun c104_2 => ?_)
                        · refine lv_iinc (v := 2) (lv' := [(5, .int 2), (8, .int (nI 2)), (7, .int (nI (y0 - 1))), (6, .int (nI x0)), (4, .int (nI (eO w h x0 y0 (ldB f tw x0 y0 0)))), (3, .int (nI y0)), (2, .int (nI x0)), (0, .ref (o 0)), (1, .int (nI e0))]) hx hb dX1_next_119 hl (k := 3) rfl (by decide) (by decide) rfl (fun ls hl => ?_)
                          refine lv_goto (tgt := 18) hx hb dX1_next_122 (by decide) ?_
                          refine lv_iload hx hb dX1_next_18 (lv_at hl 0 rfl) ?_
                          refine lv_iconst (v := 2) hx hb dX1_next_20 (by decide) ?_
                          refine lv_icmp_ge (tgt := 125) hx hb dX1_next_21 (by decide) (fun c21_3 => ?_) (fun c21_3 => ?_)
                          · refine lv_iload hx hb dX1_next_125 (lv_at hl 4 rfl) ?_
                            exact W.iret (v := (nI (eO w h x0 y0 (ldB f tw x0 y0 0)))) hx hb hr (fun t ht hW => ⟨⟨_, (), rfl, by unfold nxR; rw [if_pos (bd_t c29), ← ex0, ← ey0]; simp [bI_n0.mp c91, bI_n0.mp c91_2, bI_n0.mp c104, bI_0.mp c104_2], trivial⟩, hS.F ht⟩) hS.2.2 dX1_next_127
                          · exact absurd c21_3 (by decide)
                        · refine lv_aload_n hx hb dX1_next_107 rfl (lv_at hl 7 rfl) ?_
                          refine lv_iload hx hb dX1_next_108 (lv_at hl 2 rfl) ?_
                          refine lv_iload hx hb dX1_next_110 (lv_at hl 1 rfl) ?_
                          refine lv_iload hx hb dX1_next_112 (lv_at hl 0 rfl) ?_
                          refine ro_V3 ⟨hx, hb, hml, hown, hts⟩ (c_X1_leads l D o cI cZ th tw ch sm od st cl us w h f x0 (y0 - 1) 2 gw2 gh2 gf (by omega) (by omega) (by decide) (bI_n0.mp c104_2)) (cwV 3 hts gX1_next_X1_leads rfl rfl rfl (by decide +kernel) ⟨Nat.le_of_ble_eq_true rfl, Nat.le_of_ble_eq_true rfl⟩) (va_recv hK hP (ci := 1) (q0 := 0) rfl rfl) hP hK hP hS rfl hl.1 (lv_room (Nat.le_of_ble_eq_true rfl)) dX1_next_114 ⟨Nat.le_of_ble_eq_true rfl, Nat.le_of_ble_eq_true rfl⟩ (fun r114 H locs hr114 hP hS => ?_)
                          subst hr114
                          refine lv_istore (lv' := [(4, .int (nI (eO w h x0 (y0 - 1) (ldB f tw x0 (y0 - 1) 2)))), (8, .int (nI 2)), (7, .int (nI (y0 - 1))), (6, .int (nI x0)), (5, .int 1), (3, .int (nI y0)), (2, .int (nI x0)), (0, .ref (o 0)), (1, .int (nI e0))]) hx hb dX1_next_117 hl (by decide) rfl (fun ls hl => ?_)
                          refine lv_iinc (v := 2) (lv' := [(5, .int 2), (4, .int (nI (eO w h x0 (y0 - 1) (ldB f tw x0 (y0 - 1) 2)))), (8, .int (nI 2)), (7, .int (nI (y0 - 1))), (6, .int (nI x0)), (3, .int (nI y0)), (2, .int (nI x0)), (0, .ref (o 0)), (1, .int (nI e0))]) hx hb dX1_next_119 hl (k := 4) rfl (by decide) (by decide) rfl (fun ls hl => ?_)
                          refine lv_goto (tgt := 18) hx hb dX1_next_122 (by decide) ?_
                          refine lv_iload hx hb dX1_next_18 (lv_at hl 0 rfl) ?_
                          refine lv_iconst (v := 2) hx hb dX1_next_20 (by decide) ?_
                          refine lv_icmp_ge (tgt := 125) hx hb dX1_next_21 (by decide) (fun c21_3 => ?_) (fun c21_3 => ?_)
                          · refine lv_iload hx hb dX1_next_125 (lv_at hl 1 rfl) ?_
                            exact W.iret (v := (nI (eO w h x0 (y0 - 1) (ldB f tw x0 (y0 - 1) 2)))) hx hb hr (fun t ht hW => ⟨⟨_, (), rfl, by unfold nxR; rw [if_pos (bd_t c29), ← ex0, ← ey0]; simp [bI_n0.mp c91, bI_n0.mp c91_2, bI_n0.mp c104, bI_n0.mp c104_2], trivial⟩, hS.F ht⟩) hS.2.2 dX1_next_127
                          · exact absurd c21_3 (by decide)

set_option maxHeartbeats 4000000 in
set_option maxRecDepth 100000 in
theorem c_X1_isLedTo (l : Launch) (D : va_G) (o : Nat → Nat) (cI cZ : ClassId) (th tw ch : Int32) (sm od st cl us : Nat → Int32) (w : Nat) (h : Nat) (f : Nat → Nat → Int32) (e0 : Nat) (gw : 2 ≤ w) (gw2 : w ≤ 12) (gh : 2 ≤ h) (gh2 : h ≤ 12) (gf : ∀ x y, x < w → y < h → sm (12 * y + x) = f x y) (ge : e0 < nE w h) : roMet l yX1_isLedTo wsX1_isLedTo ({ frames := 3, cells := 0, slots := 0, locals := 68 } : Room) D (W1 o cI cZ th (nI w) (nI h) tw ch sm od st cl us) [(cI, .int), (cZ, .boolean)] [.ref (o 0), .int (nI e0)] (fun r => r = bI (ltR w h f tw e0)) := by
  refine Met.ofW (cc := cX1_isLedTo) (maxL := 9) (ret := (some .boolean)) (by decide) rfl ?_
  intro p e s m args below meth c s₁ B hml hv
  obtain ⟨rfl, hP, hK⟩ := hv
  have hx := B.exec
  have hb := B.bytes
  have hr := B.returns
  have hts := atoms_spec (ws := wsX1_isLedTo) B.pre
  have hown : s.vm.findClass RX1 = some m.cls := findClass_of_methodNamed B.named
  have hlocks := B.notSynchronized
  have hin0 : ∀ w ∈ u_ws RX1 TX1 10, w ∈ wsX1_isLedTo := by decide +kernel
  have hS : va_S (fun _ => False) s.heap s.heap [] := va_S.rf
  have hP : va_P D vwCl (W1 o cI cZ th (nI w) (nI h) tw ch sm od st cl us) s.heap := hP
  have hl := lv_entry ([.ref (o 0), .int (nI e0)]) (n := 9) (Nat.le_of_ble_eq_true rfl)
  rw [lg_entry_eq]
  generalize (lg_sl ([.ref (o 0), .int (nI e0)]) ++ List.replicate (9 - (lg_sl ([.ref (o 0), .int (nI e0)])).length) Slot.unset).toArray = ls at hl ⊢
  have hl : lv_has ls 9 [(0, .ref (o 0)), (1, .int (nI e0))] := hl
  have hxy := xy_1 gw gh ge
  obtain ⟨x0, ex0⟩ : ∃ z, z = xE w h e0 := ⟨_, rfl⟩
  obtain ⟨y0, ey0⟩ : ∃ z, z = yE w h e0 := ⟨_, rfl⟩
  rw [← ex0, ← ey0] at hxy
  refine lv_aload_n hx hb dX1_isLedTo_0 rfl (lv_at hl 0 rfl) ?_
  refine lv_iload_n hx hb dX1_isLedTo_1 rfl (lv_at hl 1 rfl) ?_
  refine ro_V1 ⟨hx, hb, hml, hown, hts⟩ (c_X1_xOf l D o cI cZ th tw ch sm od st cl us w h e0 gw gw2 gh2 (by have := nE_le gw2 gh2; omega)) (cwV 1 hts gX1_isLedTo_X1_xOf rfl rfl rfl (by decide +kernel) ⟨Nat.le_of_ble_eq_true rfl, Nat.le_of_ble_eq_true rfl⟩) (va_recv hK hP (ci := 1) (q0 := 0) rfl rfl) hP hK hP hS rfl hl.1 (lv_room (Nat.le_of_ble_eq_true rfl)) dX1_isLedTo_2 ⟨Nat.le_of_ble_eq_true rfl, Nat.le_of_ble_eq_true rfl⟩ (fun r2 H locs hr2 hP hS => ?_)
  subst hr2
  rw [show (nI (xE w h e0)) = nI x0 from by rw [ex0]]
  refine lv_istore_n (lv' := [(2, .int (nI x0)), (0, .ref (o 0)), (1, .int (nI e0))]) hx hb dX1_isLedTo_5 rfl hl (by decide) rfl (fun ls hl => ?_)
  refine lv_aload_n hx hb dX1_isLedTo_6 rfl (lv_at hl 1 rfl) ?_
  refine lv_iload_n hx hb dX1_isLedTo_7 rfl (lv_at hl 2 rfl) ?_
  refine ro_V1 ⟨hx, hb, hml, hown, hts⟩ (c_X1_yOf l D o cI cZ th tw ch sm od st cl us w h e0 gw gw2 gh2 (by have := nE_le gw2 gh2; omega)) (cwV 1 hts gX1_isLedTo_X1_yOf rfl rfl rfl (by decide +kernel) ⟨Nat.le_of_ble_eq_true rfl, Nat.le_of_ble_eq_true rfl⟩) (va_recv hK hP (ci := 1) (q0 := 0) rfl rfl) hP hK hP hS rfl hl.1 (lv_room (Nat.le_of_ble_eq_true rfl)) dX1_isLedTo_8 ⟨Nat.le_of_ble_eq_true rfl, Nat.le_of_ble_eq_true rfl⟩ (fun r8 H locs hr8 hP hS => ?_)
  subst hr8
  rw [show (nI (yE w h e0)) = nI y0 from by rw [ey0]]
  refine lv_istore_n (lv' := [(3, .int (nI y0)), (2, .int (nI x0)), (0, .ref (o 0)), (1, .int (nI e0))]) hx hb dX1_isLedTo_11 rfl hl (by decide) rfl (fun ls hl => ?_)
  refine lv_iconst (v := 0) hx hb dX1_isLedTo_12 (by decide) ?_
  refine lv_istore (lv' := [(4, .int 0), (3, .int (nI y0)), (2, .int (nI x0)), (0, .ref (o 0)), (1, .int (nI e0))]) hx hb dX1_isLedTo_13 hl (by decide) rfl (fun ls hl => ?_)
  refine lv_iconst (v := 0) hx hb dX1_isLedTo_15 (by decide) ?_
  refine lv_istore (lv' := [(5, .int 0), (4, .int 0), (3, .int (nI y0)), (2, .int (nI x0)), (0, .ref (o 0)), (1, .int (nI e0))]) hx hb dX1_isLedTo_16 hl (by decide) rfl (fun ls hl => ?_)
  refine lv_iload hx hb dX1_isLedTo_18 (lv_at hl 0 rfl) ?_
  refine lv_iconst (v := 2) hx hb dX1_isLedTo_20 (by decide) ?_
  refine lv_icmp_ge (tgt := 125) hx hb dX1_isLedTo_21 (by decide) (fun c21 => ?_) (fun c21 => ?_)
  · exact absurd c21 (by decide)
  · refine lv_aload_n hx hb dX1_isLedTo_24 rfl (lv_at hl 4 rfl) ?_
    refine lv_iload_n hx hb dX1_isLedTo_25 rfl (lv_at hl 5 rfl) ?_
    refine ro_V1 ⟨hx, hb, hml, hown, hts⟩ (c_X1_isAcross l D o cI cZ th tw ch sm od st cl us w h e0 gw gw2 gh2 (by have := nE_le gw2 gh2; omega)) (cwV 1 hts gX1_isLedTo_X1_isAcross rfl rfl rfl (by decide +kernel) ⟨Nat.le_of_ble_eq_true rfl, Nat.le_of_ble_eq_true rfl⟩) (va_recv hK hP (ci := 1) (q0 := 0) rfl rfl) hP hK hP hS rfl hl.1 (lv_room (Nat.le_of_ble_eq_true rfl)) dX1_isLedTo_26 ⟨Nat.le_of_ble_eq_true rfl, Nat.le_of_ble_eq_true rfl⟩ (fun r26 H locs hr26 hP hS => ?_)
    subst hr26
    refine lv_if_eq (tgt := 36) hx hb dX1_isLedTo_29 (by decide) (fun c29 => ?_) (fun c29 => ?_)
    · refine lv_iload_n hx hb dX1_isLedTo_36 rfl (lv_at hl 3 rfl) ?_
      refine lv_iload hx hb dX1_isLedTo_37 (lv_at hl 0 rfl) ?_
      refine lv_isub hx hb dX1_isLedTo_39 ?_
      rw [show ((nI x0) - 0) = nI x0 from by simp]
      refine lv_istore (lv' := [(6, .int (nI x0)), (5, .int 0), (4, .int 0), (3, .int (nI y0)), (2, .int (nI x0)), (0, .ref (o 0)), (1, .int (nI e0))]) hx hb dX1_isLedTo_40 hl (by decide) rfl (fun ls hl => ?_)
      refine lv_aload_n hx hb dX1_isLedTo_42 rfl (lv_at hl 5 rfl) ?_
      refine lv_iload_n hx hb dX1_isLedTo_43 rfl (lv_at hl 6 rfl) ?_
      refine ro_V1 ⟨hx, hb, hml, hown, hts⟩ (c_X1_isAcross l D o cI cZ th tw ch sm od st cl us w h e0 gw gw2 gh2 (by have := nE_le gw2 gh2; omega)) (cwV 1 hts gX1_isLedTo_X1_isAcross rfl rfl rfl (by decide +kernel) ⟨Nat.le_of_ble_eq_true rfl, Nat.le_of_ble_eq_true rfl⟩) (va_recv hK hP (ci := 1) (q0 := 0) rfl rfl) hP hK hP hS rfl hl.1 (lv_room (Nat.le_of_ble_eq_true rfl)) dX1_isLedTo_44 ⟨Nat.le_of_ble_eq_true rfl, Nat.le_of_ble_eq_true rfl⟩ (fun r44 H locs hr44 hP hS => ?_)
      subst hr44
      refine lv_if_eq (tgt := 57) hx hb dX1_isLedTo_47 (by decide) (fun c47 => ?_) (fun c47 => ?_)
      · refine lv_iload_n hx hb dX1_isLedTo_57 rfl (lv_at hl 3 rfl) ?_
        refine lv_istore (lv' := [(7, .int (nI y0)), (6, .int (nI x0)), (5, .int 0), (4, .int 0), (3, .int (nI y0)), (2, .int (nI x0)), (0, .ref (o 0)), (1, .int (nI e0))]) hx hb dX1_isLedTo_58 hl (by decide) rfl (fun ls hl => ?_)
        refine lv_aload_n hx hb dX1_isLedTo_60 rfl (lv_at hl 6 rfl) ?_
        refine lv_iload_n hx hb dX1_isLedTo_61 rfl (lv_at hl 7 rfl) ?_
        refine ro_V1 ⟨hx, hb, hml, hown, hts⟩ (c_X1_isAcross l D o cI cZ th tw ch sm od st cl us w h e0 gw gw2 gh2 (by have := nE_le gw2 gh2; omega)) (cwV 1 hts gX1_isLedTo_X1_isAcross rfl rfl rfl (by decide +kernel) ⟨Nat.le_of_ble_eq_true rfl, Nat.le_of_ble_eq_true rfl⟩) (va_recv hK hP (ci := 1) (q0 := 0) rfl rfl) hP hK hP hS rfl hl.1 (lv_room (Nat.le_of_ble_eq_true rfl)) dX1_isLedTo_62 ⟨Nat.le_of_ble_eq_true rfl, Nat.le_of_ble_eq_true rfl⟩ (fun r62 H locs hr62 hP hS => ?_)
        subst hr62
        refine lv_if_eq (tgt := 75) hx hb dX1_isLedTo_65 (by decide) (fun c65 => ?_) (fun c65 => ?_)
        · refine lv_iconst (v := 3) hx hb dX1_isLedTo_75 (by decide) ?_
          refine lv_iconst (v := 2) hx hb dX1_isLedTo_76 (by decide) ?_
          refine lv_iload hx hb dX1_isLedTo_77 (lv_at hl 2 rfl) ?_
          refine lv_imul hx hb dX1_isLedTo_79 ?_
          refine lv_isub hx hb dX1_isLedTo_80 ?_
          rw [show (3 - (2 * 0)) = nI 3 from by decide]
          refine lv_istore (lv' := [(8, .int (nI 3)), (7, .int (nI y0)), (6, .int (nI x0)), (5, .int 0), (4, .int 0), (3, .int (nI y0)), (2, .int (nI x0)), (0, .ref (o 0)), (1, .int (nI e0))]) hx hb dX1_isLedTo_81 hl (by decide) rfl (fun ls hl => ?_)
          refine lv_iload hx hb dX1_isLedTo_83 (lv_at hl 4 rfl) ?_
          refine lv_if_ne (tgt := 112) hx hb dX1_isLedTo_85 (by decide) (fun c85 => ?_) (fun c85 => ?_)
          · exact absurd c85 (by decide)
          · refine lv_aload_n hx hb dX1_isLedTo_88 rfl (lv_at hl 7 rfl) ?_
            refine lv_iload hx hb dX1_isLedTo_89 (lv_at hl 2 rfl) ?_
            refine lv_iload hx hb dX1_isLedTo_91 (lv_at hl 1 rfl) ?_
            refine ro_V2 ⟨hx, hb, hml, hown, hts⟩ (c_X1_isCell l D o cI cZ th tw ch sm od st cl us w h (nI x0) (nI y0) (by omega) (by omega)) (cwV 2 hts gX1_isLedTo_X1_isCell rfl rfl rfl (by decide +kernel) ⟨Nat.le_of_ble_eq_true rfl, Nat.le_of_ble_eq_true rfl⟩) (va_recv hK hP (ci := 1) (q0 := 0) rfl rfl) hP hK hP hS rfl hl.1 (lv_room (Nat.le_of_ble_eq_true rfl)) dX1_isLedTo_93 ⟨Nat.le_of_ble_eq_true rfl, Nat.le_of_ble_eq_true rfl⟩ (fun r93 H locs hr93 hP hS => ?_)
            subst hr93
            rw [show (bI (decide (0 ≤ (nI x0)) && decide ((nI x0) < nI (w - 1)) && decide (0 ≤ (nI y0)) && decide ((nI y0) < nI (h - 1)))) = bI (cl0 w h x0 y0) from by rw [cl_0 gw gw2 gh gh2 (by omega) (by omega)]]
            refine lv_if_eq (tgt := 116) hx hb dX1_isLedTo_96 (by decide) (fun c96 => ?_) (fun c96 => ?_)
            · refine lv_iconst (v := 0) hx hb dX1_isLedTo_116 (by decide) ?_
              refine lv_istore (lv' := [(4, .int 0), (8, .int (nI 3)), (7, .int (nI y0)), (6, .int (nI x0)), (5, .int 0), (3, .int (nI y0)), (2, .int (nI x0)), (0, .ref (o 0)), (1, .int (nI e0))]) hx hb dX1_isLedTo_117 hl (by decide) rfl (fun ls hl => ?_)
              refine lv_iinc (v := 1) (lv' := [(5, .int 1), (4, .int 0), (8, .int (nI 3)), (7, .int (nI y0)), (6, .int (nI x0)), (3, .int (nI y0)), (2, .int (nI x0)), (0, .ref (o 0)), (1, .int (nI e0))]) hx hb dX1_isLedTo_119 hl (k := 4) rfl (by decide) (by decide) rfl (fun ls hl => ?_)
              refine lv_goto (tgt := 18) hx hb dX1_isLedTo_122 (by decide) ?_
              refine lv_iload hx hb dX1_isLedTo_18 (lv_at hl 0 rfl) ?_
              refine lv_iconst (v := 2) hx hb dX1_isLedTo_20 (by decide) ?_
              refine lv_icmp_ge (tgt := 125) hx hb dX1_isLedTo_21 (by decide) (fun c21_2 => ?_) (fun c21_2 => ?_)
              · exact absurd c21_2 (by decide)
              · refine lv_aload_n hx hb dX1_isLedTo_24 rfl (lv_at hl 7 rfl) ?_
                refine lv_iload_n hx hb dX1_isLedTo_25 rfl (lv_at hl 8 rfl) ?_
                refine ro_V1 ⟨hx, hb, hml, hown, hts⟩ (c_X1_isAcross l D o cI cZ th tw ch sm od st cl us w h e0 gw gw2 gh2 (by have := nE_le gw2 gh2; omega)) (cwV 1 hts gX1_isLedTo_X1_isAcross rfl rfl rfl (by decide +kernel) ⟨Nat.le_of_ble_eq_true rfl, Nat.le_of_ble_eq_true rfl⟩) (va_recv hK hP (ci := 1) (q0 := 0) rfl rfl) hP hK hP hS rfl hl.1 (lv_room (Nat.le_of_ble_eq_true rfl)) dX1_isLedTo_26 ⟨Nat.le_of_ble_eq_true rfl, Nat.le_of_ble_eq_true rfl⟩ (fun r26 H locs hr26 hP hS => ?_)
                subst hr26
                refine lv_if_eq (tgt := 36) hx hb dX1_isLedTo_29 (by decide) (fun c29_2 => ?_) (fun c29_2 => ?_)
                · refine lv_iload_n hx hb dX1_isLedTo_36 rfl (lv_at hl 6 rfl) ?_
                  refine lv_iload hx hb dX1_isLedTo_37 (lv_at hl 0 rfl) ?_
                  refine lv_isub hx hb dX1_isLedTo_39 ?_
                  rw [show ((nI x0) - 1) = (nI x0 - 1) from rfl]
                  refine lv_istore (lv' := [(6, .int (nI x0 - 1)), (5, .int 1), (4, .int 0), (8, .int (nI 3)), (7, .int (nI y0)), (3, .int (nI y0)), (2, .int (nI x0)), (0, .ref (o 0)), (1, .int (nI e0))]) hx hb dX1_isLedTo_40 hl (by decide) rfl (fun ls hl => ?_)
                  refine lv_aload_n hx hb dX1_isLedTo_42 rfl (lv_at hl 7 rfl) ?_
                  refine lv_iload_n hx hb dX1_isLedTo_43 rfl (lv_at hl 8 rfl) ?_
                  refine ro_V1 ⟨hx, hb, hml, hown, hts⟩ (c_X1_isAcross l D o cI cZ th tw ch sm od st cl us w h e0 gw gw2 gh2 (by have := nE_le gw2 gh2; omega)) (cwV 1 hts gX1_isLedTo_X1_isAcross rfl rfl rfl (by decide +kernel) ⟨Nat.le_of_ble_eq_true rfl, Nat.le_of_ble_eq_true rfl⟩) (va_recv hK hP (ci := 1) (q0 := 0) rfl rfl) hP hK hP hS rfl hl.1 (lv_room (Nat.le_of_ble_eq_true rfl)) dX1_isLedTo_44 ⟨Nat.le_of_ble_eq_true rfl, Nat.le_of_ble_eq_true rfl⟩ (fun r44 H locs hr44 hP hS => ?_)
                  subst hr44
                  refine lv_if_eq (tgt := 57) hx hb dX1_isLedTo_47 (by decide) (fun c47_2 => ?_) (fun c47_2 => ?_)
                  · refine lv_iload_n hx hb dX1_isLedTo_57 rfl (lv_at hl 5 rfl) ?_
                    refine lv_istore (lv' := [(7, .int (nI y0)), (6, .int (nI x0 - 1)), (5, .int 1), (4, .int 0), (8, .int (nI 3)), (3, .int (nI y0)), (2, .int (nI x0)), (0, .ref (o 0)), (1, .int (nI e0))]) hx hb dX1_isLedTo_58 hl (by decide) rfl (fun ls hl => ?_)
                    refine lv_aload_n hx hb dX1_isLedTo_60 rfl (lv_at hl 7 rfl) ?_
                    refine lv_iload_n hx hb dX1_isLedTo_61 rfl (lv_at hl 8 rfl) ?_
                    refine ro_V1 ⟨hx, hb, hml, hown, hts⟩ (c_X1_isAcross l D o cI cZ th tw ch sm od st cl us w h e0 gw gw2 gh2 (by have := nE_le gw2 gh2; omega)) (cwV 1 hts gX1_isLedTo_X1_isAcross rfl rfl rfl (by decide +kernel) ⟨Nat.le_of_ble_eq_true rfl, Nat.le_of_ble_eq_true rfl⟩) (va_recv hK hP (ci := 1) (q0 := 0) rfl rfl) hP hK hP hS rfl hl.1 (lv_room (Nat.le_of_ble_eq_true rfl)) dX1_isLedTo_62 ⟨Nat.le_of_ble_eq_true rfl, Nat.le_of_ble_eq_true rfl⟩ (fun r62 H locs hr62 hP hS => ?_)
                    subst hr62
                    refine lv_if_eq (tgt := 75) hx hb dX1_isLedTo_65 (by decide) (fun c65_2 => ?_) (fun c65_2 => ?_)
                    · refine lv_iconst (v := 3) hx hb dX1_isLedTo_75 (by decide) ?_
                      refine lv_iconst (v := 2) hx hb dX1_isLedTo_76 (by decide) ?_
                      refine lv_iload hx hb dX1_isLedTo_77 (lv_at hl 2 rfl) ?_
                      refine lv_imul hx hb dX1_isLedTo_79 ?_
                      refine lv_isub hx hb dX1_isLedTo_80 ?_
                      rw [show (3 - (2 * 1)) = nI 1 from by decide]
                      refine lv_istore (lv' := [(8, .int (nI 1)), (7, .int (nI y0)), (6, .int (nI x0 - 1)), (5, .int 1), (4, .int 0), (3, .int (nI y0)), (2, .int (nI x0)), (0, .ref (o 0)), (1, .int (nI e0))]) hx hb dX1_isLedTo_81 hl (by decide) rfl (fun ls hl => ?_)
                      refine lv_iload hx hb dX1_isLedTo_83 (lv_at hl 4 rfl) ?_
                      refine lv_if_ne (tgt := 112) hx hb dX1_isLedTo_85 (by decide) (fun c85_2 => ?_) (fun c85_2 => ?_)
                      · exact absurd c85_2 (by decide)
                      · refine lv_aload_n hx hb dX1_isLedTo_88 rfl (lv_at hl 7 rfl) ?_
                        refine lv_iload hx hb dX1_isLedTo_89 (lv_at hl 2 rfl) ?_
                        refine lv_iload hx hb dX1_isLedTo_91 (lv_at hl 1 rfl) ?_
                        refine ro_V2 ⟨hx, hb, hml, hown, hts⟩ (c_X1_isCell l D o cI cZ th tw ch sm od st cl us w h (nI x0 - 1) (nI y0) (by omega) (by omega)) (cwV 2 hts gX1_isLedTo_X1_isCell rfl rfl rfl (by decide +kernel) ⟨Nat.le_of_ble_eq_true rfl, Nat.le_of_ble_eq_true rfl⟩) (va_recv hK hP (ci := 1) (q0 := 0) rfl rfl) hP hK hP hS rfl hl.1 (lv_room (Nat.le_of_ble_eq_true rfl)) dX1_isLedTo_93 ⟨Nat.le_of_ble_eq_true rfl, Nat.le_of_ble_eq_true rfl⟩ (fun r93 H locs hr93 hP hS => ?_)
                        subst hr93
                        rw [show (bI (decide (0 ≤ (nI x0 - 1)) && decide ((nI x0 - 1) < nI (w - 1)) && decide (0 ≤ (nI y0)) && decide ((nI y0) < nI (h - 1)))) = bI (clX w h x0 y0) from by rw [cl_X gw gw2 gh gh2 (by omega) (by omega)]]
                        refine lv_if_eq (tgt := 116) hx hb dX1_isLedTo_96 (by decide) (fun c96_2 => ?_) (fun c96_2 => ?_)
                        · refine lv_iconst (v := 0) hx hb dX1_isLedTo_116 (by decide) ?_
                          refine lv_istore (lv' := [(4, .int 0), (8, .int (nI 1)), (7, .int (nI y0)), (6, .int (nI x0 - 1)), (5, .int 1), (3, .int (nI y0)), (2, .int (nI x0)), (0, .ref (o 0)), (1, .int (nI e0))]) hx hb dX1_isLedTo_117 hl (by decide) rfl (fun ls hl => ?_)
                          refine lv_iinc (v := 2) (lv' := [(5, .int 2), (4, .int 0), (8, .int (nI 1)), (7, .int (nI y0)), (6, .int (nI x0 - 1)), (3, .int (nI y0)), (2, .int (nI x0)), (0, .ref (o 0)), (1, .int (nI e0))]) hx hb dX1_isLedTo_119 hl (k := 4) rfl (by decide) (by decide) rfl (fun ls hl => ?_)
                          refine lv_goto (tgt := 18) hx hb dX1_isLedTo_122 (by decide) ?_
                          refine lv_iload hx hb dX1_isLedTo_18 (lv_at hl 0 rfl) ?_
                          refine lv_iconst (v := 2) hx hb dX1_isLedTo_20 (by decide) ?_
                          refine lv_icmp_ge (tgt := 125) hx hb dX1_isLedTo_21 (by decide) (fun c21_3 => ?_) (fun c21_3 => ?_)
                          · refine lv_iload hx hb dX1_isLedTo_125 (lv_at hl 1 rfl) ?_
                            exact W.zret (v := 0) (ty := .boolean) hx hb hr rfl (fun t ht hW => ⟨⟨_, (), rfl, by unfold ltR; rw [if_neg (bd_f c29), ← ex0, ← ey0]; simp [bI_0.mp c96, bI_0.mp c96_2, bI], trivial⟩, hS.F ht⟩) hS.2.2 dX1_isLedTo_127
                          · exact absurd c21_3 (by decide)
                        · have hc1 := clX_ok (bI_n0.mp c96_2)
                          rw [nI_m1 hc1.2.1] at hl
                          refine lv_aload_n hx hb dX1_isLedTo_99 rfl (lv_at hl 7 rfl) ?_
                          refine lv_iload hx hb dX1_isLedTo_100 (lv_at hl 2 rfl) ?_
                          refine lv_iload hx hb dX1_isLedTo_102 (lv_at hl 1 rfl) ?_
                          refine lv_iload hx hb dX1_isLedTo_104 (lv_at hl 0 rfl) ?_
                          refine ro_V3 ⟨hx, hb, hml, hown, hts⟩ (c_X1_isUp l D o cI cZ th tw ch sm od st cl us w h f (x0 - 1) y0 1 gw2 gh2 gf (by omega) (by omega) (by decide)) (cwV 3 hts gX1_isLedTo_X1_isUp rfl rfl rfl (by decide +kernel) ⟨Nat.le_of_ble_eq_true rfl, Nat.le_of_ble_eq_true rfl⟩) (va_recv hK hP (ci := 1) (q0 := 0) rfl rfl) hP hK hP hS rfl hl.1 (lv_room (Nat.le_of_ble_eq_true rfl)) dX1_isLedTo_106 ⟨Nat.le_of_ble_eq_true rfl, Nat.le_of_ble_eq_true rfl⟩ (fun r106 H locs hr106 hP hS => ?_)
                          subst hr106
                          refine lv_if_eq (tgt := 116) hx hb dX1_isLedTo_109 (by decide) (fun c109 => ?_) (fun c109 => ?_)
                          · refine lv_iconst (v := 0) hx hb dX1_isLedTo_116 (by decide) ?_
                            refine lv_istore (lv' := [(4, .int 0), (8, .int (nI 1)), (7, .int (nI y0)), (6, .int (nI (x0 - 1))), (5, .int 1), (3, .int (nI y0)), (2, .int (nI x0)), (0, .ref (o 0)), (1, .int (nI e0))]) hx hb dX1_isLedTo_117 hl (by decide) rfl (fun ls hl => ?_)
                            refine lv_iinc (v := 2) (lv' := [(5, .int 2), (4, .int 0), (8, .int (nI 1)), (7, .int (nI y0)), (6, .int (nI (x0 - 1))), (3, .int (nI y0)), (2, .int (nI x0)), (0, .ref (o 0)), (1, .int (nI e0))]) hx hb dX1_isLedTo_119 hl (k := 4) rfl (by decide) (by decide) rfl (fun ls hl => ?_)
                            refine lv_goto (tgt := 18) hx hb dX1_isLedTo_122 (by decide) ?_
                            refine lv_iload hx hb dX1_isLedTo_18 (lv_at hl 0 rfl) ?_
                            refine lv_iconst (v := 2) hx hb dX1_isLedTo_20 (by decide) ?_
                            refine lv_icmp_ge (tgt := 125) hx hb dX1_isLedTo_21 (by decide) (fun c21_3 => ?_) (fun c21_3 => ?_)
                            · refine lv_iload hx hb dX1_isLedTo_125 (lv_at hl 1 rfl) ?_
                              exact W.zret (v := 0) (ty := .boolean) hx hb hr rfl (fun t ht hW => ⟨⟨_, (), rfl, by unfold ltR; rw [if_neg (bd_f c29), ← ex0, ← ey0]; simp [bI_0.mp c96, bI_n0.mp c96_2, bI_0.mp c109, bI], trivial⟩, hS.F ht⟩) hS.2.2 dX1_isLedTo_127
                            · exact absurd c21_3 (by decide)
                          · refine lv_iconst (v := 1) hx hb dX1_isLedTo_112 (by decide) ?_
                            refine lv_goto (tgt := 117) hx hb dX1_isLedTo_113 (by decide) ?_
                            refine lv_istore (lv' := [(4, .int 1), (8, .int (nI 1)), (7, .int (nI y0)), (6, .int (nI (x0 - 1))), (5, .int 1), (3, .int (nI y0)), (2, .int (nI x0)), (0, .ref (o 0)), (1, .int (nI e0))]) hx hb dX1_isLedTo_117 hl (by decide) rfl (fun ls hl => ?_)
                            refine lv_iinc (v := 2) (lv' := [(5, .int 2), (4, .int 1), (8, .int (nI 1)), (7, .int (nI y0)), (6, .int (nI (x0 - 1))), (3, .int (nI y0)), (2, .int (nI x0)), (0, .ref (o 0)), (1, .int (nI e0))]) hx hb dX1_isLedTo_119 hl (k := 4) rfl (by decide) (by decide) rfl (fun ls hl => ?_)
                            refine lv_goto (tgt := 18) hx hb dX1_isLedTo_122 (by decide) ?_
                            refine lv_iload hx hb dX1_isLedTo_18 (lv_at hl 0 rfl) ?_
                            refine lv_iconst (v := 2) hx hb dX1_isLedTo_20 (by decide) ?_
                            refine lv_icmp_ge (tgt := 125) hx hb dX1_isLedTo_21 (by decide) (fun c21_3 => ?_) (fun c21_3 => ?_)
                            · refine lv_iload hx hb dX1_isLedTo_125 (lv_at hl 1 rfl) ?_
                              exact W.zret (v := 1) (ty := .boolean) hx hb hr rfl (fun t ht hW => ⟨⟨_, (), rfl, by unfold ltR; rw [if_neg (bd_f c29), ← ex0, ← ey0]; simp [bI_0.mp c96, bI_n0.mp c96_2, bI_n0.mp c109, bI], trivial⟩, hS.F ht⟩) hS.2.2 dX1_isLedTo_127
                            · exact absurd c21_3 (by decide)
                    · exact absurd c29 c65_2
                  · exact absurd c29 c47_2
                · exact absurd c29 c29_2
            · have hc0 := cl0_ok (bI_n0.mp c96)
              refine lv_aload_n hx hb dX1_isLedTo_99 rfl (lv_at hl 7 rfl) ?_
              refine lv_iload hx hb dX1_isLedTo_100 (lv_at hl 2 rfl) ?_
              refine lv_iload hx hb dX1_isLedTo_102 (lv_at hl 1 rfl) ?_
              refine lv_iload hx hb dX1_isLedTo_104 (lv_at hl 0 rfl) ?_
              refine ro_V3 ⟨hx, hb, hml, hown, hts⟩ (c_X1_isUp l D o cI cZ th tw ch sm od st cl us w h f x0 y0 3 gw2 gh2 gf (by omega) (by omega) (by decide)) (cwV 3 hts gX1_isLedTo_X1_isUp rfl rfl rfl (by decide +kernel) ⟨Nat.le_of_ble_eq_true rfl, Nat.le_of_ble_eq_true rfl⟩) (va_recv hK hP (ci := 1) (q0 := 0) rfl rfl) hP hK hP hS rfl hl.1 (lv_room (Nat.le_of_ble_eq_true rfl)) dX1_isLedTo_106 ⟨Nat.le_of_ble_eq_true rfl, Nat.le_of_ble_eq_true rfl⟩ (fun r106 H locs hr106 hP hS => ?_)
              subst hr106
              refine lv_if_eq (tgt := 116) hx hb dX1_isLedTo_109 (by decide) (fun c109 => ?_) (fun c109 => ?_)
              · refine lv_iconst (v := 0) hx hb dX1_isLedTo_116 (by decide) ?_
                refine lv_istore (lv' := [(4, .int 0), (8, .int (nI 3)), (7, .int (nI y0)), (6, .int (nI x0)), (5, .int 0), (3, .int (nI y0)), (2, .int (nI x0)), (0, .ref (o 0)), (1, .int (nI e0))]) hx hb dX1_isLedTo_117 hl (by decide) rfl (fun ls hl => ?_)
                refine lv_iinc (v := 1) (lv' := [(5, .int 1), (4, .int 0), (8, .int (nI 3)), (7, .int (nI y0)), (6, .int (nI x0)), (3, .int (nI y0)), (2, .int (nI x0)), (0, .ref (o 0)), (1, .int (nI e0))]) hx hb dX1_isLedTo_119 hl (k := 4) rfl (by decide) (by decide) rfl (fun ls hl => ?_)
                refine lv_goto (tgt := 18) hx hb dX1_isLedTo_122 (by decide) ?_
                refine lv_iload hx hb dX1_isLedTo_18 (lv_at hl 0 rfl) ?_
                refine lv_iconst (v := 2) hx hb dX1_isLedTo_20 (by decide) ?_
                refine lv_icmp_ge (tgt := 125) hx hb dX1_isLedTo_21 (by decide) (fun c21_2 => ?_) (fun c21_2 => ?_)
                · exact absurd c21_2 (by decide)
                · refine lv_aload_n hx hb dX1_isLedTo_24 rfl (lv_at hl 7 rfl) ?_
                  refine lv_iload_n hx hb dX1_isLedTo_25 rfl (lv_at hl 8 rfl) ?_
                  refine ro_V1 ⟨hx, hb, hml, hown, hts⟩ (c_X1_isAcross l D o cI cZ th tw ch sm od st cl us w h e0 gw gw2 gh2 (by have := nE_le gw2 gh2; omega)) (cwV 1 hts gX1_isLedTo_X1_isAcross rfl rfl rfl (by decide +kernel) ⟨Nat.le_of_ble_eq_true rfl, Nat.le_of_ble_eq_true rfl⟩) (va_recv hK hP (ci := 1) (q0 := 0) rfl rfl) hP hK hP hS rfl hl.1 (lv_room (Nat.le_of_ble_eq_true rfl)) dX1_isLedTo_26 ⟨Nat.le_of_ble_eq_true rfl, Nat.le_of_ble_eq_true rfl⟩ (fun r26 H locs hr26 hP hS => ?_)
                  subst hr26
                  refine lv_if_eq (tgt := 36) hx hb dX1_isLedTo_29 (by decide) (fun c29_2 => ?_) (fun c29_2 => ?_)
                  · refine lv_iload_n hx hb dX1_isLedTo_36 rfl (lv_at hl 6 rfl) ?_
                    refine lv_iload hx hb dX1_isLedTo_37 (lv_at hl 0 rfl) ?_
                    refine lv_isub hx hb dX1_isLedTo_39 ?_
                    rw [show ((nI x0) - 1) = (nI x0 - 1) from rfl]
                    refine lv_istore (lv' := [(6, .int (nI x0 - 1)), (5, .int 1), (4, .int 0), (8, .int (nI 3)), (7, .int (nI y0)), (3, .int (nI y0)), (2, .int (nI x0)), (0, .ref (o 0)), (1, .int (nI e0))]) hx hb dX1_isLedTo_40 hl (by decide) rfl (fun ls hl => ?_)
                    refine lv_aload_n hx hb dX1_isLedTo_42 rfl (lv_at hl 7 rfl) ?_
                    refine lv_iload_n hx hb dX1_isLedTo_43 rfl (lv_at hl 8 rfl) ?_
                    refine ro_V1 ⟨hx, hb, hml, hown, hts⟩ (c_X1_isAcross l D o cI cZ th tw ch sm od st cl us w h e0 gw gw2 gh2 (by have := nE_le gw2 gh2; omega)) (cwV 1 hts gX1_isLedTo_X1_isAcross rfl rfl rfl (by decide +kernel) ⟨Nat.le_of_ble_eq_true rfl, Nat.le_of_ble_eq_true rfl⟩) (va_recv hK hP (ci := 1) (q0 := 0) rfl rfl) hP hK hP hS rfl hl.1 (lv_room (Nat.le_of_ble_eq_true rfl)) dX1_isLedTo_44 ⟨Nat.le_of_ble_eq_true rfl, Nat.le_of_ble_eq_true rfl⟩ (fun r44 H locs hr44 hP hS => ?_)
                    subst hr44
                    refine lv_if_eq (tgt := 57) hx hb dX1_isLedTo_47 (by decide) (fun c47_2 => ?_) (fun c47_2 => ?_)
                    · refine lv_iload_n hx hb dX1_isLedTo_57 rfl (lv_at hl 5 rfl) ?_
                      refine lv_istore (lv' := [(7, .int (nI y0)), (6, .int (nI x0 - 1)), (5, .int 1), (4, .int 0), (8, .int (nI 3)), (3, .int (nI y0)), (2, .int (nI x0)), (0, .ref (o 0)), (1, .int (nI e0))]) hx hb dX1_isLedTo_58 hl (by decide) rfl (fun ls hl => ?_)
                      refine lv_aload_n hx hb dX1_isLedTo_60 rfl (lv_at hl 7 rfl) ?_
                      refine lv_iload_n hx hb dX1_isLedTo_61 rfl (lv_at hl 8 rfl) ?_
                      refine ro_V1 ⟨hx, hb, hml, hown, hts⟩ (c_X1_isAcross l D o cI cZ th tw ch sm od st cl us w h e0 gw gw2 gh2 (by have := nE_le gw2 gh2; omega)) (cwV 1 hts gX1_isLedTo_X1_isAcross rfl rfl rfl (by decide +kernel) ⟨Nat.le_of_ble_eq_true rfl, Nat.le_of_ble_eq_true rfl⟩) (va_recv hK hP (ci := 1) (q0 := 0) rfl rfl) hP hK hP hS rfl hl.1 (lv_room (Nat.le_of_ble_eq_true rfl)) dX1_isLedTo_62 ⟨Nat.le_of_ble_eq_true rfl, Nat.le_of_ble_eq_true rfl⟩ (fun r62 H locs hr62 hP hS => ?_)
                      subst hr62
                      refine lv_if_eq (tgt := 75) hx hb dX1_isLedTo_65 (by decide) (fun c65_2 => ?_) (fun c65_2 => ?_)
                      · refine lv_iconst (v := 3) hx hb dX1_isLedTo_75 (by decide) ?_
                        refine lv_iconst (v := 2) hx hb dX1_isLedTo_76 (by decide) ?_
                        refine lv_iload hx hb dX1_isLedTo_77 (lv_at hl 2 rfl) ?_
                        refine lv_imul hx hb dX1_isLedTo_79 ?_
                        refine lv_isub hx hb dX1_isLedTo_80 ?_
                        rw [show (3 - (2 * 1)) = nI 1 from by decide]
                        refine lv_istore (lv' := [(8, .int (nI 1)), (7, .int (nI y0)), (6, .int (nI x0 - 1)), (5, .int 1), (4, .int 0), (3, .int (nI y0)), (2, .int (nI x0)), (0, .ref (o 0)), (1, .int (nI e0))]) hx hb dX1_isLedTo_81 hl (by decide) rfl (fun ls hl => ?_)
                        refine lv_iload hx hb dX1_isLedTo_83 (lv_at hl 4 rfl) ?_
                        refine lv_if_ne (tgt := 112) hx hb dX1_isLedTo_85 (by decide) (fun c85_2 => ?_) (fun c85_2 => ?_)
                        · exact absurd c85_2 (by decide)
                        · refine lv_aload_n hx hb dX1_isLedTo_88 rfl (lv_at hl 7 rfl) ?_
                          refine lv_iload hx hb dX1_isLedTo_89 (lv_at hl 2 rfl) ?_
                          refine lv_iload hx hb dX1_isLedTo_91 (lv_at hl 1 rfl) ?_
                          refine ro_V2 ⟨hx, hb, hml, hown, hts⟩ (c_X1_isCell l D o cI cZ th tw ch sm od st cl us w h (nI x0 - 1) (nI y0) (by omega) (by omega)) (cwV 2 hts gX1_isLedTo_X1_isCell rfl rfl rfl (by decide +kernel) ⟨Nat.le_of_ble_eq_true rfl, Nat.le_of_ble_eq_true rfl⟩) (va_recv hK hP (ci := 1) (q0 := 0) rfl rfl) hP hK hP hS rfl hl.1 (lv_room (Nat.le_of_ble_eq_true rfl)) dX1_isLedTo_93 ⟨Nat.le_of_ble_eq_true rfl, Nat.le_of_ble_eq_true rfl⟩ (fun r93 H locs hr93 hP hS => ?_)
                          subst hr93
                          rw [show (bI (decide (0 ≤ (nI x0 - 1)) && decide ((nI x0 - 1) < nI (w - 1)) && decide (0 ≤ (nI y0)) && decide ((nI y0) < nI (h - 1)))) = bI (clX w h x0 y0) from by rw [cl_X gw gw2 gh gh2 (by omega) (by omega)]]
                          refine lv_if_eq (tgt := 116) hx hb dX1_isLedTo_96 (by decide) (fun c96_2 => ?_) (fun c96_2 => ?_)
                          · refine lv_iconst (v := 0) hx hb dX1_isLedTo_116 (by decide) ?_
                            refine lv_istore (lv' := [(4, .int 0), (8, .int (nI 1)), (7, .int (nI y0)), (6, .int (nI x0 - 1)), (5, .int 1), (3, .int (nI y0)), (2, .int (nI x0)), (0, .ref (o 0)), (1, .int (nI e0))]) hx hb dX1_isLedTo_117 hl (by decide) rfl (fun ls hl => ?_)
                            refine lv_iinc (v := 2) (lv' := [(5, .int 2), (4, .int 0), (8, .int (nI 1)), (7, .int (nI y0)), (6, .int (nI x0 - 1)), (3, .int (nI y0)), (2, .int (nI x0)), (0, .ref (o 0)), (1, .int (nI e0))]) hx hb dX1_isLedTo_119 hl (k := 4) rfl (by decide) (by decide) rfl (fun ls hl => ?_)
                            refine lv_goto (tgt := 18) hx hb dX1_isLedTo_122 (by decide) ?_
                            refine lv_iload hx hb dX1_isLedTo_18 (lv_at hl 0 rfl) ?_
                            refine lv_iconst (v := 2) hx hb dX1_isLedTo_20 (by decide) ?_
                            refine lv_icmp_ge (tgt := 125) hx hb dX1_isLedTo_21 (by decide) (fun c21_3 => ?_) (fun c21_3 => ?_)
                            · refine lv_iload hx hb dX1_isLedTo_125 (lv_at hl 1 rfl) ?_
                              exact W.zret (v := 0) (ty := .boolean) hx hb hr rfl (fun t ht hW => ⟨⟨_, (), rfl, by unfold ltR; rw [if_neg (bd_f c29), ← ex0, ← ey0]; simp [bI_n0.mp c96, bI_0.mp c109, bI_0.mp c96_2, bI], trivial⟩, hS.F ht⟩) hS.2.2 dX1_isLedTo_127
                            · exact absurd c21_3 (by decide)
                          · have hc1 := clX_ok (bI_n0.mp c96_2)
                            rw [nI_m1 hc1.2.1] at hl
                            refine lv_aload_n hx hb dX1_isLedTo_99 rfl (lv_at hl 7 rfl) ?_
                            refine lv_iload hx hb dX1_isLedTo_100 (lv_at hl 2 rfl) ?_
                            refine lv_iload hx hb dX1_isLedTo_102 (lv_at hl 1 rfl) ?_
                            refine lv_iload hx hb dX1_isLedTo_104 (lv_at hl 0 rfl) ?_
                            refine ro_V3 ⟨hx, hb, hml, hown, hts⟩ (c_X1_isUp l D o cI cZ th tw ch sm od st cl us w h f (x0 - 1) y0 1 gw2 gh2 gf (by omega) (by omega) (by decide)) (cwV 3 hts gX1_isLedTo_X1_isUp rfl rfl rfl (by decide +kernel) ⟨Nat.le_of_ble_eq_true rfl, Nat.le_of_ble_eq_true rfl⟩) (va_recv hK hP (ci := 1) (q0 := 0) rfl rfl) hP hK hP hS rfl hl.1 (lv_room (Nat.le_of_ble_eq_true rfl)) dX1_isLedTo_106 ⟨Nat.le_of_ble_eq_true rfl, Nat.le_of_ble_eq_true rfl⟩ (fun r106 H locs hr106 hP hS => ?_)
                            subst hr106
                            refine lv_if_eq (tgt := 116) hx hb dX1_isLedTo_109 (by decide) (fun c109_2 => ?_) (fun c109_2 => ?_)
                            · refine lv_iconst (v := 0) hx hb dX1_isLedTo_116 (by decide) ?_
                              refine lv_istore (lv' := [(4, .int 0), (8, .int (nI 1)), (7, .int (nI y0)), (6, .int (nI (x0 - 1))), (5, .int 1), (3, .int (nI y0)), (2, .int (nI x0)), (0, .ref (o 0)), (1, .int (nI e0))]) hx hb dX1_isLedTo_117 hl (by decide) rfl (fun ls hl => ?_)
                              refine lv_iinc (v := 2) (lv' := [(5, .int 2), (4, .int 0), (8, .int (nI 1)), (7, .int (nI y0)), (6, .int (nI (x0 - 1))), (3, .int (nI y0)), (2, .int (nI x0)), (0, .ref (o 0)), (1, .int (nI e0))]) hx hb dX1_isLedTo_119 hl (k := 4) rfl (by decide) (by decide) rfl (fun ls hl => ?_)
                              refine lv_goto (tgt := 18) hx hb dX1_isLedTo_122 (by decide) ?_
                              refine lv_iload hx hb dX1_isLedTo_18 (lv_at hl 0 rfl) ?_
                              refine lv_iconst (v := 2) hx hb dX1_isLedTo_20 (by decide) ?_
                              refine lv_icmp_ge (tgt := 125) hx hb dX1_isLedTo_21 (by decide) (fun c21_3 => ?_) (fun c21_3 => ?_)
                              · refine lv_iload hx hb dX1_isLedTo_125 (lv_at hl 1 rfl) ?_
                                exact W.zret (v := 0) (ty := .boolean) hx hb hr rfl (fun t ht hW => ⟨⟨_, (), rfl, by unfold ltR; rw [if_neg (bd_f c29), ← ex0, ← ey0]; simp [bI_n0.mp c96, bI_0.mp c109, bI_n0.mp c96_2, bI_0.mp c109_2, bI], trivial⟩, hS.F ht⟩) hS.2.2 dX1_isLedTo_127
                              · exact absurd c21_3 (by decide)
                            · refine lv_iconst (v := 1) hx hb dX1_isLedTo_112 (by decide) ?_
                              refine lv_goto (tgt := 117) hx hb dX1_isLedTo_113 (by decide) ?_
                              refine lv_istore (lv' := [(4, .int 1), (8, .int (nI 1)), (7, .int (nI y0)), (6, .int (nI (x0 - 1))), (5, .int 1), (3, .int (nI y0)), (2, .int (nI x0)), (0, .ref (o 0)), (1, .int (nI e0))]) hx hb dX1_isLedTo_117 hl (by decide) rfl (fun ls hl => ?_)
                              refine lv_iinc (v := 2) (lv' := [(5, .int 2), (4, .int 1), (8, .int (nI 1)), (7, .int (nI y0)), (6, .int (nI (x0 - 1))), (3, .int (nI y0)), (2, .int (nI x0)), (0, .ref (o 0)), (1, .int (nI e0))]) hx hb dX1_isLedTo_119 hl (k := 4) rfl (by decide) (by decide) rfl (fun ls hl => ?_)
                              refine lv_goto (tgt := 18) hx hb dX1_isLedTo_122 (by decide) ?_
                              refine lv_iload hx hb dX1_isLedTo_18 (lv_at hl 0 rfl) ?_
                              refine lv_iconst (v := 2) hx hb dX1_isLedTo_20 (by decide) ?_
                              refine lv_icmp_ge (tgt := 125) hx hb dX1_isLedTo_21 (by decide) (fun c21_3 => ?_) (fun c21_3 => ?_)
                              · refine lv_iload hx hb dX1_isLedTo_125 (lv_at hl 1 rfl) ?_
                                exact W.zret (v := 1) (ty := .boolean) hx hb hr rfl (fun t ht hW => ⟨⟨_, (), rfl, by unfold ltR; rw [if_neg (bd_f c29), ← ex0, ← ey0]; simp [bI_n0.mp c96, bI_0.mp c109, bI_n0.mp c96_2, bI_n0.mp c109_2, bI], trivial⟩, hS.F ht⟩) hS.2.2 dX1_isLedTo_127
                              · exact absurd c21_3 (by decide)
                      · exact absurd c29 c65_2
                    · exact absurd c29 c47_2
                  · exact absurd c29 c29_2
              · refine lv_iconst (v := 1) hx hb dX1_isLedTo_112 (by decide) ?_
                refine lv_goto (tgt := 117) hx hb dX1_isLedTo_113 (by decide) ?_
                refine lv_istore (lv' := [(4, .int 1), (8, .int (nI 3)), (7, .int (nI y0)), (6, .int (nI x0)), (5, .int 0), (3, .int (nI y0)), (2, .int (nI x0)), (0, .ref (o 0)), (1, .int (nI e0))]) hx hb dX1_isLedTo_117 hl (by decide) rfl (fun ls hl => ?_)
                refine lv_iinc (v := 1) (lv' := [(5, .int 1), (4, .int 1), (8, .int (nI 3)), (7, .int (nI y0)), (6, .int (nI x0)), (3, .int (nI y0)), (2, .int (nI x0)), (0, .ref (o 0)), (1, .int (nI e0))]) hx hb dX1_isLedTo_119 hl (k := 4) rfl (by decide) (by decide) rfl (fun ls hl => ?_)
                refine lv_goto (tgt := 18) hx hb dX1_isLedTo_122 (by decide) ?_
                refine lv_iload hx hb dX1_isLedTo_18 (lv_at hl 0 rfl) ?_
                refine lv_iconst (v := 2) hx hb dX1_isLedTo_20 (by decide) ?_
                refine lv_icmp_ge (tgt := 125) hx hb dX1_isLedTo_21 (by decide) (fun c21_2 => ?_) (fun c21_2 => ?_)
                · exact absurd c21_2 (by decide)
                · refine lv_aload_n hx hb dX1_isLedTo_24 rfl (lv_at hl 7 rfl) ?_
                  refine lv_iload_n hx hb dX1_isLedTo_25 rfl (lv_at hl 8 rfl) ?_
                  refine ro_V1 ⟨hx, hb, hml, hown, hts⟩ (c_X1_isAcross l D o cI cZ th tw ch sm od st cl us w h e0 gw gw2 gh2 (by have := nE_le gw2 gh2; omega)) (cwV 1 hts gX1_isLedTo_X1_isAcross rfl rfl rfl (by decide +kernel) ⟨Nat.le_of_ble_eq_true rfl, Nat.le_of_ble_eq_true rfl⟩) (va_recv hK hP (ci := 1) (q0 := 0) rfl rfl) hP hK hP hS rfl hl.1 (lv_room (Nat.le_of_ble_eq_true rfl)) dX1_isLedTo_26 ⟨Nat.le_of_ble_eq_true rfl, Nat.le_of_ble_eq_true rfl⟩ (fun r26 H locs hr26 hP hS => ?_)
                  subst hr26
                  refine lv_if_eq (tgt := 36) hx hb dX1_isLedTo_29 (by decide) (fun c29_2 => ?_) (fun c29_2 => ?_)
                  · refine lv_iload_n hx hb dX1_isLedTo_36 rfl (lv_at hl 6 rfl) ?_
                    refine lv_iload hx hb dX1_isLedTo_37 (lv_at hl 0 rfl) ?_
                    refine lv_isub hx hb dX1_isLedTo_39 ?_
                    rw [show ((nI x0) - 1) = (nI x0 - 1) from rfl]
                    refine lv_istore (lv' := [(6, .int (nI x0 - 1)), (5, .int 1), (4, .int 1), (8, .int (nI 3)), (7, .int (nI y0)), (3, .int (nI y0)), (2, .int (nI x0)), (0, .ref (o 0)), (1, .int (nI e0))]) hx hb dX1_isLedTo_40 hl (by decide) rfl (fun ls hl => ?_)
                    refine lv_aload_n hx hb dX1_isLedTo_42 rfl (lv_at hl 7 rfl) ?_
                    refine lv_iload_n hx hb dX1_isLedTo_43 rfl (lv_at hl 8 rfl) ?_
                    refine ro_V1 ⟨hx, hb, hml, hown, hts⟩ (c_X1_isAcross l D o cI cZ th tw ch sm od st cl us w h e0 gw gw2 gh2 (by have := nE_le gw2 gh2; omega)) (cwV 1 hts gX1_isLedTo_X1_isAcross rfl rfl rfl (by decide +kernel) ⟨Nat.le_of_ble_eq_true rfl, Nat.le_of_ble_eq_true rfl⟩) (va_recv hK hP (ci := 1) (q0 := 0) rfl rfl) hP hK hP hS rfl hl.1 (lv_room (Nat.le_of_ble_eq_true rfl)) dX1_isLedTo_44 ⟨Nat.le_of_ble_eq_true rfl, Nat.le_of_ble_eq_true rfl⟩ (fun r44 H locs hr44 hP hS => ?_)
                    subst hr44
                    refine lv_if_eq (tgt := 57) hx hb dX1_isLedTo_47 (by decide) (fun c47_2 => ?_) (fun c47_2 => ?_)
                    · refine lv_iload_n hx hb dX1_isLedTo_57 rfl (lv_at hl 5 rfl) ?_
                      refine lv_istore (lv' := [(7, .int (nI y0)), (6, .int (nI x0 - 1)), (5, .int 1), (4, .int 1), (8, .int (nI 3)), (3, .int (nI y0)), (2, .int (nI x0)), (0, .ref (o 0)), (1, .int (nI e0))]) hx hb dX1_isLedTo_58 hl (by decide) rfl (fun ls hl => ?_)
                      refine lv_aload_n hx hb dX1_isLedTo_60 rfl (lv_at hl 7 rfl) ?_
                      refine lv_iload_n hx hb dX1_isLedTo_61 rfl (lv_at hl 8 rfl) ?_
                      refine ro_V1 ⟨hx, hb, hml, hown, hts⟩ (c_X1_isAcross l D o cI cZ th tw ch sm od st cl us w h e0 gw gw2 gh2 (by have := nE_le gw2 gh2; omega)) (cwV 1 hts gX1_isLedTo_X1_isAcross rfl rfl rfl (by decide +kernel) ⟨Nat.le_of_ble_eq_true rfl, Nat.le_of_ble_eq_true rfl⟩) (va_recv hK hP (ci := 1) (q0 := 0) rfl rfl) hP hK hP hS rfl hl.1 (lv_room (Nat.le_of_ble_eq_true rfl)) dX1_isLedTo_62 ⟨Nat.le_of_ble_eq_true rfl, Nat.le_of_ble_eq_true rfl⟩ (fun r62 H locs hr62 hP hS => ?_)
                      subst hr62
                      refine lv_if_eq (tgt := 75) hx hb dX1_isLedTo_65 (by decide) (fun c65_2 => ?_) (fun c65_2 => ?_)
                      · refine lv_iconst (v := 3) hx hb dX1_isLedTo_75 (by decide) ?_
                        refine lv_iconst (v := 2) hx hb dX1_isLedTo_76 (by decide) ?_
                        refine lv_iload hx hb dX1_isLedTo_77 (lv_at hl 2 rfl) ?_
                        refine lv_imul hx hb dX1_isLedTo_79 ?_
                        refine lv_isub hx hb dX1_isLedTo_80 ?_
                        rw [show (3 - (2 * 1)) = nI 1 from by decide]
                        refine lv_istore (lv' := [(8, .int (nI 1)), (7, .int (nI y0)), (6, .int (nI x0 - 1)), (5, .int 1), (4, .int 1), (3, .int (nI y0)), (2, .int (nI x0)), (0, .ref (o 0)), (1, .int (nI e0))]) hx hb dX1_isLedTo_81 hl (by decide) rfl (fun ls hl => ?_)
                        refine lv_iload hx hb dX1_isLedTo_83 (lv_at hl 4 rfl) ?_
                        refine lv_if_ne (tgt := 112) hx hb dX1_isLedTo_85 (by decide) (fun c85_2 => ?_) (fun c85_2 => ?_)
                        · refine lv_iconst (v := 1) hx hb dX1_isLedTo_112 (by decide) ?_
                          refine lv_goto (tgt := 117) hx hb dX1_isLedTo_113 (by decide) ?_
                          refine lv_istore (lv' := [(4, .int 1), (8, .int (nI 1)), (7, .int (nI y0)), (6, .int (nI x0 - 1)), (5, .int 1), (3, .int (nI y0)), (2, .int (nI x0)), (0, .ref (o 0)), (1, .int (nI e0))]) hx hb dX1_isLedTo_117 hl (by decide) rfl (fun ls hl => ?_)
                          refine lv_iinc (v := 2) (lv' := [(5, .int 2), (4, .int 1), (8, .int (nI 1)), (7, .int (nI y0)), (6, .int (nI x0 - 1)), (3, .int (nI y0)), (2, .int (nI x0)), (0, .ref (o 0)), (1, .int (nI e0))]) hx hb dX1_isLedTo_119 hl (k := 4) rfl (by decide) (by decide) rfl (fun ls hl => ?_)
                          refine lv_goto (tgt := 18) hx hb dX1_isLedTo_122 (by decide) ?_
                          refine lv_iload hx hb dX1_isLedTo_18 (lv_at hl 0 rfl) ?_
                          refine lv_iconst (v := 2) hx hb dX1_isLedTo_20 (by decide) ?_
                          refine lv_icmp_ge (tgt := 125) hx hb dX1_isLedTo_21 (by decide) (fun c21_3 => ?_) (fun c21_3 => ?_)
                          · refine lv_iload hx hb dX1_isLedTo_125 (lv_at hl 1 rfl) ?_
                            exact W.zret (v := 1) (ty := .boolean) hx hb hr rfl (fun t ht hW => ⟨⟨_, (), rfl, by unfold ltR; rw [if_neg (bd_f c29), ← ex0, ← ey0]; simp [bI_n0.mp c96, bI_n0.mp c109, bI], trivial⟩, hS.F ht⟩) hS.2.2 dX1_isLedTo_127
                          · exact absurd c21_3 (by decide)
                        · exact absurd c85_2 (by decide)
                      · exact absurd c29 c65_2
                    · exact absurd c29 c47_2
                  · exact absurd c29 c29_2
        · exact absurd c29 c65
      · exact absurd c29 c47
    · refine lv_iload_n hx hb dX1_isLedTo_32 rfl (lv_at hl 3 rfl) ?_
      refine lv_goto (tgt := 40) hx hb dX1_isLedTo_33 (by decide) ?_
      refine lv_istore (lv' := [(6, .int (nI x0)), (5, .int 0), (4, .int 0), (3, .int (nI y0)), (2, .int (nI x0)), (0, .ref (o 0)), (1, .int (nI e0))]) hx hb dX1_isLedTo_40 hl (by decide) rfl (fun ls hl => ?_)
      refine lv_aload_n hx hb dX1_isLedTo_42 rfl (lv_at hl 5 rfl) ?_
      refine lv_iload_n hx hb dX1_isLedTo_43 rfl (lv_at hl 6 rfl) ?_
      refine ro_V1 ⟨hx, hb, hml, hown, hts⟩ (c_X1_isAcross l D o cI cZ th tw ch sm od st cl us w h e0 gw gw2 gh2 (by have := nE_le gw2 gh2; omega)) (cwV 1 hts gX1_isLedTo_X1_isAcross rfl rfl rfl (by decide +kernel) ⟨Nat.le_of_ble_eq_true rfl, Nat.le_of_ble_eq_true rfl⟩) (va_recv hK hP (ci := 1) (q0 := 0) rfl rfl) hP hK hP hS rfl hl.1 (lv_room (Nat.le_of_ble_eq_true rfl)) dX1_isLedTo_44 ⟨Nat.le_of_ble_eq_true rfl, Nat.le_of_ble_eq_true rfl⟩ (fun r44 H locs hr44 hP hS => ?_)
      subst hr44
      refine lv_if_eq (tgt := 57) hx hb dX1_isLedTo_47 (by decide) (fun c47 => ?_) (fun c47 => ?_)
      · exact absurd c47 c29
      · refine lv_iload_n hx hb dX1_isLedTo_50 rfl (lv_at hl 3 rfl) ?_
        refine lv_iload hx hb dX1_isLedTo_51 (lv_at hl 1 rfl) ?_
        refine lv_isub hx hb dX1_isLedTo_53 ?_
        rw [show ((nI y0) - 0) = nI y0 from by simp]
        refine lv_goto (tgt := 58) hx hb dX1_isLedTo_54 (by decide) ?_
        refine lv_istore (lv' := [(7, .int (nI y0)), (6, .int (nI x0)), (5, .int 0), (4, .int 0), (3, .int (nI y0)), (2, .int (nI x0)), (0, .ref (o 0)), (1, .int (nI e0))]) hx hb dX1_isLedTo_58 hl (by decide) rfl (fun ls hl => ?_)
        refine lv_aload_n hx hb dX1_isLedTo_60 rfl (lv_at hl 6 rfl) ?_
        refine lv_iload_n hx hb dX1_isLedTo_61 rfl (lv_at hl 7 rfl) ?_
        refine ro_V1 ⟨hx, hb, hml, hown, hts⟩ (c_X1_isAcross l D o cI cZ th tw ch sm od st cl us w h e0 gw gw2 gh2 (by have := nE_le gw2 gh2; omega)) (cwV 1 hts gX1_isLedTo_X1_isAcross rfl rfl rfl (by decide +kernel) ⟨Nat.le_of_ble_eq_true rfl, Nat.le_of_ble_eq_true rfl⟩) (va_recv hK hP (ci := 1) (q0 := 0) rfl rfl) hP hK hP hS rfl hl.1 (lv_room (Nat.le_of_ble_eq_true rfl)) dX1_isLedTo_62 ⟨Nat.le_of_ble_eq_true rfl, Nat.le_of_ble_eq_true rfl⟩ (fun r62 H locs hr62 hP hS => ?_)
        subst hr62
        refine lv_if_eq (tgt := 75) hx hb dX1_isLedTo_65 (by decide) (fun c65 => ?_) (fun c65 => ?_)
        · exact absurd c65 c29
        · refine lv_iconst (v := 2) hx hb dX1_isLedTo_68 (by decide) ?_
          refine lv_iload hx hb dX1_isLedTo_69 (lv_at hl 2 rfl) ?_
          refine lv_imul hx hb dX1_isLedTo_71 ?_
          rw [show (2 * 0) = nI 0 from by decide]
          refine lv_goto (tgt := 81) hx hb dX1_isLedTo_72 (by decide) ?_
          refine lv_istore (lv' := [(8, .int (nI 0)), (7, .int (nI y0)), (6, .int (nI x0)), (5, .int 0), (4, .int 0), (3, .int (nI y0)), (2, .int (nI x0)), (0, .ref (o 0)), (1, .int (nI e0))]) hx hb dX1_isLedTo_81 hl (by decide) rfl (fun ls hl => ?_)
          refine lv_iload hx hb dX1_isLedTo_83 (lv_at hl 4 rfl) ?_
          refine lv_if_ne (tgt := 112) hx hb dX1_isLedTo_85 (by decide) (fun c85 => ?_) (fun c85 => ?_)
          · exact absurd c85 (by decide)
          · refine lv_aload_n hx hb dX1_isLedTo_88 rfl (lv_at hl 7 rfl) ?_
            refine lv_iload hx hb dX1_isLedTo_89 (lv_at hl 2 rfl) ?_
            refine lv_iload hx hb dX1_isLedTo_91 (lv_at hl 1 rfl) ?_
            refine ro_V2 ⟨hx, hb, hml, hown, hts⟩ (c_X1_isCell l D o cI cZ th tw ch sm od st cl us w h (nI x0) (nI y0) (by omega) (by omega)) (cwV 2 hts gX1_isLedTo_X1_isCell rfl rfl rfl (by decide +kernel) ⟨Nat.le_of_ble_eq_true rfl, Nat.le_of_ble_eq_true rfl⟩) (va_recv hK hP (ci := 1) (q0 := 0) rfl rfl) hP hK hP hS rfl hl.1 (lv_room (Nat.le_of_ble_eq_true rfl)) dX1_isLedTo_93 ⟨Nat.le_of_ble_eq_true rfl, Nat.le_of_ble_eq_true rfl⟩ (fun r93 H locs hr93 hP hS => ?_)
            subst hr93
            rw [show (bI (decide (0 ≤ (nI x0)) && decide ((nI x0) < nI (w - 1)) && decide (0 ≤ (nI y0)) && decide ((nI y0) < nI (h - 1)))) = bI (cl0 w h x0 y0) from by rw [cl_0 gw gw2 gh gh2 (by omega) (by omega)]]
            refine lv_if_eq (tgt := 116) hx hb dX1_isLedTo_96 (by decide) (fun c96 => ?_) (fun c96 => ?_)
            · refine lv_iconst (v := 0) hx hb dX1_isLedTo_116 (by decide) ?_
              refine lv_istore (lv' := [(4, .int 0), (8, .int (nI 0)), (7, .int (nI y0)), (6, .int (nI x0)), (5, .int 0), (3, .int (nI y0)), (2, .int (nI x0)), (0, .ref (o 0)), (1, .int (nI e0))]) hx hb dX1_isLedTo_117 hl (by decide) rfl (fun ls hl => ?_)
              refine lv_iinc (v := 1) (lv' := [(5, .int 1), (4, .int 0), (8, .int (nI 0)), (7, .int (nI y0)), (6, .int (nI x0)), (3, .int (nI y0)), (2, .int (nI x0)), (0, .ref (o 0)), (1, .int (nI e0))]) hx hb dX1_isLedTo_119 hl (k := 4) rfl (by decide) (by decide) rfl (fun ls hl => ?_)
              refine lv_goto (tgt := 18) hx hb dX1_isLedTo_122 (by decide) ?_
              refine lv_iload hx hb dX1_isLedTo_18 (lv_at hl 0 rfl) ?_
              refine lv_iconst (v := 2) hx hb dX1_isLedTo_20 (by decide) ?_
              refine lv_icmp_ge (tgt := 125) hx hb dX1_isLedTo_21 (by decide) (fun c21_2 => ?_) (fun c21_2 => ?_)
              · exact absurd c21_2 (by decide)
              · refine lv_aload_n hx hb dX1_isLedTo_24 rfl (lv_at hl 7 rfl) ?_
                refine lv_iload_n hx hb dX1_isLedTo_25 rfl (lv_at hl 8 rfl) ?_
                refine ro_V1 ⟨hx, hb, hml, hown, hts⟩ (c_X1_isAcross l D o cI cZ th tw ch sm od st cl us w h e0 gw gw2 gh2 (by have := nE_le gw2 gh2; omega)) (cwV 1 hts gX1_isLedTo_X1_isAcross rfl rfl rfl (by decide +kernel) ⟨Nat.le_of_ble_eq_true rfl, Nat.le_of_ble_eq_true rfl⟩) (va_recv hK hP (ci := 1) (q0 := 0) rfl rfl) hP hK hP hS rfl hl.1 (lv_room (Nat.le_of_ble_eq_true rfl)) dX1_isLedTo_26 ⟨Nat.le_of_ble_eq_true rfl, Nat.le_of_ble_eq_true rfl⟩ (fun r26 H locs hr26 hP hS => ?_)
                subst hr26
                refine lv_if_eq (tgt := 36) hx hb dX1_isLedTo_29 (by decide) (fun c29_2 => ?_) (fun c29_2 => ?_)
                · exact absurd c29_2 c29
                · refine lv_iload_n hx hb dX1_isLedTo_32 rfl (lv_at hl 6 rfl) ?_
                  refine lv_goto (tgt := 40) hx hb dX1_isLedTo_33 (by decide) ?_
                  refine lv_istore (lv' := [(6, .int (nI x0)), (5, .int 1), (4, .int 0), (8, .int (nI 0)), (7, .int (nI y0)), (3, .int (nI y0)), (2, .int (nI x0)), (0, .ref (o 0)), (1, .int (nI e0))]) hx hb dX1_isLedTo_40 hl (by decide) rfl (fun ls hl => ?_)
                  refine lv_aload_n hx hb dX1_isLedTo_42 rfl (lv_at hl 7 rfl) ?_
                  refine lv_iload_n hx hb dX1_isLedTo_43 rfl (lv_at hl 8 rfl) ?_
                  refine ro_V1 ⟨hx, hb, hml, hown, hts⟩ (c_X1_isAcross l D o cI cZ th tw ch sm od st cl us w h e0 gw gw2 gh2 (by have := nE_le gw2 gh2; omega)) (cwV 1 hts gX1_isLedTo_X1_isAcross rfl rfl rfl (by decide +kernel) ⟨Nat.le_of_ble_eq_true rfl, Nat.le_of_ble_eq_true rfl⟩) (va_recv hK hP (ci := 1) (q0 := 0) rfl rfl) hP hK hP hS rfl hl.1 (lv_room (Nat.le_of_ble_eq_true rfl)) dX1_isLedTo_44 ⟨Nat.le_of_ble_eq_true rfl, Nat.le_of_ble_eq_true rfl⟩ (fun r44 H locs hr44 hP hS => ?_)
                  subst hr44
                  refine lv_if_eq (tgt := 57) hx hb dX1_isLedTo_47 (by decide) (fun c47_2 => ?_) (fun c47_2 => ?_)
                  · exact absurd c47_2 c29
                  · refine lv_iload_n hx hb dX1_isLedTo_50 rfl (lv_at hl 5 rfl) ?_
                    refine lv_iload hx hb dX1_isLedTo_51 (lv_at hl 1 rfl) ?_
                    refine lv_isub hx hb dX1_isLedTo_53 ?_
                    rw [show ((nI y0) - 1) = (nI y0 - 1) from rfl]
                    refine lv_goto (tgt := 58) hx hb dX1_isLedTo_54 (by decide) ?_
                    refine lv_istore (lv' := [(7, .int (nI y0 - 1)), (6, .int (nI x0)), (5, .int 1), (4, .int 0), (8, .int (nI 0)), (3, .int (nI y0)), (2, .int (nI x0)), (0, .ref (o 0)), (1, .int (nI e0))]) hx hb dX1_isLedTo_58 hl (by decide) rfl (fun ls hl => ?_)
                    refine lv_aload_n hx hb dX1_isLedTo_60 rfl (lv_at hl 7 rfl) ?_
                    refine lv_iload_n hx hb dX1_isLedTo_61 rfl (lv_at hl 8 rfl) ?_
                    refine ro_V1 ⟨hx, hb, hml, hown, hts⟩ (c_X1_isAcross l D o cI cZ th tw ch sm od st cl us w h e0 gw gw2 gh2 (by have := nE_le gw2 gh2; omega)) (cwV 1 hts gX1_isLedTo_X1_isAcross rfl rfl rfl (by decide +kernel) ⟨Nat.le_of_ble_eq_true rfl, Nat.le_of_ble_eq_true rfl⟩) (va_recv hK hP (ci := 1) (q0 := 0) rfl rfl) hP hK hP hS rfl hl.1 (lv_room (Nat.le_of_ble_eq_true rfl)) dX1_isLedTo_62 ⟨Nat.le_of_ble_eq_true rfl, Nat.le_of_ble_eq_true rfl⟩ (fun r62 H locs hr62 hP hS => ?_)
                    subst hr62
                    refine lv_if_eq (tgt := 75) hx hb dX1_isLedTo_65 (by decide) (fun c65_2 => ?_) (fun c65_2 => ?_)
                    · exact absurd c65_2 c29
                    · refine lv_iconst (v := 2) hx hb dX1_isLedTo_68 (by decide) ?_
                      refine lv_iload hx hb dX1_isLedTo_69 (lv_at hl 2 rfl) ?_
                      refine lv_imul hx hb dX1_isLedTo_71 ?_
                      rw [show (2 * 1) = nI 2 from by decide]
                      refine lv_goto (tgt := 81) hx hb dX1_isLedTo_72 (by decide) ?_
                      refine lv_istore (lv' := [(8, .int (nI 2)), (7, .int (nI y0 - 1)), (6, .int (nI x0)), (5, .int 1), (4, .int 0), (3, .int (nI y0)), (2, .int (nI x0)), (0, .ref (o 0)), (1, .int (nI e0))]) hx hb dX1_isLedTo_81 hl (by decide) rfl (fun ls hl => ?_)
                      refine lv_iload hx hb dX1_isLedTo_83 (lv_at hl 4 rfl) ?_
                      refine lv_if_ne (tgt := 112) hx hb dX1_isLedTo_85 (by decide) (fun c85_2 => ?_) (fun c85_2 => ?_)
                      · exact absurd c85_2 (by decide)
                      · refine lv_aload_n hx hb dX1_isLedTo_88 rfl (lv_at hl 7 rfl) ?_
                        refine lv_iload hx hb dX1_isLedTo_89 (lv_at hl 2 rfl) ?_
                        refine lv_iload hx hb dX1_isLedTo_91 (lv_at hl 1 rfl) ?_
                        refine ro_V2 ⟨hx, hb, hml, hown, hts⟩ (c_X1_isCell l D o cI cZ th tw ch sm od st cl us w h (nI x0) (nI y0 - 1) (by omega) (by omega)) (cwV 2 hts gX1_isLedTo_X1_isCell rfl rfl rfl (by decide +kernel) ⟨Nat.le_of_ble_eq_true rfl, Nat.le_of_ble_eq_true rfl⟩) (va_recv hK hP (ci := 1) (q0 := 0) rfl rfl) hP hK hP hS rfl hl.1 (lv_room (Nat.le_of_ble_eq_true rfl)) dX1_isLedTo_93 ⟨Nat.le_of_ble_eq_true rfl, Nat.le_of_ble_eq_true rfl⟩ (fun r93 H locs hr93 hP hS => ?_)
                        subst hr93
                        rw [show (bI (decide (0 ≤ (nI x0)) && decide ((nI x0) < nI (w - 1)) && decide (0 ≤ (nI y0 - 1)) && decide ((nI y0 - 1) < nI (h - 1)))) = bI (clY w h x0 y0) from by rw [cl_Y gw gw2 gh gh2 (by omega) (by omega)]]
                        refine lv_if_eq (tgt := 116) hx hb dX1_isLedTo_96 (by decide) (fun c96_2 => ?_) (fun c96_2 => ?_)
                        · refine lv_iconst (v := 0) hx hb dX1_isLedTo_116 (by decide) ?_
                          refine lv_istore (lv' := [(4, .int 0), (8, .int (nI 2)), (7, .int (nI y0 - 1)), (6, .int (nI x0)), (5, .int 1), (3, .int (nI y0)), (2, .int (nI x0)), (0, .ref (o 0)), (1, .int (nI e0))]) hx hb dX1_isLedTo_117 hl (by decide) rfl (fun ls hl => ?_)
                          refine lv_iinc (v := 2) (lv' := [(5, .int 2), (4, .int 0), (8, .int (nI 2)), (7, .int (nI y0 - 1)), (6, .int (nI x0)), (3, .int (nI y0)), (2, .int (nI x0)), (0, .ref (o 0)), (1, .int (nI e0))]) hx hb dX1_isLedTo_119 hl (k := 4) rfl (by decide) (by decide) rfl (fun ls hl => ?_)
                          refine lv_goto (tgt := 18) hx hb dX1_isLedTo_122 (by decide) ?_
                          refine lv_iload hx hb dX1_isLedTo_18 (lv_at hl 0 rfl) ?_
                          refine lv_iconst (v := 2) hx hb dX1_isLedTo_20 (by decide) ?_
                          refine lv_icmp_ge (tgt := 125) hx hb dX1_isLedTo_21 (by decide) (fun c21_3 => ?_) (fun c21_3 => ?_)
                          · refine lv_iload hx hb dX1_isLedTo_125 (lv_at hl 1 rfl) ?_
                            exact W.zret (v := 0) (ty := .boolean) hx hb hr rfl (fun t ht hW => ⟨⟨_, (), rfl, by unfold ltR; rw [if_pos (bd_t c29), ← ex0, ← ey0]; simp [bI_0.mp c96, bI_0.mp c96_2, bI], trivial⟩, hS.F ht⟩) hS.2.2 dX1_isLedTo_127
                          · exact absurd c21_3 (by decide)
                        · have hc1 := clY_ok (bI_n0.mp c96_2)
                          rw [nI_m1 hc1.2.1] at hl
                          refine lv_aload_n hx hb dX1_isLedTo_99 rfl (lv_at hl 7 rfl) ?_
                          refine lv_iload hx hb dX1_isLedTo_100 (lv_at hl 2 rfl) ?_
                          refine lv_iload hx hb dX1_isLedTo_102 (lv_at hl 1 rfl) ?_
                          refine lv_iload hx hb dX1_isLedTo_104 (lv_at hl 0 rfl) ?_
                          refine ro_V3 ⟨hx, hb, hml, hown, hts⟩ (c_X1_isUp l D o cI cZ th tw ch sm od st cl us w h f x0 (y0 - 1) 2 gw2 gh2 gf (by omega) (by omega) (by decide)) (cwV 3 hts gX1_isLedTo_X1_isUp rfl rfl rfl (by decide +kernel) ⟨Nat.le_of_ble_eq_true rfl, Nat.le_of_ble_eq_true rfl⟩) (va_recv hK hP (ci := 1) (q0 := 0) rfl rfl) hP hK hP hS rfl hl.1 (lv_room (Nat.le_of_ble_eq_true rfl)) dX1_isLedTo_106 ⟨Nat.le_of_ble_eq_true rfl, Nat.le_of_ble_eq_true rfl⟩ (fun r106 H locs hr106 hP hS => ?_)
                          subst hr106
                          refine lv_if_eq (tgt := 116) hx hb dX1_isLedTo_109 (by decide) (fun c109 => ?_) (fun c109 => ?_)
                          · refine lv_iconst (v := 0) hx hb dX1_isLedTo_116 (by decide) ?_
                            refine lv_istore (lv' := [(4, .int 0), (8, .int (nI 2)), (7, .int (nI (y0 - 1))), (6, .int (nI x0)), (5, .int 1), (3, .int (nI y0)), (2, .int (nI x0)), (0, .ref (o 0)), (1, .int (nI e0))]) hx hb dX1_isLedTo_117 hl (by decide) rfl (fun ls hl => ?_)
                            refine lv_iinc (v := 2) (lv' := [(5, .int 2), (4, .int 0), (8, .int (nI 2)), (7, .int (nI (y0 - 1))), (6, .int (nI x0)), (3, .int (nI y0)), (2, .int (nI x0)), (0, .ref (o 0)), (1, .int (nI e0))]) hx hb dX1_isLedTo_119 hl (k := 4) rfl (by decide) (by decide) rfl (fun ls hl => ?_)
                            refine lv_goto (tgt := 18) hx hb dX1_isLedTo_122 (by decide) ?_
                            refine lv_iload hx hb dX1_isLedTo_18 (lv_at hl 0 rfl) ?_
                            refine lv_iconst (v := 2) hx hb dX1_isLedTo_20 (by decide) ?_
                            refine lv_icmp_ge (tgt := 125) hx hb dX1_isLedTo_21 (by decide) (fun c21_3 => ?_) (fun c21_3 => ?_)
                            · refine lv_iload hx hb dX1_isLedTo_125 (lv_at hl 1 rfl) ?_
                              exact W.zret (v := 0) (ty := .boolean) hx hb hr rfl (fun t ht hW => ⟨⟨_, (), rfl, by unfold ltR; rw [if_pos (bd_t c29), ← ex0, ← ey0]; simp [bI_0.mp c96, bI_n0.mp c96_2, bI_0.mp c109, bI], trivial⟩, hS.F ht⟩) hS.2.2 dX1_isLedTo_127
                            · exact absurd c21_3 (by decide)
                          · refine lv_iconst (v := 1) hx hb dX1_isLedTo_112 (by decide) ?_
                            refine lv_goto (tgt := 117) hx hb dX1_isLedTo_113 (by decide) ?_
                            refine lv_istore (lv' := [(4, .int 1), (8, .int (nI 2)), (7, .int (nI (y0 - 1))), (6, .int (nI x0)), (5, .int 1), (3, .int (nI y0)), (2, .int (nI x0)), (0, .ref (o 0)), (1, .int (nI e0))]) hx hb dX1_isLedTo_117 hl (by decide) rfl (fun ls hl => ?_)
                            refine lv_iinc (v := 2) (lv' := [(5, .int 2), (4, .int 1), (8, .int (nI 2)), (7, .int (nI (y0 - 1))), (6, .int (nI x0)), (3, .int (nI y0)), (2, .int (nI x0)), (0, .ref (o 0)), (1, .int (nI e0))]) hx hb dX1_isLedTo_119 hl (k := 4) rfl (by decide) (by decide) rfl (fun ls hl => ?_)
                            refine lv_goto (tgt := 18) hx hb dX1_isLedTo_122 (by decide) ?_
                            refine lv_iload hx hb dX1_isLedTo_18 (lv_at hl 0 rfl) ?_
                            refine lv_iconst (v := 2) hx hb dX1_isLedTo_20 (by decide) ?_
                            refine lv_icmp_ge (tgt := 125) hx hb dX1_isLedTo_21 (by decide) (fun c21_3 => ?_) (fun c21_3 => ?_)
                            · refine lv_iload hx hb dX1_isLedTo_125 (lv_at hl 1 rfl) ?_
                              exact W.zret (v := 1) (ty := .boolean) hx hb hr rfl (fun t ht hW => ⟨⟨_, (), rfl, by unfold ltR; rw [if_pos (bd_t c29), ← ex0, ← ey0]; simp [bI_0.mp c96, bI_n0.mp c96_2, bI_n0.mp c109, bI], trivial⟩, hS.F ht⟩) hS.2.2 dX1_isLedTo_127
                            · exact absurd c21_3 (by decide)
            · have hc0 := cl0_ok (bI_n0.mp c96)
              refine lv_aload_n hx hb dX1_isLedTo_99 rfl (lv_at hl 7 rfl) ?_
              refine lv_iload hx hb dX1_isLedTo_100 (lv_at hl 2 rfl) ?_
              refine lv_iload hx hb dX1_isLedTo_102 (lv_at hl 1 rfl) ?_
              refine lv_iload hx hb dX1_isLedTo_104 (lv_at hl 0 rfl) ?_
              refine ro_V3 ⟨hx, hb, hml, hown, hts⟩ (c_X1_isUp l D o cI cZ th tw ch sm od st cl us w h f x0 y0 0 gw2 gh2 gf (by omega) (by omega) (by decide)) (cwV 3 hts gX1_isLedTo_X1_isUp rfl rfl rfl (by decide +kernel) ⟨Nat.le_of_ble_eq_true rfl, Nat.le_of_ble_eq_true rfl⟩) (va_recv hK hP (ci := 1) (q0 := 0) rfl rfl) hP hK hP hS rfl hl.1 (lv_room (Nat.le_of_ble_eq_true rfl)) dX1_isLedTo_106 ⟨Nat.le_of_ble_eq_true rfl, Nat.le_of_ble_eq_true rfl⟩ (fun r106 H locs hr106 hP hS => ?_)
              subst hr106
              refine lv_if_eq (tgt := 116) hx hb dX1_isLedTo_109 (by decide) (fun c109 => ?_) (fun c109 => ?_)
              · refine lv_iconst (v := 0) hx hb dX1_isLedTo_116 (by decide) ?_
                refine lv_istore (lv' := [(4, .int 0), (8, .int (nI 0)), (7, .int (nI y0)), (6, .int (nI x0)), (5, .int 0), (3, .int (nI y0)), (2, .int (nI x0)), (0, .ref (o 0)), (1, .int (nI e0))]) hx hb dX1_isLedTo_117 hl (by decide) rfl (fun ls hl => ?_)
                refine lv_iinc (v := 1) (lv' := [(5, .int 1), (4, .int 0), (8, .int (nI 0)), (7, .int (nI y0)), (6, .int (nI x0)), (3, .int (nI y0)), (2, .int (nI x0)), (0, .ref (o 0)), (1, .int (nI e0))]) hx hb dX1_isLedTo_119 hl (k := 4) rfl (by decide) (by decide) rfl (fun ls hl => ?_)
                refine lv_goto (tgt := 18) hx hb dX1_isLedTo_122 (by decide) ?_
                refine lv_iload hx hb dX1_isLedTo_18 (lv_at hl 0 rfl) ?_
                refine lv_iconst (v := 2) hx hb dX1_isLedTo_20 (by decide) ?_
                refine lv_icmp_ge (tgt := 125) hx hb dX1_isLedTo_21 (by decide) (fun c21_2 => ?_) (fun c21_2 => ?_)
                · exact absurd c21_2 (by decide)
                · refine lv_aload_n hx hb dX1_isLedTo_24 rfl (lv_at hl 7 rfl) ?_
                  refine lv_iload_n hx hb dX1_isLedTo_25 rfl (lv_at hl 8 rfl) ?_
                  refine ro_V1 ⟨hx, hb, hml, hown, hts⟩ (c_X1_isAcross l D o cI cZ th tw ch sm od st cl us w h e0 gw gw2 gh2 (by have := nE_le gw2 gh2; omega)) (cwV 1 hts gX1_isLedTo_X1_isAcross rfl rfl rfl (by decide +kernel) ⟨Nat.le_of_ble_eq_true rfl, Nat.le_of_ble_eq_true rfl⟩) (va_recv hK hP (ci := 1) (q0 := 0) rfl rfl) hP hK hP hS rfl hl.1 (lv_room (Nat.le_of_ble_eq_true rfl)) dX1_isLedTo_26 ⟨Nat.le_of_ble_eq_true rfl, Nat.le_of_ble_eq_true rfl⟩ (fun r26 H locs hr26 hP hS => ?_)
                  subst hr26
                  refine lv_if_eq (tgt := 36) hx hb dX1_isLedTo_29 (by decide) (fun c29_2 => ?_) (fun c29_2 => ?_)
                  · exact absurd c29_2 c29
                  · refine lv_iload_n hx hb dX1_isLedTo_32 rfl (lv_at hl 6 rfl) ?_
                    refine lv_goto (tgt := 40) hx hb dX1_isLedTo_33 (by decide) ?_
                    refine lv_istore (lv' := [(6, .int (nI x0)), (5, .int 1), (4, .int 0), (8, .int (nI 0)), (7, .int (nI y0)), (3, .int (nI y0)), (2, .int (nI x0)), (0, .ref (o 0)), (1, .int (nI e0))]) hx hb dX1_isLedTo_40 hl (by decide) rfl (fun ls hl => ?_)
                    refine lv_aload_n hx hb dX1_isLedTo_42 rfl (lv_at hl 7 rfl) ?_
                    refine lv_iload_n hx hb dX1_isLedTo_43 rfl (lv_at hl 8 rfl) ?_
                    refine ro_V1 ⟨hx, hb, hml, hown, hts⟩ (c_X1_isAcross l D o cI cZ th tw ch sm od st cl us w h e0 gw gw2 gh2 (by have := nE_le gw2 gh2; omega)) (cwV 1 hts gX1_isLedTo_X1_isAcross rfl rfl rfl (by decide +kernel) ⟨Nat.le_of_ble_eq_true rfl, Nat.le_of_ble_eq_true rfl⟩) (va_recv hK hP (ci := 1) (q0 := 0) rfl rfl) hP hK hP hS rfl hl.1 (lv_room (Nat.le_of_ble_eq_true rfl)) dX1_isLedTo_44 ⟨Nat.le_of_ble_eq_true rfl, Nat.le_of_ble_eq_true rfl⟩ (fun r44 H locs hr44 hP hS => ?_)
                    subst hr44
                    refine lv_if_eq (tgt := 57) hx hb dX1_isLedTo_47 (by decide) (fun c47_2 => ?_) (fun c47_2 => ?_)
                    · exact absurd c47_2 c29
                    · refine lv_iload_n hx hb dX1_isLedTo_50 rfl (lv_at hl 5 rfl) ?_
                      refine lv_iload hx hb dX1_isLedTo_51 (lv_at hl 1 rfl) ?_
                      refine lv_isub hx hb dX1_isLedTo_53 ?_
                      rw [show ((nI y0) - 1) = (nI y0 - 1) from rfl]
                      refine lv_goto (tgt := 58) hx hb dX1_isLedTo_54 (by decide) ?_
                      refine lv_istore (lv' := [(7, .int (nI y0 - 1)), (6, .int (nI x0)), (5, .int 1), (4, .int 0), (8, .int (nI 0)), (3, .int (nI y0)), (2, .int (nI x0)), (0, .ref (o 0)), (1, .int (nI e0))]) hx hb dX1_isLedTo_58 hl (by decide) rfl (fun ls hl => ?_)
                      refine lv_aload_n hx hb dX1_isLedTo_60 rfl (lv_at hl 7 rfl) ?_
                      refine lv_iload_n hx hb dX1_isLedTo_61 rfl (lv_at hl 8 rfl) ?_
                      refine ro_V1 ⟨hx, hb, hml, hown, hts⟩ (c_X1_isAcross l D o cI cZ th tw ch sm od st cl us w h e0 gw gw2 gh2 (by have := nE_le gw2 gh2; omega)) (cwV 1 hts gX1_isLedTo_X1_isAcross rfl rfl rfl (by decide +kernel) ⟨Nat.le_of_ble_eq_true rfl, Nat.le_of_ble_eq_true rfl⟩) (va_recv hK hP (ci := 1) (q0 := 0) rfl rfl) hP hK hP hS rfl hl.1 (lv_room (Nat.le_of_ble_eq_true rfl)) dX1_isLedTo_62 ⟨Nat.le_of_ble_eq_true rfl, Nat.le_of_ble_eq_true rfl⟩ (fun r62 H locs hr62 hP hS => ?_)
                      subst hr62
                      refine lv_if_eq (tgt := 75) hx hb dX1_isLedTo_65 (by decide) (fun c65_2 => ?_) (fun c65_2 => ?_)
                      · exact absurd c65_2 c29
                      · refine lv_iconst (v := 2) hx hb dX1_isLedTo_68 (by decide) ?_
                        refine lv_iload hx hb dX1_isLedTo_69 (lv_at hl 2 rfl) ?_
                        refine lv_imul hx hb dX1_isLedTo_71 ?_
                        rw [show (2 * 1) = nI 2 from by decide]
                        refine lv_goto (tgt := 81) hx hb dX1_isLedTo_72 (by decide) ?_
                        refine lv_istore (lv' := [(8, .int (nI 2)), (7, .int (nI y0 - 1)), (6, .int (nI x0)), (5, .int 1), (4, .int 0), (3, .int (nI y0)), (2, .int (nI x0)), (0, .ref (o 0)), (1, .int (nI e0))]) hx hb dX1_isLedTo_81 hl (by decide) rfl (fun ls hl => ?_)
                        refine lv_iload hx hb dX1_isLedTo_83 (lv_at hl 4 rfl) ?_
                        refine lv_if_ne (tgt := 112) hx hb dX1_isLedTo_85 (by decide) (fun c85_2 => ?_) (fun c85_2 => ?_)
                        · exact absurd c85_2 (by decide)
                        · refine lv_aload_n hx hb dX1_isLedTo_88 rfl (lv_at hl 7 rfl) ?_
                          refine lv_iload hx hb dX1_isLedTo_89 (lv_at hl 2 rfl) ?_
                          refine lv_iload hx hb dX1_isLedTo_91 (lv_at hl 1 rfl) ?_
                          refine ro_V2 ⟨hx, hb, hml, hown, hts⟩ (c_X1_isCell l D o cI cZ th tw ch sm od st cl us w h (nI x0) (nI y0 - 1) (by omega) (by omega)) (cwV 2 hts gX1_isLedTo_X1_isCell rfl rfl rfl (by decide +kernel) ⟨Nat.le_of_ble_eq_true rfl, Nat.le_of_ble_eq_true rfl⟩) (va_recv hK hP (ci := 1) (q0 := 0) rfl rfl) hP hK hP hS rfl hl.1 (lv_room (Nat.le_of_ble_eq_true rfl)) dX1_isLedTo_93 ⟨Nat.le_of_ble_eq_true rfl, Nat.le_of_ble_eq_true rfl⟩ (fun r93 H locs hr93 hP hS => ?_)
                          subst hr93
                          rw [show (bI (decide (0 ≤ (nI x0)) && decide ((nI x0) < nI (w - 1)) && decide (0 ≤ (nI y0 - 1)) && decide ((nI y0 - 1) < nI (h - 1)))) = bI (clY w h x0 y0) from by rw [cl_Y gw gw2 gh gh2 (by omega) (by omega)]]
                          refine lv_if_eq (tgt := 116) hx hb dX1_isLedTo_96 (by decide) (fun c96_2 => ?_) (fun c96_2 => ?_)
                          · refine lv_iconst (v := 0) hx hb dX1_isLedTo_116 (by decide) ?_
                            refine lv_istore (lv' := [(4, .int 0), (8, .int (nI 2)), (7, .int (nI y0 - 1)), (6, .int (nI x0)), (5, .int 1), (3, .int (nI y0)), (2, .int (nI x0)), (0, .ref (o 0)), (1, .int (nI e0))]) hx hb dX1_isLedTo_117 hl (by decide) rfl (fun ls hl => ?_)
                            refine lv_iinc (v := 2) (lv' := [(5, .int 2), (4, .int 0), (8, .int (nI 2)), (7, .int (nI y0 - 1)), (6, .int (nI x0)), (3, .int (nI y0)), (2, .int (nI x0)), (0, .ref (o 0)), (1, .int (nI e0))]) hx hb dX1_isLedTo_119 hl (k := 4) rfl (by decide) (by decide) rfl (fun ls hl => ?_)
                            refine lv_goto (tgt := 18) hx hb dX1_isLedTo_122 (by decide) ?_
                            refine lv_iload hx hb dX1_isLedTo_18 (lv_at hl 0 rfl) ?_
                            refine lv_iconst (v := 2) hx hb dX1_isLedTo_20 (by decide) ?_
                            refine lv_icmp_ge (tgt := 125) hx hb dX1_isLedTo_21 (by decide) (fun c21_3 => ?_) (fun c21_3 => ?_)
                            · refine lv_iload hx hb dX1_isLedTo_125 (lv_at hl 1 rfl) ?_
                              exact W.zret (v := 0) (ty := .boolean) hx hb hr rfl (fun t ht hW => ⟨⟨_, (), rfl, by unfold ltR; rw [if_pos (bd_t c29), ← ex0, ← ey0]; simp [bI_n0.mp c96, bI_0.mp c109, bI_0.mp c96_2, bI], trivial⟩, hS.F ht⟩) hS.2.2 dX1_isLedTo_127
                            · exact absurd c21_3 (by decide)
                          · have hc1 := clY_ok (bI_n0.mp c96_2)
                            rw [nI_m1 hc1.2.1] at hl
                            refine lv_aload_n hx hb dX1_isLedTo_99 rfl (lv_at hl 7 rfl) ?_
                            refine lv_iload hx hb dX1_isLedTo_100 (lv_at hl 2 rfl) ?_
                            refine lv_iload hx hb dX1_isLedTo_102 (lv_at hl 1 rfl) ?_
                            refine lv_iload hx hb dX1_isLedTo_104 (lv_at hl 0 rfl) ?_
                            refine ro_V3 ⟨hx, hb, hml, hown, hts⟩ (c_X1_isUp l D o cI cZ th tw ch sm od st cl us w h f x0 (y0 - 1) 2 gw2 gh2 gf (by omega) (by omega) (by decide)) (cwV 3 hts gX1_isLedTo_X1_isUp rfl rfl rfl (by decide +kernel) ⟨Nat.le_of_ble_eq_true rfl, Nat.le_of_ble_eq_true rfl⟩) (va_recv hK hP (ci := 1) (q0 := 0) rfl rfl) hP hK hP hS rfl hl.1 (lv_room (Nat.le_of_ble_eq_true rfl)) dX1_isLedTo_106 ⟨Nat.le_of_ble_eq_true rfl, Nat.le_of_ble_eq_true rfl⟩ (fun r106 H locs hr106 hP hS => ?_)
                            subst hr106
                            refine lv_if_eq (tgt := 116) hx hb dX1_isLedTo_109 (by decide) (fun c109_2 => ?_) (fun c109_2 => ?_)
                            · refine lv_iconst (v := 0) hx hb dX1_isLedTo_116 (by decide) ?_
                              refine lv_istore (lv' := [(4, .int 0), (8, .int (nI 2)), (7, .int (nI (y0 - 1))), (6, .int (nI x0)), (5, .int 1), (3, .int (nI y0)), (2, .int (nI x0)), (0, .ref (o 0)), (1, .int (nI e0))]) hx hb dX1_isLedTo_117 hl (by decide) rfl (fun ls hl => ?_)
                              refine lv_iinc (v := 2) (lv' := [(5, .int 2), (4, .int 0), (8, .int (nI 2)), (7, .int (nI (y0 - 1))), (6, .int (nI x0)), (3, .int (nI y0)), (2, .int (nI x0)), (0, .ref (o 0)), (1, .int (nI e0))]) hx hb dX1_isLedTo_119 hl (k := 4) rfl (by decide) (by decide) rfl (fun ls hl => ?_)
                              refine lv_goto (tgt := 18) hx hb dX1_isLedTo_122 (by decide) ?_
                              refine lv_iload hx hb dX1_isLedTo_18 (lv_at hl 0 rfl) ?_
                              refine lv_iconst (v := 2) hx hb dX1_isLedTo_20 (by decide) ?_
                              refine lv_icmp_ge (tgt := 125) hx hb dX1_isLedTo_21 (by decide) (fun c21_3 => ?_) (fun c21_3 => ?_)
                              · refine lv_iload hx hb dX1_isLedTo_125 (lv_at hl 1 rfl) ?_
                                exact W.zret (v := 0) (ty := .boolean) hx hb hr rfl (fun t ht hW => ⟨⟨_, (), rfl, by unfold ltR; rw [if_pos (bd_t c29), ← ex0, ← ey0]; simp [bI_n0.mp c96, bI_0.mp c109, bI_n0.mp c96_2, bI_0.mp c109_2, bI], trivial⟩, hS.F ht⟩) hS.2.2 dX1_isLedTo_127
                              · exact absurd c21_3 (by decide)
                            · refine lv_iconst (v := 1) hx hb dX1_isLedTo_112 (by decide) ?_
                              refine lv_goto (tgt := 117) hx hb dX1_isLedTo_113 (by decide) ?_
                              refine lv_istore (lv' := [(4, .int 1), (8, .int (nI 2)), (7, .int (nI (y0 - 1))), (6, .int (nI x0)), (5, .int 1), (3, .int (nI y0)), (2, .int (nI x0)), (0, .ref (o 0)), (1, .int (nI e0))]) hx hb dX1_isLedTo_117 hl (by decide) rfl (fun ls hl => ?_)
                              refine lv_iinc (v := 2) (lv' := [(5, .int 2), (4, .int 1), (8, .int (nI 2)), (7, .int (nI (y0 - 1))), (6, .int (nI x0)), (3, .int (nI y0)), (2, .int (nI x0)), (0, .ref (o 0)), (1, .int (nI e0))]) hx hb dX1_isLedTo_119 hl (k := 4) rfl (by decide) (by decide) rfl (fun ls hl => ?_)
                              refine lv_goto (tgt := 18) hx hb dX1_isLedTo_122 (by decide) ?_
                              refine lv_iload hx hb dX1_isLedTo_18 (lv_at hl 0 rfl) ?_
                              refine lv_iconst (v := 2) hx hb dX1_isLedTo_20 (by decide) ?_
                              refine lv_icmp_ge (tgt := 125) hx hb dX1_isLedTo_21 (by decide) (fun c21_3 => ?_) (fun c21_3 => ?_)
                              · refine lv_iload hx hb dX1_isLedTo_125 (lv_at hl 1 rfl) ?_
                                exact W.zret (v := 1) (ty := .boolean) hx hb hr rfl (fun t ht hW => ⟨⟨_, (), rfl, by unfold ltR; rw [if_pos (bd_t c29), ← ex0, ← ey0]; simp [bI_n0.mp c96, bI_0.mp c109, bI_n0.mp c96_2, bI_n0.mp c109_2, bI], trivial⟩, hS.F ht⟩) hS.2.2 dX1_isLedTo_127
                              · exact absurd c21_3 (by decide)
              · refine lv_iconst (v := 1) hx hb dX1_isLedTo_112 (by decide) ?_
                refine lv_goto (tgt := 117) hx hb dX1_isLedTo_113 (by decide) ?_
                refine lv_istore (lv' := [(4, .int 1), (8, .int (nI 0)), (7, .int (nI y0)), (6, .int (nI x0)), (5, .int 0), (3, .int (nI y0)), (2, .int (nI x0)), (0, .ref (o 0)), (1, .int (nI e0))]) hx hb dX1_isLedTo_117 hl (by decide) rfl (fun ls hl => ?_)
                refine lv_iinc (v := 1) (lv' := [(5, .int 1), (4, .int 1), (8, .int (nI 0)), (7, .int (nI y0)), (6, .int (nI x0)), (3, .int (nI y0)), (2, .int (nI x0)), (0, .ref (o 0)), (1, .int (nI e0))]) hx hb dX1_isLedTo_119 hl (k := 4) rfl (by decide) (by decide) rfl (fun ls hl => ?_)
                refine lv_goto (tgt := 18) hx hb dX1_isLedTo_122 (by decide) ?_
                refine lv_iload hx hb dX1_isLedTo_18 (lv_at hl 0 rfl) ?_
                refine lv_iconst (v := 2) hx hb dX1_isLedTo_20 (by decide) ?_
                refine lv_icmp_ge (tgt := 125) hx hb dX1_isLedTo_21 (by decide) (fun c21_2 => ?_) (fun c21_2 => ?_)
                · exact absurd c21_2 (by decide)
                · refine lv_aload_n hx hb dX1_isLedTo_24 rfl (lv_at hl 7 rfl) ?_
                  refine lv_iload_n hx hb dX1_isLedTo_25 rfl (lv_at hl 8 rfl) ?_
                  refine ro_V1 ⟨hx, hb, hml, hown, hts⟩ (c_X1_isAcross l D o cI cZ th tw ch sm od st cl us w h e0 gw gw2 gh2 (by have := nE_le gw2 gh2; omega)) (cwV 1 hts gX1_isLedTo_X1_isAcross rfl rfl rfl (by decide +kernel) ⟨Nat.le_of_ble_eq_true rfl, Nat.le_of_ble_eq_true rfl⟩) (va_recv hK hP (ci := 1) (q0 := 0) rfl rfl) hP hK hP hS rfl hl.1 (lv_room (Nat.le_of_ble_eq_true rfl)) dX1_isLedTo_26 ⟨Nat.le_of_ble_eq_true rfl, Nat.le_of_ble_eq_true rfl⟩ (fun r26 H locs hr26 hP hS => ?_)
                  subst hr26
                  refine lv_if_eq (tgt := 36) hx hb dX1_isLedTo_29 (by decide) (fun c29_2 => ?_) (fun c29_2 => ?_)
                  · exact absurd c29_2 c29
                  · refine lv_iload_n hx hb dX1_isLedTo_32 rfl (lv_at hl 6 rfl) ?_
                    refine lv_goto (tgt := 40) hx hb dX1_isLedTo_33 (by decide) ?_
                    refine lv_istore (lv' := [(6, .int (nI x0)), (5, .int 1), (4, .int 1), (8, .int (nI 0)), (7, .int (nI y0)), (3, .int (nI y0)), (2, .int (nI x0)), (0, .ref (o 0)), (1, .int (nI e0))]) hx hb dX1_isLedTo_40 hl (by decide) rfl (fun ls hl => ?_)
                    refine lv_aload_n hx hb dX1_isLedTo_42 rfl (lv_at hl 7 rfl) ?_
                    refine lv_iload_n hx hb dX1_isLedTo_43 rfl (lv_at hl 8 rfl) ?_
                    refine ro_V1 ⟨hx, hb, hml, hown, hts⟩ (c_X1_isAcross l D o cI cZ th tw ch sm od st cl us w h e0 gw gw2 gh2 (by have := nE_le gw2 gh2; omega)) (cwV 1 hts gX1_isLedTo_X1_isAcross rfl rfl rfl (by decide +kernel) ⟨Nat.le_of_ble_eq_true rfl, Nat.le_of_ble_eq_true rfl⟩) (va_recv hK hP (ci := 1) (q0 := 0) rfl rfl) hP hK hP hS rfl hl.1 (lv_room (Nat.le_of_ble_eq_true rfl)) dX1_isLedTo_44 ⟨Nat.le_of_ble_eq_true rfl, Nat.le_of_ble_eq_true rfl⟩ (fun r44 H locs hr44 hP hS => ?_)
                    subst hr44
                    refine lv_if_eq (tgt := 57) hx hb dX1_isLedTo_47 (by decide) (fun c47_2 => ?_) (fun c47_2 => ?_)
                    · exact absurd c47_2 c29
                    · refine lv_iload_n hx hb dX1_isLedTo_50 rfl (lv_at hl 5 rfl) ?_
                      refine lv_iload hx hb dX1_isLedTo_51 (lv_at hl 1 rfl) ?_
                      refine lv_isub hx hb dX1_isLedTo_53 ?_
                      rw [show ((nI y0) - 1) = (nI y0 - 1) from rfl]
                      refine lv_goto (tgt := 58) hx hb dX1_isLedTo_54 (by decide) ?_
                      refine lv_istore (lv' := [(7, .int (nI y0 - 1)), (6, .int (nI x0)), (5, .int 1), (4, .int 1), (8, .int (nI 0)), (3, .int (nI y0)), (2, .int (nI x0)), (0, .ref (o 0)), (1, .int (nI e0))]) hx hb dX1_isLedTo_58 hl (by decide) rfl (fun ls hl => ?_)
                      refine lv_aload_n hx hb dX1_isLedTo_60 rfl (lv_at hl 7 rfl) ?_
                      refine lv_iload_n hx hb dX1_isLedTo_61 rfl (lv_at hl 8 rfl) ?_
                      refine ro_V1 ⟨hx, hb, hml, hown, hts⟩ (c_X1_isAcross l D o cI cZ th tw ch sm od st cl us w h e0 gw gw2 gh2 (by have := nE_le gw2 gh2; omega)) (cwV 1 hts gX1_isLedTo_X1_isAcross rfl rfl rfl (by decide +kernel) ⟨Nat.le_of_ble_eq_true rfl, Nat.le_of_ble_eq_true rfl⟩) (va_recv hK hP (ci := 1) (q0 := 0) rfl rfl) hP hK hP hS rfl hl.1 (lv_room (Nat.le_of_ble_eq_true rfl)) dX1_isLedTo_62 ⟨Nat.le_of_ble_eq_true rfl, Nat.le_of_ble_eq_true rfl⟩ (fun r62 H locs hr62 hP hS => ?_)
                      subst hr62
                      refine lv_if_eq (tgt := 75) hx hb dX1_isLedTo_65 (by decide) (fun c65_2 => ?_) (fun c65_2 => ?_)
                      · exact absurd c65_2 c29
                      · refine lv_iconst (v := 2) hx hb dX1_isLedTo_68 (by decide) ?_
                        refine lv_iload hx hb dX1_isLedTo_69 (lv_at hl 2 rfl) ?_
                        refine lv_imul hx hb dX1_isLedTo_71 ?_
                        rw [show (2 * 1) = nI 2 from by decide]
                        refine lv_goto (tgt := 81) hx hb dX1_isLedTo_72 (by decide) ?_
                        refine lv_istore (lv' := [(8, .int (nI 2)), (7, .int (nI y0 - 1)), (6, .int (nI x0)), (5, .int 1), (4, .int 1), (3, .int (nI y0)), (2, .int (nI x0)), (0, .ref (o 0)), (1, .int (nI e0))]) hx hb dX1_isLedTo_81 hl (by decide) rfl (fun ls hl => ?_)
                        refine lv_iload hx hb dX1_isLedTo_83 (lv_at hl 4 rfl) ?_
                        refine lv_if_ne (tgt := 112) hx hb dX1_isLedTo_85 (by decide) (fun c85_2 => ?_) (fun c85_2 => ?_)
                        · refine lv_iconst (v := 1) hx hb dX1_isLedTo_112 (by decide) ?_
                          refine lv_goto (tgt := 117) hx hb dX1_isLedTo_113 (by decide) ?_
                          refine lv_istore (lv' := [(4, .int 1), (8, .int (nI 2)), (7, .int (nI y0 - 1)), (6, .int (nI x0)), (5, .int 1), (3, .int (nI y0)), (2, .int (nI x0)), (0, .ref (o 0)), (1, .int (nI e0))]) hx hb dX1_isLedTo_117 hl (by decide) rfl (fun ls hl => ?_)
                          refine lv_iinc (v := 2) (lv' := [(5, .int 2), (4, .int 1), (8, .int (nI 2)), (7, .int (nI y0 - 1)), (6, .int (nI x0)), (3, .int (nI y0)), (2, .int (nI x0)), (0, .ref (o 0)), (1, .int (nI e0))]) hx hb dX1_isLedTo_119 hl (k := 4) rfl (by decide) (by decide) rfl (fun ls hl => ?_)
                          refine lv_goto (tgt := 18) hx hb dX1_isLedTo_122 (by decide) ?_
                          refine lv_iload hx hb dX1_isLedTo_18 (lv_at hl 0 rfl) ?_
                          refine lv_iconst (v := 2) hx hb dX1_isLedTo_20 (by decide) ?_
                          refine lv_icmp_ge (tgt := 125) hx hb dX1_isLedTo_21 (by decide) (fun c21_3 => ?_) (fun c21_3 => ?_)
                          · refine lv_iload hx hb dX1_isLedTo_125 (lv_at hl 1 rfl) ?_
                            exact W.zret (v := 1) (ty := .boolean) hx hb hr rfl (fun t ht hW => ⟨⟨_, (), rfl, by unfold ltR; rw [if_pos (bd_t c29), ← ex0, ← ey0]; simp [bI_n0.mp c96, bI_n0.mp c109, bI], trivial⟩, hS.F ht⟩) hS.2.2 dX1_isLedTo_127
                          · exact absurd c21_3 (by decide)
                        · exact absurd c85_2 (by decide)
