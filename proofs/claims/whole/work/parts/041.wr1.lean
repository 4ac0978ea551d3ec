set_option maxHeartbeats 4000000 in
set_option maxRecDepth 100000 in
theorem c_X0_drawCell (l : Launch) (D : va_G) (o : Nat → Nat) (cI : ClassId) (tw op ch : Int32) (sm nx bf od st ow : Nat → Int32) (w : Nat) (h : Nat) (f : Nat → Nat → Int32) (x : Nat) (y : Nat) (gw2 : w ≤ 12) (gh2 : h ≤ 12) (gf : ∀ x y, x < w → y < h → sm (y * w + x) = f x y) (gx : x + 1 < w) (gy : y + 1 < h) : wvMet l yX0_drawCell wsX0_drawCell ({ frames := 3, cells := 0, slots := 0, locals := 81 } : Room) D (W0 o cI (nI w) (nI h) tw op ch sm nx bf od st ow) (W0 o cI (nI w) (nI h) tw op ch sm (dcN w h f tw x y nx 4) (dcB w h f tw x y bf 4) od st ow) [(cI, .int)] [.ref (o 0), .int (nI x), .int (nI y)] := by
  refine Met.ofW (cc := cX0_drawCell) (maxL := 9) (ret := none) (by decide) rfl ?_
  intro p e s m args below meth c s₁ B hml hv
  obtain ⟨rfl, hP, hK, hD0⟩ := hv
  have hx := B.exec
  have hb := B.bytes
  have hr := B.returns
  have hts := atoms_spec (ws := wsX0_drawCell) B.pre
  have hown : s.vm.findClass RX0 = some m.cls := findClass_of_methodNamed B.named
  have hlocks := B.notSynchronized
  have hin0 : ∀ w ∈ u_ws RX0 TX0 11, w ∈ wsX0_drawCell := by decide +kernel
  have hD := wA_D hD0
  have hS : va_S (wA (W0 o cI (nI w) (nI h) tw op ch sm nx bf od st ow)) s.heap s.heap [] := va_S.rf
  obtain ⟨H, hH, hP, hS⟩ : ∃ H : Heap, s.heap = H ∧ va_P D vwCl (W0 o cI (nI w) (nI h) tw op ch sm nx bf od st ow) H ∧ va_S (wA (W0 o cI (nI w) (nI h) tw op ch sm nx bf od st ow)) s.heap H [] := ⟨_, rfl, hP, hS⟩
  rw [hH]
  have hl := lv_entry ([.ref (o 0), .int (nI x), .int (nI y)]) (n := 9) (Nat.le_of_ble_eq_true rfl)
  rw [lg_entry_eq]
  generalize (lg_sl ([.ref (o 0), .int (nI x), .int (nI y)]) ++ List.replicate (9 - (lg_sl ([.ref (o 0), .int (nI x), .int (nI y)])).length) Slot.unset).toArray = ls at hl ⊢
  have hl : lv_has ls 9 [(0, .ref (o 0)), (1, .int (nI x)), (2, .int (nI y))] := hl
  have lp : ∀ (n : Nat) (j : Nat) (t : Nat), (j ≤ 4) → (5 ≤ j + n) → (t = tnC (mk4 (crn f tw x y) 4) (mdB f tw x y)) → ∀ (H : Heap) (locs : List Loc) (ls : Array Slot), va_P D vwCl (W0 o cI (nI w) (nI h) tw op ch sm (dcN w h f tw x y nx j) (dcB w h f tw x y bf j) od st ow) H → va_D (wA (W0 o cI (nI w) (nI h) tw op ch sm nx bf od st ow)) (W0 o cI (nI w) (nI h) tw op ch sm (dcN w h f tw x y nx j) (dcB w h f tw x y bf j) od st ow) → va_S (wA (W0 o cI (nI w) (nI h) tw op ch sm nx bf od st ow)) s.heap H locs → lv_has ls 9 [(6, .int (nI j)), (5, .int (nI t)), (3, .int (nI (mk4 (crn f tw x y) 4))), (0, .ref (o 0)), (1, .int (nI x)), (2, .int (nI y))] → W p l e (headSpec wsX0_drawCell ({ frames := 3, cells := 0, slots := 0, locals := 81 } : Room)).room s m ([.ref (o 0), .int (nI x), .int (nI y)] : List Value).toArray below meth c H locs 0 0 (MQ below (va_Qv (fun _ : Unit => True) (wB D (W0 o cI (nI w) (nI h) tw op ch sm nx bf od st ow) (W0 o cI (nI w) (nI h) tw op ch sm (dcN w h f tw x y nx 4) (dcB w h f tw x y bf 4) od st ow) [(cI, .int)]) (wA (W0 o cI (nI w) (nI h) tw op ch sm nx bf od st ow))) ([.ref (o 0), .int (nI x), .int (nI y)] : List Value).toArray s 0 0 (wA (W0 o cI (nI w) (nI h) tw op ch sm nx bf od st ow))) (F0 m 49 ls []) := by
    intro n
    induction n with
    | zero =>
      intro j t hj hn et
      exact absurd hn (by omega)
    | succ n ih =>
      intro j t hj hn et H locs ls hP hD hS hl
      refine lv_iload hx hb dX0_drawCell_49 (lv_at hl 0 rfl) ?_
      refine lv_iconst (v := 4) hx hb dX0_drawCell_51 (by decide) ?_
      refine lv_icmp_ge (tgt := 114) hx hb dX0_drawCell_52 (by decide) (fun c52 => ?_) (fun c52 => ?_)
      · have hj4 : j = 4 := by have := le_n (a := 4) c52 (by decide) (by omega); omega
        rw [hj4] at hP hD
        exact W.vret hx hb hr (fun t ht hW => ⟨⟨(), rfl, trivial, by rw [ht]; exact hP, va_K.moved hW.alike hK, hD⟩, hS.F ht⟩) hS.2.2 dX0_drawCell_114
      · refine lv_iload_n hx hb dX0_drawCell_55 rfl (lv_at hl 2 rfl) ?_
        refine lv_iload hx hb dX0_drawCell_56 (lv_at hl 0 rfl) ?_
        refine ro_S2 ⟨hx, hb, hml, hown, hts⟩ (c_X0_entersAt l D (mk4 (crn f tw x y) 4) j (by have := mk4_lt (crn f tw x y) 4; omega) (by have := nle_n (a := 4) c52 (by decide) (by omega); omega)) (va_cwS 2 hts gX0_drawCell_X0_entersAt rfl rfl rfl (by decide +kernel) ⟨Nat.le_of_ble_eq_true rfl, Nat.le_of_ble_eq_true rfl⟩) (va_P0 D vwCl _) (hK.sub [] rfl) hP hS rfl hl.1 (lv_room (Nat.le_of_ble_eq_true rfl)) dX0_drawCell_58 ⟨Nat.le_of_ble_eq_true rfl, Nat.le_of_ble_eq_true rfl⟩ (fun r58 H locs hr58 hP hS => ?_)
        subst hr58
        rw [show (bI (inA (mk4 (crn f tw x y) 4) j)) = bI (dnB f tw x y j) from by rw [in_dn]]
        refine lv_if_eq (tgt := 108) hx hb dX0_drawCell_61 (by decide) (fun c61 => ?_) (fun c61 => ?_)
        · refine lv_iinc (v := (nI (j + 1))) (lv' := [(6, .int (nI (j + 1))), (5, .int (nI t)), (3, .int (nI (mk4 (crn f tw x y) 4))), (0, .ref (o 0)), (1, .int (nI x)), (2, .int (nI y))]) hx hb dX0_drawCell_108 hl (k := 0) rfl (nI_p1 _) (by decide) rfl (fun ls hl => ?_)
          refine lv_goto (tgt := 49) hx hb dX0_drawCell_111 (by decide) ?_
          rw [← dcN_f (w := w) (h := h) (nx := nx) (bI_0.mp c61), ← dcB_f (w := w) (h := h) (nx := bf) (bI_0.mp c61)] at hP hD
          exact ih (j + 1) t (by have := nle_n (a := 4) c52 (by decide) (by omega); omega) (by omega) et _ _ _ hP hD hS (lv_sub hl [0, 1, 2, 3, 4, 5] rfl)
        · refine lv_aload_n hx hb dX0_drawCell_64 rfl (lv_at hl 3 rfl) ?_
          refine lv_iload_n hx hb dX0_drawCell_65 rfl (lv_at hl 4 rfl) ?_
          refine lv_iload_n hx hb dX0_drawCell_66 rfl (lv_at hl 5 rfl) ?_
          refine lv_iload hx hb dX0_drawCell_67 (lv_at hl 0 rfl) ?_
          refine ro_V3 ⟨hx, hb, hml, hown, hts⟩ (c_X0_sideEdge l D o cI tw op ch sm (dcN w h f tw x y nx j) (dcB w h f tw x y bf j) od st ow w h x y j (by omega) (by have := nle_n (a := 4) c52 (by decide) (by omega); omega)) (cwV 3 hts gX0_drawCell_X0_sideEdge rfl rfl rfl (by decide +kernel) ⟨Nat.le_of_ble_eq_true rfl, Nat.le_of_ble_eq_true rfl⟩) (va_recv hK hP (ci := 0) (q0 := 0) rfl rfl) hP hK hP hS rfl hl.1 (lv_room (Nat.le_of_ble_eq_true rfl)) dX0_drawCell_69 ⟨Nat.le_of_ble_eq_true rfl, Nat.le_of_ble_eq_true rfl⟩ (fun r69 H locs hr69 hP hS => ?_)
          subst hr69
          refine lv_istore (lv' := [(7, .int (nI (eO w h x y j))), (6, .int (nI j)), (5, .int (nI t)), (3, .int (nI (mk4 (crn f tw x y) 4))), (0, .ref (o 0)), (1, .int (nI x)), (2, .int (nI y))]) hx hb dX0_drawCell_72 hl (by decide) rfl (fun ls hl => ?_)
          refine lv_aload_n hx hb dX0_drawCell_74 rfl (lv_at hl 4 rfl) ?_
          refine lv_iload_n hx hb dX0_drawCell_75 rfl (lv_at hl 5 rfl) ?_
          refine lv_iload_n hx hb dX0_drawCell_76 rfl (lv_at hl 6 rfl) ?_
          refine lv_iload_n hx hb dX0_drawCell_77 rfl (lv_at hl 3 rfl) ?_
          refine lv_iload hx hb dX0_drawCell_78 (lv_at hl 1 rfl) ?_
          refine lv_iload hx hb dX0_drawCell_80 (lv_at hl 2 rfl) ?_
          refine ro_S3 ⟨hx, hb, hml, hown, hts⟩ (c_X0_exitFrom l D (mk4 (crn f tw x y) 4) j t (by have := mk4_lt (crn f tw x y) 4; omega) (by have := nle_n (a := 4) c52 (by decide) (by omega); omega) (by rw [et]; unfold tnC; split <;> decide)) (va_cwS 3 hts gX0_drawCell_X0_exitFrom rfl rfl rfl (by decide +kernel) ⟨Nat.le_of_ble_eq_true rfl, Nat.le_of_ble_eq_true rfl⟩) (va_P0 D vwCl _) (hK.sub [] rfl) hP hS rfl hl.1 (lv_room (Nat.le_of_ble_eq_true rfl)) dX0_drawCell_82 ⟨Nat.le_of_ble_eq_true rfl, Nat.le_of_ble_eq_true rfl⟩ (fun r82 H locs hr82 hP hS => ?_)
          subst hr82
          refine ro_V3 ⟨hx, hb, hml, hown, hts⟩ (c_X0_sideEdge l D o cI tw op ch sm (dcN w h f tw x y nx j) (dcB w h f tw x y bf j) od st ow w h x y (exA (mk4 (crn f tw x y) 4) j t) (by omega) (exA_lt _ _ _)) (cwV 3 hts gX0_drawCell_X0_sideEdge rfl rfl rfl (by decide +kernel) ⟨Nat.le_of_ble_eq_true rfl, Nat.le_of_ble_eq_true rfl⟩) (va_recv hK hP (ci := 0) (q0 := 0) rfl rfl) hP hK hP hS rfl hl.1 (lv_room (Nat.le_of_ble_eq_true rfl)) dX0_drawCell_85 ⟨Nat.le_of_ble_eq_true rfl, Nat.le_of_ble_eq_true rfl⟩ (fun r85 H locs hr85 hP hS => ?_)
          subst hr85
          rw [show (nI (eO w h x y (exA (mk4 (crn f tw x y) 4) j t))) = nI (eO w h x y (ldB f tw x y j)) from by rw [et, ex_eO (by have := nle_n (a := 4) c52 (by decide) (by omega); omega) (bI_n0.mp c61)]]
          refine lv_istore (lv' := [(8, .int (nI (eO w h x y (ldB f tw x y j)))), (7, .int (nI (eO w h x y j))), (6, .int (nI j)), (5, .int (nI t)), (3, .int (nI (mk4 (crn f tw x y) 4))), (0, .ref (o 0)), (1, .int (nI x)), (2, .int (nI y))]) hx hb dX0_drawCell_88 hl (by decide) rfl (fun ls hl => ?_)
          refine lv_aload_n hx hb dX0_drawCell_90 rfl (lv_at hl 5 rfl) ?_
          refine va_get (D := D) (ci := 0) (v := .ref (o 2)) (C := RX0) (T := TX0) (N := 11) hx hb hts hin0 hown hK hP 0 rfl rfl 4 (by decide) (hts (.fieldLink RX0 23 "HeightLines" "next" "[I") (by decide +kernel)) (fun _ h9 => h9) rfl dX0_drawCell_91 ?_
          refine lv_iload hx hb dX0_drawCell_94 (lv_at hl 1 rfl) ?_
          refine lv_iload hx hb dX0_drawCell_96 (lv_at hl 0 rfl) ?_
          refine an_iast (D := D) hx hb hK hP hD hS 2 0 rfl rfl (k := eO w h x y j) (by have := eO_lt (w := w) (h := h) j gx gy; have := nE_le gw2 gh2; omega) (by decide) dX0_drawCell_98 (fun H locs hP hD hS => ?_)
          have hP : va_P D vwCl (W0 o cI (nI w) (nI h) tw op ch sm (upd (dcN w h f tw x y nx j) (eO w h x y j) (nI (eO w h x y (ldB f tw x y j)))) (dcB w h f tw x y bf j) od st ow) H := hP
          have hD : va_D (wA (W0 o cI (nI w) (nI h) tw op ch sm nx bf od st ow)) (W0 o cI (nI w) (nI h) tw op ch sm (upd (dcN w h f tw x y nx j) (eO w h x y j) (nI (eO w h x y (ldB f tw x y j)))) (dcB w h f tw x y bf j) od st ow) := hD
          refine lv_aload_n hx hb dX0_drawCell_99 rfl (lv_at hl 5 rfl) ?_
          refine va_get (D := D) (ci := 0) (v := .ref (o 3)) (C := RX0) (T := TX0) (N := 11) hx hb hts hin0 hown hK hP 0 rfl rfl 5 (by decide) (hts (.fieldLink RX0 26 "HeightLines" "before" "[I") (by decide +kernel)) (fun _ h9 => h9) rfl dX0_drawCell_100 ?_
          refine lv_iload hx hb dX0_drawCell_103 (lv_at hl 0 rfl) ?_
          refine lv_iload hx hb dX0_drawCell_105 (lv_at hl 1 rfl) ?_
          refine an_iast (D := D) hx hb hK hP hD hS 3 0 rfl rfl (k := eO w h x y (ldB f tw x y j)) (by have := eO_lt (w := w) (h := h) (ldB f tw x y j) gx gy; have := nE_le gw2 gh2; omega) (by decide) dX0_drawCell_107 (fun H locs hP hD hS => ?_)
          have hP : va_P D vwCl (W0 o cI (nI w) (nI h) tw op ch sm (upd (dcN w h f tw x y nx j) (eO w h x y j) (nI (eO w h x y (ldB f tw x y j)))) (upd (dcB w h f tw x y bf j) (eO w h x y (ldB f tw x y j)) (nI (eO w h x y j))) od st ow) H := hP
          have hD : va_D (wA (W0 o cI (nI w) (nI h) tw op ch sm nx bf od st ow)) (W0 o cI (nI w) (nI h) tw op ch sm (upd (dcN w h f tw x y nx j) (eO w h x y j) (nI (eO w h x y (ldB f tw x y j)))) (upd (dcB w h f tw x y bf j) (eO w h x y (ldB f tw x y j)) (nI (eO w h x y j))) od st ow) := hD
          refine lv_iinc (v := (nI (j + 1))) (lv' := [(6, .int (nI (j + 1))), (8, .int (nI (eO w h x y (ldB f tw x y j)))), (7, .int (nI (eO w h x y j))), (5, .int (nI t)), (3, .int (nI (mk4 (crn f tw x y) 4))), (0, .ref (o 0)), (1, .int (nI x)), (2, .int (nI y))]) hx hb dX0_drawCell_108 hl (k := 2) rfl (nI_p1 _) (by decide) rfl (fun ls hl => ?_)
          refine lv_goto (tgt := 49) hx hb dX0_drawCell_111 (by decide) ?_
          rw [← dcN_t (w := w) (h := h) (nx := nx) (bI_n0.mp c61), ← dcB_t (w := w) (h := h) (nx := bf) (bI_n0.mp c61)] at hP hD
          exact ih (j + 1) t (by have := nle_n (a := 4) c52 (by decide) (by omega); omega) (by omega) et _ _ _ hP hD hS (lv_sub hl [0, 3, 4, 5, 6, 7] rfl)
  refine lv_aload_n hx hb dX0_drawCell_0 rfl (lv_at hl 0 rfl) ?_
  refine lv_iload_n hx hb dX0_drawCell_1 rfl (lv_at hl 1 rfl) ?_
  refine lv_iload_n hx hb dX0_drawCell_2 rfl (lv_at hl 2 rfl) ?_
  refine ro_V2 ⟨hx, hb, hml, hown, hts⟩ (c_X0_cornersAbove l D o cI tw op ch sm nx bf od st ow w h f x y gw2 gh2 gf gx gy) (cwV 2 hts gX0_drawCell_X0_cornersAbove rfl rfl rfl (by decide +kernel) ⟨Nat.le_of_ble_eq_true rfl, Nat.le_of_ble_eq_true rfl⟩) (va_recv hK hP (ci := 0) (q0 := 0) rfl rfl) hP hK hP hS rfl hl.1 (lv_room (Nat.le_of_ble_eq_true rfl)) dX0_drawCell_3 ⟨Nat.le_of_ble_eq_true rfl, Nat.le_of_ble_eq_true rfl⟩ (fun r3 H locs hr3 hP hS => ?_)
  subst hr3
  refine lv_istore_n (lv' := [(3, .int (nI (mk4 (crn f tw x y) 4))), (0, .ref (o 0)), (1, .int (nI x)), (2, .int (nI y))]) hx hb dX0_drawCell_6 rfl hl (by decide) rfl (fun ls hl => ?_)
  refine lv_iload_n hx hb dX0_drawCell_7 rfl (lv_at hl 0 rfl) ?_
  refine lv_iconst (v := 5) hx hb dX0_drawCell_8 (by decide) ?_
  refine lv_icmp_eq (tgt := 18) hx hb dX0_drawCell_9 (by decide) (fun c9 => ?_) (fun c9 => ?_)
  · refine lv_iconst (v := 1) hx hb dX0_drawCell_18 (by decide) ?_
    refine lv_goto (tgt := 23) hx hb dX0_drawCell_19 (by decide) ?_
    refine lv_istore (lv' := [(4, .int 1), (3, .int (nI (mk4 (crn f tw x y) 4))), (0, .ref (o 0)), (1, .int (nI x)), (2, .int (nI y))]) hx hb dX0_drawCell_23 hl (by decide) rfl (fun ls hl => ?_)
    refine lv_iload hx hb dX0_drawCell_25 (lv_at hl 0 rfl) ?_
    refine lv_if_eq (tgt := 43) hx hb dX0_drawCell_27 (by decide) (fun c27 => ?_) (fun c27 => ?_)
    · exact absurd c27 (by decide)
    · refine lv_aload_n hx hb dX0_drawCell_30 rfl (lv_at hl 2 rfl) ?_
      refine lv_iload_n hx hb dX0_drawCell_31 rfl (lv_at hl 3 rfl) ?_
      refine lv_iload_n hx hb dX0_drawCell_32 rfl (lv_at hl 4 rfl) ?_
      refine ro_V2 ⟨hx, hb, hml, hown, hts⟩ (c_X0_isMiddleAbove l D o cI tw op ch sm nx bf od st ow w h f x y gw2 gh2 gf gx gy) (cwV 2 hts gX0_drawCell_X0_isMiddleAbove rfl rfl rfl (by decide +kernel) ⟨Nat.le_of_ble_eq_true rfl, Nat.le_of_ble_eq_true rfl⟩) (va_recv hK hP (ci := 0) (q0 := 0) rfl rfl) hP hK hP hS rfl hl.1 (lv_room (Nat.le_of_ble_eq_true rfl)) dX0_drawCell_33 ⟨Nat.le_of_ble_eq_true rfl, Nat.le_of_ble_eq_true rfl⟩ (fun r33 H locs hr33 hP hS => ?_)
      subst hr33
      refine lv_if_eq (tgt := 43) hx hb dX0_drawCell_36 (by decide) (fun c36 => ?_) (fun c36 => ?_)
      · refine lv_iconst (v := 3) hx hb dX0_drawCell_43 (by decide) ?_
        refine lv_istore (lv' := [(5, .int 3), (4, .int 1), (3, .int (nI (mk4 (crn f tw x y) 4))), (0, .ref (o 0)), (1, .int (nI x)), (2, .int (nI y))]) hx hb dX0_drawCell_44 hl (by decide) rfl (fun ls hl => ?_)
        refine lv_iconst (v := 0) hx hb dX0_drawCell_46 (by decide) ?_
        refine lv_istore (lv' := [(6, .int 0), (5, .int 3), (4, .int 1), (3, .int (nI (mk4 (crn f tw x y) 4))), (0, .ref (o 0)), (1, .int (nI x)), (2, .int (nI y))]) hx hb dX0_drawCell_47 hl (by decide) rfl (fun ls hl => ?_)
        have et : 3 = tnC (mk4 (crn f tw x y) 4) (mdB f tw x y) := by unfold tnC; rw [if_neg (fun z => by rw [bI_0.mp c36] at z; exact absurd z.2 (by decide))]
        exact lp 5 0 3 (by decide) (by decide) et _ _ _ hP hD hS (lv_sub hl [0, 1, 3, 4, 5, 6] rfl)
      · refine lv_iconst (v := 1) hx hb dX0_drawCell_39 (by decide) ?_
        refine lv_goto (tgt := 44) hx hb dX0_drawCell_40 (by decide) ?_
        refine lv_istore (lv' := [(5, .int 1), (4, .int 1), (3, .int (nI (mk4 (crn f tw x y) 4))), (0, .ref (o 0)), (1, .int (nI x)), (2, .int (nI y))]) hx hb dX0_drawCell_44 hl (by decide) rfl (fun ls hl => ?_)
        refine lv_iconst (v := 0) hx hb dX0_drawCell_46 (by decide) ?_
        refine lv_istore (lv' := [(6, .int 0), (5, .int 1), (4, .int 1), (3, .int (nI (mk4 (crn f tw x y) 4))), (0, .ref (o 0)), (1, .int (nI x)), (2, .int (nI y))]) hx hb dX0_drawCell_47 hl (by decide) rfl (fun ls hl => ?_)
        have et : 1 = tnC (mk4 (crn f tw x y) 4) (mdB f tw x y) := by unfold tnC; rw [if_pos ⟨Or.inl ((nI_eq (b := 5) (by have := mk4_lt (crn f tw x y) 4; omega) (by decide)).mp c9), bI_n0.mp c36⟩]
        exact lp 5 0 1 (by decide) (by decide) et _ _ _ hP hD hS (lv_sub hl [0, 1, 3, 4, 5, 6] rfl)
  · refine lv_iload_n hx hb dX0_drawCell_12 rfl (lv_at hl 0 rfl) ?_
    refine lv_bipush (v := 10) hx hb dX0_drawCell_13 (by decide) ?_
    refine lv_icmp_ne (tgt := 22) hx hb dX0_drawCell_15 (by decide) (fun c15 => ?_) (fun c15 => ?_)
    · refine lv_iconst (v := 0) hx hb dX0_drawCell_22 (by decide) ?_
      refine lv_istore (lv' := [(4, .int 0), (3, .int (nI (mk4 (crn f tw x y) 4))), (0, .ref (o 0)), (1, .int (nI x)), (2, .int (nI y))]) hx hb dX0_drawCell_23 hl (by decide) rfl (fun ls hl => ?_)
      refine lv_iload hx hb dX0_drawCell_25 (lv_at hl 0 rfl) ?_
      refine lv_if_eq (tgt := 43) hx hb dX0_drawCell_27 (by decide) (fun c27 => ?_) (fun c27 => ?_)
      · refine lv_iconst (v := 3) hx hb dX0_drawCell_43 (by decide) ?_
        refine lv_istore (lv' := [(5, .int 3), (4, .int 0), (3, .int (nI (mk4 (crn f tw x y) 4))), (0, .ref (o 0)), (1, .int (nI x)), (2, .int (nI y))]) hx hb dX0_drawCell_44 hl (by decide) rfl (fun ls hl => ?_)
        refine lv_iconst (v := 0) hx hb dX0_drawCell_46 (by decide) ?_
        refine lv_istore (lv' := [(6, .int 0), (5, .int 3), (4, .int 0), (3, .int (nI (mk4 (crn f tw x y) 4))), (0, .ref (o 0)), (1, .int (nI x)), (2, .int (nI y))]) hx hb dX0_drawCell_47 hl (by decide) rfl (fun ls hl => ?_)
        have et : 3 = tnC (mk4 (crn f tw x y) 4) (mdB f tw x y) := by unfold tnC; rw [if_neg (fun z => z.1.elim (fun q => c9 (by rw [q]; rfl)) (fun q => c15 (by rw [q]; rfl)))]
        exact lp 5 0 3 (by decide) (by decide) et _ _ _ hP hD hS (lv_sub hl [0, 1, 3, 4, 5, 6] rfl)
      · exact absurd c27 (by decide)
    · refine lv_iconst (v := 1) hx hb dX0_drawCell_18 (by decide) ?_
      refine lv_goto (tgt := 23) hx hb dX0_drawCell_19 (by decide) ?_
      refine lv_istore (lv' := [(4, .int 1), (3, .int (nI (mk4 (crn f tw x y) 4))), (0, .ref (o 0)), (1, .int (nI x)), (2, .int (nI y))]) hx hb dX0_drawCell_23 hl (by decide) rfl (fun ls hl => ?_)
      refine lv_iload hx hb dX0_drawCell_25 (lv_at hl 0 rfl) ?_
      refine lv_if_eq (tgt := 43) hx hb dX0_drawCell_27 (by decide) (fun c27 => ?_) (fun c27 => ?_)
      · exact absurd c27 (by decide)
      · refine lv_aload_n hx hb dX0_drawCell_30 rfl (lv_at hl 2 rfl) ?_
        refine lv_iload_n hx hb dX0_drawCell_31 rfl (lv_at hl 3 rfl) ?_
        refine lv_iload_n hx hb dX0_drawCell_32 rfl (lv_at hl 4 rfl) ?_
        refine ro_V2 ⟨hx, hb, hml, hown, hts⟩ (c_X0_isMiddleAbove l D o cI tw op ch sm nx bf od st ow w h f x y gw2 gh2 gf gx gy) (cwV 2 hts gX0_drawCell_X0_isMiddleAbove rfl rfl rfl (by decide +kernel) ⟨Nat.le_of_ble_eq_true rfl, Nat.le_of_ble_eq_true rfl⟩) (va_recv hK hP (ci := 0) (q0 := 0) rfl rfl) hP hK hP hS rfl hl.1 (lv_room (Nat.le_of_ble_eq_true rfl)) dX0_drawCell_33 ⟨Nat.le_of_ble_eq_true rfl, Nat.le_of_ble_eq_true rfl⟩ (fun r33 H locs hr33 hP hS => ?_)
        subst hr33
        refine lv_if_eq (tgt := 43) hx hb dX0_drawCell_36 (by decide) (fun c36 => ?_) (fun c36 => ?_)
        · refine lv_iconst (v := 3) hx hb dX0_drawCell_43 (by decide) ?_
          refine lv_istore (lv' := [(5, .int 3), (4, .int 1), (3, .int (nI (mk4 (crn f tw x y) 4))), (0, .ref (o 0)), (1, .int (nI x)), (2, .int (nI y))]) hx hb dX0_drawCell_44 hl (by decide) rfl (fun ls hl => ?_)
          refine lv_iconst (v := 0) hx hb dX0_drawCell_46 (by decide) ?_
          refine lv_istore (lv' := [(6, .int 0), (5, .int 3), (4, .int 1), (3, .int (nI (mk4 (crn f tw x y) 4))), (0, .ref (o 0)), (1, .int (nI x)), (2, .int (nI y))]) hx hb dX0_drawCell_47 hl (by decide) rfl (fun ls hl => ?_)
          have et : 3 = tnC (mk4 (crn f tw x y) 4) (mdB f tw x y) := by unfold tnC; rw [if_neg (fun z => by rw [bI_0.mp c36] at z; exact absurd z.2 (by decide))]
          exact lp 5 0 3 (by decide) (by decide) et _ _ _ hP hD hS (lv_sub hl [0, 1, 3, 4, 5, 6] rfl)
        · refine lv_iconst (v := 1) hx hb dX0_drawCell_39 (by decide) ?_
          refine lv_goto (tgt := 44) hx hb dX0_drawCell_40 (by decide) ?_
          refine lv_istore (lv' := [(5, .int 1), (4, .int 1), (3, .int (nI (mk4 (crn f tw x y) 4))), (0, .ref (o 0)), (1, .int (nI x)), (2, .int (nI y))]) hx hb dX0_drawCell_44 hl (by decide) rfl (fun ls hl => ?_)
          refine lv_iconst (v := 0) hx hb dX0_drawCell_46 (by decide) ?_
          refine lv_istore (lv' := [(6, .int 0), (5, .int 1), (4, .int 1), (3, .int (nI (mk4 (crn f tw x y) 4))), (0, .ref (o 0)), (1, .int (nI x)), (2, .int (nI y))]) hx hb dX0_drawCell_47 hl (by decide) rfl (fun ls hl => ?_)
          have et : 1 = tnC (mk4 (crn f tw x y) 4) (mdB f tw x y) := by unfold tnC; rw [if_pos ⟨Or.inr ((nI_eq (b := 10) (by have := mk4_lt (crn f tw x y) 4; omega) (by decide)).mp (show nI _ = nI 10 from c15)), bI_n0.mp c36⟩]
          exact lp 5 0 1 (by decide) (by decide) et _ _ _ hP hD hS (lv_sub hl [0, 1, 3, 4, 5, 6] rfl)

set_option maxHeartbeats 4000000 in
set_option maxRecDepth 100000 in
theorem c_X0_drawLines (l : Launch) (D : va_G) (o : Nat → Nat) (cI : ClassId) (tw op ch : Int32) (sm nx bf od st ow : Nat → Int32) (w : Nat) (h : Nat) (f : Nat → Nat → Int32) (gw : 2 ≤ w) (gw2 : w ≤ 12) (gh : 2 ≤ h) (gh2 : h ≤ 12) (gf : ∀ x y, x < w → y < h → sm (y * w + x) = f x y) : wvMet l yX0_drawLines wsX0_drawLines ({ frames := 4, cells := 0, slots := 0, locals := 109 } : Room) D (W0 o cI (nI w) (nI h) tw op ch sm nx bf od st ow) (W0 o cI (nI w) (nI h) tw op ch sm (dlN w h f tw (filF 264 (-1) nx) (h - 1)) (dlB w h f tw (filF 264 (-1) bf) (h - 1)) od st ow) [(cI, .int)] [.ref (o 0)] := by
  refine Met.ofW (cc := cX0_drawLines) (maxL := 3) (ret := none) (by decide) rfl ?_
  intro p e s m args below meth c s₁ B hml hv
  obtain ⟨rfl, hP, hK, hD0⟩ := hv
  have hx := B.exec
  have hb := B.bytes
  have hr := B.returns
  have hts := atoms_spec (ws := wsX0_drawLines) B.pre
  have hown : s.vm.findClass RX0 = some m.cls := findClass_of_methodNamed B.named
  have hlocks := B.notSynchronized
  have hin0 : ∀ w ∈ u_ws RX0 TX0 11, w ∈ wsX0_drawLines := by decide +kernel
  have hD := wA_D hD0
  have hS : va_S (wA (W0 o cI (nI w) (nI h) tw op ch sm nx bf od st ow)) s.heap s.heap [] := va_S.rf
  obtain ⟨H, hH, hP, hS⟩ : ∃ H : Heap, s.heap = H ∧ va_P D vwCl (W0 o cI (nI w) (nI h) tw op ch sm nx bf od st ow) H ∧ va_S (wA (W0 o cI (nI w) (nI h) tw op ch sm nx bf od st ow)) s.heap H [] := ⟨_, rfl, hP, hS⟩
  rw [hH]
  have hl := lv_entry ([.ref (o 0)]) (n := 3) (Nat.le_of_ble_eq_true rfl)
  rw [lg_entry_eq]
  generalize (lg_sl ([.ref (o 0)]) ++ List.replicate (3 - (lg_sl ([.ref (o 0)])).length) Slot.unset).toArray = ls at hl ⊢
  have hl : lv_has ls 3 [(0, .ref (o 0))] := hl
  have lp1 : ∀ (n1 : Nat) (y : Nat), (y ≤ h - 1) → (h ≤ y + n1) → ∀ (H : Heap) (locs : List Loc) (ls : Array Slot), va_P D vwCl (W0 o cI (nI w) (nI h) tw op ch sm (dlN w h f tw (filF 264 (-1) nx) y) (dlB w h f tw (filF 264 (-1) bf) y) od st ow) H → va_D (wA (W0 o cI (nI w) (nI h) tw op ch sm nx bf od st ow)) (W0 o cI (nI w) (nI h) tw op ch sm (dlN w h f tw (filF 264 (-1) nx) y) (dlB w h f tw (filF 264 (-1) bf) y) od st ow) → va_S (wA (W0 o cI (nI w) (nI h) tw op ch sm nx bf od st ow)) s.heap H locs → lv_has ls 3 [(1, .int (nI y)), (0, .ref (o 0))] → W p l e (headSpec wsX0_drawLines ({ frames := 4, cells := 0, slots := 0, locals := 109 } : Room)).room s m ([.ref (o 0)] : List Value).toArray below meth c H locs 0 0 (MQ below (va_Qv (fun _ : Unit => True) (wB D (W0 o cI (nI w) (nI h) tw op ch sm nx bf od st ow) (W0 o cI (nI w) (nI h) tw op ch sm (dlN w h f tw (filF 264 (-1) nx) (h - 1)) (dlB w h f tw (filF 264 (-1) bf) (h - 1)) od st ow) [(cI, .int)]) (wA (W0 o cI (nI w) (nI h) tw op ch sm nx bf od st ow))) ([.ref (o 0)] : List Value).toArray s 0 0 (wA (W0 o cI (nI w) (nI h) tw op ch sm nx bf od st ow))) (F0 m 18 ls []) := by
    intro n1
    induction n1 with
    | zero =>
      intro y hy8 hn1
      exact absurd hn1 (by omega)
    | succ n1 ih1 =>
      intro y hy8 hn1 H locs ls hP hD hS hl
      refine lv_iload_n hx hb dX0_drawLines_18 rfl (lv_at hl 0 rfl) ?_
      refine lv_iconst (v := 1) hx hb dX0_drawLines_19 (by decide) ?_
      refine lv_iadd hx hb dX0_drawLines_20 ?_
      rw [show (nI y + 1) = nI (y + 1) from nI_p1 y]
      refine lv_aload_n hx hb dX0_drawLines_21 rfl (lv_at hl 1 rfl) ?_
      refine va_get (D := D) (ci := 0) (v := .int (nI h)) (C := RX0) (T := TX0) (N := 11) hx hb hts hin0 hown hK hP 0 rfl rfl 1 (by decide) (hts (.fieldLink RX0 13 "HeightLines" "rows" "I") (by decide +kernel)) (fun _ h9 => h9) rfl dX0_drawLines_22 ?_
      refine lv_icmp_ge (tgt := 58) hx hb dX0_drawLines_25 (by decide) (fun c25 => ?_) (fun c25 => ?_)
      · have hy1 : y = h - 1 := by have := le_n c25 (by omega) (by omega); omega
        rw [hy1] at hP hD
        exact W.vret hx hb hr (fun t ht hW => ⟨⟨(), rfl, trivial, by rw [ht]; exact hP, va_K.moved hW.alike hK, hD⟩, hS.F ht⟩) hS.2.2 dX0_drawLines_58
      · refine lv_iconst (v := 0) hx hb dX0_drawLines_28 (by decide) ?_
        refine lv_istore_n (lv' := [(2, .int 0), (1, .int (nI y)), (0, .ref (o 0))]) hx hb dX0_drawLines_29 rfl hl (by decide) rfl (fun ls hl => ?_)
        have lp2 : ∀ (n2 : Nat) (x : Nat), (x ≤ w - 1) → (w ≤ x + n2) → ∀ (H : Heap) (locs : List Loc) (ls : Array Slot), va_P D vwCl (W0 o cI (nI w) (nI h) tw op ch sm (drN w h f tw y (dlN w h f tw (filF 264 (-1) nx) y) x) (drB w h f tw y (dlB w h f tw (filF 264 (-1) bf) y) x) od st ow) H → va_D (wA (W0 o cI (nI w) (nI h) tw op ch sm nx bf od st ow)) (W0 o cI (nI w) (nI h) tw op ch sm (drN w h f tw y (dlN w h f tw (filF 264 (-1) nx) y) x) (drB w h f tw y (dlB w h f tw (filF 264 (-1) bf) y) x) od st ow) → va_S (wA (W0 o cI (nI w) (nI h) tw op ch sm nx bf od st ow)) s.heap H locs → lv_has ls 3 [(2, .int (nI x)), (1, .int (nI y)), (0, .ref (o 0))] → W p l e (headSpec wsX0_drawLines ({ frames := 4, cells := 0, slots := 0, locals := 109 } : Room)).room s m ([.ref (o 0)] : List Value).toArray below meth c H locs 0 0 (MQ below (va_Qv (fun _ : Unit => True) (wB D (W0 o cI (nI w) (nI h) tw op ch sm nx bf od st ow) (W0 o cI (nI w) (nI h) tw op ch sm (dlN w h f tw (filF 264 (-1) nx) (h - 1)) (dlB w h f tw (filF 264 (-1) bf) (h - 1)) od st ow) [(cI, .int)]) (wA (W0 o cI (nI w) (nI h) tw op ch sm nx bf od st ow))) ([.ref (o 0)] : List Value).toArray s 0 0 (wA (W0 o cI (nI w) (nI h) tw op ch sm nx bf od st ow))) (F0 m 30 ls []) := by
          intro n2
          induction n2 with
          | zero =>
            intro x hx8 hn2
            exact absurd hn2 (by omega)
          | succ n2 ih2 =>
            intro x hx8 hn2 H locs ls hP hD hS hl
            refine lv_iload_n hx hb dX0_drawLines_30 rfl (lv_at hl 0 rfl) ?_
            refine lv_iconst (v := 1) hx hb dX0_drawLines_31 (by decide) ?_
            refine lv_iadd hx hb dX0_drawLines_32 ?_
            rw [show (nI x + 1) = nI (x + 1) from nI_p1 x]
            refine lv_aload_n hx hb dX0_drawLines_33 rfl (lv_at hl 2 rfl) ?_
            refine va_get (D := D) (ci := 0) (v := .int (nI w)) (C := RX0) (T := TX0) (N := 11) hx hb hts hin0 hown hK hP 0 rfl rfl 0 (by decide) (hts (.fieldLink RX0 9 "HeightLines" "columns" "I") (by decide +kernel)) (fun _ h9 => h9) rfl dX0_drawLines_34 ?_
            refine lv_icmp_ge (tgt := 52) hx hb dX0_drawLines_37 (by decide) (fun c37 => ?_) (fun c37 => ?_)
            · have hx1 : x = w - 1 := by have := le_n c37 (by omega) (by omega); omega
              rw [hx1] at hP hD
              refine lv_iinc (v := (nI (y + 1))) (lv' := [(1, .int (nI (y + 1))), (2, .int (nI x)), (0, .ref (o 0))]) hx hb dX0_drawLines_52 hl (k := 1) rfl (nI_p1 _) (by decide) rfl (fun ls hl => ?_)
              refine lv_goto (tgt := 18) hx hb dX0_drawLines_55 (by decide) ?_
              have hP : va_P D vwCl (W0 o cI (nI w) (nI h) tw op ch sm (dlN w h f tw (filF 264 (-1) nx) (y + 1)) (dlB w h f tw (filF 264 (-1) bf) (y + 1)) od st ow) H := hP
              have hD : va_D (wA (W0 o cI (nI w) (nI h) tw op ch sm nx bf od st ow)) (W0 o cI (nI w) (nI h) tw op ch sm (dlN w h f tw (filF 264 (-1) nx) (y + 1)) (dlB w h f tw (filF 264 (-1) bf) (y + 1)) od st ow) := hD
              exact ih1 (y + 1) (by have := nle_n c25 (by omega) (by omega); omega) (by omega) _ _ _ hP hD hS (lv_sub hl [0, 2] rfl)
            · refine lv_aload_n hx hb dX0_drawLines_40 rfl (lv_at hl 2 rfl) ?_
              refine lv_iload_n hx hb dX0_drawLines_41 rfl (lv_at hl 0 rfl) ?_
              refine lv_iload_n hx hb dX0_drawLines_42 rfl (lv_at hl 1 rfl) ?_
              refine wv_V (wr := []) (As := [.int (nI x), .int (nI y)]) (rest := []) ⟨hx, hb, hml, hown, hts⟩ (c_X0_drawCell l D o cI tw op ch sm (drN w h f tw y (dlN w h f tw (filF 264 (-1) nx) y) x) (drB w h f tw y (dlB w h f tw (filF 264 (-1) bf) y) x) od st ow w h f x y gw2 gh2 gf (by have := nle_n c37 (by omega) (by omega); omega) (by have := nle_n c25 (by omega) (by omega); omega)) (cwV 2 hts gX0_drawLines_X0_drawCell rfl rfl rfl (by decide +kernel) ⟨Nat.le_of_ble_eq_true rfl, Nat.le_of_ble_eq_true rfl⟩) (va_recv hK hP (ci := 0) (q0 := 0) rfl rfl) hP hD hK hP hD hS [0, 1, 2, 3, 4, 5, 6] [] rfl rfl rfl (by decide) rfl hl.1 rfl (lv_room (Nat.le_of_ble_eq_true rfl)) dX0_drawLines_43 ⟨Nat.le_of_ble_eq_true rfl, Nat.le_of_ble_eq_true rfl⟩ (fun H locs hP hD hS => ?_)
              have hP : va_P D vwCl (W0 o cI (nI w) (nI h) tw op ch sm (dcN w h f tw x y (drN w h f tw y (dlN w h f tw (filF 264 (-1) nx) y) x) 4) (dcB w h f tw x y (drB w h f tw y (dlB w h f tw (filF 264 (-1) bf) y) x) 4) od st ow) H := hP
              have hD : va_D (wA (W0 o cI (nI w) (nI h) tw op ch sm nx bf od st ow)) (W0 o cI (nI w) (nI h) tw op ch sm (dcN w h f tw x y (drN w h f tw y (dlN w h f tw (filF 264 (-1) nx) y) x) 4) (dcB w h f tw x y (drB w h f tw y (dlB w h f tw (filF 264 (-1) bf) y) x) 4) od st ow) := hD
              refine lv_iinc (v := (nI (x + 1))) (lv' := [(2, .int (nI (x + 1))), (1, .int (nI y)), (0, .ref (o 0))]) hx hb dX0_drawLines_46 hl (k := 0) rfl (nI_p1 _) (by decide) rfl (fun ls hl => ?_)
              refine lv_goto (tgt := 30) hx hb dX0_drawLines_49 (by decide) ?_
              have hP : va_P D vwCl (W0 o cI (nI w) (nI h) tw op ch sm (drN w h f tw y (dlN w h f tw (filF 264 (-1) nx) y) (x + 1)) (drB w h f tw y (dlB w h f tw (filF 264 (-1) bf) y) (x + 1)) od st ow) H := hP
              have hD : va_D (wA (W0 o cI (nI w) (nI h) tw op ch sm nx bf od st ow)) (W0 o cI (nI w) (nI h) tw op ch sm (drN w h f tw y (dlN w h f tw (filF 264 (-1) nx) y) (x + 1)) (drB w h f tw y (dlB w h f tw (filF 264 (-1) bf) y) (x + 1)) od st ow) := hD
              exact ih2 (x + 1) (by have := nle_n c37 (by omega) (by omega); omega) (by omega) _ _ _ hP hD hS (lv_sub hl [0, 1, 2] rfl)
        exact lp2 w 0 (Nat.zero_le _) (by omega) _ _ _ hP hD hS (lv_sub hl [0, 1, 2] rfl)
  refine lv_aload_n hx hb dX0_drawLines_0 rfl (lv_at hl 0 rfl) ?_
  refine va_get (D := D) (ci := 0) (v := .ref (o 2)) (C := RX0) (T := TX0) (N := 11) hx hb hts hin0 hown hK hP 0 rfl rfl 4 (by decide) (hts (.fieldLink RX0 23 "HeightLines" "next" "[I") (by decide +kernel)) (fun _ h9 => h9) rfl dX0_drawLines_1 ?_
  refine lv_iconst (v := (-1)) hx hb dX0_drawLines_4 (by decide) ?_
  have hPf := hP.sub (ws' := [(o 2, .inl (cI, 264, .inl nx))]) [2] rfl
  have hDf := hD.sub (ws' := [(o 2, .inl (cI, 264, .inl nx))]) [2] (by decide) rfl
  refine wv_S (wr := (W0 o cI (nI w) (nI h) tw op ch sm nx bf od st ow).eraseIdx 2) (As := [.ref (o 2), .int (-1)]) (rest := []) ⟨hx, hb, hml, hown, hts⟩ (c_fill l D cI (o 2) 264 nx (-1) (by decide)) (va_cwS 2 hts gX0_drawLines_J7_fill_53178 rfl rfl rfl (by decide +kernel) ⟨Nat.le_of_ble_eq_true rfl, Nat.le_of_ble_eq_true rfl⟩) hPf hDf hK hP hD hS [2] [0, 1, 3, 4, 5, 6] rfl rfl rfl (by decide) rfl hl.1 rfl (lv_room (Nat.le_of_ble_eq_true rfl)) dX0_drawLines_5 ⟨Nat.le_of_ble_eq_true rfl, Nat.le_of_ble_eq_true rfl⟩ (fun H locs hP hD hS => ?_)
  have hP : va_P D vwCl (W0 o cI (nI w) (nI h) tw op ch sm (filF 264 (-1) nx) bf od st ow) H := hP.sub [0, 1, 6, 2, 3, 4, 5] rfl
  have hD : va_D (wA (W0 o cI (nI w) (nI h) tw op ch sm nx bf od st ow)) (W0 o cI (nI w) (nI h) tw op ch sm (filF 264 (-1) nx) bf od st ow) := hD.sub [0, 1, 6, 2, 3, 4, 5] (by decide) rfl
  refine lv_aload_n hx hb dX0_drawLines_8 rfl (lv_at hl 0 rfl) ?_
  refine va_get (D := D) (ci := 0) (v := .ref (o 3)) (C := RX0) (T := TX0) (N := 11) hx hb hts hin0 hown hK hP 0 rfl rfl 5 (by decide) (hts (.fieldLink RX0 26 "HeightLines" "before" "[I") (by decide +kernel)) (fun _ h9 => h9) rfl dX0_drawLines_9 ?_
  refine lv_iconst (v := (-1)) hx hb dX0_drawLines_12 (by decide) ?_
  have hPf := hP.sub (ws' := [(o 3, .inl (cI, 264, .inl bf))]) [3] rfl
  have hDf := hD.sub (ws' := [(o 3, .inl (cI, 264, .inl bf))]) [3] (by decide) rfl
  refine wv_S (wr := (W0 o cI (nI w) (nI h) tw op ch sm (filF 264 (-1) nx) bf od st ow).eraseIdx 3) (As := [.ref (o 3), .int (-1)]) (rest := []) ⟨hx, hb, hml, hown, hts⟩ (c_fill l D cI (o 3) 264 bf (-1) (by decide)) (va_cwS 2 hts gX0_drawLines_J7_fill_53178 rfl rfl rfl (by decide +kernel) ⟨Nat.le_of_ble_eq_true rfl, Nat.le_of_ble_eq_true rfl⟩) hPf hDf hK hP hD hS [3] [0, 1, 2, 4, 5, 6] rfl rfl rfl (by decide) rfl hl.1 rfl (lv_room (Nat.le_of_ble_eq_true rfl)) dX0_drawLines_13 ⟨Nat.le_of_ble_eq_true rfl, Nat.le_of_ble_eq_true rfl⟩ (fun H locs hP hD hS => ?_)
  have hP : va_P D vwCl (W0 o cI (nI w) (nI h) tw op ch sm (filF 264 (-1) nx) (filF 264 (-1) bf) od st ow) H := hP.sub [0, 1, 2, 6, 3, 4, 5] rfl
  have hD : va_D (wA (W0 o cI (nI w) (nI h) tw op ch sm nx bf od st ow)) (W0 o cI (nI w) (nI h) tw op ch sm (filF 264 (-1) nx) (filF 264 (-1) bf) od st ow) := hD.sub [0, 1, 2, 6, 3, 4, 5] (by decide) rfl
  refine lv_iconst (v := 0) hx hb dX0_drawLines_16 (by decide) ?_
  refine lv_istore_n (lv' := [(1, .int 0), (0, .ref (o 0))]) hx hb dX0_drawLines_17 rfl hl (by decide) rfl (fun ls hl => ?_)
  exact lp1 h 0 (Nat.zero_le _) (by omega) _ _ _ hP hD hS (lv_sub hl [0, 1] rfl)

set_option maxHeartbeats 4000000 in
set_option maxRecDepth 100000 in
theorem c_X0_gatherChain (l : Launch) (D : va_G) (o : Nat → Nat) (cI : ClassId) (co ro tw op : Int32) (sm nx bf od st ow : Nat → Int32) (L : List (List Nat)) (e0 : Nat) (gL : L.length ≤ 131) (gst : st L.length = nI L.flatten.length) (gow : ∀ a, a < 264 → (ow a = -1 ↔ a ∉ L.flatten)) (gnx : ∀ a, a < 264 → nx a = -1 ∨ ∃ b, b < 264 ∧ nx a = nI b) (gnd : L.flatten.Nodup) (gal : ∀ z ∈ L.flatten, z < 264) (ge : e0 < 264) : wvMet l yX0_gatherChain wsX0_gatherChain ({ frames := 0, cells := 0, slots := 0, locals := 0 } : Room) D (W0 o cI co ro tw op (nI L.length) sm nx bf od st ow) (W0 o cI co ro tw op (nI (L.length + 1)) sm nx bf (gO od L.flatten.length (pth 264 nx L.flatten (nI e0))) (upd st (L.length + 1) (nI (L.flatten.length + (pth 264 nx L.flatten (nI e0)).length))) (gW ow (nI L.length) (pth 264 nx L.flatten (nI e0)))) [(cI, .int)] [.ref (o 0), .int (nI e0)] := by
  refine Met.ofW (cc := cX0_gatherChain) (maxL := 5) (ret := none) (by decide) rfl ?_
  intro p e s m args below meth c s₁ B hml hv
  obtain ⟨rfl, hP, hK, hD0⟩ := hv
  have hx := B.exec
  have hb := B.bytes
  have hr := B.returns
  have hts := atoms_spec (ws := wsX0_gatherChain) B.pre
  have hown : s.vm.findClass RX0 = some m.cls := findClass_of_methodNamed B.named
  have hlocks := B.notSynchronized
  have hin0 : ∀ w ∈ u_ws RX0 TX0 11, w ∈ wsX0_gatherChain := by decide +kernel
  have hD := wA_D hD0
  have hS : va_S (wA (W0 o cI co ro tw op (nI L.length) sm nx bf od st ow)) s.heap s.heap [] := va_S.rf
  obtain ⟨H, hH, hP, hS⟩ : ∃ H : Heap, s.heap = H ∧ va_P D vwCl (W0 o cI co ro tw op (nI L.length) sm nx bf od st ow) H ∧ va_S (wA (W0 o cI co ro tw op (nI L.length) sm nx bf od st ow)) s.heap H [] := ⟨_, rfl, hP, hS⟩
  rw [hH]
  have hl := lv_entry ([.ref (o 0), .int (nI e0)]) (n := 5) (Nat.le_of_ble_eq_true rfl)
  rw [lg_entry_eq]
  generalize (lg_sl ([.ref (o 0), .int (nI e0)]) ++ List.replicate (5 - (lg_sl ([.ref (o 0), .int (nI e0)])).length) Slot.unset).toArray = ls at hl ⊢
  have hl : lv_has ls 5 [(0, .ref (o 0)), (1, .int (nI e0))] := hl
  have lp : ∀ (n : Nat) (j : Nat) (q : List Nat) (cur : Int32), (j ≤ 264) → (265 ≤ j + n) → (q.length = j) → ((L.flatten ++ q).Nodup) → (∀ z ∈ L.flatten ++ q, z < 264) → (cur = -1 ∨ ∃ a, a < 264 ∧ cur = nI a) → (q ++ pth (264 - j) nx (L.flatten ++ q) cur = (pth 264 nx L.flatten (nI e0))) → ∀ (H : Heap) (locs : List Loc) (ls : Array Slot), va_P D vwCl (W0 o cI co ro tw op (nI L.length) sm nx bf (gO od L.flatten.length q) st (gW ow (nI L.length) q)) H → va_D (wA (W0 o cI co ro tw op (nI L.length) sm nx bf od st ow)) (W0 o cI co ro tw op (nI L.length) sm nx bf (gO od L.flatten.length q) st (gW ow (nI L.length) q)) → va_S (wA (W0 o cI co ro tw op (nI L.length) sm nx bf od st ow)) s.heap H locs → lv_has ls 5 [(2, .int (nI (L.flatten.length + q.length))), (3, .int cur), (4, .int (nI j)), (0, .ref (o 0)), (1, .int (nI e0))] → W p l e (headSpec wsX0_gatherChain ({ frames := 0, cells := 0, slots := 0, locals := 0 } : Room)).room s m ([.ref (o 0), .int (nI e0)] : List Value).toArray below meth c H locs 0 0 (MQ below (va_Qv (fun _ : Unit => True) (wB D (W0 o cI co ro tw op (nI L.length) sm nx bf od st ow) (W0 o cI co ro tw op (nI (L.length + 1)) sm nx bf (gO od L.flatten.length (pth 264 nx L.flatten (nI e0))) (upd st (L.length + 1) (nI (L.flatten.length + (pth 264 nx L.flatten (nI e0)).length))) (gW ow (nI L.length) (pth 264 nx L.flatten (nI e0)))) [(cI, .int)]) (wA (W0 o cI co ro tw op (nI L.length) sm nx bf od st ow))) ([.ref (o 0), .int (nI e0)] : List Value).toArray s 0 0 (wA (W0 o cI co ro tw op (nI L.length) sm nx bf od st ow))) (F0 m 15 ls []) := by
    intro n
    induction n with
    | zero =>
      intro j q cur hj hn hql hnd hal hcur hq
      exact absurd hn (by omega)
    | succ n ih =>
      intro j q cur hj hn hql hnd hal hcur hq H locs ls hP hD hS hl
      refine lv_iload hx hb dX0_gatherChain_15 (lv_at hl 2 rfl) ?_
      refine lv_sipush (v := 264) hx hb dX0_gatherChain_17 (by decide) ?_
      refine lv_icmp_ge (tgt := 71) hx hb dX0_gatherChain_20 (by decide) (fun c20 => ?_) (fun c20 => ?_)
      · have hqp : q = (pth 264 nx L.flatten (nI e0)) := by rw [← hq, show 264 - j = 0 from by have := le_n (a := 264) c20 (by decide) (by omega); omega, pth_0, List.append_nil]
        subst hqp
        refine lv_aload_n hx hb dX0_gatherChain_71 rfl (lv_at hl 3 rfl) ?_
        refine lv_dup hx hb dX0_gatherChain_72 rfl ?_
        refine va_get (D := D) (ci := 0) (v := .int (nI L.length)) (C := RX0) (T := TX0) (N := 11) hx hb hts hin0 hown hK hP 0 rfl rfl 10 (by decide) (hts (.fieldLink RX0 41 "HeightLines" "chains" "I") (by decide +kernel)) (fun _ h9 => h9) rfl dX0_gatherChain_73 ?_
        refine lv_iconst (v := 1) hx hb dX0_gatherChain_76 (by decide) ?_
        refine lv_iadd hx hb dX0_gatherChain_77 ?_
        rw [show ((nI L.length) + 1) = nI (L.length + 1) from nI_p1 _]
        refine va_put (D := D) (ci := 0) (v := .int (nI (L.length + 1))) (ty := .int) (C := RX0) (T := TX0) (N := 11) hx hb hts hin0 tyX0 tyX0_ok nmX0 hown hK hP hD hS 0 rfl rfl 10 (by decide) (hts (.fieldLink RX0 41 "HeightLines" "chains" "I") (by decide +kernel)) (fun _ h9 => h9) rfl (by decide +kernel) rfl rfl (Nat.le_of_ble_eq_true rfl) dX0_gatherChain_78 (fun H locs hP hD hS => ?_)
        have hP : va_P D vwCl (W0 o cI co ro tw op (nI (L.length + 1)) sm nx bf (gO od L.flatten.length (pth 264 nx L.flatten (nI e0))) st (gW ow (nI L.length) (pth 264 nx L.flatten (nI e0)))) H := hP
        have hD : va_D (wA (W0 o cI co ro tw op (nI L.length) sm nx bf od st ow)) (W0 o cI co ro tw op (nI (L.length + 1)) sm nx bf (gO od L.flatten.length (pth 264 nx L.flatten (nI e0))) st (gW ow (nI L.length) (pth 264 nx L.flatten (nI e0)))) := hD
        refine lv_aload_n hx hb dX0_gatherChain_81 rfl (lv_at hl 3 rfl) ?_
        refine va_get (D := D) (ci := 0) (v := .ref (o 5)) (C := RX0) (T := TX0) (N := 11) hx hb hts hin0 hown hK hP 0 rfl rfl 7 (by decide) (hts (.fieldLink RX0 32 "HeightLines" "starts" "[I") (by decide +kernel)) (fun _ h9 => h9) rfl dX0_gatherChain_82 ?_
        refine lv_aload_n hx hb dX0_gatherChain_85 rfl (lv_at hl 3 rfl) ?_
        refine va_get (D := D) (ci := 0) (v := .int (nI (L.length + 1))) (C := RX0) (T := TX0) (N := 11) hx hb hts hin0 hown hK hP 0 rfl rfl 10 (by decide) (hts (.fieldLink RX0 41 "HeightLines" "chains" "I") (by decide +kernel)) (fun _ h9 => h9) rfl dX0_gatherChain_86 ?_
        refine lv_iload_n hx hb dX0_gatherChain_89 rfl (lv_at hl 0 rfl) ?_
        refine an_iast (D := D) hx hb hK hP hD hS 5 0 rfl rfl (k := L.length + 1) (by omega) (by decide) dX0_gatherChain_90 (fun H locs hP hD hS => ?_)
        have hP : va_P D vwCl (W0 o cI co ro tw op (nI (L.length + 1)) sm nx bf (gO od L.flatten.length (pth 264 nx L.flatten (nI e0))) (upd st (L.length + 1) (nI (L.flatten.length + (pth 264 nx L.flatten (nI e0)).length))) (gW ow (nI L.length) (pth 264 nx L.flatten (nI e0)))) H := hP
        have hD : va_D (wA (W0 o cI co ro tw op (nI L.length) sm nx bf od st ow)) (W0 o cI co ro tw op (nI (L.length + 1)) sm nx bf (gO od L.flatten.length (pth 264 nx L.flatten (nI e0))) (upd st (L.length + 1) (nI (L.flatten.length + (pth 264 nx L.flatten (nI e0)).length))) (gW ow (nI L.length) (pth 264 nx L.flatten (nI e0)))) := hD
        exact W.vret hx hb hr (fun t ht hW => ⟨⟨(), rfl, trivial, by rw [ht]; exact hP, va_K.moved hW.alike hK, hD⟩, hS.F ht⟩) hS.2.2 dX0_gatherChain_91
      · refine lv_iload_n hx hb dX0_gatherChain_23 rfl (lv_at hl 1 rfl) ?_
        refine lv_iconst (v := (-1)) hx hb dX0_gatherChain_24 (by decide) ?_
        refine lv_icmp_eq (tgt := 71) hx hb dX0_gatherChain_25 (by decide) (fun c25 => ?_) (fun c25 => ?_)
        · have hqp : q = (pth 264 nx L.flatten (nI e0)) := by rw [← hq, c25, pth_m, List.append_nil]
          subst hqp
          refine lv_aload_n hx hb dX0_gatherChain_71 rfl (lv_at hl 3 rfl) ?_
          refine lv_dup hx hb dX0_gatherChain_72 rfl ?_
          refine va_get (D := D) (ci := 0) (v := .int (nI L.length)) (C := RX0) (T := TX0) (N := 11) hx hb hts hin0 hown hK hP 0 rfl rfl 10 (by decide) (hts (.fieldLink RX0 41 "HeightLines" "chains" "I") (by decide +kernel)) (fun _ h9 => h9) rfl dX0_gatherChain_73 ?_
          refine lv_iconst (v := 1) hx hb dX0_gatherChain_76 (by decide) ?_
          refine lv_iadd hx hb dX0_gatherChain_77 ?_
          rw [show ((nI L.length) + 1) = nI (L.length + 1) from nI_p1 _]
          refine va_put (D := D) (ci := 0) (v := .int (nI (L.length + 1))) (ty := .int) (C := RX0) (T := TX0) (N := 11) hx hb hts hin0 tyX0 tyX0_ok nmX0 hown hK hP hD hS 0 rfl rfl 10 (by decide) (hts (.fieldLink RX0 41 "HeightLines" "chains" "I") (by decide +kernel)) (fun _ h9 => h9) rfl (by decide +kernel) rfl rfl (Nat.le_of_ble_eq_true rfl) dX0_gatherChain_78 (fun H locs hP hD hS => ?_)
          have hP : va_P D vwCl (W0 o cI co ro tw op (nI (L.length + 1)) sm nx bf (gO od L.flatten.length (pth 264 nx L.flatten (nI e0))) st (gW ow (nI L.length) (pth 264 nx L.flatten (nI e0)))) H := hP
          have hD : va_D (wA (W0 o cI co ro tw op (nI L.length) sm nx bf od st ow)) (W0 o cI co ro tw op (nI (L.length + 1)) sm nx bf (gO od L.flatten.length (pth 264 nx L.flatten (nI e0))) st (gW ow (nI L.length) (pth 264 nx L.flatten (nI e0)))) := hD
          refine lv_aload_n hx hb dX0_gatherChain_81 rfl (lv_at hl 3 rfl) ?_
          refine va_get (D := D) (ci := 0) (v := .ref (o 5)) (C := RX0) (T := TX0) (N := 11) hx hb hts hin0 hown hK hP 0 rfl rfl 7 (by decide) (hts (.fieldLink RX0 32 "HeightLines" "starts" "[I") (by decide +kernel)) (fun _ h9 => h9) rfl dX0_gatherChain_82 ?_
          refine lv_aload_n hx hb dX0_gatherChain_85 rfl (lv_at hl 3 rfl) ?_
          refine va_get (D := D) (ci := 0) (v := .int (nI (L.length + 1))) (C := RX0) (T := TX0) (N := 11) hx hb hts hin0 hown hK hP 0 rfl rfl 10 (by decide) (hts (.fieldLink RX0 41 "HeightLines" "chains" "I") (by decide +kernel)) (fun _ h9 => h9) rfl dX0_gatherChain_86 ?_
          refine lv_iload_n hx hb dX0_gatherChain_89 rfl (lv_at hl 0 rfl) ?_
          refine an_iast (D := D) hx hb hK hP hD hS 5 0 rfl rfl (k := L.length + 1) (by omega) (by decide) dX0_gatherChain_90 (fun H locs hP hD hS => ?_)
          have hP : va_P D vwCl (W0 o cI co ro tw op (nI (L.length + 1)) sm nx bf (gO od L.flatten.length (pth 264 nx L.flatten (nI e0))) (upd st (L.length + 1) (nI (L.flatten.length + (pth 264 nx L.flatten (nI e0)).length))) (gW ow (nI L.length) (pth 264 nx L.flatten (nI e0)))) H := hP
          have hD : va_D (wA (W0 o cI co ro tw op (nI L.length) sm nx bf od st ow)) (W0 o cI co ro tw op (nI (L.length + 1)) sm nx bf (gO od L.flatten.length (pth 264 nx L.flatten (nI e0))) (upd st (L.length + 1) (nI (L.flatten.length + (pth 264 nx L.flatten (nI e0)).length))) (gW ow (nI L.length) (pth 264 nx L.flatten (nI e0)))) := hD
          exact W.vret hx hb hr (fun t ht hW => ⟨⟨(), rfl, trivial, by rw [ht]; exact hP, va_K.moved hW.alike hK, hD⟩, hS.F ht⟩) hS.2.2 dX0_gatherChain_91
        · obtain ⟨a, ha9, ecur⟩ := hcur.resolve_left c25
          rw [ecur] at hl
          refine lv_aload_n hx hb dX0_gatherChain_28 rfl (lv_at hl 3 rfl) ?_
          refine va_get (D := D) (ci := 0) (v := .ref (o 6)) (C := RX0) (T := TX0) (N := 11) hx hb hts hin0 hown hK hP 0 rfl rfl 8 (by decide) (hts (.fieldLink RX0 35 "HeightLines" "owner" "[I") (by decide +kernel)) (fun _ h9 => h9) rfl dX0_gatherChain_29 ?_
          refine lv_iload_n hx hb dX0_gatherChain_32 rfl (lv_at hl 1 rfl) ?_
          refine an_iald (D := D) hx hb hK hP 6 0 rfl rfl (k := a) ha9 (by decide) dX0_gatherChain_33 ?_
          refine lv_iconst (v := (-1)) hx hb dX0_gatherChain_34 (by decide) ?_
          refine lv_icmp_ne (tgt := 71) hx hb dX0_gatherChain_35 (by decide) (fun c35 => ?_) (fun c35 => ?_)
          · have hqp : q = (pth 264 nx L.flatten (nI e0)) := by rw [← hq, ecur, pth_i (by omega) (gW_m gow ha9 c35), List.append_nil]
            subst hqp
            refine lv_aload_n hx hb dX0_gatherChain_71 rfl (lv_at hl 3 rfl) ?_
            refine lv_dup hx hb dX0_gatherChain_72 rfl ?_
            refine va_get (D := D) (ci := 0) (v := .int (nI L.length)) (C := RX0) (T := TX0) (N := 11) hx hb hts hin0 hown hK hP 0 rfl rfl 10 (by decide) (hts (.fieldLink RX0 41 "HeightLines" "chains" "I") (by decide +kernel)) (fun _ h9 => h9) rfl dX0_gatherChain_73 ?_
            refine lv_iconst (v := 1) hx hb dX0_gatherChain_76 (by decide) ?_
            refine lv_iadd hx hb dX0_gatherChain_77 ?_
            rw [show ((nI L.length) + 1) = nI (L.length + 1) from nI_p1 _]
            refine va_put (D := D) (ci := 0) (v := .int (nI (L.length + 1))) (ty := .int) (C := RX0) (T := TX0) (N := 11) hx hb hts hin0 tyX0 tyX0_ok nmX0 hown hK hP hD hS 0 rfl rfl 10 (by decide) (hts (.fieldLink RX0 41 "HeightLines" "chains" "I") (by decide +kernel)) (fun _ h9 => h9) rfl (by decide +kernel) rfl rfl (Nat.le_of_ble_eq_true rfl) dX0_gatherChain_78 (fun H locs hP hD hS => ?_)
            have hP : va_P D vwCl (W0 o cI co ro tw op (nI (L.length + 1)) sm nx bf (gO od L.flatten.length (pth 264 nx L.flatten (nI e0))) st (gW ow (nI L.length) (pth 264 nx L.flatten (nI e0)))) H := hP
            have hD : va_D (wA (W0 o cI co ro tw op (nI L.length) sm nx bf od st ow)) (W0 o cI co ro tw op (nI (L.length + 1)) sm nx bf (gO od L.flatten.length (pth 264 nx L.flatten (nI e0))) st (gW ow (nI L.length) (pth 264 nx L.flatten (nI e0)))) := hD
            refine lv_aload_n hx hb dX0_gatherChain_81 rfl (lv_at hl 3 rfl) ?_
            refine va_get (D := D) (ci := 0) (v := .ref (o 5)) (C := RX0) (T := TX0) (N := 11) hx hb hts hin0 hown hK hP 0 rfl rfl 7 (by decide) (hts (.fieldLink RX0 32 "HeightLines" "starts" "[I") (by decide +kernel)) (fun _ h9 => h9) rfl dX0_gatherChain_82 ?_
            refine lv_aload_n hx hb dX0_gatherChain_85 rfl (lv_at hl 3 rfl) ?_
            refine va_get (D := D) (ci := 0) (v := .int (nI (L.length + 1))) (C := RX0) (T := TX0) (N := 11) hx hb hts hin0 hown hK hP 0 rfl rfl 10 (by decide) (hts (.fieldLink RX0 41 "HeightLines" "chains" "I") (by decide +kernel)) (fun _ h9 => h9) rfl dX0_gatherChain_86 ?_
            refine lv_iload_n hx hb dX0_gatherChain_89 rfl (lv_at hl 0 rfl) ?_
            refine an_iast (D := D) hx hb hK hP hD hS 5 0 rfl rfl (k := L.length + 1) (by omega) (by decide) dX0_gatherChain_90 (fun H locs hP hD hS => ?_)
            have hP : va_P D vwCl (W0 o cI co ro tw op (nI (L.length + 1)) sm nx bf (gO od L.flatten.length (pth 264 nx L.flatten (nI e0))) (upd st (L.length + 1) (nI (L.flatten.length + (pth 264 nx L.flatten (nI e0)).length))) (gW ow (nI L.length) (pth 264 nx L.flatten (nI e0)))) H := hP
            have hD : va_D (wA (W0 o cI co ro tw op (nI L.length) sm nx bf od st ow)) (W0 o cI co ro tw op (nI (L.length + 1)) sm nx bf (gO od L.flatten.length (pth 264 nx L.flatten (nI e0))) (upd st (L.length + 1) (nI (L.flatten.length + (pth 264 nx L.flatten (nI e0)).length))) (gW ow (nI L.length) (pth 264 nx L.flatten (nI e0)))) := hD
            exact W.vret hx hb hr (fun t ht hW => ⟨⟨(), rfl, trivial, by rw [ht]; exact hP, va_K.moved hW.alike hK, hD⟩, hS.F ht⟩) hS.2.2 dX0_gatherChain_91
          · have hna : a ∉ L.flatten ++ q := gW_nm gow ha9 (by omega) c35
            have hnd2 := nd_snoc hnd hna
            have hal2 : ∀ z ∈ (L.flatten ++ q) ++ [a], z < 264 := fun z hz => (List.mem_append.mp hz).elim (fun h => hal z h) (fun h => by rw [List.mem_singleton] at h; omega)
            have hle2 := nd_len hnd2 hal2
            simp only [List.length_append, List.length_singleton] at hle2
            refine lv_aload_n hx hb dX0_gatherChain_38 rfl (lv_at hl 3 rfl) ?_
            refine va_get (D := D) (ci := 0) (v := .ref (o 6)) (C := RX0) (T := TX0) (N := 11) hx hb hts hin0 hown hK hP 0 rfl rfl 8 (by decide) (hts (.fieldLink RX0 35 "HeightLines" "owner" "[I") (by decide +kernel)) (fun _ h9 => h9) rfl dX0_gatherChain_39 ?_
            refine lv_iload_n hx hb dX0_gatherChain_42 rfl (lv_at hl 1 rfl) ?_
            refine lv_aload_n hx hb dX0_gatherChain_43 rfl (lv_at hl 3 rfl) ?_
            refine va_get (D := D) (ci := 0) (v := .int (nI L.length)) (C := RX0) (T := TX0) (N := 11) hx hb hts hin0 hown hK hP 0 rfl rfl 10 (by decide) (hts (.fieldLink RX0 41 "HeightLines" "chains" "I") (by decide +kernel)) (fun _ h9 => h9) rfl dX0_gatherChain_44 ?_
            refine an_iast (D := D) hx hb hK hP hD hS 6 0 rfl rfl (k := a) ha9 (by decide) dX0_gatherChain_47 (fun H locs hP hD hS => ?_)
            have hP : va_P D vwCl (W0 o cI co ro tw op (nI L.length) sm nx bf (gO od L.flatten.length q) st (upd (gW ow (nI L.length) q) a (nI L.length))) H := hP
            have hD : va_D (wA (W0 o cI co ro tw op (nI L.length) sm nx bf od st ow)) (W0 o cI co ro tw op (nI L.length) sm nx bf (gO od L.flatten.length q) st (upd (gW ow (nI L.length) q) a (nI L.length))) := hD
            refine lv_aload_n hx hb dX0_gatherChain_48 rfl (lv_at hl 3 rfl) ?_
            refine va_get (D := D) (ci := 0) (v := .ref (o 4)) (C := RX0) (T := TX0) (N := 11) hx hb hts hin0 hown hK hP 0 rfl rfl 6 (by decide) (hts (.fieldLink RX0 29 "HeightLines" "order" "[I") (by decide +kernel)) (fun _ h9 => h9) rfl dX0_gatherChain_49 ?_
            refine lv_iload_n hx hb dX0_gatherChain_52 rfl (lv_at hl 0 rfl) ?_
            refine lv_iload_n hx hb dX0_gatherChain_53 rfl (lv_at hl 1 rfl) ?_
            refine an_iast (D := D) hx hb hK hP hD hS 4 0 rfl rfl (k := L.flatten.length + q.length) (by omega) (by decide) dX0_gatherChain_54 (fun H locs hP hD hS => ?_)
            have hP : va_P D vwCl (W0 o cI co ro tw op (nI L.length) sm nx bf (upd (gO od L.flatten.length q) (L.flatten.length + q.length) (nI a)) st (upd (gW ow (nI L.length) q) a (nI L.length))) H := hP
            have hD : va_D (wA (W0 o cI co ro tw op (nI L.length) sm nx bf od st ow)) (W0 o cI co ro tw op (nI L.length) sm nx bf (upd (gO od L.flatten.length q) (L.flatten.length + q.length) (nI a)) st (upd (gW ow (nI L.length) q) a (nI L.length))) := hD
            refine lv_iinc (v := (nI (L.flatten.length + q.length + 1))) (lv' := [(2, .int (nI (L.flatten.length + q.length + 1))), (3, .int (nI a)), (4, .int (nI j)), (0, .ref (o 0)), (1, .int (nI e0))]) hx hb dX0_gatherChain_55 hl (k := 0) rfl (nI_p1 _) (by decide) rfl (fun ls hl => ?_)
            refine lv_aload_n hx hb dX0_gatherChain_58 rfl (lv_at hl 3 rfl) ?_
            refine va_get (D := D) (ci := 0) (v := .ref (o 2)) (C := RX0) (T := TX0) (N := 11) hx hb hts hin0 hown hK hP 0 rfl rfl 4 (by decide) (hts (.fieldLink RX0 23 "HeightLines" "next" "[I") (by decide +kernel)) (fun _ h9 => h9) rfl dX0_gatherChain_59 ?_
            refine lv_iload_n hx hb dX0_gatherChain_62 rfl (lv_at hl 1 rfl) ?_
            refine an_iald (D := D) hx hb hK hP 2 0 rfl rfl (k := a) ha9 (by decide) dX0_gatherChain_63 ?_
            refine lv_topi (fun cur2 ecur2 => ?_)
            refine lv_istore_n (lv' := [(3, .int cur2), (2, .int (nI (L.flatten.length + q.length + 1))), (4, .int (nI j)), (0, .ref (o 0)), (1, .int (nI e0))]) hx hb dX0_gatherChain_64 rfl hl (by decide) rfl (fun ls hl => ?_)
            refine lv_iinc (v := (nI (j + 1))) (lv' := [(4, .int (nI (j + 1))), (3, .int cur2), (2, .int (nI (L.flatten.length + q.length + 1))), (0, .ref (o 0)), (1, .int (nI e0))]) hx hb dX0_gatherChain_65 hl (k := 2) rfl (nI_p1 _) (by decide) rfl (fun ls hl => ?_)
            refine lv_goto (tgt := 15) hx hb dX0_gatherChain_68 (by decide) ?_
            rw [gO_s, gW_s] at hP hD
            rw [show L.flatten.length + q.length + 1 = L.flatten.length + (q ++ [a]).length from by simp [Nat.add_assoc]] at hl
            exact ih (j + 1) (q ++ [a]) cur2 (by have := nle_n (a := 264) c20 (by decide) (by omega); omega) (by omega) (by simp [hql]) (by rw [← List.append_assoc]; exact hnd2) (by rw [← List.append_assoc]; exact hal2) (by rw [ecur2]; exact gnx a ha9) (by rw [← hq, ecur, show 264 - j = (264 - (j + 1)) + 1 from by have := nle_n (a := 264) c20 (by decide) (by omega); omega, pth_s (by omega) hna, List.append_assoc, List.append_assoc, ecur2]; rfl) _ _ _ hP hD hS (lv_sub hl [2, 1, 0, 3, 4] rfl)
  refine lv_aload_n hx hb dX0_gatherChain_0 rfl (lv_at hl 0 rfl) ?_
  refine va_get (D := D) (ci := 0) (v := .ref (o 5)) (C := RX0) (T := TX0) (N := 11) hx hb hts hin0 hown hK hP 0 rfl rfl 7 (by decide) (hts (.fieldLink RX0 32 "HeightLines" "starts" "[I") (by decide +kernel)) (fun _ h9 => h9) rfl dX0_gatherChain_1 ?_
  refine lv_aload_n hx hb dX0_gatherChain_4 rfl (lv_at hl 0 rfl) ?_
  refine va_get (D := D) (ci := 0) (v := .int (nI L.length)) (C := RX0) (T := TX0) (N := 11) hx hb hts hin0 hown hK hP 0 rfl rfl 10 (by decide) (hts (.fieldLink RX0 41 "HeightLines" "chains" "I") (by decide +kernel)) (fun _ h9 => h9) rfl dX0_gatherChain_5 ?_
  refine an_iald (D := D) hx hb hK hP 5 0 rfl rfl (k := L.length) (by omega) (by decide) dX0_gatherChain_8 ?_
  rw [show (st L.length) = nI L.flatten.length from gst]
  refine lv_istore_n (lv' := [(2, .int (nI L.flatten.length)), (0, .ref (o 0)), (1, .int (nI e0))]) hx hb dX0_gatherChain_9 rfl hl (by decide) rfl (fun ls hl => ?_)
  refine lv_iload_n hx hb dX0_gatherChain_10 rfl (lv_at hl 2 rfl) ?_
  refine lv_istore_n (lv' := [(3, .int (nI e0)), (2, .int (nI L.flatten.length)), (0, .ref (o 0)), (1, .int (nI e0))]) hx hb dX0_gatherChain_11 rfl hl (by decide) rfl (fun ls hl => ?_)
  refine lv_iconst (v := 0) hx hb dX0_gatherChain_12 (by decide) ?_
  refine lv_istore (lv' := [(4, .int 0), (3, .int (nI e0)), (2, .int (nI L.flatten.length)), (0, .ref (o 0)), (1, .int (nI e0))]) hx hb dX0_gatherChain_13 hl (by decide) rfl (fun ls hl => ?_)
  have hP : va_P D vwCl (W0 o cI co ro tw op (nI L.length) sm nx bf (gO od L.flatten.length []) st (gW ow (nI L.length) [])) H := by rw [gO_0, gW_0]; exact hP
  have hD : va_D (wA (W0 o cI co ro tw op (nI L.length) sm nx bf od st ow)) (W0 o cI co ro tw op (nI L.length) sm nx bf (gO od L.flatten.length []) st (gW ow (nI L.length) [])) := by rw [gO_0, gW_0]; exact hD
  rw [show L.flatten.length = L.flatten.length + ([] : List Nat).length from rfl] at hl
  exact lp 265 0 [] (nI e0) (by decide) (by decide) rfl (by rw [List.append_nil]; exact gnd) (by rw [List.append_nil]; exact gal) (Or.inr ⟨e0, ge, rfl⟩) (by rw [List.append_nil]; rfl) _ _ _ hP hD hS (lv_sub hl [2, 1, 0, 3, 4] rfl)
