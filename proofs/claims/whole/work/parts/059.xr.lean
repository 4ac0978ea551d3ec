set_option maxHeartbeats 4000000 in
set_option maxRecDepth 100000 in
theorem c_X0_crossing (l : Launch) (D : va_G) (o : Nat → Nat) (cI : ClassId) (tw op ch : Int32) (sm nx bf od st ow : Nat → Int32) (w : Nat) (h : Nat) (f : Nat → Nat → Int32) (a : Int32) (b : Int32) (hst : l.stackTraces = false) (gw : 2 ≤ w) (gw2 : w ≤ 12) (gh : 2 ≤ h) (gh2 : h ≤ 12) (gf : ∀ x y, x < w → y < h → sm (y * w + x) = f x y) (gb : ∀ x y, x < w → y < h → sB (f x y)) (gt : tB tw) : vx_Met l yX0_crossing wsX0_crossing ({ frames := 6, cells := 1, slots := 6, locals := 89 } : Room) (xPc D (W0 o cI (nI w) (nI h) tw op ch sm nx bf od st ow) [(cI, .int)] [.ref (o 0), .int a, .int b]) (va_Qi (fun r (_ : Unit) => okC w h f tw a b = true ∧ r = crV tw (fst2 w h f a.toNatClampNeg) (snd2 w h f a.toNatClampNeg) b) (fun _ _ => True) (fun _ => False)) (vx_X (fun _ : Unit => okC w h f tw a b = false) (fun E _ _ => E = NSE) (fun _ => False)) 1 6 (fun _ => False) := by
  refine vx_ofW (cc := cX0_crossing) (maxL := 7) (ret := (some .int)) (by decide) rfl ?_
  intro p e s m args below meth c s₁ B hml htab hv
  obtain ⟨rfl, hP, hK, hXN, hXZ⟩ := hv
  have hx := B.exec
  have hb := B.bytes
  have hr := B.returns
  have hts := atoms_spec (ws := wsX0_crossing) B.pre
  have hown : s.vm.findClass RX0 = some m.cls := findClass_of_methodNamed B.named
  have hlocks := B.notSynchronized
  have hin0 : ∀ w ∈ u_ws RX0 TX0 11, w ∈ wsX0_crossing := by decide +kernel
  have hS : va_S (fun _ => False) s.heap s.heap [] := va_S.rf
  have hP : va_P D vwCl (W0 o cI (nI w) (nI h) tw op ch sm nx bf od st ow) s.heap := hP
  have hl := lv_entry ([.ref (o 0), .int a, .int b]) (n := 7) (Nat.le_of_ble_eq_true rfl)
  rw [lg_entry_eq]
  generalize (lg_sl ([.ref (o 0), .int a, .int b]) ++ List.replicate (7 - (lg_sl ([.ref (o 0), .int a, .int b])).length) Slot.unset).toArray = ls at hl ⊢
  have hl : lv_has ls 7 [(0, .ref (o 0)), (1, .int a), (2, .int b)] := hl
  have hat : ∀ w ∈ vx_at0 RX0 95 NSE NSn, w.before ([.ref (o 0), .int a, .int b] : List Value).toArray s = true := vx_hat (fun w hw => hts w (List.mem_cons_of_mem _ (List.mem_append_right _ hw))) xBad_ok (hXN.use _)
  refine lv_iload_n hx hb dX0_crossing_0 rfl (lv_at hl 1 rfl) ?_
  refine lv_if_lt (tgt := 29) hx hb dX0_crossing_1 (by decide) (fun c1 => ?_) (fun c1 => ?_)
  · have hok : okC w h f tw a b = false := by unfold okC okY; rw [decide_eq_false (Int32.not_le.mpr c1)]; rfl
    exact vx_throw0 hx hb hst (own := RX0) (cls := NSE) (names := NSn) (ik := 93) (ic := 95) (A := fun _ => False) hown (by decide +kernel) (by decide +kernel) (hts (.classLink RX0 93 NSE) (by decide +kernel)) (hts (.initialized NSE) (by decide +kernel)) hat xGood_ok hXZ.1 hXZ.2 hS (by rw [hml]; exact hl.1) dX0_crossing_29 dX0_crossing_32 dX0_crossing_33 dX0_crossing_36 (fun x hx9 => (htab x hx9).elim) (Nat.le_of_ble_eq_true rfl) (Nat.le_of_ble_eq_true rfl) (Nat.le_of_ble_eq_true rfl) (Nat.le_of_ble_eq_true rfl) hlocks (fun t ha hz hk => ⟨(), hok, rfl, Nat.le_trans hS.1 hz, fun q h1 h2 => (hk q (Nat.lt_of_lt_of_le h1 hS.1)).trans (hS.2.1 q h1 h2)⟩) hS.2.2 (Nat.le_refl _) (Nat.le_refl _)
  · refine lv_iload_n hx hb dX0_crossing_4 rfl (lv_at hl 1 rfl) ?_
    refine lv_aload_n hx hb dX0_crossing_5 rfl (lv_at hl 0 rfl) ?_
    refine ro_V0 ⟨hx, hb, hml, hown, hts⟩ (c_X0_edgeCount l D o cI tw op ch sm nx bf od st ow w h (by omega) (by omega)) (cwV 0 hts gX0_crossing_X0_edgeCount rfl rfl rfl (by decide +kernel) ⟨Nat.le_of_ble_eq_true rfl, Nat.le_of_ble_eq_true rfl⟩) (va_recv hK hP (ci := 0) (q0 := 0) rfl rfl) hP hK hP hS rfl hl.1 (lv_room (Nat.le_of_ble_eq_true rfl)) dX0_crossing_6 ⟨Nat.le_of_ble_eq_true rfl, Nat.le_of_ble_eq_true rfl⟩ (fun r6 H locs hr6 hP hS => ?_)
    subst hr6
    refine lv_icmp_ge (tgt := 29) hx hb dX0_crossing_9 (by decide) (fun c9 => ?_) (fun c9 => ?_)
    · have hok : okC w h f tw a b = false := by unfold okC okY; rw [decide_eq_false (Int32.not_lt.mpr c9)]; simp
      exact vx_throw0 hx hb hst (own := RX0) (cls := NSE) (names := NSn) (ik := 93) (ic := 95) (A := fun _ => False) hown (by decide +kernel) (by decide +kernel) (hts (.classLink RX0 93 NSE) (by decide +kernel)) (hts (.initialized NSE) (by decide +kernel)) hat xGood_ok hXZ.1 hXZ.2 hS (by rw [hml]; exact hl.1) dX0_crossing_29 dX0_crossing_32 dX0_crossing_33 dX0_crossing_36 (fun x hx9 => (htab x hx9).elim) (Nat.le_of_ble_eq_true rfl) (Nat.le_of_ble_eq_true rfl) (Nat.le_of_ble_eq_true rfl) (Nat.le_of_ble_eq_true rfl) hlocks (fun t ha hz hk => ⟨(), hok, rfl, Nat.le_trans hS.1 hz, fun q h1 h2 => (hk q (Nat.lt_of_lt_of_le h1 hS.1)).trans (hS.2.1 q h1 h2)⟩) hS.2.2 (Nat.le_refl _) (Nat.le_refl _)
    · obtain ⟨e0, he0, ea⟩ : ∃ j, j < nE w h ∧ a = nI j := okY_n (h := nE w h) (by unfold okY; rw [decide_eq_true (Int32.not_lt.mp c1), decide_eq_true (Int32.not_le.mp c9)]; rfl) (by have := nE_le gw2 gh2; omega)
      have he2 := nE_le gw2 gh2
      rw [ea] at hl
      refine lv_aload_n hx hb dX0_crossing_12 rfl (lv_at hl 0 rfl) ?_
      refine lv_iload_n hx hb dX0_crossing_13 rfl (lv_at hl 1 rfl) ?_
      refine ro_V1 ⟨hx, hb, hml, hown, hts⟩ (c_X0_isCrossed l D o cI tw op ch sm nx bf od st ow w h f e0 gw gw2 gh gh2 gf he0) (cwV 1 hts gX0_crossing_X0_isCrossed rfl rfl rfl (by decide +kernel) ⟨Nat.le_of_ble_eq_true rfl, Nat.le_of_ble_eq_true rfl⟩) (va_recv hK hP (ci := 0) (q0 := 0) rfl rfl) hP hK hP hS rfl hl.1 (lv_room (Nat.le_of_ble_eq_true rfl)) dX0_crossing_14 ⟨Nat.le_of_ble_eq_true rfl, Nat.le_of_ble_eq_true rfl⟩ (fun r14 H locs hr14 hP hS => ?_)
      subst hr14
      refine lv_if_eq (tgt := 29) hx hb dX0_crossing_17 (by decide) (fun c17 => ?_) (fun c17 => ?_)
      · have hok : okC w h f tw a b = false := by unfold okC; rw [ea, nI_clamp (by omega), bI_0.mp c17]; simp
        exact vx_throw0 hx hb hst (own := RX0) (cls := NSE) (names := NSn) (ik := 93) (ic := 95) (A := fun _ => False) hown (by decide +kernel) (by decide +kernel) (hts (.classLink RX0 93 NSE) (by decide +kernel)) (hts (.initialized NSE) (by decide +kernel)) hat xGood_ok hXZ.1 hXZ.2 hS (by rw [hml]; exact hl.1) dX0_crossing_29 dX0_crossing_32 dX0_crossing_33 dX0_crossing_36 (fun x hx9 => (htab x hx9).elim) (Nat.le_of_ble_eq_true rfl) (Nat.le_of_ble_eq_true rfl) (Nat.le_of_ble_eq_true rfl) (Nat.le_of_ble_eq_true rfl) hlocks (fun t ha hz hk => ⟨(), hok, rfl, Nat.le_trans hS.1 hz, fun q h1 h2 => (hk q (Nat.lt_of_lt_of_le h1 hS.1)).trans (hS.2.1 q h1 h2)⟩) hS.2.2 (Nat.le_refl _) (Nat.le_refl _)
      · refine lv_iload_n hx hb dX0_crossing_20 rfl (lv_at hl 2 rfl) ?_
        refine lv_if_lt (tgt := 29) hx hb dX0_crossing_21 (by decide) (fun c21 => ?_) (fun c21 => ?_)
        · have hok : okC w h f tw a b = false := by unfold okC; rw [decide_eq_false (Int32.not_le.mpr c21)]; simp
          exact vx_throw0 hx hb hst (own := RX0) (cls := NSE) (names := NSn) (ik := 93) (ic := 95) (A := fun _ => False) hown (by decide +kernel) (by decide +kernel) (hts (.classLink RX0 93 NSE) (by decide +kernel)) (hts (.initialized NSE) (by decide +kernel)) hat xGood_ok hXZ.1 hXZ.2 hS (by rw [hml]; exact hl.1) dX0_crossing_29 dX0_crossing_32 dX0_crossing_33 dX0_crossing_36 (fun x hx9 => (htab x hx9).elim) (Nat.le_of_ble_eq_true rfl) (Nat.le_of_ble_eq_true rfl) (Nat.le_of_ble_eq_true rfl) (Nat.le_of_ble_eq_true rfl) hlocks (fun t ha hz hk => ⟨(), hok, rfl, Nat.le_trans hS.1 hz, fun q h1 h2 => (hk q (Nat.lt_of_lt_of_le h1 hS.1)).trans (hS.2.1 q h1 h2)⟩) hS.2.2 (Nat.le_refl _) (Nat.le_refl _)
        · refine lv_iload_n hx hb dX0_crossing_24 rfl (lv_at hl 2 rfl) ?_
          refine lv_iconst (v := 1) hx hb dX0_crossing_25 (by decide) ?_
          refine lv_icmp_le (tgt := 37) hx hb dX0_crossing_26 (by decide) (fun c26 => ?_) (fun c26 => ?_)
          · refine lv_aload_n hx hb dX0_crossing_37 rfl (lv_at hl 0 rfl) ?_
            refine va_get (D := D) (ci := 0) (v := .ref (o 1)) (C := RX0) (T := TX0) (N := 11) hx hb hts hin0 hown hK hP 0 rfl rfl 3 (by decide) (hts (.fieldLink RX0 19 "HeightLines" "samples" "[I") (by decide +kernel)) (fun _ h9 => h9) rfl dX0_crossing_38 ?_
            refine lv_aload_n hx hb dX0_crossing_41 rfl (lv_at hl 0 rfl) ?_
            refine lv_iload_n hx hb dX0_crossing_42 rfl (lv_at hl 1 rfl) ?_
            refine ro_V1 ⟨hx, hb, hml, hown, hts⟩ (c_X0_firstSample l D o cI tw op ch sm nx bf od st ow w h e0 gw gw2 gh2 (by omega)) (cwV 1 hts gX0_crossing_X0_firstSample rfl rfl rfl (by decide +kernel) ⟨Nat.le_of_ble_eq_true rfl, Nat.le_of_ble_eq_true rfl⟩) (va_recv hK hP (ci := 0) (q0 := 0) rfl rfl) hP hK hP hS rfl hl.1 (lv_room (Nat.le_of_ble_eq_true rfl)) dX0_crossing_43 ⟨Nat.le_of_ble_eq_true rfl, Nat.le_of_ble_eq_true rfl⟩ (fun r43 H locs hr43 hP hS => ?_)
            subst hr43
            refine an_iald (D := D) hx hb hK hP 1 0 rfl rfl (k := fS w h e0) ((fS_lt gw gw2 gh gh2 he0).1) (by decide) dX0_crossing_46 ?_
            rw [show (sm (fS w h e0)) = fst2 w h f e0 from fS_f gw gh gf he0]
            refine lv_topi (fun x47 ex47 => ?_)
            refine lv_istore_n (lv' := [(3, .int x47), (0, .ref (o 0)), (1, .int (nI e0)), (2, .int b)]) hx hb dX0_crossing_47 rfl hl (by decide) rfl (fun ls hl => ?_)
            refine lv_aload_n hx hb dX0_crossing_48 rfl (lv_at hl 1 rfl) ?_
            refine va_get (D := D) (ci := 0) (v := .ref (o 1)) (C := RX0) (T := TX0) (N := 11) hx hb hts hin0 hown hK hP 0 rfl rfl 3 (by decide) (hts (.fieldLink RX0 19 "HeightLines" "samples" "[I") (by decide +kernel)) (fun _ h9 => h9) rfl dX0_crossing_49 ?_
            refine lv_aload_n hx hb dX0_crossing_52 rfl (lv_at hl 1 rfl) ?_
            refine lv_iload_n hx hb dX0_crossing_53 rfl (lv_at hl 2 rfl) ?_
            refine ro_V1 ⟨hx, hb, hml, hown, hts⟩ (c_X0_secondSample l D o cI tw op ch sm nx bf od st ow w h e0 gw gw2 gh2 (by omega)) (cwV 1 hts gX0_crossing_X0_secondSample rfl rfl rfl (by decide +kernel) ⟨Nat.le_of_ble_eq_true rfl, Nat.le_of_ble_eq_true rfl⟩) (va_recv hK hP (ci := 0) (q0 := 0) rfl rfl) hP hK hP hS rfl hl.1 (lv_room (Nat.le_of_ble_eq_true rfl)) dX0_crossing_54 ⟨Nat.le_of_ble_eq_true rfl, Nat.le_of_ble_eq_true rfl⟩ (fun r54 H locs hr54 hP hS => ?_)
            subst hr54
            refine an_iald (D := D) hx hb hK hP 1 0 rfl rfl (k := sS w h e0) ((fS_lt gw gw2 gh gh2 he0).2) (by decide) dX0_crossing_57 ?_
            rw [show (sm (sS w h e0)) = snd2 w h f e0 from sS_f gw gh gf he0]
            refine lv_topi (fun x58 ex58 => ?_)
            refine lv_istore (lv' := [(4, .int x58), (3, .int x47), (0, .ref (o 0)), (1, .int (nI e0)), (2, .int b)]) hx hb dX0_crossing_58 hl (by decide) rfl (fun ls hl => ?_)
            refine lv_aload_n hx hb dX0_crossing_60 rfl (lv_at hl 2 rfl) ?_
            refine va_get (D := D) (ci := 0) (v := .int tw) (C := RX0) (T := TX0) (N := 11) hx hb hts hin0 hown hK hP 0 rfl rfl 2 (by decide) (hts (.fieldLink RX0 16 "HeightLines" "twiceHeight" "I") (by decide +kernel)) (fun _ h9 => h9) rfl dX0_crossing_61 ?_
            refine lv_iconst (v := 2) hx hb dX0_crossing_64 (by decide) ?_
            refine lv_iload_n hx hb dX0_crossing_65 rfl (lv_at hl 1 rfl) ?_
            refine lv_imul hx hb dX0_crossing_66 ?_
            refine lv_isub hx hb dX0_crossing_67 ?_
            refine va_mabs hx hb (by rw [hml]; exact hl.1.symm) hown (hts (.methodLink RX0 102 Lib.Math.abs.name) (by decide +kernel)) (hts (.static Lib.Math.abs.name) (by decide +kernel)) (hts (.initialized "java/lang/Math") (by decide +kernel)) (hts (.code Lib.Math.abs.name Lib.Math.abs.code 1 (some .int)) (by decide +kernel)) (Nat.le_of_ble_eq_true rfl) (Nat.le_of_ble_eq_true rfl) (Nat.le_of_ble_eq_true rfl) (Nat.le_of_ble_eq_true rfl) dX0_crossing_68 ?_
            rw [show (if 0 ≤ (tw - (2 * x47)) then (tw - (2 * x47)) else 0 - (tw - (2 * x47))) = nI (upN tw (fst2 w h f e0)) from by rw [ex47]; exact up_abs gt (fst_B gw gh gb he0)]
            refine lv_istore (lv' := [(5, .int (nI (upN tw (fst2 w h f e0)))), (4, .int x58), (3, .int x47), (0, .ref (o 0)), (1, .int (nI e0)), (2, .int b)]) hx hb dX0_crossing_71 hl (by decide) rfl (fun ls hl => ?_)
            refine lv_iconst (v := 2) hx hb dX0_crossing_73 (by decide) ?_
            refine lv_iload hx hb dX0_crossing_74 (lv_at hl 1 rfl) ?_
            refine lv_iload_n hx hb dX0_crossing_76 rfl (lv_at hl 2 rfl) ?_
            refine lv_isub hx hb dX0_crossing_77 ?_
            refine lv_imul hx hb dX0_crossing_78 ?_
            refine va_mabs hx hb (by rw [hml]; exact hl.1.symm) hown (hts (.methodLink RX0 102 Lib.Math.abs.name) (by decide +kernel)) (hts (.static Lib.Math.abs.name) (by decide +kernel)) (hts (.initialized "java/lang/Math") (by decide +kernel)) (hts (.code Lib.Math.abs.name Lib.Math.abs.code 1 (some .int)) (by decide +kernel)) (Nat.le_of_ble_eq_true rfl) (Nat.le_of_ble_eq_true rfl) (Nat.le_of_ble_eq_true rfl) (Nat.le_of_ble_eq_true rfl) dX0_crossing_79 ?_
            rw [show (if 0 ≤ (2 * (x58 - x47)) then (2 * (x58 - x47)) else 0 - (2 * (x58 - x47))) = nI (loN (fst2 w h f e0) (snd2 w h f e0)) from by rw [ex47, ex58]; exact lo_abs (fst_B gw gh gb he0) (snd_B gw gh gb he0)]
            refine lv_istore (lv' := [(6, .int (nI (loN (fst2 w h f e0) (snd2 w h f e0)))), (5, .int (nI (upN tw (fst2 w h f e0)))), (4, .int x58), (3, .int x47), (0, .ref (o 0)), (1, .int (nI e0)), (2, .int b)]) hx hb dX0_crossing_82 hl (by decide) rfl (fun ls hl => ?_)
            refine lv_iload_n hx hb dX0_crossing_84 rfl (lv_at hl 6 rfl) ?_
            refine lv_if_ne (tgt := 93) hx hb dX0_crossing_85 (by decide) (fun c85 => ?_) (fun c85 => ?_)
            · refine lv_iload hx hb dX0_crossing_93 (lv_at hl 0 rfl) ?_
              refine lv_iload hx hb dX0_crossing_95 (lv_at hl 1 rfl) ?_
              refine lv_iload hx hb dX0_crossing_97 (lv_at hl 0 rfl) ?_
              refine ro_S2 ⟨hx, hb, hml, hown, hts⟩ (c_X0_greatestDivisor l D (upN tw (fst2 w h f e0)) (loN (fst2 w h f e0) (snd2 w h f e0)) (by have := upN_lt gt (fst_B gw gh gb he0); omega) (by have := loN_lt (fst_B gw gh gb he0) (snd_B gw gh gb he0); omega)) (va_cwS 2 hts gX0_crossing_X0_greatestDivisor rfl rfl rfl (by decide +kernel) ⟨Nat.le_of_ble_eq_true rfl, Nat.le_of_ble_eq_true rfl⟩) (va_P0 D vwCl _) (hK.sub [] rfl) hP hS rfl hl.1 (lv_room (Nat.le_of_ble_eq_true rfl)) dX0_crossing_99 ⟨Nat.le_of_ble_eq_true rfl, Nat.le_of_ble_eq_true rfl⟩ (fun r99 H locs hr99 hP hS => ?_)
              subst hr99
              rw [show (nI (euc 64 (upN tw (fst2 w h f e0)) (loN (fst2 w h f e0) (snd2 w h f e0)))) = nI (Nat.gcd (upN tw (fst2 w h f e0)) (loN (fst2 w h f e0) (snd2 w h f e0))) from by rw [euc_64 (loN_lt (fst_B gw gh gb he0) (snd_B gw gh gb he0))]]
              have hgl : Nat.gcd (upN tw (fst2 w h f e0)) (loN (fst2 w h f e0) (snd2 w h f e0)) < 2 ^ 31 := by
                                        have h8 := loN_lt (fst_B gw gh gb he0) (snd_B gw gh gb he0)
                                        have h7 : 0 < (loN (fst2 w h f e0) (snd2 w h f e0)) := by
                                          rcases cr_sign gt (fst_B gw gh gb he0) (snd_B gw gh gb he0) (bI_n0.mp c17) with q | q <;> unfold loN <;> omega
                                        have h6 := Nat.gcd_le_right (upN tw (fst2 w h f e0)) h7
                                        omega
              refine lv_idiv hx hb dX0_crossing_102 (nI_ne0 (cr_gpos gt (fst_B gw gh gb he0) (snd_B gw gh gb he0) (bI_n0.mp c17)) hgl) ?_
              refine vx_ret (W.widen (k := 1) (n := 6) (Nat.le_of_ble_eq_true rfl) (Nat.le_of_ble_eq_true rfl) ?_)
              exact W.iret (v := (nI (loN (fst2 w h f e0) (snd2 w h f e0)) / (nI (Nat.gcd (upN tw (fst2 w h f e0)) (loN (fst2 w h f e0) (snd2 w h f e0)))))) hx hb hr (fun t ht hW => ⟨⟨_, (), rfl, ⟨by unfold okC; rw [ea, nI_clamp (by omega), okY_nI he0 (by omega), decide_eq_true (Int32.not_lt.mp c21), decide_eq_true (lt2_le1.mpr c26), bI_n0.mp c17]; rfl, by show _ = crV _ _ _ _; rw [ea, nI_clamp (by omega)]; unfold crV; rw [if_neg c85, pk_div (by have := upN_lt gt (fst_B gw gh gb he0); have := loN_lt (fst_B gw gh gb he0) (snd_B gw gh gb he0); omega) (cr_gpos gt (fst_B gw gh gb he0) (snd_B gw gh gb he0) (bI_n0.mp c17)) hgl]⟩, trivial⟩, hS.F ht⟩) hS.2.2 dX0_crossing_103
            · refine lv_iload hx hb dX0_crossing_88 (lv_at hl 1 rfl) ?_
              refine lv_goto (tgt := 95) hx hb dX0_crossing_90 (by decide) ?_
              refine lv_iload hx hb dX0_crossing_95 (lv_at hl 1 rfl) ?_
              refine lv_iload hx hb dX0_crossing_97 (lv_at hl 0 rfl) ?_
              refine ro_S2 ⟨hx, hb, hml, hown, hts⟩ (c_X0_greatestDivisor l D (upN tw (fst2 w h f e0)) (loN (fst2 w h f e0) (snd2 w h f e0)) (by have := upN_lt gt (fst_B gw gh gb he0); omega) (by have := loN_lt (fst_B gw gh gb he0) (snd_B gw gh gb he0); omega)) (va_cwS 2 hts gX0_crossing_X0_greatestDivisor rfl rfl rfl (by decide +kernel) ⟨Nat.le_of_ble_eq_true rfl, Nat.le_of_ble_eq_true rfl⟩) (va_P0 D vwCl _) (hK.sub [] rfl) hP hS rfl hl.1 (lv_room (Nat.le_of_ble_eq_true rfl)) dX0_crossing_99 ⟨Nat.le_of_ble_eq_true rfl, Nat.le_of_ble_eq_true rfl⟩ (fun r99 H locs hr99 hP hS => ?_)
              subst hr99
              rw [show (nI (euc 64 (upN tw (fst2 w h f e0)) (loN (fst2 w h f e0) (snd2 w h f e0)))) = nI (Nat.gcd (upN tw (fst2 w h f e0)) (loN (fst2 w h f e0) (snd2 w h f e0))) from by rw [euc_64 (loN_lt (fst_B gw gh gb he0) (snd_B gw gh gb he0))]]
              have hgl : Nat.gcd (upN tw (fst2 w h f e0)) (loN (fst2 w h f e0) (snd2 w h f e0)) < 2 ^ 31 := by
                                        have h8 := loN_lt (fst_B gw gh gb he0) (snd_B gw gh gb he0)
                                        have h7 : 0 < (loN (fst2 w h f e0) (snd2 w h f e0)) := by
                                          rcases cr_sign gt (fst_B gw gh gb he0) (snd_B gw gh gb he0) (bI_n0.mp c17) with q | q <;> unfold loN <;> omega
                                        have h6 := Nat.gcd_le_right (upN tw (fst2 w h f e0)) h7
                                        omega
              refine lv_idiv hx hb dX0_crossing_102 (nI_ne0 (cr_gpos gt (fst_B gw gh gb he0) (snd_B gw gh gb he0) (bI_n0.mp c17)) hgl) ?_
              refine vx_ret (W.widen (k := 1) (n := 6) (Nat.le_of_ble_eq_true rfl) (Nat.le_of_ble_eq_true rfl) ?_)
              exact W.iret (v := (nI (upN tw (fst2 w h f e0)) / (nI (Nat.gcd (upN tw (fst2 w h f e0)) (loN (fst2 w h f e0) (snd2 w h f e0)))))) hx hb hr (fun t ht hW => ⟨⟨_, (), rfl, ⟨by unfold okC; rw [ea, nI_clamp (by omega), okY_nI he0 (by omega), decide_eq_true (Int32.not_lt.mp c21), decide_eq_true (lt2_le1.mpr c26), bI_n0.mp c17]; rfl, by show _ = crV _ _ _ _; rw [ea, nI_clamp (by omega)]; unfold crV; rw [if_pos c85, pk_div (by have := upN_lt gt (fst_B gw gh gb he0); have := loN_lt (fst_B gw gh gb he0) (snd_B gw gh gb he0); omega) (cr_gpos gt (fst_B gw gh gb he0) (snd_B gw gh gb he0) (bI_n0.mp c17)) hgl]⟩, trivial⟩, hS.F ht⟩) hS.2.2 dX0_crossing_103
          · have hok : okC w h f tw a b = false := by unfold okC; rw [decide_eq_false (fun z => c26 (lt2_le1.mp z))]; simp
            exact vx_throw0 hx hb hst (own := RX0) (cls := NSE) (names := NSn) (ik := 93) (ic := 95) (A := fun _ => False) hown (by decide +kernel) (by decide +kernel) (hts (.classLink RX0 93 NSE) (by decide +kernel)) (hts (.initialized NSE) (by decide +kernel)) hat xGood_ok hXZ.1 hXZ.2 hS (by rw [hml]; exact hl.1) dX0_crossing_29 dX0_crossing_32 dX0_crossing_33 dX0_crossing_36 (fun x hx9 => (htab x hx9).elim) (Nat.le_of_ble_eq_true rfl) (Nat.le_of_ble_eq_true rfl) (Nat.le_of_ble_eq_true rfl) (Nat.le_of_ble_eq_true rfl) hlocks (fun t ha hz hk => ⟨(), hok, rfl, Nat.le_trans hS.1 hz, fun q h1 h2 => (hk q (Nat.lt_of_lt_of_le h1 hS.1)).trans (hS.2.1 q h1 h2)⟩) hS.2.2 (Nat.le_refl _) (Nat.le_refl _)
