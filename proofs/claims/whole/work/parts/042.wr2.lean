set_option maxHeartbeats 4000000 in
set_option maxRecDepth 100000 in
theorem c_X0_gatherOpenChains (l : Launch) (D : va_G) (o : Nat → Nat) (cI : ClassId) (tw op : Int32) (sm nx bf od st ow : Nat → Int32) (w : Nat) (h : Nat) (gw : 2 ≤ w) (gw2 : w ≤ 12) (gh : 2 ≤ h) (gh2 : h ≤ 12) (gs0 : st 0 = 0) (gow : ∀ a, a < 264 → ow a = -1) (gnx : ∀ a, a < 264 → nx a = -1 ∨ ∃ b, b < 264 ∧ nx a = nI b) (gI : ∀ e, e ≤ nE w h → gdL (opL nx bf e)) : wvMet l yX0_gatherOpenChains wsX0_gatherOpenChains ({ frames := 2, cells := 0, slots := 0, locals := 40 } : Room) D (W0 o cI (nI w) (nI h) tw op 0 sm nx bf od st ow) (W0 o cI (nI w) (nI h) tw (nI (opL nx bf (nE w h)).length) (nI (opL nx bf (nE w h)).length) sm nx bf (oA od (opL nx bf (nE w h))) (sA st (opL nx bf (nE w h))) (wO ow (opL nx bf (nE w h)))) [(cI, .int)] [.ref (o 0)] := by
  refine Met.ofW (cc := cX0_gatherOpenChains) (maxL := 2) (ret := none) (by decide) rfl ?_
  intro p e s m args below meth c s₁ B hml hv
  obtain ⟨rfl, hP, hK, hD0⟩ := hv
  have hx := B.exec
  have hb := B.bytes
  have hr := B.returns
  have hts := atoms_spec (ws := wsX0_gatherOpenChains) B.pre
  have hown : s.vm.findClass RX0 = some m.cls := findClass_of_methodNamed B.named
  have hlocks := B.notSynchronized
  have hin0 : ∀ w ∈ u_ws RX0 TX0 11, w ∈ wsX0_gatherOpenChains := by decide +kernel
  have hD := wA_D hD0
  have hS : va_S (wA (W0 o cI (nI w) (nI h) tw op 0 sm nx bf od st ow)) s.heap s.heap [] := va_S.rf
  obtain ⟨H, hH, hP, hS⟩ : ∃ H : Heap, s.heap = H ∧ va_P D vwCl (W0 o cI (nI w) (nI h) tw op 0 sm nx bf od st ow) H ∧ va_S (wA (W0 o cI (nI w) (nI h) tw op 0 sm nx bf od st ow)) s.heap H [] := ⟨_, rfl, hP, hS⟩
  rw [hH]
  have hl := lv_entry ([.ref (o 0)]) (n := 2) (Nat.le_of_ble_eq_true rfl)
  rw [lg_entry_eq]
  generalize (lg_sl ([.ref (o 0)]) ++ List.replicate (2 - (lg_sl ([.ref (o 0)])).length) Slot.unset).toArray = ls at hl ⊢
  have hl : lv_has ls 2 [(0, .ref (o 0))] := hl
  have lp : ∀ (n : Nat) (e0 : Nat), (e0 ≤ nE w h) → (nE w h + 1 ≤ e0 + n) → ∀ (H : Heap) (locs : List Loc) (ls : Array Slot), va_P D vwCl (W0 o cI (nI w) (nI h) tw op (nI (opL nx bf e0).length) sm nx bf (oA od (opL nx bf e0)) (sA st (opL nx bf e0)) (wO ow (opL nx bf e0))) H → va_D (wA (W0 o cI (nI w) (nI h) tw op 0 sm nx bf od st ow)) (W0 o cI (nI w) (nI h) tw op (nI (opL nx bf e0).length) sm nx bf (oA od (opL nx bf e0)) (sA st (opL nx bf e0)) (wO ow (opL nx bf e0))) → va_S (wA (W0 o cI (nI w) (nI h) tw op 0 sm nx bf od st ow)) s.heap H locs → lv_has ls 2 [(1, .int (nI e0)), (0, .ref (o 0))] → W p l e (headSpec wsX0_gatherOpenChains ({ frames := 2, cells := 0, slots := 0, locals := 40 } : Room)).room s m ([.ref (o 0)] : List Value).toArray below meth c H locs 0 0 (MQ below (va_Qv (fun _ : Unit => True) (wB D (W0 o cI (nI w) (nI h) tw op 0 sm nx bf od st ow) (W0 o cI (nI w) (nI h) tw (nI (opL nx bf (nE w h)).length) (nI (opL nx bf (nE w h)).length) sm nx bf (oA od (opL nx bf (nE w h))) (sA st (opL nx bf (nE w h))) (wO ow (opL nx bf (nE w h)))) [(cI, .int)]) (wA (W0 o cI (nI w) (nI h) tw op 0 sm nx bf od st ow))) ([.ref (o 0)] : List Value).toArray s 0 0 (wA (W0 o cI (nI w) (nI h) tw op 0 sm nx bf od st ow))) (F0 m 2 ls []) := by
    intro n
    induction n with
    | zero =>
      intro e0 hj hn
      exact absurd hn (by omega)
    | succ n ih =>
      intro e0 hj hn H locs ls hP hD hS hl
      refine lv_iload_n hx hb dX0_gatherOpenChains_2 rfl (lv_at hl 0 rfl) ?_
      refine lv_aload_n hx hb dX0_gatherOpenChains_3 rfl (lv_at hl 1 rfl) ?_
      refine ro_V0 ⟨hx, hb, hml, hown, hts⟩ (c_X0_edgeCount l D o cI tw op (nI (opL nx bf e0).length) sm nx bf (oA od (opL nx bf e0)) (sA st (opL nx bf e0)) (wO ow (opL nx bf e0)) w h (by omega) (by omega)) (cwV 0 hts gX0_gatherOpenChains_X0_edgeCount rfl rfl rfl (by decide +kernel) ⟨Nat.le_of_ble_eq_true rfl, Nat.le_of_ble_eq_true rfl⟩) (va_recv hK hP (ci := 0) (q0 := 0) rfl rfl) hP hK hP hS rfl hl.1 (lv_room (Nat.le_of_ble_eq_true rfl)) dX0_gatherOpenChains_4 ⟨Nat.le_of_ble_eq_true rfl, Nat.le_of_ble_eq_true rfl⟩ (fun r4 H locs hr4 hP hS => ?_)
      subst hr4
      refine lv_icmp_ge (tgt := 41) hx hb dX0_gatherOpenChains_7 (by decide) (fun c7 => ?_) (fun c7 => ?_)
      · have he1 : e0 = nE w h := by have := le_n c7 (by have := nE_le gw2 gh2; omega) (by have := nE_le gw2 gh2; omega); omega
        rw [he1] at hP hD
        refine lv_aload_n hx hb dX0_gatherOpenChains_41 rfl (lv_at hl 1 rfl) ?_
        refine lv_aload_n hx hb dX0_gatherOpenChains_42 rfl (lv_at hl 1 rfl) ?_
        refine va_get (D := D) (ci := 0) (v := .int (nI (opL nx bf (nE w h)).length)) (C := RX0) (T := TX0) (N := 11) hx hb hts hin0 hown hK hP 0 rfl rfl 10 (by decide) (hts (.fieldLink RX0 41 "HeightLines" "chains" "I") (by decide +kernel)) (fun _ h9 => h9) rfl dX0_gatherOpenChains_43 ?_
        refine va_put (D := D) (ci := 0) (v := .int (nI (opL nx bf (nE w h)).length)) (ty := .int) (C := RX0) (T := TX0) (N := 11) hx hb hts hin0 tyX0 tyX0_ok nmX0 hown hK hP hD hS 0 rfl rfl 9 (by decide) (hts (.fieldLink RX0 38 "HeightLines" "openChains" "I") (by decide +kernel)) (fun _ h9 => h9) rfl (by decide +kernel) rfl rfl (Nat.le_of_ble_eq_true rfl) dX0_gatherOpenChains_46 (fun H locs hP hD hS => ?_)
        have hP : va_P D vwCl (W0 o cI (nI w) (nI h) tw (nI (opL nx bf (nE w h)).length) (nI (opL nx bf (nE w h)).length) sm nx bf (oA od (opL nx bf (nE w h))) (sA st (opL nx bf (nE w h))) (wO ow (opL nx bf (nE w h)))) H := hP
        have hD : va_D (wA (W0 o cI (nI w) (nI h) tw op 0 sm nx bf od st ow)) (W0 o cI (nI w) (nI h) tw (nI (opL nx bf (nE w h)).length) (nI (opL nx bf (nE w h)).length) sm nx bf (oA od (opL nx bf (nE w h))) (sA st (opL nx bf (nE w h))) (wO ow (opL nx bf (nE w h)))) := hD
        exact W.vret hx hb hr (fun t ht hW => ⟨⟨(), rfl, trivial, by rw [ht]; exact hP, va_K.moved hW.alike hK, hD⟩, hS.F ht⟩) hS.2.2 dX0_gatherOpenChains_49
      · refine lv_aload_n hx hb dX0_gatherOpenChains_10 rfl (lv_at hl 1 rfl) ?_
        refine va_get (D := D) (ci := 0) (v := .ref (o 2)) (C := RX0) (T := TX0) (N := 11) hx hb hts hin0 hown hK hP 0 rfl rfl 4 (by decide) (hts (.fieldLink RX0 23 "HeightLines" "next" "[I") (by decide +kernel)) (fun _ h9 => h9) rfl dX0_gatherOpenChains_11 ?_
        refine lv_iload_n hx hb dX0_gatherOpenChains_14 rfl (lv_at hl 0 rfl) ?_
        refine an_iald (D := D) hx hb hK hP 2 0 rfl rfl (k := e0) (by have := nE_le gw2 gh2; have h9 := (nle_n c7 (by have := nE_le gw2 gh2; omega) (by have := nE_le gw2 gh2; omega)); omega) (by decide) dX0_gatherOpenChains_15 ?_
        refine lv_iconst (v := (-1)) hx hb dX0_gatherOpenChains_16 (by decide) ?_
        refine lv_icmp_eq (tgt := 35) hx hb dX0_gatherOpenChains_17 (by decide) (fun c17 => ?_) (fun c17 => ?_)
        · refine lv_iinc (v := (nI (e0 + 1))) (lv' := [(1, .int (nI (e0 + 1))), (0, .ref (o 0))]) hx hb dX0_gatherOpenChains_35 hl (k := 0) rfl (nI_p1 _) (by decide) rfl (fun ls hl => ?_)
          refine lv_goto (tgt := 2) hx hb dX0_gatherOpenChains_38 (by decide) ?_
          rw [← opL_f (N := nx) (B := bf) (e := e0) (Or.inl c17)] at hP hD
          exact ih (e0 + 1) (nle_n c7 (by have := nE_le gw2 gh2; omega) (by have := nE_le gw2 gh2; omega)) (by omega) _ _ _ hP hD hS (lv_sub hl [0, 1] rfl)
        · have hel := (nle_n c7 (by have := nE_le gw2 gh2; omega) (by have := nE_le gw2 gh2; omega))
          have hg := gI e0 (Nat.le_of_lt hel)
          refine lv_aload_n hx hb dX0_gatherOpenChains_20 rfl (lv_at hl 1 rfl) ?_
          refine va_get (D := D) (ci := 0) (v := .ref (o 3)) (C := RX0) (T := TX0) (N := 11) hx hb hts hin0 hown hK hP 0 rfl rfl 5 (by decide) (hts (.fieldLink RX0 26 "HeightLines" "before" "[I") (by decide +kernel)) (fun _ h9 => h9) rfl dX0_gatherOpenChains_21 ?_
          refine lv_iload_n hx hb dX0_gatherOpenChains_24 rfl (lv_at hl 0 rfl) ?_
          refine an_iald (D := D) hx hb hK hP 3 0 rfl rfl (k := e0) (by have := nE_le gw2 gh2; have h9 := (nle_n c7 (by have := nE_le gw2 gh2; omega) (by have := nE_le gw2 gh2; omega)); omega) (by decide) dX0_gatherOpenChains_25 ?_
          refine lv_iconst (v := (-1)) hx hb dX0_gatherOpenChains_26 (by decide) ?_
          refine lv_icmp_ne (tgt := 35) hx hb dX0_gatherOpenChains_27 (by decide) (fun c27 => ?_) (fun c27 => ?_)
          · refine lv_iinc (v := (nI (e0 + 1))) (lv' := [(1, .int (nI (e0 + 1))), (0, .ref (o 0))]) hx hb dX0_gatherOpenChains_35 hl (k := 0) rfl (nI_p1 _) (by decide) rfl (fun ls hl => ?_)
            refine lv_goto (tgt := 2) hx hb dX0_gatherOpenChains_38 (by decide) ?_
            rw [← opL_f (N := nx) (B := bf) (e := e0) (Or.inr c27)] at hP hD
            exact ih (e0 + 1) (nle_n c7 (by have := nE_le gw2 gh2; omega) (by have := nE_le gw2 gh2; omega)) (by omega) _ _ _ hP hD hS (lv_sub hl [0, 1] rfl)
          · have hLn := opL_t (N := nx) (B := bf) c17 c27
            have hg2 := gI (e0 + 1) hel
            have hl2 : (opL nx bf e0).length ≤ 131 := by have h8 := hg2.1; rw [hLn, List.length_append, List.length_singleton] at h8; omega
            refine lv_aload_n hx hb dX0_gatherOpenChains_30 rfl (lv_at hl 1 rfl) ?_
            refine lv_iload_n hx hb dX0_gatherOpenChains_31 rfl (lv_at hl 0 rfl) ?_
            refine wv_V (wr := []) (As := [.int (nI e0)]) (rest := []) ⟨hx, hb, hml, hown, hts⟩ (c_X0_gatherChain l D o cI (nI w) (nI h) tw op sm nx bf (oA od (opL nx bf e0)) (sA st (opL nx bf e0)) (wO ow (opL nx bf e0)) (opL nx bf e0) e0 hl2 (by rw [sA_len gs0 _ (Nat.le_refl _), pfx_len]) (wO_m hg.1 gow) gnx hg.2.1 hg.2.2 (by have := nE_le gw2 gh2; have h9 := (nle_n c7 (by have := nE_le gw2 gh2; omega) (by have := nE_le gw2 gh2; omega)); omega)) (cwV 1 hts gX0_gatherOpenChains_X0_gatherChain rfl rfl rfl (by decide +kernel) ⟨Nat.le_of_ble_eq_true rfl, Nat.le_of_ble_eq_true rfl⟩) (va_recv hK hP (ci := 0) (q0 := 0) rfl rfl) hP hD hK hP hD hS [0, 1, 2, 3, 4, 5, 6] [] rfl rfl rfl (by decide) rfl hl.1 rfl (lv_room (Nat.le_of_ble_eq_true rfl)) dX0_gatherOpenChains_32 ⟨Nat.le_of_ble_eq_true rfl, Nat.le_of_ble_eq_true rfl⟩ (fun H locs hP hD hS => ?_)
            have hP : va_P D vwCl (W0 o cI (nI w) (nI h) tw op (nI ((opL nx bf e0).length + 1)) sm nx bf (gO (oA od (opL nx bf e0)) (opL nx bf e0).flatten.length (pth 264 nx (opL nx bf e0).flatten (nI e0))) (upd (sA st (opL nx bf e0)) ((opL nx bf e0).length + 1) (nI ((opL nx bf e0).flatten.length + (pth 264 nx (opL nx bf e0).flatten (nI e0)).length))) (gW (wO ow (opL nx bf e0)) (nI (opL nx bf e0).length) (pth 264 nx (opL nx bf e0).flatten (nI e0)))) H := hP
            have hD : va_D (wA (W0 o cI (nI w) (nI h) tw op 0 sm nx bf od st ow)) (W0 o cI (nI w) (nI h) tw op (nI ((opL nx bf e0).length + 1)) sm nx bf (gO (oA od (opL nx bf e0)) (opL nx bf e0).flatten.length (pth 264 nx (opL nx bf e0).flatten (nI e0))) (upd (sA st (opL nx bf e0)) ((opL nx bf e0).length + 1) (nI ((opL nx bf e0).flatten.length + (pth 264 nx (opL nx bf e0).flatten (nI e0)).length))) (gW (wO ow (opL nx bf e0)) (nI (opL nx bf e0).length) (pth 264 nx (opL nx bf e0).flatten (nI e0)))) := hD
            refine lv_iinc (v := (nI (e0 + 1))) (lv' := [(1, .int (nI (e0 + 1))), (0, .ref (o 0))]) hx hb dX0_gatherOpenChains_35 hl (k := 0) rfl (nI_p1 _) (by decide) rfl (fun ls hl => ?_)
            refine lv_goto (tgt := 2) hx hb dX0_gatherOpenChains_38 (by decide) ?_
            rw [oA_s, sA_s, wO_s, ← hLn, show (opL nx bf e0).length + 1 = (opL nx bf (e0 + 1)).length from by rw [hLn, List.length_append, List.length_singleton]] at hP hD
            exact ih (e0 + 1) (nle_n c7 (by have := nE_le gw2 gh2; omega) (by have := nE_le gw2 gh2; omega)) (by omega) _ _ _ hP hD hS (lv_sub hl [0, 1] rfl)
  refine lv_iconst (v := 0) hx hb dX0_gatherOpenChains_0 (by decide) ?_
  refine lv_istore_n (lv' := [(1, .int 0), (0, .ref (o 0))]) hx hb dX0_gatherOpenChains_1 rfl hl (by decide) rfl (fun ls hl => ?_)
  have hP : va_P D vwCl (W0 o cI (nI w) (nI h) tw op (nI (opL nx bf 0).length) sm nx bf (oA od (opL nx bf 0)) (sA st (opL nx bf 0)) (wO ow (opL nx bf 0))) H := by rw [show opL nx bf 0 = [] from rfl, oA_0, sA_0]; exact hP
  have hD : va_D (wA (W0 o cI (nI w) (nI h) tw op 0 sm nx bf od st ow)) (W0 o cI (nI w) (nI h) tw op (nI (opL nx bf 0).length) sm nx bf (oA od (opL nx bf 0)) (sA st (opL nx bf 0)) (wO ow (opL nx bf 0))) := by rw [show opL nx bf 0 = [] from rfl, oA_0, sA_0]; exact hD
  exact lp (nE w h + 1) 0 (Nat.zero_le _) (by omega) _ _ _ hP hD hS (lv_sub hl [0, 1] rfl)

set_option maxHeartbeats 4000000 in
set_option maxRecDepth 100000 in
theorem c_X0_gatherClosedChains (l : Launch) (D : va_G) (o : Nat → Nat) (cI : ClassId) (tw op : Int32) (sm nx bf : Nat → Int32) (w : Nat) (h : Nat) (L0 : List (List Nat)) (od0 : Nat → Int32) (st0 : Nat → Int32) (ow0 : Nat → Int32) (gw : 2 ≤ w) (gw2 : w ≤ 12) (gh : 2 ≤ h) (gh2 : h ≤ 12) (gs0 : st0 0 = 0) (gow : ∀ a, a < 264 → ow0 a = -1) (gnx : ∀ a, a < 264 → nx a = -1 ∨ ∃ b, b < 264 ∧ nx a = nI b) (gI : ∀ e, e ≤ nE w h → gdL (csL nx L0 e)) : wvMet l yX0_gatherClosedChains wsX0_gatherClosedChains ({ frames := 2, cells := 0, slots := 0, locals := 40 } : Room) D (W0 o cI (nI w) (nI h) tw op (nI L0.length) sm nx bf (oA od0 L0) (sA st0 L0) (wO ow0 L0)) (W0 o cI (nI w) (nI h) tw op (nI (csL nx L0 (nE w h)).length) sm nx bf (oA od0 (csL nx L0 (nE w h))) (sA st0 (csL nx L0 (nE w h))) (wO ow0 (csL nx L0 (nE w h)))) [(cI, .int)] [.ref (o 0)] := by
  refine Met.ofW (cc := cX0_gatherClosedChains) (maxL := 2) (ret := none) (by decide) rfl ?_
  intro p e s m args below meth c s₁ B hml hv
  obtain ⟨rfl, hP, hK, hD0⟩ := hv
  have hx := B.exec
  have hb := B.bytes
  have hr := B.returns
  have hts := atoms_spec (ws := wsX0_gatherClosedChains) B.pre
  have hown : s.vm.findClass RX0 = some m.cls := findClass_of_methodNamed B.named
  have hlocks := B.notSynchronized
  have hin0 : ∀ w ∈ u_ws RX0 TX0 11, w ∈ wsX0_gatherClosedChains := by decide +kernel
  have hD := wA_D hD0
  have hS : va_S (wA (W0 o cI (nI w) (nI h) tw op (nI L0.length) sm nx bf (oA od0 L0) (sA st0 L0) (wO ow0 L0))) s.heap s.heap [] := va_S.rf
  obtain ⟨H, hH, hP, hS⟩ : ∃ H : Heap, s.heap = H ∧ va_P D vwCl (W0 o cI (nI w) (nI h) tw op (nI L0.length) sm nx bf (oA od0 L0) (sA st0 L0) (wO ow0 L0)) H ∧ va_S (wA (W0 o cI (nI w) (nI h) tw op (nI L0.length) sm nx bf (oA od0 L0) (sA st0 L0) (wO ow0 L0))) s.heap H [] := ⟨_, rfl, hP, hS⟩
  rw [hH]
  have hl := lv_entry ([.ref (o 0)]) (n := 2) (Nat.le_of_ble_eq_true rfl)
  rw [lg_entry_eq]
  generalize (lg_sl ([.ref (o 0)]) ++ List.replicate (2 - (lg_sl ([.ref (o 0)])).length) Slot.unset).toArray = ls at hl ⊢
  have hl : lv_has ls 2 [(0, .ref (o 0))] := hl
  have lp : ∀ (n : Nat) (e0 : Nat), (e0 ≤ nE w h) → (nE w h + 1 ≤ e0 + n) → ∀ (H : Heap) (locs : List Loc) (ls : Array Slot), va_P D vwCl (W0 o cI (nI w) (nI h) tw op (nI (csL nx L0 e0).length) sm nx bf (oA od0 (csL nx L0 e0)) (sA st0 (csL nx L0 e0)) (wO ow0 (csL nx L0 e0))) H → va_D (wA (W0 o cI (nI w) (nI h) tw op (nI L0.length) sm nx bf (oA od0 L0) (sA st0 L0) (wO ow0 L0))) (W0 o cI (nI w) (nI h) tw op (nI (csL nx L0 e0).length) sm nx bf (oA od0 (csL nx L0 e0)) (sA st0 (csL nx L0 e0)) (wO ow0 (csL nx L0 e0))) → va_S (wA (W0 o cI (nI w) (nI h) tw op (nI L0.length) sm nx bf (oA od0 L0) (sA st0 L0) (wO ow0 L0))) s.heap H locs → lv_has ls 2 [(1, .int (nI e0)), (0, .ref (o 0))] → W p l e (headSpec wsX0_gatherClosedChains ({ frames := 2, cells := 0, slots := 0, locals := 40 } : Room)).room s m ([.ref (o 0)] : List Value).toArray below meth c H locs 0 0 (MQ below (va_Qv (fun _ : Unit => True) (wB D (W0 o cI (nI w) (nI h) tw op (nI L0.length) sm nx bf (oA od0 L0) (sA st0 L0) (wO ow0 L0)) (W0 o cI (nI w) (nI h) tw op (nI (csL nx L0 (nE w h)).length) sm nx bf (oA od0 (csL nx L0 (nE w h))) (sA st0 (csL nx L0 (nE w h))) (wO ow0 (csL nx L0 (nE w h)))) [(cI, .int)]) (wA (W0 o cI (nI w) (nI h) tw op (nI L0.length) sm nx bf (oA od0 L0) (sA st0 L0) (wO ow0 L0)))) ([.ref (o 0)] : List Value).toArray s 0 0 (wA (W0 o cI (nI w) (nI h) tw op (nI L0.length) sm nx bf (oA od0 L0) (sA st0 L0) (wO ow0 L0)))) (F0 m 2 ls []) := by
    intro n
    induction n with
    | zero =>
      intro e0 hj hn
      exact absurd hn (by omega)
    | succ n ih =>
      intro e0 hj hn H locs ls hP hD hS hl
      refine lv_iload_n hx hb dX0_gatherClosedChains_2 rfl (lv_at hl 0 rfl) ?_
      refine lv_aload_n hx hb dX0_gatherClosedChains_3 rfl (lv_at hl 1 rfl) ?_
      refine ro_V0 ⟨hx, hb, hml, hown, hts⟩ (c_X0_edgeCount l D o cI tw op (nI (csL nx L0 e0).length) sm nx bf (oA od0 (csL nx L0 e0)) (sA st0 (csL nx L0 e0)) (wO ow0 (csL nx L0 e0)) w h (by omega) (by omega)) (cwV 0 hts gX0_gatherClosedChains_X0_edgeCount rfl rfl rfl (by decide +kernel) ⟨Nat.le_of_ble_eq_true rfl, Nat.le_of_ble_eq_true rfl⟩) (va_recv hK hP (ci := 0) (q0 := 0) rfl rfl) hP hK hP hS rfl hl.1 (lv_room (Nat.le_of_ble_eq_true rfl)) dX0_gatherClosedChains_4 ⟨Nat.le_of_ble_eq_true rfl, Nat.le_of_ble_eq_true rfl⟩ (fun r4 H locs hr4 hP hS => ?_)
      subst hr4
      refine lv_icmp_ge (tgt := 41) hx hb dX0_gatherClosedChains_7 (by decide) (fun c7 => ?_) (fun c7 => ?_)
      · have he1 : e0 = nE w h := by have := le_n c7 (by have := nE_le gw2 gh2; omega) (by have := nE_le gw2 gh2; omega); omega
        rw [he1] at hP hD
        exact W.vret hx hb hr (fun t ht hW => ⟨⟨(), rfl, trivial, by rw [ht]; exact hP, va_K.moved hW.alike hK, hD⟩, hS.F ht⟩) hS.2.2 dX0_gatherClosedChains_41
      · refine lv_aload_n hx hb dX0_gatherClosedChains_10 rfl (lv_at hl 1 rfl) ?_
        refine va_get (D := D) (ci := 0) (v := .ref (o 2)) (C := RX0) (T := TX0) (N := 11) hx hb hts hin0 hown hK hP 0 rfl rfl 4 (by decide) (hts (.fieldLink RX0 23 "HeightLines" "next" "[I") (by decide +kernel)) (fun _ h9 => h9) rfl dX0_gatherClosedChains_11 ?_
        refine lv_iload_n hx hb dX0_gatherClosedChains_14 rfl (lv_at hl 0 rfl) ?_
        refine an_iald (D := D) hx hb hK hP 2 0 rfl rfl (k := e0) (by have := nE_le gw2 gh2; have h9 := (nle_n c7 (by have := nE_le gw2 gh2; omega) (by have := nE_le gw2 gh2; omega)); omega) (by decide) dX0_gatherClosedChains_15 ?_
        refine lv_iconst (v := (-1)) hx hb dX0_gatherClosedChains_16 (by decide) ?_
        refine lv_icmp_eq (tgt := 35) hx hb dX0_gatherClosedChains_17 (by decide) (fun c17 => ?_) (fun c17 => ?_)
        · refine lv_iinc (v := (nI (e0 + 1))) (lv' := [(1, .int (nI (e0 + 1))), (0, .ref (o 0))]) hx hb dX0_gatherClosedChains_35 hl (k := 0) rfl (nI_p1 _) (by decide) rfl (fun ls hl => ?_)
          refine lv_goto (tgt := 2) hx hb dX0_gatherClosedChains_38 (by decide) ?_
          rw [← csL_f (N := nx) (L0 := L0) (e := e0) (Or.inl c17)] at hP hD
          exact ih (e0 + 1) (nle_n c7 (by have := nE_le gw2 gh2; omega) (by have := nE_le gw2 gh2; omega)) (by omega) _ _ _ hP hD hS (lv_sub hl [0, 1] rfl)
        · have hel := (nle_n c7 (by have := nE_le gw2 gh2; omega) (by have := nE_le gw2 gh2; omega))
          have hg := gI e0 (Nat.le_of_lt hel)
          have hmem := wO_m (ow := ow0) hg.1 gow e0 (by have := nE_le gw2 gh2; have h9 := (nle_n c7 (by have := nE_le gw2 gh2; omega) (by have := nE_le gw2 gh2; omega)); omega)
          refine lv_aload_n hx hb dX0_gatherClosedChains_20 rfl (lv_at hl 1 rfl) ?_
          refine va_get (D := D) (ci := 0) (v := .ref (o 6)) (C := RX0) (T := TX0) (N := 11) hx hb hts hin0 hown hK hP 0 rfl rfl 8 (by decide) (hts (.fieldLink RX0 35 "HeightLines" "owner" "[I") (by decide +kernel)) (fun _ h9 => h9) rfl dX0_gatherClosedChains_21 ?_
          refine lv_iload_n hx hb dX0_gatherClosedChains_24 rfl (lv_at hl 0 rfl) ?_
          refine an_iald (D := D) hx hb hK hP 6 0 rfl rfl (k := e0) (by have := nE_le gw2 gh2; have h9 := (nle_n c7 (by have := nE_le gw2 gh2; omega) (by have := nE_le gw2 gh2; omega)); omega) (by decide) dX0_gatherClosedChains_25 ?_
          refine lv_iconst (v := (-1)) hx hb dX0_gatherClosedChains_26 (by decide) ?_
          refine lv_icmp_ne (tgt := 35) hx hb dX0_gatherClosedChains_27 (by decide) (fun c27 => ?_) (fun c27 => ?_)
          · refine lv_iinc (v := (nI (e0 + 1))) (lv' := [(1, .int (nI (e0 + 1))), (0, .ref (o 0))]) hx hb dX0_gatherClosedChains_35 hl (k := 0) rfl (nI_p1 _) (by decide) rfl (fun ls hl => ?_)
            refine lv_goto (tgt := 2) hx hb dX0_gatherClosedChains_38 (by decide) ?_
            rw [← csL_f (N := nx) (L0 := L0) (e := e0) (Or.inr (Classical.not_not.mp (fun z => c27 (hmem.mpr z))))] at hP hD
            exact ih (e0 + 1) (nle_n c7 (by have := nE_le gw2 gh2; omega) (by have := nE_le gw2 gh2; omega)) (by omega) _ _ _ hP hD hS (lv_sub hl [0, 1] rfl)
          · have hLn := csL_t (N := nx) (L0 := L0) c17 (hmem.mp c27)
            have hg2 := gI (e0 + 1) hel
            have hl2 : (csL nx L0 e0).length ≤ 131 := by have h8 := hg2.1; rw [hLn, List.length_append, List.length_singleton] at h8; omega
            refine lv_aload_n hx hb dX0_gatherClosedChains_30 rfl (lv_at hl 1 rfl) ?_
            refine lv_iload_n hx hb dX0_gatherClosedChains_31 rfl (lv_at hl 0 rfl) ?_
            refine wv_V (wr := []) (As := [.int (nI e0)]) (rest := []) ⟨hx, hb, hml, hown, hts⟩ (c_X0_gatherChain l D o cI (nI w) (nI h) tw op sm nx bf (oA od0 (csL nx L0 e0)) (sA st0 (csL nx L0 e0)) (wO ow0 (csL nx L0 e0)) (csL nx L0 e0) e0 hl2 (by rw [sA_len gs0 _ (Nat.le_refl _), pfx_len]) (wO_m hg.1 gow) gnx hg.2.1 hg.2.2 (by have := nE_le gw2 gh2; have h9 := (nle_n c7 (by have := nE_le gw2 gh2; omega) (by have := nE_le gw2 gh2; omega)); omega)) (cwV 1 hts gX0_gatherClosedChains_X0_gatherChain rfl rfl rfl (by decide +kernel) ⟨Nat.le_of_ble_eq_true rfl, Nat.le_of_ble_eq_true rfl⟩) (va_recv hK hP (ci := 0) (q0 := 0) rfl rfl) hP hD hK hP hD hS [0, 1, 2, 3, 4, 5, 6] [] rfl rfl rfl (by decide) rfl hl.1 rfl (lv_room (Nat.le_of_ble_eq_true rfl)) dX0_gatherClosedChains_32 ⟨Nat.le_of_ble_eq_true rfl, Nat.le_of_ble_eq_true rfl⟩ (fun H locs hP hD hS => ?_)
            have hP : va_P D vwCl (W0 o cI (nI w) (nI h) tw op (nI ((csL nx L0 e0).length + 1)) sm nx bf (gO (oA od0 (csL nx L0 e0)) (csL nx L0 e0).flatten.length (pth 264 nx (csL nx L0 e0).flatten (nI e0))) (upd (sA st0 (csL nx L0 e0)) ((csL nx L0 e0).length + 1) (nI ((csL nx L0 e0).flatten.length + (pth 264 nx (csL nx L0 e0).flatten (nI e0)).length))) (gW (wO ow0 (csL nx L0 e0)) (nI (csL nx L0 e0).length) (pth 264 nx (csL nx L0 e0).flatten (nI e0)))) H := hP
            have hD : va_D (wA (W0 o cI (nI w) (nI h) tw op (nI L0.length) sm nx bf (oA od0 L0) (sA st0 L0) (wO ow0 L0))) (W0 o cI (nI w) (nI h) tw op (nI ((csL nx L0 e0).length + 1)) sm nx bf (gO (oA od0 (csL nx L0 e0)) (csL nx L0 e0).flatten.length (pth 264 nx (csL nx L0 e0).flatten (nI e0))) (upd (sA st0 (csL nx L0 e0)) ((csL nx L0 e0).length + 1) (nI ((csL nx L0 e0).flatten.length + (pth 264 nx (csL nx L0 e0).flatten (nI e0)).length))) (gW (wO ow0 (csL nx L0 e0)) (nI (csL nx L0 e0).length) (pth 264 nx (csL nx L0 e0).flatten (nI e0)))) := hD
            refine lv_iinc (v := (nI (e0 + 1))) (lv' := [(1, .int (nI (e0 + 1))), (0, .ref (o 0))]) hx hb dX0_gatherClosedChains_35 hl (k := 0) rfl (nI_p1 _) (by decide) rfl (fun ls hl => ?_)
            refine lv_goto (tgt := 2) hx hb dX0_gatherClosedChains_38 (by decide) ?_
            rw [oA_s, sA_s, wO_s, ← hLn, show (csL nx L0 e0).length + 1 = (csL nx L0 (e0 + 1)).length from by rw [hLn, List.length_append, List.length_singleton]] at hP hD
            exact ih (e0 + 1) (nle_n c7 (by have := nE_le gw2 gh2; omega) (by have := nE_le gw2 gh2; omega)) (by omega) _ _ _ hP hD hS (lv_sub hl [0, 1] rfl)
  refine lv_iconst (v := 0) hx hb dX0_gatherClosedChains_0 (by decide) ?_
  refine lv_istore_n (lv' := [(1, .int 0), (0, .ref (o 0))]) hx hb dX0_gatherClosedChains_1 rfl hl (by decide) rfl (fun ls hl => ?_)
  exact lp (nE w h + 1) 0 (Nat.zero_le _) (by omega) _ _ _ hP hD hS (lv_sub hl [0, 1] rfl)

set_option maxHeartbeats 4000000 in
set_option maxRecDepth 100000 in
theorem c_X0_make (l : Launch) (D : va_G) (o : Nat → Nat) (cI : ClassId) (tw op ch : Int32) (sm nx bf od st ow : Nat → Int32) (w : Nat) (h : Nat) (f : Nat → Nat → Int32) (gw : 2 ≤ w) (gw2 : w ≤ 12) (gh : 2 ≤ h) (gh2 : h ≤ 12) (gf : ∀ x y, x < w → y < h → sm (y * w + x) = f x y) (gs0 : st 0 = 0) (gnx : ∀ a, a < 264 → (dlN w h f tw (filF 264 (-1) nx) (h - 1)) a = -1 ∨ ∃ b, b < 264 ∧ (dlN w h f tw (filF 264 (-1) nx) (h - 1)) a = nI b) (gI : ∀ e, e ≤ nE w h → gdL (opL (dlN w h f tw (filF 264 (-1) nx) (h - 1)) (dlB w h f tw (filF 264 (-1) bf) (h - 1)) e)) (gJ : ∀ e, e ≤ nE w h → gdL (csL (dlN w h f tw (filF 264 (-1) nx) (h - 1)) (opL (dlN w h f tw (filF 264 (-1) nx) (h - 1)) (dlB w h f tw (filF 264 (-1) bf) (h - 1)) (nE w h)) e)) : wiMet l yX0_make wsX0_make ({ frames := 5, cells := 0, slots := 0, locals := 131 } : Room) D (W0 o cI (nI w) (nI h) tw op ch sm nx bf od st ow) (W0 o cI (nI w) (nI h) tw (nI (opL (dlN w h f tw (filF 264 (-1) nx) (h - 1)) (dlB w h f tw (filF 264 (-1) bf) (h - 1)) (nE w h)).length) (nI (csL (dlN w h f tw (filF 264 (-1) nx) (h - 1)) (opL (dlN w h f tw (filF 264 (-1) nx) (h - 1)) (dlB w h f tw (filF 264 (-1) bf) (h - 1)) (nE w h)) (nE w h)).length) sm (dlN w h f tw (filF 264 (-1) nx) (h - 1)) (dlB w h f tw (filF 264 (-1) bf) (h - 1)) (oA od (csL (dlN w h f tw (filF 264 (-1) nx) (h - 1)) (opL (dlN w h f tw (filF 264 (-1) nx) (h - 1)) (dlB w h f tw (filF 264 (-1) bf) (h - 1)) (nE w h)) (nE w h))) (sA st (csL (dlN w h f tw (filF 264 (-1) nx) (h - 1)) (opL (dlN w h f tw (filF 264 (-1) nx) (h - 1)) (dlB w h f tw (filF 264 (-1) bf) (h - 1)) (nE w h)) (nE w h))) (wO (filF 264 (-1) ow) (csL (dlN w h f tw (filF 264 (-1) nx) (h - 1)) (opL (dlN w h f tw (filF 264 (-1) nx) (h - 1)) (dlB w h f tw (filF 264 (-1) bf) (h - 1)) (nE w h)) (nE w h)))) [(cI, .int)] [.ref (o 0)] (nI (csL (dlN w h f tw (filF 264 (-1) nx) (h - 1)) (opL (dlN w h f tw (filF 264 (-1) nx) (h - 1)) (dlB w h f tw (filF 264 (-1) bf) (h - 1)) (nE w h)) (nE w h)).length) := by
  refine Met.ofW (cc := cX0_make) (maxL := 1) (ret := (some .int)) (by decide) rfl ?_
  intro p e s m args below meth c s₁ B hml hv
  obtain ⟨rfl, hP, hK, hD0⟩ := hv
  have hx := B.exec
  have hb := B.bytes
  have hr := B.returns
  have hts := atoms_spec (ws := wsX0_make) B.pre
  have hown : s.vm.findClass RX0 = some m.cls := findClass_of_methodNamed B.named
  have hlocks := B.notSynchronized
  have hin0 : ∀ w ∈ u_ws RX0 TX0 11, w ∈ wsX0_make := by decide +kernel
  have hD := wA_D hD0
  have hS : va_S (wA (W0 o cI (nI w) (nI h) tw op ch sm nx bf od st ow)) s.heap s.heap [] := va_S.rf
  obtain ⟨H, hH, hP, hS⟩ : ∃ H : Heap, s.heap = H ∧ va_P D vwCl (W0 o cI (nI w) (nI h) tw op ch sm nx bf od st ow) H ∧ va_S (wA (W0 o cI (nI w) (nI h) tw op ch sm nx bf od st ow)) s.heap H [] := ⟨_, rfl, hP, hS⟩
  rw [hH]
  have hl := lv_entry ([.ref (o 0)]) (n := 1) (Nat.le_of_ble_eq_true rfl)
  rw [lg_entry_eq]
  generalize (lg_sl ([.ref (o 0)]) ++ List.replicate (1 - (lg_sl ([.ref (o 0)])).length) Slot.unset).toArray = ls at hl ⊢
  have hl : lv_has ls 1 [(0, .ref (o 0))] := hl
  refine lv_aload_n hx hb dX0_make_0 rfl (lv_at hl 0 rfl) ?_
  refine wv_V (wr := []) (As := []) (rest := []) ⟨hx, hb, hml, hown, hts⟩ (c_X0_forgetChains l D o cI (nI w) (nI h) tw op ch sm nx bf od st ow) (cwV 0 hts gX0_make_X0_forgetChains rfl rfl rfl (by decide +kernel) ⟨Nat.le_of_ble_eq_true rfl, Nat.le_of_ble_eq_true rfl⟩) (va_recv hK hP (ci := 0) (q0 := 0) rfl rfl) hP hD hK hP hD hS [0, 1, 2, 3, 4, 5, 6] [] rfl rfl rfl (by decide) rfl hl.1 rfl (lv_room (Nat.le_of_ble_eq_true rfl)) dX0_make_1 ⟨Nat.le_of_ble_eq_true rfl, Nat.le_of_ble_eq_true rfl⟩ (fun H locs hP hD hS => ?_)
  have hP : va_P D vwCl (W0 o cI (nI w) (nI h) tw 0 0 sm nx bf od st (filF 264 (-1) ow)) H := hP
  have hD : va_D (wA (W0 o cI (nI w) (nI h) tw op ch sm nx bf od st ow)) (W0 o cI (nI w) (nI h) tw 0 0 sm nx bf od st (filF 264 (-1) ow)) := hD
  refine lv_aload_n hx hb dX0_make_4 rfl (lv_at hl 0 rfl) ?_
  refine wv_V (wr := []) (As := []) (rest := []) ⟨hx, hb, hml, hown, hts⟩ (c_X0_drawLines l D o cI tw 0 0 sm nx bf od st (filF 264 (-1) ow) w h f gw gw2 gh gh2 gf) (cwV 0 hts gX0_make_X0_drawLines rfl rfl rfl (by decide +kernel) ⟨Nat.le_of_ble_eq_true rfl, Nat.le_of_ble_eq_true rfl⟩) (va_recv hK hP (ci := 0) (q0 := 0) rfl rfl) hP hD hK hP hD hS [0, 1, 2, 3, 4, 5, 6] [] rfl rfl rfl (by decide) rfl hl.1 rfl (lv_room (Nat.le_of_ble_eq_true rfl)) dX0_make_5 ⟨Nat.le_of_ble_eq_true rfl, Nat.le_of_ble_eq_true rfl⟩ (fun H locs hP hD hS => ?_)
  have hP : va_P D vwCl (W0 o cI (nI w) (nI h) tw 0 0 sm (dlN w h f tw (filF 264 (-1) nx) (h - 1)) (dlB w h f tw (filF 264 (-1) bf) (h - 1)) od st (filF 264 (-1) ow)) H := hP
  have hD : va_D (wA (W0 o cI (nI w) (nI h) tw op ch sm nx bf od st ow)) (W0 o cI (nI w) (nI h) tw 0 0 sm (dlN w h f tw (filF 264 (-1) nx) (h - 1)) (dlB w h f tw (filF 264 (-1) bf) (h - 1)) od st (filF 264 (-1) ow)) := hD
  refine lv_aload_n hx hb dX0_make_8 rfl (lv_at hl 0 rfl) ?_
  refine wv_V (wr := []) (As := []) (rest := []) ⟨hx, hb, hml, hown, hts⟩ (c_X0_gatherOpenChains l D o cI tw 0 sm (dlN w h f tw (filF 264 (-1) nx) (h - 1)) (dlB w h f tw (filF 264 (-1) bf) (h - 1)) od st (filF 264 (-1) ow) w h gw gw2 gh gh2 gs0 (fun a ha => filF_in ha) gnx gI) (cwV 0 hts gX0_make_X0_gatherOpenChains rfl rfl rfl (by decide +kernel) ⟨Nat.le_of_ble_eq_true rfl, Nat.le_of_ble_eq_true rfl⟩) (va_recv hK hP (ci := 0) (q0 := 0) rfl rfl) hP hD hK hP hD hS [0, 1, 2, 3, 4, 5, 6] [] rfl rfl rfl (by decide) rfl hl.1 rfl (lv_room (Nat.le_of_ble_eq_true rfl)) dX0_make_9 ⟨Nat.le_of_ble_eq_true rfl, Nat.le_of_ble_eq_true rfl⟩ (fun H locs hP hD hS => ?_)
  have hP : va_P D vwCl (W0 o cI (nI w) (nI h) tw (nI (opL (dlN w h f tw (filF 264 (-1) nx) (h - 1)) (dlB w h f tw (filF 264 (-1) bf) (h - 1)) (nE w h)).length) (nI (opL (dlN w h f tw (filF 264 (-1) nx) (h - 1)) (dlB w h f tw (filF 264 (-1) bf) (h - 1)) (nE w h)).length) sm (dlN w h f tw (filF 264 (-1) nx) (h - 1)) (dlB w h f tw (filF 264 (-1) bf) (h - 1)) (oA od (opL (dlN w h f tw (filF 264 (-1) nx) (h - 1)) (dlB w h f tw (filF 264 (-1) bf) (h - 1)) (nE w h))) (sA st (opL (dlN w h f tw (filF 264 (-1) nx) (h - 1)) (dlB w h f tw (filF 264 (-1) bf) (h - 1)) (nE w h))) (wO (filF 264 (-1) ow) (opL (dlN w h f tw (filF 264 (-1) nx) (h - 1)) (dlB w h f tw (filF 264 (-1) bf) (h - 1)) (nE w h)))) H := hP
  have hD : va_D (wA (W0 o cI (nI w) (nI h) tw op ch sm nx bf od st ow)) (W0 o cI (nI w) (nI h) tw (nI (opL (dlN w h f tw (filF 264 (-1) nx) (h - 1)) (dlB w h f tw (filF 264 (-1) bf) (h - 1)) (nE w h)).length) (nI (opL (dlN w h f tw (filF 264 (-1) nx) (h - 1)) (dlB w h f tw (filF 264 (-1) bf) (h - 1)) (nE w h)).length) sm (dlN w h f tw (filF 264 (-1) nx) (h - 1)) (dlB w h f tw (filF 264 (-1) bf) (h - 1)) (oA od (opL (dlN w h f tw (filF 264 (-1) nx) (h - 1)) (dlB w h f tw (filF 264 (-1) bf) (h - 1)) (nE w h))) (sA st (opL (dlN w h f tw (filF 264 (-1) nx) (h - 1)) (dlB w h f tw (filF 264 (-1) bf) (h - 1)) (nE w h))) (wO (filF 264 (-1) ow) (opL (dlN w h f tw (filF 264 (-1) nx) (h - 1)) (dlB w h f tw (filF 264 (-1) bf) (h - 1)) (nE w h)))) := hD
  refine lv_aload_n hx hb dX0_make_12 rfl (lv_at hl 0 rfl) ?_
  refine wv_V (wr := []) (As := []) (rest := []) ⟨hx, hb, hml, hown, hts⟩ (c_X0_gatherClosedChains l D o cI tw (nI (opL (dlN w h f tw (filF 264 (-1) nx) (h - 1)) (dlB w h f tw (filF 264 (-1) bf) (h - 1)) (nE w h)).length) sm (dlN w h f tw (filF 264 (-1) nx) (h - 1)) (dlB w h f tw (filF 264 (-1) bf) (h - 1)) w h (opL (dlN w h f tw (filF 264 (-1) nx) (h - 1)) (dlB w h f tw (filF 264 (-1) bf) (h - 1)) (nE w h)) od st (filF 264 (-1) ow) gw gw2 gh gh2 gs0 (fun a ha => filF_in ha) gnx gJ) (cwV 0 hts gX0_make_X0_gatherClosedChains rfl rfl rfl (by decide +kernel) ⟨Nat.le_of_ble_eq_true rfl, Nat.le_of_ble_eq_true rfl⟩) (va_recv hK hP (ci := 0) (q0 := 0) rfl rfl) hP hD hK hP hD hS [0, 1, 2, 3, 4, 5, 6] [] rfl rfl rfl (by decide) rfl hl.1 rfl (lv_room (Nat.le_of_ble_eq_true rfl)) dX0_make_13 ⟨Nat.le_of_ble_eq_true rfl, Nat.le_of_ble_eq_true rfl⟩ (fun H locs hP hD hS => ?_)
  have hP : va_P D vwCl (W0 o cI (nI w) (nI h) tw (nI (opL (dlN w h f tw (filF 264 (-1) nx) (h - 1)) (dlB w h f tw (filF 264 (-1) bf) (h - 1)) (nE w h)).length) (nI (csL (dlN w h f tw (filF 264 (-1) nx) (h - 1)) (opL (dlN w h f tw (filF 264 (-1) nx) (h - 1)) (dlB w h f tw (filF 264 (-1) bf) (h - 1)) (nE w h)) (nE w h)).length) sm (dlN w h f tw (filF 264 (-1) nx) (h - 1)) (dlB w h f tw (filF 264 (-1) bf) (h - 1)) (oA od (csL (dlN w h f tw (filF 264 (-1) nx) (h - 1)) (opL (dlN w h f tw (filF 264 (-1) nx) (h - 1)) (dlB w h f tw (filF 264 (-1) bf) (h - 1)) (nE w h)) (nE w h))) (sA st (csL (dlN w h f tw (filF 264 (-1) nx) (h - 1)) (opL (dlN w h f tw (filF 264 (-1) nx) (h - 1)) (dlB w h f tw (filF 264 (-1) bf) (h - 1)) (nE w h)) (nE w h))) (wO (filF 264 (-1) ow) (csL (dlN w h f tw (filF 264 (-1) nx) (h - 1)) (opL (dlN w h f tw (filF 264 (-1) nx) (h - 1)) (dlB w h f tw (filF 264 (-1) bf) (h - 1)) (nE w h)) (nE w h)))) H := hP
  have hD : va_D (wA (W0 o cI (nI w) (nI h) tw op ch sm nx bf od st ow)) (W0 o cI (nI w) (nI h) tw (nI (opL (dlN w h f tw (filF 264 (-1) nx) (h - 1)) (dlB w h f tw (filF 264 (-1) bf) (h - 1)) (nE w h)).length) (nI (csL (dlN w h f tw (filF 264 (-1) nx) (h - 1)) (opL (dlN w h f tw (filF 264 (-1) nx) (h - 1)) (dlB w h f tw (filF 264 (-1) bf) (h - 1)) (nE w h)) (nE w h)).length) sm (dlN w h f tw (filF 264 (-1) nx) (h - 1)) (dlB w h f tw (filF 264 (-1) bf) (h - 1)) (oA od (csL (dlN w h f tw (filF 264 (-1) nx) (h - 1)) (opL (dlN w h f tw (filF 264 (-1) nx) (h - 1)) (dlB w h f tw (filF 264 (-1) bf) (h - 1)) (nE w h)) (nE w h))) (sA st (csL (dlN w h f tw (filF 264 (-1) nx) (h - 1)) (opL (dlN w h f tw (filF 264 (-1) nx) (h - 1)) (dlB w h f tw (filF 264 (-1) bf) (h - 1)) (nE w h)) (nE w h))) (wO (filF 264 (-1) ow) (csL (dlN w h f tw (filF 264 (-1) nx) (h - 1)) (opL (dlN w h f tw (filF 264 (-1) nx) (h - 1)) (dlB w h f tw (filF 264 (-1) bf) (h - 1)) (nE w h)) (nE w h)))) := hD
  refine lv_aload_n hx hb dX0_make_16 rfl (lv_at hl 0 rfl) ?_
  refine va_get (D := D) (ci := 0) (v := .int (nI (csL (dlN w h f tw (filF 264 (-1) nx) (h - 1)) (opL (dlN w h f tw (filF 264 (-1) nx) (h - 1)) (dlB w h f tw (filF 264 (-1) bf) (h - 1)) (nE w h)) (nE w h)).length)) (C := RX0) (T := TX0) (N := 11) hx hb hts hin0 hown hK hP 0 rfl rfl 10 (by decide) (hts (.fieldLink RX0 41 "HeightLines" "chains" "I") (by decide +kernel)) (fun _ h9 => h9) rfl dX0_make_17 ?_
  exact W.iret (v := (nI (csL (dlN w h f tw (filF 264 (-1) nx) (h - 1)) (opL (dlN w h f tw (filF 264 (-1) nx) (h - 1)) (dlB w h f tw (filF 264 (-1) bf) (h - 1)) (nE w h)) (nE w h)).length)) hx hb hr (fun t ht hW => ⟨⟨_, (), rfl, rfl, by rw [ht]; exact hP, va_K.moved hW.alike hK, hD⟩, hS.F ht⟩) hS.2.2 dX0_make_20
