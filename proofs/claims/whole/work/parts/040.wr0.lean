set_option maxHeartbeats 4000000 in
set_option maxRecDepth 100000 in
theorem c_X0_forgetChains (l : Launch) (D : va_G) (o : Nat → Nat) (cI : ClassId) (co ro tw op ch : Int32) (sm nx bf od st ow : Nat → Int32) : wvMet l yX0_forgetChains wsX0_forgetChains ({ frames := 1, cells := 0, slots := 0, locals := 23 } : Room) D (W0 o cI co ro tw op ch sm nx bf od st ow) (W0 o cI co ro tw 0 0 sm nx bf od st (filF 264 (-1) ow)) [(cI, .int)] [.ref (o 0)] := by
  refine Met.ofW (cc := cX0_forgetChains) (maxL := 1) (ret := none) (by decide) rfl ?_
  intro p e s m args below meth c s₁ B hml hv
  obtain ⟨rfl, hP, hK, hD0⟩ := hv
  have hx := B.exec
  have hb := B.bytes
  have hr := B.returns
  have hts := atoms_spec (ws := wsX0_forgetChains) B.pre
  have hown : s.vm.findClass RX0 = some m.cls := findClass_of_methodNamed B.named
  have hlocks := B.notSynchronized
  have hin0 : ∀ w ∈ u_ws RX0 TX0 11, w ∈ wsX0_forgetChains := by decide +kernel
  have hD := wA_D hD0
  have hS : va_S (wA (W0 o cI co ro tw op ch sm nx bf od st ow)) s.heap s.heap [] := va_S.rf
  obtain ⟨H, hH, hP, hS⟩ : ∃ H : Heap, s.heap = H ∧ va_P D vwCl (W0 o cI co ro tw op ch sm nx bf od st ow) H ∧ va_S (wA (W0 o cI co ro tw op ch sm nx bf od st ow)) s.heap H [] := ⟨_, rfl, hP, hS⟩
  rw [hH]
  have hl := lv_entry ([.ref (o 0)]) (n := 1) (Nat.le_of_ble_eq_true rfl)
  rw [lg_entry_eq]
  generalize (lg_sl ([.ref (o 0)]) ++ List.replicate (1 - (lg_sl ([.ref (o 0)])).length) Slot.unset).toArray = ls at hl ⊢
  have hl : lv_has ls 1 [(0, .ref (o 0))] := hl
  refine lv_aload_n hx hb dX0_forgetChains_0 rfl (lv_at hl 0 rfl) ?_
  refine lv_iconst (v := 0) hx hb dX0_forgetChains_1 (by decide) ?_
  refine va_put (D := D) (ci := 0) (v := .int 0) (ty := .int) (C := RX0) (T := TX0) (N := 11) hx hb hts hin0 tyX0 tyX0_ok nmX0 hown hK hP hD hS 0 rfl rfl 10 (by decide) (hts (.fieldLink RX0 41 "HeightLines" "chains" "I") (by decide +kernel)) (fun _ h9 => h9) rfl (by decide +kernel) rfl rfl (Nat.le_of_ble_eq_true rfl) dX0_forgetChains_2 (fun H locs hP hD hS => ?_)
  have hP : va_P D vwCl (W0 o cI co ro tw op 0 sm nx bf od st ow) H := hP
  have hD : va_D (wA (W0 o cI co ro tw op ch sm nx bf od st ow)) (W0 o cI co ro tw op 0 sm nx bf od st ow) := hD
  refine lv_aload_n hx hb dX0_forgetChains_5 rfl (lv_at hl 0 rfl) ?_
  refine lv_iconst (v := 0) hx hb dX0_forgetChains_6 (by decide) ?_
  refine va_put (D := D) (ci := 0) (v := .int 0) (ty := .int) (C := RX0) (T := TX0) (N := 11) hx hb hts hin0 tyX0 tyX0_ok nmX0 hown hK hP hD hS 0 rfl rfl 9 (by decide) (hts (.fieldLink RX0 38 "HeightLines" "openChains" "I") (by decide +kernel)) (fun _ h9 => h9) rfl (by decide +kernel) rfl rfl (Nat.le_of_ble_eq_true rfl) dX0_forgetChains_7 (fun H locs hP hD hS => ?_)
  have hP : va_P D vwCl (W0 o cI co ro tw 0 0 sm nx bf od st ow) H := hP
  have hD : va_D (wA (W0 o cI co ro tw op ch sm nx bf od st ow)) (W0 o cI co ro tw 0 0 sm nx bf od st ow) := hD
  refine lv_aload_n hx hb dX0_forgetChains_10 rfl (lv_at hl 0 rfl) ?_
  refine va_get (D := D) (ci := 0) (v := .ref (o 6)) (C := RX0) (T := TX0) (N := 11) hx hb hts hin0 hown hK hP 0 rfl rfl 8 (by decide) (hts (.fieldLink RX0 35 "HeightLines" "owner" "[I") (by decide +kernel)) (fun _ h9 => h9) rfl dX0_forgetChains_11 ?_
  refine lv_iconst (v := (-1)) hx hb dX0_forgetChains_14 (by decide) ?_
  have hPf := hP.sub (ws' := [(o 6, .inl (cI, 264, .inl ow))]) [6] rfl
  have hDf := hD.sub (ws' := [(o 6, .inl (cI, 264, .inl ow))]) [6] (by decide) rfl
  refine wv_S (wr := (W0 o cI co ro tw 0 0 sm nx bf od st ow).eraseIdx 6) (As := [.ref (o 6), .int (-1)]) (rest := []) ⟨hx, hb, hml, hown, hts⟩ (c_fill l D cI (o 6) 264 ow (-1) (by decide)) (va_cwS 2 hts gX0_forgetChains_J7_fill_53178 rfl rfl rfl (by decide +kernel) ⟨Nat.le_of_ble_eq_true rfl, Nat.le_of_ble_eq_true rfl⟩) hPf hDf hK hP hD hS [6] [0, 1, 2, 3, 4, 5] rfl rfl rfl (by decide) rfl hl.1 rfl (lv_room (Nat.le_of_ble_eq_true rfl)) dX0_forgetChains_15 ⟨Nat.le_of_ble_eq_true rfl, Nat.le_of_ble_eq_true rfl⟩ (fun H locs hP hD hS => ?_)
  have hP : va_P D vwCl (W0 o cI co ro tw 0 0 sm nx bf od st (filF 264 (-1) ow)) H := hP.sub [0, 1, 2, 3, 4, 5, 6] rfl
  have hD : va_D (wA (W0 o cI co ro tw op ch sm nx bf od st ow)) (W0 o cI co ro tw 0 0 sm nx bf od st (filF 264 (-1) ow)) := hD.sub [0, 1, 2, 3, 4, 5, 6] (by decide) rfl
  exact W.vret hx hb hr (fun t ht hW => ⟨⟨(), rfl, trivial, by rw [ht]; exact hP, va_K.moved hW.alike hK, hD⟩, hS.F ht⟩) hS.2.2 dX0_forgetChains_18

set_option maxHeartbeats 4000000 in
set_option maxRecDepth 100000 in
theorem c_X0_height (l : Launch) (D : va_G) (o : Nat → Nat) (cI : ClassId) (co ro tw op ch : Int32) (sm nx bf od st ow : Nat → Int32) (t : Int32) : wiMet l yX0_height wsX0_height ({ frames := 0, cells := 0, slots := 0, locals := 0 } : Room) D (W0 o cI co ro tw op ch sm nx bf od st ow) (W0 o cI co ro (cond (okT t) t tw) op ch sm nx bf od st ow) [(cI, .int)] [.ref (o 0), .int t] (bI (okT t)) := by
  refine Met.ofW (cc := cX0_height) (maxL := 3) (ret := (some .boolean)) (by decide) rfl ?_
  intro p e s m args below meth c s₁ B hml hv
  obtain ⟨rfl, hP, hK, hD0⟩ := hv
  have hx := B.exec
  have hb := B.bytes
  have hr := B.returns
  have hts := atoms_spec (ws := wsX0_height) B.pre
  have hown : s.vm.findClass RX0 = some m.cls := findClass_of_methodNamed B.named
  have hlocks := B.notSynchronized
  have hin0 : ∀ w ∈ u_ws RX0 TX0 11, w ∈ wsX0_height := by decide +kernel
  have hD := wA_D hD0
  have hS : va_S (wA (W0 o cI co ro tw op ch sm nx bf od st ow)) s.heap s.heap [] := va_S.rf
  obtain ⟨H, hH, hP, hS⟩ : ∃ H : Heap, s.heap = H ∧ va_P D vwCl (W0 o cI co ro tw op ch sm nx bf od st ow) H ∧ va_S (wA (W0 o cI co ro tw op ch sm nx bf od st ow)) s.heap H [] := ⟨_, rfl, hP, hS⟩
  rw [hH]
  have hl := lv_entry ([.ref (o 0), .int t]) (n := 3) (Nat.le_of_ble_eq_true rfl)
  rw [lg_entry_eq]
  generalize (lg_sl ([.ref (o 0), .int t]) ++ List.replicate (3 - (lg_sl ([.ref (o 0), .int t])).length) Slot.unset).toArray = ls at hl ⊢
  have hl : lv_has ls 3 [(0, .ref (o 0)), (1, .int t)] := hl
  refine lv_iload_n hx hb dX0_height_0 rfl (lv_at hl 1 rfl) ?_
  refine lv_iconst (v := 1) hx hb dX0_height_1 (by decide) ?_
  refine lv_iand hx hb dX0_height_2 ?_
  refine lv_iconst (v := 1) hx hb dX0_height_3 (by decide) ?_
  refine lv_icmp_ne (tgt := 11) hx hb dX0_height_4 (by decide) (fun c4 => ?_) (fun c4 => ?_)
  · refine lv_iconst (v := 0) hx hb dX0_height_11 (by decide) ?_
    refine lv_istore_n (lv' := [(2, .int 0), (0, .ref (o 0)), (1, .int t)]) hx hb dX0_height_12 rfl hl (by decide) rfl (fun ls hl => ?_)
    refine lv_iload_n hx hb dX0_height_13 rfl (lv_at hl 0 rfl) ?_
    refine lv_if_eq (tgt := 29) hx hb dX0_height_14 (by decide) (fun c14 => ?_) (fun c14 => ?_)
    · refine lv_iconst (v := 0) hx hb dX0_height_29 (by decide) ?_
      have hok : okT t = false := bf_of okT_ok (fun z => c4 z.1)
      have hP : va_P D vwCl (W0 o cI co ro (cond (okT t) t tw) op ch sm nx bf od st ow) H := by rw [hok]; exact hP
      have hD : va_D (wA (W0 o cI co ro tw op ch sm nx bf od st ow)) (W0 o cI co ro (cond (okT t) t tw) op ch sm nx bf od st ow) := by rw [hok]; exact hD
      exact W.zret (v := 0) (ty := .boolean) hx hb hr rfl (fun t ht hW => ⟨⟨_, (), rfl, by rw [hok]; rfl, by rw [ht]; exact hP, va_K.moved hW.alike hK, hD⟩, hS.F ht⟩) hS.2.2 dX0_height_30
    · exact absurd c14 (by decide)
  · refine lv_iconst (v := 1) hx hb dX0_height_7 (by decide) ?_
    refine lv_goto (tgt := 12) hx hb dX0_height_8 (by decide) ?_
    refine lv_istore_n (lv' := [(2, .int 1), (0, .ref (o 0)), (1, .int t)]) hx hb dX0_height_12 rfl hl (by decide) rfl (fun ls hl => ?_)
    refine lv_iload_n hx hb dX0_height_13 rfl (lv_at hl 0 rfl) ?_
    refine lv_if_eq (tgt := 29) hx hb dX0_height_14 (by decide) (fun c14 => ?_) (fun c14 => ?_)
    · exact absurd c14 (by decide)
    · refine lv_iload_n hx hb dX0_height_17 rfl (lv_at hl 2 rfl) ?_
      refine lv_ldc (v := (-1999999)) hx hb hown (hts (.constant RX0 68 (-1999999)) (by decide +kernel)) dX0_height_18 ?_
      refine lv_icmp_lt (tgt := 29) hx hb dX0_height_20 (by decide) (fun c20 => ?_) (fun c20 => ?_)
      · refine lv_iconst (v := 0) hx hb dX0_height_29 (by decide) ?_
        have hok : okT t = false := bf_of okT_ok (fun z => absurd z.2.1 (Int32.not_le.mpr c20))
        have hP : va_P D vwCl (W0 o cI co ro (cond (okT t) t tw) op ch sm nx bf od st ow) H := by rw [hok]; exact hP
        have hD : va_D (wA (W0 o cI co ro tw op ch sm nx bf od st ow)) (W0 o cI co ro (cond (okT t) t tw) op ch sm nx bf od st ow) := by rw [hok]; exact hD
        exact W.zret (v := 0) (ty := .boolean) hx hb hr rfl (fun t ht hW => ⟨⟨_, (), rfl, by rw [hok]; rfl, by rw [ht]; exact hP, va_K.moved hW.alike hK, hD⟩, hS.F ht⟩) hS.2.2 dX0_height_30
      · refine lv_iload_n hx hb dX0_height_23 rfl (lv_at hl 2 rfl) ?_
        refine lv_ldc (v := 1999999) hx hb hown (hts (.constant RX0 69 (1999999)) (by decide +kernel)) dX0_height_24 ?_
        refine lv_icmp_le (tgt := 31) hx hb dX0_height_26 (by decide) (fun c26 => ?_) (fun c26 => ?_)
        · refine lv_aload_n hx hb dX0_height_31 rfl (lv_at hl 1 rfl) ?_
          refine lv_iload_n hx hb dX0_height_32 rfl (lv_at hl 2 rfl) ?_
          refine va_put (D := D) (ci := 0) (v := .int t) (ty := .int) (C := RX0) (T := TX0) (N := 11) hx hb hts hin0 tyX0 tyX0_ok nmX0 hown hK hP hD hS 0 rfl rfl 2 (by decide) (hts (.fieldLink RX0 16 "HeightLines" "twiceHeight" "I") (by decide +kernel)) (fun _ h9 => h9) rfl (by decide +kernel) rfl rfl (Nat.le_of_ble_eq_true rfl) dX0_height_33 (fun H locs hP hD hS => ?_)
          have hP : va_P D vwCl (W0 o cI co ro t op ch sm nx bf od st ow) H := hP
          have hD : va_D (wA (W0 o cI co ro tw op ch sm nx bf od st ow)) (W0 o cI co ro t op ch sm nx bf od st ow) := hD
          refine lv_iconst (v := 1) hx hb dX0_height_36 (by decide) ?_
          have hok : okT t = true := okT_ok.mpr ⟨by simpa using c4, Int32.not_lt.mp c20, c26⟩
          have hP : va_P D vwCl (W0 o cI co ro (cond (okT t) t tw) op ch sm nx bf od st ow) H := by rw [hok]; exact hP
          have hD : va_D (wA (W0 o cI co ro tw op ch sm nx bf od st ow)) (W0 o cI co ro (cond (okT t) t tw) op ch sm nx bf od st ow) := by rw [hok]; exact hD
          exact W.zret (v := 1) (ty := .boolean) hx hb hr rfl (fun t ht hW => ⟨⟨_, (), rfl, by rw [hok]; rfl, by rw [ht]; exact hP, va_K.moved hW.alike hK, hD⟩, hS.F ht⟩) hS.2.2 dX0_height_37
        · refine lv_iconst (v := 0) hx hb dX0_height_29 (by decide) ?_
          have hok : okT t = false := bf_of okT_ok (fun z => c26 z.2.2)
          have hP : va_P D vwCl (W0 o cI co ro (cond (okT t) t tw) op ch sm nx bf od st ow) H := by rw [hok]; exact hP
          have hD : va_D (wA (W0 o cI co ro tw op ch sm nx bf od st ow)) (W0 o cI co ro (cond (okT t) t tw) op ch sm nx bf od st ow) := by rw [hok]; exact hD
          exact W.zret (v := 0) (ty := .boolean) hx hb hr rfl (fun t ht hW => ⟨⟨_, (), rfl, by rw [hok]; rfl, by rw [ht]; exact hP, va_K.moved hW.alike hK, hD⟩, hS.F ht⟩) hS.2.2 dX0_height_30

set_option maxHeartbeats 4000000 in
set_option maxRecDepth 100000 in
theorem c_X0_field (l : Launch) (D : va_G) (o : Nat → Nat) (cI : ClassId) (co ro tw op ch : Int32) (sm nx bf od st ow : Nat → Int32) (a : Int32) (b : Int32) : wiMet l yX0_field wsX0_field ({ frames := 2, cells := 0, slots := 0, locals := 43 } : Room) D (W0 o cI co ro tw op ch sm nx bf od st ow) (W0 o cI (cond (okF a b) a co) (cond (okF a b) b ro) tw (cond (okF a b) 0 op) (cond (okF a b) 0 ch) (cond (okF a b) (filF 144 0 sm) sm) nx bf od st (cond (okF a b) (filF 264 (-1) ow) ow)) [(cI, .int)] [.ref (o 0), .int a, .int b] (bI (okF a b)) := by
  refine Met.ofW (cc := cX0_field) (maxL := 3) (ret := (some .boolean)) (by decide) rfl ?_
  intro p e s m args below meth c s₁ B hml hv
  obtain ⟨rfl, hP, hK, hD0⟩ := hv
  have hx := B.exec
  have hb := B.bytes
  have hr := B.returns
  have hts := atoms_spec (ws := wsX0_field) B.pre
  have hown : s.vm.findClass RX0 = some m.cls := findClass_of_methodNamed B.named
  have hlocks := B.notSynchronized
  have hin0 : ∀ w ∈ u_ws RX0 TX0 11, w ∈ wsX0_field := by decide +kernel
  have hD := wA_D hD0
  have hS : va_S (wA (W0 o cI co ro tw op ch sm nx bf od st ow)) s.heap s.heap [] := va_S.rf
  obtain ⟨H, hH, hP, hS⟩ : ∃ H : Heap, s.heap = H ∧ va_P D vwCl (W0 o cI co ro tw op ch sm nx bf od st ow) H ∧ va_S (wA (W0 o cI co ro tw op ch sm nx bf od st ow)) s.heap H [] := ⟨_, rfl, hP, hS⟩
  rw [hH]
  have hl := lv_entry ([.ref (o 0), .int a, .int b]) (n := 3) (Nat.le_of_ble_eq_true rfl)
  rw [lg_entry_eq]
  generalize (lg_sl ([.ref (o 0), .int a, .int b]) ++ List.replicate (3 - (lg_sl ([.ref (o 0), .int a, .int b])).length) Slot.unset).toArray = ls at hl ⊢
  have hl : lv_has ls 3 [(0, .ref (o 0)), (1, .int a), (2, .int b)] := hl
  refine lv_iload_n hx hb dX0_field_0 rfl (lv_at hl 1 rfl) ?_
  refine ro_S1 ⟨hx, hb, hml, hown, hts⟩ (c_X0_isSide l D a) (va_cwS 1 hts gX0_field_X0_isSide rfl rfl rfl (by decide +kernel) ⟨Nat.le_of_ble_eq_true rfl, Nat.le_of_ble_eq_true rfl⟩) (va_P0 D vwCl _) (hK.sub [] rfl) hP hS rfl hl.1 (lv_room (Nat.le_of_ble_eq_true rfl)) dX0_field_1 ⟨Nat.le_of_ble_eq_true rfl, Nat.le_of_ble_eq_true rfl⟩ (fun r1 H locs hr1 hP hS => ?_)
  subst hr1
  refine lv_if_eq (tgt := 14) hx hb dX0_field_4 (by decide) (fun c4 => ?_) (fun c4 => ?_)
  · refine lv_iconst (v := 0) hx hb dX0_field_14 (by decide) ?_
    have hok : okF a b = false := bf_of okF_ok (fun z => by have := bI_0.mp c4; simp [z.1.1, z.1.2] at this)
    have hP : va_P D vwCl (W0 o cI (cond (okF a b) a co) (cond (okF a b) b ro) tw (cond (okF a b) 0 op) (cond (okF a b) 0 ch) (cond (okF a b) (filF 144 0 sm) sm) nx bf od st (cond (okF a b) (filF 264 (-1) ow) ow)) H := by rw [hok]; exact hP
    have hD : va_D (wA (W0 o cI co ro tw op ch sm nx bf od st ow)) (W0 o cI (cond (okF a b) a co) (cond (okF a b) b ro) tw (cond (okF a b) 0 op) (cond (okF a b) 0 ch) (cond (okF a b) (filF 144 0 sm) sm) nx bf od st (cond (okF a b) (filF 264 (-1) ow) ow)) := by rw [hok]; exact hD
    exact W.zret (v := 0) (ty := .boolean) hx hb hr rfl (fun t ht hW => ⟨⟨_, (), rfl, by rw [hok]; rfl, by rw [ht]; exact hP, va_K.moved hW.alike hK, hD⟩, hS.F ht⟩) hS.2.2 dX0_field_15
  · refine lv_iload_n hx hb dX0_field_7 rfl (lv_at hl 2 rfl) ?_
    refine ro_S1 ⟨hx, hb, hml, hown, hts⟩ (c_X0_isSide l D b) (va_cwS 1 hts gX0_field_X0_isSide rfl rfl rfl (by decide +kernel) ⟨Nat.le_of_ble_eq_true rfl, Nat.le_of_ble_eq_true rfl⟩) (va_P0 D vwCl _) (hK.sub [] rfl) hP hS rfl hl.1 (lv_room (Nat.le_of_ble_eq_true rfl)) dX0_field_8 ⟨Nat.le_of_ble_eq_true rfl, Nat.le_of_ble_eq_true rfl⟩ (fun r8 H locs hr8 hP hS => ?_)
    subst hr8
    refine lv_if_ne (tgt := 16) hx hb dX0_field_11 (by decide) (fun c11 => ?_) (fun c11 => ?_)
    · refine lv_aload_n hx hb dX0_field_16 rfl (lv_at hl 0 rfl) ?_
      refine lv_iload_n hx hb dX0_field_17 rfl (lv_at hl 1 rfl) ?_
      refine va_put (D := D) (ci := 0) (v := .int a) (ty := .int) (C := RX0) (T := TX0) (N := 11) hx hb hts hin0 tyX0 tyX0_ok nmX0 hown hK hP hD hS 0 rfl rfl 0 (by decide) (hts (.fieldLink RX0 9 "HeightLines" "columns" "I") (by decide +kernel)) (fun _ h9 => h9) rfl (by decide +kernel) rfl rfl (Nat.le_of_ble_eq_true rfl) dX0_field_18 (fun H locs hP hD hS => ?_)
      have hP : va_P D vwCl (W0 o cI a ro tw op ch sm nx bf od st ow) H := hP
      have hD : va_D (wA (W0 o cI co ro tw op ch sm nx bf od st ow)) (W0 o cI a ro tw op ch sm nx bf od st ow) := hD
      refine lv_aload_n hx hb dX0_field_21 rfl (lv_at hl 0 rfl) ?_
      refine lv_iload_n hx hb dX0_field_22 rfl (lv_at hl 2 rfl) ?_
      refine va_put (D := D) (ci := 0) (v := .int b) (ty := .int) (C := RX0) (T := TX0) (N := 11) hx hb hts hin0 tyX0 tyX0_ok nmX0 hown hK hP hD hS 0 rfl rfl 1 (by decide) (hts (.fieldLink RX0 13 "HeightLines" "rows" "I") (by decide +kernel)) (fun _ h9 => h9) rfl (by decide +kernel) rfl rfl (Nat.le_of_ble_eq_true rfl) dX0_field_23 (fun H locs hP hD hS => ?_)
      have hP : va_P D vwCl (W0 o cI a b tw op ch sm nx bf od st ow) H := hP
      have hD : va_D (wA (W0 o cI co ro tw op ch sm nx bf od st ow)) (W0 o cI a b tw op ch sm nx bf od st ow) := hD
      refine lv_aload_n hx hb dX0_field_26 rfl (lv_at hl 0 rfl) ?_
      refine va_get (D := D) (ci := 0) (v := .ref (o 1)) (C := RX0) (T := TX0) (N := 11) hx hb hts hin0 hown hK hP 0 rfl rfl 3 (by decide) (hts (.fieldLink RX0 19 "HeightLines" "samples" "[I") (by decide +kernel)) (fun _ h9 => h9) rfl dX0_field_27 ?_
      refine lv_iconst (v := 0) hx hb dX0_field_30 (by decide) ?_
      have hPf := hP.sub (ws' := [(o 1, .inl (cI, 144, .inl sm))]) [1] rfl
      have hDf := hD.sub (ws' := [(o 1, .inl (cI, 144, .inl sm))]) [1] (by decide) rfl
      refine wv_S (wr := (W0 o cI a b tw op ch sm nx bf od st ow).eraseIdx 1) (As := [.ref (o 1), .int 0]) (rest := []) ⟨hx, hb, hml, hown, hts⟩ (c_fill l D cI (o 1) 144 sm 0 (by decide)) (va_cwS 2 hts gX0_field_J7_fill_53178 rfl rfl rfl (by decide +kernel) ⟨Nat.le_of_ble_eq_true rfl, Nat.le_of_ble_eq_true rfl⟩) hPf hDf hK hP hD hS [1] [0, 2, 3, 4, 5, 6] rfl rfl rfl (by decide) rfl hl.1 rfl (lv_room (Nat.le_of_ble_eq_true rfl)) dX0_field_31 ⟨Nat.le_of_ble_eq_true rfl, Nat.le_of_ble_eq_true rfl⟩ (fun H locs hP hD hS => ?_)
      have hP : va_P D vwCl (W0 o cI a b tw op ch (filF 144 0 sm) nx bf od st ow) H := hP.sub [0, 6, 1, 2, 3, 4, 5] rfl
      have hD : va_D (wA (W0 o cI co ro tw op ch sm nx bf od st ow)) (W0 o cI a b tw op ch (filF 144 0 sm) nx bf od st ow) := hD.sub [0, 6, 1, 2, 3, 4, 5] (by decide) rfl
      refine lv_aload_n hx hb dX0_field_34 rfl (lv_at hl 0 rfl) ?_
      refine wv_V (wr := []) (As := []) (rest := []) ⟨hx, hb, hml, hown, hts⟩ (c_X0_forgetChains l D o cI a b tw op ch (filF 144 0 sm) nx bf od st ow) (cwV 0 hts gX0_field_X0_forgetChains rfl rfl rfl (by decide +kernel) ⟨Nat.le_of_ble_eq_true rfl, Nat.le_of_ble_eq_true rfl⟩) (va_recv hK hP (ci := 0) (q0 := 0) rfl rfl) hP hD hK hP hD hS [0, 1, 2, 3, 4, 5, 6] [] rfl rfl rfl (by decide) rfl hl.1 rfl (lv_room (Nat.le_of_ble_eq_true rfl)) dX0_field_35 ⟨Nat.le_of_ble_eq_true rfl, Nat.le_of_ble_eq_true rfl⟩ (fun H locs hP hD hS => ?_)
      have hP : va_P D vwCl (W0 o cI a b tw 0 0 (filF 144 0 sm) nx bf od st (filF 264 (-1) ow)) H := hP
      have hD : va_D (wA (W0 o cI co ro tw op ch sm nx bf od st ow)) (W0 o cI a b tw 0 0 (filF 144 0 sm) nx bf od st (filF 264 (-1) ow)) := hD
      refine lv_iconst (v := 1) hx hb dX0_field_38 (by decide) ?_
      have hok : okF a b = true := by unfold okF; rw [bI_n0.mp c4, bI_n0.mp c11]; rfl
      have hP : va_P D vwCl (W0 o cI (cond (okF a b) a co) (cond (okF a b) b ro) tw (cond (okF a b) 0 op) (cond (okF a b) 0 ch) (cond (okF a b) (filF 144 0 sm) sm) nx bf od st (cond (okF a b) (filF 264 (-1) ow) ow)) H := by rw [hok]; exact hP
      have hD : va_D (wA (W0 o cI co ro tw op ch sm nx bf od st ow)) (W0 o cI (cond (okF a b) a co) (cond (okF a b) b ro) tw (cond (okF a b) 0 op) (cond (okF a b) 0 ch) (cond (okF a b) (filF 144 0 sm) sm) nx bf od st (cond (okF a b) (filF 264 (-1) ow) ow)) := by rw [hok]; exact hD
      exact W.zret (v := 1) (ty := .boolean) hx hb hr rfl (fun t ht hW => ⟨⟨_, (), rfl, by rw [hok]; rfl, by rw [ht]; exact hP, va_K.moved hW.alike hK, hD⟩, hS.F ht⟩) hS.2.2 dX0_field_39
    · refine lv_iconst (v := 0) hx hb dX0_field_14 (by decide) ?_
      have hok : okF a b = false := bf_of okF_ok (fun z => by have := bI_0.mp c11; simp [z.2.1, z.2.2] at this)
      have hP : va_P D vwCl (W0 o cI (cond (okF a b) a co) (cond (okF a b) b ro) tw (cond (okF a b) 0 op) (cond (okF a b) 0 ch) (cond (okF a b) (filF 144 0 sm) sm) nx bf od st (cond (okF a b) (filF 264 (-1) ow) ow)) H := by rw [hok]; exact hP
      have hD : va_D (wA (W0 o cI co ro tw op ch sm nx bf od st ow)) (W0 o cI (cond (okF a b) a co) (cond (okF a b) b ro) tw (cond (okF a b) 0 op) (cond (okF a b) 0 ch) (cond (okF a b) (filF 144 0 sm) sm) nx bf od st (cond (okF a b) (filF 264 (-1) ow) ow)) := by rw [hok]; exact hD
      exact W.zret (v := 0) (ty := .boolean) hx hb hr rfl (fun t ht hW => ⟨⟨_, (), rfl, by rw [hok]; rfl, by rw [ht]; exact hP, va_K.moved hW.alike hK, hD⟩, hS.F ht⟩) hS.2.2 dX0_field_15

set_option maxHeartbeats 4000000 in
set_option maxRecDepth 100000 in
theorem c_X0_set (l : Launch) (D : va_G) (o : Nat → Nat) (cI : ClassId) (tw op ch : Int32) (sm nx bf od st ow : Nat → Int32) (w : Nat) (h : Nat) (a : Int32) (b : Int32) (v : Int32) (gw2 : w ≤ 12) (gh2 : h ≤ 12) : wiMet l yX0_set wsX0_set ({ frames := 2, cells := 0, slots := 0, locals := 44 } : Room) D (W0 o cI (nI w) (nI h) tw op ch sm nx bf od st ow) (W0 o cI (nI w) (nI h) tw op ch (cond (okS w h a b v) (upd sm (b.toNatClampNeg * w + a.toNatClampNeg) v) sm) nx bf od st ow) [(cI, .int)] [.ref (o 0), .int a, .int b, .int v] (bI (okS w h a b v)) := by
  refine Met.ofW (cc := cX0_set) (maxL := 4) (ret := (some .boolean)) (by decide) rfl ?_
  intro p e s m args below meth c s₁ B hml hv
  obtain ⟨rfl, hP, hK, hD0⟩ := hv
  have hx := B.exec
  have hb := B.bytes
  have hr := B.returns
  have hts := atoms_spec (ws := wsX0_set) B.pre
  have hown : s.vm.findClass RX0 = some m.cls := findClass_of_methodNamed B.named
  have hlocks := B.notSynchronized
  have hin0 : ∀ w ∈ u_ws RX0 TX0 11, w ∈ wsX0_set := by decide +kernel
  have hD := wA_D hD0
  have hS : va_S (wA (W0 o cI (nI w) (nI h) tw op ch sm nx bf od st ow)) s.heap s.heap [] := va_S.rf
  obtain ⟨H, hH, hP, hS⟩ : ∃ H : Heap, s.heap = H ∧ va_P D vwCl (W0 o cI (nI w) (nI h) tw op ch sm nx bf od st ow) H ∧ va_S (wA (W0 o cI (nI w) (nI h) tw op ch sm nx bf od st ow)) s.heap H [] := ⟨_, rfl, hP, hS⟩
  rw [hH]
  have hl := lv_entry ([.ref (o 0), .int a, .int b, .int v]) (n := 4) (Nat.le_of_ble_eq_true rfl)
  rw [lg_entry_eq]
  generalize (lg_sl ([.ref (o 0), .int a, .int b, .int v]) ++ List.replicate (4 - (lg_sl ([.ref (o 0), .int a, .int b, .int v])).length) Slot.unset).toArray = ls at hl ⊢
  have hl : lv_has ls 4 [(0, .ref (o 0)), (1, .int a), (2, .int b), (3, .int v)] := hl
  refine lv_iload_n hx hb dX0_set_0 rfl (lv_at hl 1 rfl) ?_
  refine lv_if_lt (tgt := 29) hx hb dX0_set_1 (by decide) (fun c1 => ?_) (fun c1 => ?_)
  · refine lv_iconst (v := 0) hx hb dX0_set_29 (by decide) ?_
    have hok : okS w h a b v = false := by unfold okS; simp [Int32.not_le.mpr c1]
    have hP : va_P D vwCl (W0 o cI (nI w) (nI h) tw op ch (cond (okS w h a b v) (upd sm (b.toNatClampNeg * w + a.toNatClampNeg) v) sm) nx bf od st ow) H := by rw [hok]; exact hP
    have hD : va_D (wA (W0 o cI (nI w) (nI h) tw op ch sm nx bf od st ow)) (W0 o cI (nI w) (nI h) tw op ch (cond (okS w h a b v) (upd sm (b.toNatClampNeg * w + a.toNatClampNeg) v) sm) nx bf od st ow) := by rw [hok]; exact hD
    exact W.zret (v := 0) (ty := .boolean) hx hb hr rfl (fun t ht hW => ⟨⟨_, (), rfl, by rw [hok]; rfl, by rw [ht]; exact hP, va_K.moved hW.alike hK, hD⟩, hS.F ht⟩) hS.2.2 dX0_set_30
  · refine lv_iload_n hx hb dX0_set_4 rfl (lv_at hl 1 rfl) ?_
    refine lv_aload_n hx hb dX0_set_5 rfl (lv_at hl 0 rfl) ?_
    refine va_get (D := D) (ci := 0) (v := .int (nI w)) (C := RX0) (T := TX0) (N := 11) hx hb hts hin0 hown hK hP 0 rfl rfl 0 (by decide) (hts (.fieldLink RX0 9 "HeightLines" "columns" "I") (by decide +kernel)) (fun _ h9 => h9) rfl dX0_set_6 ?_
    refine lv_icmp_ge (tgt := 29) hx hb dX0_set_9 (by decide) (fun c9 => ?_) (fun c9 => ?_)
    · refine lv_iconst (v := 0) hx hb dX0_set_29 (by decide) ?_
      have hok : okS w h a b v = false := by unfold okS; simp [Int32.not_lt.mpr c9]
      have hP : va_P D vwCl (W0 o cI (nI w) (nI h) tw op ch (cond (okS w h a b v) (upd sm (b.toNatClampNeg * w + a.toNatClampNeg) v) sm) nx bf od st ow) H := by rw [hok]; exact hP
      have hD : va_D (wA (W0 o cI (nI w) (nI h) tw op ch sm nx bf od st ow)) (W0 o cI (nI w) (nI h) tw op ch (cond (okS w h a b v) (upd sm (b.toNatClampNeg * w + a.toNatClampNeg) v) sm) nx bf od st ow) := by rw [hok]; exact hD
      exact W.zret (v := 0) (ty := .boolean) hx hb hr rfl (fun t ht hW => ⟨⟨_, (), rfl, by rw [hok]; rfl, by rw [ht]; exact hP, va_K.moved hW.alike hK, hD⟩, hS.F ht⟩) hS.2.2 dX0_set_30
    · refine lv_aload_n hx hb dX0_set_12 rfl (lv_at hl 0 rfl) ?_
      refine lv_iload_n hx hb dX0_set_13 rfl (lv_at hl 2 rfl) ?_
      refine ro_V1 ⟨hx, hb, hml, hown, hts⟩ (c_X0_hasRow l D o cI (nI w) (nI h) tw op ch sm nx bf od st ow b) (cwV 1 hts gX0_set_X0_hasRow rfl rfl rfl (by decide +kernel) ⟨Nat.le_of_ble_eq_true rfl, Nat.le_of_ble_eq_true rfl⟩) (va_recv hK hP (ci := 0) (q0 := 0) rfl rfl) hP hK hP hS rfl hl.1 (lv_room (Nat.le_of_ble_eq_true rfl)) dX0_set_14 ⟨Nat.le_of_ble_eq_true rfl, Nat.le_of_ble_eq_true rfl⟩ (fun r14 H locs hr14 hP hS => ?_)
      subst hr14
      refine lv_if_eq (tgt := 29) hx hb dX0_set_17 (by decide) (fun c17 => ?_) (fun c17 => ?_)
      · refine lv_iconst (v := 0) hx hb dX0_set_29 (by decide) ?_
        have hok : okS w h a b v = false := by unfold okS; rw [show okY h b = false from bI_0.mp c17]; simp
        have hP : va_P D vwCl (W0 o cI (nI w) (nI h) tw op ch (cond (okS w h a b v) (upd sm (b.toNatClampNeg * w + a.toNatClampNeg) v) sm) nx bf od st ow) H := by rw [hok]; exact hP
        have hD : va_D (wA (W0 o cI (nI w) (nI h) tw op ch sm nx bf od st ow)) (W0 o cI (nI w) (nI h) tw op ch (cond (okS w h a b v) (upd sm (b.toNatClampNeg * w + a.toNatClampNeg) v) sm) nx bf od st ow) := by rw [hok]; exact hD
        exact W.zret (v := 0) (ty := .boolean) hx hb hr rfl (fun t ht hW => ⟨⟨_, (), rfl, by rw [hok]; rfl, by rw [ht]; exact hP, va_K.moved hW.alike hK, hD⟩, hS.F ht⟩) hS.2.2 dX0_set_30
      · refine lv_iload_n hx hb dX0_set_20 rfl (lv_at hl 3 rfl) ?_
        refine lv_iload_n hx hb dX0_set_21 rfl (lv_at hl 3 rfl) ?_
        refine lv_i2l hx hb dX0_set_22 rfl ?_
        refine ro_S1 ⟨hx, hb, hml, hown, hts⟩ (c_X0_heldToBounds l D v.toInt64) (va_cwS 1 hts gX0_set_X0_heldToBounds rfl rfl rfl (by decide +kernel) ⟨Nat.le_of_ble_eq_true rfl, Nat.le_of_ble_eq_true rfl⟩) (va_P0 D vwCl _) (hK.sub [] rfl) hP hS rfl hl.1 (lv_room (Nat.le_of_ble_eq_true rfl)) dX0_set_23 ⟨Nat.le_of_ble_eq_true rfl, Nat.le_of_ble_eq_true rfl⟩ (fun r23 H locs hr23 hP hS => ?_)
        subst hr23
        refine lv_icmp_eq (tgt := 31) hx hb dX0_set_26 (by decide) (fun c26 => ?_) (fun c26 => ?_)
        · obtain ⟨x, hx9, ea⟩ : ∃ j, j < w ∧ a = nI j := okY_n (h := w) (by unfold okY; rw [decide_eq_true (Int32.not_lt.mp c1), decide_eq_true (Int32.not_le.mp c9)]; rfl) (by omega)
          obtain ⟨y, hy9, eb⟩ : ∃ j, j < h ∧ b = nI j := okY_n (h := h) (bI_n0.mp c17) (by omega)
          have ha9 : a.toNatClampNeg = x := by rw [ea, nI_clamp (by omega)]
          have hb9 : b.toNatClampNeg = y := by rw [eb, nI_clamp (by omega)]
          have c1 := c1
          have c9 := c9
          rw [ea, eb] at hl
          refine lv_aload_n hx hb dX0_set_31 rfl (lv_at hl 0 rfl) ?_
          refine va_get (D := D) (ci := 0) (v := .ref (o 1)) (C := RX0) (T := TX0) (N := 11) hx hb hts hin0 hown hK hP 0 rfl rfl 3 (by decide) (hts (.fieldLink RX0 19 "HeightLines" "samples" "[I") (by decide +kernel)) (fun _ h9 => h9) rfl dX0_set_32 ?_
          refine lv_aload_n hx hb dX0_set_35 rfl (lv_at hl 0 rfl) ?_
          refine lv_iload_n hx hb dX0_set_36 rfl (lv_at hl 1 rfl) ?_
          refine lv_iload_n hx hb dX0_set_37 rfl (lv_at hl 2 rfl) ?_
          refine ro_V2 ⟨hx, hb, hml, hown, hts⟩ (c_X0_sampleAt l D o cI (nI h) tw op ch sm nx bf od st ow w x y) (cwV 2 hts gX0_set_X0_sampleAt rfl rfl rfl (by decide +kernel) ⟨Nat.le_of_ble_eq_true rfl, Nat.le_of_ble_eq_true rfl⟩) (va_recv hK hP (ci := 0) (q0 := 0) rfl rfl) hP hK hP hS rfl hl.1 (lv_room (Nat.le_of_ble_eq_true rfl)) dX0_set_38 ⟨Nat.le_of_ble_eq_true rfl, Nat.le_of_ble_eq_true rfl⟩ (fun r38 H locs hr38 hP hS => ?_)
          subst hr38
          refine lv_iload_n hx hb dX0_set_41 rfl (lv_at hl 3 rfl) ?_
          refine an_iast (D := D) hx hb hK hP hD hS 1 0 rfl rfl (k := y * w + x) (sA_lt gw2 gh2 hx9 hy9) (by decide) dX0_set_42 (fun H locs hP hD hS => ?_)
          have hP : va_P D vwCl (W0 o cI (nI w) (nI h) tw op ch (upd sm (y * w + x) v) nx bf od st ow) H := hP
          have hD : va_D (wA (W0 o cI (nI w) (nI h) tw op ch sm nx bf od st ow)) (W0 o cI (nI w) (nI h) tw op ch (upd sm (y * w + x) v) nx bf od st ow) := hD
          refine lv_iconst (v := 1) hx hb dX0_set_43 (by decide) ?_
          have hok : okS w h a b v = true := by unfold okS; rw [show okY h b = true from bI_n0.mp c17, decide_eq_true (Int32.not_lt.mp c1), decide_eq_true (Int32.not_le.mp c9), decide_eq_true c26]; rfl
          have hP : va_P D vwCl (W0 o cI (nI w) (nI h) tw op ch (cond (okS w h a b v) (upd sm (b.toNatClampNeg * w + a.toNatClampNeg) v) sm) nx bf od st ow) H := by rw [hok, ha9, hb9]; exact hP
          have hD : va_D (wA (W0 o cI (nI w) (nI h) tw op ch sm nx bf od st ow)) (W0 o cI (nI w) (nI h) tw op ch (cond (okS w h a b v) (upd sm (b.toNatClampNeg * w + a.toNatClampNeg) v) sm) nx bf od st ow) := by rw [hok, ha9, hb9]; exact hD
          exact W.zret (v := 1) (ty := .boolean) hx hb hr rfl (fun t ht hW => ⟨⟨_, (), rfl, by rw [hok]; rfl, by rw [ht]; exact hP, va_K.moved hW.alike hK, hD⟩, hS.F ht⟩) hS.2.2 dX0_set_44
        · refine lv_iconst (v := 0) hx hb dX0_set_29 (by decide) ?_
          have hok : okS w h a b v = false := by unfold okS; simp [c26]
          have hP : va_P D vwCl (W0 o cI (nI w) (nI h) tw op ch (cond (okS w h a b v) (upd sm (b.toNatClampNeg * w + a.toNatClampNeg) v) sm) nx bf od st ow) H := by rw [hok]; exact hP
          have hD : va_D (wA (W0 o cI (nI w) (nI h) tw op ch sm nx bf od st ow)) (W0 o cI (nI w) (nI h) tw op ch (cond (okS w h a b v) (upd sm (b.toNatClampNeg * w + a.toNatClampNeg) v) sm) nx bf od st ow) := by rw [hok]; exact hD
          exact W.zret (v := 0) (ty := .boolean) hx hb hr rfl (fun t ht hW => ⟨⟨_, (), rfl, by rw [hok]; rfl, by rw [ht]; exact hP, va_K.moved hW.alike hK, hD⟩, hS.F ht⟩) hS.2.2 dX0_set_30

set_option maxHeartbeats 4000000 in
set_option maxRecDepth 100000 in
theorem c_X0_row (l : Launch) (D : va_G) (o : Nat → Nat) (cI : ClassId) (tw op ch : Int32) (sm nx bf od st ow : Nat → Int32) (w : Nat) (h : Nat) (b : Int32) (fr : Int32) (sp : Int32) (gw2 : w ≤ 12) (gh2 : h ≤ 12) : wiMet l yX0_row wsX0_row ({ frames := 2, cells := 0, slots := 0, locals := 44 } : Room) D (W0 o cI (nI w) (nI h) tw op ch sm nx bf od st ow) (W0 o cI (nI w) (nI h) tw op ch (cond (okY h b) (rowF w b.toNatClampNeg fr sp sm w) sm) nx bf od st ow) [(cI, .int)] [.ref (o 0), .int b, .int fr, .int sp] (bI (okY h b)) := by
  refine Met.ofW (cc := cX0_row) (maxL := 5) (ret := (some .boolean)) (by decide) rfl ?_
  intro p e s m args below meth c s₁ B hml hv
  obtain ⟨rfl, hP, hK, hD0⟩ := hv
  have hx := B.exec
  have hb := B.bytes
  have hr := B.returns
  have hts := atoms_spec (ws := wsX0_row) B.pre
  have hown : s.vm.findClass RX0 = some m.cls := findClass_of_methodNamed B.named
  have hlocks := B.notSynchronized
  have hin0 : ∀ w ∈ u_ws RX0 TX0 11, w ∈ wsX0_row := by decide +kernel
  have hD := wA_D hD0
  have hS : va_S (wA (W0 o cI (nI w) (nI h) tw op ch sm nx bf od st ow)) s.heap s.heap [] := va_S.rf
  obtain ⟨H, hH, hP, hS⟩ : ∃ H : Heap, s.heap = H ∧ va_P D vwCl (W0 o cI (nI w) (nI h) tw op ch sm nx bf od st ow) H ∧ va_S (wA (W0 o cI (nI w) (nI h) tw op ch sm nx bf od st ow)) s.heap H [] := ⟨_, rfl, hP, hS⟩
  rw [hH]
  have hl := lv_entry ([.ref (o 0), .int b, .int fr, .int sp]) (n := 5) (Nat.le_of_ble_eq_true rfl)
  rw [lg_entry_eq]
  generalize (lg_sl ([.ref (o 0), .int b, .int fr, .int sp]) ++ List.replicate (5 - (lg_sl ([.ref (o 0), .int b, .int fr, .int sp])).length) Slot.unset).toArray = ls at hl ⊢
  have hl : lv_has ls 5 [(0, .ref (o 0)), (1, .int b), (2, .int fr), (3, .int sp)] := hl
  have lp : ∀ (n : Nat) (j : Nat) (y : Nat), (j ≤ w) → (w + 1 ≤ j + n) → (y < h) → (b = nI y) → (okY h b = true) → ∀ (H : Heap) (locs : List Loc) (ls : Array Slot), va_P D vwCl (W0 o cI (nI w) (nI h) tw op ch (rowF w y fr sp sm j) nx bf od st ow) H → va_D (wA (W0 o cI (nI w) (nI h) tw op ch sm nx bf od st ow)) (W0 o cI (nI w) (nI h) tw op ch (rowF w y fr sp sm j) nx bf od st ow) → va_S (wA (W0 o cI (nI w) (nI h) tw op ch sm nx bf od st ow)) s.heap H locs → lv_has ls 5 [(4, .int (nI j)), (0, .ref (o 0)), (1, .int (nI y)), (2, .int fr), (3, .int sp)] → W p l e (headSpec wsX0_row ({ frames := 2, cells := 0, slots := 0, locals := 44 } : Room)).room s m ([.ref (o 0), .int b, .int fr, .int sp] : List Value).toArray below meth c H locs 0 0 (MQ below (va_Qi (fun r (_ : Unit) => r = bI (okY h b)) (wB D (W0 o cI (nI w) (nI h) tw op ch sm nx bf od st ow) (W0 o cI (nI w) (nI h) tw op ch (cond (okY h b) (rowF w b.toNatClampNeg fr sp sm w) sm) nx bf od st ow) [(cI, .int)]) (wA (W0 o cI (nI w) (nI h) tw op ch sm nx bf od st ow))) ([.ref (o 0), .int b, .int fr, .int sp] : List Value).toArray s 0 0 (wA (W0 o cI (nI w) (nI h) tw op ch sm nx bf od st ow))) (F0 m 13 ls []) := by
    intro n
    induction n with
    | zero =>
      intro j y hj hn hy9 eb hok0
      exact absurd hn (by omega)
    | succ n ih =>
      intro j y hj hn hy9 eb hok0 H locs ls hP hD hS hl
      refine lv_iload hx hb dX0_row_13 (lv_at hl 0 rfl) ?_
      refine lv_aload_n hx hb dX0_row_15 rfl (lv_at hl 1 rfl) ?_
      refine va_get (D := D) (ci := 0) (v := .int (nI w)) (C := RX0) (T := TX0) (N := 11) hx hb hts hin0 hown hK hP 0 rfl rfl 0 (by decide) (hts (.fieldLink RX0 9 "HeightLines" "columns" "I") (by decide +kernel)) (fun _ h9 => h9) rfl dX0_row_16 ?_
      refine lv_icmp_ge (tgt := 52) hx hb dX0_row_19 (by decide) (fun c19 => ?_) (fun c19 => ?_)
      · have hjw : j = w := by have := le_n c19 (by omega) (by omega); omega
        rw [hjw] at hP hD
        refine lv_iconst (v := 1) hx hb dX0_row_52 (by decide) ?_
        have hok : okY h b = true := hok0
        have hP : va_P D vwCl (W0 o cI (nI w) (nI h) tw op ch (cond (okY h b) (rowF w b.toNatClampNeg fr sp sm w) sm) nx bf od st ow) H := by rw [hok, show b.toNatClampNeg = y from by rw [eb, nI_clamp (by omega)]]; exact hP
        have hD : va_D (wA (W0 o cI (nI w) (nI h) tw op ch sm nx bf od st ow)) (W0 o cI (nI w) (nI h) tw op ch (cond (okY h b) (rowF w b.toNatClampNeg fr sp sm w) sm) nx bf od st ow) := by rw [hok, show b.toNatClampNeg = y from by rw [eb, nI_clamp (by omega)]]; exact hD
        exact W.zret (v := 1) (ty := .boolean) hx hb hr rfl (fun t ht hW => ⟨⟨_, (), rfl, by rw [hok]; rfl, by rw [ht]; exact hP, va_K.moved hW.alike hK, hD⟩, hS.F ht⟩) hS.2.2 dX0_row_53
      · refine lv_aload_n hx hb dX0_row_22 rfl (lv_at hl 1 rfl) ?_
        refine va_get (D := D) (ci := 0) (v := .ref (o 1)) (C := RX0) (T := TX0) (N := 11) hx hb hts hin0 hown hK hP 0 rfl rfl 3 (by decide) (hts (.fieldLink RX0 19 "HeightLines" "samples" "[I") (by decide +kernel)) (fun _ h9 => h9) rfl dX0_row_23 ?_
        refine lv_aload_n hx hb dX0_row_26 rfl (lv_at hl 1 rfl) ?_
        refine lv_iload hx hb dX0_row_27 (lv_at hl 0 rfl) ?_
        refine lv_iload_n hx hb dX0_row_29 rfl (lv_at hl 2 rfl) ?_
        refine ro_V2 ⟨hx, hb, hml, hown, hts⟩ (c_X0_sampleAt l D o cI (nI h) tw op ch (rowF w y fr sp sm j) nx bf od st ow w j y) (cwV 2 hts gX0_row_X0_sampleAt rfl rfl rfl (by decide +kernel) ⟨Nat.le_of_ble_eq_true rfl, Nat.le_of_ble_eq_true rfl⟩) (va_recv hK hP (ci := 0) (q0 := 0) rfl rfl) hP hK hP hS rfl hl.1 (lv_room (Nat.le_of_ble_eq_true rfl)) dX0_row_30 ⟨Nat.le_of_ble_eq_true rfl, Nat.le_of_ble_eq_true rfl⟩ (fun r30 H locs hr30 hP hS => ?_)
        subst hr30
        refine lv_iload_n hx hb dX0_row_33 rfl (lv_at hl 3 rfl) ?_
        refine lv_i2l hx hb dX0_row_34 rfl ?_
        refine lv_iload hx hb dX0_row_35 (lv_at hl 0 rfl) ?_
        refine lv_i2l hx hb dX0_row_37 rfl ?_
        refine lv_iload_n hx hb dX0_row_38 rfl (lv_at hl 4 rfl) ?_
        refine lv_i2l hx hb dX0_row_39 rfl ?_
        refine lv_lmul hx hb dX0_row_40 ?_
        refine lv_ladd hx hb dX0_row_41 ?_
        refine ro_S1 ⟨hx, hb, hml, hown, hts⟩ (c_X0_heldToBounds l D (fr.toInt64 + ((nI j).toInt64 * sp.toInt64))) (va_cwS 1 hts gX0_row_X0_heldToBounds rfl rfl rfl (by decide +kernel) ⟨Nat.le_of_ble_eq_true rfl, Nat.le_of_ble_eq_true rfl⟩) (va_P0 D vwCl _) (hK.sub [] rfl) hP hS rfl hl.1 (lv_room (Nat.le_of_ble_eq_true rfl)) dX0_row_42 ⟨Nat.le_of_ble_eq_true rfl, Nat.le_of_ble_eq_true rfl⟩ (fun r42 H locs hr42 hP hS => ?_)
        subst hr42
        refine an_iast (D := D) hx hb hK hP hD hS 1 0 rfl rfl (k := y * w + j) (sA_lt gw2 gh2 (nle_n c19 (by omega) (by omega)) hy9) (by decide) dX0_row_45 (fun H locs hP hD hS => ?_)
        have hP : va_P D vwCl (W0 o cI (nI w) (nI h) tw op ch (upd (rowF w y fr sp sm j) (y * w + j) (holdI (fr.toInt64 + ((nI j).toInt64 * sp.toInt64)))) nx bf od st ow) H := hP
        have hD : va_D (wA (W0 o cI (nI w) (nI h) tw op ch sm nx bf od st ow)) (W0 o cI (nI w) (nI h) tw op ch (upd (rowF w y fr sp sm j) (y * w + j) (holdI (fr.toInt64 + ((nI j).toInt64 * sp.toInt64)))) nx bf od st ow) := hD
        refine lv_iinc (v := (nI (j + 1))) (lv' := [(4, .int (nI (j + 1))), (0, .ref (o 0)), (1, .int (nI y)), (2, .int fr), (3, .int sp)]) hx hb dX0_row_46 hl (k := 0) rfl (nI_p1 _) (by decide) rfl (fun ls hl => ?_)
        refine lv_goto (tgt := 13) hx hb dX0_row_49 (by decide) ?_
        have hP : va_P D vwCl (W0 o cI (nI w) (nI h) tw op ch (rowF w y fr sp sm (j + 1)) nx bf od st ow) H := hP
        have hD : va_D (wA (W0 o cI (nI w) (nI h) tw op ch sm nx bf od st ow)) (W0 o cI (nI w) (nI h) tw op ch (rowF w y fr sp sm (j + 1)) nx bf od st ow) := hD
        exact ih (j + 1) y (nle_n c19 (by omega) (by omega)) (by omega) hy9 eb hok0 _ _ _ hP hD hS (lv_sub hl [0, 1, 2, 3, 4] rfl)
  refine lv_aload_n hx hb dX0_row_0 rfl (lv_at hl 0 rfl) ?_
  refine lv_iload_n hx hb dX0_row_1 rfl (lv_at hl 1 rfl) ?_
  refine ro_V1 ⟨hx, hb, hml, hown, hts⟩ (c_X0_hasRow l D o cI (nI w) (nI h) tw op ch sm nx bf od st ow b) (cwV 1 hts gX0_row_X0_hasRow rfl rfl rfl (by decide +kernel) ⟨Nat.le_of_ble_eq_true rfl, Nat.le_of_ble_eq_true rfl⟩) (va_recv hK hP (ci := 0) (q0 := 0) rfl rfl) hP hK hP hS rfl hl.1 (lv_room (Nat.le_of_ble_eq_true rfl)) dX0_row_2 ⟨Nat.le_of_ble_eq_true rfl, Nat.le_of_ble_eq_true rfl⟩ (fun r2 H locs hr2 hP hS => ?_)
  subst hr2
  refine lv_if_ne (tgt := 10) hx hb dX0_row_5 (by decide) (fun c5 => ?_) (fun c5 => ?_)
  · obtain ⟨y, hy9, eb⟩ : ∃ j, j < h ∧ b = nI j := okY_n (h := h) (bI_n0.mp c5) (by omega)
    have hok0 : okY h b = true := bI_n0.mp c5
    rw [eb] at hl
    refine lv_iconst (v := 0) hx hb dX0_row_10 (by decide) ?_
    refine lv_istore (lv' := [(4, .int 0), (0, .ref (o 0)), (1, .int (nI y)), (2, .int fr), (3, .int sp)]) hx hb dX0_row_11 hl (by decide) rfl (fun ls hl => ?_)
    exact lp (w + 1) 0 y (Nat.zero_le _) (by omega) hy9 eb hok0 _ _ _ hP hD hS (lv_sub hl [0, 1, 2, 3, 4] rfl)
  · refine lv_iconst (v := 0) hx hb dX0_row_8 (by decide) ?_
    have hok : okY h b = false := bI_0.mp c5
    have hP : va_P D vwCl (W0 o cI (nI w) (nI h) tw op ch (cond (okY h b) (rowF w b.toNatClampNeg fr sp sm w) sm) nx bf od st ow) H := by rw [hok]; exact hP
    have hD : va_D (wA (W0 o cI (nI w) (nI h) tw op ch sm nx bf od st ow)) (W0 o cI (nI w) (nI h) tw op ch (cond (okY h b) (rowF w b.toNatClampNeg fr sp sm w) sm) nx bf od st ow) := by rw [hok]; exact hD
    exact W.zret (v := 0) (ty := .boolean) hx hb hr rfl (fun t ht hW => ⟨⟨_, (), rfl, by rw [hok]; rfl, by rw [ht]; exact hP, va_K.moved hW.alike hK, hD⟩, hS.F ht⟩) hS.2.2 dX0_row_9

set_option maxHeartbeats 4000000 in
set_option maxRecDepth 100000 in
theorem c_X0_size (l : Launch) (D : va_G) (o : Nat → Nat) (cI : ClassId) (co ro tw op : Int32) (sm nx bf od st ow : Nat → Int32) (L : List (List Nat)) (y : Int32) (gL : L.length ≤ 132) (gst : ∀ i, i ≤ L.length → st i = nI (pfx L i)) : roMet l yX0_size wsX0_size ({ frames := 1, cells := 0, slots := 0, locals := 21 } : Room) D (W0 o cI co ro tw op (nI L.length) sm nx bf od st ow) [(cI, .int)] [.ref (o 0), .int y] (fun r => r = szL L y) := by
  refine Met.ofW (cc := cX0_size) (maxL := 2) (ret := (some .int)) (by decide) rfl ?_
  intro p e s m args below meth c s₁ B hml hv
  obtain ⟨rfl, hP, hK⟩ := hv
  have hx := B.exec
  have hb := B.bytes
  have hr := B.returns
  have hts := atoms_spec (ws := wsX0_size) B.pre
  have hown : s.vm.findClass RX0 = some m.cls := findClass_of_methodNamed B.named
  have hlocks := B.notSynchronized
  have hin0 : ∀ w ∈ u_ws RX0 TX0 11, w ∈ wsX0_size := by decide +kernel
  have hS : va_S (fun _ => False) s.heap s.heap [] := va_S.rf
  have hP : va_P D vwCl (W0 o cI co ro tw op (nI L.length) sm nx bf od st ow) s.heap := hP
  have hl := lv_entry ([.ref (o 0), .int y]) (n := 2) (Nat.le_of_ble_eq_true rfl)
  rw [lg_entry_eq]
  generalize (lg_sl ([.ref (o 0), .int y]) ++ List.replicate (2 - (lg_sl ([.ref (o 0), .int y])).length) Slot.unset).toArray = ls at hl ⊢
  have hl : lv_has ls 2 [(0, .ref (o 0)), (1, .int y)] := hl
  refine lv_aload_n hx hb dX0_size_0 rfl (lv_at hl 0 rfl) ?_
  refine lv_iload_n hx hb dX0_size_1 rfl (lv_at hl 1 rfl) ?_
  refine ro_V1 ⟨hx, hb, hml, hown, hts⟩ (c_X0_hasChain l D o cI co ro tw op (nI L.length) sm nx bf od st ow y) (cwV 1 hts gX0_size_X0_hasChain rfl rfl rfl (by decide +kernel) ⟨Nat.le_of_ble_eq_true rfl, Nat.le_of_ble_eq_true rfl⟩) (va_recv hK hP (ci := 0) (q0 := 0) rfl rfl) hP hK hP hS rfl hl.1 (lv_room (Nat.le_of_ble_eq_true rfl)) dX0_size_2 ⟨Nat.le_of_ble_eq_true rfl, Nat.le_of_ble_eq_true rfl⟩ (fun r2 H locs hr2 hP hS => ?_)
  subst hr2
  refine lv_if_eq (tgt := 26) hx hb dX0_size_5 (by decide) (fun c5 => ?_) (fun c5 => ?_)
  · refine lv_iconst (v := (-1)) hx hb dX0_size_26 (by decide) ?_
    exact W.iret (v := (-1)) hx hb hr (fun t ht hW => ⟨⟨_, (), rfl, by rw [szL_z (bI_0.mp c5)], trivial⟩, hS.F ht⟩) hS.2.2 dX0_size_27
  · obtain ⟨j, hj9, ey⟩ : ∃ j, j < L.length ∧ y = nI j := okY_n (h := L.length) (bI_n0.mp c5) (by omega)
    rw [ey] at hl
    refine lv_aload_n hx hb dX0_size_8 rfl (lv_at hl 0 rfl) ?_
    refine va_get (D := D) (ci := 0) (v := .ref (o 5)) (C := RX0) (T := TX0) (N := 11) hx hb hts hin0 hown hK hP 0 rfl rfl 7 (by decide) (hts (.fieldLink RX0 32 "HeightLines" "starts" "[I") (by decide +kernel)) (fun _ h9 => h9) rfl dX0_size_9 ?_
    refine lv_iload_n hx hb dX0_size_12 rfl (lv_at hl 1 rfl) ?_
    refine lv_iconst (v := 1) hx hb dX0_size_13 (by decide) ?_
    refine lv_iadd hx hb dX0_size_14 ?_
    rw [show (nI j + 1) = nI (j + 1) from nI_p1 j]
    refine an_iald (D := D) hx hb hK hP 5 0 rfl rfl (k := j + 1) (by omega) (by decide) dX0_size_15 ?_
    refine lv_aload_n hx hb dX0_size_16 rfl (lv_at hl 0 rfl) ?_
    refine va_get (D := D) (ci := 0) (v := .ref (o 5)) (C := RX0) (T := TX0) (N := 11) hx hb hts hin0 hown hK hP 0 rfl rfl 7 (by decide) (hts (.fieldLink RX0 32 "HeightLines" "starts" "[I") (by decide +kernel)) (fun _ h9 => h9) rfl dX0_size_17 ?_
    refine lv_iload_n hx hb dX0_size_20 rfl (lv_at hl 1 rfl) ?_
    refine an_iald (D := D) hx hb hK hP 5 0 rfl rfl (k := j) (by omega) (by decide) dX0_size_21 ?_
    refine lv_isub hx hb dX0_size_22 ?_
    refine lv_goto (tgt := 27) hx hb dX0_size_23 (by decide) ?_
    exact W.iret (v := ((st (j + 1)) - (st j))) hx hb hr (fun t ht hW => ⟨⟨_, (), rfl, by rw [ey, szL_n hj9 (by omega), gst (j + 1) (by omega), gst j (by omega), pk_sub (pfx_mono (by omega))], trivial⟩, hS.F ht⟩) hS.2.2 dX0_size_27

set_option maxHeartbeats 4000000 in
set_option maxRecDepth 100000 in
theorem c_X0_isClosed (l : Launch) (D : va_G) (o : Nat → Nat) (cI : ClassId) (co ro tw : Int32) (sm nx bf od st ow : Nat → Int32) (L : List (List Nat)) (no : Nat) (y : Int32) : roMet l yX0_isClosed wsX0_isClosed ({ frames := 1, cells := 0, slots := 0, locals := 21 } : Room) D (W0 o cI co ro tw (nI no) (nI L.length) sm nx bf od st ow) [(cI, .int)] [.ref (o 0), .int y] (fun r => r = bI (clL L no y)) := by
  refine Met.ofW (cc := cX0_isClosed) (maxL := 2) (ret := (some .boolean)) (by decide) rfl ?_
  intro p e s m args below meth c s₁ B hml hv
  obtain ⟨rfl, hP, hK⟩ := hv
  have hx := B.exec
  have hb := B.bytes
  have hr := B.returns
  have hts := atoms_spec (ws := wsX0_isClosed) B.pre
  have hown : s.vm.findClass RX0 = some m.cls := findClass_of_methodNamed B.named
  have hlocks := B.notSynchronized
  have hin0 : ∀ w ∈ u_ws RX0 TX0 11, w ∈ wsX0_isClosed := by decide +kernel
  have hS : va_S (fun _ => False) s.heap s.heap [] := va_S.rf
  have hP : va_P D vwCl (W0 o cI co ro tw (nI no) (nI L.length) sm nx bf od st ow) s.heap := hP
  have hl := lv_entry ([.ref (o 0), .int y]) (n := 2) (Nat.le_of_ble_eq_true rfl)
  rw [lg_entry_eq]
  generalize (lg_sl ([.ref (o 0), .int y]) ++ List.replicate (2 - (lg_sl ([.ref (o 0), .int y])).length) Slot.unset).toArray = ls at hl ⊢
  have hl : lv_has ls 2 [(0, .ref (o 0)), (1, .int y)] := hl
  refine lv_aload_n hx hb dX0_isClosed_0 rfl (lv_at hl 0 rfl) ?_
  refine lv_iload_n hx hb dX0_isClosed_1 rfl (lv_at hl 1 rfl) ?_
  refine ro_V1 ⟨hx, hb, hml, hown, hts⟩ (c_X0_hasChain l D o cI co ro tw (nI no) (nI L.length) sm nx bf od st ow y) (cwV 1 hts gX0_isClosed_X0_hasChain rfl rfl rfl (by decide +kernel) ⟨Nat.le_of_ble_eq_true rfl, Nat.le_of_ble_eq_true rfl⟩) (va_recv hK hP (ci := 0) (q0 := 0) rfl rfl) hP hK hP hS rfl hl.1 (lv_room (Nat.le_of_ble_eq_true rfl)) dX0_isClosed_2 ⟨Nat.le_of_ble_eq_true rfl, Nat.le_of_ble_eq_true rfl⟩ (fun r2 H locs hr2 hP hS => ?_)
  subst hr2
  refine lv_if_eq (tgt := 20) hx hb dX0_isClosed_5 (by decide) (fun c5 => ?_) (fun c5 => ?_)
  · refine lv_iconst (v := 0) hx hb dX0_isClosed_20 (by decide) ?_
    exact W.zret (v := 0) (ty := .boolean) hx hb hr rfl (fun t ht hW => ⟨⟨_, (), rfl, bI_z (by unfold clL; rw [show okY L.length y = false from bI_0.mp c5]; rfl), trivial⟩, hS.F ht⟩) hS.2.2 dX0_isClosed_21
  · refine lv_iload_n hx hb dX0_isClosed_8 rfl (lv_at hl 1 rfl) ?_
    refine lv_aload_n hx hb dX0_isClosed_9 rfl (lv_at hl 0 rfl) ?_
    refine va_get (D := D) (ci := 0) (v := .int (nI no)) (C := RX0) (T := TX0) (N := 11) hx hb hts hin0 hown hK hP 0 rfl rfl 9 (by decide) (hts (.fieldLink RX0 38 "HeightLines" "openChains" "I") (by decide +kernel)) (fun _ h9 => h9) rfl dX0_isClosed_10 ?_
    refine lv_icmp_lt (tgt := 20) hx hb dX0_isClosed_13 (by decide) (fun c13 => ?_) (fun c13 => ?_)
    · refine lv_iconst (v := 0) hx hb dX0_isClosed_20 (by decide) ?_
      exact W.zret (v := 0) (ty := .boolean) hx hb hr rfl (fun t ht hW => ⟨⟨_, (), rfl, bI_z (by unfold clL; rw [decide_eq_false (Int32.not_le.mpr c13)]; simp), trivial⟩, hS.F ht⟩) hS.2.2 dX0_isClosed_21
    · refine lv_iconst (v := 1) hx hb dX0_isClosed_16 (by decide) ?_
      refine lv_goto (tgt := 21) hx hb dX0_isClosed_17 (by decide) ?_
      exact W.zret (v := 1) (ty := .boolean) hx hb hr rfl (fun t ht hW => ⟨⟨_, (), rfl, bI_1 (by unfold clL; rw [show okY L.length y = true from bI_n0.mp c5, decide_eq_true (Int32.not_lt.mp c13)]; rfl), trivial⟩, hS.F ht⟩) hS.2.2 dX0_isClosed_21

set_option maxHeartbeats 4000000 in
set_option maxRecDepth 100000 in
theorem c_X0_edge (l : Launch) (D : va_G) (o : Nat → Nat) (cI : ClassId) (co ro tw op : Int32) (sm nx bf od st ow : Nat → Int32) (L : List (List Nat)) (y : Int32) (i : Int32) (gL : L.length ≤ 132) (gst : ∀ i, i ≤ L.length → st i = nI (pfx L i)) (gU : L.flatten.length ≤ 264) (god : ∀ j, j < L.flatten.length → od j = nI (L.flatten.getD j 0)) : roMet l yX0_edge wsX0_edge ({ frames := 2, cells := 0, slots := 0, locals := 42 } : Room) D (W0 o cI co ro tw op (nI L.length) sm nx bf od st ow) [(cI, .int)] [.ref (o 0), .int y, .int i] (fun r => r = edL L y i) := by
  refine Met.ofW (cc := cX0_edge) (maxL := 3) (ret := (some .int)) (by decide) rfl ?_
  intro p e s m args below meth c s₁ B hml hv
  obtain ⟨rfl, hP, hK⟩ := hv
  have hx := B.exec
  have hb := B.bytes
  have hr := B.returns
  have hts := atoms_spec (ws := wsX0_edge) B.pre
  have hown : s.vm.findClass RX0 = some m.cls := findClass_of_methodNamed B.named
  have hlocks := B.notSynchronized
  have hin0 : ∀ w ∈ u_ws RX0 TX0 11, w ∈ wsX0_edge := by decide +kernel
  have hS : va_S (fun _ => False) s.heap s.heap [] := va_S.rf
  have hP : va_P D vwCl (W0 o cI co ro tw op (nI L.length) sm nx bf od st ow) s.heap := hP
  have hl := lv_entry ([.ref (o 0), .int y, .int i]) (n := 3) (Nat.le_of_ble_eq_true rfl)
  rw [lg_entry_eq]
  generalize (lg_sl ([.ref (o 0), .int y, .int i]) ++ List.replicate (3 - (lg_sl ([.ref (o 0), .int y, .int i])).length) Slot.unset).toArray = ls at hl ⊢
  have hl : lv_has ls 3 [(0, .ref (o 0)), (1, .int y), (2, .int i)] := hl
  refine lv_iload_n hx hb dX0_edge_0 rfl (lv_at hl 2 rfl) ?_
  refine lv_if_lt (tgt := 29) hx hb dX0_edge_1 (by decide) (fun c1 => ?_) (fun c1 => ?_)
  · refine lv_iconst (v := (-1)) hx hb dX0_edge_29 (by decide) ?_
    exact W.iret (v := (-1)) hx hb hr (fun t ht hW => ⟨⟨_, (), rfl, by rw [edL_z (Or.inr (by unfold okY; rw [decide_eq_false (Int32.not_le.mpr c1)]; rfl))], trivial⟩, hS.F ht⟩) hS.2.2 dX0_edge_30
  · refine lv_iload_n hx hb dX0_edge_4 rfl (lv_at hl 2 rfl) ?_
    refine lv_aload_n hx hb dX0_edge_5 rfl (lv_at hl 0 rfl) ?_
    refine lv_iload_n hx hb dX0_edge_6 rfl (lv_at hl 1 rfl) ?_
    refine ro_V1 ⟨hx, hb, hml, hown, hts⟩ (c_X0_size l D o cI co ro tw op sm nx bf od st ow L y gL gst) (cwV 1 hts gX0_edge_X0_size rfl rfl rfl (by decide +kernel) ⟨Nat.le_of_ble_eq_true rfl, Nat.le_of_ble_eq_true rfl⟩) (va_recv hK hP (ci := 0) (q0 := 0) rfl rfl) hP hK hP hS rfl hl.1 (lv_room (Nat.le_of_ble_eq_true rfl)) dX0_edge_7 ⟨Nat.le_of_ble_eq_true rfl, Nat.le_of_ble_eq_true rfl⟩ (fun r7 H locs hr7 hP hS => ?_)
    subst hr7
    refine lv_icmp_ge (tgt := 29) hx hb dX0_edge_10 (by decide) (fun c10 => ?_) (fun c10 => ?_)
    · refine lv_iconst (v := (-1)) hx hb dX0_edge_29 (by decide) ?_
      exact W.iret (v := (-1)) hx hb hr (fun t ht hW => ⟨⟨_, (), rfl, edL_c gL gU c1 c10, trivial⟩, hS.F ht⟩) hS.2.2 dX0_edge_30
    · obtain ⟨j, i0, hj9, hi9, ey, ei⟩ := edL_r gL gU c1 c10
      rw [ey, ei] at hl
      refine lv_aload_n hx hb dX0_edge_13 rfl (lv_at hl 0 rfl) ?_
      refine va_get (D := D) (ci := 0) (v := .ref (o 4)) (C := RX0) (T := TX0) (N := 11) hx hb hts hin0 hown hK hP 0 rfl rfl 6 (by decide) (hts (.fieldLink RX0 29 "HeightLines" "order" "[I") (by decide +kernel)) (fun _ h9 => h9) rfl dX0_edge_14 ?_
      refine lv_aload_n hx hb dX0_edge_17 rfl (lv_at hl 0 rfl) ?_
      refine va_get (D := D) (ci := 0) (v := .ref (o 5)) (C := RX0) (T := TX0) (N := 11) hx hb hts hin0 hown hK hP 0 rfl rfl 7 (by decide) (hts (.fieldLink RX0 32 "HeightLines" "starts" "[I") (by decide +kernel)) (fun _ h9 => h9) rfl dX0_edge_18 ?_
      refine lv_iload_n hx hb dX0_edge_21 rfl (lv_at hl 1 rfl) ?_
      refine an_iald (D := D) hx hb hK hP 5 0 rfl rfl (k := j) (by omega) (by decide) dX0_edge_22 ?_
      rw [show (st j) = nI (pfx L j) from gst j (by omega)]
      refine lv_iload_n hx hb dX0_edge_23 rfl (lv_at hl 2 rfl) ?_
      refine lv_iadd hx hb dX0_edge_24 ?_
      rw [show (nI (pfx L j) + nI i0) = nI (pfx L j + i0) from nI_add _ _]
      refine an_iald (D := D) hx hb hK hP 4 0 rfl rfl (k := pfx L j + i0) (by have := pfx_s hj9; have := pfx_le (L := L) (i := j + 1) (by omega); omega) (by decide) dX0_edge_25 ?_
      refine lv_goto (tgt := 30) hx hb dX0_edge_26 (by decide) ?_
      exact W.iret (v := (od (pfx L j + i0))) hx hb hr (fun t ht hW => ⟨⟨_, (), rfl, by rw [ey, ei, edL_n hj9 hi9 (by omega) (by have := pfx_le (L := L) (i := j + 1) (by omega); omega), god _ (by have := pfx_s hj9; have := pfx_le (L := L) (i := j + 1) (by omega); omega)], trivial⟩, hS.F ht⟩) hS.2.2 dX0_edge_30
