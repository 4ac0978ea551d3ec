set_option maxHeartbeats 4000000 in
set_option maxRecDepth 100000 in
theorem c_X0_forgetChains (l : Launch) (D : va_G) (o : Nat → Nat) (cI : ClassId) (co ro tw op ch : Int32) (sm nx bf od st ow : Nat → Int32) : wvMet l yX0_forgetChains wsX0_forgetChains ({ frames := 1, cells := 0, slots := 0, locals := 23 } : Room) D (W0 o cI co ro tw op ch sm nx bf od st ow) (W0 o cI co ro tw 0 0 sm nx bf od st (filF 264 (-1) ow)) [(cI, .int)] [.ref (o 0)] := by
  refine Met.ofW (cc := cX0_forgetChains) (maxL := 1) (ret := none) (by decide) rfl ?_
  intro p e s m args below meth c s₁ B hml hv
  obtain ⟨rfl, hP, hK, hD0⟩ := hv
  have hx := B.exec
  have hb := B.bytes
  have hr := B.returns
  have hts := atoms_spec (ws := wsX0_forgetChains) B.pre
  have hown : s.vm.findClass RX0 = some m.cls := findClass_of_methodNamed B.named
  have hlocks := B.notSynchronized
  have hin0 : ∀ w ∈ u_ws RX0 TX0 11, w ∈ wsX0_forgetChains := by decide +kernel
  have hD := wA_D hD0
  have hS : va_S (wA (W0 o cI co ro tw op ch sm nx bf od st ow)) s.heap s.heap [] := va_S.rf
  have hP : va_P D vwCl (W0 o cI co ro tw op ch sm nx bf od st ow) s.heap := hP
  have hl := lv_entry ([.ref (o 0)]) (n := 1) (Nat.le_of_ble_eq_true rfl)
  rw [lg_entry_eq]
  generalize (lg_sl ([.ref (o 0)]) ++ List.replicate (1 - (lg_sl ([.ref (o 0)])).length) Slot.unset).toArray = ls at hl ⊢
  have hl : lv_has ls 1 [(0, .ref (o 0))] := hl
  refine lv_aload_n hx hb dX0_forgetChains_0 rfl (lv_at hl 0 rfl) ?_
  refine lv_iconst (v := 0) hx hb dX0_forgetChains_1 (by decide) ?_
  refine va_put (D := D) (ci := 0) (v := .int 0) (ty := .int) (C := RX0) (T := TX0) (N := 11) hx hb hts hin0 tyX0 tyX0_ok nmX0 hown hK hP hD hS 0 rfl rfl 10 (by decide) (hts (.fieldLink RX0 41 "HeightLines" "chains" "I") (by decide +kernel)) (fun _ h9 => h9) rfl (by decide +kernel) rfl rfl (Nat.le_of_ble_eq_true rfl) dX0_forgetChains_2 (fun H locs hP hD hS => ?_)
  have hP : va_P D vwCl (W0 o cI co ro tw op 0 sm nx bf od st ow) H := hP
  have hD : va_D (wA (W0 o cI co ro tw op ch sm nx bf od st ow)) (W0 o cI co ro tw op 0 sm nx bf od st ow) := hD
  refine lv_aload_n hx hb dX0_forgetChains_5 rfl (lv_at hl 0 rfl) ?_
  refine lv_iconst (v := 0) hx hb dX0_forgetChains_6 (by decide) ?_
  refine va_put (D := D) (ci := 0) (v := .int 0) (ty := .int) (C := RX0) (T := TX0) (N := 11) hx hb hts hin0 tyX0 tyX0_ok nmX0 hown hK hP hD hS 0 rfl rfl 9 (by decide) (hts (.fieldLink RX0 38 "HeightLines" "openChains" "I") (by decide +kernel)) (fun _ h9 => h9) rfl (by decide +kernel) rfl rfl (Nat.le_of_ble_eq_true rfl) dX0_forgetChains_7 (fun H locs hP hD hS => ?_)
  have hP : va_P D vwCl (W0 o cI co ro tw 0 0 sm nx bf od st ow) H := hP
  have hD : va_D (wA (W0 o cI co ro tw op ch sm nx bf od st ow)) (W0 o cI co ro tw 0 0 sm nx bf od st ow) := hD
  refine lv_aload_n hx hb dX0_forgetChains_10 rfl (lv_at hl 0 rfl) ?_
  refine va_get (D := D) (ci := 0) (v := .ref (o 6)) (C := RX0) (T := TX0) (N := 11) hx hb hts hin0 hown hK hP 0 rfl rfl 8 (by decide) (hts (.fieldLink RX0 35 "HeightLines" "owner" "[I") (by decide +kernel)) (fun _ h9 => h9) rfl dX0_forgetChains_11 ?_
  refine lv_iconst (v := (-1)) hx hb dX0_forgetChains_14 (by decide) ?_
  have hPf := hP.sub (ws' := [(o 6, .inl (cI, 264, .inl ow))]) [6] rfl
  have hDf := hD.sub (ws' := [(o 6, .inl (cI, 264, .inl ow))]) [6] (by decide) rfl
  refine wv_S (wr := (W0 o cI co ro tw 0 0 sm nx bf od st ow).eraseIdx 6) (As := [.ref (o 6), .int (-1)]) (rest := []) ⟨hx, hb, hml, hown, hts⟩ (c_fill l D cI (o 6) 264 ow (-1) (by decide)) (va_cwS 2 hts gX0_forgetChains_J7_fill_53178 rfl rfl rfl (by decide +kernel) ⟨Nat.le_of_ble_eq_true rfl, Nat.le_of_ble_eq_true rfl⟩) hPf hDf hK hP hD hS [6] [0, 1, 2, 3, 4, 5] rfl rfl rfl (by decide) rfl hl.1 rfl (lv_room (Nat.le_of_ble_eq_true rfl)) dX0_forgetChains_15 ⟨Nat.le_of_ble_eq_true rfl, Nat.le_of_ble_eq_true rfl⟩ (fun H locs hP hD hS => ?_)
  have hP : va_P D vwCl (W0 o cI co ro tw 0 0 sm nx bf od st (filF 264 (-1) ow)) H := hP.sub [0, 1, 2, 3, 4, 5, 6] rfl
  have hD : va_D (wA (W0 o cI co ro tw op ch sm nx bf od st ow)) (W0 o cI co ro tw 0 0 sm nx bf od st (filF 264 (-1) ow)) := hD.sub [0, 1, 2, 3, 4, 5, 6] (by decide) rfl
  exact W.vret hx hb hr (fun t ht hW => ⟨⟨(), rfl, trivial, by rw [ht]; exact hP, va_K.moved hW.alike hK, hD⟩, hS.F ht⟩) hS.2.2 dX0_forgetChains_18

