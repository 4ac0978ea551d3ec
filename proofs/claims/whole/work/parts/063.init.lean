/-- an array as it is made -/
abbrev zF : Nat → Int32 := fun _ => 0

set_option maxHeartbeats 400000 in
set_option maxRecDepth 100000 in
theorem c_X0_init (l : Launch) (D : va_G) (h0 sz : Nat) : Met l yX0_init wsX0_init ({ frames := 1, cells := 6, slots := 1333, locals := 12 } : Room) (va_Pc [.ref h0] (fun U => U.heap.size = sz ∧ va_P D vwCl [(h0, .inr (0, [.int 0, .int 0, .int 0, .null, .null, .null, .null, .null, .null, .int 0, .int 0]))] U.heap ∧ va_K D vwCl [] U ∧ va_D (fun _ => True) [(h0, .inr (0, [.int 0, .int 0, .int 0, .null, .null, .null, .null, .null, .null, .int 0, .int 0]))])) (va_Qv (fun _ : Unit => True) (fun _ t => ∃ (o : Nat → Nat) (cI : ClassId), o 0 = h0 ∧ va_P D vwCl (W0 o cI 2 2 1 0 0 zF zF zF zF zF zF) t.heap ∧ va_K D vwCl [(cI, .int)] t ∧ va_D (va_A [(h0, .inr (0, [.int 0, .int 0, .int 0, .null, .null, .null, .null, .null, .null, .int 0, .int 0]))] sz) (W0 o cI 2 2 1 0 0 zF zF zF zF zF zF)) (va_A [(h0, .inr (0, [.int 0, .int 0, .int 0, .null, .null, .null, .null, .null, .null, .int 0, .int 0]))] sz)) 6 1333 (va_A [(h0, .inr (0, [.int 0, .int 0, .int 0, .null, .null, .null, .null, .null, .null, .int 0, .int 0]))] sz) := by
  refine Met.ofW (cc := cX0_init) (maxL := 1) (ret := none) (by decide) rfl ?_
  intro p e s m args below meth c s₁ B hml hv
  obtain ⟨rfl, hsz, hP, hK, hD0⟩ := hv
  have hx := B.exec
  have hb := B.bytes
  have hr := B.returns
  have hts := atoms_spec (ws := wsX0_init) B.pre
  have hown : s.vm.findClass RX0 = some m.cls := findClass_of_methodNamed B.named
  have hlocks := B.notSynchronized
  have hin : meth.name = "<init>" := (name_of_methodNamed B.named B.method).1
  have hin0 : ∀ w ∈ u_ws RX0 TX0 11, w ∈ wsX0_init := by decide +kernel
  subst hsz
  have hD := hD0.self (sz := s.heap.size)
  generalize hAe : va_A [(h0, .inr (0, [.int 0, .int 0, .int 0, .null, .null, .null, .null, .null, .null, .int 0, .int 0]))] s.heap.size = A at hD ⊢
  have hA : ∀ q : Nat, s.heap.size ≤ q → A q := fun q h => by rw [← hAe]; exact Or.inr h
  have hS : va_S A s.heap s.heap [] := va_S.rf
  have hl := lv_entry ([.ref h0]) (n := 1) (Nat.le_of_ble_eq_true rfl)
  rw [lg_entry_eq]
  generalize (lg_sl ([.ref h0]) ++ List.replicate (1 - (lg_sl ([.ref h0])).length) Slot.unset).toArray = ls at hl ⊢
  have hl : lv_has ls 1 [(0, .ref h0)] := hl
  refine lv_aload_n hx hb dX0_init_0 rfl (lv_at hl 0 rfl) ?_
  refine W.objInit hx hb hown (hts (.methodLink RX0 3 objectInit) (by decide +kernel)) (hts (.instanceMethod objectInit) (by decide +kernel)) (hts _ (List.mem_cons_of_mem _ (List.mem_append_left _ (List.mem_of_getElem? (i := 2) rfl)))) rfl (by rw [hml]; exact hl.1) rfl dX0_init_1 (Nat.le_of_ble_eq_true rfl) (Nat.le_of_ble_eq_true rfl) ?_
  refine W.eq (g2 := F0 m 4 ls []) rfl ?_
  refine lv_aload_n hx hb dX0_init_4 rfl (lv_at hl 0 rfl) ?_
  refine lv_iconst (v := 2) hx hb dX0_init_5 (by decide) ?_
  refine va_put (D := D) (ci := 0) (v := .int 2) (ty := .int) (C := RX0) (T := TX0) (N := 11) hx hb hts hin0 tyX0 tyX0_ok nmX0 hown hK hP hD hS 0 rfl rfl 0 (by decide) (hts (.fieldLink RX0 9 "HeightLines" "columns" "I") (by decide +kernel)) (fun _ h9 => h9) rfl (by decide +kernel) rfl rfl (Nat.le_of_ble_eq_true rfl) dX0_init_6 (fun H locs hP hD hS => ?_)
  have hP : va_P D vwCl [(h0, .inr (0, [.int 2, .int 0, .int 0, .null, .null, .null, .null, .null, .null, .int 0, .int 0]))] H := hP
  have hD : va_D A [(h0, .inr (0, [.int 2, .int 0, .int 0, .null, .null, .null, .null, .null, .null, .int 0, .int 0]))] := hD
  refine lv_aload_n hx hb dX0_init_9 rfl (lv_at hl 0 rfl) ?_
  refine lv_iconst (v := 2) hx hb dX0_init_10 (by decide) ?_
  refine va_put (D := D) (ci := 0) (v := .int 2) (ty := .int) (C := RX0) (T := TX0) (N := 11) hx hb hts hin0 tyX0 tyX0_ok nmX0 hown hK hP hD hS 0 rfl rfl 1 (by decide) (hts (.fieldLink RX0 13 "HeightLines" "rows" "I") (by decide +kernel)) (fun _ h9 => h9) rfl (by decide +kernel) rfl rfl (Nat.le_of_ble_eq_true rfl) dX0_init_11 (fun H locs hP hD hS => ?_)
  have hP : va_P D vwCl [(h0, .inr (0, [.int 2, .int 2, .int 0, .null, .null, .null, .null, .null, .null, .int 0, .int 0]))] H := hP
  have hD : va_D A [(h0, .inr (0, [.int 2, .int 2, .int 0, .null, .null, .null, .null, .null, .null, .int 0, .int 0]))] := hD
  refine lv_aload_n hx hb dX0_init_14 rfl (lv_at hl 0 rfl) ?_
  refine lv_iconst (v := 1) hx hb dX0_init_15 (by decide) ?_
  refine va_put (D := D) (ci := 0) (v := .int 1) (ty := .int) (C := RX0) (T := TX0) (N := 11) hx hb hts hin0 tyX0 tyX0_ok nmX0 hown hK hP hD hS 0 rfl rfl 2 (by decide) (hts (.fieldLink RX0 16 "HeightLines" "twiceHeight" "I") (by decide +kernel)) (fun _ h9 => h9) rfl (by decide +kernel) rfl rfl (Nat.le_of_ble_eq_true rfl) dX0_init_16 (fun H locs hP hD hS => ?_)
  have hP : va_P D vwCl [(h0, .inr (0, [.int 2, .int 2, .int 1, .null, .null, .null, .null, .null, .null, .int 0, .int 0]))] H := hP
  have hD : va_D A [(h0, .inr (0, [.int 2, .int 2, .int 1, .null, .null, .null, .null, .null, .null, .int 0, .int 0]))] := hD
  refine lv_aload_n hx hb dX0_init_19 rfl (lv_at hl 0 rfl) ?_
  refine lv_sipush (v := 144) hx hb dX0_init_20 (by decide) ?_
  refine va_newa (D := D) (atype := .int) (ty := .int) (N' := 144) (a0 := (144, .inl (fun _ => 0))) hx hb (hts (.arrayClass .int) (by decide +kernel)) rfl hK hP hD hS hA (fun _ => rfl) (by decide) (nI_clamp (n := 144) (by decide)) (by show 144 * 4 ≤ 536870912; omega) (by show (0 : Nat) + 1 ≤ 6; omega) (by show (0 : Nat) + 144 ≤ 1333; omega) dX0_init_23 (fun q1 cA1 H hK hP hD hS => ?_)
  have hP : va_P D vwCl [(h0, .inr (0, [.int 2, .int 2, .int 1, .null, .null, .null, .null, .null, .null, .int 0, .int 0])), (q1, .inl (cA1, 144, .inl (fun _ => 0)))] H := hP
  have hD : va_D A [(h0, .inr (0, [.int 2, .int 2, .int 1, .null, .null, .null, .null, .null, .null, .int 0, .int 0])), (q1, .inl (cA1, 144, .inl (fun _ => 0)))] := hD
  refine W.widen (k := 1) (n := 144) (by omega) (by omega) ?_
  refine va_putF (D := D) (ci := 0) (v := .ref q1) (ty := .array .int) (C := RX0) (T := TX0) (N := 11) hx hb hts hin0 tyX0 tyX0_ok nmX0 hown hK hP hD hS 0 rfl rfl 3 (by decide) (hts (.fieldLink RX0 19 "HeightLines" "samples" "[I") (by decide +kernel)) (fun _ h9 => h9) rfl hin rfl (by decide +kernel) rfl rfl (Nat.le_of_ble_eq_true rfl) dX0_init_25 (fun H locs hP hD hS => ?_)
  have hP : va_P D vwCl [(h0, .inr (0, [.int 2, .int 2, .int 1, .ref q1, .null, .null, .null, .null, .null, .int 0, .int 0])), (q1, .inl (cA1, 144, .inl (fun _ => 0)))] H := hP
  have hD : va_D A [(h0, .inr (0, [.int 2, .int 2, .int 1, .ref q1, .null, .null, .null, .null, .null, .int 0, .int 0])), (q1, .inl (cA1, 144, .inl (fun _ => 0)))] := hD
  refine lv_aload_n hx hb dX0_init_28 rfl (lv_at hl 0 rfl) ?_
  refine lv_sipush (v := 264) hx hb dX0_init_29 (by decide) ?_
  refine va_newa (D := D) (atype := .int) (ty := .int) (N' := 264) (a0 := (264, .inl (fun _ => 0))) hx hb (hts (.arrayClass .int) (by decide +kernel)) rfl hK hP hD hS hA (fun _ => rfl) (by decide) (nI_clamp (n := 264) (by decide)) (by show 264 * 4 ≤ 536870912; omega) (by show (1 : Nat) + 1 ≤ 6; omega) (by show (144 : Nat) + 264 ≤ 1333; omega) dX0_init_32 (fun q2 cA2 H hK hP hD hS => ?_)
  have ec : cA1 = cA2 := Option.some.inj ((va_nm_int (hK.2 0 _ rfl).2).symm.trans (va_nm_int (hK.2 1 _ rfl).2))
  subst ec
  have hK : va_K D vwCl [(cA1, .int)] s := hK.sub [0] rfl
  have hP : va_P D vwCl [(h0, .inr (0, [.int 2, .int 2, .int 1, .ref q1, .null, .null, .null, .null, .null, .int 0, .int 0])), (q1, .inl (cA1, 144, .inl (fun _ => 0))), (q2, .inl (cA1, 264, .inl (fun _ => 0)))] H := hP
  have hD : va_D A [(h0, .inr (0, [.int 2, .int 2, .int 1, .ref q1, .null, .null, .null, .null, .null, .int 0, .int 0])), (q1, .inl (cA1, 144, .inl (fun _ => 0))), (q2, .inl (cA1, 264, .inl (fun _ => 0)))] := hD
  refine W.widen (k := 2) (n := 408) (by omega) (by omega) ?_
  refine va_putF (D := D) (ci := 0) (v := .ref q2) (ty := .array .int) (C := RX0) (T := TX0) (N := 11) hx hb hts hin0 tyX0 tyX0_ok nmX0 hown hK hP hD hS 0 rfl rfl 4 (by decide) (hts (.fieldLink RX0 23 "HeightLines" "next" "[I") (by decide +kernel)) (fun _ h9 => h9) rfl hin rfl (by decide +kernel) rfl rfl (Nat.le_of_ble_eq_true rfl) dX0_init_34 (fun H locs hP hD hS => ?_)
  have hP : va_P D vwCl [(h0, .inr (0, [.int 2, .int 2, .int 1, .ref q1, .ref q2, .null, .null, .null, .null, .int 0, .int 0])), (q1, .inl (cA1, 144, .inl (fun _ => 0))), (q2, .inl (cA1, 264, .inl (fun _ => 0)))] H := hP
  have hD : va_D A [(h0, .inr (0, [.int 2, .int 2, .int 1, .ref q1, .ref q2, .null, .null, .null, .null, .int 0, .int 0])), (q1, .inl (cA1, 144, .inl (fun _ => 0))), (q2, .inl (cA1, 264, .inl (fun _ => 0)))] := hD
  refine lv_aload_n hx hb dX0_init_37 rfl (lv_at hl 0 rfl) ?_
  refine lv_sipush (v := 264) hx hb dX0_init_38 (by decide) ?_
  refine va_newa (D := D) (atype := .int) (ty := .int) (N' := 264) (a0 := (264, .inl (fun _ => 0))) hx hb (hts (.arrayClass .int) (by decide +kernel)) rfl hK hP hD hS hA (fun _ => rfl) (by decide) (nI_clamp (n := 264) (by decide)) (by show 264 * 4 ≤ 536870912; omega) (by show (2 : Nat) + 1 ≤ 6; omega) (by show (408 : Nat) + 264 ≤ 1333; omega) dX0_init_41 (fun q3 cA3 H hK hP hD hS => ?_)
  have ec : cA1 = cA3 := Option.some.inj ((va_nm_int (hK.2 0 _ rfl).2).symm.trans (va_nm_int (hK.2 1 _ rfl).2))
  subst ec
  have hK : va_K D vwCl [(cA1, .int)] s := hK.sub [0] rfl
  have hP : va_P D vwCl [(h0, .inr (0, [.int 2, .int 2, .int 1, .ref q1, .ref q2, .null, .null, .null, .null, .int 0, .int 0])), (q1, .inl (cA1, 144, .inl (fun _ => 0))), (q2, .inl (cA1, 264, .inl (fun _ => 0))), (q3, .inl (cA1, 264, .inl (fun _ => 0)))] H := hP
  have hD : va_D A [(h0, .inr (0, [.int 2, .int 2, .int 1, .ref q1, .ref q2, .null, .null, .null, .null, .int 0, .int 0])), (q1, .inl (cA1, 144, .inl (fun _ => 0))), (q2, .inl (cA1, 264, .inl (fun _ => 0))), (q3, .inl (cA1, 264, .inl (fun _ => 0)))] := hD
  refine W.widen (k := 3) (n := 672) (by omega) (by omega) ?_
  refine va_putF (D := D) (ci := 0) (v := .ref q3) (ty := .array .int) (C := RX0) (T := TX0) (N := 11) hx hb hts hin0 tyX0 tyX0_ok nmX0 hown hK hP hD hS 0 rfl rfl 5 (by decide) (hts (.fieldLink RX0 26 "HeightLines" "before" "[I") (by decide +kernel)) (fun _ h9 => h9) rfl hin rfl (by decide +kernel) rfl rfl (Nat.le_of_ble_eq_true rfl) dX0_init_43 (fun H locs hP hD hS => ?_)
  have hP : va_P D vwCl [(h0, .inr (0, [.int 2, .int 2, .int 1, .ref q1, .ref q2, .ref q3, .null, .null, .null, .int 0, .int 0])), (q1, .inl (cA1, 144, .inl (fun _ => 0))), (q2, .inl (cA1, 264, .inl (fun _ => 0))), (q3, .inl (cA1, 264, .inl (fun _ => 0)))] H := hP
  have hD : va_D A [(h0, .inr (0, [.int 2, .int 2, .int 1, .ref q1, .ref q2, .ref q3, .null, .null, .null, .int 0, .int 0])), (q1, .inl (cA1, 144, .inl (fun _ => 0))), (q2, .inl (cA1, 264, .inl (fun _ => 0))), (q3, .inl (cA1, 264, .inl (fun _ => 0)))] := hD
  refine lv_aload_n hx hb dX0_init_46 rfl (lv_at hl 0 rfl) ?_
  refine lv_sipush (v := 264) hx hb dX0_init_47 (by decide) ?_
  refine va_newa (D := D) (atype := .int) (ty := .int) (N' := 264) (a0 := (264, .inl (fun _ => 0))) hx hb (hts (.arrayClass .int) (by decide +kernel)) rfl hK hP hD hS hA (fun _ => rfl) (by decide) (nI_clamp (n := 264) (by decide)) (by show 264 * 4 ≤ 536870912; omega) (by show (3 : Nat) + 1 ≤ 6; omega) (by show (672 : Nat) + 264 ≤ 1333; omega) dX0_init_50 (fun q4 cA4 H hK hP hD hS => ?_)
  have ec : cA1 = cA4 := Option.some.inj ((va_nm_int (hK.2 0 _ rfl).2).symm.trans (va_nm_int (hK.2 1 _ rfl).2))
  subst ec
  have hK : va_K D vwCl [(cA1, .int)] s := hK.sub [0] rfl
  have hP : va_P D vwCl [(h0, .inr (0, [.int 2, .int 2, .int 1, .ref q1, .ref q2, .ref q3, .null, .null, .null, .int 0, .int 0])), (q1, .inl (cA1, 144, .inl (fun _ => 0))), (q2, .inl (cA1, 264, .inl (fun _ => 0))), (q3, .inl (cA1, 264, .inl (fun _ => 0))), (q4, .inl (cA1, 264, .inl (fun _ => 0)))] H := hP
  have hD : va_D A [(h0, .inr (0, [.int 2, .int 2, .int 1, .ref q1, .ref q2, .ref q3, .null, .null, .null, .int 0, .int 0])), (q1, .inl (cA1, 144, .inl (fun _ => 0))), (q2, .inl (cA1, 264, .inl (fun _ => 0))), (q3, .inl (cA1, 264, .inl (fun _ => 0))), (q4, .inl (cA1, 264, .inl (fun _ => 0)))] := hD
  refine W.widen (k := 4) (n := 936) (by omega) (by omega) ?_
  refine va_putF (D := D) (ci := 0) (v := .ref q4) (ty := .array .int) (C := RX0) (T := TX0) (N := 11) hx hb hts hin0 tyX0 tyX0_ok nmX0 hown hK hP hD hS 0 rfl rfl 6 (by decide) (hts (.fieldLink RX0 29 "HeightLines" "order" "[I") (by decide +kernel)) (fun _ h9 => h9) rfl hin rfl (by decide +kernel) rfl rfl (Nat.le_of_ble_eq_true rfl) dX0_init_52 (fun H locs hP hD hS => ?_)
  have hP : va_P D vwCl [(h0, .inr (0, [.int 2, .int 2, .int 1, .ref q1, .ref q2, .ref q3, .ref q4, .null, .null, .int 0, .int 0])), (q1, .inl (cA1, 144, .inl (fun _ => 0))), (q2, .inl (cA1, 264, .inl (fun _ => 0))), (q3, .inl (cA1, 264, .inl (fun _ => 0))), (q4, .inl (cA1, 264, .inl (fun _ => 0)))] H := hP
  have hD : va_D A [(h0, .inr (0, [.int 2, .int 2, .int 1, .ref q1, .ref q2, .ref q3, .ref q4, .null, .null, .int 0, .int 0])), (q1, .inl (cA1, 144, .inl (fun _ => 0))), (q2, .inl (cA1, 264, .inl (fun _ => 0))), (q3, .inl (cA1, 264, .inl (fun _ => 0))), (q4, .inl (cA1, 264, .inl (fun _ => 0)))] := hD
  refine lv_aload_n hx hb dX0_init_55 rfl (lv_at hl 0 rfl) ?_
  refine lv_sipush (v := 133) hx hb dX0_init_56 (by decide) ?_
  refine va_newa (D := D) (atype := .int) (ty := .int) (N' := 133) (a0 := (133, .inl (fun _ => 0))) hx hb (hts (.arrayClass .int) (by decide +kernel)) rfl hK hP hD hS hA (fun _ => rfl) (by decide) (nI_clamp (n := 133) (by decide)) (by show 133 * 4 ≤ 536870912; omega) (by show (4 : Nat) + 1 ≤ 6; omega) (by show (936 : Nat) + 133 ≤ 1333; omega) dX0_init_59 (fun q5 cA5 H hK hP hD hS => ?_)
  have ec : cA1 = cA5 := Option.some.inj ((va_nm_int (hK.2 0 _ rfl).2).symm.trans (va_nm_int (hK.2 1 _ rfl).2))
  subst ec
  have hK : va_K D vwCl [(cA1, .int)] s := hK.sub [0] rfl
  have hP : va_P D vwCl [(h0, .inr (0, [.int 2, .int 2, .int 1, .ref q1, .ref q2, .ref q3, .ref q4, .null, .null, .int 0, .int 0])), (q1, .inl (cA1, 144, .inl (fun _ => 0))), (q2, .inl (cA1, 264, .inl (fun _ => 0))), (q3, .inl (cA1, 264, .inl (fun _ => 0))), (q4, .inl (cA1, 264, .inl (fun _ => 0))), (q5, .inl (cA1, 133, .inl (fun _ => 0)))] H := hP
  have hD : va_D A [(h0, .inr (0, [.int 2, .int 2, .int 1, .ref q1, .ref q2, .ref q3, .ref q4, .null, .null, .int 0, .int 0])), (q1, .inl (cA1, 144, .inl (fun _ => 0))), (q2, .inl (cA1, 264, .inl (fun _ => 0))), (q3, .inl (cA1, 264, .inl (fun _ => 0))), (q4, .inl (cA1, 264, .inl (fun _ => 0))), (q5, .inl (cA1, 133, .inl (fun _ => 0)))] := hD
  refine W.widen (k := 5) (n := 1069) (by omega) (by omega) ?_
  refine va_putF (D := D) (ci := 0) (v := .ref q5) (ty := .array .int) (C := RX0) (T := TX0) (N := 11) hx hb hts hin0 tyX0 tyX0_ok nmX0 hown hK hP hD hS 0 rfl rfl 7 (by decide) (hts (.fieldLink RX0 32 "HeightLines" "starts" "[I") (by decide +kernel)) (fun _ h9 => h9) rfl hin rfl (by decide +kernel) rfl rfl (Nat.le_of_ble_eq_true rfl) dX0_init_61 (fun H locs hP hD hS => ?_)
  have hP : va_P D vwCl [(h0, .inr (0, [.int 2, .int 2, .int 1, .ref q1, .ref q2, .ref q3, .ref q4, .ref q5, .null, .int 0, .int 0])), (q1, .inl (cA1, 144, .inl (fun _ => 0))), (q2, .inl (cA1, 264, .inl (fun _ => 0))), (q3, .inl (cA1, 264, .inl (fun _ => 0))), (q4, .inl (cA1, 264, .inl (fun _ => 0))), (q5, .inl (cA1, 133, .inl (fun _ => 0)))] H := hP
  have hD : va_D A [(h0, .inr (0, [.int 2, .int 2, .int 1, .ref q1, .ref q2, .ref q3, .ref q4, .ref q5, .null, .int 0, .int 0])), (q1, .inl (cA1, 144, .inl (fun _ => 0))), (q2, .inl (cA1, 264, .inl (fun _ => 0))), (q3, .inl (cA1, 264, .inl (fun _ => 0))), (q4, .inl (cA1, 264, .inl (fun _ => 0))), (q5, .inl (cA1, 133, .inl (fun _ => 0)))] := hD
  refine lv_aload_n hx hb dX0_init_64 rfl (lv_at hl 0 rfl) ?_
  refine lv_sipush (v := 264) hx hb dX0_init_65 (by decide) ?_
  refine va_newa (D := D) (atype := .int) (ty := .int) (N' := 264) (a0 := (264, .inl (fun _ => 0))) hx hb (hts (.arrayClass .int) (by decide +kernel)) rfl hK hP hD hS hA (fun _ => rfl) (by decide) (nI_clamp (n := 264) (by decide)) (by show 264 * 4 ≤ 536870912; omega) (by show (5 : Nat) + 1 ≤ 6; omega) (by show (1069 : Nat) + 264 ≤ 1333; omega) dX0_init_68 (fun q6 cA6 H hK hP hD hS => ?_)
  have ec : cA1 = cA6 := Option.some.inj ((va_nm_int (hK.2 0 _ rfl).2).symm.trans (va_nm_int (hK.2 1 _ rfl).2))
  subst ec
  have hK : va_K D vwCl [(cA1, .int)] s := hK.sub [0] rfl
  have hP : va_P D vwCl [(h0, .inr (0, [.int 2, .int 2, .int 1, .ref q1, .ref q2, .ref q3, .ref q4, .ref q5, .null, .int 0, .int 0])), (q1, .inl (cA1, 144, .inl (fun _ => 0))), (q2, .inl (cA1, 264, .inl (fun _ => 0))), (q3, .inl (cA1, 264, .inl (fun _ => 0))), (q4, .inl (cA1, 264, .inl (fun _ => 0))), (q5, .inl (cA1, 133, .inl (fun _ => 0))), (q6, .inl (cA1, 264, .inl (fun _ => 0)))] H := hP
  have hD : va_D A [(h0, .inr (0, [.int 2, .int 2, .int 1, .ref q1, .ref q2, .ref q3, .ref q4, .ref q5, .null, .int 0, .int 0])), (q1, .inl (cA1, 144, .inl (fun _ => 0))), (q2, .inl (cA1, 264, .inl (fun _ => 0))), (q3, .inl (cA1, 264, .inl (fun _ => 0))), (q4, .inl (cA1, 264, .inl (fun _ => 0))), (q5, .inl (cA1, 133, .inl (fun _ => 0))), (q6, .inl (cA1, 264, .inl (fun _ => 0)))] := hD
  refine W.widen (k := 6) (n := 1333) (by omega) (by omega) ?_
  refine va_putF (D := D) (ci := 0) (v := .ref q6) (ty := .array .int) (C := RX0) (T := TX0) (N := 11) hx hb hts hin0 tyX0 tyX0_ok nmX0 hown hK hP hD hS 0 rfl rfl 8 (by decide) (hts (.fieldLink RX0 35 "HeightLines" "owner" "[I") (by decide +kernel)) (fun _ h9 => h9) rfl hin rfl (by decide +kernel) rfl rfl (Nat.le_of_ble_eq_true rfl) dX0_init_70 (fun H locs hP hD hS => ?_)
  have hP : va_P D vwCl [(h0, .inr (0, [.int 2, .int 2, .int 1, .ref q1, .ref q2, .ref q3, .ref q4, .ref q5, .ref q6, .int 0, .int 0])), (q1, .inl (cA1, 144, .inl (fun _ => 0))), (q2, .inl (cA1, 264, .inl (fun _ => 0))), (q3, .inl (cA1, 264, .inl (fun _ => 0))), (q4, .inl (cA1, 264, .inl (fun _ => 0))), (q5, .inl (cA1, 133, .inl (fun _ => 0))), (q6, .inl (cA1, 264, .inl (fun _ => 0)))] H := hP
  have hD : va_D A [(h0, .inr (0, [.int 2, .int 2, .int 1, .ref q1, .ref q2, .ref q3, .ref q4, .ref q5, .ref q6, .int 0, .int 0])), (q1, .inl (cA1, 144, .inl (fun _ => 0))), (q2, .inl (cA1, 264, .inl (fun _ => 0))), (q3, .inl (cA1, 264, .inl (fun _ => 0))), (q4, .inl (cA1, 264, .inl (fun _ => 0))), (q5, .inl (cA1, 133, .inl (fun _ => 0))), (q6, .inl (cA1, 264, .inl (fun _ => 0)))] := hD
  refine lv_aload_n hx hb dX0_init_73 rfl (lv_at hl 0 rfl) ?_
  refine lv_iconst (v := 0) hx hb dX0_init_74 (by decide) ?_
  refine va_put (D := D) (ci := 0) (v := .int 0) (ty := .int) (C := RX0) (T := TX0) (N := 11) hx hb hts hin0 tyX0 tyX0_ok nmX0 hown hK hP hD hS 0 rfl rfl 9 (by decide) (hts (.fieldLink RX0 38 "HeightLines" "openChains" "I") (by decide +kernel)) (fun _ h9 => h9) rfl (by decide +kernel) rfl rfl (Nat.le_of_ble_eq_true rfl) dX0_init_75 (fun H locs hP hD hS => ?_)
  have hP : va_P D vwCl [(h0, .inr (0, [.int 2, .int 2, .int 1, .ref q1, .ref q2, .ref q3, .ref q4, .ref q5, .ref q6, .int 0, .int 0])), (q1, .inl (cA1, 144, .inl (fun _ => 0))), (q2, .inl (cA1, 264, .inl (fun _ => 0))), (q3, .inl (cA1, 264, .inl (fun _ => 0))), (q4, .inl (cA1, 264, .inl (fun _ => 0))), (q5, .inl (cA1, 133, .inl (fun _ => 0))), (q6, .inl (cA1, 264, .inl (fun _ => 0)))] H := hP
  have hD : va_D A [(h0, .inr (0, [.int 2, .int 2, .int 1, .ref q1, .ref q2, .ref q3, .ref q4, .ref q5, .ref q6, .int 0, .int 0])), (q1, .inl (cA1, 144, .inl (fun _ => 0))), (q2, .inl (cA1, 264, .inl (fun _ => 0))), (q3, .inl (cA1, 264, .inl (fun _ => 0))), (q4, .inl (cA1, 264, .inl (fun _ => 0))), (q5, .inl (cA1, 133, .inl (fun _ => 0))), (q6, .inl (cA1, 264, .inl (fun _ => 0)))] := hD
  refine lv_aload_n hx hb dX0_init_78 rfl (lv_at hl 0 rfl) ?_
  refine lv_iconst (v := 0) hx hb dX0_init_79 (by decide) ?_
  refine va_put (D := D) (ci := 0) (v := .int 0) (ty := .int) (C := RX0) (T := TX0) (N := 11) hx hb hts hin0 tyX0 tyX0_ok nmX0 hown hK hP hD hS 0 rfl rfl 10 (by decide) (hts (.fieldLink RX0 41 "HeightLines" "chains" "I") (by decide +kernel)) (fun _ h9 => h9) rfl (by decide +kernel) rfl rfl (Nat.le_of_ble_eq_true rfl) dX0_init_80 (fun H locs hP hD hS => ?_)
  have hP : va_P D vwCl [(h0, .inr (0, [.int 2, .int 2, .int 1, .ref q1, .ref q2, .ref q3, .ref q4, .ref q5, .ref q6, .int 0, .int 0])), (q1, .inl (cA1, 144, .inl (fun _ => 0))), (q2, .inl (cA1, 264, .inl (fun _ => 0))), (q3, .inl (cA1, 264, .inl (fun _ => 0))), (q4, .inl (cA1, 264, .inl (fun _ => 0))), (q5, .inl (cA1, 133, .inl (fun _ => 0))), (q6, .inl (cA1, 264, .inl (fun _ => 0)))] H := hP
  have hD : va_D A [(h0, .inr (0, [.int 2, .int 2, .int 1, .ref q1, .ref q2, .ref q3, .ref q4, .ref q5, .ref q6, .int 0, .int 0])), (q1, .inl (cA1, 144, .inl (fun _ => 0))), (q2, .inl (cA1, 264, .inl (fun _ => 0))), (q3, .inl (cA1, 264, .inl (fun _ => 0))), (q4, .inl (cA1, 264, .inl (fun _ => 0))), (q5, .inl (cA1, 133, .inl (fun _ => 0))), (q6, .inl (cA1, 264, .inl (fun _ => 0)))] := hD
  exact W.vret hx hb hr (fun t ht hW => ⟨⟨(), rfl, trivial, (fun k => match k with | 0 => h0 | 1 => q1 | 2 => q2 | 3 => q3 | 4 => q4 | 5 => q5 | _ => q6), cA1, rfl, by rw [ht]; exact hP, va_K.moved hW.alike hK, hD⟩, hS.F ht⟩) hS.2.2 dX0_init_83

set_option maxHeartbeats 400000 in
set_option maxRecDepth 100000 in
theorem c_X1_init (l : Launch) (D : va_G) (h0 sz : Nat) : Met l yX1_init wsX1_init ({ frames := 1, cells := 5, slots := 1203, locals := 12 } : Room) (va_Pc [.ref h0] (fun U => U.heap.size = sz ∧ va_P D vwCl [(h0, .inr (1, [.int 0, .int 0, .int 0, .int 0, .null, .null, .null, .null, .null, .int 0]))] U.heap ∧ va_K D vwCl [] U ∧ va_D (fun _ => True) [(h0, .inr (1, [.int 0, .int 0, .int 0, .int 0, .null, .null, .null, .null, .null, .int 0]))])) (va_Qv (fun _ : Unit => True) (fun _ t => ∃ (o : Nat → Nat) (cI cZ : ClassId), o 0 = h0 ∧ va_P D vwCl (W1 o cI cZ 0 2 2 1 0 zF zF zF zF zF) t.heap ∧ va_K D vwCl [(cI, .int), (cZ, .boolean)] t ∧ va_D (va_A [(h0, .inr (1, [.int 0, .int 0, .int 0, .int 0, .null, .null, .null, .null, .null, .int 0]))] sz) (W1 o cI cZ 0 2 2 1 0 zF zF zF zF zF)) (va_A [(h0, .inr (1, [.int 0, .int 0, .int 0, .int 0, .null, .null, .null, .null, .null, .int 0]))] sz)) 5 1203 (va_A [(h0, .inr (1, [.int 0, .int 0, .int 0, .int 0, .null, .null, .null, .null, .null, .int 0]))] sz) := by
  refine Met.ofW (cc := cX1_init) (maxL := 1) (ret := none) (by decide) rfl ?_
  intro p e s m args below meth c s₁ B hml hv
  obtain ⟨rfl, hsz, hP, hK, hD0⟩ := hv
  have hx := B.exec
  have hb := B.bytes
  have hr := B.returns
  have hts := atoms_spec (ws := wsX1_init) B.pre
  have hown : s.vm.findClass RX1 = some m.cls := findClass_of_methodNamed B.named
  have hlocks := B.notSynchronized
  have hin : meth.name = "<init>" := (name_of_methodNamed B.named B.method).1
  have hin0 : ∀ w ∈ u_ws RX1 TX1 10, w ∈ wsX1_init := by decide +kernel
  subst hsz
  have hD := hD0.self (sz := s.heap.size)
  generalize hAe : va_A [(h0, .inr (1, [.int 0, .int 0, .int 0, .int 0, .null, .null, .null, .null, .null, .int 0]))] s.heap.size = A at hD ⊢
  have hA : ∀ q : Nat, s.heap.size ≤ q → A q := fun q h => by rw [← hAe]; exact Or.inr h
  have hS : va_S A s.heap s.heap [] := va_S.rf
  have hl := lv_entry ([.ref h0]) (n := 1) (Nat.le_of_ble_eq_true rfl)
  rw [lg_entry_eq]
  generalize (lg_sl ([.ref h0]) ++ List.replicate (1 - (lg_sl ([.ref h0])).length) Slot.unset).toArray = ls at hl ⊢
  have hl : lv_has ls 1 [(0, .ref h0)] := hl
  refine lv_aload_n hx hb dX1_init_0 rfl (lv_at hl 0 rfl) ?_
  refine W.objInit hx hb hown (hts (.methodLink RX1 1 objectInit) (by decide +kernel)) (hts (.instanceMethod objectInit) (by decide +kernel)) (hts _ (List.mem_cons_of_mem _ (List.mem_append_left _ (List.mem_of_getElem? (i := 2) rfl)))) rfl (by rw [hml]; exact hl.1) rfl dX1_init_1 (Nat.le_of_ble_eq_true rfl) (Nat.le_of_ble_eq_true rfl) ?_
  refine W.eq (g2 := F0 m 4 ls []) rfl ?_
  refine lv_aload_n hx hb dX1_init_4 rfl (lv_at hl 0 rfl) ?_
  refine lv_iconst (v := 2) hx hb dX1_init_5 (by decide) ?_
  refine va_put (D := D) (ci := 1) (v := .int 2) (ty := .int) (C := RX1) (T := TX1) (N := 10) hx hb hts hin0 tyX1 tyX1_ok nmX1 hown hK hP hD hS 0 rfl rfl 1 (by decide) (hts (.fieldLink RX1 7 "HeightLinesModel" "w" "I") (by decide +kernel)) (fun _ h9 => h9) rfl (by decide +kernel) rfl rfl (Nat.le_of_ble_eq_true rfl) dX1_init_6 (fun H locs hP hD hS => ?_)
  have hP : va_P D vwCl [(h0, .inr (1, [.int 0, .int 2, .int 0, .int 0, .null, .null, .null, .null, .null, .int 0]))] H := hP
  have hD : va_D A [(h0, .inr (1, [.int 0, .int 2, .int 0, .int 0, .null, .null, .null, .null, .null, .int 0]))] := hD
  refine lv_aload_n hx hb dX1_init_9 rfl (lv_at hl 0 rfl) ?_
  refine lv_iconst (v := 2) hx hb dX1_init_10 (by decide) ?_
  refine va_put (D := D) (ci := 1) (v := .int 2) (ty := .int) (C := RX1) (T := TX1) (N := 10) hx hb hts hin0 tyX1 tyX1_ok nmX1 hown hK hP hD hS 0 rfl rfl 2 (by decide) (hts (.fieldLink RX1 13 "HeightLinesModel" "h" "I") (by decide +kernel)) (fun _ h9 => h9) rfl (by decide +kernel) rfl rfl (Nat.le_of_ble_eq_true rfl) dX1_init_11 (fun H locs hP hD hS => ?_)
  have hP : va_P D vwCl [(h0, .inr (1, [.int 0, .int 2, .int 2, .int 0, .null, .null, .null, .null, .null, .int 0]))] H := hP
  have hD : va_D A [(h0, .inr (1, [.int 0, .int 2, .int 2, .int 0, .null, .null, .null, .null, .null, .int 0]))] := hD
  refine lv_aload_n hx hb dX1_init_14 rfl (lv_at hl 0 rfl) ?_
  refine lv_iconst (v := 1) hx hb dX1_init_15 (by decide) ?_
  refine va_put (D := D) (ci := 1) (v := .int 1) (ty := .int) (C := RX1) (T := TX1) (N := 10) hx hb hts hin0 tyX1 tyX1_ok nmX1 hown hK hP hD hS 0 rfl rfl 3 (by decide) (hts (.fieldLink RX1 16 "HeightLinesModel" "twice" "I") (by decide +kernel)) (fun _ h9 => h9) rfl (by decide +kernel) rfl rfl (Nat.le_of_ble_eq_true rfl) dX1_init_16 (fun H locs hP hD hS => ?_)
  have hP : va_P D vwCl [(h0, .inr (1, [.int 0, .int 2, .int 2, .int 1, .null, .null, .null, .null, .null, .int 0]))] H := hP
  have hD : va_D A [(h0, .inr (1, [.int 0, .int 2, .int 2, .int 1, .null, .null, .null, .null, .null, .int 0]))] := hD
  refine lv_aload_n hx hb dX1_init_19 rfl (lv_at hl 0 rfl) ?_
  refine lv_sipush (v := 144) hx hb dX1_init_20 (by decide) ?_
  refine va_newa (D := D) (atype := .int) (ty := .int) (N' := 144) (a0 := (144, .inl (fun _ => 0))) hx hb (hts (.arrayClass .int) (by decide +kernel)) rfl hK hP hD hS hA (fun _ => rfl) (by decide) (nI_clamp (n := 144) (by decide)) (by show 144 * 4 ≤ 536870912; omega) (by show (0 : Nat) + 1 ≤ 5; omega) (by show (0 : Nat) + 144 ≤ 1203; omega) dX1_init_23 (fun q1 cA1 H hK hP hD hS => ?_)
  have hP : va_P D vwCl [(h0, .inr (1, [.int 0, .int 2, .int 2, .int 1, .null, .null, .null, .null, .null, .int 0])), (q1, .inl (cA1, 144, .inl (fun _ => 0)))] H := hP
  have hD : va_D A [(h0, .inr (1, [.int 0, .int 2, .int 2, .int 1, .null, .null, .null, .null, .null, .int 0])), (q1, .inl (cA1, 144, .inl (fun _ => 0)))] := hD
  refine W.widen (k := 1) (n := 144) (by omega) (by omega) ?_
  refine va_putF (D := D) (ci := 1) (v := .ref q1) (ty := .array .int) (C := RX1) (T := TX1) (N := 10) hx hb hts hin0 tyX1 tyX1_ok nmX1 hown hK hP hD hS 0 rfl rfl 4 (by decide) (hts (.fieldLink RX1 19 "HeightLinesModel" "samples" "[I") (by decide +kernel)) (fun _ h9 => h9) rfl hin rfl (by decide +kernel) rfl rfl (Nat.le_of_ble_eq_true rfl) dX1_init_25 (fun H locs hP hD hS => ?_)
  have hP : va_P D vwCl [(h0, .inr (1, [.int 0, .int 2, .int 2, .int 1, .ref q1, .null, .null, .null, .null, .int 0])), (q1, .inl (cA1, 144, .inl (fun _ => 0)))] H := hP
  have hD : va_D A [(h0, .inr (1, [.int 0, .int 2, .int 2, .int 1, .ref q1, .null, .null, .null, .null, .int 0])), (q1, .inl (cA1, 144, .inl (fun _ => 0)))] := hD
  refine lv_aload_n hx hb dX1_init_28 rfl (lv_at hl 0 rfl) ?_
  refine lv_sipush (v := 264) hx hb dX1_init_29 (by decide) ?_
  refine va_newa (D := D) (atype := .int) (ty := .int) (N' := 264) (a0 := (264, .inl (fun _ => 0))) hx hb (hts (.arrayClass .int) (by decide +kernel)) rfl hK hP hD hS hA (fun _ => rfl) (by decide) (nI_clamp (n := 264) (by decide)) (by show 264 * 4 ≤ 536870912; omega) (by show (1 : Nat) + 1 ≤ 5; omega) (by show (144 : Nat) + 264 ≤ 1203; omega) dX1_init_32 (fun q2 cA2 H hK hP hD hS => ?_)
  have ec : cA1 = cA2 := Option.some.inj ((va_nm_int (hK.2 0 _ rfl).2).symm.trans (va_nm_int (hK.2 1 _ rfl).2))
  subst ec
  have hK : va_K D vwCl [(cA1, .int)] s := hK.sub [0] rfl
  have hP : va_P D vwCl [(h0, .inr (1, [.int 0, .int 2, .int 2, .int 1, .ref q1, .null, .null, .null, .null, .int 0])), (q1, .inl (cA1, 144, .inl (fun _ => 0))), (q2, .inl (cA1, 264, .inl (fun _ => 0)))] H := hP
  have hD : va_D A [(h0, .inr (1, [.int 0, .int 2, .int 2, .int 1, .ref q1, .null, .null, .null, .null, .int 0])), (q1, .inl (cA1, 144, .inl (fun _ => 0))), (q2, .inl (cA1, 264, .inl (fun _ => 0)))] := hD
  refine W.widen (k := 2) (n := 408) (by omega) (by omega) ?_
  refine va_putF (D := D) (ci := 1) (v := .ref q2) (ty := .array .int) (C := RX1) (T := TX1) (N := 10) hx hb hts hin0 tyX1 tyX1_ok nmX1 hown hK hP hD hS 0 rfl rfl 5 (by decide) (hts (.fieldLink RX1 23 "HeightLinesModel" "edges" "[I") (by decide +kernel)) (fun _ h9 => h9) rfl hin rfl (by decide +kernel) rfl rfl (Nat.le_of_ble_eq_true rfl) dX1_init_34 (fun H locs hP hD hS => ?_)
  have hP : va_P D vwCl [(h0, .inr (1, [.int 0, .int 2, .int 2, .int 1, .ref q1, .ref q2, .null, .null, .null, .int 0])), (q1, .inl (cA1, 144, .inl (fun _ => 0))), (q2, .inl (cA1, 264, .inl (fun _ => 0)))] H := hP
  have hD : va_D A [(h0, .inr (1, [.int 0, .int 2, .int 2, .int 1, .ref q1, .ref q2, .null, .null, .null, .int 0])), (q1, .inl (cA1, 144, .inl (fun _ => 0))), (q2, .inl (cA1, 264, .inl (fun _ => 0)))] := hD
  refine lv_aload_n hx hb dX1_init_37 rfl (lv_at hl 0 rfl) ?_
  refine lv_sipush (v := 266) hx hb dX1_init_38 (by decide) ?_
  refine va_newa (D := D) (atype := .int) (ty := .int) (N' := 266) (a0 := (266, .inl (fun _ => 0))) hx hb (hts (.arrayClass .int) (by decide +kernel)) rfl hK hP hD hS hA (fun _ => rfl) (by decide) (nI_clamp (n := 266) (by decide)) (by show 266 * 4 ≤ 536870912; omega) (by show (2 : Nat) + 1 ≤ 5; omega) (by show (408 : Nat) + 266 ≤ 1203; omega) dX1_init_41 (fun q3 cA3 H hK hP hD hS => ?_)
  have ec : cA1 = cA3 := Option.some.inj ((va_nm_int (hK.2 0 _ rfl).2).symm.trans (va_nm_int (hK.2 1 _ rfl).2))
  subst ec
  have hK : va_K D vwCl [(cA1, .int)] s := hK.sub [0] rfl
  have hP : va_P D vwCl [(h0, .inr (1, [.int 0, .int 2, .int 2, .int 1, .ref q1, .ref q2, .null, .null, .null, .int 0])), (q1, .inl (cA1, 144, .inl (fun _ => 0))), (q2, .inl (cA1, 264, .inl (fun _ => 0))), (q3, .inl (cA1, 266, .inl (fun _ => 0)))] H := hP
  have hD : va_D A [(h0, .inr (1, [.int 0, .int 2, .int 2, .int 1, .ref q1, .ref q2, .null, .null, .null, .int 0])), (q1, .inl (cA1, 144, .inl (fun _ => 0))), (q2, .inl (cA1, 264, .inl (fun _ => 0))), (q3, .inl (cA1, 266, .inl (fun _ => 0)))] := hD
  refine W.widen (k := 3) (n := 674) (by omega) (by omega) ?_
  refine va_putF (D := D) (ci := 1) (v := .ref q3) (ty := .array .int) (C := RX1) (T := TX1) (N := 10) hx hb hts hin0 tyX1 tyX1_ok nmX1 hown hK hP hD hS 0 rfl rfl 6 (by decide) (hts (.fieldLink RX1 26 "HeightLinesModel" "begins" "[I") (by decide +kernel)) (fun _ h9 => h9) rfl hin rfl (by decide +kernel) rfl rfl (Nat.le_of_ble_eq_true rfl) dX1_init_43 (fun H locs hP hD hS => ?_)
  have hP : va_P D vwCl [(h0, .inr (1, [.int 0, .int 2, .int 2, .int 1, .ref q1, .ref q2, .ref q3, .null, .null, .int 0])), (q1, .inl (cA1, 144, .inl (fun _ => 0))), (q2, .inl (cA1, 264, .inl (fun _ => 0))), (q3, .inl (cA1, 266, .inl (fun _ => 0)))] H := hP
  have hD : va_D A [(h0, .inr (1, [.int 0, .int 2, .int 2, .int 1, .ref q1, .ref q2, .ref q3, .null, .null, .int 0])), (q1, .inl (cA1, 144, .inl (fun _ => 0))), (q2, .inl (cA1, 264, .inl (fun _ => 0))), (q3, .inl (cA1, 266, .inl (fun _ => 0)))] := hD
  refine lv_aload_n hx hb dX1_init_46 rfl (lv_at hl 0 rfl) ?_
  refine lv_sipush (v := 265) hx hb dX1_init_47 (by decide) ?_
  refine va_newa (D := D) (atype := .boolean) (ty := .boolean) (N' := 265) (a0 := (265, .inl (fun _ => 0))) hx hb (hts (.arrayClass .boolean) (by decide +kernel)) rfl hK hP hD hS hA (fun _ => rfl) (by decide) (nI_clamp (n := 265) (by decide)) (by show 265 * 1 ≤ 536870912; omega) (by show (3 : Nat) + 1 ≤ 5; omega) (by show (674 : Nat) + 265 ≤ 1203; omega) dX1_init_50 (fun q4 cA4 H hK hP hD hS => ?_)
  have hP : va_P D vwCl [(h0, .inr (1, [.int 0, .int 2, .int 2, .int 1, .ref q1, .ref q2, .ref q3, .null, .null, .int 0])), (q1, .inl (cA1, 144, .inl (fun _ => 0))), (q2, .inl (cA1, 264, .inl (fun _ => 0))), (q3, .inl (cA1, 266, .inl (fun _ => 0))), (q4, .inl (cA4, 265, .inl (fun _ => 0)))] H := hP
  have hD : va_D A [(h0, .inr (1, [.int 0, .int 2, .int 2, .int 1, .ref q1, .ref q2, .ref q3, .null, .null, .int 0])), (q1, .inl (cA1, 144, .inl (fun _ => 0))), (q2, .inl (cA1, 264, .inl (fun _ => 0))), (q3, .inl (cA1, 266, .inl (fun _ => 0))), (q4, .inl (cA4, 265, .inl (fun _ => 0)))] := hD
  refine W.widen (k := 4) (n := 939) (by omega) (by omega) ?_
  refine va_putF (D := D) (ci := 1) (v := .ref q4) (ty := .array .boolean) (C := RX1) (T := TX1) (N := 10) hx hb hts hin0 tyX1 tyX1_ok nmX1 hown hK hP hD hS 0 rfl rfl 7 (by decide) (hts (.fieldLink RX1 29 "HeightLinesModel" "closed" "[Z") (by decide +kernel)) (fun _ h9 => h9) rfl hin rfl (by decide +kernel) rfl rfl (Nat.le_of_ble_eq_true rfl) dX1_init_52 (fun H locs hP hD hS => ?_)
  have hP : va_P D vwCl [(h0, .inr (1, [.int 0, .int 2, .int 2, .int 1, .ref q1, .ref q2, .ref q3, .ref q4, .null, .int 0])), (q1, .inl (cA1, 144, .inl (fun _ => 0))), (q2, .inl (cA1, 264, .inl (fun _ => 0))), (q3, .inl (cA1, 266, .inl (fun _ => 0))), (q4, .inl (cA4, 265, .inl (fun _ => 0)))] H := hP
  have hD : va_D A [(h0, .inr (1, [.int 0, .int 2, .int 2, .int 1, .ref q1, .ref q2, .ref q3, .ref q4, .null, .int 0])), (q1, .inl (cA1, 144, .inl (fun _ => 0))), (q2, .inl (cA1, 264, .inl (fun _ => 0))), (q3, .inl (cA1, 266, .inl (fun _ => 0))), (q4, .inl (cA4, 265, .inl (fun _ => 0)))] := hD
  refine lv_aload_n hx hb dX1_init_55 rfl (lv_at hl 0 rfl) ?_
  refine lv_sipush (v := 264) hx hb dX1_init_56 (by decide) ?_
  refine va_newa (D := D) (atype := .boolean) (ty := .boolean) (N' := 264) (a0 := (264, .inl (fun _ => 0))) hx hb (hts (.arrayClass .boolean) (by decide +kernel)) rfl hK hP hD hS hA (fun _ => rfl) (by decide) (nI_clamp (n := 264) (by decide)) (by show 264 * 1 ≤ 536870912; omega) (by show (4 : Nat) + 1 ≤ 5; omega) (by show (939 : Nat) + 264 ≤ 1203; omega) dX1_init_59 (fun q5 cA5 H hK hP hD hS => ?_)
  have ec : cA4 = cA5 := Option.some.inj ((va_nm_boolean (hK.2 1 _ rfl).2).symm.trans (va_nm_boolean (hK.2 2 _ rfl).2))
  subst ec
  have hK : va_K D vwCl [(cA1, .int), (cA4, .boolean)] s := hK.sub [0, 1] rfl
  have hP : va_P D vwCl [(h0, .inr (1, [.int 0, .int 2, .int 2, .int 1, .ref q1, .ref q2, .ref q3, .ref q4, .null, .int 0])), (q1, .inl (cA1, 144, .inl (fun _ => 0))), (q2, .inl (cA1, 264, .inl (fun _ => 0))), (q3, .inl (cA1, 266, .inl (fun _ => 0))), (q4, .inl (cA4, 265, .inl (fun _ => 0))), (q5, .inl (cA4, 264, .inl (fun _ => 0)))] H := hP
  have hD : va_D A [(h0, .inr (1, [.int 0, .int 2, .int 2, .int 1, .ref q1, .ref q2, .ref q3, .ref q4, .null, .int 0])), (q1, .inl (cA1, 144, .inl (fun _ => 0))), (q2, .inl (cA1, 264, .inl (fun _ => 0))), (q3, .inl (cA1, 266, .inl (fun _ => 0))), (q4, .inl (cA4, 265, .inl (fun _ => 0))), (q5, .inl (cA4, 264, .inl (fun _ => 0)))] := hD
  refine W.widen (k := 5) (n := 1203) (by omega) (by omega) ?_
  refine va_putF (D := D) (ci := 1) (v := .ref q5) (ty := .array .boolean) (C := RX1) (T := TX1) (N := 10) hx hb hts hin0 tyX1 tyX1_ok nmX1 hown hK hP hD hS 0 rfl rfl 8 (by decide) (hts (.fieldLink RX1 33 "HeightLinesModel" "used" "[Z") (by decide +kernel)) (fun _ h9 => h9) rfl hin rfl (by decide +kernel) rfl rfl (Nat.le_of_ble_eq_true rfl) dX1_init_61 (fun H locs hP hD hS => ?_)
  have hP : va_P D vwCl [(h0, .inr (1, [.int 0, .int 2, .int 2, .int 1, .ref q1, .ref q2, .ref q3, .ref q4, .ref q5, .int 0])), (q1, .inl (cA1, 144, .inl (fun _ => 0))), (q2, .inl (cA1, 264, .inl (fun _ => 0))), (q3, .inl (cA1, 266, .inl (fun _ => 0))), (q4, .inl (cA4, 265, .inl (fun _ => 0))), (q5, .inl (cA4, 264, .inl (fun _ => 0)))] H := hP
  have hD : va_D A [(h0, .inr (1, [.int 0, .int 2, .int 2, .int 1, .ref q1, .ref q2, .ref q3, .ref q4, .ref q5, .int 0])), (q1, .inl (cA1, 144, .inl (fun _ => 0))), (q2, .inl (cA1, 264, .inl (fun _ => 0))), (q3, .inl (cA1, 266, .inl (fun _ => 0))), (q4, .inl (cA4, 265, .inl (fun _ => 0))), (q5, .inl (cA4, 264, .inl (fun _ => 0)))] := hD
  exact W.vret hx hb hr (fun t ht hW => ⟨⟨(), rfl, trivial, (fun k => match k with | 0 => h0 | 1 => q1 | 2 => q2 | 3 => q3 | 4 => q4 | _ => q5), cA1, cA4, rfl, by rw [ht]; exact hP, va_K.moved hW.alike hK, hD⟩, hS.F ht⟩) hS.2.2 dX1_init_64
