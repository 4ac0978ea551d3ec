set_option maxHeartbeats 4000000 in
set_option maxRecDepth 100000 in
theorem c_X0_withinInRow (l : Launch) (D : va_G) (o : Nat → Nat) (cI : ClassId) (ro tw op ch : Int32) (sm nx bf od st ow : Nat → Int32) (w : Nat) (lc : List Nat) (k : Nat) (y : Nat) (gw : 2 ≤ w) (gw2 : w ≤ 12) (gy : y < 12) (gow : ∀ e, e < 264 → (ow e = nI k ↔ e ∈ lc)) : roMet l yX0_withinInRow wsX0_withinInRow ({ frames := 1, cells := 0, slots := 0, locals := 22 } : Room) D (W0 o cI (nI w) ro tw op ch sm nx bf od st ow) [(cI, .int)] [.ref (o 0), .int (nI k), .int (nI y)] (fun r => r = nI (wiR w lc y w)) := by
  refine Met.ofW (cc := cX0_withinInRow) (maxL := 6) (ret := (some .int)) (by decide) rfl ?_
  intro p e s m args below meth c s₁ B hml hv
  obtain ⟨rfl, hP, hK⟩ := hv
  have hx := B.exec
  have hb := B.bytes
  have hr := B.returns
  have hts := atoms_spec (ws := wsX0_withinInRow) B.pre
  have hown : s.vm.findClass RX0 = some m.cls := findClass_of_methodNamed B.named
  have hlocks := B.notSynchronized
  have hin0 : ∀ w ∈ u_ws RX0 TX0 11, w ∈ wsX0_withinInRow := by decide +kernel
  have hS : va_S (fun _ => False) s.heap s.heap [] := va_S.rf
  have hP : va_P D vwCl (W0 o cI (nI w) ro tw op ch sm nx bf od st ow) s.heap := hP
  have hl := lv_entry ([.ref (o 0), .int (nI k), .int (nI y)]) (n := 6) (Nat.le_of_ble_eq_true rfl)
  rw [lg_entry_eq]
  generalize (lg_sl ([.ref (o 0), .int (nI k), .int (nI y)]) ++ List.replicate (6 - (lg_sl ([.ref (o 0), .int (nI k), .int (nI y)])).length) Slot.unset).toArray = ls at hl ⊢
  have hl : lv_has ls 6 [(0, .ref (o 0)), (1, .int (nI k)), (2, .int (nI y))] := hl
  have lp : ∀ (n : Nat) (x : Nat) (pa : Bool), (1 ≤ x) → (x ≤ w) → (w + 1 ≤ x + n) → (pa = decide (rwC w lc y (x - 1) % 2 = 1)) → ∀ (H : Heap) (locs : List Loc) (ls : Array Slot), va_P D vwCl (W0 o cI (nI w) ro tw op ch sm nx bf od st ow) H → va_S (fun _ => False) s.heap H locs → lv_has ls 6 [(3, .int (nI (wiR w lc y x))), (4, .int (bI pa)), (5, .int (nI x)), (0, .ref (o 0)), (1, .int (nI k)), (2, .int (nI y))] → W p l e (headSpec wsX0_withinInRow ({ frames := 1, cells := 0, slots := 0, locals := 22 } : Room)).room s m ([.ref (o 0), .int (nI k), .int (nI y)]).toArray below meth c H locs 0 0 (MQ below (va_Qi (fun r (_ : Unit) => r = nI (wiR w lc y w)) (fun _ _ => True) (fun _ => False)) ([.ref (o 0), .int (nI k), .int (nI y)]).toArray s 0 0 (fun _ => False)) (F0 m 8 ls []) := by
    intro n
    induction n with
    | zero =>
      intro x pa hx1 hxw hn hpa
      exact absurd hn (by omega)
    | succ n ih =>
      intro x pa hx1 hxw hn hpa H locs ls hP hS hl
      refine lv_iload hx hb dX0_withinInRow_8 (lv_at hl 2 rfl) ?_
      refine lv_aload_n hx hb dX0_withinInRow_10 rfl (lv_at hl 3 rfl) ?_
      refine va_get (D := D) (ci := 0) (v := .int (nI w)) (C := RX0) (T := TX0) (N := 11) hx hb hts hin0 hown hK hP 0 rfl rfl 0 (by decide) (hts (.fieldLink RX0 9 "HeightLines" "columns" "I") (by decide +kernel)) (fun _ h9 => h9) rfl dX0_withinInRow_11 ?_
      refine lv_icmp_ge (tgt := 61) hx hb dX0_withinInRow_14 (by decide) (fun c14 => ?_) (fun c14 => ?_)
      · refine lv_iload_n hx hb dX0_withinInRow_61 rfl (lv_at hl 0 rfl) ?_
        exact W.iret (v := nI (wiR w lc y x)) hx hb hr (fun t ht hW => ⟨⟨_, (), rfl, by rw [show x = w from by have := le_n c14 (by omega) (by omega); omega], trivial⟩, hS.F ht⟩) hS.2.2 dX0_withinInRow_62
      · refine lv_aload_n hx hb dX0_withinInRow_17 rfl (lv_at hl 3 rfl) ?_
        refine va_get (D := D) (ci := 0) (v := .ref (o 6)) (C := RX0) (T := TX0) (N := 11) hx hb hts hin0 hown hK hP 0 rfl rfl 8 (by decide) (hts (.fieldLink RX0 35 "HeightLines" "owner" "[I") (by decide +kernel)) (fun _ h9 => h9) rfl dX0_withinInRow_18 ?_
        refine lv_aload_n hx hb dX0_withinInRow_21 rfl (lv_at hl 3 rfl) ?_
        refine lv_iload hx hb dX0_withinInRow_22 (lv_at hl 2 rfl) ?_
        refine lv_iconst (v := 1) hx hb dX0_withinInRow_24 (by decide) ?_
        refine lv_isub hx hb dX0_withinInRow_25 ?_
        rw [show (nI x - 1) = nI (x - 1) from nI_m1 hx1]
        refine lv_iload_n hx hb dX0_withinInRow_26 rfl (lv_at hl 5 rfl) ?_
        refine ro_V2 ⟨hx, hb, hml, hown, hts⟩ (c_X0_rightwardEdge l D o cI ro tw op ch sm nx bf od st ow w (x - 1) y (by omega)) (cwV 2 hts gX0_withinInRow_X0_rightwardEdge rfl rfl rfl (by decide +kernel) ⟨Nat.le_of_ble_eq_true rfl, Nat.le_of_ble_eq_true rfl⟩) (va_recv hK hP (ci := 0) (q0 := 0) rfl rfl) hP hK hP hS rfl hl.1 (lv_room (Nat.le_of_ble_eq_true rfl)) dX0_withinInRow_27 ⟨Nat.le_of_ble_eq_true rfl, Nat.le_of_ble_eq_true rfl⟩ (fun r27 H locs hr27 hP hS => ?_)
        subst hr27
        refine an_iald (D := D) hx hb hK hP 6 0 rfl rfl (k := y * (w - 1) + (x - 1)) (by have h9 := (nle_n c14 (by omega) (by omega)); have h8 : y * (w - 1) ≤ 11 * 11 := Nat.mul_le_mul (by omega) (by omega); omega) (by decide) dX0_withinInRow_30 ?_
        refine lv_iload_n hx hb dX0_withinInRow_31 rfl (lv_at hl 4 rfl) ?_
        refine lv_icmp_ne (tgt := 47) hx hb dX0_withinInRow_32 (by decide) (fun c32 => ?_) (fun c32 => ?_)
        · have hmem : ¬ y * (w - 1) + (x - 1) ∈ lc := fun z => c32 ((gow _ (by have h9 := (nle_n c14 (by omega) (by omega)); have h8 : y * (w - 1) ≤ 11 * 11 := Nat.mul_le_mul (by omega) (by omega); omega)).mpr z)
          have hrw := rwC_f hmem
          rw [show x - 1 + 1 = x from by omega] at hrw
          have hpa2 : pa = decide (rwC w lc y x % 2 = 1) := by rw [hpa, hrw]
          refine lv_iload hx hb dX0_withinInRow_47 (lv_at hl 1 rfl) ?_
          refine lv_if_eq (tgt := 55) hx hb dX0_withinInRow_49 (by decide) (fun c49 => ?_) (fun c49 => ?_)
          · refine lv_iinc (v := (nI (x + 1))) (lv' := [(5, .int (nI (x + 1))), (3, .int (nI (wiR w lc y x))), (4, .int (bI pa)), (0, .ref (o 0)), (1, .int (nI k)), (2, .int (nI y))]) hx hb dX0_withinInRow_55 hl (k := 2) rfl (nI_p1 _) (by decide) rfl (fun ls hl => ?_)
            refine lv_goto (tgt := 8) hx hb dX0_withinInRow_58 (by decide) ?_
            have h7 : rwC w lc y x % 2 = 0 := by have h6 := bI_0.mp c49; rw [hpa2] at h6; have := of_decide_eq_false h6; omega
            have hwr : wiR w lc y (x + 1) = wiR w lc y x := by simp [wiR, h7]
            rw [← hwr] at hl
            exact ih (x + 1) pa (by omega) (nle_n c14 (by omega) (by omega)) (by omega) (by rw [hpa2, show x + 1 - 1 = x from by omega]) _ _ _ hP hS (lv_sub hl [1, 2, 0, 3, 4, 5] rfl)
          · refine lv_iinc (v := (nI (wiR w lc y x + 1))) (lv' := [(3, .int (nI (wiR w lc y x + 1))), (4, .int (bI pa)), (5, .int (nI x)), (0, .ref (o 0)), (1, .int (nI k)), (2, .int (nI y))]) hx hb dX0_withinInRow_52 hl (k := 0) rfl (nI_p1 _) (by decide) rfl (fun ls hl => ?_)
            refine lv_iinc (v := (nI (x + 1))) (lv' := [(5, .int (nI (x + 1))), (3, .int (nI (wiR w lc y x + 1))), (4, .int (bI pa)), (0, .ref (o 0)), (1, .int (nI k)), (2, .int (nI y))]) hx hb dX0_withinInRow_55 hl (k := 2) rfl (nI_p1 _) (by decide) rfl (fun ls hl => ?_)
            refine lv_goto (tgt := 8) hx hb dX0_withinInRow_58 (by decide) ?_
            have h7 : rwC w lc y x % 2 = 1 := by have h6 := bI_n0.mp c49; rw [hpa2] at h6; exact of_decide_eq_true h6
            have hwr : wiR w lc y (x + 1) = wiR w lc y x + 1 := by simp [wiR, h7]
            rw [← hwr] at hl
            exact ih (x + 1) pa (by omega) (nle_n c14 (by omega) (by omega)) (by omega) (by rw [hpa2, show x + 1 - 1 = x from by omega]) _ _ _ hP hS (lv_sub hl [1, 2, 0, 3, 4, 5] rfl)
        · refine lv_iload hx hb dX0_withinInRow_35 (lv_at hl 1 rfl) ?_
          refine lv_if_ne (tgt := 44) hx hb dX0_withinInRow_37 (by decide) (fun c37 => ?_) (fun c37 => ?_)
          · refine lv_iconst (v := 0) hx hb dX0_withinInRow_44 (by decide) ?_
            refine lv_istore (lv' := [(4, .int 0), (3, .int (nI (wiR w lc y x))), (5, .int (nI x)), (0, .ref (o 0)), (1, .int (nI k)), (2, .int (nI y))]) hx hb dX0_withinInRow_45 hl (by decide) rfl (fun ls hl => ?_)
            have hmem : y * (w - 1) + (x - 1) ∈ lc := (gow _ (by have h9 := (nle_n c14 (by omega) (by omega)); have h8 : y * (w - 1) ≤ 11 * 11 := Nat.mul_le_mul (by omega) (by omega); omega)).mp c32
            have hrw := rwC_t hmem
            rw [show x - 1 + 1 = x from by omega] at hrw
            have hpa2 : (!pa) = decide (rwC w lc y x % 2 = 1) := by rw [hpa, hrw]; by_cases h7 : rwC w lc y (x - 1) % 2 = 1 <;> simp [h7] <;> omega
            rw [show (0 : Int32) = bI (!pa) from by rw [bI_n0.mp c37]; rfl] at hl
            refine lv_iload hx hb dX0_withinInRow_47 (lv_at hl 0 rfl) ?_
            refine lv_if_eq (tgt := 55) hx hb dX0_withinInRow_49 (by decide) (fun c49 => ?_) (fun c49 => ?_)
            · refine lv_iinc (v := (nI (x + 1))) (lv' := [(5, .int (nI (x + 1))), (4, .int (bI (!pa))), (3, .int (nI (wiR w lc y x))), (0, .ref (o 0)), (1, .int (nI k)), (2, .int (nI y))]) hx hb dX0_withinInRow_55 hl (k := 2) rfl (nI_p1 _) (by decide) rfl (fun ls hl => ?_)
              refine lv_goto (tgt := 8) hx hb dX0_withinInRow_58 (by decide) ?_
              have h7 : rwC w lc y x % 2 = 0 := by have h6 := bI_0.mp c49; rw [hpa2] at h6; have := of_decide_eq_false h6; omega
              have hwr : wiR w lc y (x + 1) = wiR w lc y x := by simp [wiR, h7]
              rw [← hwr] at hl
              exact ih (x + 1) (!pa) (by omega) (nle_n c14 (by omega) (by omega)) (by omega) (by rw [hpa2, show x + 1 - 1 = x from by omega]) _ _ _ hP hS (lv_sub hl [2, 1, 0, 3, 4, 5] rfl)
            · refine lv_iinc (v := (nI (wiR w lc y x + 1))) (lv' := [(3, .int (nI (wiR w lc y x + 1))), (4, .int (bI (!pa))), (5, .int (nI x)), (0, .ref (o 0)), (1, .int (nI k)), (2, .int (nI y))]) hx hb dX0_withinInRow_52 hl (k := 1) rfl (nI_p1 _) (by decide) rfl (fun ls hl => ?_)
              refine lv_iinc (v := (nI (x + 1))) (lv' := [(5, .int (nI (x + 1))), (3, .int (nI (wiR w lc y x + 1))), (4, .int (bI (!pa))), (0, .ref (o 0)), (1, .int (nI k)), (2, .int (nI y))]) hx hb dX0_withinInRow_55 hl (k := 2) rfl (nI_p1 _) (by decide) rfl (fun ls hl => ?_)
              refine lv_goto (tgt := 8) hx hb dX0_withinInRow_58 (by decide) ?_
              have h7 : rwC w lc y x % 2 = 1 := by have h6 := bI_n0.mp c49; rw [hpa2] at h6; exact of_decide_eq_true h6
              have hwr : wiR w lc y (x + 1) = wiR w lc y x + 1 := by simp [wiR, h7]
              rw [← hwr] at hl
              exact ih (x + 1) (!pa) (by omega) (nle_n c14 (by omega) (by omega)) (by omega) (by rw [hpa2, show x + 1 - 1 = x from by omega]) _ _ _ hP hS (lv_sub hl [1, 2, 0, 3, 4, 5] rfl)
          · refine lv_iconst (v := 1) hx hb dX0_withinInRow_40 (by decide) ?_
            refine lv_goto (tgt := 45) hx hb dX0_withinInRow_41 (by decide) ?_
            refine lv_istore (lv' := [(4, .int 1), (3, .int (nI (wiR w lc y x))), (5, .int (nI x)), (0, .ref (o 0)), (1, .int (nI k)), (2, .int (nI y))]) hx hb dX0_withinInRow_45 hl (by decide) rfl (fun ls hl => ?_)
            have hmem : y * (w - 1) + (x - 1) ∈ lc := (gow _ (by have h9 := (nle_n c14 (by omega) (by omega)); have h8 : y * (w - 1) ≤ 11 * 11 := Nat.mul_le_mul (by omega) (by omega); omega)).mp c32
            have hrw := rwC_t hmem
            rw [show x - 1 + 1 = x from by omega] at hrw
            have hpa2 : (!pa) = decide (rwC w lc y x % 2 = 1) := by rw [hpa, hrw]; by_cases h7 : rwC w lc y (x - 1) % 2 = 1 <;> simp [h7] <;> omega
            rw [show (1 : Int32) = bI (!pa) from by rw [bI_0.mp c37]; rfl] at hl
            refine lv_iload hx hb dX0_withinInRow_47 (lv_at hl 0 rfl) ?_
            refine lv_if_eq (tgt := 55) hx hb dX0_withinInRow_49 (by decide) (fun c49 => ?_) (fun c49 => ?_)
            · refine lv_iinc (v := (nI (x + 1))) (lv' := [(5, .int (nI (x + 1))), (4, .int (bI (!pa))), (3, .int (nI (wiR w lc y x))), (0, .ref (o 0)), (1, .int (nI k)), (2, .int (nI y))]) hx hb dX0_withinInRow_55 hl (k := 2) rfl (nI_p1 _) (by decide) rfl (fun ls hl => ?_)
              refine lv_goto (tgt := 8) hx hb dX0_withinInRow_58 (by decide) ?_
              have h7 : rwC w lc y x % 2 = 0 := by have h6 := bI_0.mp c49; rw [hpa2] at h6; have := of_decide_eq_false h6; omega
              have hwr : wiR w lc y (x + 1) = wiR w lc y x := by simp [wiR, h7]
              rw [← hwr] at hl
              exact ih (x + 1) (!pa) (by omega) (nle_n c14 (by omega) (by omega)) (by omega) (by rw [hpa2, show x + 1 - 1 = x from by omega]) _ _ _ hP hS (lv_sub hl [2, 1, 0, 3, 4, 5] rfl)
            · refine lv_iinc (v := (nI (wiR w lc y x + 1))) (lv' := [(3, .int (nI (wiR w lc y x + 1))), (4, .int (bI (!pa))), (5, .int (nI x)), (0, .ref (o 0)), (1, .int (nI k)), (2, .int (nI y))]) hx hb dX0_withinInRow_52 hl (k := 1) rfl (nI_p1 _) (by decide) rfl (fun ls hl => ?_)
              refine lv_iinc (v := (nI (x + 1))) (lv' := [(5, .int (nI (x + 1))), (3, .int (nI (wiR w lc y x + 1))), (4, .int (bI (!pa))), (0, .ref (o 0)), (1, .int (nI k)), (2, .int (nI y))]) hx hb dX0_withinInRow_55 hl (k := 2) rfl (nI_p1 _) (by decide) rfl (fun ls hl => ?_)
              refine lv_goto (tgt := 8) hx hb dX0_withinInRow_58 (by decide) ?_
              have h7 : rwC w lc y x % 2 = 1 := by have h6 := bI_n0.mp c49; rw [hpa2] at h6; exact of_decide_eq_true h6
              have hwr : wiR w lc y (x + 1) = wiR w lc y x + 1 := by simp [wiR, h7]
              rw [← hwr] at hl
              exact ih (x + 1) (!pa) (by omega) (nle_n c14 (by omega) (by omega)) (by omega) (by rw [hpa2, show x + 1 - 1 = x from by omega]) _ _ _ hP hS (lv_sub hl [1, 2, 0, 3, 4, 5] rfl)
  refine lv_iconst (v := 0) hx hb dX0_withinInRow_0 (by decide) ?_
  refine lv_istore_n (lv' := [(3, .int 0), (0, .ref (o 0)), (1, .int (nI k)), (2, .int (nI y))]) hx hb dX0_withinInRow_1 rfl hl (by decide) rfl (fun ls hl => ?_)
  refine lv_iconst (v := 0) hx hb dX0_withinInRow_2 (by decide) ?_
  refine lv_istore (lv' := [(4, .int 0), (3, .int 0), (0, .ref (o 0)), (1, .int (nI k)), (2, .int (nI y))]) hx hb dX0_withinInRow_3 hl (by decide) rfl (fun ls hl => ?_)
  refine lv_iconst (v := 1) hx hb dX0_withinInRow_5 (by decide) ?_
  refine lv_istore (lv' := [(5, .int 1), (4, .int 0), (3, .int 0), (0, .ref (o 0)), (1, .int (nI k)), (2, .int (nI y))]) hx hb dX0_withinInRow_6 hl (by decide) rfl (fun ls hl => ?_)
  exact lp w 1 false (by decide) (by omega) (by omega) (by simp [rwC, cntB]) _ _ _ hP hS (lv_sub hl [2, 1, 0, 3, 4, 5] rfl)

set_option maxHeartbeats 4000000 in
set_option maxRecDepth 100000 in
theorem c_X0_within (l : Launch) (D : va_G) (o : Nat → Nat) (cI : ClassId) (tw : Int32) (sm nx bf od st ow : Nat → Int32) (w : Nat) (h : Nat) (L : List (List Nat)) (no : Nat) (z : Int32) (gw : 2 ≤ w) (gw2 : w ≤ 12) (gh2 : h ≤ 12) (gL : L.length ≤ 132) (gow : ∀ c, c < L.length → ∀ e, e < 264 → (ow e = nI c ↔ e ∈ nthL L c)) : roMet l yX0_within wsX0_within ({ frames := 2, cells := 0, slots := 0, locals := 47 } : Room) D (W0 o cI (nI w) (nI h) tw (nI no) (nI L.length) sm nx bf od st ow) [(cI, .int)] [.ref (o 0), .int z] (fun r => r = wiV w h L no z) := by
  refine Met.ofW (cc := cX0_within) (maxL := 4) (ret := (some .int)) (by decide) rfl ?_
  intro p e s m args below meth c s₁ B hml hv
  obtain ⟨rfl, hP, hK⟩ := hv
  have hx := B.exec
  have hb := B.bytes
  have hr := B.returns
  have hts := atoms_spec (ws := wsX0_within) B.pre
  have hown : s.vm.findClass RX0 = some m.cls := findClass_of_methodNamed B.named
  have hlocks := B.notSynchronized
  have hin0 : ∀ w ∈ u_ws RX0 TX0 11, w ∈ wsX0_within := by decide +kernel
  have hS : va_S (fun _ => False) s.heap s.heap [] := va_S.rf
  have hP : va_P D vwCl (W0 o cI (nI w) (nI h) tw (nI no) (nI L.length) sm nx bf od st ow) s.heap := hP
  have hl := lv_entry ([.ref (o 0), .int z]) (n := 4) (Nat.le_of_ble_eq_true rfl)
  rw [lg_entry_eq]
  generalize (lg_sl ([.ref (o 0), .int z]) ++ List.replicate (4 - (lg_sl ([.ref (o 0), .int z])).length) Slot.unset).toArray = ls at hl ⊢
  have hl : lv_has ls 4 [(0, .ref (o 0)), (1, .int z)] := hl
  have lp : ∀ (n : Nat) (y : Nat) (k : Nat), (y ≤ h) → (h + 1 ≤ y + n) → (k < L.length) → (z = nI k) → (clL L no z = true) → ∀ (H : Heap) (locs : List Loc) (ls : Array Slot), va_P D vwCl (W0 o cI (nI w) (nI h) tw (nI no) (nI L.length) sm nx bf od st ow) H → va_S (fun _ => False) s.heap H locs → lv_has ls 4 [(2, .int (nI (wiA w (nthL L k) y))), (3, .int (nI y)), (0, .ref (o 0)), (1, .int (nI k))] → W p l e (headSpec wsX0_within ({ frames := 2, cells := 0, slots := 0, locals := 47 } : Room)).room s m ([.ref (o 0), .int z]).toArray below meth c H locs 0 0 (MQ below (va_Qi (fun r (_ : Unit) => r = wiV w h L no z) (fun _ _ => True) (fun _ => False)) ([.ref (o 0), .int z]).toArray s 0 0 (fun _ => False)) (F0 m 14 ls []) := by
    intro n
    induction n with
    | zero =>
      intro y k hy8 hn hk9 ez hcl
      exact absurd hn (by omega)
    | succ n ih =>
      intro y k hy8 hn hk9 ez hcl H locs ls hP hS hl
      refine lv_iload_n hx hb dX0_within_14 rfl (lv_at hl 1 rfl) ?_
      refine lv_aload_n hx hb dX0_within_15 rfl (lv_at hl 2 rfl) ?_
      refine va_get (D := D) (ci := 0) (v := .int (nI h)) (C := RX0) (T := TX0) (N := 11) hx hb hts hin0 hown hK hP 0 rfl rfl 1 (by decide) (hts (.fieldLink RX0 13 "HeightLines" "rows" "I") (by decide +kernel)) (fun _ h9 => h9) rfl dX0_within_16 ?_
      refine lv_icmp_ge (tgt := 37) hx hb dX0_within_19 (by decide) (fun c19 => ?_) (fun c19 => ?_)
      · refine lv_iload_n hx hb dX0_within_37 rfl (lv_at hl 0 rfl) ?_
        exact W.iret (v := nI (wiA w (nthL L k) y)) hx hb hr (fun t ht hW => ⟨⟨_, (), rfl, by unfold wiV; rw [hcl, ez, nI_clamp (by omega), show y = h from by have := le_n c19 (by omega) (by omega); omega]; rfl, trivial⟩, hS.F ht⟩) hS.2.2 dX0_within_38
      · refine lv_iload_n hx hb dX0_within_22 rfl (lv_at hl 0 rfl) ?_
        refine lv_aload_n hx hb dX0_within_23 rfl (lv_at hl 2 rfl) ?_
        refine lv_iload_n hx hb dX0_within_24 rfl (lv_at hl 3 rfl) ?_
        refine lv_iload_n hx hb dX0_within_25 rfl (lv_at hl 1 rfl) ?_
        refine ro_V2 ⟨hx, hb, hml, hown, hts⟩ (c_X0_withinInRow l D o cI (nI h) tw (nI no) (nI L.length) sm nx bf od st ow w (nthL L k) k y gw gw2 (by have := (nle_n c19 (by omega) (by omega)); omega) (gow k hk9)) (cwV 2 hts gX0_within_X0_withinInRow rfl rfl rfl (by decide +kernel) ⟨Nat.le_of_ble_eq_true rfl, Nat.le_of_ble_eq_true rfl⟩) (va_recv hK hP (ci := 0) (q0 := 0) rfl rfl) hP hK hP hS rfl hl.1 (lv_room (Nat.le_of_ble_eq_true rfl)) dX0_within_26 ⟨Nat.le_of_ble_eq_true rfl, Nat.le_of_ble_eq_true rfl⟩ (fun r26 H locs hr26 hP hS => ?_)
        subst hr26
        refine lv_iadd hx hb dX0_within_29 ?_
        rw [show (nI (wiA w (nthL L k) y) + (nI (wiR w (nthL L k) y w))) = nI (wiA w (nthL L k) (y + 1)) from by rw [nI_add]; rfl]
        refine lv_istore_n (lv' := [(2, .int (nI (wiA w (nthL L k) (y + 1)))), (3, .int (nI y)), (0, .ref (o 0)), (1, .int (nI k))]) hx hb dX0_within_30 rfl hl (by decide) rfl (fun ls hl => ?_)
        refine lv_iinc (v := (nI (y + 1))) (lv' := [(3, .int (nI (y + 1))), (2, .int (nI (wiA w (nthL L k) (y + 1)))), (0, .ref (o 0)), (1, .int (nI k))]) hx hb dX0_within_31 hl (k := 1) rfl (nI_p1 _) (by decide) rfl (fun ls hl => ?_)
        refine lv_goto (tgt := 14) hx hb dX0_within_34 (by decide) ?_
        exact ih (y + 1) k (nle_n c19 (by omega) (by omega)) (by omega) hk9 ez hcl _ _ _ hP hS (lv_sub hl [1, 0, 2, 3] rfl)
  refine lv_aload_n hx hb dX0_within_0 rfl (lv_at hl 0 rfl) ?_
  refine lv_iload_n hx hb dX0_within_1 rfl (lv_at hl 1 rfl) ?_
  refine ro_V1 ⟨hx, hb, hml, hown, hts⟩ (c_X0_isClosed l D o cI (nI w) (nI h) tw sm nx bf od st ow L no z) (cwV 1 hts gX0_within_X0_isClosed rfl rfl rfl (by decide +kernel) ⟨Nat.le_of_ble_eq_true rfl, Nat.le_of_ble_eq_true rfl⟩) (va_recv hK hP (ci := 0) (q0 := 0) rfl rfl) hP hK hP hS rfl hl.1 (lv_room (Nat.le_of_ble_eq_true rfl)) dX0_within_2 ⟨Nat.le_of_ble_eq_true rfl, Nat.le_of_ble_eq_true rfl⟩ (fun r2 H locs hr2 hP hS => ?_)
  subst hr2
  refine lv_if_ne (tgt := 10) hx hb dX0_within_5 (by decide) (fun c5 => ?_) (fun c5 => ?_)
  · have hcl : clL L no z = true := bI_n0.mp c5
    obtain ⟨k, hk9, ez⟩ : ∃ j, j < L.length ∧ z = nI j := okY_n (h := L.length) (by unfold clL at hcl; exact (Bool.and_eq_true _ _ ▸ hcl).1) (by omega)
    rw [ez] at hl
    refine lv_iconst (v := 0) hx hb dX0_within_10 (by decide) ?_
    refine lv_istore_n (lv' := [(2, .int 0), (0, .ref (o 0)), (1, .int (nI k))]) hx hb dX0_within_11 rfl hl (by decide) rfl (fun ls hl => ?_)
    refine lv_iconst (v := 0) hx hb dX0_within_12 (by decide) ?_
    refine lv_istore_n (lv' := [(3, .int 0), (2, .int 0), (0, .ref (o 0)), (1, .int (nI k))]) hx hb dX0_within_13 rfl hl (by decide) rfl (fun ls hl => ?_)
    exact lp (h + 1) 0 k (Nat.zero_le _) (by omega) hk9 ez hcl _ _ _ hP hS (lv_sub hl [1, 0, 2, 3] rfl)
  · refine lv_iconst (v := (-1)) hx hb dX0_within_8 (by decide) ?_
    exact W.iret (v := (-1)) hx hb hr (fun t ht hW => ⟨⟨_, (), rfl, by unfold wiV; rw [bI_0.mp c5]; rfl, trivial⟩, hS.F ht⟩) hS.2.2 dX0_within_9

set_option maxHeartbeats 4000000 in
set_option maxRecDepth 100000 in
theorem c_X1_within (l : Launch) (D : va_G) (o : Nat → Nat) (cI cZ : ClassId) (th tw : Int32) (sm od st cl us : Nat → Int32) (w : Nat) (h : Nat) (L : List (List Nat)) (no : Nat) (z : Int32) (gw : 2 ≤ w) (gw2 : w ≤ 12) (gh : 2 ≤ h) (gh2 : h ≤ 12) (gL : L.length ≤ 132) (gst : ∀ i, i ≤ L.length → st i = nI (pfx L i)) (gno : no ≤ L.length) (gcl : ∀ i, i < L.length → cl i = bI (decide (no ≤ i))) (gU : L.flatten.length ≤ 264) (god : ∀ j, j < L.flatten.length → od j = nI (L.flatten.getD j 0)) (gnd : L.flatten.Nodup) (gal : ∀ z ∈ L.flatten, z < nE w h) : wiMet l yX1_within wsX1_within ({ frames := 2, cells := 0, slots := 0, locals := 42 } : Room) D (W1 o cI cZ th (nI w) (nI h) tw (nI L.length) sm od st cl us) (W1 o cI cZ 0 (nI w) (nI h) tw (nI L.length) sm od st cl us) [(cI, .int), (cZ, .boolean)] [.ref (o 0), .int z] (wiV w h L no z) := by
  refine Met.ofW (cc := cX1_within) (maxL := 7) (ret := (some .int)) (by decide) rfl ?_
  intro p e s m args below meth c s₁ B hml hv
  obtain ⟨rfl, hP, hK, hD0⟩ := hv
  have hx := B.exec
  have hb := B.bytes
  have hr := B.returns
  have hts := atoms_spec (ws := wsX1_within) B.pre
  have hown : s.vm.findClass RX1 = some m.cls := findClass_of_methodNamed B.named
  have hlocks := B.notSynchronized
  have hin0 : ∀ w ∈ u_ws RX1 TX1 10, w ∈ wsX1_within := by decide +kernel
  have hD := wA_D hD0
  have hS : va_S (wA (W1 o cI cZ th (nI w) (nI h) tw (nI L.length) sm od st cl us)) s.heap s.heap [] := va_S.rf
  obtain ⟨H, hH, hP, hS⟩ : ∃ H : Heap, s.heap = H ∧ va_P D vwCl (W1 o cI cZ th (nI w) (nI h) tw (nI L.length) sm od st cl us) H ∧ va_S (wA (W1 o cI cZ th (nI w) (nI h) tw (nI L.length) sm od st cl us)) s.heap H [] := ⟨_, rfl, hP, hS⟩
  rw [hH]
  have hl := lv_entry ([.ref (o 0), .int z]) (n := 7) (Nat.le_of_ble_eq_true rfl)
  rw [lg_entry_eq]
  generalize (lg_sl ([.ref (o 0), .int z]) ++ List.replicate (7 - (lg_sl ([.ref (o 0), .int z])).length) Slot.unset).toArray = ls at hl ⊢
  have hl : lv_has ls 7 [(0, .ref (o 0)), (1, .int z)] := hl
  refine lv_aload_n hx hb dX1_within_0 rfl (lv_at hl 0 rfl) ?_
  refine lv_iconst (v := 0) hx hb dX1_within_1 (by decide) ?_
  refine va_put (D := D) (ci := 1) (v := .int 0) (ty := .int) (C := RX1) (T := TX1) (N := 10) hx hb hts hin0 tyX1 tyX1_ok nmX1 hown hK hP hD hS 0 rfl rfl 0 (by decide) (hts (.fieldLink RX1 36 "HeightLinesModel" "thrown" "I") (by decide +kernel)) (fun _ h9 => h9) rfl (by decide +kernel) rfl rfl (Nat.le_of_ble_eq_true rfl) dX1_within_2 (fun H locs hP hD hS => ?_)
  have hP : va_P D vwCl (W1 o cI cZ 0 (nI w) (nI h) tw (nI L.length) sm od st cl us) H := hP
  have hD : va_D (wA (W1 o cI cZ th (nI w) (nI h) tw (nI L.length) sm od st cl us)) (W1 o cI cZ 0 (nI w) (nI h) tw (nI L.length) sm od st cl us) := hD
  refine lv_aload_n hx hb dX1_within_5 rfl (lv_at hl 0 rfl) ?_
  refine lv_iload_n hx hb dX1_within_6 rfl (lv_at hl 1 rfl) ?_
  refine ro_V1 ⟨hx, hb, hml, hown, hts⟩ (c_X1_isChain l D o cI cZ 0 (nI w) (nI h) tw (nI L.length) sm od st cl us z) (cwV 1 hts gX1_within_X1_isChain rfl rfl rfl (by decide +kernel) ⟨Nat.le_of_ble_eq_true rfl, Nat.le_of_ble_eq_true rfl⟩) (va_recv hK hP (ci := 1) (q0 := 0) rfl rfl) hP hK hP hS rfl hl.1 (lv_room (Nat.le_of_ble_eq_true rfl)) dX1_within_7 ⟨Nat.le_of_ble_eq_true rfl, Nat.le_of_ble_eq_true rfl⟩ (fun r7 H locs hr7 hP hS => ?_)
  subst hr7
  refine lv_if_eq (tgt := 22) hx hb dX1_within_10 (by decide) (fun c10 => ?_) (fun c10 => ?_)
  · refine lv_iconst (v := (-1)) hx hb dX1_within_22 (by decide) ?_
    exact W.iret (v := (-1)) hx hb hr (fun t ht hW => ⟨⟨_, (), rfl, by unfold wiV; rw [show clL L no z = false from by unfold clL; rw [show okY L.length z = false from bI_0.mp c10]; rfl]; rfl, by rw [ht]; exact hP, va_K.moved hW.alike hK, hD⟩, hS.F ht⟩) hS.2.2 dX1_within_23
  · obtain ⟨k, hk9, ez⟩ : ∃ j, j < L.length ∧ z = nI j := okY_n (h := L.length) (bI_n0.mp c10) (by omega)
    rw [ez] at hl
    have hpf := nth_len hk9
    have hpl := pfx_le (L := L) (i := k + 1) (by omega)
    refine lv_aload_n hx hb dX1_within_13 rfl (lv_at hl 0 rfl) ?_
    refine va_get (D := D) (ci := 1) (v := .ref (o 4)) (C := RX1) (T := TX1) (N := 10) hx hb hts hin0 hown hK hP 0 rfl rfl 7 (by decide) (hts (.fieldLink RX1 29 "HeightLinesModel" "closed" "[Z") (by decide +kernel)) (fun _ h9 => h9) rfl dX1_within_14 ?_
    refine lv_iload_n hx hb dX1_within_17 rfl (lv_at hl 1 rfl) ?_
    refine an_zald (D := D) hx hb hK hP 4 1 rfl rfl (k := k) (by omega) (by decide) dX1_within_18 ?_
    rw [show (cl k) = bI (decide (no ≤ k)) from gcl k hk9]
    refine lv_if_ne (tgt := 24) hx hb dX1_within_19 (by decide) (fun c19 => ?_) (fun c19 => ?_)
    · refine lv_iconst (v := 0) hx hb dX1_within_24 (by decide) ?_
      refine lv_istore_n (lv' := [(2, .int 0), (0, .ref (o 0)), (1, .int (nI k))]) hx hb dX1_within_25 rfl hl (by decide) rfl (fun ls hl => ?_)
      refine lv_iconst (v := 0) hx hb dX1_within_26 (by decide) ?_
      refine lv_istore_n (lv' := [(3, .int 0), (2, .int 0), (0, .ref (o 0)), (1, .int (nI k))]) hx hb dX1_within_27 rfl hl (by decide) rfl (fun ls hl => ?_)
      have lp1 : ∀ (n1 : Nat) (y : Nat), (y ≤ h) → (h + 1 ≤ y + n1) → ∀ (H : Heap) (locs : List Loc) (ls : Array Slot), va_P D vwCl (W1 o cI cZ 0 (nI w) (nI h) tw (nI L.length) sm od st cl us) H → va_D (wA (W1 o cI cZ th (nI w) (nI h) tw (nI L.length) sm od st cl us)) (W1 o cI cZ 0 (nI w) (nI h) tw (nI L.length) sm od st cl us) → va_S (wA (W1 o cI cZ th (nI w) (nI h) tw (nI L.length) sm od st cl us)) s.heap H locs → lv_has ls 7 [(2, .int (nI (wiA w (nthL L k) y))), (3, .int (nI y)), (0, .ref (o 0)), (1, .int (nI k))] → W p l e (headSpec wsX1_within ({ frames := 2, cells := 0, slots := 0, locals := 42 } : Room)).room s m ([.ref (o 0), .int z] : List Value).toArray below meth c H locs 0 0 (MQ below (va_Qi (fun r (_ : Unit) => r = wiV w h L no z) (wB D (W1 o cI cZ th (nI w) (nI h) tw (nI L.length) sm od st cl us) (W1 o cI cZ 0 (nI w) (nI h) tw (nI L.length) sm od st cl us) [(cI, .int), (cZ, .boolean)]) (wA (W1 o cI cZ th (nI w) (nI h) tw (nI L.length) sm od st cl us))) ([.ref (o 0), .int z] : List Value).toArray s 0 0 (wA (W1 o cI cZ th (nI w) (nI h) tw (nI L.length) sm od st cl us))) (F0 m 28 ls []) := by
        intro n1
        induction n1 with
        | zero =>
          intro y hy8 hn1
          exact absurd hn1 (by omega)
        | succ n1 ih1 =>
          intro y hy8 hn1 H locs ls hP hD hS hl
          refine lv_iload_n hx hb dX1_within_28 rfl (lv_at hl 1 rfl) ?_
          refine lv_aload_n hx hb dX1_within_29 rfl (lv_at hl 2 rfl) ?_
          refine va_get (D := D) (ci := 1) (v := .int (nI h)) (C := RX1) (T := TX1) (N := 10) hx hb hts hin0 hown hK hP 0 rfl rfl 2 (by decide) (hts (.fieldLink RX1 13 "HeightLinesModel" "h" "I") (by decide +kernel)) (fun _ h9 => h9) rfl dX1_within_30 ?_
          refine lv_icmp_ge (tgt := 152) hx hb dX1_within_33 (by decide) (fun c33 => ?_) (fun c33 => ?_)
          · refine lv_iload_n hx hb dX1_within_152 rfl (lv_at hl 0 rfl) ?_
            exact W.iret (v := nI (wiA w (nthL L k) y)) hx hb hr (fun t ht hW => ⟨⟨_, (), rfl, by unfold wiV; rw [show clL L no z = true from by unfold clL; rw [ez, okY_nI hk9 (by omega), decide_eq_true (nI_le (bd_t c19) (by omega))]; rfl, ez, nI_clamp (by omega), show y = h from by have := le_n c33 (by omega) (by omega); omega]; rfl, by rw [ht]; exact hP, va_K.moved hW.alike hK, hD⟩, hS.F ht⟩) hS.2.2 dX1_within_153
          · refine lv_iconst (v := 0) hx hb dX1_within_36 (by decide) ?_
            refine lv_istore (lv' := [(4, .int 0), (2, .int (nI (wiA w (nthL L k) y))), (3, .int (nI y)), (0, .ref (o 0)), (1, .int (nI k))]) hx hb dX1_within_37 hl (by decide) rfl (fun ls hl => ?_)
            have lp2 : ∀ (n2 : Nat) (x : Nat), (x ≤ w) → (w + 1 ≤ x + n2) → ∀ (H : Heap) (locs : List Loc) (ls : Array Slot), va_P D vwCl (W1 o cI cZ 0 (nI w) (nI h) tw (nI L.length) sm od st cl us) H → va_D (wA (W1 o cI cZ th (nI w) (nI h) tw (nI L.length) sm od st cl us)) (W1 o cI cZ 0 (nI w) (nI h) tw (nI L.length) sm od st cl us) → va_S (wA (W1 o cI cZ th (nI w) (nI h) tw (nI L.length) sm od st cl us)) s.heap H locs → lv_has ls 7 [(2, .int (nI (wiA w (nthL L k) y + wiR w (nthL L k) y x))), (4, .int (nI x)), (3, .int (nI y)), (0, .ref (o 0)), (1, .int (nI k))] → W p l e (headSpec wsX1_within ({ frames := 2, cells := 0, slots := 0, locals := 42 } : Room)).room s m ([.ref (o 0), .int z] : List Value).toArray below meth c H locs 0 0 (MQ below (va_Qi (fun r (_ : Unit) => r = wiV w h L no z) (wB D (W1 o cI cZ th (nI w) (nI h) tw (nI L.length) sm od st cl us) (W1 o cI cZ 0 (nI w) (nI h) tw (nI L.length) sm od st cl us) [(cI, .int), (cZ, .boolean)]) (wA (W1 o cI cZ th (nI w) (nI h) tw (nI L.length) sm od st cl us))) ([.ref (o 0), .int z] : List Value).toArray s 0 0 (wA (W1 o cI cZ th (nI w) (nI h) tw (nI L.length) sm od st cl us))) (F0 m 39 ls []) := by
              intro n2
              induction n2 with
              | zero =>
                intro x hx8 hn2
                exact absurd hn2 (by omega)
              | succ n2 ih2 =>
                intro x hx8 hn2 H locs ls hP hD hS hl
                refine lv_iload hx hb dX1_within_39 (lv_at hl 1 rfl) ?_
                refine lv_aload_n hx hb dX1_within_41 rfl (lv_at hl 3 rfl) ?_
                refine va_get (D := D) (ci := 1) (v := .int (nI w)) (C := RX1) (T := TX1) (N := 10) hx hb hts hin0 hown hK hP 0 rfl rfl 1 (by decide) (hts (.fieldLink RX1 7 "HeightLinesModel" "w" "I") (by decide +kernel)) (fun _ h9 => h9) rfl dX1_within_42 ?_
                refine lv_icmp_ge (tgt := 146) hx hb dX1_within_45 (by decide) (fun c45 => ?_) (fun c45 => ?_)
                · refine lv_iinc (v := (nI (y + 1))) (lv' := [(3, .int (nI (y + 1))), (2, .int (nI (wiA w (nthL L k) y + wiR w (nthL L k) y x))), (4, .int (nI x)), (0, .ref (o 0)), (1, .int (nI k))]) hx hb dX1_within_146 hl (k := 2) rfl (nI_p1 _) (by decide) rfl (fun ls hl => ?_)
                  refine lv_goto (tgt := 28) hx hb dX1_within_149 (by decide) ?_
                  have hxw : x = w := by have := le_n c45 (by omega) (by omega); omega
                  rw [hxw] at hl
                  exact ih1 (y + 1) (nle_n c33 (by omega) (by omega)) (by omega) _ _ _ hP hD hS (lv_sub hl [1, 0, 3, 4] rfl)
                · refine lv_iconst (v := 0) hx hb dX1_within_48 (by decide) ?_
                  refine lv_istore (lv' := [(5, .int 0), (2, .int (nI (wiA w (nthL L k) y + wiR w (nthL L k) y x))), (4, .int (nI x)), (3, .int (nI y)), (0, .ref (o 0)), (1, .int (nI k))]) hx hb dX1_within_49 hl (by decide) rfl (fun ls hl => ?_)
                  refine lv_aload_n hx hb dX1_within_51 rfl (lv_at hl 4 rfl) ?_
                  refine va_get (D := D) (ci := 1) (v := .ref (o 3)) (C := RX1) (T := TX1) (N := 10) hx hb hts hin0 hown hK hP 0 rfl rfl 6 (by decide) (hts (.fieldLink RX1 26 "HeightLinesModel" "begins" "[I") (by decide +kernel)) (fun _ h9 => h9) rfl dX1_within_52 ?_
                  refine lv_iload_n hx hb dX1_within_55 rfl (lv_at hl 5 rfl) ?_
                  refine an_iald (D := D) hx hb hK hP 3 0 rfl rfl (k := k) (by omega) (by decide) dX1_within_56 ?_
                  rw [show (st k) = nI (pfx L k) from gst k (by omega)]
                  refine lv_istore (lv' := [(6, .int (nI (pfx L k))), (5, .int 0), (2, .int (nI (wiA w (nthL L k) y + wiR w (nthL L k) y x))), (4, .int (nI x)), (3, .int (nI y)), (0, .ref (o 0)), (1, .int (nI k))]) hx hb dX1_within_57 hl (by decide) rfl (fun ls hl => ?_)
                  have lp3 : ∀ (n3 : Nat) (i : Nat), (i ≤ (nthL L k).length) → ((nthL L k).length + 1 ≤ i + n3) → ∀ (H : Heap) (locs : List Loc) (ls : Array Slot), va_P D vwCl (W1 o cI cZ 0 (nI w) (nI h) tw (nI L.length) sm od st cl us) H → va_D (wA (W1 o cI cZ th (nI w) (nI h) tw (nI L.length) sm od st cl us)) (W1 o cI cZ 0 (nI w) (nI h) tw (nI L.length) sm od st cl us) → va_S (wA (W1 o cI cZ th (nI w) (nI h) tw (nI L.length) sm od st cl us)) s.heap H locs → lv_has ls 7 [(5, .int (nI (kcN w h y x (nthL L k) i))), (6, .int (nI (pfx L k + i))), (2, .int (nI (wiA w (nthL L k) y + wiR w (nthL L k) y x))), (4, .int (nI x)), (3, .int (nI y)), (0, .ref (o 0)), (1, .int (nI k))] → W p l e (headSpec wsX1_within ({ frames := 2, cells := 0, slots := 0, locals := 42 } : Room)).room s m ([.ref (o 0), .int z] : List Value).toArray below meth c H locs 0 0 (MQ below (va_Qi (fun r (_ : Unit) => r = wiV w h L no z) (wB D (W1 o cI cZ th (nI w) (nI h) tw (nI L.length) sm od st cl us) (W1 o cI cZ 0 (nI w) (nI h) tw (nI L.length) sm od st cl us) [(cI, .int), (cZ, .boolean)]) (wA (W1 o cI cZ th (nI w) (nI h) tw (nI L.length) sm od st cl us))) ([.ref (o 0), .int z] : List Value).toArray s 0 0 (wA (W1 o cI cZ th (nI w) (nI h) tw (nI L.length) sm od st cl us))) (F0 m 59 ls []) := by
                    intro n3
                    induction n3 with
                    | zero =>
                      intro i hi8 hn3
                      exact absurd hn3 (by omega)
                    | succ n3 ih3 =>
                      intro i hi8 hn3 H locs ls hP hD hS hl
                      refine lv_iload hx hb dX1_within_59 (lv_at hl 1 rfl) ?_
                      refine lv_aload_n hx hb dX1_within_61 rfl (lv_at hl 5 rfl) ?_
                      refine va_get (D := D) (ci := 1) (v := .ref (o 3)) (C := RX1) (T := TX1) (N := 10) hx hb hts hin0 hown hK hP 0 rfl rfl 6 (by decide) (hts (.fieldLink RX1 26 "HeightLinesModel" "begins" "[I") (by decide +kernel)) (fun _ h9 => h9) rfl dX1_within_62 ?_
                      refine lv_iload_n hx hb dX1_within_65 rfl (lv_at hl 6 rfl) ?_
                      refine lv_iconst (v := 1) hx hb dX1_within_66 (by decide) ?_
                      refine lv_iadd hx hb dX1_within_67 ?_
                      rw [show (nI k + 1) = nI (k + 1) from nI_p1 k]
                      refine an_iald (D := D) hx hb hK hP 3 0 rfl rfl (k := k + 1) (by omega) (by decide) dX1_within_68 ?_
                      rw [show (st (k + 1)) = nI (pfx L (k + 1)) from gst (k + 1) (by omega)]
                      refine lv_icmp_ge (tgt := 133) hx hb dX1_within_69 (by decide) (fun c69 => ?_) (fun c69 => ?_)
                      · have hi9 : i = (nthL L k).length := by have := le_n c69 (by omega) (by omega); omega
                        refine lv_iload_n hx hb dX1_within_133 rfl (lv_at hl 2 rfl) ?_
                        refine lv_iload hx hb dX1_within_134 (lv_at hl 0 rfl) ?_
                        refine lv_iconst (v := 2) hx hb dX1_within_136 (by decide) ?_
                        refine lv_irem hx hb dX1_within_137 (by decide) ?_
                        rw [show (nI (kcN w h y x (nthL L k) i) - nI (kcN w h y x (nthL L k) i) / 2 * 2) = nI (rwC w (nthL L k) y x % 2) from by rw [hi9, kcN_all (nle_n c33 (by omega) (by omega)) (nle_n c45 (by omega) (by omega)) (nth_nodup gnd hk9)]; exact pk_rem (d := 2) (by have := cntB_le (fun k0 => decide (y * (w - 1) + k0 ∈ (nthL L k))) x; show rwC w (nthL L k) y x < 2 ^ 31; unfold rwC; omega) (by decide) (by decide)]
                        refine lv_iadd hx hb dX1_within_138 ?_
                        rw [show (nI (wiA w (nthL L k) y + wiR w (nthL L k) y x) + nI (rwC w (nthL L k) y x % 2)) = nI (wiA w (nthL L k) y + wiR w (nthL L k) y (x + 1)) from by rw [nI_add, Nat.add_assoc]; rfl]
                        refine lv_istore_n (lv' := [(2, .int (nI (wiA w (nthL L k) y + wiR w (nthL L k) y (x + 1)))), (5, .int (nI (kcN w h y x (nthL L k) i))), (6, .int (nI (pfx L k + i))), (4, .int (nI x)), (3, .int (nI y)), (0, .ref (o 0)), (1, .int (nI k))]) hx hb dX1_within_139 rfl hl (by decide) rfl (fun ls hl => ?_)
                        refine lv_iinc (v := (nI (x + 1))) (lv' := [(4, .int (nI (x + 1))), (2, .int (nI (wiA w (nthL L k) y + wiR w (nthL L k) y (x + 1)))), (5, .int (nI (kcN w h y x (nthL L k) i))), (6, .int (nI (pfx L k + i))), (3, .int (nI y)), (0, .ref (o 0)), (1, .int (nI k))]) hx hb dX1_within_140 hl (k := 3) rfl (nI_p1 _) (by decide) rfl (fun ls hl => ?_)
                        refine lv_goto (tgt := 39) hx hb dX1_within_143 (by decide) ?_
                        exact ih2 (x + 1) (nle_n c45 (by omega) (by omega)) (by omega) _ _ _ hP hD hS (lv_sub hl [1, 0, 4, 5, 6] rfl)
                      · have hi9 : i < (nthL L k).length := by have := nle_n c69 (by omega) (by omega); omega
                        have hed : od (pfx L k + i) = nI ((nthL L k).getD i 0) := by rw [god _ (by omega), flat_nth L k i hk9 hi9]
                        obtain ⟨e1, ee1⟩ : ∃ z, z = (nthL L k).getD i 0 := ⟨_, rfl⟩
                        rw [← ee1] at hed
                        have he1 : e1 < nE w h := gal e1 (by rw [ee1]; exact List.mem_flatten.mpr ⟨_, nth_mem hk9, by simp [List.getD, hi9]⟩)
                        have he2 := nE_le gw2 gh2
                        refine lv_iload hx hb dX1_within_72 (lv_at hl 0 rfl) ?_
                        refine lv_aload_n hx hb dX1_within_74 rfl (lv_at hl 5 rfl) ?_
                        refine lv_aload_n hx hb dX1_within_75 rfl (lv_at hl 5 rfl) ?_
                        refine va_get (D := D) (ci := 1) (v := .ref (o 2)) (C := RX1) (T := TX1) (N := 10) hx hb hts hin0 hown hK hP 0 rfl rfl 5 (by decide) (hts (.fieldLink RX1 23 "HeightLinesModel" "edges" "[I") (by decide +kernel)) (fun _ h9 => h9) rfl dX1_within_76 ?_
                        refine lv_iload hx hb dX1_within_79 (lv_at hl 1 rfl) ?_
                        refine an_iald (D := D) hx hb hK hP 2 0 rfl rfl (k := pfx L k + i) (by omega) (by decide) dX1_within_81 ?_
                        rw [show (od (pfx L k + i)) = nI e1 from hed]
                        refine ro_V1 ⟨hx, hb, hml, hown, hts⟩ (c_X1_isAcross l D o cI cZ 0 tw (nI L.length) sm od st cl us w h e1 gw gw2 gh2 (by omega)) (cwV 1 hts gX1_within_X1_isAcross rfl rfl rfl (by decide +kernel) ⟨Nat.le_of_ble_eq_true rfl, Nat.le_of_ble_eq_true rfl⟩) (va_recv hK hP (ci := 1) (q0 := 0) rfl rfl) hP hK hP hS rfl hl.1 (lv_room (Nat.le_of_ble_eq_true rfl)) dX1_within_82 ⟨Nat.le_of_ble_eq_true rfl, Nat.le_of_ble_eq_true rfl⟩ (fun r82 H locs hr82 hP hS => ?_)
                        subst hr82
                        refine lv_if_eq (tgt := 123) hx hb dX1_within_85 (by decide) (fun c85 => ?_) (fun c85 => ?_)
                        · refine lv_iconst (v := 0) hx hb dX1_within_123 (by decide) ?_
                          have hp9 : kcP w h y x e1 = false := by unfold kcP; rw [decide_eq_false (bd_f c85)]; rfl
                          have hks := kcN_s (w := w) (h := h) (y := y) (x := x) hi9
                          rw [← ee1, hp9] at hks
                          refine lv_iadd hx hb dX1_within_124 ?_
                          rw [show (nI (kcN w h y x (nthL L k) i) + 0) = nI (kcN w h y x (nthL L k) (i + 1)) from by rw [hks]; simp]
                          refine lv_istore (lv' := [(5, .int (nI (kcN w h y x (nthL L k) (i + 1)))), (6, .int (nI (pfx L k + i))), (2, .int (nI (wiA w (nthL L k) y + wiR w (nthL L k) y x))), (4, .int (nI x)), (3, .int (nI y)), (0, .ref (o 0)), (1, .int (nI k))]) hx hb dX1_within_125 hl (by decide) rfl (fun ls hl => ?_)
                          refine lv_iinc (v := (nI (pfx L k + i + 1))) (lv' := [(6, .int (nI (pfx L k + i + 1))), (5, .int (nI (kcN w h y x (nthL L k) (i + 1)))), (2, .int (nI (wiA w (nthL L k) y + wiR w (nthL L k) y x))), (4, .int (nI x)), (3, .int (nI y)), (0, .ref (o 0)), (1, .int (nI k))]) hx hb dX1_within_127 hl (k := 1) rfl (nI_p1 _) (by decide) rfl (fun ls hl => ?_)
                          refine lv_goto (tgt := 59) hx hb dX1_within_130 (by decide) ?_
                          exact ih3 (i + 1) (by omega) (by omega) _ _ _ hP hD hS (lv_sub hl [1, 0, 2, 3, 4, 5, 6] rfl)
                        · refine lv_aload_n hx hb dX1_within_88 rfl (lv_at hl 5 rfl) ?_
                          refine lv_aload_n hx hb dX1_within_89 rfl (lv_at hl 5 rfl) ?_
                          refine va_get (D := D) (ci := 1) (v := .ref (o 2)) (C := RX1) (T := TX1) (N := 10) hx hb hts hin0 hown hK hP 0 rfl rfl 5 (by decide) (hts (.fieldLink RX1 23 "HeightLinesModel" "edges" "[I") (by decide +kernel)) (fun _ h9 => h9) rfl dX1_within_90 ?_
                          refine lv_iload hx hb dX1_within_93 (lv_at hl 1 rfl) ?_
                          refine an_iald (D := D) hx hb hK hP 2 0 rfl rfl (k := pfx L k + i) (by omega) (by decide) dX1_within_95 ?_
                          rw [show (od (pfx L k + i)) = nI e1 from hed]
                          refine ro_V1 ⟨hx, hb, hml, hown, hts⟩ (c_X1_yOf l D o cI cZ 0 tw (nI L.length) sm od st cl us w h e1 gw gw2 gh2 (by omega)) (cwV 1 hts gX1_within_X1_yOf rfl rfl rfl (by decide +kernel) ⟨Nat.le_of_ble_eq_true rfl, Nat.le_of_ble_eq_true rfl⟩) (va_recv hK hP (ci := 1) (q0 := 0) rfl rfl) hP hK hP hS rfl hl.1 (lv_room (Nat.le_of_ble_eq_true rfl)) dX1_within_96 ⟨Nat.le_of_ble_eq_true rfl, Nat.le_of_ble_eq_true rfl⟩ (fun r96 H locs hr96 hP hS => ?_)
                          subst hr96
                          refine lv_iload_n hx hb dX1_within_99 rfl (lv_at hl 4 rfl) ?_
                          refine lv_icmp_ne (tgt := 123) hx hb dX1_within_100 (by decide) (fun c100 => ?_) (fun c100 => ?_)
                          · refine lv_iconst (v := 0) hx hb dX1_within_123 (by decide) ?_
                            have hp9 : kcP w h y x e1 = false := by unfold kcP; rw [decide_eq_false (show ¬ yE w h e1 = y from fun z => c100 (by rw [z]))]; simp
                            have hks := kcN_s (w := w) (h := h) (y := y) (x := x) hi9
                            rw [← ee1, hp9] at hks
                            refine lv_iadd hx hb dX1_within_124 ?_
                            rw [show (nI (kcN w h y x (nthL L k) i) + 0) = nI (kcN w h y x (nthL L k) (i + 1)) from by rw [hks]; simp]
                            refine lv_istore (lv' := [(5, .int (nI (kcN w h y x (nthL L k) (i + 1)))), (6, .int (nI (pfx L k + i))), (2, .int (nI (wiA w (nthL L k) y + wiR w (nthL L k) y x))), (4, .int (nI x)), (3, .int (nI y)), (0, .ref (o 0)), (1, .int (nI k))]) hx hb dX1_within_125 hl (by decide) rfl (fun ls hl => ?_)
                            refine lv_iinc (v := (nI (pfx L k + i + 1))) (lv' := [(6, .int (nI (pfx L k + i + 1))), (5, .int (nI (kcN w h y x (nthL L k) (i + 1)))), (2, .int (nI (wiA w (nthL L k) y + wiR w (nthL L k) y x))), (4, .int (nI x)), (3, .int (nI y)), (0, .ref (o 0)), (1, .int (nI k))]) hx hb dX1_within_127 hl (k := 1) rfl (nI_p1 _) (by decide) rfl (fun ls hl => ?_)
                            refine lv_goto (tgt := 59) hx hb dX1_within_130 (by decide) ?_
                            exact ih3 (i + 1) (by omega) (by omega) _ _ _ hP hD hS (lv_sub hl [1, 0, 2, 3, 4, 5, 6] rfl)
                          · refine lv_aload_n hx hb dX1_within_103 rfl (lv_at hl 5 rfl) ?_
                            refine lv_aload_n hx hb dX1_within_104 rfl (lv_at hl 5 rfl) ?_
                            refine va_get (D := D) (ci := 1) (v := .ref (o 2)) (C := RX1) (T := TX1) (N := 10) hx hb hts hin0 hown hK hP 0 rfl rfl 5 (by decide) (hts (.fieldLink RX1 23 "HeightLinesModel" "edges" "[I") (by decide +kernel)) (fun _ h9 => h9) rfl dX1_within_105 ?_
                            refine lv_iload hx hb dX1_within_108 (lv_at hl 1 rfl) ?_
                            refine an_iald (D := D) hx hb hK hP 2 0 rfl rfl (k := pfx L k + i) (by omega) (by decide) dX1_within_110 ?_
                            rw [show (od (pfx L k + i)) = nI e1 from hed]
                            refine ro_V1 ⟨hx, hb, hml, hown, hts⟩ (c_X1_xOf l D o cI cZ 0 tw (nI L.length) sm od st cl us w h e1 gw gw2 gh2 (by omega)) (cwV 1 hts gX1_within_X1_xOf rfl rfl rfl (by decide +kernel) ⟨Nat.le_of_ble_eq_true rfl, Nat.le_of_ble_eq_true rfl⟩) (va_recv hK hP (ci := 1) (q0 := 0) rfl rfl) hP hK hP hS rfl hl.1 (lv_room (Nat.le_of_ble_eq_true rfl)) dX1_within_111 ⟨Nat.le_of_ble_eq_true rfl, Nat.le_of_ble_eq_true rfl⟩ (fun r111 H locs hr111 hP hS => ?_)
                            subst hr111
                            refine lv_iload hx hb dX1_within_114 (lv_at hl 3 rfl) ?_
                            refine lv_icmp_ge (tgt := 123) hx hb dX1_within_116 (by decide) (fun c116 => ?_) (fun c116 => ?_)
                            · refine lv_iconst (v := 0) hx hb dX1_within_123 (by decide) ?_
                              have hp9 : kcP w h y x e1 = false := by unfold kcP; rw [decide_eq_false (show ¬ xE w h e1 < x from by have := le_n c116 (by omega) (by have := xy_1 gw gh he1; omega); omega)]; simp
                              have hks := kcN_s (w := w) (h := h) (y := y) (x := x) hi9
                              rw [← ee1, hp9] at hks
                              refine lv_iadd hx hb dX1_within_124 ?_
                              rw [show (nI (kcN w h y x (nthL L k) i) + 0) = nI (kcN w h y x (nthL L k) (i + 1)) from by rw [hks]; simp]
                              refine lv_istore (lv' := [(5, .int (nI (kcN w h y x (nthL L k) (i + 1)))), (6, .int (nI (pfx L k + i))), (2, .int (nI (wiA w (nthL L k) y + wiR w (nthL L k) y x))), (4, .int (nI x)), (3, .int (nI y)), (0, .ref (o 0)), (1, .int (nI k))]) hx hb dX1_within_125 hl (by decide) rfl (fun ls hl => ?_)
                              refine lv_iinc (v := (nI (pfx L k + i + 1))) (lv' := [(6, .int (nI (pfx L k + i + 1))), (5, .int (nI (kcN w h y x (nthL L k) (i + 1)))), (2, .int (nI (wiA w (nthL L k) y + wiR w (nthL L k) y x))), (4, .int (nI x)), (3, .int (nI y)), (0, .ref (o 0)), (1, .int (nI k))]) hx hb dX1_within_127 hl (k := 1) rfl (nI_p1 _) (by decide) rfl (fun ls hl => ?_)
                              refine lv_goto (tgt := 59) hx hb dX1_within_130 (by decide) ?_
                              exact ih3 (i + 1) (by omega) (by omega) _ _ _ hP hD hS (lv_sub hl [1, 0, 2, 3, 4, 5, 6] rfl)
                            · refine lv_iconst (v := 1) hx hb dX1_within_119 (by decide) ?_
                              refine lv_goto (tgt := 124) hx hb dX1_within_120 (by decide) ?_
                              have hp9 : kcP w h y x e1 = true := by unfold kcP; rw [decide_eq_true (bd_t c85), decide_eq_true ((nI_eq (by have := xy_1 gw gh he1; omega) (by omega)).mp c100), decide_eq_true (nle_n c116 (by omega) (by have := xy_1 gw gh he1; omega))]; rfl
                              have hks := kcN_s (w := w) (h := h) (y := y) (x := x) hi9
                              rw [← ee1, hp9] at hks
                              refine lv_iadd hx hb dX1_within_124 ?_
                              rw [show (nI (kcN w h y x (nthL L k) i) + 1) = nI (kcN w h y x (nthL L k) (i + 1)) from by rw [hks]; exact nI_p1 _]
                              refine lv_istore (lv' := [(5, .int (nI (kcN w h y x (nthL L k) (i + 1)))), (6, .int (nI (pfx L k + i))), (2, .int (nI (wiA w (nthL L k) y + wiR w (nthL L k) y x))), (4, .int (nI x)), (3, .int (nI y)), (0, .ref (o 0)), (1, .int (nI k))]) hx hb dX1_within_125 hl (by decide) rfl (fun ls hl => ?_)
                              refine lv_iinc (v := (nI (pfx L k + i + 1))) (lv' := [(6, .int (nI (pfx L k + i + 1))), (5, .int (nI (kcN w h y x (nthL L k) (i + 1)))), (2, .int (nI (wiA w (nthL L k) y + wiR w (nthL L k) y x))), (4, .int (nI x)), (3, .int (nI y)), (0, .ref (o 0)), (1, .int (nI k))]) hx hb dX1_within_127 hl (k := 1) rfl (nI_p1 _) (by decide) rfl (fun ls hl => ?_)
                              refine lv_goto (tgt := 59) hx hb dX1_within_130 (by decide) ?_
                              exact ih3 (i + 1) (by omega) (by omega) _ _ _ hP hD hS (lv_sub hl [1, 0, 2, 3, 4, 5, 6] rfl)
                  rw [show pfx L k = pfx L k + 0 from rfl] at hl
                  exact lp3 ((nthL L k).length + 1) 0 (Nat.zero_le _) (by omega) _ _ _ hP hD hS (lv_sub hl [1, 0, 2, 3, 4, 5, 6] rfl)
            exact lp2 (w + 1) 0 (Nat.zero_le _) (by omega) _ _ _ hP hD hS (lv_sub hl [1, 0, 2, 3, 4] rfl)
      exact lp1 (h + 1) 0 (Nat.zero_le _) (by omega) _ _ _ hP hD hS (lv_sub hl [1, 0, 2, 3] rfl)
    · refine lv_iconst (v := (-1)) hx hb dX1_within_22 (by decide) ?_
      exact W.iret (v := (-1)) hx hb hr (fun t ht hW => ⟨⟨_, (), rfl, by unfold wiV; rw [show clL L no z = false from by unfold clL; rw [ez, decide_eq_false (fun q => bd_f c19 (le_n q (by omega) (by omega)))]; simp]; rfl, by rw [ht]; exact hP, va_K.moved hW.alike hK, hD⟩, hS.F ht⟩) hS.2.2 dX1_within_23
