set_option maxHeartbeats 4000000 in
set_option maxRecDepth 100000 in
theorem c_X1_field (l : Launch) (D : va_G) (o : Nat → Nat) (cI cZ : ClassId) (th co ro tw ch : Int32) (sm od st cl us : Nat → Int32) (a : Int32) (b : Int32) : wiMet l yX1_field wsX1_field ({ frames := 0, cells := 0, slots := 0, locals := 0 } : Room) D (W1 o cI cZ th co ro tw ch sm od st cl us) (W1 o cI cZ 0 (cond (okF a b) a co) (cond (okF a b) b ro) tw (cond (okF a b) 0 ch) (cond (okF a b) (filF 144 0 sm) sm) od st cl us) [(cI, .int), (cZ, .boolean)] [.ref (o 0), .int a, .int b] (bI (okF a b)) := by
  refine Met.ofW (cc := cX1_field) (maxL := 4) (ret := (some .boolean)) (by decide) rfl ?_
  intro p e s m args below meth c s₁ B hml hv
  obtain ⟨rfl, hP, hK, hD0⟩ := hv
  have hx := B.exec
  have hb := B.bytes
  have hr := B.returns
  have hts := atoms_spec (ws := wsX1_field) B.pre
  have hown : s.vm.findClass RX1 = some m.cls := findClass_of_methodNamed B.named
  have hlocks := B.notSynchronized
  have hin0 : ∀ w ∈ u_ws RX1 TX1 10, w ∈ wsX1_field := by decide +kernel
  have hD := wA_D hD0
  have hS : va_S (wA (W1 o cI cZ th co ro tw ch sm od st cl us)) s.heap s.heap [] := va_S.rf
  obtain ⟨H, hH, hP, hS⟩ : ∃ H : Heap, s.heap = H ∧ va_P D vwCl (W1 o cI cZ th co ro tw ch sm od st cl us) H ∧ va_S (wA (W1 o cI cZ th co ro tw ch sm od st cl us)) s.heap H [] := ⟨_, rfl, hP, hS⟩
  rw [hH]
  have hl := lv_entry ([.ref (o 0), .int a, .int b]) (n := 4) (Nat.le_of_ble_eq_true rfl)
  rw [lg_entry_eq]
  generalize (lg_sl ([.ref (o 0), .int a, .int b]) ++ List.replicate (4 - (lg_sl ([.ref (o 0), .int a, .int b])).length) Slot.unset).toArray = ls at hl ⊢
  have hl : lv_has ls 4 [(0, .ref (o 0)), (1, .int a), (2, .int b)] := hl
  have lp : ∀ (n : Nat) (j : Nat), (j ≤ 144) → (145 ≤ j + n) → (okF a b = true) → ∀ (H : Heap) (locs : List Loc) (ls : Array Slot), va_P D vwCl (W1 o cI cZ 0 a b tw 0 (filF j 0 sm) od st cl us) H → va_D (wA (W1 o cI cZ th co ro tw ch sm od st cl us)) (W1 o cI cZ 0 a b tw 0 (filF j 0 sm) od st cl us) → va_S (wA (W1 o cI cZ th co ro tw ch sm od st cl us)) s.heap H locs → lv_has ls 4 [(3, .int (nI j)), (0, .ref (o 0)), (1, .int a), (2, .int b)] → W p l e (headSpec wsX1_field ({ frames := 0, cells := 0, slots := 0, locals := 0 } : Room)).room s m ([.ref (o 0), .int a, .int b] : List Value).toArray below meth c H locs 0 0 (MQ below (va_Qi (fun r (_ : Unit) => r = bI (okF a b)) (wB D (W1 o cI cZ th co ro tw ch sm od st cl us) (W1 o cI cZ 0 (cond (okF a b) a co) (cond (okF a b) b ro) tw (cond (okF a b) 0 ch) (cond (okF a b) (filF 144 0 sm) sm) od st cl us) [(cI, .int), (cZ, .boolean)]) (wA (W1 o cI cZ th co ro tw ch sm od st cl us))) ([.ref (o 0), .int a, .int b] : List Value).toArray s 0 0 (wA (W1 o cI cZ th co ro tw ch sm od st cl us))) (F0 m 46 ls []) := by
    intro n
    induction n with
    | zero =>
      intro j hj hn hokk
      exact absurd hn (by omega)
    | succ n ih =>
      intro j hj hn hokk H locs ls hP hD hS hl
      refine lv_iload_n hx hb dX1_field_46 rfl (lv_at hl 0 rfl) ?_
      refine lv_sipush (v := 144) hx hb dX1_field_47 (by decide) ?_
      refine lv_icmp_ge (tgt := 66) hx hb dX1_field_50 (by decide) (fun c50 => ?_) (fun c50 => ?_)
      · have hj4 : j = 144 := by have := le_n (a := 144) c50 (by decide) (by omega); omega
        rw [hj4] at hP hD
        refine lv_iconst (v := 1) hx hb dX1_field_66 (by decide) ?_
        have hok : okF a b = true := hokk
        have hP : va_P D vwCl (W1 o cI cZ 0 (cond (okF a b) a co) (cond (okF a b) b ro) tw (cond (okF a b) 0 ch) (cond (okF a b) (filF 144 0 sm) sm) od st cl us) H := by rw [hok]; exact hP
        have hD : va_D (wA (W1 o cI cZ th co ro tw ch sm od st cl us)) (W1 o cI cZ 0 (cond (okF a b) a co) (cond (okF a b) b ro) tw (cond (okF a b) 0 ch) (cond (okF a b) (filF 144 0 sm) sm) od st cl us) := by rw [hok]; exact hD
        exact W.zret (v := 1) (ty := .boolean) hx hb hr rfl (fun t ht hW => ⟨⟨_, (), rfl, by rw [hok]; rfl, by rw [ht]; exact hP, va_K.moved hW.alike hK, hD⟩, hS.F ht⟩) hS.2.2 dX1_field_67
      · refine lv_aload_n hx hb dX1_field_53 rfl (lv_at hl 1 rfl) ?_
        refine va_get (D := D) (ci := 1) (v := .ref (o 1)) (C := RX1) (T := TX1) (N := 10) hx hb hts hin0 hown hK hP 0 rfl rfl 4 (by decide) (hts (.fieldLink RX1 19 "HeightLinesModel" "samples" "[I") (by decide +kernel)) (fun _ h9 => h9) rfl dX1_field_54 ?_
        refine lv_iload_n hx hb dX1_field_57 rfl (lv_at hl 0 rfl) ?_
        refine lv_iconst (v := 0) hx hb dX1_field_58 (by decide) ?_
        refine an_iast (D := D) hx hb hK hP hD hS 1 0 rfl rfl (k := j) (by have := nle_n (a := 144) c50 (by decide) (by omega); omega) (by decide) dX1_field_59 (fun H locs hP hD hS => ?_)
        have hP : va_P D vwCl (W1 o cI cZ 0 a b tw 0 (upd (filF j 0 sm) j 0) od st cl us) H := hP
        have hD : va_D (wA (W1 o cI cZ th co ro tw ch sm od st cl us)) (W1 o cI cZ 0 a b tw 0 (upd (filF j 0 sm) j 0) od st cl us) := hD
        refine lv_iinc (v := (nI (j + 1))) (lv' := [(3, .int (nI (j + 1))), (0, .ref (o 0)), (1, .int a), (2, .int b)]) hx hb dX1_field_60 hl (k := 0) rfl (nI_p1 _) (by decide) rfl (fun ls hl => ?_)
        refine lv_goto (tgt := 46) hx hb dX1_field_63 (by decide) ?_
        rw [filF_s] at hP hD
        exact ih (j + 1) (by have := nle_n (a := 144) c50 (by decide) (by omega); omega) (by omega) hokk _ _ _ hP hD hS (lv_sub hl [0, 1, 2, 3] rfl)
  refine lv_aload_n hx hb dX1_field_0 rfl (lv_at hl 0 rfl) ?_
  refine lv_iconst (v := 0) hx hb dX1_field_1 (by decide) ?_
  refine va_put (D := D) (ci := 1) (v := .int 0) (ty := .int) (C := RX1) (T := TX1) (N := 10) hx hb hts hin0 tyX1 tyX1_ok nmX1 hown hK hP hD hS 0 rfl rfl 0 (by decide) (hts (.fieldLink RX1 36 "HeightLinesModel" "thrown" "I") (by decide +kernel)) (fun _ h9 => h9) rfl (by decide +kernel) rfl rfl (Nat.le_of_ble_eq_true rfl) dX1_field_2 (fun H locs hP hD hS => ?_)
  have hP : va_P D vwCl (W1 o cI cZ 0 co ro tw ch sm od st cl us) H := hP
  have hD : va_D (wA (W1 o cI cZ th co ro tw ch sm od st cl us)) (W1 o cI cZ 0 co ro tw ch sm od st cl us) := hD
  refine lv_iload_n hx hb dX1_field_5 rfl (lv_at hl 1 rfl) ?_
  refine lv_iconst (v := 2) hx hb dX1_field_6 (by decide) ?_
  refine lv_icmp_lt (tgt := 27) hx hb dX1_field_7 (by decide) (fun c7 => ?_) (fun c7 => ?_)
  · refine lv_iconst (v := 0) hx hb dX1_field_27 (by decide) ?_
    have hok : okF a b = false := bf_of okF_ok (fun z => absurd z.1.1 (Int32.not_le.mpr c7))
    have hP : va_P D vwCl (W1 o cI cZ 0 (cond (okF a b) a co) (cond (okF a b) b ro) tw (cond (okF a b) 0 ch) (cond (okF a b) (filF 144 0 sm) sm) od st cl us) H := by rw [hok]; exact hP
    have hD : va_D (wA (W1 o cI cZ th co ro tw ch sm od st cl us)) (W1 o cI cZ 0 (cond (okF a b) a co) (cond (okF a b) b ro) tw (cond (okF a b) 0 ch) (cond (okF a b) (filF 144 0 sm) sm) od st cl us) := by rw [hok]; exact hD
    exact W.zret (v := 0) (ty := .boolean) hx hb hr rfl (fun t ht hW => ⟨⟨_, (), rfl, by rw [hok]; rfl, by rw [ht]; exact hP, va_K.moved hW.alike hK, hD⟩, hS.F ht⟩) hS.2.2 dX1_field_28
  · refine lv_iload_n hx hb dX1_field_10 rfl (lv_at hl 1 rfl) ?_
    refine lv_bipush (v := 12) hx hb dX1_field_11 (by decide) ?_
    refine lv_icmp_gt (tgt := 27) hx hb dX1_field_13 (by decide) (fun c13 => ?_) (fun c13 => ?_)
    · refine lv_iconst (v := 0) hx hb dX1_field_27 (by decide) ?_
      have hok : okF a b = false := bf_of okF_ok (fun z => absurd z.1.2 (Int32.not_le.mpr c13))
      have hP : va_P D vwCl (W1 o cI cZ 0 (cond (okF a b) a co) (cond (okF a b) b ro) tw (cond (okF a b) 0 ch) (cond (okF a b) (filF 144 0 sm) sm) od st cl us) H := by rw [hok]; exact hP
      have hD : va_D (wA (W1 o cI cZ th co ro tw ch sm od st cl us)) (W1 o cI cZ 0 (cond (okF a b) a co) (cond (okF a b) b ro) tw (cond (okF a b) 0 ch) (cond (okF a b) (filF 144 0 sm) sm) od st cl us) := by rw [hok]; exact hD
      exact W.zret (v := 0) (ty := .boolean) hx hb hr rfl (fun t ht hW => ⟨⟨_, (), rfl, by rw [hok]; rfl, by rw [ht]; exact hP, va_K.moved hW.alike hK, hD⟩, hS.F ht⟩) hS.2.2 dX1_field_28
    · refine lv_iload_n hx hb dX1_field_16 rfl (lv_at hl 2 rfl) ?_
      refine lv_iconst (v := 2) hx hb dX1_field_17 (by decide) ?_
      refine lv_icmp_lt (tgt := 27) hx hb dX1_field_18 (by decide) (fun c18 => ?_) (fun c18 => ?_)
      · refine lv_iconst (v := 0) hx hb dX1_field_27 (by decide) ?_
        have hok : okF a b = false := bf_of okF_ok (fun z => absurd z.2.1 (Int32.not_le.mpr c18))
        have hP : va_P D vwCl (W1 o cI cZ 0 (cond (okF a b) a co) (cond (okF a b) b ro) tw (cond (okF a b) 0 ch) (cond (okF a b) (filF 144 0 sm) sm) od st cl us) H := by rw [hok]; exact hP
        have hD : va_D (wA (W1 o cI cZ th co ro tw ch sm od st cl us)) (W1 o cI cZ 0 (cond (okF a b) a co) (cond (okF a b) b ro) tw (cond (okF a b) 0 ch) (cond (okF a b) (filF 144 0 sm) sm) od st cl us) := by rw [hok]; exact hD
        exact W.zret (v := 0) (ty := .boolean) hx hb hr rfl (fun t ht hW => ⟨⟨_, (), rfl, by rw [hok]; rfl, by rw [ht]; exact hP, va_K.moved hW.alike hK, hD⟩, hS.F ht⟩) hS.2.2 dX1_field_28
      · refine lv_iload_n hx hb dX1_field_21 rfl (lv_at hl 2 rfl) ?_
        refine lv_bipush (v := 12) hx hb dX1_field_22 (by decide) ?_
        refine lv_icmp_le (tgt := 29) hx hb dX1_field_24 (by decide) (fun c24 => ?_) (fun c24 => ?_)
        · refine lv_aload_n hx hb dX1_field_29 rfl (lv_at hl 0 rfl) ?_
          refine lv_iload_n hx hb dX1_field_30 rfl (lv_at hl 1 rfl) ?_
          refine va_put (D := D) (ci := 1) (v := .int a) (ty := .int) (C := RX1) (T := TX1) (N := 10) hx hb hts hin0 tyX1 tyX1_ok nmX1 hown hK hP hD hS 0 rfl rfl 1 (by decide) (hts (.fieldLink RX1 7 "HeightLinesModel" "w" "I") (by decide +kernel)) (fun _ h9 => h9) rfl (by decide +kernel) rfl rfl (Nat.le_of_ble_eq_true rfl) dX1_field_31 (fun H locs hP hD hS => ?_)
          have hP : va_P D vwCl (W1 o cI cZ 0 a ro tw ch sm od st cl us) H := hP
          have hD : va_D (wA (W1 o cI cZ th co ro tw ch sm od st cl us)) (W1 o cI cZ 0 a ro tw ch sm od st cl us) := hD
          refine lv_aload_n hx hb dX1_field_34 rfl (lv_at hl 0 rfl) ?_
          refine lv_iload_n hx hb dX1_field_35 rfl (lv_at hl 2 rfl) ?_
          refine va_put (D := D) (ci := 1) (v := .int b) (ty := .int) (C := RX1) (T := TX1) (N := 10) hx hb hts hin0 tyX1 tyX1_ok nmX1 hown hK hP hD hS 0 rfl rfl 2 (by decide) (hts (.fieldLink RX1 13 "HeightLinesModel" "h" "I") (by decide +kernel)) (fun _ h9 => h9) rfl (by decide +kernel) rfl rfl (Nat.le_of_ble_eq_true rfl) dX1_field_36 (fun H locs hP hD hS => ?_)
          have hP : va_P D vwCl (W1 o cI cZ 0 a b tw ch sm od st cl us) H := hP
          have hD : va_D (wA (W1 o cI cZ th co ro tw ch sm od st cl us)) (W1 o cI cZ 0 a b tw ch sm od st cl us) := hD
          refine lv_aload_n hx hb dX1_field_39 rfl (lv_at hl 0 rfl) ?_
          refine lv_iconst (v := 0) hx hb dX1_field_40 (by decide) ?_
          refine va_put (D := D) (ci := 1) (v := .int 0) (ty := .int) (C := RX1) (T := TX1) (N := 10) hx hb hts hin0 tyX1 tyX1_ok nmX1 hown hK hP hD hS 0 rfl rfl 9 (by decide) (hts (.fieldLink RX1 39 "HeightLinesModel" "chains" "I") (by decide +kernel)) (fun _ h9 => h9) rfl (by decide +kernel) rfl rfl (Nat.le_of_ble_eq_true rfl) dX1_field_41 (fun H locs hP hD hS => ?_)
          have hP : va_P D vwCl (W1 o cI cZ 0 a b tw 0 sm od st cl us) H := hP
          have hD : va_D (wA (W1 o cI cZ th co ro tw ch sm od st cl us)) (W1 o cI cZ 0 a b tw 0 sm od st cl us) := hD
          refine lv_iconst (v := 0) hx hb dX1_field_44 (by decide) ?_
          refine lv_istore_n (lv' := [(3, .int 0), (0, .ref (o 0)), (1, .int a), (2, .int b)]) hx hb dX1_field_45 rfl hl (by decide) rfl (fun ls hl => ?_)
          have hokk : okF a b = true := okF_ok.mpr ⟨⟨Int32.not_lt.mp c7, Int32.not_lt.mp c13⟩, Int32.not_lt.mp c18, c24⟩
          have hP : va_P D vwCl (W1 o cI cZ 0 a b tw 0 (filF 0 0 sm) od st cl us) H := by rw [filF_0]; exact hP
          have hD : va_D (wA (W1 o cI cZ th co ro tw ch sm od st cl us)) (W1 o cI cZ 0 a b tw 0 (filF 0 0 sm) od st cl us) := by rw [filF_0]; exact hD
          exact lp 145 0 (by decide) (by decide) hokk _ _ _ hP hD hS (lv_sub hl [0, 1, 2, 3] rfl)
        · refine lv_iconst (v := 0) hx hb dX1_field_27 (by decide) ?_
          have hok : okF a b = false := bf_of okF_ok (fun z => c24 z.2.2)
          have hP : va_P D vwCl (W1 o cI cZ 0 (cond (okF a b) a co) (cond (okF a b) b ro) tw (cond (okF a b) 0 ch) (cond (okF a b) (filF 144 0 sm) sm) od st cl us) H := by rw [hok]; exact hP
          have hD : va_D (wA (W1 o cI cZ th co ro tw ch sm od st cl us)) (W1 o cI cZ 0 (cond (okF a b) a co) (cond (okF a b) b ro) tw (cond (okF a b) 0 ch) (cond (okF a b) (filF 144 0 sm) sm) od st cl us) := by rw [hok]; exact hD
          exact W.zret (v := 0) (ty := .boolean) hx hb hr rfl (fun t ht hW => ⟨⟨_, (), rfl, by rw [hok]; rfl, by rw [ht]; exact hP, va_K.moved hW.alike hK, hD⟩, hS.F ht⟩) hS.2.2 dX1_field_28

set_option maxHeartbeats 4000000 in
set_option maxRecDepth 100000 in
theorem c_X1_set (l : Launch) (D : va_G) (o : Nat → Nat) (cI cZ : ClassId) (th tw ch : Int32) (sm od st cl us : Nat → Int32) (w : Nat) (h : Nat) (a : Int32) (b : Int32) (v : Int32) (gw2 : w ≤ 12) (gh2 : h ≤ 12) : wiMet l yX1_set wsX1_set ({ frames := 0, cells := 0, slots := 0, locals := 0 } : Room) D (W1 o cI cZ th (nI w) (nI h) tw ch sm od st cl us) (W1 o cI cZ 0 (nI w) (nI h) tw ch (cond (okS w h a b v) (upd sm (12 * b.toNatClampNeg + a.toNatClampNeg) v) sm) od st cl us) [(cI, .int), (cZ, .boolean)] [.ref (o 0), .int a, .int b, .int v] (bI (okS w h a b v)) := by
  refine Met.ofW (cc := cX1_set) (maxL := 4) (ret := (some .boolean)) (by decide) rfl ?_
  intro p e s m args below meth c s₁ B hml hv
  obtain ⟨rfl, hP, hK, hD0⟩ := hv
  have hx := B.exec
  have hb := B.bytes
  have hr := B.returns
  have hts := atoms_spec (ws := wsX1_set) B.pre
  have hown : s.vm.findClass RX1 = some m.cls := findClass_of_methodNamed B.named
  have hlocks := B.notSynchronized
  have hin0 : ∀ w ∈ u_ws RX1 TX1 10, w ∈ wsX1_set := by decide +kernel
  have hD := wA_D hD0
  have hS : va_S (wA (W1 o cI cZ th (nI w) (nI h) tw ch sm od st cl us)) s.heap s.heap [] := va_S.rf
  obtain ⟨H, hH, hP, hS⟩ : ∃ H : Heap, s.heap = H ∧ va_P D vwCl (W1 o cI cZ th (nI w) (nI h) tw ch sm od st cl us) H ∧ va_S (wA (W1 o cI cZ th (nI w) (nI h) tw ch sm od st cl us)) s.heap H [] := ⟨_, rfl, hP, hS⟩
  rw [hH]
  have hl := lv_entry ([.ref (o 0), .int a, .int b, .int v]) (n := 4) (Nat.le_of_ble_eq_true rfl)
  rw [lg_entry_eq]
  generalize (lg_sl ([.ref (o 0), .int a, .int b, .int v]) ++ List.replicate (4 - (lg_sl ([.ref (o 0), .int a, .int b, .int v])).length) Slot.unset).toArray = ls at hl ⊢
  have hl : lv_has ls 4 [(0, .ref (o 0)), (1, .int a), (2, .int b), (3, .int v)] := hl
  refine lv_aload_n hx hb dX1_set_0 rfl (lv_at hl 0 rfl) ?_
  refine lv_iconst (v := 0) hx hb dX1_set_1 (by decide) ?_
  refine va_put (D := D) (ci := 1) (v := .int 0) (ty := .int) (C := RX1) (T := TX1) (N := 10) hx hb hts hin0 tyX1 tyX1_ok nmX1 hown hK hP hD hS 0 rfl rfl 0 (by decide) (hts (.fieldLink RX1 36 "HeightLinesModel" "thrown" "I") (by decide +kernel)) (fun _ h9 => h9) rfl (by decide +kernel) rfl rfl (Nat.le_of_ble_eq_true rfl) dX1_set_2 (fun H locs hP hD hS => ?_)
  have hP : va_P D vwCl (W1 o cI cZ 0 (nI w) (nI h) tw ch sm od st cl us) H := hP
  have hD : va_D (wA (W1 o cI cZ th (nI w) (nI h) tw ch sm od st cl us)) (W1 o cI cZ 0 (nI w) (nI h) tw ch sm od st cl us) := hD
  refine lv_iload_n hx hb dX1_set_5 rfl (lv_at hl 1 rfl) ?_
  refine lv_if_lt (tgt := 41) hx hb dX1_set_6 (by decide) (fun c6 => ?_) (fun c6 => ?_)
  · refine lv_iconst (v := 0) hx hb dX1_set_41 (by decide) ?_
    have hok : okS w h a b v = false := by unfold okS; simp [Int32.not_le.mpr c6]
    have hP : va_P D vwCl (W1 o cI cZ 0 (nI w) (nI h) tw ch (cond (okS w h a b v) (upd sm (12 * b.toNatClampNeg + a.toNatClampNeg) v) sm) od st cl us) H := by rw [hok]; exact hP
    have hD : va_D (wA (W1 o cI cZ th (nI w) (nI h) tw ch sm od st cl us)) (W1 o cI cZ 0 (nI w) (nI h) tw ch (cond (okS w h a b v) (upd sm (12 * b.toNatClampNeg + a.toNatClampNeg) v) sm) od st cl us) := by rw [hok]; exact hD
    exact W.zret (v := 0) (ty := .boolean) hx hb hr rfl (fun t ht hW => ⟨⟨_, (), rfl, by rw [hok]; rfl, by rw [ht]; exact hP, va_K.moved hW.alike hK, hD⟩, hS.F ht⟩) hS.2.2 dX1_set_42
  · refine lv_iload_n hx hb dX1_set_9 rfl (lv_at hl 1 rfl) ?_
    refine lv_aload_n hx hb dX1_set_10 rfl (lv_at hl 0 rfl) ?_
    refine va_get (D := D) (ci := 1) (v := .int (nI w)) (C := RX1) (T := TX1) (N := 10) hx hb hts hin0 hown hK hP 0 rfl rfl 1 (by decide) (hts (.fieldLink RX1 7 "HeightLinesModel" "w" "I") (by decide +kernel)) (fun _ h9 => h9) rfl dX1_set_11 ?_
    refine lv_icmp_ge (tgt := 41) hx hb dX1_set_14 (by decide) (fun c14 => ?_) (fun c14 => ?_)
    · refine lv_iconst (v := 0) hx hb dX1_set_41 (by decide) ?_
      have hok : okS w h a b v = false := by unfold okS; simp [Int32.not_lt.mpr c14]
      have hP : va_P D vwCl (W1 o cI cZ 0 (nI w) (nI h) tw ch (cond (okS w h a b v) (upd sm (12 * b.toNatClampNeg + a.toNatClampNeg) v) sm) od st cl us) H := by rw [hok]; exact hP
      have hD : va_D (wA (W1 o cI cZ th (nI w) (nI h) tw ch sm od st cl us)) (W1 o cI cZ 0 (nI w) (nI h) tw ch (cond (okS w h a b v) (upd sm (12 * b.toNatClampNeg + a.toNatClampNeg) v) sm) od st cl us) := by rw [hok]; exact hD
      exact W.zret (v := 0) (ty := .boolean) hx hb hr rfl (fun t ht hW => ⟨⟨_, (), rfl, by rw [hok]; rfl, by rw [ht]; exact hP, va_K.moved hW.alike hK, hD⟩, hS.F ht⟩) hS.2.2 dX1_set_42
    · refine lv_iload_n hx hb dX1_set_17 rfl (lv_at hl 2 rfl) ?_
      refine lv_if_lt (tgt := 41) hx hb dX1_set_18 (by decide) (fun c18 => ?_) (fun c18 => ?_)
      · refine lv_iconst (v := 0) hx hb dX1_set_41 (by decide) ?_
        have hok : okS w h a b v = false := by unfold okS okY; simp [Int32.not_le.mpr c18]
        have hP : va_P D vwCl (W1 o cI cZ 0 (nI w) (nI h) tw ch (cond (okS w h a b v) (upd sm (12 * b.toNatClampNeg + a.toNatClampNeg) v) sm) od st cl us) H := by rw [hok]; exact hP
        have hD : va_D (wA (W1 o cI cZ th (nI w) (nI h) tw ch sm od st cl us)) (W1 o cI cZ 0 (nI w) (nI h) tw ch (cond (okS w h a b v) (upd sm (12 * b.toNatClampNeg + a.toNatClampNeg) v) sm) od st cl us) := by rw [hok]; exact hD
        exact W.zret (v := 0) (ty := .boolean) hx hb hr rfl (fun t ht hW => ⟨⟨_, (), rfl, by rw [hok]; rfl, by rw [ht]; exact hP, va_K.moved hW.alike hK, hD⟩, hS.F ht⟩) hS.2.2 dX1_set_42
      · refine lv_iload_n hx hb dX1_set_21 rfl (lv_at hl 2 rfl) ?_
        refine lv_aload_n hx hb dX1_set_22 rfl (lv_at hl 0 rfl) ?_
        refine va_get (D := D) (ci := 1) (v := .int (nI h)) (C := RX1) (T := TX1) (N := 10) hx hb hts hin0 hown hK hP 0 rfl rfl 2 (by decide) (hts (.fieldLink RX1 13 "HeightLinesModel" "h" "I") (by decide +kernel)) (fun _ h9 => h9) rfl dX1_set_23 ?_
        refine lv_icmp_ge (tgt := 41) hx hb dX1_set_26 (by decide) (fun c26 => ?_) (fun c26 => ?_)
        · refine lv_iconst (v := 0) hx hb dX1_set_41 (by decide) ?_
          have hok : okS w h a b v = false := by unfold okS okY; simp [Int32.not_lt.mpr c26]
          have hP : va_P D vwCl (W1 o cI cZ 0 (nI w) (nI h) tw ch (cond (okS w h a b v) (upd sm (12 * b.toNatClampNeg + a.toNatClampNeg) v) sm) od st cl us) H := by rw [hok]; exact hP
          have hD : va_D (wA (W1 o cI cZ th (nI w) (nI h) tw ch sm od st cl us)) (W1 o cI cZ 0 (nI w) (nI h) tw ch (cond (okS w h a b v) (upd sm (12 * b.toNatClampNeg + a.toNatClampNeg) v) sm) od st cl us) := by rw [hok]; exact hD
          exact W.zret (v := 0) (ty := .boolean) hx hb hr rfl (fun t ht hW => ⟨⟨_, (), rfl, by rw [hok]; rfl, by rw [ht]; exact hP, va_K.moved hW.alike hK, hD⟩, hS.F ht⟩) hS.2.2 dX1_set_42
        · refine lv_iload_n hx hb dX1_set_29 rfl (lv_at hl 3 rfl) ?_
          refine lv_ldc (v := (-1000000)) hx hb hown (hts (.constant RX1 42 (-1000000)) (by decide +kernel)) dX1_set_30 ?_
          refine lv_icmp_lt (tgt := 41) hx hb dX1_set_32 (by decide) (fun c32 => ?_) (fun c32 => ?_)
          · refine lv_iconst (v := 0) hx hb dX1_set_41 (by decide) ?_
            have hok : okS w h a b v = false := by unfold okS; rw [hold_ok, decide_eq_false (Int32.not_le.mpr c32)]; simp
            have hP : va_P D vwCl (W1 o cI cZ 0 (nI w) (nI h) tw ch (cond (okS w h a b v) (upd sm (12 * b.toNatClampNeg + a.toNatClampNeg) v) sm) od st cl us) H := by rw [hok]; exact hP
            have hD : va_D (wA (W1 o cI cZ th (nI w) (nI h) tw ch sm od st cl us)) (W1 o cI cZ 0 (nI w) (nI h) tw ch (cond (okS w h a b v) (upd sm (12 * b.toNatClampNeg + a.toNatClampNeg) v) sm) od st cl us) := by rw [hok]; exact hD
            exact W.zret (v := 0) (ty := .boolean) hx hb hr rfl (fun t ht hW => ⟨⟨_, (), rfl, by rw [hok]; rfl, by rw [ht]; exact hP, va_K.moved hW.alike hK, hD⟩, hS.F ht⟩) hS.2.2 dX1_set_42
          · refine lv_iload_n hx hb dX1_set_35 rfl (lv_at hl 3 rfl) ?_
            refine lv_ldc (v := 1000000) hx hb hown (hts (.constant RX1 43 (1000000)) (by decide +kernel)) dX1_set_36 ?_
            refine lv_icmp_le (tgt := 43) hx hb dX1_set_38 (by decide) (fun c38 => ?_) (fun c38 => ?_)
            · obtain ⟨x, hx9, ea⟩ : ∃ j, j < w ∧ a = nI j := okY_n (h := w) (by unfold okY; rw [decide_eq_true (Int32.not_lt.mp c6), decide_eq_true (Int32.not_le.mp c14)]; rfl) (by omega)
              obtain ⟨y, hy9, eb⟩ : ∃ j, j < h ∧ b = nI j := okY_n (h := h) (by unfold okY; rw [decide_eq_true (Int32.not_lt.mp c18), decide_eq_true (Int32.not_le.mp c26)]; rfl) (by omega)
              have ha9 : a.toNatClampNeg = x := by rw [ea, nI_clamp (by omega)]
              have hb9 : b.toNatClampNeg = y := by rw [eb, nI_clamp (by omega)]
              rw [ea, eb] at hl
              refine lv_aload_n hx hb dX1_set_43 rfl (lv_at hl 0 rfl) ?_
              refine va_get (D := D) (ci := 1) (v := .ref (o 1)) (C := RX1) (T := TX1) (N := 10) hx hb hts hin0 hown hK hP 0 rfl rfl 4 (by decide) (hts (.fieldLink RX1 19 "HeightLinesModel" "samples" "[I") (by decide +kernel)) (fun _ h9 => h9) rfl dX1_set_44 ?_
              refine lv_bipush (v := 12) hx hb dX1_set_47 (by decide) ?_
              refine lv_iload_n hx hb dX1_set_49 rfl (lv_at hl 2 rfl) ?_
              refine lv_imul hx hb dX1_set_50 ?_
              refine lv_iload_n hx hb dX1_set_51 rfl (lv_at hl 1 rfl) ?_
              refine lv_iadd hx hb dX1_set_52 ?_
              rw [show ((12 * nI y) + nI x) = nI (12 * y + x) from nI_12]
              refine lv_iload_n hx hb dX1_set_53 rfl (lv_at hl 3 rfl) ?_
              refine an_iast (D := D) hx hb hK hP hD hS 1 0 rfl rfl (k := 12 * y + x) (by omega) (by decide) dX1_set_54 (fun H locs hP hD hS => ?_)
              have hP : va_P D vwCl (W1 o cI cZ 0 (nI w) (nI h) tw ch (upd sm (12 * y + x) v) od st cl us) H := hP
              have hD : va_D (wA (W1 o cI cZ th (nI w) (nI h) tw ch sm od st cl us)) (W1 o cI cZ 0 (nI w) (nI h) tw ch (upd sm (12 * y + x) v) od st cl us) := hD
              refine lv_iconst (v := 1) hx hb dX1_set_55 (by decide) ?_
              have hok : okS w h a b v = true := by unfold okS okY; rw [hold_ok, decide_eq_true (Int32.not_lt.mp c6), decide_eq_true (Int32.not_le.mp c14), decide_eq_true (Int32.not_lt.mp c18), decide_eq_true (Int32.not_le.mp c26), decide_eq_true (Int32.not_lt.mp c32), decide_eq_true c38]; rfl
              have hP : va_P D vwCl (W1 o cI cZ 0 (nI w) (nI h) tw ch (cond (okS w h a b v) (upd sm (12 * b.toNatClampNeg + a.toNatClampNeg) v) sm) od st cl us) H := by rw [hok, ha9, hb9]; exact hP
              have hD : va_D (wA (W1 o cI cZ th (nI w) (nI h) tw ch sm od st cl us)) (W1 o cI cZ 0 (nI w) (nI h) tw ch (cond (okS w h a b v) (upd sm (12 * b.toNatClampNeg + a.toNatClampNeg) v) sm) od st cl us) := by rw [hok, ha9, hb9]; exact hD
              exact W.zret (v := 1) (ty := .boolean) hx hb hr rfl (fun t ht hW => ⟨⟨_, (), rfl, by rw [hok]; rfl, by rw [ht]; exact hP, va_K.moved hW.alike hK, hD⟩, hS.F ht⟩) hS.2.2 dX1_set_56
            · refine lv_iconst (v := 0) hx hb dX1_set_41 (by decide) ?_
              have hok : okS w h a b v = false := by unfold okS; rw [hold_ok, decide_eq_false c38]; simp
              have hP : va_P D vwCl (W1 o cI cZ 0 (nI w) (nI h) tw ch (cond (okS w h a b v) (upd sm (12 * b.toNatClampNeg + a.toNatClampNeg) v) sm) od st cl us) H := by rw [hok]; exact hP
              have hD : va_D (wA (W1 o cI cZ th (nI w) (nI h) tw ch sm od st cl us)) (W1 o cI cZ 0 (nI w) (nI h) tw ch (cond (okS w h a b v) (upd sm (12 * b.toNatClampNeg + a.toNatClampNeg) v) sm) od st cl us) := by rw [hok]; exact hD
              exact W.zret (v := 0) (ty := .boolean) hx hb hr rfl (fun t ht hW => ⟨⟨_, (), rfl, by rw [hok]; rfl, by rw [ht]; exact hP, va_K.moved hW.alike hK, hD⟩, hS.F ht⟩) hS.2.2 dX1_set_42

set_option maxHeartbeats 4000000 in
set_option maxRecDepth 100000 in
theorem c_X1_row (l : Launch) (D : va_G) (o : Nat → Nat) (cI cZ : ClassId) (th tw ch : Int32) (sm od st cl us : Nat → Int32) (w : Nat) (h : Nat) (b : Int32) (fr : Int32) (sp : Int32) (gw2 : w ≤ 12) (gh2 : h ≤ 12) : wiMet l yX1_row wsX1_row ({ frames := 0, cells := 0, slots := 0, locals := 0 } : Room) D (W1 o cI cZ th (nI w) (nI h) tw ch sm od st cl us) (W1 o cI cZ 0 (nI w) (nI h) tw ch (cond (okY h b) (rowR b.toNatClampNeg fr sp sm w) sm) od st cl us) [(cI, .int), (cZ, .boolean)] [.ref (o 0), .int b, .int fr, .int sp] (bI (okY h b)) := by
  refine Met.ofW (cc := cX1_row) (maxL := 7) (ret := (some .boolean)) (by decide) rfl ?_
  intro p e s m args below meth c s₁ B hml hv
  obtain ⟨rfl, hP, hK, hD0⟩ := hv
  have hx := B.exec
  have hb := B.bytes
  have hr := B.returns
  have hts := atoms_spec (ws := wsX1_row) B.pre
  have hown : s.vm.findClass RX1 = some m.cls := findClass_of_methodNamed B.named
  have hlocks := B.notSynchronized
  have hin0 : ∀ w ∈ u_ws RX1 TX1 10, w ∈ wsX1_row := by decide +kernel
  have hD := wA_D hD0
  have hS : va_S (wA (W1 o cI cZ th (nI w) (nI h) tw ch sm od st cl us)) s.heap s.heap [] := va_S.rf
  obtain ⟨H, hH, hP, hS⟩ : ∃ H : Heap, s.heap = H ∧ va_P D vwCl (W1 o cI cZ th (nI w) (nI h) tw ch sm od st cl us) H ∧ va_S (wA (W1 o cI cZ th (nI w) (nI h) tw ch sm od st cl us)) s.heap H [] := ⟨_, rfl, hP, hS⟩
  rw [hH]
  have hl := lv_entry ([.ref (o 0), .int b, .int fr, .int sp]) (n := 7) (Nat.le_of_ble_eq_true rfl)
  rw [lg_entry_eq]
  generalize (lg_sl ([.ref (o 0), .int b, .int fr, .int sp]) ++ List.replicate (7 - (lg_sl ([.ref (o 0), .int b, .int fr, .int sp])).length) Slot.unset).toArray = ls at hl ⊢
  have hl : lv_has ls 7 [(0, .ref (o 0)), (1, .int b), (2, .int fr), (3, .int sp)] := hl
  have lp : ∀ (n : Nat) (j : Nat) (y : Nat), (j ≤ w) → (w + 1 ≤ j + n) → (y < h) → (b = nI y) → (okY h b = true) → ∀ (H : Heap) (locs : List Loc) (ls : Array Slot), va_P D vwCl (W1 o cI cZ 0 (nI w) (nI h) tw ch (rowR y fr sp sm j) od st cl us) H → va_D (wA (W1 o cI cZ th (nI w) (nI h) tw ch sm od st cl us)) (W1 o cI cZ 0 (nI w) (nI h) tw ch (rowR y fr sp sm j) od st cl us) → va_S (wA (W1 o cI cZ th (nI w) (nI h) tw ch sm od st cl us)) s.heap H locs → lv_has ls 7 [(4, .int (nI j)), (0, .ref (o 0)), (1, .int (nI y)), (2, .int fr), (3, .int sp)] → W p l e (headSpec wsX1_row ({ frames := 0, cells := 0, slots := 0, locals := 0 } : Room)).room s m ([.ref (o 0), .int b, .int fr, .int sp] : List Value).toArray below meth c H locs 0 0 (MQ below (va_Qi (fun r (_ : Unit) => r = bI (okY h b)) (wB D (W1 o cI cZ th (nI w) (nI h) tw ch sm od st cl us) (W1 o cI cZ 0 (nI w) (nI h) tw ch (cond (okY h b) (rowR b.toNatClampNeg fr sp sm w) sm) od st cl us) [(cI, .int), (cZ, .boolean)]) (wA (W1 o cI cZ th (nI w) (nI h) tw ch sm od st cl us))) ([.ref (o 0), .int b, .int fr, .int sp] : List Value).toArray s 0 0 (wA (W1 o cI cZ th (nI w) (nI h) tw ch sm od st cl us))) (F0 m 22 ls []) := by
    intro n
    induction n with
    | zero =>
      intro j y hj hn hy9 eb hok0
      exact absurd hn (by omega)
    | succ n ih =>
      intro j y hj hn hy9 eb hok0 H locs ls hP hD hS hl
      refine lv_iload hx hb dX1_row_22 (lv_at hl 0 rfl) ?_
      refine lv_aload_n hx hb dX1_row_24 rfl (lv_at hl 1 rfl) ?_
      refine va_get (D := D) (ci := 1) (v := .int (nI w)) (C := RX1) (T := TX1) (N := 10) hx hb hts hin0 hown hK hP 0 rfl rfl 1 (by decide) (hts (.fieldLink RX1 7 "HeightLinesModel" "w" "I") (by decide +kernel)) (fun _ h9 => h9) rfl dX1_row_25 ?_
      refine lv_icmp_ge (tgt := 91) hx hb dX1_row_28 (by decide) (fun c28 => ?_) (fun c28 => ?_)
      · have hjw : j = w := by have := le_n c28 (by omega) (by omega); omega
        rw [hjw] at hP hD
        refine lv_iconst (v := 1) hx hb dX1_row_91 (by decide) ?_
        have hok : okY h b = true := hok0
        have hP : va_P D vwCl (W1 o cI cZ 0 (nI w) (nI h) tw ch (cond (okY h b) (rowR b.toNatClampNeg fr sp sm w) sm) od st cl us) H := by rw [hok, show b.toNatClampNeg = y from by rw [eb, nI_clamp (by omega)]]; exact hP
        have hD : va_D (wA (W1 o cI cZ th (nI w) (nI h) tw ch sm od st cl us)) (W1 o cI cZ 0 (nI w) (nI h) tw ch (cond (okY h b) (rowR b.toNatClampNeg fr sp sm w) sm) od st cl us) := by rw [hok, show b.toNatClampNeg = y from by rw [eb, nI_clamp (by omega)]]; exact hD
        exact W.zret (v := 1) (ty := .boolean) hx hb hr rfl (fun t ht hW => ⟨⟨_, (), rfl, by rw [hok]; rfl, by rw [ht]; exact hP, va_K.moved hW.alike hK, hD⟩, hS.F ht⟩) hS.2.2 dX1_row_92
      · refine lv_iload_n hx hb dX1_row_31 rfl (lv_at hl 3 rfl) ?_
        refine lv_i2l hx hb dX1_row_32 rfl ?_
        refine lv_iload_n hx hb dX1_row_33 rfl (lv_at hl 4 rfl) ?_
        refine lv_i2l hx hb dX1_row_34 rfl ?_
        refine lv_iload hx hb dX1_row_35 (lv_at hl 0 rfl) ?_
        refine lv_i2l hx hb dX1_row_37 rfl ?_
        refine lv_lmul hx hb dX1_row_38 ?_
        refine lv_ladd hx hb dX1_row_39 ?_
        refine lv_topl (fun x40 ex40 => ?_)
        refine lv_lstore (lv' := [(5, .long x40), (4, .int (nI j)), (0, .ref (o 0)), (1, .int (nI y)), (2, .int fr), (3, .int sp)]) hx hb dX1_row_40 hl (by decide) rfl (fun ls hl => ?_)
        have ev9 : x40 = fr.toInt64 + (nI j).toInt64 * sp.toInt64 := by rw [ex40, Int64.mul_comm]
        refine lv_aload_n hx hb dX1_row_42 rfl (lv_at hl 2 rfl) ?_
        refine va_get (D := D) (ci := 1) (v := .ref (o 1)) (C := RX1) (T := TX1) (N := 10) hx hb hts hin0 hown hK hP 0 rfl rfl 4 (by decide) (hts (.fieldLink RX1 19 "HeightLinesModel" "samples" "[I") (by decide +kernel)) (fun _ h9 => h9) rfl dX1_row_43 ?_
        refine lv_bipush (v := 12) hx hb dX1_row_46 (by decide) ?_
        refine lv_iload_n hx hb dX1_row_48 rfl (lv_at hl 3 rfl) ?_
        refine lv_imul hx hb dX1_row_49 ?_
        refine lv_iload hx hb dX1_row_50 (lv_at hl 1 rfl) ?_
        refine lv_iadd hx hb dX1_row_52 ?_
        rw [show ((12 * nI y) + nI j) = nI (12 * y + j) from nI_12]
        refine lv_lload hx hb dX1_row_53 (lv_at hl 0 rfl) ?_
        refine lv_ldc2 (v := (-1000000)) hx hb hown (hts (.constantLong RX1 44 (-1000000)) (by decide +kernel)) dX1_row_55 ?_
        refine W.lcmp hx hb dX1_row_58 ?_
        refine lv_if_ge (tgt := 67) hx hb dX1_row_59 (by decide) (fun c59 => ?_) (fun c59 => ?_)
        · refine lv_lload hx hb dX1_row_67 (lv_at hl 0 rfl) ?_
          refine lv_ldc2 (v := 1000000) hx hb hown (hts (.constantLong RX1 46 (1000000)) (by decide +kernel)) dX1_row_69 ?_
          refine W.lcmp hx hb dX1_row_72 ?_
          refine lv_if_le (tgt := 81) hx hb dX1_row_73 (by decide) (fun c73 => ?_) (fun c73 => ?_)
          · refine lv_lload hx hb dX1_row_81 (lv_at hl 0 rfl) ?_
            refine lv_l2i hx hb dX1_row_83 rfl ?_
            rw [show x40.toInt32 = holdI (fr.toInt64 + (nI j).toInt64 * sp.toInt64) from ((hold_in (v := fr.toInt64 + (nI j).toInt64 * sp.toInt64) (by rw [← ev9]; exact Int64.not_lt.mpr ((lg_cmp_ge _ _).mp c59)) (by rw [← ev9]; exact Int64.not_lt.mpr ((lg_cmp_le _ _).mp c73))).trans (congrArg Int64.toInt32 ev9.symm)).symm]
            refine an_iast (D := D) hx hb hK hP hD hS 1 0 rfl rfl (k := 12 * y + j) (by have := (nle_n c28 (by omega) (by omega)); omega) (by decide) dX1_row_84 (fun H locs hP hD hS => ?_)
            have hP : va_P D vwCl (W1 o cI cZ 0 (nI w) (nI h) tw ch (upd (rowR y fr sp sm j) (12 * y + j) (holdI (fr.toInt64 + (nI j).toInt64 * sp.toInt64))) od st cl us) H := hP
            have hD : va_D (wA (W1 o cI cZ th (nI w) (nI h) tw ch sm od st cl us)) (W1 o cI cZ 0 (nI w) (nI h) tw ch (upd (rowR y fr sp sm j) (12 * y + j) (holdI (fr.toInt64 + (nI j).toInt64 * sp.toInt64))) od st cl us) := hD
            refine lv_iinc (v := (nI (j + 1))) (lv' := [(4, .int (nI (j + 1))), (5, .long x40), (0, .ref (o 0)), (1, .int (nI y)), (2, .int fr), (3, .int sp)]) hx hb dX1_row_85 hl (k := 1) rfl (nI_p1 _) (by decide) rfl (fun ls hl => ?_)
            refine lv_goto (tgt := 22) hx hb dX1_row_88 (by decide) ?_
            have hP : va_P D vwCl (W1 o cI cZ 0 (nI w) (nI h) tw ch (rowR y fr sp sm (j + 1)) od st cl us) H := hP
            have hD : va_D (wA (W1 o cI cZ th (nI w) (nI h) tw ch sm od st cl us)) (W1 o cI cZ 0 (nI w) (nI h) tw ch (rowR y fr sp sm (j + 1)) od st cl us) := hD
            exact ih (j + 1) y (nle_n c28 (by omega) (by omega)) (by omega) hy9 eb hok0 _ _ _ hP hD hS (lv_sub hl [0, 2, 3, 4, 5] rfl)
          · refine lv_ldc (v := 1000000) hx hb hown (hts (.constant RX1 43 (1000000)) (by decide +kernel)) dX1_row_76 ?_
            refine lv_goto (tgt := 84) hx hb dX1_row_78 (by decide) ?_
            rw [show 1000000 = holdI (fr.toInt64 + (nI j).toInt64 * sp.toInt64) from (hold_hi (v := fr.toInt64 + (nI j).toInt64 * sp.toInt64) (by rw [← ev9]; exact Int64.not_le.mp (fun z => c73 ((lg_cmp_le _ _).mpr z)))).symm]
            refine an_iast (D := D) hx hb hK hP hD hS 1 0 rfl rfl (k := 12 * y + j) (by have := (nle_n c28 (by omega) (by omega)); omega) (by decide) dX1_row_84 (fun H locs hP hD hS => ?_)
            have hP : va_P D vwCl (W1 o cI cZ 0 (nI w) (nI h) tw ch (upd (rowR y fr sp sm j) (12 * y + j) (holdI (fr.toInt64 + (nI j).toInt64 * sp.toInt64))) od st cl us) H := hP
            have hD : va_D (wA (W1 o cI cZ th (nI w) (nI h) tw ch sm od st cl us)) (W1 o cI cZ 0 (nI w) (nI h) tw ch (upd (rowR y fr sp sm j) (12 * y + j) (holdI (fr.toInt64 + (nI j).toInt64 * sp.toInt64))) od st cl us) := hD
            refine lv_iinc (v := (nI (j + 1))) (lv' := [(4, .int (nI (j + 1))), (5, .long x40), (0, .ref (o 0)), (1, .int (nI y)), (2, .int fr), (3, .int sp)]) hx hb dX1_row_85 hl (k := 1) rfl (nI_p1 _) (by decide) rfl (fun ls hl => ?_)
            refine lv_goto (tgt := 22) hx hb dX1_row_88 (by decide) ?_
            have hP : va_P D vwCl (W1 o cI cZ 0 (nI w) (nI h) tw ch (rowR y fr sp sm (j + 1)) od st cl us) H := hP
            have hD : va_D (wA (W1 o cI cZ th (nI w) (nI h) tw ch sm od st cl us)) (W1 o cI cZ 0 (nI w) (nI h) tw ch (rowR y fr sp sm (j + 1)) od st cl us) := hD
            exact ih (j + 1) y (nle_n c28 (by omega) (by omega)) (by omega) hy9 eb hok0 _ _ _ hP hD hS (lv_sub hl [0, 2, 3, 4, 5] rfl)
        · refine lv_ldc (v := (-1000000)) hx hb hown (hts (.constant RX1 42 (-1000000)) (by decide +kernel)) dX1_row_62 ?_
          refine lv_goto (tgt := 84) hx hb dX1_row_64 (by decide) ?_
          rw [show (-1000000) = holdI (fr.toInt64 + (nI j).toInt64 * sp.toInt64) from (hold_lo (v := fr.toInt64 + (nI j).toInt64 * sp.toInt64) (by rw [← ev9]; exact Int64.not_le.mp (fun z => c59 ((lg_cmp_ge _ _).mpr z)))).symm]
          refine an_iast (D := D) hx hb hK hP hD hS 1 0 rfl rfl (k := 12 * y + j) (by have := (nle_n c28 (by omega) (by omega)); omega) (by decide) dX1_row_84 (fun H locs hP hD hS => ?_)
          have hP : va_P D vwCl (W1 o cI cZ 0 (nI w) (nI h) tw ch (upd (rowR y fr sp sm j) (12 * y + j) (holdI (fr.toInt64 + (nI j).toInt64 * sp.toInt64))) od st cl us) H := hP
          have hD : va_D (wA (W1 o cI cZ th (nI w) (nI h) tw ch sm od st cl us)) (W1 o cI cZ 0 (nI w) (nI h) tw ch (upd (rowR y fr sp sm j) (12 * y + j) (holdI (fr.toInt64 + (nI j).toInt64 * sp.toInt64))) od st cl us) := hD
          refine lv_iinc (v := (nI (j + 1))) (lv' := [(4, .int (nI (j + 1))), (5, .long x40), (0, .ref (o 0)), (1, .int (nI y)), (2, .int fr), (3, .int sp)]) hx hb dX1_row_85 hl (k := 1) rfl (nI_p1 _) (by decide) rfl (fun ls hl => ?_)
          refine lv_goto (tgt := 22) hx hb dX1_row_88 (by decide) ?_
          have hP : va_P D vwCl (W1 o cI cZ 0 (nI w) (nI h) tw ch (rowR y fr sp sm (j + 1)) od st cl us) H := hP
          have hD : va_D (wA (W1 o cI cZ th (nI w) (nI h) tw ch sm od st cl us)) (W1 o cI cZ 0 (nI w) (nI h) tw ch (rowR y fr sp sm (j + 1)) od st cl us) := hD
          exact ih (j + 1) y (nle_n c28 (by omega) (by omega)) (by omega) hy9 eb hok0 _ _ _ hP hD hS (lv_sub hl [0, 2, 3, 4, 5] rfl)
  refine lv_aload_n hx hb dX1_row_0 rfl (lv_at hl 0 rfl) ?_
  refine lv_iconst (v := 0) hx hb dX1_row_1 (by decide) ?_
  refine va_put (D := D) (ci := 1) (v := .int 0) (ty := .int) (C := RX1) (T := TX1) (N := 10) hx hb hts hin0 tyX1 tyX1_ok nmX1 hown hK hP hD hS 0 rfl rfl 0 (by decide) (hts (.fieldLink RX1 36 "HeightLinesModel" "thrown" "I") (by decide +kernel)) (fun _ h9 => h9) rfl (by decide +kernel) rfl rfl (Nat.le_of_ble_eq_true rfl) dX1_row_2 (fun H locs hP hD hS => ?_)
  have hP : va_P D vwCl (W1 o cI cZ 0 (nI w) (nI h) tw ch sm od st cl us) H := hP
  have hD : va_D (wA (W1 o cI cZ th (nI w) (nI h) tw ch sm od st cl us)) (W1 o cI cZ 0 (nI w) (nI h) tw ch sm od st cl us) := hD
  refine lv_iload_n hx hb dX1_row_5 rfl (lv_at hl 1 rfl) ?_
  refine lv_if_lt (tgt := 17) hx hb dX1_row_6 (by decide) (fun c6 => ?_) (fun c6 => ?_)
  · refine lv_iconst (v := 0) hx hb dX1_row_17 (by decide) ?_
    have hok : okY h b = false := by unfold okY; rw [decide_eq_false (Int32.not_le.mpr c6)]; rfl
    have hP : va_P D vwCl (W1 o cI cZ 0 (nI w) (nI h) tw ch (cond (okY h b) (rowR b.toNatClampNeg fr sp sm w) sm) od st cl us) H := by rw [hok]; exact hP
    have hD : va_D (wA (W1 o cI cZ th (nI w) (nI h) tw ch sm od st cl us)) (W1 o cI cZ 0 (nI w) (nI h) tw ch (cond (okY h b) (rowR b.toNatClampNeg fr sp sm w) sm) od st cl us) := by rw [hok]; exact hD
    exact W.zret (v := 0) (ty := .boolean) hx hb hr rfl (fun t ht hW => ⟨⟨_, (), rfl, by rw [hok]; rfl, by rw [ht]; exact hP, va_K.moved hW.alike hK, hD⟩, hS.F ht⟩) hS.2.2 dX1_row_18
  · refine lv_iload_n hx hb dX1_row_9 rfl (lv_at hl 1 rfl) ?_
    refine lv_aload_n hx hb dX1_row_10 rfl (lv_at hl 0 rfl) ?_
    refine va_get (D := D) (ci := 1) (v := .int (nI h)) (C := RX1) (T := TX1) (N := 10) hx hb hts hin0 hown hK hP 0 rfl rfl 2 (by decide) (hts (.fieldLink RX1 13 "HeightLinesModel" "h" "I") (by decide +kernel)) (fun _ h9 => h9) rfl dX1_row_11 ?_
    refine lv_icmp_lt (tgt := 19) hx hb dX1_row_14 (by decide) (fun c14 => ?_) (fun c14 => ?_)
    · have hok0 : okY h b = true := by unfold okY; rw [decide_eq_true (Int32.not_lt.mp c6), decide_eq_true c14]; rfl
      obtain ⟨y, hy9, eb⟩ : ∃ j, j < h ∧ b = nI j := okY_n (h := h) hok0 (by omega)
      rw [eb] at hl
      refine lv_iconst (v := 0) hx hb dX1_row_19 (by decide) ?_
      refine lv_istore (lv' := [(4, .int 0), (0, .ref (o 0)), (1, .int (nI y)), (2, .int fr), (3, .int sp)]) hx hb dX1_row_20 hl (by decide) rfl (fun ls hl => ?_)
      exact lp (w + 1) 0 y (Nat.zero_le _) (by omega) hy9 eb hok0 _ _ _ hP hD hS (lv_sub hl [0, 1, 2, 3, 4] rfl)
    · refine lv_iconst (v := 0) hx hb dX1_row_17 (by decide) ?_
      have hok : okY h b = false := by unfold okY; rw [decide_eq_false c14]; simp
      have hP : va_P D vwCl (W1 o cI cZ 0 (nI w) (nI h) tw ch (cond (okY h b) (rowR b.toNatClampNeg fr sp sm w) sm) od st cl us) H := by rw [hok]; exact hP
      have hD : va_D (wA (W1 o cI cZ th (nI w) (nI h) tw ch sm od st cl us)) (W1 o cI cZ 0 (nI w) (nI h) tw ch (cond (okY h b) (rowR b.toNatClampNeg fr sp sm w) sm) od st cl us) := by rw [hok]; exact hD
      exact W.zret (v := 0) (ty := .boolean) hx hb hr rfl (fun t ht hW => ⟨⟨_, (), rfl, by rw [hok]; rfl, by rw [ht]; exact hP, va_K.moved hW.alike hK, hD⟩, hS.F ht⟩) hS.2.2 dX1_row_18

set_option maxHeartbeats 4000000 in
set_option maxRecDepth 100000 in
theorem c_X1_height (l : Launch) (D : va_G) (o : Nat → Nat) (cI cZ : ClassId) (th co ro tw ch : Int32) (sm od st cl us : Nat → Int32) (t : Int32) : wiMet l yX1_height wsX1_height ({ frames := 0, cells := 0, slots := 0, locals := 0 } : Room) D (W1 o cI cZ th co ro tw ch sm od st cl us) (W1 o cI cZ 0 co ro (cond (okT t) t tw) ch sm od st cl us) [(cI, .int), (cZ, .boolean)] [.ref (o 0), .int t] (bI (okT t)) := by
  refine Met.ofW (cc := cX1_height) (maxL := 2) (ret := (some .boolean)) (by decide) rfl ?_
  intro p e s m args below meth c s₁ B hml hv
  obtain ⟨rfl, hP, hK, hD0⟩ := hv
  have hx := B.exec
  have hb := B.bytes
  have hr := B.returns
  have hts := atoms_spec (ws := wsX1_height) B.pre
  have hown : s.vm.findClass RX1 = some m.cls := findClass_of_methodNamed B.named
  have hlocks := B.notSynchronized
  have hin0 : ∀ w ∈ u_ws RX1 TX1 10, w ∈ wsX1_height := by decide +kernel
  have hD := wA_D hD0
  have hS : va_S (wA (W1 o cI cZ th co ro tw ch sm od st cl us)) s.heap s.heap [] := va_S.rf
  obtain ⟨H, hH, hP, hS⟩ : ∃ H : Heap, s.heap = H ∧ va_P D vwCl (W1 o cI cZ th co ro tw ch sm od st cl us) H ∧ va_S (wA (W1 o cI cZ th co ro tw ch sm od st cl us)) s.heap H [] := ⟨_, rfl, hP, hS⟩
  rw [hH]
  have hl := lv_entry ([.ref (o 0), .int t]) (n := 2) (Nat.le_of_ble_eq_true rfl)
  rw [lg_entry_eq]
  generalize (lg_sl ([.ref (o 0), .int t]) ++ List.replicate (2 - (lg_sl ([.ref (o 0), .int t])).length) Slot.unset).toArray = ls at hl ⊢
  have hl : lv_has ls 2 [(0, .ref (o 0)), (1, .int t)] := hl
  refine lv_aload_n hx hb dX1_height_0 rfl (lv_at hl 0 rfl) ?_
  refine lv_iconst (v := 0) hx hb dX1_height_1 (by decide) ?_
  refine va_put (D := D) (ci := 1) (v := .int 0) (ty := .int) (C := RX1) (T := TX1) (N := 10) hx hb hts hin0 tyX1 tyX1_ok nmX1 hown hK hP hD hS 0 rfl rfl 0 (by decide) (hts (.fieldLink RX1 36 "HeightLinesModel" "thrown" "I") (by decide +kernel)) (fun _ h9 => h9) rfl (by decide +kernel) rfl rfl (Nat.le_of_ble_eq_true rfl) dX1_height_2 (fun H locs hP hD hS => ?_)
  have hP : va_P D vwCl (W1 o cI cZ 0 co ro tw ch sm od st cl us) H := hP
  have hD : va_D (wA (W1 o cI cZ th co ro tw ch sm od st cl us)) (W1 o cI cZ 0 co ro tw ch sm od st cl us) := hD
  refine lv_iload_n hx hb dX1_height_5 rfl (lv_at hl 1 rfl) ?_
  refine lv_ldc (v := (-1999999)) hx hb hown (hts (.constant RX1 48 (-1999999)) (by decide +kernel)) dX1_height_6 ?_
  refine lv_icmp_lt (tgt := 23) hx hb dX1_height_8 (by decide) (fun c8 => ?_) (fun c8 => ?_)
  · refine lv_iconst (v := 0) hx hb dX1_height_23 (by decide) ?_
    have hok : okT t = false := bf_of okT_ok (fun z => absurd z.2.1 (Int32.not_le.mpr c8))
    have hP : va_P D vwCl (W1 o cI cZ 0 co ro (cond (okT t) t tw) ch sm od st cl us) H := by rw [hok]; exact hP
    have hD : va_D (wA (W1 o cI cZ th co ro tw ch sm od st cl us)) (W1 o cI cZ 0 co ro (cond (okT t) t tw) ch sm od st cl us) := by rw [hok]; exact hD
    exact W.zret (v := 0) (ty := .boolean) hx hb hr rfl (fun t ht hW => ⟨⟨_, (), rfl, by rw [hok]; rfl, by rw [ht]; exact hP, va_K.moved hW.alike hK, hD⟩, hS.F ht⟩) hS.2.2 dX1_height_24
  · refine lv_iload_n hx hb dX1_height_11 rfl (lv_at hl 1 rfl) ?_
    refine lv_ldc (v := 1999999) hx hb hown (hts (.constant RX1 49 (1999999)) (by decide +kernel)) dX1_height_12 ?_
    refine lv_icmp_gt (tgt := 23) hx hb dX1_height_14 (by decide) (fun c14 => ?_) (fun c14 => ?_)
    · refine lv_iconst (v := 0) hx hb dX1_height_23 (by decide) ?_
      have hok : okT t = false := bf_of okT_ok (fun z => absurd z.2.2 (Int32.not_le.mpr c14))
      have hP : va_P D vwCl (W1 o cI cZ 0 co ro (cond (okT t) t tw) ch sm od st cl us) H := by rw [hok]; exact hP
      have hD : va_D (wA (W1 o cI cZ th co ro tw ch sm od st cl us)) (W1 o cI cZ 0 co ro (cond (okT t) t tw) ch sm od st cl us) := by rw [hok]; exact hD
      exact W.zret (v := 0) (ty := .boolean) hx hb hr rfl (fun t ht hW => ⟨⟨_, (), rfl, by rw [hok]; rfl, by rw [ht]; exact hP, va_K.moved hW.alike hK, hD⟩, hS.F ht⟩) hS.2.2 dX1_height_24
    · refine lv_iload_n hx hb dX1_height_17 rfl (lv_at hl 1 rfl) ?_
      refine lv_iconst (v := 2) hx hb dX1_height_18 (by decide) ?_
      refine lv_irem hx hb dX1_height_19 (by decide) ?_
      refine lv_if_ne (tgt := 25) hx hb dX1_height_20 (by decide) (fun c20 => ?_) (fun c20 => ?_)
      · refine lv_aload_n hx hb dX1_height_25 rfl (lv_at hl 0 rfl) ?_
        refine lv_iload_n hx hb dX1_height_26 rfl (lv_at hl 1 rfl) ?_
        refine va_put (D := D) (ci := 1) (v := .int t) (ty := .int) (C := RX1) (T := TX1) (N := 10) hx hb hts hin0 tyX1 tyX1_ok nmX1 hown hK hP hD hS 0 rfl rfl 3 (by decide) (hts (.fieldLink RX1 16 "HeightLinesModel" "twice" "I") (by decide +kernel)) (fun _ h9 => h9) rfl (by decide +kernel) rfl rfl (Nat.le_of_ble_eq_true rfl) dX1_height_27 (fun H locs hP hD hS => ?_)
        have hP : va_P D vwCl (W1 o cI cZ 0 co ro t ch sm od st cl us) H := hP
        have hD : va_D (wA (W1 o cI cZ th co ro tw ch sm od st cl us)) (W1 o cI cZ 0 co ro t ch sm od st cl us) := hD
        refine lv_iconst (v := 1) hx hb dX1_height_30 (by decide) ?_
        have hok : okT t = true := okT_ok.mpr ⟨(odd_iff t).mpr c20, Int32.not_lt.mp c8, Int32.not_lt.mp c14⟩
        have hP : va_P D vwCl (W1 o cI cZ 0 co ro (cond (okT t) t tw) ch sm od st cl us) H := by rw [hok]; exact hP
        have hD : va_D (wA (W1 o cI cZ th co ro tw ch sm od st cl us)) (W1 o cI cZ 0 co ro (cond (okT t) t tw) ch sm od st cl us) := by rw [hok]; exact hD
        exact W.zret (v := 1) (ty := .boolean) hx hb hr rfl (fun t ht hW => ⟨⟨_, (), rfl, by rw [hok]; rfl, by rw [ht]; exact hP, va_K.moved hW.alike hK, hD⟩, hS.F ht⟩) hS.2.2 dX1_height_31
      · refine lv_iconst (v := 0) hx hb dX1_height_23 (by decide) ?_
        have hok : okT t = false := bf_of okT_ok (fun z => (odd_iff t).mp z.1 c20)
        have hP : va_P D vwCl (W1 o cI cZ 0 co ro (cond (okT t) t tw) ch sm od st cl us) H := by rw [hok]; exact hP
        have hD : va_D (wA (W1 o cI cZ th co ro tw ch sm od st cl us)) (W1 o cI cZ 0 co ro (cond (okT t) t tw) ch sm od st cl us) := by rw [hok]; exact hD
        exact W.zret (v := 0) (ty := .boolean) hx hb hr rfl (fun t ht hW => ⟨⟨_, (), rfl, by rw [hok]; rfl, by rw [ht]; exact hP, va_K.moved hW.alike hK, hD⟩, hS.F ht⟩) hS.2.2 dX1_height_24

set_option maxHeartbeats 4000000 in
set_option maxRecDepth 100000 in
theorem c_X1_thrown (l : Launch) (D : va_G) (o : Nat → Nat) (cI cZ : ClassId) (th co ro tw ch : Int32) (sm od st cl us : Nat → Int32) : roMet l yX1_thrown wsX1_thrown ({ frames := 0, cells := 0, slots := 0, locals := 0 } : Room) D (W1 o cI cZ th co ro tw ch sm od st cl us) [(cI, .int), (cZ, .boolean)] [.ref (o 0)] (fun r => r = th) := by
  refine Met.ofW (cc := cX1_thrown) (maxL := 1) (ret := (some .int)) (by decide) rfl ?_
  intro p e s m args below meth c s₁ B hml hv
  obtain ⟨rfl, hP, hK⟩ := hv
  have hx := B.exec
  have hb := B.bytes
  have hr := B.returns
  have hts := atoms_spec (ws := wsX1_thrown) B.pre
  have hown : s.vm.findClass RX1 = some m.cls := findClass_of_methodNamed B.named
  have hlocks := B.notSynchronized
  have hin0 : ∀ w ∈ u_ws RX1 TX1 10, w ∈ wsX1_thrown := by decide +kernel
  have hS : va_S (fun _ => False) s.heap s.heap [] := va_S.rf
  have hP : va_P D vwCl (W1 o cI cZ th co ro tw ch sm od st cl us) s.heap := hP
  have hl := lv_entry ([.ref (o 0)]) (n := 1) (Nat.le_of_ble_eq_true rfl)
  rw [lg_entry_eq]
  generalize (lg_sl ([.ref (o 0)]) ++ List.replicate (1 - (lg_sl ([.ref (o 0)])).length) Slot.unset).toArray = ls at hl ⊢
  have hl : lv_has ls 1 [(0, .ref (o 0))] := hl
  refine lv_aload_n hx hb dX1_thrown_0 rfl (lv_at hl 0 rfl) ?_
  refine va_get (D := D) (ci := 1) (v := .int th) (C := RX1) (T := TX1) (N := 10) hx hb hts hin0 hown hK hP 0 rfl rfl 0 (by decide) (hts (.fieldLink RX1 36 "HeightLinesModel" "thrown" "I") (by decide +kernel)) (fun _ h9 => h9) rfl dX1_thrown_1 ?_
  exact W.iret (v := th) hx hb hr (fun t ht hW => ⟨⟨_, (), rfl, rfl, trivial⟩, hS.F ht⟩) hS.2.2 dX1_thrown_4

set_option maxHeartbeats 4000000 in
set_option maxRecDepth 100000 in
theorem c_X1_size (l : Launch) (D : va_G) (o : Nat → Nat) (cI cZ : ClassId) (th co ro tw : Int32) (sm od st cl us : Nat → Int32) (L : List (List Nat)) (y : Int32) (gL : L.length ≤ 132) (gst : ∀ i, i ≤ L.length → st i = nI (pfx L i)) : wiMet l yX1_size wsX1_size ({ frames := 1, cells := 0, slots := 0, locals := 21 } : Room) D (W1 o cI cZ th co ro tw (nI L.length) sm od st cl us) (W1 o cI cZ 0 co ro tw (nI L.length) sm od st cl us) [(cI, .int), (cZ, .boolean)] [.ref (o 0), .int y] (szL L y) := by
  refine Met.ofW (cc := cX1_size) (maxL := 2) (ret := (some .int)) (by decide) rfl ?_
  intro p e s m args below meth c s₁ B hml hv
  obtain ⟨rfl, hP, hK, hD0⟩ := hv
  have hx := B.exec
  have hb := B.bytes
  have hr := B.returns
  have hts := atoms_spec (ws := wsX1_size) B.pre
  have hown : s.vm.findClass RX1 = some m.cls := findClass_of_methodNamed B.named
  have hlocks := B.notSynchronized
  have hin0 : ∀ w ∈ u_ws RX1 TX1 10, w ∈ wsX1_size := by decide +kernel
  have hD := wA_D hD0
  have hS : va_S (wA (W1 o cI cZ th co ro tw (nI L.length) sm od st cl us)) s.heap s.heap [] := va_S.rf
  obtain ⟨H, hH, hP, hS⟩ : ∃ H : Heap, s.heap = H ∧ va_P D vwCl (W1 o cI cZ th co ro tw (nI L.length) sm od st cl us) H ∧ va_S (wA (W1 o cI cZ th co ro tw (nI L.length) sm od st cl us)) s.heap H [] := ⟨_, rfl, hP, hS⟩
  rw [hH]
  have hl := lv_entry ([.ref (o 0), .int y]) (n := 2) (Nat.le_of_ble_eq_true rfl)
  rw [lg_entry_eq]
  generalize (lg_sl ([.ref (o 0), .int y]) ++ List.replicate (2 - (lg_sl ([.ref (o 0), .int y])).length) Slot.unset).toArray = ls at hl ⊢
  have hl : lv_has ls 2 [(0, .ref (o 0)), (1, .int y)] := hl
  refine lv_aload_n hx hb dX1_size_0 rfl (lv_at hl 0 rfl) ?_
  refine lv_iconst (v := 0) hx hb dX1_size_1 (by decide) ?_
  refine va_put (D := D) (ci := 1) (v := .int 0) (ty := .int) (C := RX1) (T := TX1) (N := 10) hx hb hts hin0 tyX1 tyX1_ok nmX1 hown hK hP hD hS 0 rfl rfl 0 (by decide) (hts (.fieldLink RX1 36 "HeightLinesModel" "thrown" "I") (by decide +kernel)) (fun _ h9 => h9) rfl (by decide +kernel) rfl rfl (Nat.le_of_ble_eq_true rfl) dX1_size_2 (fun H locs hP hD hS => ?_)
  have hP : va_P D vwCl (W1 o cI cZ 0 co ro tw (nI L.length) sm od st cl us) H := hP
  have hD : va_D (wA (W1 o cI cZ th co ro tw (nI L.length) sm od st cl us)) (W1 o cI cZ 0 co ro tw (nI L.length) sm od st cl us) := hD
  refine lv_aload_n hx hb dX1_size_5 rfl (lv_at hl 0 rfl) ?_
  refine lv_iload_n hx hb dX1_size_6 rfl (lv_at hl 1 rfl) ?_
  refine ro_V1 ⟨hx, hb, hml, hown, hts⟩ (c_X1_isChain l D o cI cZ 0 co ro tw (nI L.length) sm od st cl us y) (cwV 1 hts gX1_size_X1_isChain rfl rfl rfl (by decide +kernel) ⟨Nat.le_of_ble_eq_true rfl, Nat.le_of_ble_eq_true rfl⟩) (va_recv hK hP (ci := 1) (q0 := 0) rfl rfl) hP hK hP hS rfl hl.1 (lv_room (Nat.le_of_ble_eq_true rfl)) dX1_size_7 ⟨Nat.le_of_ble_eq_true rfl, Nat.le_of_ble_eq_true rfl⟩ (fun r7 H locs hr7 hP hS => ?_)
  subst hr7
  refine lv_if_eq (tgt := 31) hx hb dX1_size_10 (by decide) (fun c10 => ?_) (fun c10 => ?_)
  · refine lv_iconst (v := (-1)) hx hb dX1_size_31 (by decide) ?_
    exact W.iret (v := (-1)) hx hb hr (fun t ht hW => ⟨⟨_, (), rfl, by rw [szL_z (bI_0.mp c10)], by rw [ht]; exact hP, va_K.moved hW.alike hK, hD⟩, hS.F ht⟩) hS.2.2 dX1_size_32
  · obtain ⟨j, hj9, ey⟩ : ∃ j, j < L.length ∧ y = nI j := okY_n (h := L.length) (bI_n0.mp c10) (by omega)
    rw [ey] at hl
    refine lv_aload_n hx hb dX1_size_13 rfl (lv_at hl 0 rfl) ?_
    refine va_get (D := D) (ci := 1) (v := .ref (o 3)) (C := RX1) (T := TX1) (N := 10) hx hb hts hin0 hown hK hP 0 rfl rfl 6 (by decide) (hts (.fieldLink RX1 26 "HeightLinesModel" "begins" "[I") (by decide +kernel)) (fun _ h9 => h9) rfl dX1_size_14 ?_
    refine lv_iload_n hx hb dX1_size_17 rfl (lv_at hl 1 rfl) ?_
    refine lv_iconst (v := 1) hx hb dX1_size_18 (by decide) ?_
    refine lv_iadd hx hb dX1_size_19 ?_
    rw [show (nI j + 1) = nI (j + 1) from nI_p1 j]
    refine an_iald (D := D) hx hb hK hP 3 0 rfl rfl (k := j + 1) (by omega) (by decide) dX1_size_20 ?_
    refine lv_aload_n hx hb dX1_size_21 rfl (lv_at hl 0 rfl) ?_
    refine va_get (D := D) (ci := 1) (v := .ref (o 3)) (C := RX1) (T := TX1) (N := 10) hx hb hts hin0 hown hK hP 0 rfl rfl 6 (by decide) (hts (.fieldLink RX1 26 "HeightLinesModel" "begins" "[I") (by decide +kernel)) (fun _ h9 => h9) rfl dX1_size_22 ?_
    refine lv_iload_n hx hb dX1_size_25 rfl (lv_at hl 1 rfl) ?_
    refine an_iald (D := D) hx hb hK hP 3 0 rfl rfl (k := j) (by omega) (by decide) dX1_size_26 ?_
    refine lv_isub hx hb dX1_size_27 ?_
    refine lv_goto (tgt := 32) hx hb dX1_size_28 (by decide) ?_
    exact W.iret (v := ((st (j + 1)) - (st j))) hx hb hr (fun t ht hW => ⟨⟨_, (), rfl, by rw [ey, szL_n hj9 (by omega), gst (j + 1) (by omega), gst j (by omega), pk_sub (pfx_mono (by omega))], by rw [ht]; exact hP, va_K.moved hW.alike hK, hD⟩, hS.F ht⟩) hS.2.2 dX1_size_32

set_option maxHeartbeats 4000000 in
set_option maxRecDepth 100000 in
theorem c_X1_isClosed (l : Launch) (D : va_G) (o : Nat → Nat) (cI cZ : ClassId) (th co ro tw : Int32) (sm od st cl us : Nat → Int32) (L : List (List Nat)) (no : Nat) (y : Int32) (gL : L.length ≤ 132) (gno : no ≤ L.length) (gcl : ∀ i, i < L.length → cl i = bI (decide (no ≤ i))) : wiMet l yX1_isClosed wsX1_isClosed ({ frames := 1, cells := 0, slots := 0, locals := 21 } : Room) D (W1 o cI cZ th co ro tw (nI L.length) sm od st cl us) (W1 o cI cZ 0 co ro tw (nI L.length) sm od st cl us) [(cI, .int), (cZ, .boolean)] [.ref (o 0), .int y] (bI (clL L no y)) := by
  refine Met.ofW (cc := cX1_isClosed) (maxL := 2) (ret := (some .boolean)) (by decide) rfl ?_
  intro p e s m args below meth c s₁ B hml hv
  obtain ⟨rfl, hP, hK, hD0⟩ := hv
  have hx := B.exec
  have hb := B.bytes
  have hr := B.returns
  have hts := atoms_spec (ws := wsX1_isClosed) B.pre
  have hown : s.vm.findClass RX1 = some m.cls := findClass_of_methodNamed B.named
  have hlocks := B.notSynchronized
  have hin0 : ∀ w ∈ u_ws RX1 TX1 10, w ∈ wsX1_isClosed := by decide +kernel
  have hD := wA_D hD0
  have hS : va_S (wA (W1 o cI cZ th co ro tw (nI L.length) sm od st cl us)) s.heap s.heap [] := va_S.rf
  obtain ⟨H, hH, hP, hS⟩ : ∃ H : Heap, s.heap = H ∧ va_P D vwCl (W1 o cI cZ th co ro tw (nI L.length) sm od st cl us) H ∧ va_S (wA (W1 o cI cZ th co ro tw (nI L.length) sm od st cl us)) s.heap H [] := ⟨_, rfl, hP, hS⟩
  rw [hH]
  have hl := lv_entry ([.ref (o 0), .int y]) (n := 2) (Nat.le_of_ble_eq_true rfl)
  rw [lg_entry_eq]
  generalize (lg_sl ([.ref (o 0), .int y]) ++ List.replicate (2 - (lg_sl ([.ref (o 0), .int y])).length) Slot.unset).toArray = ls at hl ⊢
  have hl : lv_has ls 2 [(0, .ref (o 0)), (1, .int y)] := hl
  refine lv_aload_n hx hb dX1_isClosed_0 rfl (lv_at hl 0 rfl) ?_
  refine lv_iconst (v := 0) hx hb dX1_isClosed_1 (by decide) ?_
  refine va_put (D := D) (ci := 1) (v := .int 0) (ty := .int) (C := RX1) (T := TX1) (N := 10) hx hb hts hin0 tyX1 tyX1_ok nmX1 hown hK hP hD hS 0 rfl rfl 0 (by decide) (hts (.fieldLink RX1 36 "HeightLinesModel" "thrown" "I") (by decide +kernel)) (fun _ h9 => h9) rfl (by decide +kernel) rfl rfl (Nat.le_of_ble_eq_true rfl) dX1_isClosed_2 (fun H locs hP hD hS => ?_)
  have hP : va_P D vwCl (W1 o cI cZ 0 co ro tw (nI L.length) sm od st cl us) H := hP
  have hD : va_D (wA (W1 o cI cZ th co ro tw (nI L.length) sm od st cl us)) (W1 o cI cZ 0 co ro tw (nI L.length) sm od st cl us) := hD
  refine lv_aload_n hx hb dX1_isClosed_5 rfl (lv_at hl 0 rfl) ?_
  refine lv_iload_n hx hb dX1_isClosed_6 rfl (lv_at hl 1 rfl) ?_
  refine ro_V1 ⟨hx, hb, hml, hown, hts⟩ (c_X1_isChain l D o cI cZ 0 co ro tw (nI L.length) sm od st cl us y) (cwV 1 hts gX1_isClosed_X1_isChain rfl rfl rfl (by decide +kernel) ⟨Nat.le_of_ble_eq_true rfl, Nat.le_of_ble_eq_true rfl⟩) (va_recv hK hP (ci := 1) (q0 := 0) rfl rfl) hP hK hP hS rfl hl.1 (lv_room (Nat.le_of_ble_eq_true rfl)) dX1_isClosed_7 ⟨Nat.le_of_ble_eq_true rfl, Nat.le_of_ble_eq_true rfl⟩ (fun r7 H locs hr7 hP hS => ?_)
  subst hr7
  refine lv_if_eq (tgt := 26) hx hb dX1_isClosed_10 (by decide) (fun c10 => ?_) (fun c10 => ?_)
  · refine lv_iconst (v := 0) hx hb dX1_isClosed_26 (by decide) ?_
    exact W.zret (v := 0) (ty := .boolean) hx hb hr rfl (fun t ht hW => ⟨⟨_, (), rfl, bI_z (by unfold clL; rw [show okY L.length y = false from bI_0.mp c10]; rfl), by rw [ht]; exact hP, va_K.moved hW.alike hK, hD⟩, hS.F ht⟩) hS.2.2 dX1_isClosed_27
  · obtain ⟨j, hj9, ey⟩ : ∃ j, j < L.length ∧ y = nI j := okY_n (h := L.length) (bI_n0.mp c10) (by omega)
    rw [ey] at hl
    refine lv_aload_n hx hb dX1_isClosed_13 rfl (lv_at hl 0 rfl) ?_
    refine va_get (D := D) (ci := 1) (v := .ref (o 4)) (C := RX1) (T := TX1) (N := 10) hx hb hts hin0 hown hK hP 0 rfl rfl 7 (by decide) (hts (.fieldLink RX1 29 "HeightLinesModel" "closed" "[Z") (by decide +kernel)) (fun _ h9 => h9) rfl dX1_isClosed_14 ?_
    refine lv_iload_n hx hb dX1_isClosed_17 rfl (lv_at hl 1 rfl) ?_
    refine an_zald (D := D) hx hb hK hP 4 1 rfl rfl (k := j) (by omega) (by decide) dX1_isClosed_18 ?_
    rw [show (cl j) = bI (decide (no ≤ j)) from gcl j hj9]
    refine lv_if_eq (tgt := 26) hx hb dX1_isClosed_19 (by decide) (fun c19 => ?_) (fun c19 => ?_)
    · refine lv_iconst (v := 0) hx hb dX1_isClosed_26 (by decide) ?_
      exact W.zret (v := 0) (ty := .boolean) hx hb hr rfl (fun t ht hW => ⟨⟨_, (), rfl, bI_z (by unfold clL; rw [show okY L.length y = true from bI_n0.mp c10, ey, decide_eq_false (fun z => bd_f c19 (le_n z (by omega) (by omega)))]; rfl), by rw [ht]; exact hP, va_K.moved hW.alike hK, hD⟩, hS.F ht⟩) hS.2.2 dX1_isClosed_27
    · refine lv_iconst (v := 1) hx hb dX1_isClosed_22 (by decide) ?_
      refine lv_goto (tgt := 27) hx hb dX1_isClosed_23 (by decide) ?_
      exact W.zret (v := 1) (ty := .boolean) hx hb hr rfl (fun t ht hW => ⟨⟨_, (), rfl, bI_1 (by unfold clL; rw [show okY L.length y = true from bI_n0.mp c10, ey, decide_eq_true (nI_le (bd_t c19) (by omega))]; rfl), by rw [ht]; exact hP, va_K.moved hW.alike hK, hD⟩, hS.F ht⟩) hS.2.2 dX1_isClosed_27

set_option maxHeartbeats 4000000 in
set_option maxRecDepth 100000 in
theorem c_X1_edge (l : Launch) (D : va_G) (o : Nat → Nat) (cI cZ : ClassId) (th co ro tw : Int32) (sm od st cl us : Nat → Int32) (L : List (List Nat)) (y : Int32) (i : Int32) (gL : L.length ≤ 132) (gst : ∀ i, i ≤ L.length → st i = nI (pfx L i)) (gU : L.flatten.length ≤ 264) (god : ∀ j, j < L.flatten.length → od j = nI (L.flatten.getD j 0)) : wiMet l yX1_edge wsX1_edge ({ frames := 1, cells := 0, slots := 0, locals := 21 } : Room) D (W1 o cI cZ th co ro tw (nI L.length) sm od st cl us) (W1 o cI cZ 0 co ro tw (nI L.length) sm od st cl us) [(cI, .int), (cZ, .boolean)] [.ref (o 0), .int y, .int i] (edL L y i) := by
  refine Met.ofW (cc := cX1_edge) (maxL := 3) (ret := (some .int)) (by decide) rfl ?_
  intro p e s m args below meth c s₁ B hml hv
  obtain ⟨rfl, hP, hK, hD0⟩ := hv
  have hx := B.exec
  have hb := B.bytes
  have hr := B.returns
  have hts := atoms_spec (ws := wsX1_edge) B.pre
  have hown : s.vm.findClass RX1 = some m.cls := findClass_of_methodNamed B.named
  have hlocks := B.notSynchronized
  have hin0 : ∀ w ∈ u_ws RX1 TX1 10, w ∈ wsX1_edge := by decide +kernel
  have hD := wA_D hD0
  have hS : va_S (wA (W1 o cI cZ th co ro tw (nI L.length) sm od st cl us)) s.heap s.heap [] := va_S.rf
  obtain ⟨H, hH, hP, hS⟩ : ∃ H : Heap, s.heap = H ∧ va_P D vwCl (W1 o cI cZ th co ro tw (nI L.length) sm od st cl us) H ∧ va_S (wA (W1 o cI cZ th co ro tw (nI L.length) sm od st cl us)) s.heap H [] := ⟨_, rfl, hP, hS⟩
  rw [hH]
  have hl := lv_entry ([.ref (o 0), .int y, .int i]) (n := 3) (Nat.le_of_ble_eq_true rfl)
  rw [lg_entry_eq]
  generalize (lg_sl ([.ref (o 0), .int y, .int i]) ++ List.replicate (3 - (lg_sl ([.ref (o 0), .int y, .int i])).length) Slot.unset).toArray = ls at hl ⊢
  have hl : lv_has ls 3 [(0, .ref (o 0)), (1, .int y), (2, .int i)] := hl
  refine lv_aload_n hx hb dX1_edge_0 rfl (lv_at hl 0 rfl) ?_
  refine lv_iconst (v := 0) hx hb dX1_edge_1 (by decide) ?_
  refine va_put (D := D) (ci := 1) (v := .int 0) (ty := .int) (C := RX1) (T := TX1) (N := 10) hx hb hts hin0 tyX1 tyX1_ok nmX1 hown hK hP hD hS 0 rfl rfl 0 (by decide) (hts (.fieldLink RX1 36 "HeightLinesModel" "thrown" "I") (by decide +kernel)) (fun _ h9 => h9) rfl (by decide +kernel) rfl rfl (Nat.le_of_ble_eq_true rfl) dX1_edge_2 (fun H locs hP hD hS => ?_)
  have hP : va_P D vwCl (W1 o cI cZ 0 co ro tw (nI L.length) sm od st cl us) H := hP
  have hD : va_D (wA (W1 o cI cZ th co ro tw (nI L.length) sm od st cl us)) (W1 o cI cZ 0 co ro tw (nI L.length) sm od st cl us) := hD
  refine lv_aload_n hx hb dX1_edge_5 rfl (lv_at hl 0 rfl) ?_
  refine lv_iload_n hx hb dX1_edge_6 rfl (lv_at hl 1 rfl) ?_
  refine ro_V1 ⟨hx, hb, hml, hown, hts⟩ (c_X1_isChain l D o cI cZ 0 co ro tw (nI L.length) sm od st cl us y) (cwV 1 hts gX1_edge_X1_isChain rfl rfl rfl (by decide +kernel) ⟨Nat.le_of_ble_eq_true rfl, Nat.le_of_ble_eq_true rfl⟩) (va_recv hK hP (ci := 1) (q0 := 0) rfl rfl) hP hK hP hS rfl hl.1 (lv_room (Nat.le_of_ble_eq_true rfl)) dX1_edge_7 ⟨Nat.le_of_ble_eq_true rfl, Nat.le_of_ble_eq_true rfl⟩ (fun r7 H locs hr7 hP hS => ?_)
  subst hr7
  refine lv_if_eq (tgt := 52) hx hb dX1_edge_10 (by decide) (fun c10 => ?_) (fun c10 => ?_)
  · refine lv_iconst (v := (-1)) hx hb dX1_edge_52 (by decide) ?_
    exact W.iret (v := (-1)) hx hb hr (fun t ht hW => ⟨⟨_, (), rfl, by rw [edL_z (Or.inl (bI_0.mp c10))], by rw [ht]; exact hP, va_K.moved hW.alike hK, hD⟩, hS.F ht⟩) hS.2.2 dX1_edge_53
  · obtain ⟨j, hj9, ey⟩ : ∃ j, j < L.length ∧ y = nI j := okY_n (h := L.length) (bI_n0.mp c10) (by omega)
    rw [ey] at hl
    refine lv_iload_n hx hb dX1_edge_13 rfl (lv_at hl 2 rfl) ?_
    refine lv_if_lt (tgt := 52) hx hb dX1_edge_14 (by decide) (fun c14 => ?_) (fun c14 => ?_)
    · refine lv_iconst (v := (-1)) hx hb dX1_edge_52 (by decide) ?_
      exact W.iret (v := (-1)) hx hb hr (fun t ht hW => ⟨⟨_, (), rfl, by rw [edL_z (Or.inr (by unfold okY; rw [decide_eq_false (Int32.not_le.mpr c14)]; rfl))], by rw [ht]; exact hP, va_K.moved hW.alike hK, hD⟩, hS.F ht⟩) hS.2.2 dX1_edge_53
    · refine lv_iload_n hx hb dX1_edge_17 rfl (lv_at hl 2 rfl) ?_
      refine lv_aload_n hx hb dX1_edge_18 rfl (lv_at hl 0 rfl) ?_
      refine va_get (D := D) (ci := 1) (v := .ref (o 3)) (C := RX1) (T := TX1) (N := 10) hx hb hts hin0 hown hK hP 0 rfl rfl 6 (by decide) (hts (.fieldLink RX1 26 "HeightLinesModel" "begins" "[I") (by decide +kernel)) (fun _ h9 => h9) rfl dX1_edge_19 ?_
      refine lv_iload_n hx hb dX1_edge_22 rfl (lv_at hl 1 rfl) ?_
      refine lv_iconst (v := 1) hx hb dX1_edge_23 (by decide) ?_
      refine lv_iadd hx hb dX1_edge_24 ?_
      rw [show (nI j + 1) = nI (j + 1) from nI_p1 j]
      refine an_iald (D := D) hx hb hK hP 3 0 rfl rfl (k := j + 1) (by omega) (by decide) dX1_edge_25 ?_
      rw [show (st (j + 1)) = nI (pfx L (j + 1)) from gst (j + 1) (by omega)]
      refine lv_aload_n hx hb dX1_edge_26 rfl (lv_at hl 0 rfl) ?_
      refine va_get (D := D) (ci := 1) (v := .ref (o 3)) (C := RX1) (T := TX1) (N := 10) hx hb hts hin0 hown hK hP 0 rfl rfl 6 (by decide) (hts (.fieldLink RX1 26 "HeightLinesModel" "begins" "[I") (by decide +kernel)) (fun _ h9 => h9) rfl dX1_edge_27 ?_
      refine lv_iload_n hx hb dX1_edge_30 rfl (lv_at hl 1 rfl) ?_
      refine an_iald (D := D) hx hb hK hP 3 0 rfl rfl (k := j) (by omega) (by decide) dX1_edge_31 ?_
      rw [show (st j) = nI (pfx L j) from gst j (by omega)]
      refine lv_isub hx hb dX1_edge_32 ?_
      rw [show (nI (pfx L (j + 1)) - nI (pfx L j)) = nI (pfx L (j + 1) - pfx L j) from pk_sub (pfx_mono (by omega))]
      refine lv_icmp_ge (tgt := 52) hx hb dX1_edge_33 (by decide) (fun c33 => ?_) (fun c33 => ?_)
      · refine lv_iconst (v := (-1)) hx hb dX1_edge_52 (by decide) ?_
        exact W.iret (v := (-1)) hx hb hr (fun t ht hW => ⟨⟨_, (), rfl, edL_c gL gU c14 (by rw [ey, szL_n hj9 (by omega)]; exact c33), by rw [ht]; exact hP, va_K.moved hW.alike hK, hD⟩, hS.F ht⟩) hS.2.2 dX1_edge_53
      · obtain ⟨i0, hi9, ei⟩ : ∃ k, k < pfx L (j + 1) - pfx L j ∧ i = nI k := okY_n (by unfold okY; rw [decide_eq_true (Int32.not_lt.mp c14), decide_eq_true (Int32.not_le.mp c33)]; rfl) (by have := pfx_le (L := L) (i := j + 1) (by omega); omega)
        rw [ei] at hl
        refine lv_aload_n hx hb dX1_edge_36 rfl (lv_at hl 0 rfl) ?_
        refine va_get (D := D) (ci := 1) (v := .ref (o 2)) (C := RX1) (T := TX1) (N := 10) hx hb hts hin0 hown hK hP 0 rfl rfl 5 (by decide) (hts (.fieldLink RX1 23 "HeightLinesModel" "edges" "[I") (by decide +kernel)) (fun _ h9 => h9) rfl dX1_edge_37 ?_
        refine lv_aload_n hx hb dX1_edge_40 rfl (lv_at hl 0 rfl) ?_
        refine va_get (D := D) (ci := 1) (v := .ref (o 3)) (C := RX1) (T := TX1) (N := 10) hx hb hts hin0 hown hK hP 0 rfl rfl 6 (by decide) (hts (.fieldLink RX1 26 "HeightLinesModel" "begins" "[I") (by decide +kernel)) (fun _ h9 => h9) rfl dX1_edge_41 ?_
        refine lv_iload_n hx hb dX1_edge_44 rfl (lv_at hl 1 rfl) ?_
        refine an_iald (D := D) hx hb hK hP 3 0 rfl rfl (k := j) (by omega) (by decide) dX1_edge_45 ?_
        rw [show (st j) = nI (pfx L j) from gst j (by omega)]
        refine lv_iload_n hx hb dX1_edge_46 rfl (lv_at hl 2 rfl) ?_
        refine lv_iadd hx hb dX1_edge_47 ?_
        rw [show (nI (pfx L j) + nI i0) = nI (pfx L j + i0) from nI_add _ _]
        refine an_iald (D := D) hx hb hK hP 2 0 rfl rfl (k := pfx L j + i0) (by have := pfx_s hj9; have := pfx_le (L := L) (i := j + 1) (by omega); omega) (by decide) dX1_edge_48 ?_
        refine lv_goto (tgt := 53) hx hb dX1_edge_49 (by decide) ?_
        exact W.iret (v := (od (pfx L j + i0))) hx hb hr (fun t ht hW => ⟨⟨_, (), rfl, by rw [ey, ei, edL_n hj9 hi9 (by omega) (by have := pfx_le (L := L) (i := j + 1) (by omega); omega), god _ (by have := pfx_s hj9; have := pfx_le (L := L) (i := j + 1) (by omega); omega)], by rw [ht]; exact hP, va_K.moved hW.alike hK, hD⟩, hS.F ht⟩) hS.2.2 dX1_edge_53

set_option maxHeartbeats 4000000 in
set_option maxRecDepth 100000 in
theorem c_X1_crossed (l : Launch) (D : va_G) (o : Nat → Nat) (cI cZ : ClassId) (th tw ch : Int32) (sm od st cl us : Nat → Int32) (w : Nat) (h : Nat) (f : Nat → Nat → Int32) (gw : 2 ≤ w) (gw2 : w ≤ 12) (gh : 2 ≤ h) (gh2 : h ≤ 12) (gf : ∀ x y, x < w → y < h → sm (12 * y + x) = f x y) : wiMet l yX1_crossed wsX1_crossed ({ frames := 4, cells := 0, slots := 0, locals := 84 } : Room) D (W1 o cI cZ th (nI w) (nI h) tw ch sm od st cl us) (W1 o cI cZ 0 (nI w) (nI h) tw ch sm od st cl us) [(cI, .int), (cZ, .boolean)] [.ref (o 0)] (nI (cntB (crB w h f tw) (nE w h))) := by
  refine Met.ofW (cc := cX1_crossed) (maxL := 3) (ret := (some .int)) (by decide) rfl ?_
  intro p e s m args below meth c s₁ B hml hv
  obtain ⟨rfl, hP, hK, hD0⟩ := hv
  have hx := B.exec
  have hb := B.bytes
  have hr := B.returns
  have hts := atoms_spec (ws := wsX1_crossed) B.pre
  have hown : s.vm.findClass RX1 = some m.cls := findClass_of_methodNamed B.named
  have hlocks := B.notSynchronized
  have hin0 : ∀ w ∈ u_ws RX1 TX1 10, w ∈ wsX1_crossed := by decide +kernel
  have hD := wA_D hD0
  have hS : va_S (wA (W1 o cI cZ th (nI w) (nI h) tw ch sm od st cl us)) s.heap s.heap [] := va_S.rf
  obtain ⟨H, hH, hP, hS⟩ : ∃ H : Heap, s.heap = H ∧ va_P D vwCl (W1 o cI cZ th (nI w) (nI h) tw ch sm od st cl us) H ∧ va_S (wA (W1 o cI cZ th (nI w) (nI h) tw ch sm od st cl us)) s.heap H [] := ⟨_, rfl, hP, hS⟩
  rw [hH]
  have hl := lv_entry ([.ref (o 0)]) (n := 3) (Nat.le_of_ble_eq_true rfl)
  rw [lg_entry_eq]
  generalize (lg_sl ([.ref (o 0)]) ++ List.replicate (3 - (lg_sl ([.ref (o 0)])).length) Slot.unset).toArray = ls at hl ⊢
  have hl : lv_has ls 3 [(0, .ref (o 0))] := hl
  have lp : ∀ (n : Nat) (e0 : Nat), (e0 ≤ nE w h) → (e0 ≤ 264) → (nE w h + 1 ≤ e0 + n) → ∀ (H : Heap) (locs : List Loc) (ls : Array Slot), va_P D vwCl (W1 o cI cZ 0 (nI w) (nI h) tw ch sm od st cl us) H → va_D (wA (W1 o cI cZ th (nI w) (nI h) tw ch sm od st cl us)) (W1 o cI cZ 0 (nI w) (nI h) tw ch sm od st cl us) → va_S (wA (W1 o cI cZ th (nI w) (nI h) tw ch sm od st cl us)) s.heap H locs → lv_has ls 3 [(1, .int (nI (cntB (crB w h f tw) e0))), (2, .int (nI e0)), (0, .ref (o 0))] → W p l e (headSpec wsX1_crossed ({ frames := 4, cells := 0, slots := 0, locals := 84 } : Room)).room s m ([.ref (o 0)] : List Value).toArray below meth c H locs 0 0 (MQ below (va_Qi (fun r (_ : Unit) => r = nI (cntB (crB w h f tw) (nE w h))) (wB D (W1 o cI cZ th (nI w) (nI h) tw ch sm od st cl us) (W1 o cI cZ 0 (nI w) (nI h) tw ch sm od st cl us) [(cI, .int), (cZ, .boolean)]) (wA (W1 o cI cZ th (nI w) (nI h) tw ch sm od st cl us))) ([.ref (o 0)] : List Value).toArray s 0 0 (wA (W1 o cI cZ th (nI w) (nI h) tw ch sm od st cl us))) (F0 m 9 ls []) := by
    intro n
    induction n with
    | zero =>
      intro e0 hj hj2 hn
      exact absurd hn (by omega)
    | succ n ih =>
      intro e0 hj hj2 hn H locs ls hP hD hS hl
      refine lv_iload_n hx hb dX1_crossed_9 rfl (lv_at hl 1 rfl) ?_
      refine lv_aload_n hx hb dX1_crossed_10 rfl (lv_at hl 2 rfl) ?_
      refine ro_V0 ⟨hx, hb, hml, hown, hts⟩ (c_X1_all l D o cI cZ 0 tw ch sm od st cl us w h (by omega) (by omega)) (cwV 0 hts gX1_crossed_X1_all rfl rfl rfl (by decide +kernel) ⟨Nat.le_of_ble_eq_true rfl, Nat.le_of_ble_eq_true rfl⟩) (va_recv hK hP (ci := 1) (q0 := 0) rfl rfl) hP hK hP hS rfl hl.1 (lv_room (Nat.le_of_ble_eq_true rfl)) dX1_crossed_11 ⟨Nat.le_of_ble_eq_true rfl, Nat.le_of_ble_eq_true rfl⟩ (fun r11 H locs hr11 hP hS => ?_)
      subst hr11
      refine lv_icmp_ge (tgt := 39) hx hb dX1_crossed_14 (by decide) (fun c14 => ?_) (fun c14 => ?_)
      · refine lv_iload_n hx hb dX1_crossed_39 rfl (lv_at hl 0 rfl) ?_
        exact W.iret (v := nI (cntB (crB w h f tw) e0)) hx hb hr (fun t ht hW => ⟨⟨_, (), rfl, by rw [show e0 = nE w h from by have := le_n c14 (by have := nE_le gw2 gh2; omega) (by omega); omega], by rw [ht]; exact hP, va_K.moved hW.alike hK, hD⟩, hS.F ht⟩) hS.2.2 dX1_crossed_40
      · refine lv_iload_n hx hb dX1_crossed_17 rfl (lv_at hl 0 rfl) ?_
        refine lv_aload_n hx hb dX1_crossed_18 rfl (lv_at hl 2 rfl) ?_
        refine lv_iload_n hx hb dX1_crossed_19 rfl (lv_at hl 1 rfl) ?_
        refine ro_V1 ⟨hx, hb, hml, hown, hts⟩ (c_X1_isCrossed l D o cI cZ 0 tw ch sm od st cl us w h f e0 gw gw2 gh gh2 gf (nle_n c14 (by have := nE_le gw2 gh2; omega) (by omega))) (cwV 1 hts gX1_crossed_X1_isCrossed rfl rfl rfl (by decide +kernel) ⟨Nat.le_of_ble_eq_true rfl, Nat.le_of_ble_eq_true rfl⟩) (va_recv hK hP (ci := 1) (q0 := 0) rfl rfl) hP hK hP hS rfl hl.1 (lv_room (Nat.le_of_ble_eq_true rfl)) dX1_crossed_20 ⟨Nat.le_of_ble_eq_true rfl, Nat.le_of_ble_eq_true rfl⟩ (fun r20 H locs hr20 hP hS => ?_)
        subst hr20
        refine lv_if_eq (tgt := 30) hx hb dX1_crossed_23 (by decide) (fun c23 => ?_) (fun c23 => ?_)
        · refine lv_iconst (v := 0) hx hb dX1_crossed_30 (by decide) ?_
          refine lv_iadd hx hb dX1_crossed_31 ?_
          rw [show (nI (cntB (crB w h f tw) e0) + 0) = nI (cntB (crB w h f tw) (e0 + 1)) from by rw [cntB_f (bI_0.mp c23)]; simp]
          refine lv_istore_n (lv' := [(1, .int (nI (cntB (crB w h f tw) (e0 + 1)))), (2, .int (nI e0)), (0, .ref (o 0))]) hx hb dX1_crossed_32 rfl hl (by decide) rfl (fun ls hl => ?_)
          refine lv_iinc (v := (nI (e0 + 1))) (lv' := [(2, .int (nI (e0 + 1))), (1, .int (nI (cntB (crB w h f tw) (e0 + 1)))), (0, .ref (o 0))]) hx hb dX1_crossed_33 hl (k := 1) rfl (nI_p1 _) (by decide) rfl (fun ls hl => ?_)
          refine lv_goto (tgt := 9) hx hb dX1_crossed_36 (by decide) ?_
          exact ih (e0 + 1) (nle_n c14 (by have := nE_le gw2 gh2; omega) (by omega)) (by have := nE_le gw2 gh2; have h9 := (nle_n c14 (by have := nE_le gw2 gh2; omega) (by omega)); omega) (by omega) _ _ _ hP hD hS (lv_sub hl [1, 0, 2] rfl)
        · refine lv_iconst (v := 1) hx hb dX1_crossed_26 (by decide) ?_
          refine lv_goto (tgt := 31) hx hb dX1_crossed_27 (by decide) ?_
          refine lv_iadd hx hb dX1_crossed_31 ?_
          rw [show (nI (cntB (crB w h f tw) e0) + 1) = nI (cntB (crB w h f tw) (e0 + 1)) from by rw [nI_p1, cntB_t (bI_n0.mp c23)]]
          refine lv_istore_n (lv' := [(1, .int (nI (cntB (crB w h f tw) (e0 + 1)))), (2, .int (nI e0)), (0, .ref (o 0))]) hx hb dX1_crossed_32 rfl hl (by decide) rfl (fun ls hl => ?_)
          refine lv_iinc (v := (nI (e0 + 1))) (lv' := [(2, .int (nI (e0 + 1))), (1, .int (nI (cntB (crB w h f tw) (e0 + 1)))), (0, .ref (o 0))]) hx hb dX1_crossed_33 hl (k := 1) rfl (nI_p1 _) (by decide) rfl (fun ls hl => ?_)
          refine lv_goto (tgt := 9) hx hb dX1_crossed_36 (by decide) ?_
          exact ih (e0 + 1) (nle_n c14 (by have := nE_le gw2 gh2; omega) (by omega)) (by have := nE_le gw2 gh2; have h9 := (nle_n c14 (by have := nE_le gw2 gh2; omega) (by omega)); omega) (by omega) _ _ _ hP hD hS (lv_sub hl [1, 0, 2] rfl)
  refine lv_aload_n hx hb dX1_crossed_0 rfl (lv_at hl 0 rfl) ?_
  refine lv_iconst (v := 0) hx hb dX1_crossed_1 (by decide) ?_
  refine va_put (D := D) (ci := 1) (v := .int 0) (ty := .int) (C := RX1) (T := TX1) (N := 10) hx hb hts hin0 tyX1 tyX1_ok nmX1 hown hK hP hD hS 0 rfl rfl 0 (by decide) (hts (.fieldLink RX1 36 "HeightLinesModel" "thrown" "I") (by decide +kernel)) (fun _ h9 => h9) rfl (by decide +kernel) rfl rfl (Nat.le_of_ble_eq_true rfl) dX1_crossed_2 (fun H locs hP hD hS => ?_)
  have hP : va_P D vwCl (W1 o cI cZ 0 (nI w) (nI h) tw ch sm od st cl us) H := hP
  have hD : va_D (wA (W1 o cI cZ th (nI w) (nI h) tw ch sm od st cl us)) (W1 o cI cZ 0 (nI w) (nI h) tw ch sm od st cl us) := hD
  refine lv_iconst (v := 0) hx hb dX1_crossed_5 (by decide) ?_
  refine lv_istore_n (lv' := [(1, .int 0), (0, .ref (o 0))]) hx hb dX1_crossed_6 rfl hl (by decide) rfl (fun ls hl => ?_)
  refine lv_iconst (v := 0) hx hb dX1_crossed_7 (by decide) ?_
  refine lv_istore_n (lv' := [(2, .int 0), (1, .int 0), (0, .ref (o 0))]) hx hb dX1_crossed_8 rfl hl (by decide) rfl (fun ls hl => ?_)
  exact lp (nE w h + 1) 0 (Nat.zero_le _) (Nat.zero_le _) (by omega) _ _ _ hP hD hS (lv_sub hl [1, 0, 2] rfl)
