/-! the law's helper: the class's crossing, an exception turned into an answer -/
abbrev WH (o : Nat → Nat) (cI : ClassId) (co ro tw op ch : Int32) (sm nx bf od st ow : Nat → Int32) (q0 : Nat) (cJ : ClassId) (g : Nat → Int64) : va_W := W0 o cI co ro tw op ch sm nx bf od st ow ++ [(q0, .inl (cJ, 1, .inr (.inl g)))]
abbrev hPc (D : va_G) (w0 : va_W) (ty : List (ClassId × FieldType)) (sz : Nat) (av : List Value) : Array Value → State → Prop := va_Pc av (fun U => U.heap.size = sz ∧ va_P D vwCl w0 U.heap ∧ va_K D vwCl ty U ∧ va_D (fun _ => True) w0 ∧ xN U ∧ xZ (fun _ => False) U U.heap)
theorem hPc_blind (D : va_G) (w0 : va_W) (ty : List (ClassId × FieldType)) (sz : Nat) (av : List Value) : FrameBlind (hPc D w0 ty sz av) := fun a U g mk q => by
  obtain ⟨q0, qs, qP, qK, qD, qN, qZ⟩ := q
  exact ⟨q0, qs, qP, va_K.moved (u := U) (U := U.calling g mk a) (Vm.Alike.refl U.vm) qK, qD, xN.same (u := U) (U := U.calling g mk a) rfl qN, xZ.moved (u := U) (U := U.calling g mk a) (Vm.Alike.refl U.vm) qZ⟩
def outG (b : Bool) (g : Nat → Int64) (v : Int32) : Nat → Int64 := bif b then vp_updL g 0 v.toInt64 else g
set_option maxHeartbeats 1000000 in
set_option maxRecDepth 100000 in
theorem c_L_crossing (l : Launch) (D : va_G) (o : Nat → Nat) (cI cJ : ClassId) (q0 sz : Nat) (g : Nat → Int64) (tw op ch : Int32) (sm nx bf od st ow : Nat → Int32) (w : Nat) (h : Nat) (f : Nat → Nat → Int32) (a : Int32) (b : Int32) (hst : l.stackTraces = false) (gw : 2 ≤ w) (gw2 : w ≤ 12) (gh : 2 ≤ h) (gh2 : h ≤ 12) (gf : ∀ x y, x < w → y < h → sm (y * w + x) = f x y) (gb : ∀ x y, x < w → y < h → sB (f x y)) (gt : tB tw) :
    Met l yL_crossing wsL_crossing ({ frames := 7, cells := 1, slots := 6, locals := 115 } : Room) (hPc D (WH o cI (nI w) (nI h) tw op ch sm nx bf od st ow q0 cJ g) [(cI, .int), (cJ, .long)] sz [.ref (o 0), .int a, .int b, .ref q0])
      (va_Qi (fun r (_ : Unit) => r = bI (!okC w h f tw a b)) (fun _ t => va_P D vwCl (WH o cI (nI w) (nI h) tw op ch sm nx bf od st ow q0 cJ (outG (okC w h f tw a b) g (crV tw (fst2 w h f a.toNatClampNeg) (snd2 w h f a.toNatClampNeg) b))) t.heap ∧ va_K D vwCl [(cI, .int), (cJ, .long)] t ∧ va_D (va_A (WH o cI (nI w) (nI h) tw op ch sm nx bf od st ow q0 cJ g) sz) (WH o cI (nI w) (nI h) tw op ch sm nx bf od st ow q0 cJ (outG (okC w h f tw a b) g (crV tw (fst2 w h f a.toNatClampNeg) (snd2 w h f a.toNatClampNeg) b)))) (va_A (WH o cI (nI w) (nI h) tw op ch sm nx bf od st ow q0 cJ g) sz)) 1 6 (va_A (WH o cI (nI w) (nI h) tw op ch sm nx bf od st ow q0 cJ g) sz) := by
  refine va_MetW (cc := cL_crossing) (maxL := 5) (ret := (some .int)) (hh := [(0, 10, 13, 13)]) (by decide) rfl ?_
  intro p e s m args below meth c s₁ B hml hv
  obtain ⟨rfl, hsz, hP, hK, hD0, hXN, hXZ⟩ := hv
  have hx := B.exec
  have hb := B.bytes
  have hr := B.returns
  have hts := atoms_spec (ws := wsL_crossing) B.pre
  have hown : s.vm.findClass RL = some m.cls := findClass_of_methodNamed B.named
  have hlocks := B.notSynchronized
  have htab : c.exceptionTable.toList = tableOf [(0, 10, 13, 13)] := vx_table (x := yL_crossing) B (hts _ List.mem_cons_self)
  subst hsz
  have hD := hD0.self (sz := s.heap.size)
  obtain ⟨A, hAe⟩ : ∃ A, A = va_A (WH o cI (nI w) (nI h) tw op ch sm nx bf od st ow q0 cJ g) s.heap.size := ⟨_, rfl⟩
  rw [← hAe] at hD ⊢
  have hA : ∀ q : Nat, s.heap.size ≤ q → A q := fun q h => by rw [hAe]; exact Or.inr h
  have hS : va_S A s.heap s.heap [] := va_S.rf
  have hl := lv_entry ([.ref (o 0), .int a, .int b, .ref q0]) (n := 5) (Nat.le_of_ble_eq_true rfl)
  rw [lg_entry_eq]
  generalize (lg_sl ([.ref (o 0), .int a, .int b, .ref q0]) ++ List.replicate (5 - (lg_sl ([.ref (o 0), .int a, .int b, .ref q0])).length) Slot.unset).toArray = ls at hl ⊢
  have hl : lv_has ls 5 [(0, .ref (o 0)), (1, .int a), (2, .int b), (3, .ref q0)] := hl
  refine lv_aload_n hx hb dL_crossing_0 rfl (lv_at hl 3 rfl) ?_
  refine lv_iconst (v := 0) hx hb dL_crossing_1 (by decide) ?_
  refine lv_aload_n hx hb dL_crossing_2 rfl (lv_at hl 0 rfl) ?_
  refine lv_iload_n hx hb dL_crossing_3 rfl (lv_at hl 1 rfl) ?_
  refine lv_iload_n hx hb dL_crossing_4 rfl (lv_at hl 2 rfl) ?_
  have hPx := hP.sub (ws' := W0 o cI (nI w) (nI h) tw op ch sm nx bf od st ow) [0, 1, 2, 3, 4, 5, 6] rfl
  have hKx := hK.sub (tys' := [(cI, .int)]) [0] rfl
  refine vx_calli (A1 := fun _ => False) (AX := fun _ => False) (vx_runV (As := [.int a, .int b]) (rest := [.int 0, .ref q0]) ⟨hx, hb, hml, hown, hts⟩ (c_X0_crossing l D o cI tw op ch sm nx bf od st ow w h f a b hst gw gw2 gh gh2 gf gb gt) (cwV 2 hts gL_crossing_X0_crossing rfl rfl rfl (by decide +kernel) ⟨Nat.le_of_ble_eq_true rfl, Nat.le_of_ble_eq_true rfl⟩) ⟨xPc_blind D _ _ _, va_recv hK hP (ci := 0) (q0 := 0) rfl rfl, fun U hU hW => ⟨rfl, by rw [hU]; exact hPx, va_K.moved hW.alike hKx, hXN.warm hW, by rw [hU]; exact hXZ.moved hW.alike⟩⟩ rfl rfl hl.1 rfl (lv_room (Nat.le_of_ble_eq_true rfl)) dL_crossing_5 ⟨Nat.le_of_ble_eq_true rfl, Nat.le_of_ble_eq_true rfl⟩) hS (fun q _ h => h.elim) (fun q h => h.elim) (fun q _ h => h.elim) (fun E ce q9 u t H1 locs ht hvm hpx hBX hz1 hk1 hS hce hcv hcc => ?_) (fun r u t H1 locs ht hvm hw hB hz1 hk1 hS => ?_)
  · have hE : E = NSE := hBX
    subst hE
    have hok : okC w h f tw a b = false := hpx
    have hP : va_P D vwCl (WH o cI (nI w) (nI h) tw op ch sm nx bf od st ow q0 cJ g) H1 := hP.kept fun k q hk => hk1 q.1 (hP k q hk).lt (fun z => z)
    refine ct_catch hown ⟨0, 10, 13, 13⟩ [] htab (by decide) (by decide) (name := NSE) (hts (.classLink RL 13 NSE) (by decide +kernel)) (va_Nw.use rfl hXN.2.2.2) hce hcv hcc ?_
    refine lv_astore (lv' := [(4, .ref q9), (0, .ref (o 0)), (1, .int a), (2, .int b), (3, .ref q0)]) hx hb dL_crossing_13 hl (by decide) rfl (fun ls hl => ?_)
    refine lv_iconst (v := 1) hx hb dL_crossing_15 (by decide) ?_
    refine W.widen (k := 1) (n := 6) (by omega) (by omega) ?_
    exact W.iret (v := 1) hx hb hr (fun t ht hW => ⟨⟨_, (), rfl, by rw [hok]; rfl, by rw [ht, hok]; exact hP, va_K.moved hW.alike hK, by rw [hok]; exact hD⟩, hS.F ht⟩) hS.2.2 dL_crossing_16
  · obtain ⟨hok, hrv⟩ := hw
    subst hrv
    have hP : va_P D vwCl (WH o cI (nI w) (nI h) tw op ch sm nx bf od st ow q0 cJ g) H1 := hP.kept fun k q hk => hk1 q.1 (hP k q hk).lt (fun z => z)
    refine lv_i2l hx hb dL_crossing_8 rfl ?_
    refine va_last (D := D) hx hb hK hP hD hS 7 1 rfl rfl (i := 0) (x := (crV tw (fst2 w h f a.toNatClampNeg) (snd2 w h f a.toNatClampNeg) b).toInt64) (vp_in_nI (n := 0) (N := 1) (by decide) (by decide)) dL_crossing_9 (fun H locs hP hD hS => ?_)
    have hP : va_P D vwCl (WH o cI (nI w) (nI h) tw op ch sm nx bf od st ow q0 cJ (vp_updL g 0 (crV tw (fst2 w h f a.toNatClampNeg) (snd2 w h f a.toNatClampNeg) b).toInt64)) H := hP
    have hD : va_D A (WH o cI (nI w) (nI h) tw op ch sm nx bf od st ow q0 cJ (vp_updL g 0 (crV tw (fst2 w h f a.toNatClampNeg) (snd2 w h f a.toNatClampNeg) b).toInt64)) := hD
    refine lv_goto (tgt := 17) hx hb dL_crossing_10 (by decide) ?_
    refine lv_iconst (v := 0) hx hb dL_crossing_17 (by decide) ?_
    refine W.widen (k := 1) (n := 6) (by omega) (by omega) ?_
    exact W.iret (v := 0) hx hb hr (fun t ht hW => ⟨⟨_, (), rfl, by rw [hok]; rfl, by rw [ht, hok]; exact hP, va_K.moved hW.alike hK, by rw [hok]; exact hD⟩, hS.F ht⟩) hS.2.2 dL_crossing_18
