/-! the exception that the class throws: what the start must hold -/
abbrev NSE : String := "java/util/NoSuchElementException"
abbrev NSn : List String := ["java/lang/RuntimeException", "java/lang/Exception"]
abbrev xBad : List Cond := [.declares (Bundle.init0 "java/lang/RuntimeException"), .declares (Bundle.init0 "java/lang/Exception"), .declares (Bundle.init0 Bundle.tN), .castable NSE NSE]
theorem xBad_ok : ∀ w ∈ (vx_at0 RX0 95 NSE NSn).filter (fun w => !goodWord w), w ∈ xBad := by decide +kernel
theorem xGood_ok : ∀ w ∈ Cond.classLink RX0 93 NSE :: Cond.initialized NSE :: vx_at0 RX0 95 NSE NSn, vx_ot w = true := by decide +kernel
def xN (U : State) : Prop := va_Nw (.declares (Bundle.init0 "java/lang/RuntimeException")) U ∧ va_Nw (.declares (Bundle.init0 "java/lang/Exception")) U ∧ va_Nw (.declares (Bundle.init0 Bundle.tN)) U ∧ va_Nw (.castable NSE NSE) U
theorem xN.warm {s U : State} (hW : s.WarmedH U.vm) (h : xN s) : xN U := ⟨va_Nw.warmD hW h.1, va_Nw.warmD hW h.2.1, va_Nw.warmD hW h.2.2.1, va_Nw.warmC hW h.2.2.2⟩
theorem xN.same {u U : State} (hv : u.vm = U.vm) (h : xN u) : xN U := ⟨va_Nw.same rfl hv h.1, va_Nw.same rfl hv h.2.1, va_Nw.same rfl hv h.2.2.1, va_Nw.same rfl hv h.2.2.2⟩
theorem xN.use {U : State} (h : xN U) (A : Array Value) : ∀ w ∈ xBad, w.before A U = true := vx_c (va_Nw.use rfl h.1) (vx_c (va_Nw.use rfl h.2.1) (vx_c (va_Nw.use rfl h.2.2.1) (vx_c (va_Nw.use rfl h.2.2.2) vx_n)))
def xZ (A : Nat → Prop) (U : State) (H : Heap) : Prop := vx_Zq Bundle.tN "UNASSIGNED_STACK" Bundle.steD A U H ∧ vx_Zq Bundle.tN "SUPPRESSED_SENTINEL" Bundle.listD A U H
theorem xZ.moved {A : Nat → Prop} {u U : State} {H : Heap} (hv : u.vm.Alike U.vm) (h : xZ A u H) : xZ A U H := ⟨vx_Zq.moved hv h.1, vx_Zq.moved hv h.2⟩
theorem xZ.narrow {A B : Nat → Prop} {U : State} {H : Heap} (h : xZ A U H) (hAB : ∀ q, B q → A q) : xZ B U H := ⟨h.1.narrow hAB, h.2.narrow hAB⟩
theorem xZ.kept {A : Nat → Prop} {U : State} {H H1 : Heap} (h : xZ A U H) (hq : ∀ a : Nat, a < H.size → ¬ A a → H1[a]? = H[a]?) : xZ A U H1 := ⟨h.1.kept hq, h.2.kept hq⟩
abbrev xPc (D : va_G) (w0 : va_W) (ty : List (ClassId × FieldType)) (av : List Value) : Array Value → State → Prop := va_Pc av (fun U => va_P D vwCl w0 U.heap ∧ va_K D vwCl ty U ∧ xN U ∧ xZ (fun _ => False) U U.heap)
theorem xPc_blind (D : va_G) (w0 : va_W) (ty : List (ClassId × FieldType)) (av : List Value) : FrameBlind (xPc D w0 ty av) := fun a U g mk q => by
  obtain ⟨q0, qP, qK, qN, qZ⟩ := q
  exact ⟨q0, qP, va_K.moved (u := U) (U := U.calling g mk a) (Vm.Alike.refl U.vm) qK, xN.same (u := U) (U := U.calling g mk a) rfl qN, xZ.moved (u := U) (U := U.calling g mk a) (Vm.Alike.refl U.vm) qZ⟩
