/-! the worlds of the two objects: the class's (W0) and the reference's (W1); read-only contracts and their call rows -/
abbrev W0 (o : Nat → Nat) (cI : ClassId) (co ro tw op ch : Int32) (sm nx bf od st ow : Nat → Int32) : va_W :=
  [(o 0, .inr (0, [.int co, .int ro, .int tw, .ref (o 1), .ref (o 2), .ref (o 3), .ref (o 4), .ref (o 5), .ref (o 6), .int op, .int ch])),
   (o 1, .inl (cI, 144, .inl sm)), (o 2, .inl (cI, 264, .inl nx)), (o 3, .inl (cI, 264, .inl bf)), (o 4, .inl (cI, 264, .inl od)), (o 5, .inl (cI, 133, .inl st)), (o 6, .inl (cI, 264, .inl ow))]
abbrev W1 (o : Nat → Nat) (cI cZ : ClassId) (th co ro tw ch : Int32) (sm od st cl us : Nat → Int32) : va_W :=
  [(o 0, .inr (1, [.int th, .int co, .int ro, .int tw, .ref (o 1), .ref (o 2), .ref (o 3), .ref (o 4), .ref (o 5), .int ch])),
   (o 1, .inl (cI, 144, .inl sm)), (o 2, .inl (cI, 264, .inl od)), (o 3, .inl (cI, 266, .inl st)), (o 4, .inl (cZ, 265, .inl cl)), (o 5, .inl (cZ, 264, .inl us))]
abbrev roMet (l : Launch) (y : MethodName) (ws : List Cond) (rm : Room) (D : va_G) (wc : va_W) (tyc : List (ClassId × FieldType)) (av : List Value) (post : Int32 → Prop) : Prop :=
  Met l y ws rm (va_Pc av (fun U => va_P D vwCl wc U.heap ∧ va_K D vwCl tyc U)) (va_Qi (fun r (_ : Unit) => post r) (fun _ _ => True) (fun _ => False)) 0 0 (fun _ => False)
theorem va_P0 (D : va_G) (cl : List vw_C) (H : Heap) : va_P D cl [] H := fun k q h => by simp at h
section ROC
variable {p : Program} {l : Launch} {e : Env} {R : Room} {s : State} {m : MethodId} {args : Array Value} {below : List Frame} {meth : Method} {c : Code} {H : Heap} {locs : List Loc} {cells slots : Nat} {Q : State → Prop}
variable {y : MethodName} {bytes cc : ByteArray} {maxL nL n index pc : Nat} {ret : Option FieldType} {wy : List Cond} {rm : Room} {Ts : List Cond} {own C : String} {b : Addr} {As rest st0 : List Value} {ls : Array Slot} {D : va_G} {ws wc : va_W} {tyc : List (ClassId × FieldType)} {A0 : Nat → Prop} {H0 : Heap} {post : Int32 → Prop}
theorem ro_V (S : CallFix p m c cc nL s args Ts own) (hM : roMet l y wy rm D wc tyc (.ref b :: As) post) (cw : CallW R s args own C index y bytes maxL ret wy rm 0 0 n)
    (hrecv : ∃ cell : Cell, H[b]? = some cell ∧ cell.vm.isStatics = false ∧ s.vm.findClass C = some cell.cls) (hPc : va_P D vwCl wc H) (hKc : va_K D vwCl tyc s) (hP : va_P D vwCl ws H) (hS : va_S A0 H0 H locs)
    (hn : As.length = n) (hsize : ls.size = nL) (hstack : st0 = As.reverse ++ .ref b :: rest) (hW : 2 * (F0 m pc ls st0).monitorRoom + (rest.map fun v => v.category).sum ≤ 8) (hdg : decode cc pc = .ok (.invokevirtual index, 3)) (hf : cells ≤ R.cells ∧ slots ≤ R.slots)
    (kk : ∀ (r : Int32) (H1 : Heap) (locs1 : List Loc), post r → va_P D vwCl ws H1 → va_S A0 H0 H1 locs1 → W p l e R s m args below meth c H1 locs1 cells slots Q (F0 m (pc + 3) ls (.int r :: rest))) : W p l e R s m args below meth c H locs cells slots Q (F0 m pc ls st0) := by
  refine va_calli (A1 := fun _ => False) (va_runV (As := As) (rest := rest) S hM cw ⟨fun a U g mk q => by obtain ⟨q0, qP, qK⟩ := q; exact ⟨q0, qP, va_K.moved (u := U) (U := U.calling g mk a) (Vm.Alike.refl U.vm) qK⟩, hrecv, fun U hU hW => ⟨rfl, by rw [hU]; exact hPc, va_K.moved hW.alike hKc⟩⟩ rfl hn hsize hstack hW hdg hf) hS (fun q _ h => h.elim) (fun q h => h.elim) (fun r u t H1 locs1 ht hvm hw hB hz1 hk1 hS1 => ?_)
  exact kk r H1 locs1 hw (hP.kept fun k q hk => hk1 q.1 (hP k q hk).lt (fun z => z)) hS1
theorem ro_S (S : CallFix p m c cc nL s args Ts own) (hM : roMet l y wy rm D wc tyc As post) (cw : CallB R s args own index y bytes maxL ret wy rm 0 0 n ∧ (Cond.static y).before args s = true)
    (hPc : va_P D vwCl wc H) (hKc : va_K D vwCl tyc s) (hP : va_P D vwCl ws H) (hS : va_S A0 H0 H locs)
    (hn : As.length = n) (hsize : ls.size = nL) (hstack : st0 = As.reverse ++ rest) (hW : 2 * (F0 m pc ls st0).monitorRoom + (rest.map fun v => v.category).sum ≤ 8) (hdg : decode cc pc = .ok (.invokestatic index, 3)) (hf : cells ≤ R.cells ∧ slots ≤ R.slots)
    (kk : ∀ (r : Int32) (H1 : Heap) (locs1 : List Loc), post r → va_P D vwCl ws H1 → va_S A0 H0 H1 locs1 → W p l e R s m args below meth c H1 locs1 cells slots Q (F0 m (pc + 3) ls (.int r :: rest))) : W p l e R s m args below meth c H locs cells slots Q (F0 m pc ls st0) := by
  refine va_calli (A1 := fun _ => False) (va_runS (As := As) (rest := rest) S hM cw ⟨fun a U g mk q => by obtain ⟨q0, qP, qK⟩ := q; exact ⟨q0, qP, va_K.moved (u := U) (U := U.calling g mk a) (Vm.Alike.refl U.vm) qK⟩, fun U hU hW => ⟨rfl, by rw [hU]; exact hPc, va_K.moved hW.alike hKc⟩⟩ rfl hn hsize hstack hW hdg hf) hS (fun q _ h => h.elim) (fun q h => h.elim) (fun r u t H1 locs1 ht hvm hw hB hz1 hk1 hS1 => ?_)
  exact kk r H1 locs1 hw (hP.kept fun k q hk => hk1 q.1 (hP k q hk).lt (fun z => z)) hS1
variable {x1 x2 x3 : Value}
theorem ro_V0 (S : CallFix p m c cc nL s args Ts own) (hM : roMet l y wy rm D wc tyc [.ref b] post) (cw : CallW R s args own C index y bytes maxL ret wy rm 0 0 n)
    (hrecv : ∃ cell : Cell, H[b]? = some cell ∧ cell.vm.isStatics = false ∧ s.vm.findClass C = some cell.cls) (hPc : va_P D vwCl wc H) (hKc : va_K D vwCl tyc s) (hP : va_P D vwCl ws H) (hS : va_S A0 H0 H locs)
    (hn : 0 = n) (hsize : ls.size = nL) (hW : 2 * (F0 m pc ls (.ref b :: rest)).monitorRoom + (rest.map fun v => v.category).sum ≤ 8) (hdg : decode cc pc = .ok (.invokevirtual index, 3)) (hf : cells ≤ R.cells ∧ slots ≤ R.slots)
    (kk : ∀ (r : Int32) (H1 : Heap) (locs1 : List Loc), post r → va_P D vwCl ws H1 → va_S A0 H0 H1 locs1 → W p l e R s m args below meth c H1 locs1 cells slots Q (F0 m (pc + 3) ls (.int r :: rest))) : W p l e R s m args below meth c H locs cells slots Q (F0 m pc ls (.ref b :: rest)) :=
  ro_V (As := []) (rest := rest) S hM cw hrecv hPc hKc hP hS hn hsize rfl hW hdg hf kk
theorem ro_V1 (S : CallFix p m c cc nL s args Ts own) (hM : roMet l y wy rm D wc tyc [.ref b, x1] post) (cw : CallW R s args own C index y bytes maxL ret wy rm 0 0 n)
    (hrecv : ∃ cell : Cell, H[b]? = some cell ∧ cell.vm.isStatics = false ∧ s.vm.findClass C = some cell.cls) (hPc : va_P D vwCl wc H) (hKc : va_K D vwCl tyc s) (hP : va_P D vwCl ws H) (hS : va_S A0 H0 H locs)
    (hn : 1 = n) (hsize : ls.size = nL) (hW : 2 * (F0 m pc ls (x1 :: .ref b :: rest)).monitorRoom + (rest.map fun v => v.category).sum ≤ 8) (hdg : decode cc pc = .ok (.invokevirtual index, 3)) (hf : cells ≤ R.cells ∧ slots ≤ R.slots)
    (kk : ∀ (r : Int32) (H1 : Heap) (locs1 : List Loc), post r → va_P D vwCl ws H1 → va_S A0 H0 H1 locs1 → W p l e R s m args below meth c H1 locs1 cells slots Q (F0 m (pc + 3) ls (.int r :: rest))) : W p l e R s m args below meth c H locs cells slots Q (F0 m pc ls (x1 :: .ref b :: rest)) :=
  ro_V (As := [x1]) (rest := rest) S hM cw hrecv hPc hKc hP hS hn hsize rfl hW hdg hf kk
theorem ro_V2 (S : CallFix p m c cc nL s args Ts own) (hM : roMet l y wy rm D wc tyc [.ref b, x1, x2] post) (cw : CallW R s args own C index y bytes maxL ret wy rm 0 0 n)
    (hrecv : ∃ cell : Cell, H[b]? = some cell ∧ cell.vm.isStatics = false ∧ s.vm.findClass C = some cell.cls) (hPc : va_P D vwCl wc H) (hKc : va_K D vwCl tyc s) (hP : va_P D vwCl ws H) (hS : va_S A0 H0 H locs)
    (hn : 2 = n) (hsize : ls.size = nL) (hW : 2 * (F0 m pc ls (x2 :: x1 :: .ref b :: rest)).monitorRoom + (rest.map fun v => v.category).sum ≤ 8) (hdg : decode cc pc = .ok (.invokevirtual index, 3)) (hf : cells ≤ R.cells ∧ slots ≤ R.slots)
    (kk : ∀ (r : Int32) (H1 : Heap) (locs1 : List Loc), post r → va_P D vwCl ws H1 → va_S A0 H0 H1 locs1 → W p l e R s m args below meth c H1 locs1 cells slots Q (F0 m (pc + 3) ls (.int r :: rest))) : W p l e R s m args below meth c H locs cells slots Q (F0 m pc ls (x2 :: x1 :: .ref b :: rest)) :=
  ro_V (As := [x1, x2]) (rest := rest) S hM cw hrecv hPc hKc hP hS hn hsize rfl hW hdg hf kk
theorem ro_V3 (S : CallFix p m c cc nL s args Ts own) (hM : roMet l y wy rm D wc tyc [.ref b, x1, x2, x3] post) (cw : CallW R s args own C index y bytes maxL ret wy rm 0 0 n)
    (hrecv : ∃ cell : Cell, H[b]? = some cell ∧ cell.vm.isStatics = false ∧ s.vm.findClass C = some cell.cls) (hPc : va_P D vwCl wc H) (hKc : va_K D vwCl tyc s) (hP : va_P D vwCl ws H) (hS : va_S A0 H0 H locs)
    (hn : 3 = n) (hsize : ls.size = nL) (hW : 2 * (F0 m pc ls (x3 :: x2 :: x1 :: .ref b :: rest)).monitorRoom + (rest.map fun v => v.category).sum ≤ 8) (hdg : decode cc pc = .ok (.invokevirtual index, 3)) (hf : cells ≤ R.cells ∧ slots ≤ R.slots)
    (kk : ∀ (r : Int32) (H1 : Heap) (locs1 : List Loc), post r → va_P D vwCl ws H1 → va_S A0 H0 H1 locs1 → W p l e R s m args below meth c H1 locs1 cells slots Q (F0 m (pc + 3) ls (.int r :: rest))) : W p l e R s m args below meth c H locs cells slots Q (F0 m pc ls (x3 :: x2 :: x1 :: .ref b :: rest)) :=
  ro_V (As := [x1, x2, x3]) (rest := rest) S hM cw hrecv hPc hKc hP hS hn hsize rfl hW hdg hf kk
theorem ro_S1 (S : CallFix p m c cc nL s args Ts own) (hM : roMet l y wy rm D wc tyc [x1] post) (cw : CallB R s args own index y bytes maxL ret wy rm 0 0 n ∧ (Cond.static y).before args s = true)
    (hPc : va_P D vwCl wc H) (hKc : va_K D vwCl tyc s) (hP : va_P D vwCl ws H) (hS : va_S A0 H0 H locs)
    (hn : 1 = n) (hsize : ls.size = nL) (hW : 2 * (F0 m pc ls (x1 :: rest)).monitorRoom + (rest.map fun v => v.category).sum ≤ 8) (hdg : decode cc pc = .ok (.invokestatic index, 3)) (hf : cells ≤ R.cells ∧ slots ≤ R.slots)
    (kk : ∀ (r : Int32) (H1 : Heap) (locs1 : List Loc), post r → va_P D vwCl ws H1 → va_S A0 H0 H1 locs1 → W p l e R s m args below meth c H1 locs1 cells slots Q (F0 m (pc + 3) ls (.int r :: rest))) : W p l e R s m args below meth c H locs cells slots Q (F0 m pc ls (x1 :: rest)) :=
  ro_S (As := [x1]) (rest := rest) S hM cw hPc hKc hP hS hn hsize rfl hW hdg hf kk
theorem ro_S2 (S : CallFix p m c cc nL s args Ts own) (hM : roMet l y wy rm D wc tyc [x1, x2] post) (cw : CallB R s args own index y bytes maxL ret wy rm 0 0 n ∧ (Cond.static y).before args s = true)
    (hPc : va_P D vwCl wc H) (hKc : va_K D vwCl tyc s) (hP : va_P D vwCl ws H) (hS : va_S A0 H0 H locs)
    (hn : 2 = n) (hsize : ls.size = nL) (hW : 2 * (F0 m pc ls (x2 :: x1 :: rest)).monitorRoom + (rest.map fun v => v.category).sum ≤ 8) (hdg : decode cc pc = .ok (.invokestatic index, 3)) (hf : cells ≤ R.cells ∧ slots ≤ R.slots)
    (kk : ∀ (r : Int32) (H1 : Heap) (locs1 : List Loc), post r → va_P D vwCl ws H1 → va_S A0 H0 H1 locs1 → W p l e R s m args below meth c H1 locs1 cells slots Q (F0 m (pc + 3) ls (.int r :: rest))) : W p l e R s m args below meth c H locs cells slots Q (F0 m pc ls (x2 :: x1 :: rest)) :=
  ro_S (As := [x1, x2]) (rest := rest) S hM cw hPc hKc hP hS hn hsize rfl hW hdg hf kk
theorem ro_S3 (S : CallFix p m c cc nL s args Ts own) (hM : roMet l y wy rm D wc tyc [x1, x2, x3] post) (cw : CallB R s args own index y bytes maxL ret wy rm 0 0 n ∧ (Cond.static y).before args s = true)
    (hPc : va_P D vwCl wc H) (hKc : va_K D vwCl tyc s) (hP : va_P D vwCl ws H) (hS : va_S A0 H0 H locs)
    (hn : 3 = n) (hsize : ls.size = nL) (hW : 2 * (F0 m pc ls (x3 :: x2 :: x1 :: rest)).monitorRoom + (rest.map fun v => v.category).sum ≤ 8) (hdg : decode cc pc = .ok (.invokestatic index, 3)) (hf : cells ≤ R.cells ∧ slots ≤ R.slots)
    (kk : ∀ (r : Int32) (H1 : Heap) (locs1 : List Loc), post r → va_P D vwCl ws H1 → va_S A0 H0 H1 locs1 → W p l e R s m args below meth c H1 locs1 cells slots Q (F0 m (pc + 3) ls (.int r :: rest))) : W p l e R s m args below meth c H locs cells slots Q (F0 m pc ls (x3 :: x2 :: x1 :: rest)) :=
  ro_S (As := [x1, x2, x3]) (rest := rest) S hM cw hPc hKc hP hS hn hsize rfl hW hdg hf kk
end ROC
