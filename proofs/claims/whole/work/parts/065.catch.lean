/-! an exception of a callee, taken by the first row of this method's table: an own row, over the library's laws of a throwing frame (ThrowLaws), for the printed one calls a part of the library that rounds don't have -/
section CT
variable {p : Program} {l : Launch} {e : Env} {R : Room} {s : State} {m : MethodId} {args : Array Value} {below : List Frame} {meth : Method} {c : Code} {H : Heap} {locs : List Loc} {cells slots : Nat} {Q : State → Prop}
variable {pc : Nat} {ls : Array Slot} {rest : List Value}
theorem ct_catch {own name : String} {E : String} {ce : Cell} {q : Addr} (hown : s.vm.findClass own = some m.cls) (x : ExceptionTableEntry) (suf : List ExceptionTableEntry) (htab : c.exceptionTable.toList = x :: suf) (hx : covers x pc = true) (h0 : x.catchType ≠ 0)
    (hlink : (Cond.classLink own x.catchType name).before args s = true) (hcast : (Cond.castable E name).before args s = true) (hcell : H[q]? = some ce) (hv : ce.vm = .none) (hcl : s.vm.findClass E = some ce.cls)
    (kk : W p l e R s m args below meth c H locs cells slots Q (F0 m x.handlerPc ls [.ref q])) : vx_W p l e R s m args below meth c H locs cells slots Q (F0 m pc ls rest) q := by
  intro T hT X
  have hpl : e.platform.magicAccessors = ({} : Platform).magicAccessors := by rw [X.admits.platform]
  obtain ⟨cE, cN, hcE, hcN, hfit⟩ := Cond.castable_spec hcast
  cases Option.some.inj (hcE.symm.trans hcl)
  obtain ⟨cN', hcN', hlinks⟩ := Cond.classLink_spec hown hlink e.platform hpl
  cases Option.some.inj (hcN.symm.trans hcN')
  obtain ⟨dk, _, _, kt, hd, _, _, _, _, hkt, _, hopen⟩ := hlinks.here
  have hWn : s.WarmedH (T.vm.noted m.cls x.catchType (.cls cN)) := X.warmed.noted hd hopen (State.rightAt_cls hlinks)
  have hlT : T.vm.ClassLinks e.platform m.cls x.catchType cN := X.warmed.classLinks hlinks
  obtain ⟨kE, hkE, -⟩ := Vm.findClass_spec hcl
  obtain ⟨kE', hkE', -⟩ := X.warmed.alike.2.2 _ _ hkE
  obtain ⟨kN', hkN', -⟩ := X.warmed.alike.2.2 _ _ hkt
  have hfT : T.vm.assignable ce.cls cN = true := by rw [X.warmed.alike.assignable]; exact hfit
  have hcov : (decide (x.startPc ≤ pc) && decide (pc < x.endPc)) = true := hx
  rw [Bool.and_eq_true, decide_eq_true_eq, decide_eq_true_eq] at hcov
  have hc1 := hcov.1
  have hc2 := hcov.2
  have hcT : T.heap[q]? = some ce := by rw [hT]; exact hcell
  obtain ⟨fr, hfr⟩ : ∃ S0 : State, S0 = (T.setTop (F0 m pc ls rest)).pushFrame (.throwing q) := ⟨_, rfl⟩
  have hfvm : fr.vm = T.vm := by rw [hfr]; rfl
  have hfhp : fr.heap[q]? = some ce := by rw [hfr]; exact hcT
  have hfm : fr.vm.method? m = some meth := by rw [hfvm]; exact X.method'
  have hfind : ∀ (Qh : Handler → Pre) (Eh : CtlPost) (d : Bool) (acts : List Action), wp (findHandler (F0 m pc ls rest) q) Qh Eh e d acts fr ↔ Qh (.found x.handlerPc) d acts (fr.setVm (T.vm.noted m.cls x.catchType (.cls cN))) := by
    intro Qh Eh d acts
    rw [W.findHandler_eq (f := F0 m pc ls rest) hfm X.code, htab]
    have hlF : fr.vm.ClassLinks e.platform m.cls x.catchType cN := by rw [hfvm]; exact hlT
    obtain ⟨ha, ht⟩ := (resolveClass_links e.toSetting hlF).op (op := VmOp.resolveClass m.cls x.catchType) rfl
    have hal : T.vm.Alike (T.vm.noted m.cls x.catchType (.cls cN)) := (Vm.Alike.refl T.vm).noted _ _ _
    obtain ⟨k1, hk1, -⟩ := hal.2.2 _ _ hkE'
    obtain ⟨k2, hk2, -⟩ := hal.2.2 _ _ hkN'
    have hf2 : (T.vm.noted m.cls x.catchType (.cls cN)).assignable ce.cls cN = true := by rw [hal.assignable]; exact hfT
    have hob : ∀ k, ce.vm ≠ .statics k := fun k z => by rw [hv] at z; cases z
    rw [hfvm] at ha ht
    simp [findHandler.go, hc1, hc2, h0, ha, ht, hfhp, hob, hk1, hk2, hf2, hfvm, VmOp.dirties, VmOp.acts]
  obtain ⟨t, a1, b1⟩ := kk (T.setVm (T.vm.noted m.cls x.catchType (.cls cN))) hT (X.noted hWn)
  refine ⟨t, ?_, b1⟩
  obtain ⟨hgo, hw⟩ := At.throwing (g := F0 m pc ls rest) (show At T (F0 m pc ls rest).method c below from X.here) q
  refine Steps.head hgo hw ?_
  obtain ⟨g₀, hg⟩ := Option.isSome_iff_exists.mp X.here.top
  obtain ⟨r, hr⟩ := State.topJava?_eq_some.mp hg
  rw [stepThread_throwing (frames_entered X.here.top _)]
  have hst : (stepThrowing e fr q (.java (F0 m pc ls rest) :: r)).Is ((fr.setVm (T.vm.noted m.cls x.catchType (.cls cN))).setFrames (.java (F0 m x.handlerPc ls [.ref q]) :: r)) [] := by
    simp only [stepThrowing, searchFrame, vmDo]
    generalize hres : Sem.go _ e false [] fr = res
    obtain ⟨as, rfl, has⟩ := Sem.eq_ok_of hres (a := Handler.found x.handlerPc) (s' := fr.setVm (T.vm.noted m.cls x.catchType (.cls cN))) (acts' := []) (by simp [hfind _ _ _ _])
    exact ⟨rfl, has⟩
  rw [← hfr, hr, List.tail_cons, hst.1, hfr]
  have hr2 : (T.setVm (T.vm.noted m.cls x.catchType (.cls cN))).frames = .java g₀ :: r := hr
  rw [State.setTop_of_frames _ hr2] at a1
  have hfin : ((((T.setTop (F0 m pc ls rest)).pushFrame (.throwing q)).setVm (T.vm.noted m.cls x.catchType (.cls cN))).setFrames (.java (F0 m x.handlerPc ls [.ref q]) :: r)) = (T.setVm (T.vm.noted m.cls x.catchType (.cls cN))).setFrames (.java (F0 m x.handlerPc ls [.ref q]) :: r) := by
    rw [State.pushFrame, State.setTop_of_frames _ hr, State.setFrames_setFrames]
    show ((T.setVm (T.vm.noted m.cls x.catchType (.cls cN))).setFrames _).setFrames _ = _
    rw [State.setFrames_setFrames]
  rw [hfin]
  exact a1
end CT
