/-! contracts of methods that write their own world, and their call rows -/
def wA (w : va_W) : Nat → Prop := fun q => ∃ (k : Nat) (e : va_E), w[k]? = some (q, e)
theorem wA_in {w : va_W} {k : Nat} {q : Nat × va_E} (h : w[k]? = some q) : wA w q.1 := ⟨k, q.2, h⟩
theorem wA_D {w : va_W} {A : Nat → Prop} (h : va_D A w) : va_D (wA w) w := ⟨h.1, fun _ _ hk => wA_in hk⟩
abbrev wP (D : va_G) (w0 : va_W) (ty : List (ClassId × FieldType)) (av : List Value) : Array Value → State → Prop := va_Pc av (fun U => va_P D vwCl w0 U.heap ∧ va_K D vwCl ty U ∧ va_D (fun _ => True) w0)
abbrev wB (D : va_G) (w0 w1 : va_W) (ty : List (ClassId × FieldType)) : Unit → State → Prop := fun _ t => va_P D vwCl w1 t.heap ∧ va_K D vwCl ty t ∧ va_D (wA w0) w1
/-- it returns nothing, an int; its world w0 becomes w1 -/
abbrev wvMet (l : Launch) (y : MethodName) (ws : List Cond) (rm : Room) (D : va_G) (w0 w1 : va_W) (ty : List (ClassId × FieldType)) (av : List Value) : Prop :=
  Met l y ws rm (wP D w0 ty av) (va_Qv (fun _ : Unit => True) (wB D w0 w1 ty) (wA w0)) 0 0 (wA w0)
abbrev wiMet (l : Launch) (y : MethodName) (ws : List Cond) (rm : Room) (D : va_G) (w0 w1 : va_W) (ty : List (ClassId × FieldType)) (av : List Value) (val : Int32) : Prop :=
  Met l y ws rm (wP D w0 ty av) (va_Qi (fun r (_ : Unit) => r = val) (wB D w0 w1 ty) (wA w0)) 0 0 (wA w0)
theorem wr_free {A0 : Nat → Prop} {ws wc : va_W} (hD : va_D A0 ws) (isC : List Nat) (hC : isC.map (fun i => ws[i]?) = wc.map some) : ∀ q, wA wc q → A0 q := by
  intro q ⟨k, e, h⟩
  have h1 : (isC.map (fun i => ws[i]?))[k]? = some (some (q, e)) := by rw [hC, List.getElem?_map, h]; rfl
  rw [List.getElem?_map] at h1
  cases hi : isC[k]? with
  | none => rw [hi] at h1; cases h1
  | some i => rw [hi] at h1; exact hD.2 i (q, e) (Option.some.inj h1)
theorem wr_join {A0 : Nat → Prop} {D : va_G} {cl : List vw_C} {ws wc wr w1 : va_W} {H H1 : Heap} (hP : va_P D cl ws H) (hD : va_D A0 ws) (isC isR : List Nat) (hC : isC.map (fun i => ws[i]?) = wc.map some) (hR : isR.map (fun i => ws[i]?) = wr.map some) (hn : va_nd isR = true) (hdis : ∀ i ∈ isR, i ∉ isC)
    (hk : ∀ q : Nat, q < H.size → ¬ wA wc q → H1[q]? = H[q]?) (hP1 : va_P D cl w1 H1) (hD1 : va_D (wA wc) w1) : va_P D cl (wr ++ w1) H1 ∧ va_D A0 (wr ++ w1) := by
  have key : ∀ (k : Nat) (q : Nat × va_E), wr[k]? = some q → ∃ i, isR[k]? = some i ∧ ws[i]? = some q := by
    intro k q hk
    have h1 : (isR.map (fun i => ws[i]?))[k]? = some (some q) := by rw [hR, List.getElem?_map, hk]; rfl
    rw [List.getElem?_map] at h1
    cases hi : isR[k]? with
    | none => rw [hi] at h1; cases h1
    | some i => rw [hi] at h1; exact ⟨i, rfl, Option.some.inj h1⟩
  have keyC : ∀ (k : Nat) (q : Nat × va_E), wc[k]? = some q → ∃ i, isC[k]? = some i ∧ ws[i]? = some q := by
    intro k q hk
    have h1 : (isC.map (fun i => ws[i]?))[k]? = some (some q) := by rw [hC, List.getElem?_map, hk]; rfl
    rw [List.getElem?_map] at h1
    cases hi : isC[k]? with
    | none => rw [hi] at h1; cases h1
    | some i => rw [hi] at h1; exact ⟨i, rfl, Option.some.inj h1⟩
  have hno : ∀ (k : Nat) (q : Nat × va_E), wr[k]? = some q → ¬ wA wc q.1 := by
    rintro k q hk ⟨j, e, hj⟩
    obtain ⟨i, hi, hwi⟩ := key k q hk
    obtain ⟨i2, hi2, hwi2⟩ := keyC j _ hj
    have := hD.1 i i2 q _ hwi hwi2 rfl
    subst this
    exact hdis i (List.mem_of_getElem? hi) (List.mem_of_getElem? hi2)
  have hPr : va_P D cl wr H1 := by
    intro k q hk2
    obtain ⟨i, hi, hwi⟩ := key k q hk2
    exact (hP i q hwi).kept (hk q.1 (hP i q hwi).lt (hno k q hk2))
  have hDr : va_D A0 wr := hD.sub isR hn hR
  refine ⟨hPr.app hP1, hDr.app (hD1.weaken (fun k q hk h => wr_free hD isC hC _ h)) (fun i j p q hi hj e => hno i p hi (by rw [e]; exact hD1.2 j q hj))⟩
section WRC
variable {p : Program} {l : Launch} {e : Env} {R : Room} {s : State} {m : MethodId} {args : Array Value} {below : List Frame} {meth : Method} {c : Code} {H : Heap} {locs : List Loc} {cells slots : Nat} {Q : State → Prop}
variable {y : MethodName} {bytes cc : ByteArray} {maxL nL n index pc : Nat} {ret : Option FieldType} {wy : List Cond} {rm : Room} {Ts : List Cond} {own C : String} {b : Addr} {As rest st0 : List Value} {ls : Array Slot} {D : va_G} {ws wc w1 wr : va_W} {ty : List (ClassId × FieldType)} {A0 : Nat → Prop} {H0 : Heap} {val : Int32}
theorem wi_V (S : CallFix p m c cc nL s args Ts own) (hM : wiMet l y wy rm D wc w1 ty (.ref b :: As) val) (cw : CallW R s args own C index y bytes maxL ret wy rm 0 0 n)
    (hrecv : ∃ cell : Cell, H[b]? = some cell ∧ cell.vm.isStatics = false ∧ s.vm.findClass C = some cell.cls) (hPc : va_P D vwCl wc H) (hDc : va_D A0 wc) (hKc : va_K D vwCl ty s) (hP : va_P D vwCl ws H) (hD : va_D A0 ws) (hS : va_S A0 H0 H locs)
    (isC isR : List Nat) (hC : isC.map (fun i => ws[i]?) = wc.map some) (hR : isR.map (fun i => ws[i]?) = wr.map some) (hnd : va_nd isR = true) (hdis : ∀ i ∈ isR, i ∉ isC)
    (hn : As.length = n) (hsize : ls.size = nL) (hstack : st0 = As.reverse ++ .ref b :: rest) (hW : 2 * (F0 m pc ls st0).monitorRoom + (rest.map fun v => v.category).sum ≤ 8) (hdg : decode cc pc = .ok (.invokevirtual index, 3)) (hf : cells ≤ R.cells ∧ slots ≤ R.slots)
    (kk : ∀ (r : Int32) (H1 : Heap) (locs1 : List Loc), r = val → va_P D vwCl (wr ++ w1) H1 → va_D A0 (wr ++ w1) → va_S A0 H0 H1 locs1 → W p l e R s m args below meth c H1 locs1 cells slots Q (F0 m (pc + 3) ls (.int r :: rest))) : W p l e R s m args below meth c H locs cells slots Q (F0 m pc ls st0) := by
  refine va_calli (A1 := wA wc) (va_runV (As := As) (rest := rest) S hM cw ⟨fun a U g mk q => by obtain ⟨q0, qP, qK, qD⟩ := q; exact ⟨q0, qP, va_K.moved (u := U) (U := U.calling g mk a) (Vm.Alike.refl U.vm) qK, qD⟩, hrecv, fun U hU hW => ⟨rfl, by rw [hU]; exact hPc, va_K.moved hW.alike hKc, hDc.weaken (fun _ _ _ _ => trivial)⟩⟩ rfl hn hsize hstack hW hdg hf) hS (fun q _ h => wr_free hD isC hC q h) (wr_free hD isC hC) (fun r u t H1 locs1 ht hvm hw hB hz1 hk1 hS1 => ?_)
  obtain ⟨hP1, hK1, hD1⟩ := hB
  rw [ht] at hP1
  obtain ⟨hP2, hD2⟩ := wr_join hP hD isC isR hC hR hnd hdis hk1 hP1 hD1
  exact kk r H1 locs1 hw hP2 hD2 hS1
theorem wv_V (S : CallFix p m c cc nL s args Ts own) (hM : wvMet l y wy rm D wc w1 ty (.ref b :: As)) (cw : CallW R s args own C index y bytes maxL ret wy rm 0 0 n)
    (hrecv : ∃ cell : Cell, H[b]? = some cell ∧ cell.vm.isStatics = false ∧ s.vm.findClass C = some cell.cls) (hPc : va_P D vwCl wc H) (hDc : va_D A0 wc) (hKc : va_K D vwCl ty s) (hP : va_P D vwCl ws H) (hD : va_D A0 ws) (hS : va_S A0 H0 H locs)
    (isC isR : List Nat) (hC : isC.map (fun i => ws[i]?) = wc.map some) (hR : isR.map (fun i => ws[i]?) = wr.map some) (hnd : va_nd isR = true) (hdis : ∀ i ∈ isR, i ∉ isC)
    (hn : As.length = n) (hsize : ls.size = nL) (hstack : st0 = As.reverse ++ .ref b :: rest) (hW : 2 * (F0 m pc ls st0).monitorRoom + (rest.map fun v => v.category).sum ≤ 8) (hdg : decode cc pc = .ok (.invokevirtual index, 3)) (hf : cells ≤ R.cells ∧ slots ≤ R.slots)
    (kk : ∀ (H1 : Heap) (locs1 : List Loc), va_P D vwCl (wr ++ w1) H1 → va_D A0 (wr ++ w1) → va_S A0 H0 H1 locs1 → W p l e R s m args below meth c H1 locs1 cells slots Q (F0 m (pc + 3) ls rest)) : W p l e R s m args below meth c H locs cells slots Q (F0 m pc ls st0) := by
  refine va_callv (A1 := wA wc) (va_runV (As := As) (rest := rest) S hM cw ⟨fun a U g mk q => by obtain ⟨q0, qP, qK, qD⟩ := q; exact ⟨q0, qP, va_K.moved (u := U) (U := U.calling g mk a) (Vm.Alike.refl U.vm) qK, qD⟩, hrecv, fun U hU hW => ⟨rfl, by rw [hU]; exact hPc, va_K.moved hW.alike hKc, hDc.weaken (fun _ _ _ _ => trivial)⟩⟩ rfl hn hsize hstack hW hdg hf) hS (fun q _ h => wr_free hD isC hC q h) (wr_free hD isC hC) (fun u t H1 locs1 ht hvm hw hB hz1 hk1 hS1 => ?_)
  obtain ⟨hP1, hK1, hD1⟩ := hB
  rw [ht] at hP1
  obtain ⟨hP2, hD2⟩ := wr_join hP hD isC isR hC hR hnd hdis hk1 hP1 hD1
  exact kk H1 locs1 hP2 hD2 hS1
theorem wv_S (S : CallFix p m c cc nL s args Ts own) (hM : wvMet l y wy rm D wc w1 ty As) (cw : CallB R s args own index y bytes maxL ret wy rm 0 0 n ∧ (Cond.static y).before args s = true)
    (hPc : va_P D vwCl wc H) (hDc : va_D A0 wc) (hKc : va_K D vwCl ty s) (hP : va_P D vwCl ws H) (hD : va_D A0 ws) (hS : va_S A0 H0 H locs)
    (isC isR : List Nat) (hC : isC.map (fun i => ws[i]?) = wc.map some) (hR : isR.map (fun i => ws[i]?) = wr.map some) (hnd : va_nd isR = true) (hdis : ∀ i ∈ isR, i ∉ isC)
    (hn : As.length = n) (hsize : ls.size = nL) (hstack : st0 = As.reverse ++ rest) (hW : 2 * (F0 m pc ls st0).monitorRoom + (rest.map fun v => v.category).sum ≤ 8) (hdg : decode cc pc = .ok (.invokestatic index, 3)) (hf : cells ≤ R.cells ∧ slots ≤ R.slots)
    (kk : ∀ (H1 : Heap) (locs1 : List Loc), va_P D vwCl (wr ++ w1) H1 → va_D A0 (wr ++ w1) → va_S A0 H0 H1 locs1 → W p l e R s m args below meth c H1 locs1 cells slots Q (F0 m (pc + 3) ls rest)) : W p l e R s m args below meth c H locs cells slots Q (F0 m pc ls st0) := by
  refine va_callv (A1 := wA wc) (va_runS (As := As) (rest := rest) S hM cw ⟨fun a U g mk q => by obtain ⟨q0, qP, qK, qD⟩ := q; exact ⟨q0, qP, va_K.moved (u := U) (U := U.calling g mk a) (Vm.Alike.refl U.vm) qK, qD⟩, fun U hU hW => ⟨rfl, by rw [hU]; exact hPc, va_K.moved hW.alike hKc, hDc.weaken (fun _ _ _ _ => trivial)⟩⟩ rfl hn hsize hstack hW hdg hf) hS (fun q _ h => wr_free hD isC hC q h) (wr_free hD isC hC) (fun u t H1 locs1 ht hvm hw hB hz1 hk1 hS1 => ?_)
  obtain ⟨hP1, hK1, hD1⟩ := hB
  rw [ht] at hP1
  obtain ⟨hP2, hD2⟩ := wr_join hP hD isC isR hC hR hnd hdis hk1 hP1 hD1
  exact kk H1 locs1 hP2 hD2 hS1
end WRC
/-- behind a fill -/
def filF (n : Nat) (v : Int32) (f : Nat → Int32) : Nat → Int32 := fun k => if k < n then v else f k
theorem filF_0 (v : Int32) (f : Nat → Int32) : filF 0 v f = f := by funext k; simp [filF]
theorem filF_s (n : Nat) (v : Int32) (f : Nat → Int32) : upd (filF n v f) n v = filF (n + 1) v f := by
  funext k
  unfold filF upd
  by_cases h : k = n
  · subst h; simp
  · by_cases h2 : k < n
    · simp [h, h2, Nat.lt_succ_of_lt h2]
    · have : ¬ k < n + 1 := by omega
      simp [h, h2, this]
theorem filF_in {n : Nat} {v : Int32} {f : Nat → Int32} {k : Nat} (h : k < n) : filF n v f k = v := by simp [filF, h]
