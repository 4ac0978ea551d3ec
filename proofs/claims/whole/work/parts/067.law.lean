def R_law : String := "HeightLinesLaw"
def lw_P (b : Addr) (xs : List Int32) (args : Array Value) (s : State) : Prop := args = #[.ref b] ∧ s.IntsAt b xs ∧ xs.length ≤ 2048 ∧ (Jvm.Cond.and given_1 narrow_1).before args s = true
def lw_Q (_ : Array Value) (s : State) (o : Outcome) (t : State) : Prop := o = .returned (some (.int 1)) ∧ Framed s o t [] 1039 10756
def lw_Z (below : List Frame) (a : Array Value) (s : State) : State → Prop := fun t => ∃ o, t.status = .running ∧ Ended t below o ∧ lw_Q a s o t
/-- the law's own end, with 1 on the stack, nothing written that was there before, its room as the claim has it -/
theorem lw_ret {p : Program} {l : Launch} {e : Env} {s : State} {m : MethodId} {below : List Frame} {meth : Method} {c : Code} {b : Nat} (hx : p.tables.exec = Jvm.exec) (hb : c.code = code) (hr : meth.sig.returnType = ret) (hlocks : meth.locks = false) {pc : Nat} {H : Heap} {ls : Array Slot} (hdg : decode code pc = .ok (.ireturn, 1)) : W p l e room_1 s m #[Value.ref b] below meth c H [] 1039 10756 (lw_Z below #[Value.ref b] s) (F0 m pc ls [.int 1]) := by
  intro T hT X
  obtain ⟨fs, hret, hrun, hended, hW, hframe⟩ := X.leave (v := some (.int 1)) (hlocks := hlocks) (fun h => by rw [hr] at h; cases h)
  have hmeth' : T.vm.method? m = some meth := X.method'
  refine ⟨T.setFrames fs, ?_, .returned (some (.int 1)), hrun, hended, rfl, ⟨_, rfl⟩, hW, hframe⟩
  jvm_step X.here [X.here.top, hx, hb, hdg, hmeth', hr, ret, narrow_b1]
  (try refine ⟨rfl, ?_⟩); (try refine ⟨rfl, ?_⟩)
  first | (intro acts; rw [hret _ acts rfl rfl rfl]) | rw [hret _ _ rfl rfl rfl]
  exact Steps.refl _
/-- what holds at the law's entry: the machine, the code, the tables' words (any of lw_tbl by 'hts w (by decide +kernel)'), the script of L ints xs at the cell b, what the Statement gives of the start (any of its parts by flat_of_before) -/
def lw_At (p : Program) (s : State) (m : MethodId) (meth : Method) (c : Code) (b L : Nat) (xs : Nat → Int32) : Prop :=
  p.tables.exec = Jvm.exec ∧ c.code = code ∧ meth.sig.returnType = ret ∧ c.maxLocals = 7 ∧ s.vm.findClass R_law = some m.cls ∧ (∀ w ∈ lw_tbl, w.before #[Value.ref b] s = true) ∧ va_X b L xs s s.heap ∧ b < s.heap.size ∧ meth.locks = false ∧ (Jvm.Cond.and given_1 narrow_1).before #[Value.ref b] s = true

/-! the law's run: what holds between two calls of the script -/
section SLD
variable {p : Program} {l : Launch} {e : Env} {R : Room} {s : State} {m : MethodId} {args : Array Value} {below : List Frame} {meth : Method} {c : Code} {H0 H : Heap} {locs : List Loc} {cells slots : Nat} {Q : State → Prop} {cc : ByteArray} {pc : Nat} {ls : Array Slot} {rest : List Value} {A : Nat → Prop}
theorem sl_ld (hexec : p.tables.exec = Jvm.exec) (hb : c.code = cc) {b L : Nat} {xs : Nat → Int32} (hX : va_X b L xs s H0) (hbl : b < H0.size) (hbA : ¬ A b) (hS : va_S A H0 H locs) {i v : Int32} {j : Nat} (hi : i = nI j) (hj : j < L) (hL : L ≤ 2048) (hv : xs j = v) (hdg : decode cc pc = .ok (.iaload, 1))
    (kk : W p l e R s m args below meth c H locs cells slots Q (F0 m (pc + 1) ls (.int v :: rest))) : W p l e R s m args below meth c H locs cells slots Q (F0 m pc ls (.int i :: .ref b :: rest)) := by
  subst hi
  refine va_sld hexec hb hX hbl hbA hS (vp_in_nI hj (by omega)) hdg ?_
  rw [nI_clamp (by omega), hv]
  exact kk
end SLD
abbrev LI (s : State) (D : va_G) (o r : Nat → Nat) (cI cR cZ cJ : ClassId) (q0 b k : Nat) (w h : Nat) (tw : Int32) (f : Nat → Nat → Int32) (L : List (List Nat)) (no : Nat) (sm nx bf od st ow : Nat → Int32) (th : Int32) (smR odR stR cl us : Nat → Int32) (g : Nat → Int64) (H : Heap) (locs : List Loc) (ls : Array Slot) : Prop :=
  IA w h tw f L no ∧ IC w h f L sm od st ow ∧ IR w h f L no smR odR stR cl ∧ va_P D vwCl (W0 o cI (nI w) (nI h) tw (nI no) (nI L.length) sm nx bf od st ow ++ (W1 r cR cZ th (nI w) (nI h) tw (nI L.length) smR odR stR cl us ++ [(q0, .inl (cJ, 1, .inr (.inl g)))])) H ∧ va_D (fun q : Nat => s.heap.size ≤ q) (W0 o cI (nI w) (nI h) tw (nI no) (nI L.length) sm nx bf od st ow ++ (W1 r cR cZ th (nI w) (nI h) tw (nI L.length) smR odR stR cl us ++ [(q0, .inl (cJ, 1, .inr (.inl g)))])) ∧ va_S (fun q : Nat => s.heap.size ≤ q) s.heap H locs ∧ lv_has ls 7 [(0, .ref b), (1, .ref (o 0)), (2, .ref (r 0)), (3, .ref q0), (4, .int (nI (4 * k)))]


set_option maxHeartbeats 400000 in
set_option maxRecDepth 100000 in
theorem lw_field {p : Program} (l : Launch) {e : Env} {s : State} {m : MethodId} {below : List Frame} {meth : Method} {c : Code} (D : va_G) (o r : Nat → Nat) (cI cR cZ cJ : ClassId) (q0 : Nat) {b Ls k : Nat} {xs : Nat → Int32} (hL : Ls ≤ 2048) (C0 : lw_At p s m meth c b Ls xs) (hk : 4 * k + 4 ≤ Ls) (hK : va_K D vwCl [(cI, .int), (cR, .int), (cZ, .boolean), (cJ, .long)] s) (J : ∀ (w h : Nat) (tw : Int32) (f : Nat → Nat → Int32) (L : List (List Nat)) (no : Nat) (sm nx bf od st ow : Nat → Int32) (th : Int32) (smR odR stR cl us : Nat → Int32) (g : Nat → Int64) (H : Heap) (locs : List Loc) (ls : Array Slot), LI s D o r cI cR cZ cJ q0 b k w h tw f L no sm nx bf od st ow th smR odR stR cl us g H locs ls → W p l e room_1 s m #[Value.ref b] below meth c H locs (14 + (k + 1)) (2558 + 6 * (k + 1)) (lw_Z below #[Value.ref b] s) (F0 m 462 ls [])) {w h : Nat} {tw : Int32} {f : Nat → Nat → Int32} {L : List (List Nat)} {no : Nat} {sm nx bf od st ow : Nat → Int32} {th : Int32} {smR odR stR cl us : Nat → Int32} {g : Nat → Int64} {H : Heap} {locs : List Loc} {ls : Array Slot} (I : LI s D o r cI cR cZ cJ q0 b k w h tw f L no sm nx bf od st ow th smR odR stR cl us g H locs ls) : W p l e room_1 s m #[Value.ref b] below meth c H locs (14 + k) (2558 + 6 * k) (lw_Z below #[Value.ref b] s) (F0 m 96 ls []) := by
  obtain ⟨hx, hb, hr, hml, hown, hts, hX, hbl, hlocks, hgv⟩ := C0
  have hts : ∀ w ∈ wsL_law, w.before #[Value.ref b] s = true := fun w h => hts w (wsL_law_in w h)
  have hown : s.vm.findClass RL = some m.cls := hown
  have hbA : ¬ (fun q : Nat => s.heap.size ≤ q) b := Nat.not_le.mpr hbl
  obtain ⟨hI, hC, hR, hP, hD, hS, hl⟩ := I
  obtain ⟨a1, ea1⟩ : ∃ a, xs (4 * k + 1) = a := ⟨_, rfl⟩
  obtain ⟨a2, ea2⟩ : ∃ a, xs (4 * k + 2) = a := ⟨_, rfl⟩
  obtain ⟨a3, ea3⟩ : ∃ a, xs (4 * k + 3) = a := ⟨_, rfl⟩
  obtain ⟨gw, gw2, gh, gh2, gb, gt, gL, gno, gnd, gal⟩ := id hI
  refine lv_aload_n hx hb dL_law_96 rfl (lv_at hl 1 rfl) ?_
  refine lv_aload_n hx hb dL_law_97 rfl (lv_at hl 0 rfl) ?_
  refine lv_iload hx hb dL_law_98 (lv_at hl 4 rfl) ?_
  refine lv_iconst (v := 1) hx hb dL_law_100 (by decide) ?_
  refine lv_iadd hx hb dL_law_101 ?_
  refine sl_ld (j := 4 * k + 1) (v := a1) hx hb hX hbl hbA hS (nI_add (4 * k) 1) (by omega) hL ea1 dL_law_102 ?_
  refine lv_aload_n hx hb dL_law_103 rfl (lv_at hl 0 rfl) ?_
  refine lv_iload hx hb dL_law_104 (lv_at hl 4 rfl) ?_
  refine lv_iconst (v := 2) hx hb dL_law_106 (by decide) ?_
  refine lv_iadd hx hb dL_law_107 ?_
  refine sl_ld (j := 4 * k + 2) (v := a2) hx hb hX hbl hbA hS (nI_add (4 * k) 2) (by omega) hL ea2 dL_law_108 ?_
  refine wi_V (wr := W1 r cR cZ th (nI w) (nI h) tw (nI L.length) smR odR stR cl us ++ [(q0, .inl (cJ, 1, .inr (.inl g)))]) (As := [.int a1, .int a2]) (rest := []) ⟨hx, hb, hml, hown, hts⟩ (c_X0_field l D o cI (nI w) (nI h) tw (nI no) (nI L.length) sm nx bf od st ow a1 a2) (cwV 2 hts gL_law_X0_field rfl rfl rfl (by decide +kernel) ⟨Nat.le_of_ble_eq_true rfl, Nat.le_of_ble_eq_true rfl⟩) (va_recv hK hP (ci := 0) (q0 := 0) rfl rfl) (hP.sub (ws' := W0 o cI (nI w) (nI h) tw (nI no) (nI L.length) sm nx bf od st ow) [0, 1, 2, 3, 4, 5, 6] rfl) (hD.sub (ws' := W0 o cI (nI w) (nI h) tw (nI no) (nI L.length) sm nx bf od st ow) [0, 1, 2, 3, 4, 5, 6] (by decide) rfl) (hK.sub (tys' := [(cI, .int)]) [0] rfl) hP hD hS [0, 1, 2, 3, 4, 5, 6] [7, 8, 9, 10, 11, 12, 13] rfl rfl rfl (by decide) rfl hl.1 rfl (lv_room (Nat.le_of_ble_eq_true rfl)) dL_law_109 ⟨by show 14 + k ≤ 1039; omega, by show 2558 + 6 * k ≤ 10756; omega⟩ (fun r0 H locs hr0 hP hD hS => ?_)
  have hP : va_P D vwCl (W0 o cI (cond (okF a1 a2) a1 (nI w)) (cond (okF a1 a2) a2 (nI h)) tw (cond (okF a1 a2) 0 (nI no)) (cond (okF a1 a2) 0 (nI L.length)) (cond (okF a1 a2) (filF 144 0 sm) sm) nx bf od st (cond (okF a1 a2) (filF 264 (-1) ow) ow) ++ (W1 r cR cZ th (nI w) (nI h) tw (nI L.length) smR odR stR cl us ++ [(q0, .inl (cJ, 1, .inr (.inl g)))])) H := hP.sub [7, 8, 9, 10, 11, 12, 13, 0, 1, 2, 3, 4, 5, 6] rfl
  have hD : va_D (fun q : Nat => s.heap.size ≤ q) (W0 o cI (cond (okF a1 a2) a1 (nI w)) (cond (okF a1 a2) a2 (nI h)) tw (cond (okF a1 a2) 0 (nI no)) (cond (okF a1 a2) 0 (nI L.length)) (cond (okF a1 a2) (filF 144 0 sm) sm) nx bf od st (cond (okF a1 a2) (filF 264 (-1) ow) ow) ++ (W1 r cR cZ th (nI w) (nI h) tw (nI L.length) smR odR stR cl us ++ [(q0, .inl (cJ, 1, .inr (.inl g)))])) := hD.sub [7, 8, 9, 10, 11, 12, 13, 0, 1, 2, 3, 4, 5, 6] (by decide) rfl
  refine lv_aload_n hx hb dL_law_112 rfl (lv_at hl 2 rfl) ?_
  refine lv_aload_n hx hb dL_law_113 rfl (lv_at hl 0 rfl) ?_
  refine lv_iload hx hb dL_law_114 (lv_at hl 4 rfl) ?_
  refine lv_iconst (v := 1) hx hb dL_law_116 (by decide) ?_
  refine lv_iadd hx hb dL_law_117 ?_
  refine sl_ld (j := 4 * k + 1) (v := a1) hx hb hX hbl hbA hS (nI_add (4 * k) 1) (by omega) hL ea1 dL_law_118 ?_
  refine lv_aload_n hx hb dL_law_119 rfl (lv_at hl 0 rfl) ?_
  refine lv_iload hx hb dL_law_120 (lv_at hl 4 rfl) ?_
  refine lv_iconst (v := 2) hx hb dL_law_122 (by decide) ?_
  refine lv_iadd hx hb dL_law_123 ?_
  refine sl_ld (j := 4 * k + 2) (v := a2) hx hb hX hbl hbA hS (nI_add (4 * k) 2) (by omega) hL ea2 dL_law_124 ?_
  refine wi_V (wr := W0 o cI (cond (okF a1 a2) a1 (nI w)) (cond (okF a1 a2) a2 (nI h)) tw (cond (okF a1 a2) 0 (nI no)) (cond (okF a1 a2) 0 (nI L.length)) (cond (okF a1 a2) (filF 144 0 sm) sm) nx bf od st (cond (okF a1 a2) (filF 264 (-1) ow) ow) ++ [(q0, .inl (cJ, 1, .inr (.inl g)))]) (As := [.int a1, .int a2]) (rest := [.int r0]) ⟨hx, hb, hml, hown, hts⟩ (c_X1_field l D r cR cZ th (nI w) (nI h) tw (nI L.length) smR odR stR cl us a1 a2) (cwV 2 hts gL_law_X1_field rfl rfl rfl (by decide +kernel) ⟨Nat.le_of_ble_eq_true rfl, Nat.le_of_ble_eq_true rfl⟩) (va_recv hK hP (ci := 1) (q0 := 7) rfl rfl) (hP.sub (ws' := W1 r cR cZ th (nI w) (nI h) tw (nI L.length) smR odR stR cl us) [7, 8, 9, 10, 11, 12] rfl) (hD.sub (ws' := W1 r cR cZ th (nI w) (nI h) tw (nI L.length) smR odR stR cl us) [7, 8, 9, 10, 11, 12] (by decide) rfl) (hK.sub (tys' := [(cR, .int), (cZ, .boolean)]) [1, 2] rfl) hP hD hS [7, 8, 9, 10, 11, 12] [0, 1, 2, 3, 4, 5, 6, 13] rfl rfl rfl (by decide) rfl hl.1 rfl (lv_room (Nat.le_of_ble_eq_true rfl)) dL_law_125 ⟨by show 14 + k ≤ 1039; omega, by show 2558 + 6 * k ≤ 10756; omega⟩ (fun r1 H locs hr1 hP hD hS => ?_)
  have hP : va_P D vwCl (W0 o cI (cond (okF a1 a2) a1 (nI w)) (cond (okF a1 a2) a2 (nI h)) tw (cond (okF a1 a2) 0 (nI no)) (cond (okF a1 a2) 0 (nI L.length)) (cond (okF a1 a2) (filF 144 0 sm) sm) nx bf od st (cond (okF a1 a2) (filF 264 (-1) ow) ow) ++ (W1 r cR cZ 0 (cond (okF a1 a2) a1 (nI w)) (cond (okF a1 a2) a2 (nI h)) tw (cond (okF a1 a2) 0 (nI L.length)) (cond (okF a1 a2) (filF 144 0 smR) smR) odR stR cl us ++ [(q0, .inl (cJ, 1, .inr (.inl g)))])) H := hP.sub [0, 1, 2, 3, 4, 5, 6, 8, 9, 10, 11, 12, 13, 7] rfl
  have hD : va_D (fun q : Nat => s.heap.size ≤ q) (W0 o cI (cond (okF a1 a2) a1 (nI w)) (cond (okF a1 a2) a2 (nI h)) tw (cond (okF a1 a2) 0 (nI no)) (cond (okF a1 a2) 0 (nI L.length)) (cond (okF a1 a2) (filF 144 0 sm) sm) nx bf od st (cond (okF a1 a2) (filF 264 (-1) ow) ow) ++ (W1 r cR cZ 0 (cond (okF a1 a2) a1 (nI w)) (cond (okF a1 a2) a2 (nI h)) tw (cond (okF a1 a2) 0 (nI L.length)) (cond (okF a1 a2) (filF 144 0 smR) smR) odR stR cl us ++ [(q0, .inl (cJ, 1, .inr (.inl g)))])) := hD.sub [0, 1, 2, 3, 4, 5, 6, 8, 9, 10, 11, 12, 13, 7] (by decide) rfl
  subst hr0
  subst hr1
  refine lv_icmp_eq (tgt := 462) hx hb dL_law_128 (by decide) (fun _ => ?_) (fun c9 => absurd rfl c9)
  refine W.widen (k := 14 + (k + 1)) (n := 2558 + 6 * (k + 1)) (by omega) (by omega) ?_
  cases hq : okF a1 a2 with
  | false =>
    rw [hq] at hP hD
    exact J w h tw f L no sm nx bf od st ow 0 smR odR stR cl us g _ _ _ ⟨hI, hC, hR, hP, hD, hS, hl⟩
  | true =>
    rw [hq] at hP hD
    obtain ⟨w1, h1, g1, g2, g3, g4, e1, e2⟩ := okF_n hq
    rw [e1, e2] at hP hD
    exact J w1 h1 tw (fun _ _ => 0) [] 0 (filF 144 0 sm) nx bf od st (filF 264 (-1) ow) 0 (filF 144 0 smR) odR stR cl us g _ _ _ ⟨IA_field hI g1 g2 g3 g4, IC_field hC g2 g4, IR_field hR g2 g4, hP, hD, hS, hl⟩

set_option maxHeartbeats 400000 in
set_option maxRecDepth 100000 in
theorem lw_set {p : Program} (l : Launch) {e : Env} {s : State} {m : MethodId} {below : List Frame} {meth : Method} {c : Code} (D : va_G) (o r : Nat → Nat) (cI cR cZ cJ : ClassId) (q0 : Nat) {b Ls k : Nat} {xs : Nat → Int32} (hL : Ls ≤ 2048) (C0 : lw_At p s m meth c b Ls xs) (hk : 4 * k + 4 ≤ Ls) (hK : va_K D vwCl [(cI, .int), (cR, .int), (cZ, .boolean), (cJ, .long)] s) (J : ∀ (w h : Nat) (tw : Int32) (f : Nat → Nat → Int32) (L : List (List Nat)) (no : Nat) (sm nx bf od st ow : Nat → Int32) (th : Int32) (smR odR stR cl us : Nat → Int32) (g : Nat → Int64) (H : Heap) (locs : List Loc) (ls : Array Slot), LI s D o r cI cR cZ cJ q0 b k w h tw f L no sm nx bf od st ow th smR odR stR cl us g H locs ls → W p l e room_1 s m #[Value.ref b] below meth c H locs (14 + (k + 1)) (2558 + 6 * (k + 1)) (lw_Z below #[Value.ref b] s) (F0 m 462 ls [])) {w h : Nat} {tw : Int32} {f : Nat → Nat → Int32} {L : List (List Nat)} {no : Nat} {sm nx bf od st ow : Nat → Int32} {th : Int32} {smR odR stR cl us : Nat → Int32} {g : Nat → Int64} {H : Heap} {locs : List Loc} {ls : Array Slot} (I : LI s D o r cI cR cZ cJ q0 b k w h tw f L no sm nx bf od st ow th smR odR stR cl us g H locs ls) : W p l e room_1 s m #[Value.ref b] below meth c H locs (14 + k) (2558 + 6 * k) (lw_Z below #[Value.ref b] s) (F0 m 133 ls []) := by
  obtain ⟨hx, hb, hr, hml, hown, hts, hX, hbl, hlocks, hgv⟩ := C0
  have hts : ∀ w ∈ wsL_law, w.before #[Value.ref b] s = true := fun w h => hts w (wsL_law_in w h)
  have hown : s.vm.findClass RL = some m.cls := hown
  have hbA : ¬ (fun q : Nat => s.heap.size ≤ q) b := Nat.not_le.mpr hbl
  obtain ⟨hI, hC, hR, hP, hD, hS, hl⟩ := I
  obtain ⟨a1, ea1⟩ : ∃ a, xs (4 * k + 1) = a := ⟨_, rfl⟩
  obtain ⟨a2, ea2⟩ : ∃ a, xs (4 * k + 2) = a := ⟨_, rfl⟩
  obtain ⟨a3, ea3⟩ : ∃ a, xs (4 * k + 3) = a := ⟨_, rfl⟩
  obtain ⟨gw, gw2, gh, gh2, gb, gt, gL, gno, gnd, gal⟩ := id hI
  refine lv_aload_n hx hb dL_law_133 rfl (lv_at hl 1 rfl) ?_
  refine lv_aload_n hx hb dL_law_134 rfl (lv_at hl 0 rfl) ?_
  refine lv_iload hx hb dL_law_135 (lv_at hl 4 rfl) ?_
  refine lv_iconst (v := 1) hx hb dL_law_137 (by decide) ?_
  refine lv_iadd hx hb dL_law_138 ?_
  refine sl_ld (j := 4 * k + 1) (v := a1) hx hb hX hbl hbA hS (nI_add (4 * k) 1) (by omega) hL ea1 dL_law_139 ?_
  refine lv_aload_n hx hb dL_law_140 rfl (lv_at hl 0 rfl) ?_
  refine lv_iload hx hb dL_law_141 (lv_at hl 4 rfl) ?_
  refine lv_iconst (v := 2) hx hb dL_law_143 (by decide) ?_
  refine lv_iadd hx hb dL_law_144 ?_
  refine sl_ld (j := 4 * k + 2) (v := a2) hx hb hX hbl hbA hS (nI_add (4 * k) 2) (by omega) hL ea2 dL_law_145 ?_
  refine lv_aload_n hx hb dL_law_146 rfl (lv_at hl 0 rfl) ?_
  refine lv_iload hx hb dL_law_147 (lv_at hl 4 rfl) ?_
  refine lv_iconst (v := 3) hx hb dL_law_149 (by decide) ?_
  refine lv_iadd hx hb dL_law_150 ?_
  refine sl_ld (j := 4 * k + 3) (v := a3) hx hb hX hbl hbA hS (nI_add (4 * k) 3) (by omega) hL ea3 dL_law_151 ?_
  refine wi_V (wr := W1 r cR cZ th (nI w) (nI h) tw (nI L.length) smR odR stR cl us ++ [(q0, .inl (cJ, 1, .inr (.inl g)))]) (As := [.int a1, .int a2, .int a3]) (rest := []) ⟨hx, hb, hml, hown, hts⟩ (c_X0_set l D o cI tw (nI no) (nI L.length) sm nx bf od st ow w h a1 a2 a3 gw2 gh2) (cwV 3 hts gL_law_X0_set rfl rfl rfl (by decide +kernel) ⟨Nat.le_of_ble_eq_true rfl, Nat.le_of_ble_eq_true rfl⟩) (va_recv hK hP (ci := 0) (q0 := 0) rfl rfl) (hP.sub (ws' := W0 o cI (nI w) (nI h) tw (nI no) (nI L.length) sm nx bf od st ow) [0, 1, 2, 3, 4, 5, 6] rfl) (hD.sub (ws' := W0 o cI (nI w) (nI h) tw (nI no) (nI L.length) sm nx bf od st ow) [0, 1, 2, 3, 4, 5, 6] (by decide) rfl) (hK.sub (tys' := [(cI, .int)]) [0] rfl) hP hD hS [0, 1, 2, 3, 4, 5, 6] [7, 8, 9, 10, 11, 12, 13] rfl rfl rfl (by decide) rfl hl.1 rfl (lv_room (Nat.le_of_ble_eq_true rfl)) dL_law_152 ⟨by show 14 + k ≤ 1039; omega, by show 2558 + 6 * k ≤ 10756; omega⟩ (fun r0 H locs hr0 hP hD hS => ?_)
  have hP : va_P D vwCl (W0 o cI (nI w) (nI h) tw (nI no) (nI L.length) (cond (okS w h a1 a2 a3) (upd sm (a2.toNatClampNeg * w + a1.toNatClampNeg) a3) sm) nx bf od st ow ++ (W1 r cR cZ th (nI w) (nI h) tw (nI L.length) smR odR stR cl us ++ [(q0, .inl (cJ, 1, .inr (.inl g)))])) H := hP.sub [7, 8, 9, 10, 11, 12, 13, 0, 1, 2, 3, 4, 5, 6] rfl
  have hD : va_D (fun q : Nat => s.heap.size ≤ q) (W0 o cI (nI w) (nI h) tw (nI no) (nI L.length) (cond (okS w h a1 a2 a3) (upd sm (a2.toNatClampNeg * w + a1.toNatClampNeg) a3) sm) nx bf od st ow ++ (W1 r cR cZ th (nI w) (nI h) tw (nI L.length) smR odR stR cl us ++ [(q0, .inl (cJ, 1, .inr (.inl g)))])) := hD.sub [7, 8, 9, 10, 11, 12, 13, 0, 1, 2, 3, 4, 5, 6] (by decide) rfl
  refine lv_aload_n hx hb dL_law_155 rfl (lv_at hl 2 rfl) ?_
  refine lv_aload_n hx hb dL_law_156 rfl (lv_at hl 0 rfl) ?_
  refine lv_iload hx hb dL_law_157 (lv_at hl 4 rfl) ?_
  refine lv_iconst (v := 1) hx hb dL_law_159 (by decide) ?_
  refine lv_iadd hx hb dL_law_160 ?_
  refine sl_ld (j := 4 * k + 1) (v := a1) hx hb hX hbl hbA hS (nI_add (4 * k) 1) (by omega) hL ea1 dL_law_161 ?_
  refine lv_aload_n hx hb dL_law_162 rfl (lv_at hl 0 rfl) ?_
  refine lv_iload hx hb dL_law_163 (lv_at hl 4 rfl) ?_
  refine lv_iconst (v := 2) hx hb dL_law_165 (by decide) ?_
  refine lv_iadd hx hb dL_law_166 ?_
  refine sl_ld (j := 4 * k + 2) (v := a2) hx hb hX hbl hbA hS (nI_add (4 * k) 2) (by omega) hL ea2 dL_law_167 ?_
  refine lv_aload_n hx hb dL_law_168 rfl (lv_at hl 0 rfl) ?_
  refine lv_iload hx hb dL_law_169 (lv_at hl 4 rfl) ?_
  refine lv_iconst (v := 3) hx hb dL_law_171 (by decide) ?_
  refine lv_iadd hx hb dL_law_172 ?_
  refine sl_ld (j := 4 * k + 3) (v := a3) hx hb hX hbl hbA hS (nI_add (4 * k) 3) (by omega) hL ea3 dL_law_173 ?_
  refine wi_V (wr := W0 o cI (nI w) (nI h) tw (nI no) (nI L.length) (cond (okS w h a1 a2 a3) (upd sm (a2.toNatClampNeg * w + a1.toNatClampNeg) a3) sm) nx bf od st ow ++ [(q0, .inl (cJ, 1, .inr (.inl g)))]) (As := [.int a1, .int a2, .int a3]) (rest := [.int r0]) ⟨hx, hb, hml, hown, hts⟩ (c_X1_set l D r cR cZ th tw (nI L.length) smR odR stR cl us w h a1 a2 a3 gw2 gh2) (cwV 3 hts gL_law_X1_set rfl rfl rfl (by decide +kernel) ⟨Nat.le_of_ble_eq_true rfl, Nat.le_of_ble_eq_true rfl⟩) (va_recv hK hP (ci := 1) (q0 := 7) rfl rfl) (hP.sub (ws' := W1 r cR cZ th (nI w) (nI h) tw (nI L.length) smR odR stR cl us) [7, 8, 9, 10, 11, 12] rfl) (hD.sub (ws' := W1 r cR cZ th (nI w) (nI h) tw (nI L.length) smR odR stR cl us) [7, 8, 9, 10, 11, 12] (by decide) rfl) (hK.sub (tys' := [(cR, .int), (cZ, .boolean)]) [1, 2] rfl) hP hD hS [7, 8, 9, 10, 11, 12] [0, 1, 2, 3, 4, 5, 6, 13] rfl rfl rfl (by decide) rfl hl.1 rfl (lv_room (Nat.le_of_ble_eq_true rfl)) dL_law_174 ⟨by show 14 + k ≤ 1039; omega, by show 2558 + 6 * k ≤ 10756; omega⟩ (fun r1 H locs hr1 hP hD hS => ?_)
  have hP : va_P D vwCl (W0 o cI (nI w) (nI h) tw (nI no) (nI L.length) (cond (okS w h a1 a2 a3) (upd sm (a2.toNatClampNeg * w + a1.toNatClampNeg) a3) sm) nx bf od st ow ++ (W1 r cR cZ 0 (nI w) (nI h) tw (nI L.length) (cond (okS w h a1 a2 a3) (upd smR (12 * a2.toNatClampNeg + a1.toNatClampNeg) a3) smR) odR stR cl us ++ [(q0, .inl (cJ, 1, .inr (.inl g)))])) H := hP.sub [0, 1, 2, 3, 4, 5, 6, 8, 9, 10, 11, 12, 13, 7] rfl
  have hD : va_D (fun q : Nat => s.heap.size ≤ q) (W0 o cI (nI w) (nI h) tw (nI no) (nI L.length) (cond (okS w h a1 a2 a3) (upd sm (a2.toNatClampNeg * w + a1.toNatClampNeg) a3) sm) nx bf od st ow ++ (W1 r cR cZ 0 (nI w) (nI h) tw (nI L.length) (cond (okS w h a1 a2 a3) (upd smR (12 * a2.toNatClampNeg + a1.toNatClampNeg) a3) smR) odR stR cl us ++ [(q0, .inl (cJ, 1, .inr (.inl g)))])) := hD.sub [0, 1, 2, 3, 4, 5, 6, 8, 9, 10, 11, 12, 13, 7] (by decide) rfl
  subst hr0
  subst hr1
  refine lv_icmp_eq (tgt := 462) hx hb dL_law_177 (by decide) (fun _ => ?_) (fun c9 => absurd rfl c9)
  refine W.widen (k := 14 + (k + 1)) (n := 2558 + 6 * (k + 1)) (by omega) (by omega) ?_
  cases hq : okS w h a1 a2 a3 with
  | false =>
    rw [hq] at hP hD
    exact J w h tw f L no sm nx bf od st ow 0 smR odR stR cl us g _ _ _ ⟨hI, hC, hR, hP, hD, hS, hl⟩
  | true =>
    rw [hq] at hP hD
    obtain ⟨x, y, g1, g2, e1, e2, g3⟩ := okS_n gw2 gh2 hq
    rw [e1, e2, nI_clamp (n := x) (by omega), nI_clamp (n := y) (by omega)] at hP hD
    exact J w h tw (setF f x y a3) L no (upd sm (y * w + x) a3) nx bf od st ow 0 (upd smR (12 * y + x) a3) odR stR cl us g _ _ _ ⟨IA_set hI g3, IC_set hC g1, IR_set hR gw2 g1, hP, hD, hS, hl⟩

set_option maxHeartbeats 400000 in
set_option maxRecDepth 100000 in
theorem lw_row {p : Program} (l : Launch) {e : Env} {s : State} {m : MethodId} {below : List Frame} {meth : Method} {c : Code} (D : va_G) (o r : Nat → Nat) (cI cR cZ cJ : ClassId) (q0 : Nat) {b Ls k : Nat} {xs : Nat → Int32} (hL : Ls ≤ 2048) (C0 : lw_At p s m meth c b Ls xs) (hk : 4 * k + 4 ≤ Ls) (hK : va_K D vwCl [(cI, .int), (cR, .int), (cZ, .boolean), (cJ, .long)] s) (J : ∀ (w h : Nat) (tw : Int32) (f : Nat → Nat → Int32) (L : List (List Nat)) (no : Nat) (sm nx bf od st ow : Nat → Int32) (th : Int32) (smR odR stR cl us : Nat → Int32) (g : Nat → Int64) (H : Heap) (locs : List Loc) (ls : Array Slot), LI s D o r cI cR cZ cJ q0 b k w h tw f L no sm nx bf od st ow th smR odR stR cl us g H locs ls → W p l e room_1 s m #[Value.ref b] below meth c H locs (14 + (k + 1)) (2558 + 6 * (k + 1)) (lw_Z below #[Value.ref b] s) (F0 m 462 ls [])) {w h : Nat} {tw : Int32} {f : Nat → Nat → Int32} {L : List (List Nat)} {no : Nat} {sm nx bf od st ow : Nat → Int32} {th : Int32} {smR odR stR cl us : Nat → Int32} {g : Nat → Int64} {H : Heap} {locs : List Loc} {ls : Array Slot} (I : LI s D o r cI cR cZ cJ q0 b k w h tw f L no sm nx bf od st ow th smR odR stR cl us g H locs ls) : W p l e room_1 s m #[Value.ref b] below meth c H locs (14 + k) (2558 + 6 * k) (lw_Z below #[Value.ref b] s) (F0 m 182 ls []) := by
  obtain ⟨hx, hb, hr, hml, hown, hts, hX, hbl, hlocks, hgv⟩ := C0
  have hts : ∀ w ∈ wsL_law, w.before #[Value.ref b] s = true := fun w h => hts w (wsL_law_in w h)
  have hown : s.vm.findClass RL = some m.cls := hown
  have hbA : ¬ (fun q : Nat => s.heap.size ≤ q) b := Nat.not_le.mpr hbl
  obtain ⟨hI, hC, hR, hP, hD, hS, hl⟩ := I
  obtain ⟨a1, ea1⟩ : ∃ a, xs (4 * k + 1) = a := ⟨_, rfl⟩
  obtain ⟨a2, ea2⟩ : ∃ a, xs (4 * k + 2) = a := ⟨_, rfl⟩
  obtain ⟨a3, ea3⟩ : ∃ a, xs (4 * k + 3) = a := ⟨_, rfl⟩
  obtain ⟨gw, gw2, gh, gh2, gb, gt, gL, gno, gnd, gal⟩ := id hI
  refine lv_aload_n hx hb dL_law_182 rfl (lv_at hl 1 rfl) ?_
  refine lv_aload_n hx hb dL_law_183 rfl (lv_at hl 0 rfl) ?_
  refine lv_iload hx hb dL_law_184 (lv_at hl 4 rfl) ?_
  refine lv_iconst (v := 1) hx hb dL_law_186 (by decide) ?_
  refine lv_iadd hx hb dL_law_187 ?_
  refine sl_ld (j := 4 * k + 1) (v := a1) hx hb hX hbl hbA hS (nI_add (4 * k) 1) (by omega) hL ea1 dL_law_188 ?_
  refine lv_aload_n hx hb dL_law_189 rfl (lv_at hl 0 rfl) ?_
  refine lv_iload hx hb dL_law_190 (lv_at hl 4 rfl) ?_
  refine lv_iconst (v := 2) hx hb dL_law_192 (by decide) ?_
  refine lv_iadd hx hb dL_law_193 ?_
  refine sl_ld (j := 4 * k + 2) (v := a2) hx hb hX hbl hbA hS (nI_add (4 * k) 2) (by omega) hL ea2 dL_law_194 ?_
  refine lv_aload_n hx hb dL_law_195 rfl (lv_at hl 0 rfl) ?_
  refine lv_iload hx hb dL_law_196 (lv_at hl 4 rfl) ?_
  refine lv_iconst (v := 3) hx hb dL_law_198 (by decide) ?_
  refine lv_iadd hx hb dL_law_199 ?_
  refine sl_ld (j := 4 * k + 3) (v := a3) hx hb hX hbl hbA hS (nI_add (4 * k) 3) (by omega) hL ea3 dL_law_200 ?_
  refine wi_V (wr := W1 r cR cZ th (nI w) (nI h) tw (nI L.length) smR odR stR cl us ++ [(q0, .inl (cJ, 1, .inr (.inl g)))]) (As := [.int a1, .int a2, .int a3]) (rest := []) ⟨hx, hb, hml, hown, hts⟩ (c_X0_row l D o cI tw (nI no) (nI L.length) sm nx bf od st ow w h a1 a2 a3 gw2 gh2) (cwV 3 hts gL_law_X0_row rfl rfl rfl (by decide +kernel) ⟨Nat.le_of_ble_eq_true rfl, Nat.le_of_ble_eq_true rfl⟩) (va_recv hK hP (ci := 0) (q0 := 0) rfl rfl) (hP.sub (ws' := W0 o cI (nI w) (nI h) tw (nI no) (nI L.length) sm nx bf od st ow) [0, 1, 2, 3, 4, 5, 6] rfl) (hD.sub (ws' := W0 o cI (nI w) (nI h) tw (nI no) (nI L.length) sm nx bf od st ow) [0, 1, 2, 3, 4, 5, 6] (by decide) rfl) (hK.sub (tys' := [(cI, .int)]) [0] rfl) hP hD hS [0, 1, 2, 3, 4, 5, 6] [7, 8, 9, 10, 11, 12, 13] rfl rfl rfl (by decide) rfl hl.1 rfl (lv_room (Nat.le_of_ble_eq_true rfl)) dL_law_201 ⟨by show 14 + k ≤ 1039; omega, by show 2558 + 6 * k ≤ 10756; omega⟩ (fun r0 H locs hr0 hP hD hS => ?_)
  have hP : va_P D vwCl (W0 o cI (nI w) (nI h) tw (nI no) (nI L.length) (cond (okY h a1) (rowF w a1.toNatClampNeg a2 a3 sm w) sm) nx bf od st ow ++ (W1 r cR cZ th (nI w) (nI h) tw (nI L.length) smR odR stR cl us ++ [(q0, .inl (cJ, 1, .inr (.inl g)))])) H := hP.sub [7, 8, 9, 10, 11, 12, 13, 0, 1, 2, 3, 4, 5, 6] rfl
  have hD : va_D (fun q : Nat => s.heap.size ≤ q) (W0 o cI (nI w) (nI h) tw (nI no) (nI L.length) (cond (okY h a1) (rowF w a1.toNatClampNeg a2 a3 sm w) sm) nx bf od st ow ++ (W1 r cR cZ th (nI w) (nI h) tw (nI L.length) smR odR stR cl us ++ [(q0, .inl (cJ, 1, .inr (.inl g)))])) := hD.sub [7, 8, 9, 10, 11, 12, 13, 0, 1, 2, 3, 4, 5, 6] (by decide) rfl
  refine lv_aload_n hx hb dL_law_204 rfl (lv_at hl 2 rfl) ?_
  refine lv_aload_n hx hb dL_law_205 rfl (lv_at hl 0 rfl) ?_
  refine lv_iload hx hb dL_law_206 (lv_at hl 4 rfl) ?_
  refine lv_iconst (v := 1) hx hb dL_law_208 (by decide) ?_
  refine lv_iadd hx hb dL_law_209 ?_
  refine sl_ld (j := 4 * k + 1) (v := a1) hx hb hX hbl hbA hS (nI_add (4 * k) 1) (by omega) hL ea1 dL_law_210 ?_
  refine lv_aload_n hx hb dL_law_211 rfl (lv_at hl 0 rfl) ?_
  refine lv_iload hx hb dL_law_212 (lv_at hl 4 rfl) ?_
  refine lv_iconst (v := 2) hx hb dL_law_214 (by decide) ?_
  refine lv_iadd hx hb dL_law_215 ?_
  refine sl_ld (j := 4 * k + 2) (v := a2) hx hb hX hbl hbA hS (nI_add (4 * k) 2) (by omega) hL ea2 dL_law_216 ?_
  refine lv_aload_n hx hb dL_law_217 rfl (lv_at hl 0 rfl) ?_
  refine lv_iload hx hb dL_law_218 (lv_at hl 4 rfl) ?_
  refine lv_iconst (v := 3) hx hb dL_law_220 (by decide) ?_
  refine lv_iadd hx hb dL_law_221 ?_
  refine sl_ld (j := 4 * k + 3) (v := a3) hx hb hX hbl hbA hS (nI_add (4 * k) 3) (by omega) hL ea3 dL_law_222 ?_
  refine wi_V (wr := W0 o cI (nI w) (nI h) tw (nI no) (nI L.length) (cond (okY h a1) (rowF w a1.toNatClampNeg a2 a3 sm w) sm) nx bf od st ow ++ [(q0, .inl (cJ, 1, .inr (.inl g)))]) (As := [.int a1, .int a2, .int a3]) (rest := [.int r0]) ⟨hx, hb, hml, hown, hts⟩ (c_X1_row l D r cR cZ th tw (nI L.length) smR odR stR cl us w h a1 a2 a3 gw2 gh2) (cwV 3 hts gL_law_X1_row rfl rfl rfl (by decide +kernel) ⟨Nat.le_of_ble_eq_true rfl, Nat.le_of_ble_eq_true rfl⟩) (va_recv hK hP (ci := 1) (q0 := 7) rfl rfl) (hP.sub (ws' := W1 r cR cZ th (nI w) (nI h) tw (nI L.length) smR odR stR cl us) [7, 8, 9, 10, 11, 12] rfl) (hD.sub (ws' := W1 r cR cZ th (nI w) (nI h) tw (nI L.length) smR odR stR cl us) [7, 8, 9, 10, 11, 12] (by decide) rfl) (hK.sub (tys' := [(cR, .int), (cZ, .boolean)]) [1, 2] rfl) hP hD hS [7, 8, 9, 10, 11, 12] [0, 1, 2, 3, 4, 5, 6, 13] rfl rfl rfl (by decide) rfl hl.1 rfl (lv_room (Nat.le_of_ble_eq_true rfl)) dL_law_223 ⟨by show 14 + k ≤ 1039; omega, by show 2558 + 6 * k ≤ 10756; omega⟩ (fun r1 H locs hr1 hP hD hS => ?_)
  have hP : va_P D vwCl (W0 o cI (nI w) (nI h) tw (nI no) (nI L.length) (cond (okY h a1) (rowF w a1.toNatClampNeg a2 a3 sm w) sm) nx bf od st ow ++ (W1 r cR cZ 0 (nI w) (nI h) tw (nI L.length) (cond (okY h a1) (rowR a1.toNatClampNeg a2 a3 smR w) smR) odR stR cl us ++ [(q0, .inl (cJ, 1, .inr (.inl g)))])) H := hP.sub [0, 1, 2, 3, 4, 5, 6, 8, 9, 10, 11, 12, 13, 7] rfl
  have hD : va_D (fun q : Nat => s.heap.size ≤ q) (W0 o cI (nI w) (nI h) tw (nI no) (nI L.length) (cond (okY h a1) (rowF w a1.toNatClampNeg a2 a3 sm w) sm) nx bf od st ow ++ (W1 r cR cZ 0 (nI w) (nI h) tw (nI L.length) (cond (okY h a1) (rowR a1.toNatClampNeg a2 a3 smR w) smR) odR stR cl us ++ [(q0, .inl (cJ, 1, .inr (.inl g)))])) := hD.sub [0, 1, 2, 3, 4, 5, 6, 8, 9, 10, 11, 12, 13, 7] (by decide) rfl
  subst hr0
  subst hr1
  refine lv_icmp_eq (tgt := 462) hx hb dL_law_226 (by decide) (fun _ => ?_) (fun c9 => absurd rfl c9)
  refine W.widen (k := 14 + (k + 1)) (n := 2558 + 6 * (k + 1)) (by omega) (by omega) ?_
  cases hq : okY h a1 with
  | false =>
    rw [hq] at hP hD
    exact J w h tw f L no sm nx bf od st ow 0 smR odR stR cl us g _ _ _ ⟨hI, hC, hR, hP, hD, hS, hl⟩
  | true =>
    rw [hq] at hP hD
    obtain ⟨y, g1, e1⟩ := okY_n hq (by omega)
    rw [e1, nI_clamp (n := y) (by omega)] at hP hD
    exact J w h tw (rowA f y a2 a3) L no (rowF w y a2 a3 sm w) nx bf od st ow 0 (rowR y a2 a3 smR w) odR stR cl us g _ _ _ ⟨IA_row hI, IC_row hC, IR_row hR gw2, hP, hD, hS, hl⟩

set_option maxHeartbeats 400000 in
set_option maxRecDepth 100000 in
theorem lw_height {p : Program} (l : Launch) {e : Env} {s : State} {m : MethodId} {below : List Frame} {meth : Method} {c : Code} (D : va_G) (o r : Nat → Nat) (cI cR cZ cJ : ClassId) (q0 : Nat) {b Ls k : Nat} {xs : Nat → Int32} (hL : Ls ≤ 2048) (C0 : lw_At p s m meth c b Ls xs) (hk : 4 * k + 4 ≤ Ls) (hK : va_K D vwCl [(cI, .int), (cR, .int), (cZ, .boolean), (cJ, .long)] s) (J : ∀ (w h : Nat) (tw : Int32) (f : Nat → Nat → Int32) (L : List (List Nat)) (no : Nat) (sm nx bf od st ow : Nat → Int32) (th : Int32) (smR odR stR cl us : Nat → Int32) (g : Nat → Int64) (H : Heap) (locs : List Loc) (ls : Array Slot), LI s D o r cI cR cZ cJ q0 b k w h tw f L no sm nx bf od st ow th smR odR stR cl us g H locs ls → W p l e room_1 s m #[Value.ref b] below meth c H locs (14 + (k + 1)) (2558 + 6 * (k + 1)) (lw_Z below #[Value.ref b] s) (F0 m 462 ls [])) {w h : Nat} {tw : Int32} {f : Nat → Nat → Int32} {L : List (List Nat)} {no : Nat} {sm nx bf od st ow : Nat → Int32} {th : Int32} {smR odR stR cl us : Nat → Int32} {g : Nat → Int64} {H : Heap} {locs : List Loc} {ls : Array Slot} (I : LI s D o r cI cR cZ cJ q0 b k w h tw f L no sm nx bf od st ow th smR odR stR cl us g H locs ls) : W p l e room_1 s m #[Value.ref b] below meth c H locs (14 + k) (2558 + 6 * k) (lw_Z below #[Value.ref b] s) (F0 m 231 ls []) := by
  obtain ⟨hx, hb, hr, hml, hown, hts, hX, hbl, hlocks, hgv⟩ := C0
  have hts : ∀ w ∈ wsL_law, w.before #[Value.ref b] s = true := fun w h => hts w (wsL_law_in w h)
  have hown : s.vm.findClass RL = some m.cls := hown
  have hbA : ¬ (fun q : Nat => s.heap.size ≤ q) b := Nat.not_le.mpr hbl
  obtain ⟨hI, hC, hR, hP, hD, hS, hl⟩ := I
  obtain ⟨a1, ea1⟩ : ∃ a, xs (4 * k + 1) = a := ⟨_, rfl⟩
  obtain ⟨a2, ea2⟩ : ∃ a, xs (4 * k + 2) = a := ⟨_, rfl⟩
  obtain ⟨a3, ea3⟩ : ∃ a, xs (4 * k + 3) = a := ⟨_, rfl⟩
  obtain ⟨gw, gw2, gh, gh2, gb, gt, gL, gno, gnd, gal⟩ := id hI
  refine lv_aload_n hx hb dL_law_231 rfl (lv_at hl 1 rfl) ?_
  refine lv_aload_n hx hb dL_law_232 rfl (lv_at hl 0 rfl) ?_
  refine lv_iload hx hb dL_law_233 (lv_at hl 4 rfl) ?_
  refine lv_iconst (v := 1) hx hb dL_law_235 (by decide) ?_
  refine lv_iadd hx hb dL_law_236 ?_
  refine sl_ld (j := 4 * k + 1) (v := a1) hx hb hX hbl hbA hS (nI_add (4 * k) 1) (by omega) hL ea1 dL_law_237 ?_
  refine wi_V (wr := W1 r cR cZ th (nI w) (nI h) tw (nI L.length) smR odR stR cl us ++ [(q0, .inl (cJ, 1, .inr (.inl g)))]) (As := [.int a1]) (rest := []) ⟨hx, hb, hml, hown, hts⟩ (c_X0_height l D o cI (nI w) (nI h) tw (nI no) (nI L.length) sm nx bf od st ow a1) (cwV 1 hts gL_law_X0_height rfl rfl rfl (by decide +kernel) ⟨Nat.le_of_ble_eq_true rfl, Nat.le_of_ble_eq_true rfl⟩) (va_recv hK hP (ci := 0) (q0 := 0) rfl rfl) (hP.sub (ws' := W0 o cI (nI w) (nI h) tw (nI no) (nI L.length) sm nx bf od st ow) [0, 1, 2, 3, 4, 5, 6] rfl) (hD.sub (ws' := W0 o cI (nI w) (nI h) tw (nI no) (nI L.length) sm nx bf od st ow) [0, 1, 2, 3, 4, 5, 6] (by decide) rfl) (hK.sub (tys' := [(cI, .int)]) [0] rfl) hP hD hS [0, 1, 2, 3, 4, 5, 6] [7, 8, 9, 10, 11, 12, 13] rfl rfl rfl (by decide) rfl hl.1 rfl (lv_room (Nat.le_of_ble_eq_true rfl)) dL_law_238 ⟨by show 14 + k ≤ 1039; omega, by show 2558 + 6 * k ≤ 10756; omega⟩ (fun r0 H locs hr0 hP hD hS => ?_)
  have hP : va_P D vwCl (W0 o cI (nI w) (nI h) (cond (okT a1) a1 tw) (nI no) (nI L.length) sm nx bf od st ow ++ (W1 r cR cZ th (nI w) (nI h) tw (nI L.length) smR odR stR cl us ++ [(q0, .inl (cJ, 1, .inr (.inl g)))])) H := hP.sub [7, 8, 9, 10, 11, 12, 13, 0, 1, 2, 3, 4, 5, 6] rfl
  have hD : va_D (fun q : Nat => s.heap.size ≤ q) (W0 o cI (nI w) (nI h) (cond (okT a1) a1 tw) (nI no) (nI L.length) sm nx bf od st ow ++ (W1 r cR cZ th (nI w) (nI h) tw (nI L.length) smR odR stR cl us ++ [(q0, .inl (cJ, 1, .inr (.inl g)))])) := hD.sub [7, 8, 9, 10, 11, 12, 13, 0, 1, 2, 3, 4, 5, 6] (by decide) rfl
  refine lv_aload_n hx hb dL_law_241 rfl (lv_at hl 2 rfl) ?_
  refine lv_aload_n hx hb dL_law_242 rfl (lv_at hl 0 rfl) ?_
  refine lv_iload hx hb dL_law_243 (lv_at hl 4 rfl) ?_
  refine lv_iconst (v := 1) hx hb dL_law_245 (by decide) ?_
  refine lv_iadd hx hb dL_law_246 ?_
  refine sl_ld (j := 4 * k + 1) (v := a1) hx hb hX hbl hbA hS (nI_add (4 * k) 1) (by omega) hL ea1 dL_law_247 ?_
  refine wi_V (wr := W0 o cI (nI w) (nI h) (cond (okT a1) a1 tw) (nI no) (nI L.length) sm nx bf od st ow ++ [(q0, .inl (cJ, 1, .inr (.inl g)))]) (As := [.int a1]) (rest := [.int r0]) ⟨hx, hb, hml, hown, hts⟩ (c_X1_height l D r cR cZ th (nI w) (nI h) tw (nI L.length) smR odR stR cl us a1) (cwV 1 hts gL_law_X1_height rfl rfl rfl (by decide +kernel) ⟨Nat.le_of_ble_eq_true rfl, Nat.le_of_ble_eq_true rfl⟩) (va_recv hK hP (ci := 1) (q0 := 7) rfl rfl) (hP.sub (ws' := W1 r cR cZ th (nI w) (nI h) tw (nI L.length) smR odR stR cl us) [7, 8, 9, 10, 11, 12] rfl) (hD.sub (ws' := W1 r cR cZ th (nI w) (nI h) tw (nI L.length) smR odR stR cl us) [7, 8, 9, 10, 11, 12] (by decide) rfl) (hK.sub (tys' := [(cR, .int), (cZ, .boolean)]) [1, 2] rfl) hP hD hS [7, 8, 9, 10, 11, 12] [0, 1, 2, 3, 4, 5, 6, 13] rfl rfl rfl (by decide) rfl hl.1 rfl (lv_room (Nat.le_of_ble_eq_true rfl)) dL_law_248 ⟨by show 14 + k ≤ 1039; omega, by show 2558 + 6 * k ≤ 10756; omega⟩ (fun r1 H locs hr1 hP hD hS => ?_)
  have hP : va_P D vwCl (W0 o cI (nI w) (nI h) (cond (okT a1) a1 tw) (nI no) (nI L.length) sm nx bf od st ow ++ (W1 r cR cZ 0 (nI w) (nI h) (cond (okT a1) a1 tw) (nI L.length) smR odR stR cl us ++ [(q0, .inl (cJ, 1, .inr (.inl g)))])) H := hP.sub [0, 1, 2, 3, 4, 5, 6, 8, 9, 10, 11, 12, 13, 7] rfl
  have hD : va_D (fun q : Nat => s.heap.size ≤ q) (W0 o cI (nI w) (nI h) (cond (okT a1) a1 tw) (nI no) (nI L.length) sm nx bf od st ow ++ (W1 r cR cZ 0 (nI w) (nI h) (cond (okT a1) a1 tw) (nI L.length) smR odR stR cl us ++ [(q0, .inl (cJ, 1, .inr (.inl g)))])) := hD.sub [0, 1, 2, 3, 4, 5, 6, 8, 9, 10, 11, 12, 13, 7] (by decide) rfl
  subst hr0
  subst hr1
  refine lv_icmp_eq (tgt := 462) hx hb dL_law_251 (by decide) (fun _ => ?_) (fun c9 => absurd rfl c9)
  refine W.widen (k := 14 + (k + 1)) (n := 2558 + 6 * (k + 1)) (by omega) (by omega) ?_
  cases hq : okT a1 with
  | false =>
    rw [hq] at hP hD
    exact J w h tw f L no sm nx bf od st ow 0 smR odR stR cl us g _ _ _ ⟨hI, hC, hR, hP, hD, hS, hl⟩
  | true =>
    rw [hq] at hP hD
    exact J w h a1 f L no sm nx bf od st ow 0 smR odR stR cl us g _ _ _ ⟨IA_height hI (okT_B hq), hC, hR, hP, hD, hS, hl⟩

theorem mk_X0 (l : Launch) (D : va_G) (o : Nat → Nat) (cI : ClassId) (op ch : Int32) {w h : Nat} {tw : Int32} {f : Nat → Nat → Int32} {L : List (List Nat)} {no : Nat} {sm od st ow : Nat → Int32} (nx bf : Nat → Int32) (a : IA w h tw f L no) (c : IC w h f L sm od st ow) :
    wiMet l yX0_make wsX0_make ({ frames := 5, cells := 0, slots := 0, locals := 131 } : Room) D (W0 o cI (nI w) (nI h) tw op ch sm nx bf od st ow) (W0 o cI (nI w) (nI h) tw (nI (mkO w h f tw).length) (nI (mkL w h f tw).length) sm (dlN w h f tw (filF 264 (-1) nx) (h - 1)) (dlB w h f tw (filF 264 (-1) bf) (h - 1)) (oA od (mkL w h f tw)) (sA st (mkL w h f tw)) (wO (filF 264 (-1) ow) (mkL w h f tw))) [(cI, .int)] [.ref (o 0)] (nI (mkL w h f tw).length) := by
  obtain ⟨gw, gw2, gh, gh2, gb, gt, -⟩ := a
  have h1 : ∀ e, e < 264 → filF 264 (-1) nx e = -1 := fun e he => filF_in he
  have h2 : ∀ e, e < 264 → filF 264 (-1) bf e = -1 := fun e he => filF_in he
  have gE := nE_le gw2 gh2
  have hO := mk_opE (f := f) (tw := tw) gw2 gh2 h1 h2 gw gh
  have hE := mk_csE (f := f) (tw := tw) gw gw2 gh gh2 h1
  have hO2 : opL (dlN w h f tw (filF 264 (-1) nx) (h - 1)) (dlB w h f tw (filF 264 (-1) bf) (h - 1)) (nE w h) = mkO w h f tw := hO _ (Nat.le_refl _)
  have hE2 : csL (dlN w h f tw (filF 264 (-1) nx) (h - 1)) (mkO w h f tw) (nE w h) = mkL w h f tw := hE _ (Nat.le_refl _)
  have gnx : ∀ a, a < 264 → (dlN w h f tw (filF 264 (-1) nx) (h - 1)) a = -1 ∨ ∃ b, b < 264 ∧ (dlN w h f tw (filF 264 (-1) nx) (h - 1)) a = nI b := by
    intro a ha
    rcases dl_all (f := f) (tw := tw) gw2 gh2 h1 a ha with q | q
    · rw [q]
      rcases nx_rng (w := w) (h := h) (f := f) (tw := tw) (a := a) with z | ⟨b, hb, z⟩
      · exact Or.inl z
      · exact Or.inr ⟨b, by omega, z⟩
    · exact Or.inl q
  have := c_X0_make l D o cI tw op ch sm nx bf od st ow w h f gw gw2 gh gh2 c.1 c.2.1 gnx (fun e he => by rw [hO e he]; exact (mk_op gw gw2 gh gh2 e he).gd gE) (fun e he => by rw [hO2]; show gdL (csL _ (opG _ _ _) e); rw [hE e he]; exact (mk_cs gw gw2 gh gh2 e he).1.gd gE)
  rw [hO2, hE2] at this
  exact this
theorem mk_X1 (l : Launch) (D : va_G) (o : Nat → Nat) (cI cZ : ClassId) (th ch : Int32) {w h : Nat} {tw : Int32} {f : Nat → Nat → Int32} {L : List (List Nat)} {no : Nat} {sm od st cl : Nat → Int32} (us : Nat → Int32) (a : IA w h tw f L no) (c : IR w h f L no sm od st cl) :
    wiMet l yX1_make wsX1_make ({ frames := 6, cells := 0, slots := 0, locals := 156 } : Room) D (W1 o cI cZ th (nI w) (nI h) tw ch sm od st cl us) (W1 o cI cZ 0 (nI w) (nI h) tw (nI (mkL w h f tw).length) sm (oA od (mkL w h f tw)) (sA (upd st 0 0) (mkL w h f tw)) (zA (zA cl 0 (mkO w h f tw).length (bI false)) (mkO w h f tw).length (mkL w h f tw).length (bI true)) (gU (filF 264 (bI false) us) (mkL w h f tw).flatten)) [(cI, .int), (cZ, .boolean)] [.ref (o 0)] (nI (mkL w h f tw).length) := by
  obtain ⟨gw, gw2, gh, gh2, gb, gt, -⟩ := a
  have gE := nE_le gw2 gh2
  exact c_X1_make l D o cI cZ th tw ch sm od st cl us w h f gw gw2 gh gh2 c.1 (fun a _ => nx_rng) (fun e he => (mk_op gw gw2 gh gh2 e he).gd gE) (fun e he => (mk_op gw gw2 gh gh2 e he).2.1) (fun e he => (mk_cs gw gw2 gh gh2 e he).1.gd gE) (fun e he => (mk_cs gw gw2 gh gh2 e he).1.2.1) (fun e he => (mk_cs gw gw2 gh gh2 e he).2)

set_option maxHeartbeats 400000 in
set_option maxRecDepth 100000 in
theorem lw_make {p : Program} (l : Launch) {e : Env} {s : State} {m : MethodId} {below : List Frame} {meth : Method} {c : Code} (D : va_G) (o r : Nat → Nat) (cI cR cZ cJ : ClassId) (q0 : Nat) {b Ls k : Nat} {xs : Nat → Int32} (hL : Ls ≤ 2048) (C0 : lw_At p s m meth c b Ls xs) (hk : 4 * k + 4 ≤ Ls) (hK : va_K D vwCl [(cI, .int), (cR, .int), (cZ, .boolean), (cJ, .long)] s) (J : ∀ (w h : Nat) (tw : Int32) (f : Nat → Nat → Int32) (L : List (List Nat)) (no : Nat) (sm nx bf od st ow : Nat → Int32) (th : Int32) (smR odR stR cl us : Nat → Int32) (g : Nat → Int64) (H : Heap) (locs : List Loc) (ls : Array Slot), LI s D o r cI cR cZ cJ q0 b k w h tw f L no sm nx bf od st ow th smR odR stR cl us g H locs ls → W p l e room_1 s m #[Value.ref b] below meth c H locs (14 + (k + 1)) (2558 + 6 * (k + 1)) (lw_Z below #[Value.ref b] s) (F0 m 462 ls [])) {w h : Nat} {tw : Int32} {f : Nat → Nat → Int32} {L : List (List Nat)} {no : Nat} {sm nx bf od st ow : Nat → Int32} {th : Int32} {smR odR stR cl us : Nat → Int32} {g : Nat → Int64} {H : Heap} {locs : List Loc} {ls : Array Slot} (I : LI s D o r cI cR cZ cJ q0 b k w h tw f L no sm nx bf od st ow th smR odR stR cl us g H locs ls) : W p l e room_1 s m #[Value.ref b] below meth c H locs (14 + k) (2558 + 6 * k) (lw_Z below #[Value.ref b] s) (F0 m 256 ls []) := by
  obtain ⟨hx, hb, hr, hml, hown, hts, hX, hbl, hlocks, hgv⟩ := C0
  have hts : ∀ w ∈ wsL_law, w.before #[Value.ref b] s = true := fun w h => hts w (wsL_law_in w h)
  have hown : s.vm.findClass RL = some m.cls := hown
  have hbA : ¬ (fun q : Nat => s.heap.size ≤ q) b := Nat.not_le.mpr hbl
  obtain ⟨hI, hC, hR, hP, hD, hS, hl⟩ := I
  obtain ⟨a1, ea1⟩ : ∃ a, xs (4 * k + 1) = a := ⟨_, rfl⟩
  obtain ⟨a2, ea2⟩ : ∃ a, xs (4 * k + 2) = a := ⟨_, rfl⟩
  obtain ⟨a3, ea3⟩ : ∃ a, xs (4 * k + 3) = a := ⟨_, rfl⟩
  obtain ⟨gw, gw2, gh, gh2, gb, gt, gL, gno, gnd, gal⟩ := id hI
  refine lv_aload_n hx hb dL_law_256 rfl (lv_at hl 1 rfl) ?_
  refine wi_V (wr := W1 r cR cZ th (nI w) (nI h) tw (nI L.length) smR odR stR cl us ++ [(q0, .inl (cJ, 1, .inr (.inl g)))]) (As := []) (rest := []) ⟨hx, hb, hml, hown, hts⟩ (mk_X0 l D o cI (nI no) (nI L.length) nx bf hI hC) (cwV 0 hts gL_law_X0_make rfl rfl rfl (by decide +kernel) ⟨Nat.le_of_ble_eq_true rfl, Nat.le_of_ble_eq_true rfl⟩) (va_recv hK hP (ci := 0) (q0 := 0) rfl rfl) (hP.sub (ws' := W0 o cI (nI w) (nI h) tw (nI no) (nI L.length) sm nx bf od st ow) [0, 1, 2, 3, 4, 5, 6] rfl) (hD.sub (ws' := W0 o cI (nI w) (nI h) tw (nI no) (nI L.length) sm nx bf od st ow) [0, 1, 2, 3, 4, 5, 6] (by decide) rfl) (hK.sub (tys' := [(cI, .int)]) [0] rfl) hP hD hS [0, 1, 2, 3, 4, 5, 6] [7, 8, 9, 10, 11, 12, 13] rfl rfl rfl (by decide) rfl hl.1 rfl (lv_room (Nat.le_of_ble_eq_true rfl)) dL_law_257 ⟨by show 14 + k ≤ 1039; omega, by show 2558 + 6 * k ≤ 10756; omega⟩ (fun r0 H locs hr0 hP hD hS => ?_)
  have hP : va_P D vwCl (W0 o cI (nI w) (nI h) tw (nI (mkO w h f tw).length) (nI (mkL w h f tw).length) sm (dlN w h f tw (filF 264 (-1) nx) (h - 1)) (dlB w h f tw (filF 264 (-1) bf) (h - 1)) (oA od (mkL w h f tw)) (sA st (mkL w h f tw)) (wO (filF 264 (-1) ow) (mkL w h f tw)) ++ (W1 r cR cZ th (nI w) (nI h) tw (nI L.length) smR odR stR cl us ++ [(q0, .inl (cJ, 1, .inr (.inl g)))])) H := hP.sub [7, 8, 9, 10, 11, 12, 13, 0, 1, 2, 3, 4, 5, 6] rfl
  have hD : va_D (fun q : Nat => s.heap.size ≤ q) (W0 o cI (nI w) (nI h) tw (nI (mkO w h f tw).length) (nI (mkL w h f tw).length) sm (dlN w h f tw (filF 264 (-1) nx) (h - 1)) (dlB w h f tw (filF 264 (-1) bf) (h - 1)) (oA od (mkL w h f tw)) (sA st (mkL w h f tw)) (wO (filF 264 (-1) ow) (mkL w h f tw)) ++ (W1 r cR cZ th (nI w) (nI h) tw (nI L.length) smR odR stR cl us ++ [(q0, .inl (cJ, 1, .inr (.inl g)))])) := hD.sub [7, 8, 9, 10, 11, 12, 13, 0, 1, 2, 3, 4, 5, 6] (by decide) rfl
  refine lv_aload_n hx hb dL_law_260 rfl (lv_at hl 2 rfl) ?_
  refine wi_V (wr := W0 o cI (nI w) (nI h) tw (nI (mkO w h f tw).length) (nI (mkL w h f tw).length) sm (dlN w h f tw (filF 264 (-1) nx) (h - 1)) (dlB w h f tw (filF 264 (-1) bf) (h - 1)) (oA od (mkL w h f tw)) (sA st (mkL w h f tw)) (wO (filF 264 (-1) ow) (mkL w h f tw)) ++ [(q0, .inl (cJ, 1, .inr (.inl g)))]) (As := []) (rest := [.int r0]) ⟨hx, hb, hml, hown, hts⟩ (mk_X1 l D r cR cZ th (nI L.length) us hI hR) (cwV 0 hts gL_law_X1_make rfl rfl rfl (by decide +kernel) ⟨Nat.le_of_ble_eq_true rfl, Nat.le_of_ble_eq_true rfl⟩) (va_recv hK hP (ci := 1) (q0 := 7) rfl rfl) (hP.sub (ws' := W1 r cR cZ th (nI w) (nI h) tw (nI L.length) smR odR stR cl us) [7, 8, 9, 10, 11, 12] rfl) (hD.sub (ws' := W1 r cR cZ th (nI w) (nI h) tw (nI L.length) smR odR stR cl us) [7, 8, 9, 10, 11, 12] (by decide) rfl) (hK.sub (tys' := [(cR, .int), (cZ, .boolean)]) [1, 2] rfl) hP hD hS [7, 8, 9, 10, 11, 12] [0, 1, 2, 3, 4, 5, 6, 13] rfl rfl rfl (by decide) rfl hl.1 rfl (lv_room (Nat.le_of_ble_eq_true rfl)) dL_law_261 ⟨by show 14 + k ≤ 1039; omega, by show 2558 + 6 * k ≤ 10756; omega⟩ (fun r1 H locs hr1 hP hD hS => ?_)
  have hP : va_P D vwCl (W0 o cI (nI w) (nI h) tw (nI (mkO w h f tw).length) (nI (mkL w h f tw).length) sm (dlN w h f tw (filF 264 (-1) nx) (h - 1)) (dlB w h f tw (filF 264 (-1) bf) (h - 1)) (oA od (mkL w h f tw)) (sA st (mkL w h f tw)) (wO (filF 264 (-1) ow) (mkL w h f tw)) ++ (W1 r cR cZ 0 (nI w) (nI h) tw (nI (mkL w h f tw).length) smR (oA odR (mkL w h f tw)) (sA (upd stR 0 0) (mkL w h f tw)) (zA (zA cl 0 (mkO w h f tw).length (bI false)) (mkO w h f tw).length (mkL w h f tw).length (bI true)) (gU (filF 264 (bI false) us) (mkL w h f tw).flatten) ++ [(q0, .inl (cJ, 1, .inr (.inl g)))])) H := hP.sub [0, 1, 2, 3, 4, 5, 6, 8, 9, 10, 11, 12, 13, 7] rfl
  have hD : va_D (fun q : Nat => s.heap.size ≤ q) (W0 o cI (nI w) (nI h) tw (nI (mkO w h f tw).length) (nI (mkL w h f tw).length) sm (dlN w h f tw (filF 264 (-1) nx) (h - 1)) (dlB w h f tw (filF 264 (-1) bf) (h - 1)) (oA od (mkL w h f tw)) (sA st (mkL w h f tw)) (wO (filF 264 (-1) ow) (mkL w h f tw)) ++ (W1 r cR cZ 0 (nI w) (nI h) tw (nI (mkL w h f tw).length) smR (oA odR (mkL w h f tw)) (sA (upd stR 0 0) (mkL w h f tw)) (zA (zA cl 0 (mkO w h f tw).length (bI false)) (mkO w h f tw).length (mkL w h f tw).length (bI true)) (gU (filF 264 (bI false) us) (mkL w h f tw).flatten) ++ [(q0, .inl (cJ, 1, .inr (.inl g)))])) := hD.sub [0, 1, 2, 3, 4, 5, 6, 8, 9, 10, 11, 12, 13, 7] (by decide) rfl
  subst hr0
  subst hr1
  refine lv_icmp_eq (tgt := 462) hx hb dL_law_264 (by decide) (fun _ => ?_) (fun c9 => absurd rfl c9)
  refine W.widen (k := 14 + (k + 1)) (n := 2558 + 6 * (k + 1)) (by omega) (by omega) ?_
  exact J w h tw f (mkL w h f tw) (mkO w h f tw).length sm (dlN w h f tw (filF 264 (-1) nx) (h - 1)) (dlB w h f tw (filF 264 (-1) bf) (h - 1)) (oA od (mkL w h f tw)) (sA st (mkL w h f tw)) (wO (filF 264 (-1) ow) (mkL w h f tw)) 0 smR (oA odR (mkL w h f tw)) (sA (upd stR 0 0) (mkL w h f tw)) (zA (zA cl 0 (mkO w h f tw).length (bI false)) (mkO w h f tw).length (mkL w h f tw).length (bI true)) (gU (filF 264 (bI false) us) (mkL w h f tw).flatten) g _ _ _ ⟨IA_make hI, IC_make hI hC (fun e he => filF_in he), IR_make hI hR, hP, hD, hS, hl⟩

set_option maxHeartbeats 400000 in
set_option maxRecDepth 100000 in
theorem lw_size {p : Program} (l : Launch) {e : Env} {s : State} {m : MethodId} {below : List Frame} {meth : Method} {c : Code} (D : va_G) (o r : Nat → Nat) (cI cR cZ cJ : ClassId) (q0 : Nat) {b Ls k : Nat} {xs : Nat → Int32} (hL : Ls ≤ 2048) (C0 : lw_At p s m meth c b Ls xs) (hk : 4 * k + 4 ≤ Ls) (hK : va_K D vwCl [(cI, .int), (cR, .int), (cZ, .boolean), (cJ, .long)] s) (J : ∀ (w h : Nat) (tw : Int32) (f : Nat → Nat → Int32) (L : List (List Nat)) (no : Nat) (sm nx bf od st ow : Nat → Int32) (th : Int32) (smR odR stR cl us : Nat → Int32) (g : Nat → Int64) (H : Heap) (locs : List Loc) (ls : Array Slot), LI s D o r cI cR cZ cJ q0 b k w h tw f L no sm nx bf od st ow th smR odR stR cl us g H locs ls → W p l e room_1 s m #[Value.ref b] below meth c H locs (14 + (k + 1)) (2558 + 6 * (k + 1)) (lw_Z below #[Value.ref b] s) (F0 m 462 ls [])) {w h : Nat} {tw : Int32} {f : Nat → Nat → Int32} {L : List (List Nat)} {no : Nat} {sm nx bf od st ow : Nat → Int32} {th : Int32} {smR odR stR cl us : Nat → Int32} {g : Nat → Int64} {H : Heap} {locs : List Loc} {ls : Array Slot} (I : LI s D o r cI cR cZ cJ q0 b k w h tw f L no sm nx bf od st ow th smR odR stR cl us g H locs ls) : W p l e room_1 s m #[Value.ref b] below meth c H locs (14 + k) (2558 + 6 * k) (lw_Z below #[Value.ref b] s) (F0 m 269 ls []) := by
  obtain ⟨hx, hb, hr, hml, hown, hts, hX, hbl, hlocks, hgv⟩ := C0
  have hts : ∀ w ∈ wsL_law, w.before #[Value.ref b] s = true := fun w h => hts w (wsL_law_in w h)
  have hown : s.vm.findClass RL = some m.cls := hown
  have hbA : ¬ (fun q : Nat => s.heap.size ≤ q) b := Nat.not_le.mpr hbl
  obtain ⟨hI, hC, hR, hP, hD, hS, hl⟩ := I
  obtain ⟨a1, ea1⟩ : ∃ a, xs (4 * k + 1) = a := ⟨_, rfl⟩
  obtain ⟨a2, ea2⟩ : ∃ a, xs (4 * k + 2) = a := ⟨_, rfl⟩
  obtain ⟨a3, ea3⟩ : ∃ a, xs (4 * k + 3) = a := ⟨_, rfl⟩
  obtain ⟨gw, gw2, gh, gh2, gb, gt, gL, gno, gnd, gal⟩ := id hI
  refine lv_aload_n hx hb dL_law_269 rfl (lv_at hl 1 rfl) ?_
  refine lv_aload_n hx hb dL_law_270 rfl (lv_at hl 0 rfl) ?_
  refine lv_iload hx hb dL_law_271 (lv_at hl 4 rfl) ?_
  refine lv_iconst (v := 1) hx hb dL_law_273 (by decide) ?_
  refine lv_iadd hx hb dL_law_274 ?_
  refine sl_ld (j := 4 * k + 1) (v := a1) hx hb hX hbl hbA hS (nI_add (4 * k) 1) (by omega) hL ea1 dL_law_275 ?_
  refine ro_V1 ⟨hx, hb, hml, hown, hts⟩ (c_X0_size l D o cI (nI w) (nI h) tw (nI no) sm nx bf od st ow L a1 gL hC.2.2.1) (cwV 1 hts gL_law_X0_size rfl rfl rfl (by decide +kernel) ⟨Nat.le_of_ble_eq_true rfl, Nat.le_of_ble_eq_true rfl⟩) (va_recv hK hP (ci := 0) (q0 := 0) rfl rfl) (hP.sub (ws' := W0 o cI (nI w) (nI h) tw (nI no) (nI L.length) sm nx bf od st ow) [0, 1, 2, 3, 4, 5, 6] rfl) (hK.sub (tys' := [(cI, .int)]) [0] rfl) hP hS rfl hl.1 (lv_room (Nat.le_of_ble_eq_true rfl)) dL_law_276 ⟨by show 14 + k ≤ 1039; omega, by show 2558 + 6 * k ≤ 10756; omega⟩ (fun r0 H locs hr0 hP hS => ?_)
  refine lv_aload_n hx hb dL_law_279 rfl (lv_at hl 2 rfl) ?_
  refine lv_aload_n hx hb dL_law_280 rfl (lv_at hl 0 rfl) ?_
  refine lv_iload hx hb dL_law_281 (lv_at hl 4 rfl) ?_
  refine lv_iconst (v := 1) hx hb dL_law_283 (by decide) ?_
  refine lv_iadd hx hb dL_law_284 ?_
  refine sl_ld (j := 4 * k + 1) (v := a1) hx hb hX hbl hbA hS (nI_add (4 * k) 1) (by omega) hL ea1 dL_law_285 ?_
  refine wi_V (wr := W0 o cI (nI w) (nI h) tw (nI no) (nI L.length) sm nx bf od st ow ++ [(q0, .inl (cJ, 1, .inr (.inl g)))]) (As := [.int a1]) (rest := [.int r0]) ⟨hx, hb, hml, hown, hts⟩ (c_X1_size l D r cR cZ th (nI w) (nI h) tw smR odR stR cl us L a1 gL hR.2.1) (cwV 1 hts gL_law_X1_size rfl rfl rfl (by decide +kernel) ⟨Nat.le_of_ble_eq_true rfl, Nat.le_of_ble_eq_true rfl⟩) (va_recv hK hP (ci := 1) (q0 := 7) rfl rfl) (hP.sub (ws' := W1 r cR cZ th (nI w) (nI h) tw (nI L.length) smR odR stR cl us) [7, 8, 9, 10, 11, 12] rfl) (hD.sub (ws' := W1 r cR cZ th (nI w) (nI h) tw (nI L.length) smR odR stR cl us) [7, 8, 9, 10, 11, 12] (by decide) rfl) (hK.sub (tys' := [(cR, .int), (cZ, .boolean)]) [1, 2] rfl) hP hD hS [7, 8, 9, 10, 11, 12] [0, 1, 2, 3, 4, 5, 6, 13] rfl rfl rfl (by decide) rfl hl.1 rfl (lv_room (Nat.le_of_ble_eq_true rfl)) dL_law_286 ⟨by show 14 + k ≤ 1039; omega, by show 2558 + 6 * k ≤ 10756; omega⟩ (fun r1 H locs hr1 hP hD hS => ?_)
  have hP : va_P D vwCl (W0 o cI (nI w) (nI h) tw (nI no) (nI L.length) sm nx bf od st ow ++ (W1 r cR cZ 0 (nI w) (nI h) tw (nI L.length) smR odR stR cl us ++ [(q0, .inl (cJ, 1, .inr (.inl g)))])) H := hP.sub [0, 1, 2, 3, 4, 5, 6, 8, 9, 10, 11, 12, 13, 7] rfl
  have hD : va_D (fun q : Nat => s.heap.size ≤ q) (W0 o cI (nI w) (nI h) tw (nI no) (nI L.length) sm nx bf od st ow ++ (W1 r cR cZ 0 (nI w) (nI h) tw (nI L.length) smR odR stR cl us ++ [(q0, .inl (cJ, 1, .inr (.inl g)))])) := hD.sub [0, 1, 2, 3, 4, 5, 6, 8, 9, 10, 11, 12, 13, 7] (by decide) rfl
  subst hr0
  subst hr1
  refine lv_icmp_eq (tgt := 462) hx hb dL_law_289 (by decide) (fun _ => ?_) (fun c9 => absurd rfl c9)
  refine W.widen (k := 14 + (k + 1)) (n := 2558 + 6 * (k + 1)) (by omega) (by omega) ?_
  exact J w h tw f L no sm nx bf od st ow 0 smR odR stR cl us g _ _ _ ⟨hI, hC, hR, hP, hD, hS, hl⟩

set_option maxHeartbeats 400000 in
set_option maxRecDepth 100000 in
theorem lw_isClosed {p : Program} (l : Launch) {e : Env} {s : State} {m : MethodId} {below : List Frame} {meth : Method} {c : Code} (D : va_G) (o r : Nat → Nat) (cI cR cZ cJ : ClassId) (q0 : Nat) {b Ls k : Nat} {xs : Nat → Int32} (hL : Ls ≤ 2048) (C0 : lw_At p s m meth c b Ls xs) (hk : 4 * k + 4 ≤ Ls) (hK : va_K D vwCl [(cI, .int), (cR, .int), (cZ, .boolean), (cJ, .long)] s) (J : ∀ (w h : Nat) (tw : Int32) (f : Nat → Nat → Int32) (L : List (List Nat)) (no : Nat) (sm nx bf od st ow : Nat → Int32) (th : Int32) (smR odR stR cl us : Nat → Int32) (g : Nat → Int64) (H : Heap) (locs : List Loc) (ls : Array Slot), LI s D o r cI cR cZ cJ q0 b k w h tw f L no sm nx bf od st ow th smR odR stR cl us g H locs ls → W p l e room_1 s m #[Value.ref b] below meth c H locs (14 + (k + 1)) (2558 + 6 * (k + 1)) (lw_Z below #[Value.ref b] s) (F0 m 462 ls [])) {w h : Nat} {tw : Int32} {f : Nat → Nat → Int32} {L : List (List Nat)} {no : Nat} {sm nx bf od st ow : Nat → Int32} {th : Int32} {smR odR stR cl us : Nat → Int32} {g : Nat → Int64} {H : Heap} {locs : List Loc} {ls : Array Slot} (I : LI s D o r cI cR cZ cJ q0 b k w h tw f L no sm nx bf od st ow th smR odR stR cl us g H locs ls) : W p l e room_1 s m #[Value.ref b] below meth c H locs (14 + k) (2558 + 6 * k) (lw_Z below #[Value.ref b] s) (F0 m 294 ls []) := by
  obtain ⟨hx, hb, hr, hml, hown, hts, hX, hbl, hlocks, hgv⟩ := C0
  have hts : ∀ w ∈ wsL_law, w.before #[Value.ref b] s = true := fun w h => hts w (wsL_law_in w h)
  have hown : s.vm.findClass RL = some m.cls := hown
  have hbA : ¬ (fun q : Nat => s.heap.size ≤ q) b := Nat.not_le.mpr hbl
  obtain ⟨hI, hC, hR, hP, hD, hS, hl⟩ := I
  obtain ⟨a1, ea1⟩ : ∃ a, xs (4 * k + 1) = a := ⟨_, rfl⟩
  obtain ⟨a2, ea2⟩ : ∃ a, xs (4 * k + 2) = a := ⟨_, rfl⟩
  obtain ⟨a3, ea3⟩ : ∃ a, xs (4 * k + 3) = a := ⟨_, rfl⟩
  obtain ⟨gw, gw2, gh, gh2, gb, gt, gL, gno, gnd, gal⟩ := id hI
  refine lv_aload_n hx hb dL_law_294 rfl (lv_at hl 1 rfl) ?_
  refine lv_aload_n hx hb dL_law_295 rfl (lv_at hl 0 rfl) ?_
  refine lv_iload hx hb dL_law_296 (lv_at hl 4 rfl) ?_
  refine lv_iconst (v := 1) hx hb dL_law_298 (by decide) ?_
  refine lv_iadd hx hb dL_law_299 ?_
  refine sl_ld (j := 4 * k + 1) (v := a1) hx hb hX hbl hbA hS (nI_add (4 * k) 1) (by omega) hL ea1 dL_law_300 ?_
  refine ro_V1 ⟨hx, hb, hml, hown, hts⟩ (c_X0_isClosed l D o cI (nI w) (nI h) tw sm nx bf od st ow L no a1) (cwV 1 hts gL_law_X0_isClosed rfl rfl rfl (by decide +kernel) ⟨Nat.le_of_ble_eq_true rfl, Nat.le_of_ble_eq_true rfl⟩) (va_recv hK hP (ci := 0) (q0 := 0) rfl rfl) (hP.sub (ws' := W0 o cI (nI w) (nI h) tw (nI no) (nI L.length) sm nx bf od st ow) [0, 1, 2, 3, 4, 5, 6] rfl) (hK.sub (tys' := [(cI, .int)]) [0] rfl) hP hS rfl hl.1 (lv_room (Nat.le_of_ble_eq_true rfl)) dL_law_301 ⟨by show 14 + k ≤ 1039; omega, by show 2558 + 6 * k ≤ 10756; omega⟩ (fun r0 H locs hr0 hP hS => ?_)
  refine lv_aload_n hx hb dL_law_304 rfl (lv_at hl 2 rfl) ?_
  refine lv_aload_n hx hb dL_law_305 rfl (lv_at hl 0 rfl) ?_
  refine lv_iload hx hb dL_law_306 (lv_at hl 4 rfl) ?_
  refine lv_iconst (v := 1) hx hb dL_law_308 (by decide) ?_
  refine lv_iadd hx hb dL_law_309 ?_
  refine sl_ld (j := 4 * k + 1) (v := a1) hx hb hX hbl hbA hS (nI_add (4 * k) 1) (by omega) hL ea1 dL_law_310 ?_
  refine wi_V (wr := W0 o cI (nI w) (nI h) tw (nI no) (nI L.length) sm nx bf od st ow ++ [(q0, .inl (cJ, 1, .inr (.inl g)))]) (As := [.int a1]) (rest := [.int r0]) ⟨hx, hb, hml, hown, hts⟩ (c_X1_isClosed l D r cR cZ th (nI w) (nI h) tw smR odR stR cl us L no a1 gL gno hR.2.2.2) (cwV 1 hts gL_law_X1_isClosed rfl rfl rfl (by decide +kernel) ⟨Nat.le_of_ble_eq_true rfl, Nat.le_of_ble_eq_true rfl⟩) (va_recv hK hP (ci := 1) (q0 := 7) rfl rfl) (hP.sub (ws' := W1 r cR cZ th (nI w) (nI h) tw (nI L.length) smR odR stR cl us) [7, 8, 9, 10, 11, 12] rfl) (hD.sub (ws' := W1 r cR cZ th (nI w) (nI h) tw (nI L.length) smR odR stR cl us) [7, 8, 9, 10, 11, 12] (by decide) rfl) (hK.sub (tys' := [(cR, .int), (cZ, .boolean)]) [1, 2] rfl) hP hD hS [7, 8, 9, 10, 11, 12] [0, 1, 2, 3, 4, 5, 6, 13] rfl rfl rfl (by decide) rfl hl.1 rfl (lv_room (Nat.le_of_ble_eq_true rfl)) dL_law_311 ⟨by show 14 + k ≤ 1039; omega, by show 2558 + 6 * k ≤ 10756; omega⟩ (fun r1 H locs hr1 hP hD hS => ?_)
  have hP : va_P D vwCl (W0 o cI (nI w) (nI h) tw (nI no) (nI L.length) sm nx bf od st ow ++ (W1 r cR cZ 0 (nI w) (nI h) tw (nI L.length) smR odR stR cl us ++ [(q0, .inl (cJ, 1, .inr (.inl g)))])) H := hP.sub [0, 1, 2, 3, 4, 5, 6, 8, 9, 10, 11, 12, 13, 7] rfl
  have hD : va_D (fun q : Nat => s.heap.size ≤ q) (W0 o cI (nI w) (nI h) tw (nI no) (nI L.length) sm nx bf od st ow ++ (W1 r cR cZ 0 (nI w) (nI h) tw (nI L.length) smR odR stR cl us ++ [(q0, .inl (cJ, 1, .inr (.inl g)))])) := hD.sub [0, 1, 2, 3, 4, 5, 6, 8, 9, 10, 11, 12, 13, 7] (by decide) rfl
  subst hr0
  subst hr1
  refine lv_icmp_eq (tgt := 462) hx hb dL_law_314 (by decide) (fun _ => ?_) (fun c9 => absurd rfl c9)
  refine W.widen (k := 14 + (k + 1)) (n := 2558 + 6 * (k + 1)) (by omega) (by omega) ?_
  exact J w h tw f L no sm nx bf od st ow 0 smR odR stR cl us g _ _ _ ⟨hI, hC, hR, hP, hD, hS, hl⟩

set_option maxHeartbeats 400000 in
set_option maxRecDepth 100000 in
theorem lw_edge {p : Program} (l : Launch) {e : Env} {s : State} {m : MethodId} {below : List Frame} {meth : Method} {c : Code} (D : va_G) (o r : Nat → Nat) (cI cR cZ cJ : ClassId) (q0 : Nat) {b Ls k : Nat} {xs : Nat → Int32} (hL : Ls ≤ 2048) (C0 : lw_At p s m meth c b Ls xs) (hk : 4 * k + 4 ≤ Ls) (hK : va_K D vwCl [(cI, .int), (cR, .int), (cZ, .boolean), (cJ, .long)] s) (J : ∀ (w h : Nat) (tw : Int32) (f : Nat → Nat → Int32) (L : List (List Nat)) (no : Nat) (sm nx bf od st ow : Nat → Int32) (th : Int32) (smR odR stR cl us : Nat → Int32) (g : Nat → Int64) (H : Heap) (locs : List Loc) (ls : Array Slot), LI s D o r cI cR cZ cJ q0 b k w h tw f L no sm nx bf od st ow th smR odR stR cl us g H locs ls → W p l e room_1 s m #[Value.ref b] below meth c H locs (14 + (k + 1)) (2558 + 6 * (k + 1)) (lw_Z below #[Value.ref b] s) (F0 m 462 ls [])) {w h : Nat} {tw : Int32} {f : Nat → Nat → Int32} {L : List (List Nat)} {no : Nat} {sm nx bf od st ow : Nat → Int32} {th : Int32} {smR odR stR cl us : Nat → Int32} {g : Nat → Int64} {H : Heap} {locs : List Loc} {ls : Array Slot} (I : LI s D o r cI cR cZ cJ q0 b k w h tw f L no sm nx bf od st ow th smR odR stR cl us g H locs ls) : W p l e room_1 s m #[Value.ref b] below meth c H locs (14 + k) (2558 + 6 * k) (lw_Z below #[Value.ref b] s) (F0 m 319 ls []) := by
  obtain ⟨hx, hb, hr, hml, hown, hts, hX, hbl, hlocks, hgv⟩ := C0
  have hts : ∀ w ∈ wsL_law, w.before #[Value.ref b] s = true := fun w h => hts w (wsL_law_in w h)
  have hown : s.vm.findClass RL = some m.cls := hown
  have hbA : ¬ (fun q : Nat => s.heap.size ≤ q) b := Nat.not_le.mpr hbl
  obtain ⟨hI, hC, hR, hP, hD, hS, hl⟩ := I
  obtain ⟨a1, ea1⟩ : ∃ a, xs (4 * k + 1) = a := ⟨_, rfl⟩
  obtain ⟨a2, ea2⟩ : ∃ a, xs (4 * k + 2) = a := ⟨_, rfl⟩
  obtain ⟨a3, ea3⟩ : ∃ a, xs (4 * k + 3) = a := ⟨_, rfl⟩
  obtain ⟨gw, gw2, gh, gh2, gb, gt, gL, gno, gnd, gal⟩ := id hI
  refine lv_aload_n hx hb dL_law_319 rfl (lv_at hl 1 rfl) ?_
  refine lv_aload_n hx hb dL_law_320 rfl (lv_at hl 0 rfl) ?_
  refine lv_iload hx hb dL_law_321 (lv_at hl 4 rfl) ?_
  refine lv_iconst (v := 1) hx hb dL_law_323 (by decide) ?_
  refine lv_iadd hx hb dL_law_324 ?_
  refine sl_ld (j := 4 * k + 1) (v := a1) hx hb hX hbl hbA hS (nI_add (4 * k) 1) (by omega) hL ea1 dL_law_325 ?_
  refine lv_aload_n hx hb dL_law_326 rfl (lv_at hl 0 rfl) ?_
  refine lv_iload hx hb dL_law_327 (lv_at hl 4 rfl) ?_
  refine lv_iconst (v := 2) hx hb dL_law_329 (by decide) ?_
  refine lv_iadd hx hb dL_law_330 ?_
  refine sl_ld (j := 4 * k + 2) (v := a2) hx hb hX hbl hbA hS (nI_add (4 * k) 2) (by omega) hL ea2 dL_law_331 ?_
  refine ro_V2 ⟨hx, hb, hml, hown, hts⟩ (c_X0_edge l D o cI (nI w) (nI h) tw (nI no) sm nx bf od st ow L a1 a2 gL hC.2.2.1 hI.len hC.2.2.2.1) (cwV 2 hts gL_law_X0_edge rfl rfl rfl (by decide +kernel) ⟨Nat.le_of_ble_eq_true rfl, Nat.le_of_ble_eq_true rfl⟩) (va_recv hK hP (ci := 0) (q0 := 0) rfl rfl) (hP.sub (ws' := W0 o cI (nI w) (nI h) tw (nI no) (nI L.length) sm nx bf od st ow) [0, 1, 2, 3, 4, 5, 6] rfl) (hK.sub (tys' := [(cI, .int)]) [0] rfl) hP hS rfl hl.1 (lv_room (Nat.le_of_ble_eq_true rfl)) dL_law_332 ⟨by show 14 + k ≤ 1039; omega, by show 2558 + 6 * k ≤ 10756; omega⟩ (fun r0 H locs hr0 hP hS => ?_)
  refine lv_aload_n hx hb dL_law_335 rfl (lv_at hl 2 rfl) ?_
  refine lv_aload_n hx hb dL_law_336 rfl (lv_at hl 0 rfl) ?_
  refine lv_iload hx hb dL_law_337 (lv_at hl 4 rfl) ?_
  refine lv_iconst (v := 1) hx hb dL_law_339 (by decide) ?_
  refine lv_iadd hx hb dL_law_340 ?_
  refine sl_ld (j := 4 * k + 1) (v := a1) hx hb hX hbl hbA hS (nI_add (4 * k) 1) (by omega) hL ea1 dL_law_341 ?_
  refine lv_aload_n hx hb dL_law_342 rfl (lv_at hl 0 rfl) ?_
  refine lv_iload hx hb dL_law_343 (lv_at hl 4 rfl) ?_
  refine lv_iconst (v := 2) hx hb dL_law_345 (by decide) ?_
  refine lv_iadd hx hb dL_law_346 ?_
  refine sl_ld (j := 4 * k + 2) (v := a2) hx hb hX hbl hbA hS (nI_add (4 * k) 2) (by omega) hL ea2 dL_law_347 ?_
  refine wi_V (wr := W0 o cI (nI w) (nI h) tw (nI no) (nI L.length) sm nx bf od st ow ++ [(q0, .inl (cJ, 1, .inr (.inl g)))]) (As := [.int a1, .int a2]) (rest := [.int r0]) ⟨hx, hb, hml, hown, hts⟩ (c_X1_edge l D r cR cZ th (nI w) (nI h) tw smR odR stR cl us L a1 a2 gL hR.2.1 hI.len hR.2.2.1) (cwV 2 hts gL_law_X1_edge rfl rfl rfl (by decide +kernel) ⟨Nat.le_of_ble_eq_true rfl, Nat.le_of_ble_eq_true rfl⟩) (va_recv hK hP (ci := 1) (q0 := 7) rfl rfl) (hP.sub (ws' := W1 r cR cZ th (nI w) (nI h) tw (nI L.length) smR odR stR cl us) [7, 8, 9, 10, 11, 12] rfl) (hD.sub (ws' := W1 r cR cZ th (nI w) (nI h) tw (nI L.length) smR odR stR cl us) [7, 8, 9, 10, 11, 12] (by decide) rfl) (hK.sub (tys' := [(cR, .int), (cZ, .boolean)]) [1, 2] rfl) hP hD hS [7, 8, 9, 10, 11, 12] [0, 1, 2, 3, 4, 5, 6, 13] rfl rfl rfl (by decide) rfl hl.1 rfl (lv_room (Nat.le_of_ble_eq_true rfl)) dL_law_348 ⟨by show 14 + k ≤ 1039; omega, by show 2558 + 6 * k ≤ 10756; omega⟩ (fun r1 H locs hr1 hP hD hS => ?_)
  have hP : va_P D vwCl (W0 o cI (nI w) (nI h) tw (nI no) (nI L.length) sm nx bf od st ow ++ (W1 r cR cZ 0 (nI w) (nI h) tw (nI L.length) smR odR stR cl us ++ [(q0, .inl (cJ, 1, .inr (.inl g)))])) H := hP.sub [0, 1, 2, 3, 4, 5, 6, 8, 9, 10, 11, 12, 13, 7] rfl
  have hD : va_D (fun q : Nat => s.heap.size ≤ q) (W0 o cI (nI w) (nI h) tw (nI no) (nI L.length) sm nx bf od st ow ++ (W1 r cR cZ 0 (nI w) (nI h) tw (nI L.length) smR odR stR cl us ++ [(q0, .inl (cJ, 1, .inr (.inl g)))])) := hD.sub [0, 1, 2, 3, 4, 5, 6, 8, 9, 10, 11, 12, 13, 7] (by decide) rfl
  subst hr0
  subst hr1
  refine lv_icmp_eq (tgt := 462) hx hb dL_law_351 (by decide) (fun _ => ?_) (fun c9 => absurd rfl c9)
  refine W.widen (k := 14 + (k + 1)) (n := 2558 + 6 * (k + 1)) (by omega) (by omega) ?_
  exact J w h tw f L no sm nx bf od st ow 0 smR odR stR cl us g _ _ _ ⟨hI, hC, hR, hP, hD, hS, hl⟩

set_option maxHeartbeats 400000 in
set_option maxRecDepth 100000 in
theorem lw_within {p : Program} (l : Launch) {e : Env} {s : State} {m : MethodId} {below : List Frame} {meth : Method} {c : Code} (D : va_G) (o r : Nat → Nat) (cI cR cZ cJ : ClassId) (q0 : Nat) {b Ls k : Nat} {xs : Nat → Int32} (hL : Ls ≤ 2048) (C0 : lw_At p s m meth c b Ls xs) (hk : 4 * k + 4 ≤ Ls) (hK : va_K D vwCl [(cI, .int), (cR, .int), (cZ, .boolean), (cJ, .long)] s) (J : ∀ (w h : Nat) (tw : Int32) (f : Nat → Nat → Int32) (L : List (List Nat)) (no : Nat) (sm nx bf od st ow : Nat → Int32) (th : Int32) (smR odR stR cl us : Nat → Int32) (g : Nat → Int64) (H : Heap) (locs : List Loc) (ls : Array Slot), LI s D o r cI cR cZ cJ q0 b k w h tw f L no sm nx bf od st ow th smR odR stR cl us g H locs ls → W p l e room_1 s m #[Value.ref b] below meth c H locs (14 + (k + 1)) (2558 + 6 * (k + 1)) (lw_Z below #[Value.ref b] s) (F0 m 462 ls [])) {w h : Nat} {tw : Int32} {f : Nat → Nat → Int32} {L : List (List Nat)} {no : Nat} {sm nx bf od st ow : Nat → Int32} {th : Int32} {smR odR stR cl us : Nat → Int32} {g : Nat → Int64} {H : Heap} {locs : List Loc} {ls : Array Slot} (I : LI s D o r cI cR cZ cJ q0 b k w h tw f L no sm nx bf od st ow th smR odR stR cl us g H locs ls) : W p l e room_1 s m #[Value.ref b] below meth c H locs (14 + k) (2558 + 6 * k) (lw_Z below #[Value.ref b] s) (F0 m 424 ls []) := by
  obtain ⟨hx, hb, hr, hml, hown, hts, hX, hbl, hlocks, hgv⟩ := C0
  have hts : ∀ w ∈ wsL_law, w.before #[Value.ref b] s = true := fun w h => hts w (wsL_law_in w h)
  have hown : s.vm.findClass RL = some m.cls := hown
  have hbA : ¬ (fun q : Nat => s.heap.size ≤ q) b := Nat.not_le.mpr hbl
  obtain ⟨hI, hC, hR, hP, hD, hS, hl⟩ := I
  obtain ⟨a1, ea1⟩ : ∃ a, xs (4 * k + 1) = a := ⟨_, rfl⟩
  obtain ⟨a2, ea2⟩ : ∃ a, xs (4 * k + 2) = a := ⟨_, rfl⟩
  obtain ⟨a3, ea3⟩ : ∃ a, xs (4 * k + 3) = a := ⟨_, rfl⟩
  obtain ⟨gw, gw2, gh, gh2, gb, gt, gL, gno, gnd, gal⟩ := id hI
  refine lv_aload_n hx hb dL_law_424 rfl (lv_at hl 1 rfl) ?_
  refine lv_aload_n hx hb dL_law_425 rfl (lv_at hl 0 rfl) ?_
  refine lv_iload hx hb dL_law_426 (lv_at hl 4 rfl) ?_
  refine lv_iconst (v := 1) hx hb dL_law_428 (by decide) ?_
  refine lv_iadd hx hb dL_law_429 ?_
  refine sl_ld (j := 4 * k + 1) (v := a1) hx hb hX hbl hbA hS (nI_add (4 * k) 1) (by omega) hL ea1 dL_law_430 ?_
  refine ro_V1 ⟨hx, hb, hml, hown, hts⟩ (c_X0_within l D o cI tw sm nx bf od st ow w h L no a1 gw gw2 gh2 gL hC.2.2.2.2) (cwV 1 hts gL_law_X0_within rfl rfl rfl (by decide +kernel) ⟨Nat.le_of_ble_eq_true rfl, Nat.le_of_ble_eq_true rfl⟩) (va_recv hK hP (ci := 0) (q0 := 0) rfl rfl) (hP.sub (ws' := W0 o cI (nI w) (nI h) tw (nI no) (nI L.length) sm nx bf od st ow) [0, 1, 2, 3, 4, 5, 6] rfl) (hK.sub (tys' := [(cI, .int)]) [0] rfl) hP hS rfl hl.1 (lv_room (Nat.le_of_ble_eq_true rfl)) dL_law_431 ⟨by show 14 + k ≤ 1039; omega, by show 2558 + 6 * k ≤ 10756; omega⟩ (fun r0 H locs hr0 hP hS => ?_)
  refine lv_aload_n hx hb dL_law_434 rfl (lv_at hl 2 rfl) ?_
  refine lv_aload_n hx hb dL_law_435 rfl (lv_at hl 0 rfl) ?_
  refine lv_iload hx hb dL_law_436 (lv_at hl 4 rfl) ?_
  refine lv_iconst (v := 1) hx hb dL_law_438 (by decide) ?_
  refine lv_iadd hx hb dL_law_439 ?_
  refine sl_ld (j := 4 * k + 1) (v := a1) hx hb hX hbl hbA hS (nI_add (4 * k) 1) (by omega) hL ea1 dL_law_440 ?_
  refine wi_V (wr := W0 o cI (nI w) (nI h) tw (nI no) (nI L.length) sm nx bf od st ow ++ [(q0, .inl (cJ, 1, .inr (.inl g)))]) (As := [.int a1]) (rest := [.int r0]) ⟨hx, hb, hml, hown, hts⟩ (c_X1_within l D r cR cZ th tw smR odR stR cl us w h L no a1 gw gw2 gh gh2 gL hR.2.1 gno hR.2.2.2 hI.len hR.2.2.1 gnd gal) (cwV 1 hts gL_law_X1_within rfl rfl rfl (by decide +kernel) ⟨Nat.le_of_ble_eq_true rfl, Nat.le_of_ble_eq_true rfl⟩) (va_recv hK hP (ci := 1) (q0 := 7) rfl rfl) (hP.sub (ws' := W1 r cR cZ th (nI w) (nI h) tw (nI L.length) smR odR stR cl us) [7, 8, 9, 10, 11, 12] rfl) (hD.sub (ws' := W1 r cR cZ th (nI w) (nI h) tw (nI L.length) smR odR stR cl us) [7, 8, 9, 10, 11, 12] (by decide) rfl) (hK.sub (tys' := [(cR, .int), (cZ, .boolean)]) [1, 2] rfl) hP hD hS [7, 8, 9, 10, 11, 12] [0, 1, 2, 3, 4, 5, 6, 13] rfl rfl rfl (by decide) rfl hl.1 rfl (lv_room (Nat.le_of_ble_eq_true rfl)) dL_law_441 ⟨by show 14 + k ≤ 1039; omega, by show 2558 + 6 * k ≤ 10756; omega⟩ (fun r1 H locs hr1 hP hD hS => ?_)
  have hP : va_P D vwCl (W0 o cI (nI w) (nI h) tw (nI no) (nI L.length) sm nx bf od st ow ++ (W1 r cR cZ 0 (nI w) (nI h) tw (nI L.length) smR odR stR cl us ++ [(q0, .inl (cJ, 1, .inr (.inl g)))])) H := hP.sub [0, 1, 2, 3, 4, 5, 6, 8, 9, 10, 11, 12, 13, 7] rfl
  have hD : va_D (fun q : Nat => s.heap.size ≤ q) (W0 o cI (nI w) (nI h) tw (nI no) (nI L.length) sm nx bf od st ow ++ (W1 r cR cZ 0 (nI w) (nI h) tw (nI L.length) smR odR stR cl us ++ [(q0, .inl (cJ, 1, .inr (.inl g)))])) := hD.sub [0, 1, 2, 3, 4, 5, 6, 8, 9, 10, 11, 12, 13, 7] (by decide) rfl
  subst hr0
  subst hr1
  refine lv_icmp_eq (tgt := 462) hx hb dL_law_444 (by decide) (fun _ => ?_) (fun c9 => absurd rfl c9)
  refine W.widen (k := 14 + (k + 1)) (n := 2558 + 6 * (k + 1)) (by omega) (by omega) ?_
  exact J w h tw f L no sm nx bf od st ow 0 smR odR stR cl us g _ _ _ ⟨hI, hC, hR, hP, hD, hS, hl⟩

set_option maxHeartbeats 400000 in
set_option maxRecDepth 100000 in
theorem lw_crossed {p : Program} (l : Launch) {e : Env} {s : State} {m : MethodId} {below : List Frame} {meth : Method} {c : Code} (D : va_G) (o r : Nat → Nat) (cI cR cZ cJ : ClassId) (q0 : Nat) {b Ls k : Nat} {xs : Nat → Int32} (hL : Ls ≤ 2048) (C0 : lw_At p s m meth c b Ls xs) (hk : 4 * k + 4 ≤ Ls) (hK : va_K D vwCl [(cI, .int), (cR, .int), (cZ, .boolean), (cJ, .long)] s) (J : ∀ (w h : Nat) (tw : Int32) (f : Nat → Nat → Int32) (L : List (List Nat)) (no : Nat) (sm nx bf od st ow : Nat → Int32) (th : Int32) (smR odR stR cl us : Nat → Int32) (g : Nat → Int64) (H : Heap) (locs : List Loc) (ls : Array Slot), LI s D o r cI cR cZ cJ q0 b k w h tw f L no sm nx bf od st ow th smR odR stR cl us g H locs ls → W p l e room_1 s m #[Value.ref b] below meth c H locs (14 + (k + 1)) (2558 + 6 * (k + 1)) (lw_Z below #[Value.ref b] s) (F0 m 462 ls [])) {w h : Nat} {tw : Int32} {f : Nat → Nat → Int32} {L : List (List Nat)} {no : Nat} {sm nx bf od st ow : Nat → Int32} {th : Int32} {smR odR stR cl us : Nat → Int32} {g : Nat → Int64} {H : Heap} {locs : List Loc} {ls : Array Slot} (I : LI s D o r cI cR cZ cJ q0 b k w h tw f L no sm nx bf od st ow th smR odR stR cl us g H locs ls) : W p l e room_1 s m #[Value.ref b] below meth c H locs (14 + k) (2558 + 6 * k) (lw_Z below #[Value.ref b] s) (F0 m 449 ls []) := by
  obtain ⟨hx, hb, hr, hml, hown, hts, hX, hbl, hlocks, hgv⟩ := C0
  have hts : ∀ w ∈ wsL_law, w.before #[Value.ref b] s = true := fun w h => hts w (wsL_law_in w h)
  have hown : s.vm.findClass RL = some m.cls := hown
  have hbA : ¬ (fun q : Nat => s.heap.size ≤ q) b := Nat.not_le.mpr hbl
  obtain ⟨hI, hC, hR, hP, hD, hS, hl⟩ := I
  obtain ⟨a1, ea1⟩ : ∃ a, xs (4 * k + 1) = a := ⟨_, rfl⟩
  obtain ⟨a2, ea2⟩ : ∃ a, xs (4 * k + 2) = a := ⟨_, rfl⟩
  obtain ⟨a3, ea3⟩ : ∃ a, xs (4 * k + 3) = a := ⟨_, rfl⟩
  obtain ⟨gw, gw2, gh, gh2, gb, gt, gL, gno, gnd, gal⟩ := id hI
  refine lv_aload_n hx hb dL_law_449 rfl (lv_at hl 1 rfl) ?_
  refine ro_V0 ⟨hx, hb, hml, hown, hts⟩ (c_X0_crossed l D o cI tw (nI no) (nI L.length) sm nx bf od st ow w h f gw gw2 gh gh2 hC.1) (cwV 0 hts gL_law_X0_crossed rfl rfl rfl (by decide +kernel) ⟨Nat.le_of_ble_eq_true rfl, Nat.le_of_ble_eq_true rfl⟩) (va_recv hK hP (ci := 0) (q0 := 0) rfl rfl) (hP.sub (ws' := W0 o cI (nI w) (nI h) tw (nI no) (nI L.length) sm nx bf od st ow) [0, 1, 2, 3, 4, 5, 6] rfl) (hK.sub (tys' := [(cI, .int)]) [0] rfl) hP hS rfl hl.1 (lv_room (Nat.le_of_ble_eq_true rfl)) dL_law_450 ⟨by show 14 + k ≤ 1039; omega, by show 2558 + 6 * k ≤ 10756; omega⟩ (fun r0 H locs hr0 hP hS => ?_)
  refine lv_aload_n hx hb dL_law_453 rfl (lv_at hl 2 rfl) ?_
  refine wi_V (wr := W0 o cI (nI w) (nI h) tw (nI no) (nI L.length) sm nx bf od st ow ++ [(q0, .inl (cJ, 1, .inr (.inl g)))]) (As := []) (rest := [.int r0]) ⟨hx, hb, hml, hown, hts⟩ (c_X1_crossed l D r cR cZ th tw (nI L.length) smR odR stR cl us w h f gw gw2 gh gh2 hR.1) (cwV 0 hts gL_law_X1_crossed rfl rfl rfl (by decide +kernel) ⟨Nat.le_of_ble_eq_true rfl, Nat.le_of_ble_eq_true rfl⟩) (va_recv hK hP (ci := 1) (q0 := 7) rfl rfl) (hP.sub (ws' := W1 r cR cZ th (nI w) (nI h) tw (nI L.length) smR odR stR cl us) [7, 8, 9, 10, 11, 12] rfl) (hD.sub (ws' := W1 r cR cZ th (nI w) (nI h) tw (nI L.length) smR odR stR cl us) [7, 8, 9, 10, 11, 12] (by decide) rfl) (hK.sub (tys' := [(cR, .int), (cZ, .boolean)]) [1, 2] rfl) hP hD hS [7, 8, 9, 10, 11, 12] [0, 1, 2, 3, 4, 5, 6, 13] rfl rfl rfl (by decide) rfl hl.1 rfl (lv_room (Nat.le_of_ble_eq_true rfl)) dL_law_454 ⟨by show 14 + k ≤ 1039; omega, by show 2558 + 6 * k ≤ 10756; omega⟩ (fun r1 H locs hr1 hP hD hS => ?_)
  have hP : va_P D vwCl (W0 o cI (nI w) (nI h) tw (nI no) (nI L.length) sm nx bf od st ow ++ (W1 r cR cZ 0 (nI w) (nI h) tw (nI L.length) smR odR stR cl us ++ [(q0, .inl (cJ, 1, .inr (.inl g)))])) H := hP.sub [0, 1, 2, 3, 4, 5, 6, 8, 9, 10, 11, 12, 13, 7] rfl
  have hD : va_D (fun q : Nat => s.heap.size ≤ q) (W0 o cI (nI w) (nI h) tw (nI no) (nI L.length) sm nx bf od st ow ++ (W1 r cR cZ 0 (nI w) (nI h) tw (nI L.length) smR odR stR cl us ++ [(q0, .inl (cJ, 1, .inr (.inl g)))])) := hD.sub [0, 1, 2, 3, 4, 5, 6, 8, 9, 10, 11, 12, 13, 7] (by decide) rfl
  subst hr0
  subst hr1
  refine lv_icmp_eq (tgt := 462) hx hb dL_law_457 (by decide) (fun _ => ?_) (fun c9 => absurd rfl c9)
  refine W.widen (k := 14 + (k + 1)) (n := 2558 + 6 * (k + 1)) (by omega) (by omega) ?_
  exact J w h tw f L no sm nx bf od st ow 0 smR odR stR cl us g _ _ _ ⟨hI, hC, hR, hP, hD, hS, hl⟩
