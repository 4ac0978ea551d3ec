theorem cmp_rfl (x : Int64) : lg_cmp x x = 0 := by
  unfold lg_cmp
  simp

set_option maxHeartbeats 400000 in
set_option maxRecDepth 100000 in
theorem lw_crossing {p : Program} (l : Launch) {e : Env} {s : State} {m : MethodId} {below : List Frame} {meth : Method} {c : Code} (D : va_G) (o r : Nat → Nat) (cI cR cZ cJ : ClassId) (q0 : Nat) {b Ls k : Nat} {xs : Nat → Int32} (hL : Ls ≤ 2048) (C0 : lw_At p s m meth c b Ls xs) (hk : 4 * k + 4 ≤ Ls) (hK : va_K D vwCl [(cI, .int), (cR, .int), (cZ, .boolean), (cJ, .long)] s) (hst : l.stackTraces = false) (hXN : xN s) (hXZ : xZ (fun q : Nat => s.heap.size ≤ q) s s.heap) (J : ∀ (w h : Nat) (tw : Int32) (f : Nat → Nat → Int32) (L : List (List Nat)) (no : Nat) (sm nx bf od st ow : Nat → Int32) (th : Int32) (smR odR stR cl us : Nat → Int32) (g : Nat → Int64) (H : Heap) (locs : List Loc) (ls : Array Slot), LI s D o r cI cR cZ cJ q0 b k w h tw f L no sm nx bf od st ow th smR odR stR cl us g H locs ls → W p l e room_1 s m #[Value.ref b] below meth c H locs (14 + (k + 1)) (2558 + 6 * (k + 1)) (lw_Z below #[Value.ref b] s) (F0 m 462 ls [])) {w h : Nat} {tw : Int32} {f : Nat → Nat → Int32} {L : List (List Nat)} {no : Nat} {sm nx bf od st ow : Nat → Int32} {th : Int32} {smR odR stR cl us : Nat → Int32} {g : Nat → Int64} {H : Heap} {locs : List Loc} {ls : Array Slot} (I : LI s D o r cI cR cZ cJ q0 b k w h tw f L no sm nx bf od st ow th smR odR stR cl us g H locs ls) : W p l e room_1 s m #[Value.ref b] below meth c H locs (14 + k) (2558 + 6 * k) (lw_Z below #[Value.ref b] s) (F0 m 356 ls []) := by
  obtain ⟨hx, hb, hr, hml, hown, hts, hX, hbl, hlocks, hgv⟩ := C0
  have hts : ∀ w ∈ wsL_law, w.before #[Value.ref b] s = true := fun w h => hts w (wsL_law_in w h)
  have hown : s.vm.findClass RL = some m.cls := hown
  have hbA : ¬ (fun q : Nat => s.heap.size ≤ q) b := Nat.not_le.mpr hbl
  obtain ⟨hI, hC, hR, hP, hD, hS, hl⟩ := I
  obtain ⟨a1, ea1⟩ : ∃ a, xs (4 * k + 1) = a := ⟨_, rfl⟩
  obtain ⟨a2, ea2⟩ : ∃ a, xs (4 * k + 2) = a := ⟨_, rfl⟩
  obtain ⟨a3, ea3⟩ : ∃ a, xs (4 * k + 3) = a := ⟨_, rfl⟩
  obtain ⟨gw, gw2, gh, gh2, gb, gt, gL, gno, gnd, gal⟩ := id hI
  have hXZH : xZ (fun _ => False) s H := (hXZ.kept hS.2.1).narrow (fun _ h => h.elim)
  refine lv_aload_n hx hb dL_law_356 rfl (lv_at hl 1 rfl) ?_
  refine lv_aload_n hx hb dL_law_357 rfl (lv_at hl 0 rfl) ?_
  refine lv_iload hx hb dL_law_358 (lv_at hl 4 rfl) ?_
  refine lv_iconst (v := 1) hx hb dL_law_360 (by decide) ?_
  refine lv_iadd hx hb dL_law_361 ?_
  refine sl_ld (j := 4 * k + 1) (v := a1) hx hb hX hbl hbA hS (nI_add (4 * k) 1) (by omega) hL ea1 dL_law_362 ?_
  refine lv_aload_n hx hb dL_law_363 rfl (lv_at hl 0 rfl) ?_
  refine lv_iload hx hb dL_law_364 (lv_at hl 4 rfl) ?_
  refine lv_iconst (v := 2) hx hb dL_law_366 (by decide) ?_
  refine lv_iadd hx hb dL_law_367 ?_
  refine sl_ld (j := 4 * k + 2) (v := a2) hx hb hX hbl hbA hS (nI_add (4 * k) 2) (by omega) hL ea2 dL_law_368 ?_
  refine lv_aload_n hx hb dL_law_369 rfl (lv_at hl 3 rfl) ?_
  have hPq := hP.sub (ws' := (WH o cI (nI w) (nI h) tw (nI no) (nI L.length) sm nx bf od st ow q0 cJ g)) [0, 1, 2, 3, 4, 5, 6, 13] rfl
  have hDq := hD.sub (ws' := (WH o cI (nI w) (nI h) tw (nI no) (nI L.length) sm nx bf od st ow q0 cJ g)) [0, 1, 2, 3, 4, 5, 6, 13] (by decide) rfl
  have hKq := hK.sub (tys' := [(cI, .int), (cJ, .long)]) [0, 3] rfl
  have hFq := va_free (wc := (WH o cI (nI w) (nI h) tw (nI no) (nI L.length) sm nx bf od st ow q0 cJ g)) hD hS (fun _ h => h) [0, 1, 2, 3, 4, 5, 6, 13] rfl
  refine va_calli (vx_runSW (As := [.ref (o 0), .int a1, .int a2, .ref q0]) (rest := []) ⟨hx, hb, hml, hown, hts⟩ (c_L_crossing l D o cI cJ q0 H.size g tw (nI no) (nI L.length) sm nx bf od st ow w h f a1 a2 hst gw gw2 gh gh2 hC.1 gb gt) (vx_cwSW 4 hts gL_law_L_crossing rfl rfl rfl (by decide +kernel) ⟨Nat.le_of_ble_eq_true rfl, Nat.le_of_ble_eq_true rfl⟩) ⟨hPc_blind _ _ _ _ _, fun U hU hW => ⟨rfl, by rw [hU], by rw [hU]; exact hPq, va_K.moved hW.alike hKq, hDq.weaken (fun _ _ _ _ => trivial), hXN.warm hW, by rw [hU]; exact hXZH.moved hW.alike⟩⟩ rfl rfl hl.1 rfl (lv_room (Nat.le_of_ble_eq_true rfl)) dL_law_370 ⟨by show 14 + k + 1 ≤ 1039; omega, by show 2558 + 6 * k + 6 ≤ 10756; omega⟩) hS (fun q _ h => hFq q h) hFq (fun r5 u t H1 locs ht hvm hw hB hz1 hk1 hS => ?_)
  obtain ⟨hP1, hK1, hD1⟩ := hB
  rw [ht] at hP1
  obtain ⟨hP, hD⟩ := va_join (wr := W1 r cR cZ th (nI w) (nI h) tw (nI L.length) smR odR stR cl us) (w1 := (WH o cI (nI w) (nI h) tw (nI no) (nI L.length) sm nx bf od st ow q0 cJ (outG (okC w h f tw a1 a2) g (crV tw (fst2 w h f a1.toNatClampNeg) (snd2 w h f a1.toNatClampNeg) a2)))) hP hD [0, 1, 2, 3, 4, 5, 6, 13] [7, 8, 9, 10, 11, 12] rfl rfl rfl (by decide) hk1 hFq hP1 hD1
  generalize H1 = H at hP hS ⊢
  have hP : va_P D vwCl (W0 o cI (nI w) (nI h) tw (nI no) (nI L.length) sm nx bf od st ow ++ (W1 r cR cZ th (nI w) (nI h) tw (nI L.length) smR odR stR cl us ++ [(q0, .inl (cJ, 1, .inr (.inl (outG (okC w h f tw a1 a2) g (crV tw (fst2 w h f a1.toNatClampNeg) (snd2 w h f a1.toNatClampNeg) a2)))))])) H := hP.sub [6, 7, 8, 9, 10, 11, 12, 0, 1, 2, 3, 4, 5, 13] rfl
  have hD : va_D (fun q : Nat => s.heap.size ≤ q) (W0 o cI (nI w) (nI h) tw (nI no) (nI L.length) sm nx bf od st ow ++ (W1 r cR cZ th (nI w) (nI h) tw (nI L.length) smR odR stR cl us ++ [(q0, .inl (cJ, 1, .inr (.inl (outG (okC w h f tw a1 a2) g (crV tw (fst2 w h f a1.toNatClampNeg) (snd2 w h f a1.toNatClampNeg) a2)))))])) := hD.sub [6, 7, 8, 9, 10, 11, 12, 0, 1, 2, 3, 4, 5, 13] (by decide) rfl
  have hw : r5 = bI (!okC w h f tw a1 a2) := hw
  subst hw
  refine lv_istore (lv' := [(5, .int (bI (!okC w h f tw a1 a2))), (0, .ref b), (1, .ref (o 0)), (2, .ref (r 0)), (3, .ref q0), (4, .int (nI (4 * k)))]) hx hb dL_law_373 hl (by decide) rfl (fun ls hl => ?_)
  refine lv_aload_n hx hb dL_law_375 rfl (lv_at hl 3 rfl) ?_
  refine lv_aload_n hx hb dL_law_376 rfl (lv_at hl 1 rfl) ?_
  refine lv_iload hx hb dL_law_377 (lv_at hl 5 rfl) ?_
  refine lv_iconst (v := 1) hx hb dL_law_379 (by decide) ?_
  refine lv_iadd hx hb dL_law_380 ?_
  refine sl_ld (j := 4 * k + 1) (v := a1) hx hb hX hbl hbA hS (nI_add (4 * k) 1) (by omega) hL ea1 dL_law_381 ?_
  refine lv_aload_n hx hb dL_law_382 rfl (lv_at hl 1 rfl) ?_
  refine lv_iload hx hb dL_law_383 (lv_at hl 5 rfl) ?_
  refine lv_iconst (v := 2) hx hb dL_law_385 (by decide) ?_
  refine lv_iadd hx hb dL_law_386 ?_
  refine sl_ld (j := 4 * k + 2) (v := a2) hx hb hX hbl hbA hS (nI_add (4 * k) 2) (by omega) hL ea2 dL_law_387 ?_
  refine wi_V (wr := W0 o cI (nI w) (nI h) tw (nI no) (nI L.length) sm nx bf od st ow ++ [(q0, .inl (cJ, 1, .inr (.inl (outG (okC w h f tw a1 a2) g (crV tw (fst2 w h f a1.toNatClampNeg) (snd2 w h f a1.toNatClampNeg) a2)))))]) (As := [.int a1, .int a2]) (rest := []) ⟨hx, hb, hml, hown, hts⟩ (c_X1_crossing l D r cR cZ th tw (nI L.length) smR odR stR cl us w h f a1 a2 gw gw2 gh gh2 hR.1 gb gt) (cwV 2 hts gL_law_X1_crossing rfl rfl rfl (by decide +kernel) ⟨Nat.le_of_ble_eq_true rfl, Nat.le_of_ble_eq_true rfl⟩) (va_recv hK hP (ci := 1) (q0 := 7) rfl rfl) (hP.sub (ws' := W1 r cR cZ th (nI w) (nI h) tw (nI L.length) smR odR stR cl us) [7, 8, 9, 10, 11, 12] rfl) (hD.sub (ws' := W1 r cR cZ th (nI w) (nI h) tw (nI L.length) smR odR stR cl us) [7, 8, 9, 10, 11, 12] (by decide) rfl) (hK.sub (tys' := [(cR, .int), (cZ, .boolean)]) [1, 2] rfl) hP hD hS [7, 8, 9, 10, 11, 12] [0, 1, 2, 3, 4, 5, 6, 13] rfl rfl rfl (by decide) rfl hl.1 rfl (lv_room (Nat.le_of_ble_eq_true rfl)) dL_law_388 ⟨by show 14 + k + 1 ≤ 1039; omega, by show 2558 + 6 * k + 6 ≤ 10756; omega⟩ (fun r6 H locs hr6 hP hD hS => ?_)
  have hP : va_P D vwCl (W0 o cI (nI w) (nI h) tw (nI no) (nI L.length) sm nx bf od st ow ++ (W1 r cR cZ (bif okC w h f tw a1 a2 then 0 else 1) (nI w) (nI h) tw (nI L.length) smR odR stR cl us ++ [(q0, .inl (cJ, 1, .inr (.inl (outG (okC w h f tw a1 a2) g (crV tw (fst2 w h f a1.toNatClampNeg) (snd2 w h f a1.toNatClampNeg) a2)))))])) H := hP.sub [0, 1, 2, 3, 4, 5, 6, 8, 9, 10, 11, 12, 13, 7] rfl
  have hD : va_D (fun q : Nat => s.heap.size ≤ q) (W0 o cI (nI w) (nI h) tw (nI no) (nI L.length) sm nx bf od st ow ++ (W1 r cR cZ (bif okC w h f tw a1 a2 then 0 else 1) (nI w) (nI h) tw (nI L.length) smR odR stR cl us ++ [(q0, .inl (cJ, 1, .inr (.inl (outG (okC w h f tw a1 a2) g (crV tw (fst2 w h f a1.toNatClampNeg) (snd2 w h f a1.toNatClampNeg) a2)))))])) := hD.sub [0, 1, 2, 3, 4, 5, 6, 8, 9, 10, 11, 12, 13, 7] (by decide) rfl
  subst hr6
  refine lv_istore (lv' := [(6, .int (crA w h f tw a1 a2)), (5, .int (bI (!okC w h f tw a1 a2))), (0, .ref b), (1, .ref (o 0)), (2, .ref (r 0)), (3, .ref q0), (4, .int (nI (4 * k)))]) hx hb dL_law_391 hl (by decide) rfl (fun ls hl => ?_)
  refine lv_aload_n hx hb dL_law_393 rfl (lv_at hl 4 rfl) ?_
  refine ro_V0 ⟨hx, hb, hml, hown, hts⟩ (c_X1_thrown l D r cR cZ (bif okC w h f tw a1 a2 then 0 else 1) (nI w) (nI h) tw (nI L.length) smR odR stR cl us) (cwV 0 hts gL_law_X1_thrown rfl rfl rfl (by decide +kernel) ⟨Nat.le_of_ble_eq_true rfl, Nat.le_of_ble_eq_true rfl⟩) (va_recv hK hP (ci := 1) (q0 := 7) rfl rfl) (hP.sub (ws' := W1 r cR cZ (bif okC w h f tw a1 a2 then 0 else 1) (nI w) (nI h) tw (nI L.length) smR odR stR cl us) [7, 8, 9, 10, 11, 12] rfl) (hK.sub (tys' := [(cR, .int), (cZ, .boolean)]) [1, 2] rfl) hP hS rfl hl.1 (lv_room (Nat.le_of_ble_eq_true rfl)) dL_law_394 ⟨by show 14 + k + 1 ≤ 1039; omega, by show 2558 + 6 * k + 6 ≤ 10756; omega⟩ (fun r7 H locs hr7 hP hS => ?_)
  subst hr7
  refine lv_iload hx hb dL_law_397 (lv_at hl 1 rfl) ?_
  refine lv_icmp_eq (tgt := 404) hx hb dL_law_399 (by decide) (fun _ => ?_) (fun c9 => absurd (by cases okC w h f tw a1 a2 <;> rfl) c9)
  refine lv_iload hx hb dL_law_404 (lv_at hl 1 rfl) ?_
  have fin : ∀ (H : Heap) (locs : List Loc), va_P D vwCl (W0 o cI (nI w) (nI h) tw (nI no) (nI L.length) sm nx bf od st ow ++ (W1 r cR cZ (bif okC w h f tw a1 a2 then 0 else 1) (nI w) (nI h) tw (nI L.length) smR odR stR cl us ++ [(q0, .inl (cJ, 1, .inr (.inl (outG (okC w h f tw a1 a2) g (crV tw (fst2 w h f a1.toNatClampNeg) (snd2 w h f a1.toNatClampNeg) a2)))))])) H → va_S (fun q : Nat => s.heap.size ≤ q) s.heap H locs → W p l e room_1 s m #[Value.ref b] below meth c H locs (14 + k + 1) (2558 + 6 * k + 6) (lw_Z below #[Value.ref b] s) (F0 m 421 ls []) := by
    intro H locs hP hS
    refine lv_goto (tgt := 462) hx hb dL_law_421 (by decide) ?_
    refine W.widen (k := 14 + (k + 1)) (n := 2558 + 6 * (k + 1)) (by omega) (by omega) ?_
    exact J w h tw f L no sm nx bf od st ow (bif okC w h f tw a1 a2 then 0 else 1) smR odR stR cl us (outG (okC w h f tw a1 a2) g (crV tw (fst2 w h f a1.toNatClampNeg) (snd2 w h f a1.toNatClampNeg) a2)) _ _ _ ⟨hI, hC, hR, hP, hD, hS, lv_sub hl [2, 3, 4, 5, 6] rfl⟩
  refine lv_if_ne (tgt := 421) hx hb dL_law_406 (by decide) (fun _ => fin H locs hP hS) (fun c6 => ?_)
  have hok : okC w h f tw a1 a2 = true := by
    have h9 : bI (!okC w h f tw a1 a2) = 0 := c6
    cases hq : okC w h f tw a1 a2 with
    | true => rfl
    | false => rw [hq] at h9; exact absurd h9 (by decide)
  refine lv_aload_n hx hb dL_law_409 rfl (lv_at hl 5 rfl) ?_
  refine lv_iconst (v := 0) hx hb dL_law_410 (by decide) ?_
  refine va_lald (D := D) hx hb hK hP 13 3 rfl rfl (i := 0) (vp_in_nI (n := 0) (N := 1) (by decide) (by decide)) dL_law_411 ?_
  refine lv_iload hx hb dL_law_412 (lv_at hl 0 rfl) ?_
  refine lv_i2l hx hb dL_law_414 rfl ?_
  refine W.lcmp hx hb dL_law_415 ?_
  refine lv_if_eq (tgt := 421) hx hb dL_law_416 (by decide) (fun _ => fin H locs hP hS) (fun c7 => absurd ?_ c7)
  have h8 : (outG (okC w h f tw a1 a2) g (crV tw (fst2 w h f a1.toNatClampNeg) (snd2 w h f a1.toNatClampNeg) a2)) (0 : Int32).toNatClampNeg = (crA w h f tw a1 a2).toInt64 := by
    unfold crA outG; rw [hok]; rfl
  rw [h8]
  exact cmp_rfl _

set_option maxHeartbeats 400000 in
set_option maxRecDepth 100000 in
theorem law_loop {p : Program} (l : Launch) {e : Env} {s : State} {m : MethodId} {below : List Frame} {meth : Method} {c : Code} (D : va_G) (o r : Nat → Nat) (cI cR cZ cJ : ClassId) (q0 : Nat) {b Ls : Nat} {xs : Nat → Int32} (hL : Ls ≤ 2048) (C0 : lw_At p s m meth c b Ls xs) (hK : va_K D vwCl [(cI, .int), (cR, .int), (cZ, .boolean), (cJ, .long)] s) (hst : l.stackTraces = false) (hXN : xN s) (hXZ : xZ (fun q : Nat => s.heap.size ≤ q) s s.heap) : ∀ (n k : Nat), 4 * k ≤ Ls → Ls + 1 ≤ k + n → ∀ (w h : Nat) (tw : Int32) (f : Nat → Nat → Int32) (L : List (List Nat)) (no : Nat) (sm nx bf od st ow : Nat → Int32) (th : Int32) (smR odR stR cl us : Nat → Int32) (g : Nat → Int64) (H : Heap) (locs : List Loc) (ls : Array Slot), LI s D o r cI cR cZ cJ q0 b k w h tw f L no sm nx bf od st ow th smR odR stR cl us g H locs ls → W p l e room_1 s m #[Value.ref b] below meth c H locs (14 + k) (2558 + 6 * k) (lw_Z below #[Value.ref b] s) (F0 m 23 ls []) := by
  intro n
  induction n with
  | zero => intro k h1 h2; exact absurd h2 (by omega)
  | succ n ih =>
    intro k hk0 hn w h tw f L no sm nx bf od st ow th smR odR stR cl us g H locs ls I
    have J : 4 * k + 4 ≤ Ls → (∀ (w h : Nat) (tw : Int32) (f : Nat → Nat → Int32) (L : List (List Nat)) (no : Nat) (sm nx bf od st ow : Nat → Int32) (th : Int32) (smR odR stR cl us : Nat → Int32) (g : Nat → Int64) (H : Heap) (locs : List Loc) (ls : Array Slot), LI s D o r cI cR cZ cJ q0 b k w h tw f L no sm nx bf od st ow th smR odR stR cl us g H locs ls → W p l e room_1 s m #[Value.ref b] below meth c H locs (14 + (k + 1)) (2558 + 6 * (k + 1)) (lw_Z below #[Value.ref b] s) (F0 m 462 ls [])) := by
      intro hk w h tw f L no sm nx bf od st ow th smR odR stR cl us g H locs ls I
      obtain ⟨hx, hb, hr, hml, hown, hts, hX, hbl, hlocks, hgv⟩ := C0
      obtain ⟨hI, hC, hR, hP, hD, hS, hl⟩ := I
      refine lv_iinc (v := nI (4 * (k + 1))) (lv' := [(4, .int (nI (4 * (k + 1)))), (0, .ref b), (1, .ref (o 0)), (2, .ref (r 0)), (3, .ref q0)]) hx hb dL_law_462 hl (k := 4) rfl (nI_add (4 * k) 4) (by decide) rfl (fun ls hl => ?_)
      refine lv_goto (tgt := 23) hx hb dL_law_465 (by decide) ?_
      exact ih (k + 1) (by omega) (by omega) _ _ _ _ _ _ _ _ _ _ _ _ _ _ _ _ _ _ _ _ _ _ ⟨hI, hC, hR, hP, hD, hS, lv_sub hl [1, 2, 3, 4, 0] rfl⟩
    have C1 := C0
    have I1 := I
    obtain ⟨hx, hb, hr, hml, hown, hts, hX, hbl, hlocks, hgv⟩ := C0
    have hbA : ¬ (fun q : Nat => s.heap.size ≤ q) b := Nat.not_le.mpr hbl
    obtain ⟨hI, hC, hR, hP, hD, hS, hl⟩ := I
    refine lv_iload hx hb dL_law_23 (lv_at hl 4 rfl) ?_
    refine lv_aload_n hx hb dL_law_25 rfl (lv_at hl 0 rfl) ?_
    refine va_slen hx hb hX hbl hbA hS dL_law_26 ?_
    refine lv_iconst (v := 4) hx hb dL_law_27 (by decide) ?_
    refine lv_isub hx hb dL_law_28 ?_
    refine lv_icmp_gt (tgt := 468) hx hb dL_law_29 (by decide) (fun c29 => ?_) (fun c29 => ?_)
    · refine lv_iconst (v := 1) hx hb dL_law_468 (by decide) ?_
      refine va_forget (fun q hq => hS.2.2 q hq) ?_
      refine W.widen (k := 1039) (n := 10756) (by omega) (by omega) ?_
      exact lw_ret hx hb hr hlocks dL_law_469
    · have hk : 4 * k + 4 ≤ Ls := by
        have h1 : ¬ (nI Ls - nI 4).toInt < (nI (4 * k)).toInt := fun q => c29 (Int32.lt_iff_toInt_lt.mpr q)
        rw [pk_sub_toInt (by omega) (by omega), nI_toInt (by omega)] at h1
        omega
      obtain ⟨v, ev⟩ : ∃ v, xs (4 * k) = v := ⟨_, rfl⟩
      refine lv_aload_n hx hb dL_law_32 rfl (lv_at hl 0 rfl) ?_
      refine lv_iload hx hb dL_law_33 (lv_at hl 4 rfl) ?_
      refine sl_ld (j := 4 * k) (v := v) hx hb hX hbl hbA hS rfl (by omega) hL ev dL_law_35 ?_
      refine lv_bipush (v := 15) hx hb dL_law_36 (by decide) ?_
      refine lv_iand hx hb dL_law_38 ?_
      obtain ⟨j, hj, ej⟩ := pk_andE v (m := 15) 4 (by decide)
      rw [ej]
      rcases (show j = 0 ∨ j = 1 ∨ j = 2 ∨ j = 3 ∨ j = 4 ∨ j = 5 ∨ j = 6 ∨ j = 7 ∨ j = 8 ∨ j = 9 ∨ j = 10 ∨ 11 ≤ j by omega) with h9 | h9 | h9 | h9 | h9 | h9 | h9 | h9 | h9 | h9 | h9 | h9
      · subst h9
        refine lv_tableIn (tgt := 96) hx hb dL_law_39 (by decide) (by decide) (off := 57) (by decide) (by decide) ?_
        exact lw_field l D o r cI cR cZ cJ q0 hL C1 hk hK (J hk) I1
      · subst h9
        refine lv_tableIn (tgt := 133) hx hb dL_law_39 (by decide) (by decide) (off := 94) (by decide) (by decide) ?_
        exact lw_set l D o r cI cR cZ cJ q0 hL C1 hk hK (J hk) I1
      · subst h9
        refine lv_tableIn (tgt := 182) hx hb dL_law_39 (by decide) (by decide) (off := 143) (by decide) (by decide) ?_
        exact lw_row l D o r cI cR cZ cJ q0 hL C1 hk hK (J hk) I1
      · subst h9
        refine lv_tableIn (tgt := 231) hx hb dL_law_39 (by decide) (by decide) (off := 192) (by decide) (by decide) ?_
        exact lw_height l D o r cI cR cZ cJ q0 hL C1 hk hK (J hk) I1
      · subst h9
        refine lv_tableIn (tgt := 256) hx hb dL_law_39 (by decide) (by decide) (off := 217) (by decide) (by decide) ?_
        exact lw_make l D o r cI cR cZ cJ q0 hL C1 hk hK (J hk) I1
      · subst h9
        refine lv_tableIn (tgt := 269) hx hb dL_law_39 (by decide) (by decide) (off := 230) (by decide) (by decide) ?_
        exact lw_size l D o r cI cR cZ cJ q0 hL C1 hk hK (J hk) I1
      · subst h9
        refine lv_tableIn (tgt := 294) hx hb dL_law_39 (by decide) (by decide) (off := 255) (by decide) (by decide) ?_
        exact lw_isClosed l D o r cI cR cZ cJ q0 hL C1 hk hK (J hk) I1
      · subst h9
        refine lv_tableIn (tgt := 319) hx hb dL_law_39 (by decide) (by decide) (off := 280) (by decide) (by decide) ?_
        exact lw_edge l D o r cI cR cZ cJ q0 hL C1 hk hK (J hk) I1
      · subst h9
        refine lv_tableIn (tgt := 356) hx hb dL_law_39 (by decide) (by decide) (off := 317) (by decide) (by decide) ?_
        exact lw_crossing l D o r cI cR cZ cJ q0 hL C1 hk hK hst hXN hXZ (J hk) I1
      · subst h9
        refine lv_tableIn (tgt := 424) hx hb dL_law_39 (by decide) (by decide) (off := 385) (by decide) (by decide) ?_
        exact lw_within l D o r cI cR cZ cJ q0 hL C1 hk hK (J hk) I1
      · subst h9
        refine lv_tableIn (tgt := 449) hx hb dL_law_39 (by decide) (by decide) (off := 410) (by decide) (by decide) ?_
        exact lw_crossed l D o r cI cR cZ cJ q0 hL C1 hk hK (J hk) I1
      · refine lv_tableOut (tgt := 462) hx hb dL_law_39 (Or.inr (by rw [nI_toInt (by omega)]; omega)) (by decide) ?_
        refine W.widen (k := 14 + (k + 1)) (n := 2558 + 6 * (k + 1)) (by omega) (by omega) ?_
        exact J hk _ _ _ _ _ _ _ _ _ _ _ _ _ _ _ _ _ _ _ _ _ _ ⟨hI, hC, hR, hP, hD, hS, hl⟩
