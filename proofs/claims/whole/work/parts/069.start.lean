set_option maxHeartbeats 400000 in
set_option maxRecDepth 100000 in
theorem whole_start {p : Program} {e : Env} {s : State} {m : MethodId} {below : List Frame} {meth : Method} {c : Code} (l : Launch) (hst : l.stackTraces = false) {b L : Nat} {xs : Nat → Int32} (hL : L ≤ 2048) (C0 : lw_At p s m meth c b L xs) : W p l e room_1 s m #[Value.ref b] below meth c s.heap [] 0 0 (lw_Z below #[Value.ref b] s) (entryFrame m ([Value.ref b] : List Value).toArray 7) := by
  obtain ⟨hx, hb, hr, hml, hown, hts0, hX, hbl, hlocks, hgv⟩ := id C0
  have hts : ∀ w ∈ wsL_law, w.before #[Value.ref b] s = true := fun w h => hts0 w (wsL_law_in w h)
  have hown : s.vm.findClass RL = some m.cls := hown
  have hA : ∀ q : Nat, s.heap.size ≤ q → (fun q : Nat => s.heap.size ≤ q) q := fun _ h => h
  have hfl := flat_of_before _ hgv
  have hXN : xN s := ⟨va_Nw.of rfl (hts0 (.declares (Bundle.init0 "java/lang/RuntimeException")) (by decide +kernel)), va_Nw.of rfl (hts0 (.declares (Bundle.init0 "java/lang/Exception")) (by decide +kernel)), va_Nw.of rfl (hts0 (.declares (Bundle.init0 Bundle.tN)) (by decide +kernel)), va_Nw.of rfl (hts0 (.castable NSE NSE) (by decide +kernel))⟩
  have hXZ : xZ (fun q : Nat => s.heap.size ≤ q) s s.heap := ⟨vx_Zqof (hts0 (.laysStatic Bundle.tN "UNASSIGNED_STACK" Bundle.steD) (by decide +kernel)) (hts0 (.initialized Bundle.tN) (by decide +kernel)) (hfl (.isRef (.static Bundle.tN "UNASSIGNED_STACK" Bundle.steD)) (by decide +kernel)) (fun a ha => Nat.not_le.mpr ha), vx_Zqof (hts0 (.laysStatic Bundle.tN "SUPPRESSED_SENTINEL" Bundle.listD) (by decide +kernel)) (hts0 (.initialized Bundle.tN) (by decide +kernel)) (hfl (.isRef (.static Bundle.tN "SUPPRESSED_SENTINEL" Bundle.listD)) (by decide +kernel)) (fun a ha => Nat.not_le.mpr ha)⟩
  obtain ⟨c0, iS0, hKn0⟩ := u_known (C := RX0) (T := TX0) (N := 11) (n := 11) hts inlX0 (hts (.instantiable RX0 11) (by decide +kernel))
  obtain ⟨c1, iS1, hKn1⟩ := u_known (C := RX1) (T := TX1) (N := 10) (n := 10) hts inlX1 (hts (.instantiable RX1 10) (by decide +kernel))
  obtain ⟨D, hKc⟩ : ∃ (D : va_G), ∀ (k : Nat) (q : vw_C), vwCl[k]? = some q → u_Kn s q.1 q.2.1 q.2.2 (D.1 k) (D.2 k) := by
    refine ⟨(fun k => if k = 0 then c0 else c1, fun k => if k = 0 then iS0 else iS1), ?_⟩
    intro k q hq
    match k, hq with
    | 0, hq => cases hq; exact hKn0
    | 1, hq => cases hq; exact hKn1
    | k + 2, hq => simp [vwCl] at hq
  have hS : va_S (fun q : Nat => s.heap.size ≤ q) s.heap s.heap [] := va_S.rf
  have hK : va_K D vwCl [] s := ⟨hKc, fun k q h => by simp at h⟩
  have hP : va_P D vwCl [] s.heap := fun k q h => by simp at h
  have hD : va_D (fun q : Nat => s.heap.size ≤ q) [] := ⟨fun i j p q h => by simp at h, fun k q h => by simp at h⟩
  have hl := lv_entry ([.ref b]) (n := 7) (Nat.le_of_ble_eq_true rfl)
  rw [lg_entry_eq]
  generalize (lg_sl ([.ref b]) ++ List.replicate (7 - (lg_sl ([.ref b])).length) Slot.unset).toArray = ls at hl ⊢
  have hl : lv_has ls 7 [(0, .ref b)] := hl
  refine va_new (ci := 0) (fs := [.int 0, .int 0, .int 0, .null, .null, .null, .null, .null, .null, .int 0, .int 0]) (C := RX0) (T := TX0) (N := 11) hx hb hts inlX0 tyX0 tyX0_ok hown (hts (.classLink RL 8 RX0) (by decide +kernel)) (hts (.instantiable RX0 11) (by decide +kernel)) (hts (.initialized RX0) (by decide +kernel)) hK hP hD hS hA rfl (fun j hj => by rcases (show j = 0 ∨ j = 1 ∨ j = 2 ∨ j = 3 ∨ j = 4 ∨ j = 5 ∨ j = 6 ∨ j = 7 ∨ j = 8 ∨ j = 9 ∨ j = 10 by omega) with rfl | rfl | rfl | rfl | rfl | rfl | rfl | rfl | rfl | rfl | rfl <;> rfl) (Nat.le_of_ble_eq_true rfl) (Nat.le_of_ble_eq_true rfl) dL_law_0 (fun qa H hP hD hS => ?_)
  have hP : va_P D vwCl ([(qa, .inr (0, [.int 0, .int 0, .int 0, .null, .null, .null, .null, .null, .null, .int 0, .int 0]))]) H := hP
  have hD : va_D (fun q : Nat => s.heap.size ≤ q) ([(qa, .inr (0, [.int 0, .int 0, .int 0, .null, .null, .null, .null, .null, .null, .int 0, .int 0]))]) := hD
  refine W.widen (k := 1) (n := 11) (by omega) (by omega) ?_
  refine lv_dup hx hb dL_law_3 rfl ?_
  have hPq := hP.sub (ws' := [(qa, .inr (0, [.int 0, .int 0, .int 0, .null, .null, .null, .null, .null, .null, .int 0, .int 0]))]) [0] rfl
  have hDq := hD.sub (ws' := [(qa, .inr (0, [.int 0, .int 0, .int 0, .null, .null, .null, .null, .null, .null, .int 0, .int 0]))]) [0] (by decide) rfl
  have hKq := hK.sub (tys' := []) [] rfl
  have hFq := va_free (wc := [(qa, .inr (0, [.int 0, .int 0, .int 0, .null, .null, .null, .null, .null, .null, .int 0, .int 0]))]) hD hS hA [0] rfl
  refine va_callv (va_runI (As := []) (rest := [.ref qa]) ⟨hx, hb, hml, hown, hts⟩ (c_X0_init l D qa H.size) (cwI 0 hts gL_law_X0_init rfl rfl rfl (hts (.initialized RX0) (by decide +kernel)) (hts (.methodLink RL 15 yX0_init) (by decide +kernel)) (hts (.instanceMethod yX0_init) (by decide +kernel)) rfl (by decide +kernel) ⟨Nat.le_of_ble_eq_true rfl, Nat.le_of_ble_eq_true rfl⟩) ⟨fun a U g mk q => by obtain ⟨q0, q1, qP, qK, qD⟩ := q; exact ⟨q0, q1, qP, va_K.moved (u := U) (U := U.calling g mk a) (Vm.Alike.refl U.vm) qK, qD⟩, fun U hU hW => ⟨rfl, by rw [hU], by rw [hU]; exact hPq, va_K.moved hW.alike hKq, hDq.weaken (fun _ _ _ _ => trivial)⟩⟩ rfl rfl hl.1 rfl (lv_room (Nat.le_of_ble_eq_true rfl)) dL_law_4 ⟨Nat.le_of_ble_eq_true rfl, Nat.le_of_ble_eq_true rfl⟩) hS (fun q _ h => hFq q h) hFq (fun u t H1 locs ht hvm hw hB hz1 hk1 hS => ?_)
  obtain ⟨o, cI, ho, hP1, hK1, hD1⟩ := hB
  rw [ht] at hP1
  have hK1 := va_K.moved hvm.symm hK1
  obtain ⟨hP8, hD8⟩ := va_join (wr := []) (w1 := W0 o cI 2 2 1 0 0 zF zF zF zF zF zF) hP hD [0] [] rfl rfl rfl (by decide) hk1 hFq hP1 hD1
  have hK8 := hK.app hK1
  generalize H1 = H8 at hP8 hS ⊢
  subst ho
  have hP : va_P D vwCl (W0 o cI 2 2 1 0 0 zF zF zF zF zF zF) H8 := hP8
  have hD : va_D (fun q : Nat => s.heap.size ≤ q) (W0 o cI 2 2 1 0 0 zF zF zF zF zF zF) := hD8
  have hK : va_K D vwCl [(cI, .int)] s := hK8
  generalize H8 = H at hP hS ⊢
  refine W.widen (k := 7) (n := 1344) (by omega) (by omega) ?_
  refine lv_astore_n (lv' := [(1, .ref (o 0)), (0, .ref b)]) hx hb dL_law_7 rfl hl (by decide) rfl (fun ls hl => ?_)
  refine va_new (ci := 1) (fs := [.int 0, .int 0, .int 0, .int 0, .null, .null, .null, .null, .null, .int 0]) (C := RX1) (T := TX1) (N := 10) hx hb hts inlX1 tyX1 tyX1_ok hown (hts (.classLink RL 16 RX1) (by decide +kernel)) (hts (.instantiable RX1 10) (by decide +kernel)) (hts (.initialized RX1) (by decide +kernel)) hK hP hD hS hA rfl (fun j hj => by rcases (show j = 0 ∨ j = 1 ∨ j = 2 ∨ j = 3 ∨ j = 4 ∨ j = 5 ∨ j = 6 ∨ j = 7 ∨ j = 8 ∨ j = 9 by omega) with rfl | rfl | rfl | rfl | rfl | rfl | rfl | rfl | rfl | rfl <;> rfl) (Nat.le_of_ble_eq_true rfl) (Nat.le_of_ble_eq_true rfl) dL_law_8 (fun qb H hP hD hS => ?_)
  have hP : va_P D vwCl (W0 o cI 2 2 1 0 0 zF zF zF zF zF zF ++ [(qb, .inr (1, [.int 0, .int 0, .int 0, .int 0, .null, .null, .null, .null, .null, .int 0]))]) H := hP
  have hD : va_D (fun q : Nat => s.heap.size ≤ q) (W0 o cI 2 2 1 0 0 zF zF zF zF zF zF ++ [(qb, .inr (1, [.int 0, .int 0, .int 0, .int 0, .null, .null, .null, .null, .null, .int 0]))]) := hD
  refine W.widen (k := 8) (n := 1354) (by omega) (by omega) ?_
  refine lv_dup hx hb dL_law_11 rfl ?_
  have hPq := hP.sub (ws' := [(qb, .inr (1, [.int 0, .int 0, .int 0, .int 0, .null, .null, .null, .null, .null, .int 0]))]) [7] rfl
  have hDq := hD.sub (ws' := [(qb, .inr (1, [.int 0, .int 0, .int 0, .int 0, .null, .null, .null, .null, .null, .int 0]))]) [7] (by decide) rfl
  have hKq := hK.sub (tys' := []) [] rfl
  have hFq := va_free (wc := [(qb, .inr (1, [.int 0, .int 0, .int 0, .int 0, .null, .null, .null, .null, .null, .int 0]))]) hD hS hA [7] rfl
  refine va_callv (va_runI (As := []) (rest := [.ref qb]) ⟨hx, hb, hml, hown, hts⟩ (c_X1_init l D qb H.size) (cwI 0 hts gL_law_X1_init rfl rfl rfl (hts (.initialized RX1) (by decide +kernel)) (hts (.methodLink RL 18 yX1_init) (by decide +kernel)) (hts (.instanceMethod yX1_init) (by decide +kernel)) rfl (by decide +kernel) ⟨Nat.le_of_ble_eq_true rfl, Nat.le_of_ble_eq_true rfl⟩) ⟨fun a U g mk q => by obtain ⟨q0, q1, qP, qK, qD⟩ := q; exact ⟨q0, q1, qP, va_K.moved (u := U) (U := U.calling g mk a) (Vm.Alike.refl U.vm) qK, qD⟩, fun U hU hW => ⟨rfl, by rw [hU], by rw [hU]; exact hPq, va_K.moved hW.alike hKq, hDq.weaken (fun _ _ _ _ => trivial)⟩⟩ rfl rfl hl.1 rfl (lv_room (Nat.le_of_ble_eq_true rfl)) dL_law_12 ⟨Nat.le_of_ble_eq_true rfl, Nat.le_of_ble_eq_true rfl⟩) hS (fun q _ h => hFq q h) hFq (fun u t H1 locs ht hvm hw hB hz1 hk1 hS => ?_)
  obtain ⟨r, cR, cZ, ho, hP1, hK1, hD1⟩ := hB
  rw [ht] at hP1
  have hK1 := va_K.moved hvm.symm hK1
  obtain ⟨hP8, hD8⟩ := va_join (wr := W0 o cI 2 2 1 0 0 zF zF zF zF zF zF) (w1 := W1 r cR cZ 0 2 2 1 0 zF zF zF zF zF) hP hD [7] [0, 1, 2, 3, 4, 5, 6] rfl rfl rfl (by decide) hk1 hFq hP1 hD1
  have hK8 := hK.app hK1
  generalize H1 = H8 at hP8 hS ⊢
  subst ho
  have hP : va_P D vwCl (W0 o cI 2 2 1 0 0 zF zF zF zF zF zF ++ W1 r cR cZ 0 2 2 1 0 zF zF zF zF zF) H8 := hP8
  have hD : va_D (fun q : Nat => s.heap.size ≤ q) (W0 o cI 2 2 1 0 0 zF zF zF zF zF zF ++ W1 r cR cZ 0 2 2 1 0 zF zF zF zF zF) := hD8
  have hK : va_K D vwCl [(cI, .int), (cR, .int), (cZ, .boolean)] s := hK8
  generalize H8 = H at hP hS ⊢
  refine W.widen (k := 13) (n := 2557) (by omega) (by omega) ?_
  refine lv_astore_n (lv' := [(2, .ref (r 0)), (1, .ref (o 0)), (0, .ref b)]) hx hb dL_law_15 rfl hl (by decide) rfl (fun ls hl => ?_)
  refine lv_iconst (v := 1) hx hb dL_law_16 (by decide) ?_
  refine va_newa (D := D) (atype := .long) (ty := .long) (N' := 1) (a0 := (1, .inr (.inl (fun _ => 0)))) hx hb (hts (.arrayClass .long) (by decide +kernel)) rfl hK hP hD hS hA (fun _ => rfl) (by decide) (nI_clamp (n := 1) (by decide)) (by show 1 * 8 ≤ 536870912; omega) (Nat.le_of_ble_eq_true rfl) (Nat.le_of_ble_eq_true rfl) dL_law_17 (fun q0 cJ H hK hP hD hS => ?_)
  have hP : va_P D vwCl (W0 o cI 2 2 1 0 0 zF zF zF zF zF zF ++ (W1 r cR cZ 0 2 2 1 0 zF zF zF zF zF ++ [(q0, .inl (cJ, 1, .inr (.inl (fun _ => 0))))])) H := hP
  have hD : va_D (fun q : Nat => s.heap.size ≤ q) (W0 o cI 2 2 1 0 0 zF zF zF zF zF zF ++ (W1 r cR cZ 0 2 2 1 0 zF zF zF zF zF ++ [(q0, .inl (cJ, 1, .inr (.inl (fun _ => 0))))])) := hD
  refine lv_astore_n (lv' := [(3, .ref q0), (2, .ref (r 0)), (1, .ref (o 0)), (0, .ref b)]) hx hb dL_law_19 rfl hl (by decide) rfl (fun ls hl => ?_)
  refine lv_iconst (v := 0) hx hb dL_law_20 (by decide) ?_
  refine lv_istore (lv' := [(4, .int 0), (3, .ref q0), (2, .ref (r 0)), (1, .ref (o 0)), (0, .ref b)]) hx hb dL_law_21 hl (by decide) rfl (fun ls hl => ?_)
  refine W.widen (k := 14 + 0) (n := 2558 + 6 * 0) (by omega) (by omega) ?_
  exact law_loop l D o r cI cR cZ cJ q0 hL C0 hK hst hXN hXZ (L + 1) 0 (by omega) (by omega) 2 2 1 (fun _ _ => 0) [] 0 zF zF zF zF zF zF 0 zF zF zF zF zF (fun _ => 0) H _ ls ⟨IA_0, IC_0, IR_0, hP, hD, hS, lv_sub hl [4, 3, 2, 1, 0] rfl⟩
