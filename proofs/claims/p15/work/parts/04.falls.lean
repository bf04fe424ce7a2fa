/-! THE ROOM, 3: into EachSeesOne(), up to behind its Inquiry: an array of 4096 is new; so the Statement's room can't hold. -/
def rf_room : Jvm.Room := ({ frames := 12, cells := 68, slots := 9500, locals := 472 } : Jvm.Room)
/-- still within the invocation, and 4096 slots more in use -/
def rf_G (below : List Frame) (n : Nat) (t : State) : Prop := Within t below ∧ n + 4096 ≤ t.slotsUsed
theorem rf_reach {p : Program} {l : Launch} {e : Env} {R : Room} {s : State} {m : MethodId} {args : Array Value} {below : List Frame} {meth : Method} {c : Code} {H : Heap} {locs : List Loc} {cells slots q : Nat} {cell : Cell} {n : Nat} (hn : n ≤ s.slotsUsed) {mid below' : List Frame} (hbel : below = mid ++ below') (hq : s.heap.size ≤ q) (hc : H[q]? = some cell) (hs : cell.slots.size = 4096) {g : JFrame} : W p l e R s m args below meth c H locs cells slots (rf_G below' n) g := by
  intro T hT X
  refine ⟨T.setTop g, Steps.refl _, ?_, ?_⟩
  · have h := At.within X.here g
    rw [hbel] at h
    exact h.weaken
  · have h4 : T.slotsUsed = s.slotsUsed + ((T.heap.toList.drop s.heap.size).map (·.slots.size)).sum := X.same.2.2.2.1
    have h5 := rf_sum (H := T.heap) hq (by rw [hT]; exact hc) hs
    show n + 4096 ≤ T.slotsUsed
    rw [h4]
    exact Nat.add_le_add hn h5
theorem rf_sz (cA : ClassId) (n : Nat) (f : Nat → Int32) : (vp_cell cA (n, .inl f)).slots.size = n := by
  rw [vp_cell_i]
  exact arrV_size _ _ _
set_option maxHeartbeats 4000000 in
set_option maxRecDepth 100000 in
theorem rf_x {p : Program} {l : Launch} {e : Env} {s : State} {m : MethodId} {below : List Frame} {meth : Method} {c : Code} {s₁ : State} (dC : Nat → ClassId) (dI : Nat → Nat → Nat) (h0 : Nat) (B : BodyLoose p l yX11_init (headSpec wsX11_init ({ frames := 4, cells := 38, slots := 9413, locals := 75 })) cX11_init 1 none e s m (Value.ref h0 :: []).toArray below meth c s₁) (hml : c.maxLocals = 1) {mid below' : List Frame} (hbel : below = mid ++ below') (n : Nat) (hn : n ≤ s.slotsUsed) (hP : va_P (dC, dI) vwCl [(h0, .inr (11, [.null, .null, .null, .null, .null, .null, .null, .null, .null, .null, .null, .int 0, .int 0]))] s.heap) (hK : va_K (dC, dI) vwCl [] s) (hD0 : va_D (fun _ => True) [(h0, .inr (11, [.null, .null, .null, .null, .null, .null, .null, .null, .null, .null, .null, .int 0, .int 0]))]) (hN : rf_nz s) : W p l e ((headSpec wsX11_init ({ frames := 4, cells := 38, slots := 9413, locals := 75 })).room) s m (Value.ref h0 :: []).toArray below meth c s.heap [] 0 0 (rf_G below' n) (entryFrame m (Value.ref h0 :: []).toArray 1) := by
  have hx := B.exec
  have hb := B.bytes
  have hr := B.returns
  have hts := atoms_spec (ws := wsX11_init) B.pre
  have hown : s.vm.findClass RX11 = some m.cls := findClass_of_methodNamed B.named
  have hlocks := B.notSynchronized
  have hin : meth.name = "<init>" := (name_of_methodNamed B.named B.method).1
  have hD := hD0.self (sz := s.heap.size)
  generalize hAe : va_A [(h0, .inr (11, [.null, .null, .null, .null, .null, .null, .null, .null, .null, .null, .null, .int 0, .int 0]))] s.heap.size = A at hD ⊢
  have hA : ∀ q : Nat, s.heap.size ≤ q → A q := fun q h => by rw [← hAe]; exact Or.inr h
  have hS : va_S A s.heap s.heap [] := va_S.rf
  have hP : va_P (dC, dI) vwCl [(h0, .inr (11, [.null, .null, .null, .null, .null, .null, .null, .null, .null, .null, .null, .int 0, .int 0]))] s.heap := hP
  have hl := lv_entry ([.ref h0]) (n := 1) (Nat.le_of_ble_eq_true rfl)
  rw [lg_entry_eq]
  generalize (lg_sl ([.ref h0]) ++ List.replicate (1 - (lg_sl ([.ref h0])).length) Slot.unset).toArray = ls at hl ⊢
  have hl : lv_has ls 1 [(0, .ref h0)] := hl
  refine lv_aload_n hx hb dX11_init_0 rfl (lv_at hl 0 rfl) ?_
  refine W.objInit hx hb hown (hts (.methodLink RX11 1 objectInit) (mR_wsR_own _ (List.mem_of_getElem? (i := 0) rfl))) (hts (.instanceMethod objectInit) (mR_wsR_own _ (List.mem_of_getElem? (i := 1) rfl))) (hts (.code objectInit ⟨#[0xb1]⟩ 1 none) (List.mem_of_getElem? (i := 3) rfl)) rfl (by rw [hml]; exact hl.1) rfl dX11_init_1 (Nat.le_of_ble_eq_true rfl) (Nat.le_of_ble_eq_true rfl) ?_
  refine W.eq (g2 := F0 m 4 ls []) rfl ?_
  refine lv_aload_n hx hb dX11_init_4 rfl (lv_at hl 0 rfl) ?_
  refine va_new (ci := 8) (fs := [.null, .int 0]) (C := RX8) (T := TX8) (N := 2) hx hb hts mR_wsX80 tyX8 tyX8_ok hown (hts (.classLink RX11 7 RX8) (mR_wsR_own _ (List.mem_of_getElem? (i := 3) rfl))) (hts (.instantiable RX8 2) (mR_wsR_own _ (List.mem_of_getElem? (i := 4) rfl))) (hts (.initialized RX8) (mR_wsR_own _ (List.mem_of_getElem? (i := 5) rfl))) hK hP hD hS hA rfl (fun j hj => by rcases (show j = 0 ∨ j = 1 by omega) with rfl | rfl <;> rfl) (Nat.le_of_ble_eq_true rfl) (Nat.le_of_ble_eq_true rfl) dX11_init_5 (fun q5 H hP hD hS => ?_)
  refine W.widen (k := 1) (n := 2) (Nat.le_of_ble_eq_true rfl) (Nat.le_of_ble_eq_true rfl) ?_
  have hP : va_P (dC, dI) vwCl [(h0, .inr (11, [.null, .null, .null, .null, .null, .null, .null, .null, .null, .null, .null, .int 0, .int 0])), (q5, .inr (8, [.null, .int 0]))] H := hP
  have hD : va_D A [(h0, .inr (11, [.null, .null, .null, .null, .null, .null, .null, .null, .null, .null, .null, .int 0, .int 0])), (q5, .inr (8, [.null, .int 0]))] := hD
  refine lv_dup hx hb dX11_init_8 rfl ?_
  have hPc := hP.sub (ws' := [(q5, .inr (8, [.null, .int 0]))]) [1] rfl
  have hDc := hD.sub (ws' := [(q5, .inr (8, [.null, .int 0]))]) [1] (by decide) rfl
  have hKc := hK.sub (tys' := []) [] rfl
  have hFc := va_free (wc := [(q5, .inr (8, [.null, .int 0]))]) hD hS hA [1] rfl
  refine va_callv (va_runIN (As := []) (rest := [.ref q5, .ref h0]) ⟨hx, hb, hml, hown, hts⟩ (rf_X8_init l dC dI q5 H.size) ⟨va_cnB (own := RX11) (host := RX11) (index := 9) 0 hts gX11_init_X8_init_n9 rfl rfl rfl (hN _ (by decide +kernel)) (hts (.initialized RX8) (mR_wsR_own _ (List.mem_of_getElem? (i := 5) rfl))) (by decide +kernel) ⟨Nat.le_of_ble_eq_true rfl, Nat.le_of_ble_eq_true rfl⟩, rfl, hts (.instanceMethod yX8_init) (mR_wsR_own _ (List.mem_of_getElem? (i := 44) rfl))⟩ ⟨rf_blind, fun U hU hW => ⟨rfl, by rw [hU], by rw [hU]; exact hPc, va_K.moved hW.alike hKc, hDc.weaken (fun _ _ _ _ => trivial), rf_nz_warm hW hN⟩⟩ rfl rfl hl.1 rfl (lv_room (Nat.le_of_ble_eq_true rfl)) dX11_init_9 ⟨Nat.le_of_ble_eq_true rfl, Nat.le_of_ble_eq_true rfl⟩) hS (fun q _ h => hFc q h) hFc (fun u t H1 locs ht hvm hw hB hz1 hk1 hS => ?_)
  refine W.widen (k := 3) (n := 403) (Nat.le_of_ble_eq_true rfl) (Nat.le_of_ble_eq_true rfl) ?_
  obtain ⟨hP1, hK1, hD1⟩ := hB
  rw [ht] at hP1
  have hK1 := va_K.moved hvm.symm hK1
  have hP1 := hP1.sub (ws' := []) [] rfl
  have hD1 := hD1.sub (ws' := []) [] (by decide) rfl
  obtain ⟨hP, hD⟩ := va_join (wr := [(h0, .inr (11, [.null, .null, .null, .null, .null, .null, .null, .null, .null, .null, .null, .int 0, .int 0]))]) (w1 := []) hP hD [1] [0] rfl rfl (by decide) (by decide) hk1 hFc hP1 hD1
  generalize H1 = H at hP hS ⊢
  have hP : va_P (dC, dI) vwCl [(h0, .inr (11, [.null, .null, .null, .null, .null, .null, .null, .null, .null, .null, .null, .int 0, .int 0]))] H := hP
  have hD : va_D A [(h0, .inr (11, [.null, .null, .null, .null, .null, .null, .null, .null, .null, .null, .null, .int 0, .int 0]))] := hD
  refine va_putF (D := (dC, dI)) (ci := 11) (v := .ref q5) (ty := .object "EachSeesOne$Text") (C := RX11) (T := TX11) (N := 13) hx hb hts mR_wsX110 tyX11 tyX11_ok nmX11 hown hK hP hD hS 0 rfl rfl 0 (by decide) (hts (.fieldLink RX11 10 "EachSeesOne" "text" "LEachSeesOne$Text;") (mR_wsR_own _ (List.mem_of_getElem? (i := 33) rfl))) (fun _ h9 => h9) rfl hin rfl (by decide +kernel) rfl rfl (Nat.le_of_ble_eq_true rfl) dX11_init_12 (fun H locs hP hD hS => ?_)
  have hP : va_P (dC, dI) vwCl [(h0, .inr (11, [.ref q5, .null, .null, .null, .null, .null, .null, .null, .null, .null, .null, .int 0, .int 0]))] H := hP
  have hD : va_D A [(h0, .inr (11, [.ref q5, .null, .null, .null, .null, .null, .null, .null, .null, .null, .null, .int 0, .int 0]))] := hD
  refine lv_aload_n hx hb dX11_init_15 rfl (lv_at hl 0 rfl) ?_
  refine va_new (ci := 4) (fs := [.null, .null, .null, .int 0, .int 0, .int 0, .int 0, .int 0, .int 0, .int 0, .int 0]) (C := RX4) (T := TX4) (N := 11) hx hb hts mR_wsX40 tyX4 tyX4_ok hown (hts (.classLink RX11 16 RX4) (mR_wsR_own _ (List.mem_of_getElem? (i := 6) rfl))) (hts (.instantiable RX4 11) (mR_wsR_own _ (List.mem_of_getElem? (i := 7) rfl))) (hts (.initialized RX4) (mR_wsR_own _ (List.mem_of_getElem? (i := 8) rfl))) hK hP hD hS hA rfl (fun j hj => by rcases (show j = 0 ∨ j = 1 ∨ j = 2 ∨ j = 3 ∨ j = 4 ∨ j = 5 ∨ j = 6 ∨ j = 7 ∨ j = 8 ∨ j = 9 ∨ j = 10 by omega) with rfl | rfl | rfl | rfl | rfl | rfl | rfl | rfl | rfl | rfl | rfl <;> rfl) (Nat.le_of_ble_eq_true rfl) (Nat.le_of_ble_eq_true rfl) dX11_init_16 (fun q16 H hP hD hS => ?_)
  refine W.widen (k := 4) (n := 414) (Nat.le_of_ble_eq_true rfl) (Nat.le_of_ble_eq_true rfl) ?_
  have hP : va_P (dC, dI) vwCl [(h0, .inr (11, [.ref q5, .null, .null, .null, .null, .null, .null, .null, .null, .null, .null, .int 0, .int 0])), (q16, .inr (4, [.null, .null, .null, .int 0, .int 0, .int 0, .int 0, .int 0, .int 0, .int 0, .int 0]))] H := hP
  have hD : va_D A [(h0, .inr (11, [.ref q5, .null, .null, .null, .null, .null, .null, .null, .null, .null, .null, .int 0, .int 0])), (q16, .inr (4, [.null, .null, .null, .int 0, .int 0, .int 0, .int 0, .int 0, .int 0, .int 0, .int 0]))] := hD
  refine lv_dup hx hb dX11_init_19 rfl ?_
  have hPc := hP.sub (ws' := [(q16, .inr (4, [.null, .null, .null, .int 0, .int 0, .int 0, .int 0, .int 0, .int 0, .int 0, .int 0]))]) [1] rfl
  have hDc := hD.sub (ws' := [(q16, .inr (4, [.null, .null, .null, .int 0, .int 0, .int 0, .int 0, .int 0, .int 0, .int 0, .int 0]))]) [1] (by decide) rfl
  have hKc := hK.sub (tys' := []) [] rfl
  have hFc := va_free (wc := [(q16, .inr (4, [.null, .null, .null, .int 0, .int 0, .int 0, .int 0, .int 0, .int 0, .int 0, .int 0]))]) hD hS hA [1] rfl
  refine va_callv (va_runIN (As := []) (rest := [.ref q16, .ref h0]) ⟨hx, hb, hml, hown, hts⟩ (rf_X4_init l dC dI q16 H.size) ⟨va_cnB (own := RX11) (host := RX11) (index := 18) 0 hts gX11_init_X4_init_n18 rfl rfl rfl (hN _ (by decide +kernel)) (hts (.initialized RX4) (mR_wsR_own _ (List.mem_of_getElem? (i := 8) rfl))) (by decide +kernel) ⟨Nat.le_of_ble_eq_true rfl, Nat.le_of_ble_eq_true rfl⟩, rfl, hts (.instanceMethod yX4_init) (mR_wsR_own _ (List.mem_of_getElem? (i := 45) rfl))⟩ ⟨rf_blind, fun U hU hW => ⟨rfl, by rw [hU], by rw [hU]; exact hPc, va_K.moved hW.alike hKc, hDc.weaken (fun _ _ _ _ => trivial), rf_nz_warm hW hN⟩⟩ rfl rfl hl.1 rfl (lv_room (Nat.le_of_ble_eq_true rfl)) dX11_init_20 ⟨Nat.le_of_ble_eq_true rfl, Nat.le_of_ble_eq_true rfl⟩) hS (fun q _ h => hFc q h) hFc (fun u t H1 locs ht hvm hw hB hz1 hk1 hS => ?_)
  refine W.widen (k := 10) (n := 549) (Nat.le_of_ble_eq_true rfl) (Nat.le_of_ble_eq_true rfl) ?_
  obtain ⟨hP1, hK1, hD1⟩ := hB
  rw [ht] at hP1
  have hK1 := va_K.moved hvm.symm hK1
  have hP1 := hP1.sub (ws' := []) [] rfl
  have hD1 := hD1.sub (ws' := []) [] (by decide) rfl
  obtain ⟨hP, hD⟩ := va_join (wr := [(h0, .inr (11, [.ref q5, .null, .null, .null, .null, .null, .null, .null, .null, .null, .null, .int 0, .int 0]))]) (w1 := []) hP hD [1] [0] rfl rfl (by decide) (by decide) hk1 hFc hP1 hD1
  generalize H1 = H at hP hS ⊢
  have hP : va_P (dC, dI) vwCl [(h0, .inr (11, [.ref q5, .null, .null, .null, .null, .null, .null, .null, .null, .null, .null, .int 0, .int 0]))] H := hP
  have hD : va_D A [(h0, .inr (11, [.ref q5, .null, .null, .null, .null, .null, .null, .null, .null, .null, .null, .int 0, .int 0]))] := hD
  refine va_putF (D := (dC, dI)) (ci := 11) (v := .ref q16) (ty := .object "EachSeesOne$Plan") (C := RX11) (T := TX11) (N := 13) hx hb hts mR_wsX110 tyX11 tyX11_ok nmX11 hown hK hP hD hS 0 rfl rfl 1 (by decide) (hts (.fieldLink RX11 19 "EachSeesOne" "plan" "LEachSeesOne$Plan;") (mR_wsR_own _ (List.mem_of_getElem? (i := 34) rfl))) (fun _ h9 => h9) rfl hin rfl (by decide +kernel) rfl rfl (Nat.le_of_ble_eq_true rfl) dX11_init_23 (fun H locs hP hD hS => ?_)
  have hP : va_P (dC, dI) vwCl [(h0, .inr (11, [.ref q5, .ref q16, .null, .null, .null, .null, .null, .null, .null, .null, .null, .int 0, .int 0]))] H := hP
  have hD : va_D A [(h0, .inr (11, [.ref q5, .ref q16, .null, .null, .null, .null, .null, .null, .null, .null, .null, .int 0, .int 0]))] := hD
  refine lv_aload_n hx hb dX11_init_26 rfl (lv_at hl 0 rfl) ?_
  refine va_new (ci := 5) (fs := [.null]) (C := RX5) (T := TX5) (N := 1) hx hb hts mR_wsX50 tyX5 tyX5_ok hown (hts (.classLink RX11 23 RX5) (mR_wsR_own _ (List.mem_of_getElem? (i := 9) rfl))) (hts (.instantiable RX5 1) (mR_wsR_own _ (List.mem_of_getElem? (i := 10) rfl))) (hts (.initialized RX5) (mR_wsR_own _ (List.mem_of_getElem? (i := 11) rfl))) hK hP hD hS hA rfl (fun j hj => by rcases (show j = 0 by omega) with rfl <;> rfl) (Nat.le_of_ble_eq_true rfl) (Nat.le_of_ble_eq_true rfl) dX11_init_27 (fun q27 H hP hD hS => ?_)
  refine W.widen (k := 11) (n := 550) (Nat.le_of_ble_eq_true rfl) (Nat.le_of_ble_eq_true rfl) ?_
  have hP : va_P (dC, dI) vwCl [(h0, .inr (11, [.ref q5, .ref q16, .null, .null, .null, .null, .null, .null, .null, .null, .null, .int 0, .int 0])), (q27, .inr (5, [.null]))] H := hP
  have hD : va_D A [(h0, .inr (11, [.ref q5, .ref q16, .null, .null, .null, .null, .null, .null, .null, .null, .null, .int 0, .int 0])), (q27, .inr (5, [.null]))] := hD
  refine lv_dup hx hb dX11_init_30 rfl ?_
  have hPc := hP.sub (ws' := [(q27, .inr (5, [.null]))]) [1] rfl
  have hDc := hD.sub (ws' := [(q27, .inr (5, [.null]))]) [1] (by decide) rfl
  have hKc := hK.sub (tys' := []) [] rfl
  have hFc := va_free (wc := [(q27, .inr (5, [.null]))]) hD hS hA [1] rfl
  refine va_callv (va_runIN (As := []) (rest := [.ref q27, .ref h0]) ⟨hx, hb, hml, hown, hts⟩ (rf_X5_init l dC dI q27 H.size) ⟨va_cnB (own := RX11) (host := RX11) (index := 25) 0 hts gX11_init_X5_init_n25 rfl rfl rfl (hN _ (by decide +kernel)) (hts (.initialized RX5) (mR_wsR_own _ (List.mem_of_getElem? (i := 11) rfl))) (by decide +kernel) ⟨Nat.le_of_ble_eq_true rfl, Nat.le_of_ble_eq_true rfl⟩, rfl, hts (.instanceMethod yX5_init) (mR_wsR_own _ (List.mem_of_getElem? (i := 46) rfl))⟩ ⟨rf_blind, fun U hU hW => ⟨rfl, by rw [hU], by rw [hU]; exact hPc, va_K.moved hW.alike hKc, hDc.weaken (fun _ _ _ _ => trivial), rf_nz_warm hW hN⟩⟩ rfl rfl hl.1 rfl (lv_room (Nat.le_of_ble_eq_true rfl)) dX11_init_31 ⟨Nat.le_of_ble_eq_true rfl, Nat.le_of_ble_eq_true rfl⟩) hS (fun q _ h => hFc q h) hFc (fun u t H1 locs ht hvm hw hB hz1 hk1 hS => ?_)
  refine W.widen (k := 13) (n := 554) (Nat.le_of_ble_eq_true rfl) (Nat.le_of_ble_eq_true rfl) ?_
  obtain ⟨hP1, hK1, hD1⟩ := hB
  rw [ht] at hP1
  have hK1 := va_K.moved hvm.symm hK1
  have hP1 := hP1.sub (ws' := []) [] rfl
  have hD1 := hD1.sub (ws' := []) [] (by decide) rfl
  obtain ⟨hP, hD⟩ := va_join (wr := [(h0, .inr (11, [.ref q5, .ref q16, .null, .null, .null, .null, .null, .null, .null, .null, .null, .int 0, .int 0]))]) (w1 := []) hP hD [1] [0] rfl rfl (by decide) (by decide) hk1 hFc hP1 hD1
  generalize H1 = H at hP hS ⊢
  have hP : va_P (dC, dI) vwCl [(h0, .inr (11, [.ref q5, .ref q16, .null, .null, .null, .null, .null, .null, .null, .null, .null, .int 0, .int 0]))] H := hP
  have hD : va_D A [(h0, .inr (11, [.ref q5, .ref q16, .null, .null, .null, .null, .null, .null, .null, .null, .null, .int 0, .int 0]))] := hD
  refine va_putF (D := (dC, dI)) (ci := 11) (v := .ref q27) (ty := .object "EachSeesOne$Reader") (C := RX11) (T := TX11) (N := 13) hx hb hts mR_wsX110 tyX11 tyX11_ok nmX11 hown hK hP hD hS 0 rfl rfl 2 (by decide) (hts (.fieldLink RX11 26 "EachSeesOne" "reader" "LEachSeesOne$Reader;") (mR_wsR_own _ (List.mem_of_getElem? (i := 35) rfl))) (fun _ h9 => h9) rfl hin rfl (by decide +kernel) rfl rfl (Nat.le_of_ble_eq_true rfl) dX11_init_34 (fun H locs hP hD hS => ?_)
  have hP : va_P (dC, dI) vwCl [(h0, .inr (11, [.ref q5, .ref q16, .ref q27, .null, .null, .null, .null, .null, .null, .null, .null, .int 0, .int 0]))] H := hP
  have hD : va_D A [(h0, .inr (11, [.ref q5, .ref q16, .ref q27, .null, .null, .null, .null, .null, .null, .null, .null, .int 0, .int 0]))] := hD
  refine lv_aload_n hx hb dX11_init_37 rfl (lv_at hl 0 rfl) ?_
  refine va_new (ci := 10) (fs := [.null, .null, .null, .int 0, .int 0, .int 0, .int 0, .int 0, .int 0]) (C := RX10) (T := TX10) (N := 9) hx hb hts mR_wsX100 tyX10 tyX10_ok hown (hts (.classLink RX11 30 RX10) (mR_wsR_own _ (List.mem_of_getElem? (i := 12) rfl))) (hts (.instantiable RX10 9) (mR_wsR_own _ (List.mem_of_getElem? (i := 13) rfl))) (hts (.initialized RX10) (mR_wsR_own _ (List.mem_of_getElem? (i := 14) rfl))) hK hP hD hS hA rfl (fun j hj => by rcases (show j = 0 ∨ j = 1 ∨ j = 2 ∨ j = 3 ∨ j = 4 ∨ j = 5 ∨ j = 6 ∨ j = 7 ∨ j = 8 by omega) with rfl | rfl | rfl | rfl | rfl | rfl | rfl | rfl | rfl <;> rfl) (Nat.le_of_ble_eq_true rfl) (Nat.le_of_ble_eq_true rfl) dX11_init_38 (fun q38 H hP hD hS => ?_)
  refine W.widen (k := 14) (n := 563) (Nat.le_of_ble_eq_true rfl) (Nat.le_of_ble_eq_true rfl) ?_
  have hP : va_P (dC, dI) vwCl [(h0, .inr (11, [.ref q5, .ref q16, .ref q27, .null, .null, .null, .null, .null, .null, .null, .null, .int 0, .int 0])), (q38, .inr (10, [.null, .null, .null, .int 0, .int 0, .int 0, .int 0, .int 0, .int 0]))] H := hP
  have hD : va_D A [(h0, .inr (11, [.ref q5, .ref q16, .ref q27, .null, .null, .null, .null, .null, .null, .null, .null, .int 0, .int 0])), (q38, .inr (10, [.null, .null, .null, .int 0, .int 0, .int 0, .int 0, .int 0, .int 0]))] := hD
  refine lv_dup hx hb dX11_init_41 rfl ?_
  have hPc := hP.sub (ws' := [(q38, .inr (10, [.null, .null, .null, .int 0, .int 0, .int 0, .int 0, .int 0, .int 0]))]) [1] rfl
  have hDc := hD.sub (ws' := [(q38, .inr (10, [.null, .null, .null, .int 0, .int 0, .int 0, .int 0, .int 0, .int 0]))]) [1] (by decide) rfl
  have hKc := hK.sub (tys' := []) [] rfl
  have hFc := va_free (wc := [(q38, .inr (10, [.null, .null, .null, .int 0, .int 0, .int 0, .int 0, .int 0, .int 0]))]) hD hS hA [1] rfl
  refine va_callv (va_runIN (As := []) (rest := [.ref q38, .ref h0]) ⟨hx, hb, hml, hown, hts⟩ (rf_X10_init l dC dI q38 H.size) ⟨va_cnB (own := RX11) (host := RX11) (index := 32) 0 hts gX11_init_X10_init_n32 rfl rfl rfl (hN _ (by decide +kernel)) (hts (.initialized RX10) (mR_wsR_own _ (List.mem_of_getElem? (i := 14) rfl))) (by decide +kernel) ⟨Nat.le_of_ble_eq_true rfl, Nat.le_of_ble_eq_true rfl⟩, rfl, hts (.instanceMethod yX10_init) (mR_wsR_own _ (List.mem_of_getElem? (i := 47) rfl))⟩ ⟨rf_blind, fun U hU hW => ⟨rfl, by rw [hU], by rw [hU]; exact hPc, va_K.moved hW.alike hKc, hDc.weaken (fun _ _ _ _ => trivial), rf_nz_warm hW hN⟩⟩ rfl rfl hl.1 rfl (lv_room (Nat.le_of_ble_eq_true rfl)) dX11_init_42 ⟨Nat.le_of_ble_eq_true rfl, Nat.le_of_ble_eq_true rfl⟩) hS (fun q _ h => hFc q h) hFc (fun u t H1 locs ht hvm hw hB hz1 hk1 hS => ?_)
  refine W.widen (k := 20) (n := 1142) (Nat.le_of_ble_eq_true rfl) (Nat.le_of_ble_eq_true rfl) ?_
  obtain ⟨hP1, hK1, hD1⟩ := hB
  rw [ht] at hP1
  have hK1 := va_K.moved hvm.symm hK1
  have hP1 := hP1.sub (ws' := []) [] rfl
  have hD1 := hD1.sub (ws' := []) [] (by decide) rfl
  obtain ⟨hP, hD⟩ := va_join (wr := [(h0, .inr (11, [.ref q5, .ref q16, .ref q27, .null, .null, .null, .null, .null, .null, .null, .null, .int 0, .int 0]))]) (w1 := []) hP hD [1] [0] rfl rfl (by decide) (by decide) hk1 hFc hP1 hD1
  generalize H1 = H at hP hS ⊢
  have hP : va_P (dC, dI) vwCl [(h0, .inr (11, [.ref q5, .ref q16, .ref q27, .null, .null, .null, .null, .null, .null, .null, .null, .int 0, .int 0]))] H := hP
  have hD : va_D A [(h0, .inr (11, [.ref q5, .ref q16, .ref q27, .null, .null, .null, .null, .null, .null, .null, .null, .int 0, .int 0]))] := hD
  refine va_putF (D := (dC, dI)) (ci := 11) (v := .ref q38) (ty := .object "EachSeesOne$Water") (C := RX11) (T := TX11) (N := 13) hx hb hts mR_wsX110 tyX11 tyX11_ok nmX11 hown hK hP hD hS 0 rfl rfl 3 (by decide) (hts (.fieldLink RX11 33 "EachSeesOne" "water" "LEachSeesOne$Water;") (mR_wsR_own _ (List.mem_of_getElem? (i := 36) rfl))) (fun _ h9 => h9) rfl hin rfl (by decide +kernel) rfl rfl (Nat.le_of_ble_eq_true rfl) dX11_init_45 (fun H locs hP hD hS => ?_)
  have hP : va_P (dC, dI) vwCl [(h0, .inr (11, [.ref q5, .ref q16, .ref q27, .ref q38, .null, .null, .null, .null, .null, .null, .null, .int 0, .int 0]))] H := hP
  have hD : va_D A [(h0, .inr (11, [.ref q5, .ref q16, .ref q27, .ref q38, .null, .null, .null, .null, .null, .null, .null, .int 0, .int 0]))] := hD
  refine lv_aload_n hx hb dX11_init_48 rfl (lv_at hl 0 rfl) ?_
  refine va_new (ci := 1) (fs := [.null, .int 0, .int 0, .int 0, .int 0, .int 0, .int 0]) (C := RX1) (T := TX1) (N := 7) hx hb hts mR_wsX10 tyX1 tyX1_ok hown (hts (.classLink RX11 37 RX1) (mR_wsR_own _ (List.mem_of_getElem? (i := 15) rfl))) (hts (.instantiable RX1 7) (mR_wsR_own _ (List.mem_of_getElem? (i := 16) rfl))) (hts (.initialized RX1) (mR_wsR_own _ (List.mem_of_getElem? (i := 17) rfl))) hK hP hD hS hA rfl (fun j hj => by rcases (show j = 0 ∨ j = 1 ∨ j = 2 ∨ j = 3 ∨ j = 4 ∨ j = 5 ∨ j = 6 by omega) with rfl | rfl | rfl | rfl | rfl | rfl | rfl <;> rfl) (Nat.le_of_ble_eq_true rfl) (Nat.le_of_ble_eq_true rfl) dX11_init_49 (fun q49 H hP hD hS => ?_)
  refine W.widen (k := 21) (n := 1149) (Nat.le_of_ble_eq_true rfl) (Nat.le_of_ble_eq_true rfl) ?_
  have hP : va_P (dC, dI) vwCl [(h0, .inr (11, [.ref q5, .ref q16, .ref q27, .ref q38, .null, .null, .null, .null, .null, .null, .null, .int 0, .int 0])), (q49, .inr (1, [.null, .int 0, .int 0, .int 0, .int 0, .int 0, .int 0]))] H := hP
  have hD : va_D A [(h0, .inr (11, [.ref q5, .ref q16, .ref q27, .ref q38, .null, .null, .null, .null, .null, .null, .null, .int 0, .int 0])), (q49, .inr (1, [.null, .int 0, .int 0, .int 0, .int 0, .int 0, .int 0]))] := hD
  refine lv_dup hx hb dX11_init_52 rfl ?_
  have hPc := hP.sub (ws' := [(q49, .inr (1, [.null, .int 0, .int 0, .int 0, .int 0, .int 0, .int 0]))]) [1] rfl
  have hDc := hD.sub (ws' := [(q49, .inr (1, [.null, .int 0, .int 0, .int 0, .int 0, .int 0, .int 0]))]) [1] (by decide) rfl
  have hKc := hK.sub (tys' := []) [] rfl
  have hFc := va_free (wc := [(q49, .inr (1, [.null, .int 0, .int 0, .int 0, .int 0, .int 0, .int 0]))]) hD hS hA [1] rfl
  refine va_callv (va_runIN (As := []) (rest := [.ref q49, .ref h0]) ⟨hx, hb, hml, hown, hts⟩ (rf_X1_init l dC dI q49 H.size) ⟨va_cnB (own := RX11) (host := RX11) (index := 39) 0 hts gX11_init_X1_init_n39 rfl rfl rfl (hN _ (by decide +kernel)) (hts (.initialized RX1) (mR_wsR_own _ (List.mem_of_getElem? (i := 17) rfl))) (by decide +kernel) ⟨Nat.le_of_ble_eq_true rfl, Nat.le_of_ble_eq_true rfl⟩, rfl, hts (.instanceMethod yX1_init) (mR_wsR_own _ (List.mem_of_getElem? (i := 48) rfl))⟩ ⟨rf_blind, fun U hU hW => ⟨rfl, by rw [hU], by rw [hU]; exact hPc, va_K.moved hW.alike hKc, hDc.weaken (fun _ _ _ _ => trivial), rf_nz_warm hW hN⟩⟩ rfl rfl hl.1 rfl (lv_room (Nat.le_of_ble_eq_true rfl)) dX11_init_53 ⟨Nat.le_of_ble_eq_true rfl, Nat.le_of_ble_eq_true rfl⟩) hS (fun q _ h => hFc q h) hFc (fun u t H1 locs ht hvm hw hB hz1 hk1 hS => ?_)
  refine W.widen (k := 23) (n := 1154) (Nat.le_of_ble_eq_true rfl) (Nat.le_of_ble_eq_true rfl) ?_
  obtain ⟨hP1, hK1, hD1⟩ := hB
  rw [ht] at hP1
  have hK1 := va_K.moved hvm.symm hK1
  have hP1 := hP1.sub (ws' := []) [] rfl
  have hD1 := hD1.sub (ws' := []) [] (by decide) rfl
  obtain ⟨hP, hD⟩ := va_join (wr := [(h0, .inr (11, [.ref q5, .ref q16, .ref q27, .ref q38, .null, .null, .null, .null, .null, .null, .null, .int 0, .int 0]))]) (w1 := []) hP hD [1] [0] rfl rfl (by decide) (by decide) hk1 hFc hP1 hD1
  generalize H1 = H at hP hS ⊢
  have hP : va_P (dC, dI) vwCl [(h0, .inr (11, [.ref q5, .ref q16, .ref q27, .ref q38, .null, .null, .null, .null, .null, .null, .null, .int 0, .int 0]))] H := hP
  have hD : va_D A [(h0, .inr (11, [.ref q5, .ref q16, .ref q27, .ref q38, .null, .null, .null, .null, .null, .null, .null, .int 0, .int 0]))] := hD
  refine va_putF (D := (dC, dI)) (ci := 11) (v := .ref q49) (ty := .object "EachSeesOne$Crew") (C := RX11) (T := TX11) (N := 13) hx hb hts mR_wsX110 tyX11 tyX11_ok nmX11 hown hK hP hD hS 0 rfl rfl 4 (by decide) (hts (.fieldLink RX11 40 "EachSeesOne" "crew" "LEachSeesOne$Crew;") (mR_wsR_own _ (List.mem_of_getElem? (i := 37) rfl))) (fun _ h9 => h9) rfl hin rfl (by decide +kernel) rfl rfl (Nat.le_of_ble_eq_true rfl) dX11_init_56 (fun H locs hP hD hS => ?_)
  have hP : va_P (dC, dI) vwCl [(h0, .inr (11, [.ref q5, .ref q16, .ref q27, .ref q38, .ref q49, .null, .null, .null, .null, .null, .null, .int 0, .int 0]))] H := hP
  have hD : va_D A [(h0, .inr (11, [.ref q5, .ref q16, .ref q27, .ref q38, .ref q49, .null, .null, .null, .null, .null, .null, .int 0, .int 0]))] := hD
  refine lv_aload_n hx hb dX11_init_59 rfl (lv_at hl 0 rfl) ?_
  refine va_new (ci := 0) (fs := [.int 0, .int 0, .int 0, .int 0, .int 0]) (C := RX0) (T := TX0) (N := 5) hx hb hts mR_wsX00 tyX0 tyX0_ok hown (hts (.classLink RX11 44 RX0) (mR_wsR_own _ (List.mem_of_getElem? (i := 18) rfl))) (hts (.instantiable RX0 5) (mR_wsR_own _ (List.mem_of_getElem? (i := 19) rfl))) (hts (.initialized RX0) (mR_wsR_own _ (List.mem_of_getElem? (i := 20) rfl))) hK hP hD hS hA rfl (fun j hj => by rcases (show j = 0 ∨ j = 1 ∨ j = 2 ∨ j = 3 ∨ j = 4 by omega) with rfl | rfl | rfl | rfl | rfl <;> rfl) (Nat.le_of_ble_eq_true rfl) (Nat.le_of_ble_eq_true rfl) dX11_init_60 (fun q60 H hP hD hS => ?_)
  refine W.widen (k := 24) (n := 1159) (Nat.le_of_ble_eq_true rfl) (Nat.le_of_ble_eq_true rfl) ?_
  have hP : va_P (dC, dI) vwCl [(h0, .inr (11, [.ref q5, .ref q16, .ref q27, .ref q38, .ref q49, .null, .null, .null, .null, .null, .null, .int 0, .int 0])), (q60, .inr (0, [.int 0, .int 0, .int 0, .int 0, .int 0]))] H := hP
  have hD : va_D A [(h0, .inr (11, [.ref q5, .ref q16, .ref q27, .ref q38, .ref q49, .null, .null, .null, .null, .null, .null, .int 0, .int 0])), (q60, .inr (0, [.int 0, .int 0, .int 0, .int 0, .int 0]))] := hD
  refine lv_dup hx hb dX11_init_63 rfl ?_
  have hPc := hP.sub (ws' := [(q60, .inr (0, [.int 0, .int 0, .int 0, .int 0, .int 0]))]) [1] rfl
  have hDc := hD.sub (ws' := [(q60, .inr (0, [.int 0, .int 0, .int 0, .int 0, .int 0]))]) [1] (by decide) rfl
  have hKc := hK.sub (tys' := []) [] rfl
  have hFc := va_free (wc := [(q60, .inr (0, [.int 0, .int 0, .int 0, .int 0, .int 0]))]) hD hS hA [1] rfl
  refine va_callv (va_runIN (As := []) (rest := [.ref q60, .ref h0]) ⟨hx, hb, hml, hown, hts⟩ (rf_X0_init l dC dI q60 H.size) ⟨va_cnB (own := RX11) (host := RX11) (index := 46) 0 hts gX11_init_X0_init_n46 rfl rfl rfl (hN _ (by decide +kernel)) (hts (.initialized RX0) (mR_wsR_own _ (List.mem_of_getElem? (i := 20) rfl))) (by decide +kernel) ⟨Nat.le_of_ble_eq_true rfl, Nat.le_of_ble_eq_true rfl⟩, rfl, hts (.instanceMethod yX0_init) (mR_wsR_own _ (List.mem_of_getElem? (i := 49) rfl))⟩ ⟨rf_blind, fun U hU hW => ⟨rfl, by rw [hU], by rw [hU]; exact hPc, va_K.moved hW.alike hKc, hDc.weaken (fun _ _ _ _ => trivial), rf_nz_warm hW hN⟩⟩ rfl rfl hl.1 rfl (lv_room (Nat.le_of_ble_eq_true rfl)) dX11_init_64 ⟨Nat.le_of_ble_eq_true rfl, Nat.le_of_ble_eq_true rfl⟩) hS (fun q _ h => hFc q h) hFc (fun u t H1 locs ht hvm hw hB hz1 hk1 hS => ?_)
  refine W.widen (k := 24) (n := 1159) (Nat.le_of_ble_eq_true rfl) (Nat.le_of_ble_eq_true rfl) ?_
  obtain ⟨hP1, hK1, hD1⟩ := hB
  rw [ht] at hP1
  have hK1 := va_K.moved hvm.symm hK1
  have hP1 := hP1.sub (ws' := []) [] rfl
  have hD1 := hD1.sub (ws' := []) [] (by decide) rfl
  obtain ⟨hP, hD⟩ := va_join (wr := [(h0, .inr (11, [.ref q5, .ref q16, .ref q27, .ref q38, .ref q49, .null, .null, .null, .null, .null, .null, .int 0, .int 0]))]) (w1 := []) hP hD [1] [0] rfl rfl (by decide) (by decide) hk1 hFc hP1 hD1
  generalize H1 = H at hP hS ⊢
  have hP : va_P (dC, dI) vwCl [(h0, .inr (11, [.ref q5, .ref q16, .ref q27, .ref q38, .ref q49, .null, .null, .null, .null, .null, .null, .int 0, .int 0]))] H := hP
  have hD : va_D A [(h0, .inr (11, [.ref q5, .ref q16, .ref q27, .ref q38, .ref q49, .null, .null, .null, .null, .null, .null, .int 0, .int 0]))] := hD
  refine va_putF (D := (dC, dI)) (ci := 11) (v := .ref q60) (ty := .object "EachSeesOne$Boat") (C := RX11) (T := TX11) (N := 13) hx hb hts mR_wsX110 tyX11 tyX11_ok nmX11 hown hK hP hD hS 0 rfl rfl 5 (by decide) (hts (.fieldLink RX11 47 "EachSeesOne" "theBarge" "LEachSeesOne$Boat;") (mR_wsR_own _ (List.mem_of_getElem? (i := 38) rfl))) (fun _ h9 => h9) rfl hin rfl (by decide +kernel) rfl rfl (Nat.le_of_ble_eq_true rfl) dX11_init_67 (fun H locs hP hD hS => ?_)
  have hP : va_P (dC, dI) vwCl [(h0, .inr (11, [.ref q5, .ref q16, .ref q27, .ref q38, .ref q49, .ref q60, .null, .null, .null, .null, .null, .int 0, .int 0]))] H := hP
  have hD : va_D A [(h0, .inr (11, [.ref q5, .ref q16, .ref q27, .ref q38, .ref q49, .ref q60, .null, .null, .null, .null, .null, .int 0, .int 0]))] := hD
  refine lv_aload_n hx hb dX11_init_70 rfl (lv_at hl 0 rfl) ?_
  refine va_new (ci := 9) (fs := [.null, .null, .null, .null]) (C := RX9) (T := TX9) (N := 4) hx hb hts mR_wsX90 tyX9 tyX9_ok hown (hts (.classLink RX11 51 RX9) (mR_wsR_own _ (List.mem_of_getElem? (i := 21) rfl))) (hts (.instantiable RX9 4) (mR_wsR_own _ (List.mem_of_getElem? (i := 22) rfl))) (hts (.initialized RX9) (mR_wsR_own _ (List.mem_of_getElem? (i := 23) rfl))) hK hP hD hS hA rfl (fun j hj => by rcases (show j = 0 ∨ j = 1 ∨ j = 2 ∨ j = 3 by omega) with rfl | rfl | rfl | rfl <;> rfl) (Nat.le_of_ble_eq_true rfl) (Nat.le_of_ble_eq_true rfl) dX11_init_71 (fun q71 H hP hD hS => ?_)
  refine W.widen (k := 25) (n := 1163) (Nat.le_of_ble_eq_true rfl) (Nat.le_of_ble_eq_true rfl) ?_
  have hP : va_P (dC, dI) vwCl [(h0, .inr (11, [.ref q5, .ref q16, .ref q27, .ref q38, .ref q49, .ref q60, .null, .null, .null, .null, .null, .int 0, .int 0])), (q71, .inr (9, [.null, .null, .null, .null]))] H := hP
  have hD : va_D A [(h0, .inr (11, [.ref q5, .ref q16, .ref q27, .ref q38, .ref q49, .ref q60, .null, .null, .null, .null, .null, .int 0, .int 0])), (q71, .inr (9, [.null, .null, .null, .null]))] := hD
  refine lv_dup hx hb dX11_init_74 rfl ?_
  refine lv_aload_n hx hb dX11_init_75 rfl (lv_at hl 0 rfl) ?_
  refine va_get (D := (dC, dI)) (ci := 11) (v := .ref q38) (C := RX11) (T := TX11) (N := 13) hx hb hts mR_wsX110 hown hK hP 0 rfl rfl 3 (by decide) (hts (.fieldLink RX11 33 "EachSeesOne" "water" "LEachSeesOne$Water;") (mR_wsR_own _ (List.mem_of_getElem? (i := 36) rfl))) (fun _ h9 => h9) rfl dX11_init_76 ?_
  refine lv_aload_n hx hb dX11_init_79 rfl (lv_at hl 0 rfl) ?_
  refine va_get (D := (dC, dI)) (ci := 11) (v := .ref q49) (C := RX11) (T := TX11) (N := 13) hx hb hts mR_wsX110 hown hK hP 0 rfl rfl 4 (by decide) (hts (.fieldLink RX11 40 "EachSeesOne" "crew" "LEachSeesOne$Crew;") (mR_wsR_own _ (List.mem_of_getElem? (i := 37) rfl))) (fun _ h9 => h9) rfl dX11_init_80 ?_
  have hPc := hP.sub (ws' := [(q71, .inr (9, [.null, .null, .null, .null]))]) [1] rfl
  have hDc := hD.sub (ws' := [(q71, .inr (9, [.null, .null, .null, .null]))]) [1] (by decide) rfl
  have hKc := hK.sub (tys' := []) [] rfl
  have hFc := va_free (wc := [(q71, .inr (9, [.null, .null, .null, .null]))]) hD hS hA [1] rfl
  refine va_callv (va_runI (As := [.ref q38, .ref q49]) (rest := [.ref q71, .ref h0]) ⟨hx, hb, hml, hown, hts⟩ (rf_X9_init l dC dI q71 H.size q38 q49) (cwI 2 hts gX11_init_X9_init rfl rfl rfl (hts (.initialized RX9) (mR_wsR_own _ (List.mem_of_getElem? (i := 23) rfl))) (hts (.methodLink RX11 53 yX9_init) (mR_wsR_own _ (List.mem_of_getElem? (i := 50) rfl))) (hts (.instanceMethod yX9_init) (mR_wsR_own _ (List.mem_of_getElem? (i := 51) rfl))) rfl (by decide +kernel) ⟨Nat.le_of_ble_eq_true rfl, Nat.le_of_ble_eq_true rfl⟩) ⟨rf_blind, fun U hU hW => ⟨rfl, by rw [hU], by rw [hU]; exact hPc, va_K.moved hW.alike hKc, hDc.weaken (fun _ _ _ _ => trivial), rf_nz_warm hW hN⟩⟩ rfl rfl hl.1 rfl (lv_room (Nat.le_of_ble_eq_true rfl)) dX11_init_83 ⟨Nat.le_of_ble_eq_true rfl, Nat.le_of_ble_eq_true rfl⟩) hS (fun q _ h => hFc q h) hFc (fun u t H1 locs ht hvm hw hB hz1 hk1 hS => ?_)
  refine W.widen (k := 28) (n := 1189) (Nat.le_of_ble_eq_true rfl) (Nat.le_of_ble_eq_true rfl) ?_
  obtain ⟨hP1, hK1, hD1⟩ := hB
  rw [ht] at hP1
  have hK1 := va_K.moved hvm.symm hK1
  have hP1 := hP1.sub (ws' := []) [] rfl
  have hD1 := hD1.sub (ws' := []) [] (by decide) rfl
  obtain ⟨hP, hD⟩ := va_join (wr := [(h0, .inr (11, [.ref q5, .ref q16, .ref q27, .ref q38, .ref q49, .ref q60, .null, .null, .null, .null, .null, .int 0, .int 0]))]) (w1 := []) hP hD [1] [0] rfl rfl (by decide) (by decide) hk1 hFc hP1 hD1
  generalize H1 = H at hP hS ⊢
  have hP : va_P (dC, dI) vwCl [(h0, .inr (11, [.ref q5, .ref q16, .ref q27, .ref q38, .ref q49, .ref q60, .null, .null, .null, .null, .null, .int 0, .int 0]))] H := hP
  have hD : va_D A [(h0, .inr (11, [.ref q5, .ref q16, .ref q27, .ref q38, .ref q49, .ref q60, .null, .null, .null, .null, .null, .int 0, .int 0]))] := hD
  refine va_putF (D := (dC, dI)) (ci := 11) (v := .ref q71) (ty := .object "EachSeesOne$Trial") (C := RX11) (T := TX11) (N := 13) hx hb hts mR_wsX110 tyX11 tyX11_ok nmX11 hown hK hP hD hS 0 rfl rfl 6 (by decide) (hts (.fieldLink RX11 56 "EachSeesOne" "trial" "LEachSeesOne$Trial;") (mR_wsR_own _ (List.mem_of_getElem? (i := 39) rfl))) (fun _ h9 => h9) rfl hin rfl (by decide +kernel) rfl rfl (Nat.le_of_ble_eq_true rfl) dX11_init_86 (fun H locs hP hD hS => ?_)
  have hP : va_P (dC, dI) vwCl [(h0, .inr (11, [.ref q5, .ref q16, .ref q27, .ref q38, .ref q49, .ref q60, .ref q71, .null, .null, .null, .null, .int 0, .int 0]))] H := hP
  have hD : va_D A [(h0, .inr (11, [.ref q5, .ref q16, .ref q27, .ref q38, .ref q49, .ref q60, .ref q71, .null, .null, .null, .null, .int 0, .int 0]))] := hD
  refine lv_aload_n hx hb dX11_init_89 rfl (lv_at hl 0 rfl) ?_
  refine va_new (ci := 2) (fs := [.null, .null, .null, .null, .int 0, .int 0, .int 0, .int 0, .int 0]) (C := RX2) (T := TX2) (N := 9) hx hb hts mR_wsX20 tyX2 tyX2_ok hown (hts (.classLink RX11 60 RX2) (mR_wsR_own _ (List.mem_of_getElem? (i := 24) rfl))) (hts (.instantiable RX2 9) (mR_wsR_own _ (List.mem_of_getElem? (i := 25) rfl))) (hts (.initialized RX2) (mR_wsR_own _ (List.mem_of_getElem? (i := 26) rfl))) hK hP hD hS hA rfl (fun j hj => by rcases (show j = 0 ∨ j = 1 ∨ j = 2 ∨ j = 3 ∨ j = 4 ∨ j = 5 ∨ j = 6 ∨ j = 7 ∨ j = 8 by omega) with rfl | rfl | rfl | rfl | rfl | rfl | rfl | rfl | rfl <;> rfl) (Nat.le_of_ble_eq_true rfl) (Nat.le_of_ble_eq_true rfl) dX11_init_90 (fun q90 H hP hD hS => ?_)
  refine W.widen (k := 29) (n := 1198) (Nat.le_of_ble_eq_true rfl) (Nat.le_of_ble_eq_true rfl) ?_
  have hP : va_P (dC, dI) vwCl [(h0, .inr (11, [.ref q5, .ref q16, .ref q27, .ref q38, .ref q49, .ref q60, .ref q71, .null, .null, .null, .null, .int 0, .int 0])), (q90, .inr (2, [.null, .null, .null, .null, .int 0, .int 0, .int 0, .int 0, .int 0]))] H := hP
  have hD : va_D A [(h0, .inr (11, [.ref q5, .ref q16, .ref q27, .ref q38, .ref q49, .ref q60, .ref q71, .null, .null, .null, .null, .int 0, .int 0])), (q90, .inr (2, [.null, .null, .null, .null, .int 0, .int 0, .int 0, .int 0, .int 0]))] := hD
  refine lv_dup hx hb dX11_init_93 rfl ?_
  refine lv_aload_n hx hb dX11_init_94 rfl (lv_at hl 0 rfl) ?_
  refine va_get (D := (dC, dI)) (ci := 11) (v := .ref q38) (C := RX11) (T := TX11) (N := 13) hx hb hts mR_wsX110 hown hK hP 0 rfl rfl 3 (by decide) (hts (.fieldLink RX11 33 "EachSeesOne" "water" "LEachSeesOne$Water;") (mR_wsR_own _ (List.mem_of_getElem? (i := 36) rfl))) (fun _ h9 => h9) rfl dX11_init_95 ?_
  refine lv_aload_n hx hb dX11_init_98 rfl (lv_at hl 0 rfl) ?_
  refine va_get (D := (dC, dI)) (ci := 11) (v := .ref q49) (C := RX11) (T := TX11) (N := 13) hx hb hts mR_wsX110 hown hK hP 0 rfl rfl 4 (by decide) (hts (.fieldLink RX11 40 "EachSeesOne" "crew" "LEachSeesOne$Crew;") (mR_wsR_own _ (List.mem_of_getElem? (i := 37) rfl))) (fun _ h9 => h9) rfl dX11_init_99 ?_
  have hPc := hP.sub (ws' := [(q90, .inr (2, [.null, .null, .null, .null, .int 0, .int 0, .int 0, .int 0, .int 0]))]) [1] rfl
  have hDc := hD.sub (ws' := [(q90, .inr (2, [.null, .null, .null, .null, .int 0, .int 0, .int 0, .int 0, .int 0]))]) [1] (by decide) rfl
  have hKc := hK.sub (tys' := []) [] rfl
  have hFc := va_free (wc := [(q90, .inr (2, [.null, .null, .null, .null, .int 0, .int 0, .int 0, .int 0, .int 0]))]) hD hS hA [1] rfl
  refine va_callv (va_runI (As := [.ref q38, .ref q49]) (rest := [.ref q90, .ref h0]) ⟨hx, hb, hml, hown, hts⟩ (rf_X2_init l dC dI q90 H.size q38 q49) (cwI 2 hts gX11_init_X2_init rfl rfl rfl (hts (.initialized RX2) (mR_wsR_own _ (List.mem_of_getElem? (i := 26) rfl))) (hts (.methodLink RX11 62 yX2_init) (mR_wsR_own _ (List.mem_of_getElem? (i := 52) rfl))) (hts (.instanceMethod yX2_init) (mR_wsR_own _ (List.mem_of_getElem? (i := 53) rfl))) rfl (by decide +kernel) ⟨Nat.le_of_ble_eq_true rfl, Nat.le_of_ble_eq_true rfl⟩) ⟨rf_blind, fun U hU hW => ⟨rfl, by rw [hU], by rw [hU]; exact hPc, va_K.moved hW.alike hKc, hDc.weaken (fun _ _ _ _ => trivial), rf_nz_warm hW hN⟩⟩ rfl rfl hl.1 rfl (lv_room (Nat.le_of_ble_eq_true rfl)) dX11_init_102 ⟨Nat.le_of_ble_eq_true rfl, Nat.le_of_ble_eq_true rfl⟩) hS (fun q _ h => hFc q h) hFc (fun u t H1 locs ht hvm hw hB hz1 hk1 hS => ?_)
  refine W.widen (k := 38) (n := 9413) (Nat.le_of_ble_eq_true rfl) (Nat.le_of_ble_eq_true rfl) ?_
  obtain ⟨hP1, hK1, hD1⟩ := hB
  rw [ht] at hP1
  have hK1 := va_K.moved hvm.symm hK1
  obtain ⟨r102, cA102⟩ := u
  obtain ⟨hP, hD⟩ := va_join (wr := [(h0, .inr (11, [.ref q5, .ref q16, .ref q27, .ref q38, .ref q49, .ref q60, .ref q71, .null, .null, .null, .null, .int 0, .int 0]))]) (w1 := [(r102, .inl (cA102, (4096, .inl (fun _ => 0))))]) hP hD [1] [0] rfl rfl (by decide) (by decide) hk1 hFc hP1 hD1
  generalize H1 = H at hP hS ⊢
  have hP : va_P (dC, dI) vwCl [(h0, .inr (11, [.ref q5, .ref q16, .ref q27, .ref q38, .ref q49, .ref q60, .ref q71, .null, .null, .null, .null, .int 0, .int 0])), (r102, .inl (cA102, (4096, .inl (fun _ => 0))))] H := hP
  have hD : va_D A [(h0, .inr (11, [.ref q5, .ref q16, .ref q27, .ref q38, .ref q49, .ref q60, .ref q71, .null, .null, .null, .null, .int 0, .int 0])), (r102, .inl (cA102, (4096, .inl (fun _ => 0))))] := hD
  have hAr : s.heap.size ≤ r102 := by
    have h1 : A r102 := hD.2 1 _ rfl
    rw [← hAe] at h1
    rcases h1 with ⟨k, e9, h1⟩ | h1
    · have hk : k < 1 := (List.getElem?_eq_some_iff.mp h1).1
      rw [show k = 0 by omega] at h1
      have he : h0 = r102 := congrArg Prod.fst (Option.some.inj h1)
      exact absurd (hD.1 0 1 _ _ rfl rfl he) (by decide)
    · exact h1
  have hc9 : H[r102]? = some (vp_cell cA102 (4096, .inl (fun _ => 0))) := hP 1 _ rfl
  exact rf_reach hn hbel hAr hc9 (rf_sz cA102 4096 (fun _ => 0))
set_option maxHeartbeats 4000000 in
set_option maxRecDepth 100000 in
theorem rf_law {p : Program} {e : Env} {s : State} {m : MethodId} {below : List Frame} {meth : Method} {c : Code} (l : Launch) {b : Nat} (hx : p.tables.exec = Jvm.exec) (hb : c.code = cL_law) (hml : c.maxLocals = 4) (hown : s.vm.findClass RL = some m.cls) (hts : ∀ w ∈ wsT, w.before #[Value.ref b] s = true) (hN : rf_nz s) : W p l e rf_room s m #[Value.ref b] below meth c s.heap [] 0 0 (rf_G below s.slotsUsed) (entryFrame m ([Value.ref b] : List Value).toArray 4) := by
  have hA : ∀ q : Nat, s.heap.size ≤ q → (fun q : Nat => s.heap.size ≤ q) q := fun _ h => h
  obtain ⟨c0, i0, hKn0⟩ := u_known (C := RX0) (T := TX0) (N := 5) (n := 5) hts inlX0 (hts (.instantiable RX0 5) (by decide +kernel))
  obtain ⟨c1, i1, hKn1⟩ := u_known (C := RX1) (T := TX1) (N := 7) (n := 7) hts inlX1 (hts (.instantiable RX1 7) (by decide +kernel))
  obtain ⟨c2, i2, hKn2⟩ := u_known (C := RX2) (T := TX2) (N := 9) (n := 9) hts inlX2 (hts (.instantiable RX2 9) (by decide +kernel))
  obtain ⟨c3, i3, hKn3⟩ := u_known (C := RX3) (T := TX3) (N := 2) (n := 2) hts inlX3 (hts (.instantiable RX3 2) (by decide +kernel))
  obtain ⟨c4, i4, hKn4⟩ := u_known (C := RX4) (T := TX4) (N := 11) (n := 11) hts inlX4 (hts (.instantiable RX4 11) (by decide +kernel))
  obtain ⟨c5, i5, hKn5⟩ := u_known (C := RX5) (T := TX5) (N := 1) (n := 1) hts inlX5 (hts (.instantiable RX5 1) (by decide +kernel))
  obtain ⟨c6, i6, hKn6⟩ := u_known (C := RX6) (T := TX6) (N := 1) (n := 1) hts inlX6 (hts (.instantiable RX6 1) (by decide +kernel))
  obtain ⟨c7, i7, hKn7⟩ := u_known (C := RX7) (T := TX7) (N := 4) (n := 4) hts inlX7 (hts (.instantiable RX7 4) (by decide +kernel))
  obtain ⟨c8, i8, hKn8⟩ := u_known (C := RX8) (T := TX8) (N := 2) (n := 2) hts inlX8 (hts (.instantiable RX8 2) (by decide +kernel))
  obtain ⟨c9, i9, hKn9⟩ := u_known (C := RX9) (T := TX9) (N := 4) (n := 4) hts inlX9 (hts (.instantiable RX9 4) (by decide +kernel))
  obtain ⟨c10, i10, hKn10⟩ := u_known (C := RX10) (T := TX10) (N := 9) (n := 9) hts inlX10 (hts (.instantiable RX10 9) (by decide +kernel))
  obtain ⟨c11, i11, hKn11⟩ := u_known (C := RX11) (T := TX11) (N := 13) (n := 13) hts inlX11 (hts (.instantiable RX11 13) (by decide +kernel))
  obtain ⟨c12, i12, hKn12⟩ := u_known (C := RX12) (T := TX12) (N := 28) (n := 28) hts inlX12 (hts (.instantiable RX12 28) (by decide +kernel))
  obtain ⟨dC, dI, hKc⟩ : ∃ (dC : Nat → ClassId) (dI : Nat → Nat → Nat), ∀ (k : Nat) (q : vw_C), vwCl[k]? = some q → u_Kn s q.1 q.2.1 q.2.2 (dC k) (dI k) := by
    refine ⟨fun k => if k = 0 then c0 else if k = 1 then c1 else if k = 2 then c2 else if k = 3 then c3 else if k = 4 then c4 else if k = 5 then c5 else if k = 6 then c6 else if k = 7 then c7 else if k = 8 then c8 else if k = 9 then c9 else if k = 10 then c10 else if k = 11 then c11 else c12, fun k => if k = 0 then i0 else if k = 1 then i1 else if k = 2 then i2 else if k = 3 then i3 else if k = 4 then i4 else if k = 5 then i5 else if k = 6 then i6 else if k = 7 then i7 else if k = 8 then i8 else if k = 9 then i9 else if k = 10 then i10 else if k = 11 then i11 else i12, ?_⟩
    intro k q hq
    match k, hq with
    | 0, hq => cases hq; exact hKn0
    | 1, hq => cases hq; exact hKn1
    | 2, hq => cases hq; exact hKn2
    | 3, hq => cases hq; exact hKn3
    | 4, hq => cases hq; exact hKn4
    | 5, hq => cases hq; exact hKn5
    | 6, hq => cases hq; exact hKn6
    | 7, hq => cases hq; exact hKn7
    | 8, hq => cases hq; exact hKn8
    | 9, hq => cases hq; exact hKn9
    | 10, hq => cases hq; exact hKn10
    | 11, hq => cases hq; exact hKn11
    | 12, hq => cases hq; exact hKn12
    | k + 13, hq => simp [vwCl] at hq
  have hS : va_S (fun q : Nat => s.heap.size ≤ q) s.heap s.heap [] := va_S.rf
  have hK : va_K (dC, dI) vwCl [] s := ⟨hKc, fun k q h => by simp at h⟩
  have hP : va_P (dC, dI) vwCl [] s.heap := fun k q h => by simp at h
  have hD : va_D (fun q : Nat => s.heap.size ≤ q) [] := ⟨fun i j p q h => by simp at h, fun k q h => by simp at h⟩
  have hl := lv_entry ([.ref b]) (n := 4) (Nat.le_of_ble_eq_true rfl)
  rw [lg_entry_eq]
  generalize (lg_sl ([.ref b]) ++ List.replicate (4 - (lg_sl ([.ref b])).length) Slot.unset).toArray = ls at hl ⊢
  have hl : lv_has ls 4 [(0, .ref b)] := hl
  refine va_new (ci := 11) (fs := [.null, .null, .null, .null, .null, .null, .null, .null, .null, .null, .null, .int 0, .int 0]) (C := RX11) (T := TX11) (N := 13) hx hb hts inlX11 tyX11 tyX11_ok hown (hts (.classLink RL 7 RX11) (by decide +kernel)) (hts (.instantiable RX11 13) (by decide +kernel)) (hts (.initialized RX11) (by decide +kernel)) hK hP hD hS hA rfl (fun j hj => by rcases (show j = 0 ∨ j = 1 ∨ j = 2 ∨ j = 3 ∨ j = 4 ∨ j = 5 ∨ j = 6 ∨ j = 7 ∨ j = 8 ∨ j = 9 ∨ j = 10 ∨ j = 11 ∨ j = 12 by omega) with rfl | rfl | rfl | rfl | rfl | rfl | rfl | rfl | rfl | rfl | rfl | rfl | rfl <;> rfl) (Nat.le_of_ble_eq_true rfl) (Nat.le_of_ble_eq_true rfl) dL_law_0 (fun q0 H hP hD hS => ?_)
  have hP : va_P (dC, dI) vwCl [(q0, .inr (11, [.null, .null, .null, .null, .null, .null, .null, .null, .null, .null, .null, .int 0, .int 0]))] H := hP
  have hD : va_D (fun q : Nat => s.heap.size ≤ q) [(q0, .inr (11, [.null, .null, .null, .null, .null, .null, .null, .null, .null, .null, .null, .int 0, .int 0]))] := hD
  refine W.widen (k := 1) (n := 13) (Nat.le_of_ble_eq_true rfl) (Nat.le_of_ble_eq_true rfl) ?_
  refine lv_dup hx hb dL_law_3 rfl ?_
  refine rf_enter (As := []) (a := q0) (rest := [.ref q0]) (n := 4) (rm := { frames := 4, cells := 38, slots := 9413, locals := 75 }) (ws := wsX11_init) hx hb (fun _ _ => hml) hown rfl (hts (.methodLink RL 9 yX11_init) (by decide +kernel)) (hts (.instanceMethod yX11_init) (by decide +kernel)) (hts (.initialized RX11) (by decide +kernel)) hts gL_law_X11_init rfl (by decide) ⟨by decide, by decide⟩ hl.1 (by decide +kernel) (Nat.le_of_ble_eq_true rfl) dL_law_4 ⟨Nat.le_of_ble_eq_true rfl, Nat.le_of_ble_eq_true rfl⟩ (Nat.le_of_ble_eq_true rfl) (Nat.le_of_ble_eq_true rfl) ?_
  intro s' mk mid methY cY s₁ hh hW hu B hlY
  have hP' : va_P (dC, dI) vwCl [(q0, .inr (11, [.null, .null, .null, .null, .null, .null, .null, .null, .null, .null, .null, .int 0, .int 0]))] s'.heap := by rw [hh]; exact hP
  exact rf_x dC dI q0 B hlY rfl s.slotsUsed hu hP' (va_K.moved hW.alike hK) (hD.weaken (fun _ _ _ _ => trivial)) (rf_nz_warm hW hN) s₁ (by rw [B.state]; rfl) (Stand.of_body B)
theorem rf_nests_in : ∀ w ∈ rf_nests, w ∈ tables_1 := rf_nests_tbl
theorem rf_nests_tab : ∀ w ∈ rf_nests, w.onTables = true := by decide +kernel
theorem rf_tbl_in : ∀ w ∈ wsT, w ∈ tables_1 := fun w h => (t_wsT w h).1
set_option maxHeartbeats 4000000 in
/-- EVERY START IS A COUNTEREXAMPLE: whatever start the Statement allows, the first limb fails there (in an environment that admits more slots): the class makes more than 1180 slots -/
theorem rf_falls {l : Launch} {p : Program} {e : Env} {s : State} {m : MethodId} {args : Array Value} {below : List Frame} (hfl : l.flags = flags0)
    (h : AtStart classFile x code maxLocals ret World_1 tables_1 room_1 Calls_1 rest_1 Pre_1 l p e s m args below) : ¬ Claimed_1_1 := by
  intro hC
  obtain ⟨hLists, hWorld, hadm, -, hcas, hclk, hfr, hfit, hhf, happ, hcalls, hrest, hpre⟩ := h
  obtain ⟨hloose, hripe⟩ := (Spec.applies_iff_loose hfr).mp happ
  obtain ⟨hrun, hable, halone, hname, hhears, hinit, hroom, hatoms⟩ := (Spec.appliesLoose_iff hfr).mp hloose
  have hadm' : l.admits { e with platform := { e.platform with maxSlots := e.platform.maxSlots + 10000 } } := by
    obtain ⟨a1, a2, a3, a4, a5, a6, a7, a8, a9⟩ := hadm
    exact ⟨a1, a2, a3, a4, congrArg (fun q : Platform => { q with maxSlots := e.platform.maxSlots + 10000 }) a5, a6, a7, Nat.le_trans a8 (Nat.le_add_right _ _), a9⟩
  have hroom' : ∀ n, n ≤ 10000 + 1180 → s.hasRoom { e.platform with maxSlots := e.platform.maxSlots + 10000 } { frames := 12, cells := 68, slots := n, locals := 472 } = true := by
    intro n hn
    have hroom1 : s.hasRoom e.platform { frames := 12, cells := 68, slots := 1180, locals := 472 } = true := hroom
    simp only [State.hasRoom, Bool.and_eq_true, decide_eq_true_eq] at hroom1 ⊢
    obtain ⟨⟨⟨⟨r1, r2⟩, r3⟩, r4⟩, r5⟩ := hroom1
    refine ⟨⟨⟨⟨r1, r2⟩, r3⟩, ?_⟩, r5⟩
    have r4 : s.slotsUsed + 1180 ≤ e.platform.maxSlots := r4
    omega
  have happ' : (headSpec (Cond.code x code maxLocals ret :: tables_1) room_1).applies x { e.platform with maxSlots := e.platform.maxSlots + 10000 } s = true :=
    (Spec.applies_iff_loose hfr).mpr ⟨(Spec.appliesLoose_iff hfr).mpr ⟨hrun, hable, halone, hname, hhears, hinit, hroom' 1180 (by omega), hatoms⟩, hripe⟩
  have happ2 : (headSpec (Cond.code x code maxLocals ret :: tables_1) rf_room).appliesLoose x { e.platform with maxSlots := e.platform.maxSlots + 10000 } s = true :=
    (Spec.appliesLoose_iff hfr).mpr ⟨hrun, hable, halone, hname, hhears, hinit, hroom' 9500 (by omega), hatoms⟩
  obtain ⟨n, o, hw, hrun2, hend, hpost⟩ := hC l hfl hLists hWorld p { e with platform := { e.platform with maxSlots := e.platform.maxSlots + 10000 } } hadm' hcas hclk s m args below hfr hfit hhf happ' ⟨hcalls, hrest, hpre⟩
  obtain ⟨b, rfl⟩ : ∃ b, args = #[.ref b] := by
    have hs := flat_of_before _ (show (Jvm.Cond.and given_1 narrow_1).before args s = true from hpre)
    have hc : (Cond.count 1).before args s = true := hs _ (by decide +kernel)
    have hr : (Cond.isRef (.arg 0)).before args s = true := hs _ (by decide +kernel)
    have harr : (Cond.arrayOf (.arg 0) .int).before args s = true := hs _ (by decide +kernel)
    have hq := flat_of_before _ (show rest_1_c.before args s = true from hrest)
    have hlen : (Cond.isInt (.length (.arg 0))).before args s = true := hq _ (by decide +kernel)
    have hall : (Cond.all (.arg 0) (.isInt (.elem (.arg 0) (.index 0)))).before args s = true := hq _ (by decide +kernel)
    obtain ⟨b, xs, hb, hx⟩ := State.ints_of_pre rfl harr hlen hall
    exact ⟨b, Cond.one_arg hc (show args[0]? = some (.ref b) from hb)⟩
  have hts0 : ∀ c ∈ (Cond.code x code maxLocals ret :: tables_1), c.before #[Value.ref b] s = true := atoms_spec (ws := Cond.code x code maxLocals ret :: tables_1) hatoms
  have hN : rf_nz s := fun w hw => by
    have h1 := hts0 w (List.mem_cons_of_mem _ (rf_nests_in w hw))
    exact va_Nw.of (rf_nests_tab w hw) h1
  obtain ⟨t, hst, hG1, hG2⟩ := rf_body (y := x) (cd := code) (nL := maxLocals) (rt := ret) (p := p) (G := rf_G below s.slotsUsed) (S := headSpec (Cond.code x code maxLocals ret :: tables_1) rf_room) (by decide) (hts0 _ List.mem_cons_self) hadm' hcas hclk hfr happ2
    (fun meth c s₁ B hml => rf_law l B.exec B.bytes hml (findClass_of_methodNamed B.named) (fun w h => hts0 w (List.mem_cons_of_mem _ (rf_tbl_in w h))) hN s₁ (by rw [B.state]; rfl) (Stand.of_body B))
  have hst' : Steps p.tables { e with platform := { e.platform with maxSlots := e.platform.maxSlots + 10000 } } below s t := Steps.head ⟨hrun, hable, halone⟩ ⟨[.invoking m #[Value.ref b]], hfr, by simp, by simp⟩ hst
  obtain ⟨k, hk, hkt⟩ := Steps.moment hst' hG1
  have hkn : k < n := by
    rcases Nat.lt_or_ge k n with q | q
    · exact q
    · exact absurd (hk n q) hend.not_within
  have hmono : t.slotsUsed ≤ (stepsAlone p.tables { e with platform := { e.platform with maxSlots := e.platform.maxSlots + 10000 } } n s).slotsUsed := by
    have h1 := (stepsAlone_heap_grows p.tables { e with platform := { e.platform with maxSlots := e.platform.maxSlots + 10000 } } (n - k) (stepsAlone p.tables { e with platform := { e.platform with maxSlots := e.platform.maxSlots + 10000 } } k s)).2
    rw [← stepsAlone_add, show k + (n - k) = n by omega, hkt] at h1
    exact h1
  obtain ⟨-, -, -, hsame⟩ := hpost
  have h4 := hsame.2.2.2.1
  have h5 := hsame.2.2.2.2.1
  generalize stepsAlone p.tables { e with platform := { e.platform with maxSlots := e.platform.maxSlots + 10000 } } n s = z at *
  have h4 : z.slotsUsed = s.slotsUsed + ((z.heap.toList.drop s.heap.size).map (·.slots.size)).sum := h4
  have h5 : ((z.heap.toList.drop s.heap.size).map (·.slots.size)).sum ≤ 1180 := h5
  have hG2 : s.slotsUsed + 4096 ≤ t.slotsUsed := hG2
  omega
/-- the Statement's own witness (printed as witness_1) refutes its first limb -/
theorem rf_whole (h : WitnessClaimed_1) : ¬ (Claimed_1_1 ∧ Claimed_1_2) := by
  obtain ⟨p, e, s, m, args, below, hs⟩ := h
  exact fun hC => rf_falls rfl hs hC.1

