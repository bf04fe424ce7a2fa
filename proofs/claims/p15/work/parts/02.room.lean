/-! THE ROOM, 1: general rows. A run that is walked into a callee and left there; what it has used of the slots by then is still used at its end. -/
theorem rf_mem_sum : ∀ (l : List Nat) (x : Nat), x ∈ l → x ≤ l.sum
  | [], _, h => absurd h List.not_mem_nil
  | a :: l, x, h => by
    rw [List.sum_cons]
    rcases List.mem_cons.mp h with h | h
    · rw [h]; exact Nat.le_add_right _ _
    · exact Nat.le_trans (rf_mem_sum l x h) (Nat.le_add_left _ _)
theorem rf_sum {H : Heap} {n q N : Nat} {cell : Cell} (hn : n ≤ q) (hc : H[q]? = some cell) (hs : cell.slots.size = N) : N ≤ ((H.toList.drop n).map (·.slots.size)).sum := by
  have h1 : (H.toList.drop n)[q - n]? = some cell := by
    rw [List.getElem?_drop, show n + (q - n) = q by omega, Array.getElem?_toList]
    exact hc
  refine rf_mem_sum _ _ (List.mem_map.mpr ⟨cell, List.mem_of_getElem? h1, hs⟩)
/-- into a body: the first step of an invocation, and what is walked behind it -/
theorem rf_body {l : Launch} {y : MethodName} {S : Jvm.Spec} {cd : ByteArray} {nL : Nat} {rt : Option FieldType} {p : Program} {e : Env} {s : State} {m : MethodId} {args : Array Value} {below : List Frame} {G : State → Prop}
    (hx : plainName y.cls = true) (his : (Cond.code y cd nL rt).before args s = true) (ha : l.admits e) (hc : FairCas e.choices) (hk : FairClock e.choices)
    (hf : s.frames = .invoking m args :: below) (happ : S.appliesLoose y e.platform s = true)
    (body : ∀ meth c s₁, BodyLoose p l y S cd nL rt e s m args below meth c s₁ → c.maxLocals = nL → ∃ t, Steps p.tables e below (s₁.setTop (entryFrame m args nL)) t ∧ G t) :
    ∃ t, Steps p.tables e below (stepThread p.tables e s).1 t ∧ G t := by
  obtain ⟨hrun, hable, halone, hname, hhears, hinit, hroom, hpre⟩ := (Spec.appliesLoose_iff hf).mp happ
  obtain ⟨meth, c, hmeth, hcode, hbytes, hlocals, hret, hlocks, -⟩ := Cond.code_spec hname his
  have hcur := State.cur_lt_of_frames hf
  have hf1 : (s.setFrames (.java (entryFrame m args nL) :: below)).frames = .java (entryFrame m args nL) :: below :=
    State.frames_setFrames _ hcur
  have ht1 := State.topJava?_of_frames hf1
  have hplain : (s.setFrames (.java (entryFrame m args nL) :: below)).plainMethod m := by
    refine State.plainMethod.of_name ?_
    intro k hk
    obtain ⟨k', hk', hn⟩ := className_of_methodNamed hname
    cases (show s.vm.classes[m.cls]? = some k from hk).symm.trans hk'
    rw [hn]; exact hx
  have hAt : At (s.setFrames (.java (entryFrame m args nL) :: below)) m c below :=
    ⟨by rw [ht1]; rfl, ⟨[], by rw [hf1]; rfl⟩, hrun, by simpa using hable, by simpa using halone,
      by rw [State.code?_eq]; simp [State.setFrames, hmeth, hcode], hplain⟩
  obtain ⟨s₂, hs, hG⟩ := body meth c _
    ⟨ha, hc, hk, by cases p <;> rfl, hf, hname, hhears, hinit, hroom, hpre, hmeth, hret, hlocks, hbytes, rfl, hAt⟩ hlocals
  have hstep : (stepThread p.tables e s).1 = (s.setFrames (.java (entryFrame m args nL) :: below)).setTop (entryFrame m args nL) := by
    have hfull : e.platform.stackFull (s.setFrames below).me (s.setFrames below).frames c.maxLocals = false := by
      obtain ⟨-, h1, -, h2⟩ := State.hasRoom_stack hroom
      rw [hf, List.length_cons] at h1
      rw [State.localsInUse_invoking hf hmeth hcode] at h2
      have hw := stackUse_le_stackWeight below
      rw [State.frames_setFrames _ hcur]
      exact Platform.stackFull_eq_false (by rw [State.stackLimits_setFrames]; omega) (by rw [State.stackLimits_setFrames]; omega)
    rw [stepThread_invoking hf, (doInvoke_java (s := s.setFrames below) (e := e) (meth := meth) (code := c) hmeth hcode hlocks hfull).1, State.setTop_self ht1]
    simp only [State.pushFrame, State.frames_setFrames _ hcur, State.setFrames_setFrames, hlocals, entryFrame]
  exact ⟨s₂, hstep ▸ hs, hG⟩
theorem rf_weaken {tb : Tables} {e : Env} {mid below : List Frame} {s t : State} (h : Steps tb e (mid ++ below) s t) : Steps tb e below s t := by
  obtain ⟨n, hn, hw⟩ := h
  exact ⟨n, hn, fun k hk => (hw k hk).weaken⟩
/-- a constructor is called and walked in part: the walk goes on in its body, over the caller's frames -/
theorem rf_enter {p : Program} {l : Launch} {e : Env} {R : Room} {s : State} {m : MethodId} {args : Array Value} {below : List Frame} {meth : Method} {c : Code} {H : Heap} {locs : List Loc} {cells slots : Nat} {G : State → Prop}
    (hexec : p.tables.exec = Jvm.exec) {own : String} {index : Nat} {y : MethodName} {cd cc : ByteArray} {nL n : Nat} {ws ws' : List Cond} {rm : Room} {Ts : List Cond} (hb : c.code = cc)
    (hml : ∀ T : State, Stand p l e R s m args below meth c T locs cells slots → c.maxLocals = n)
    (hown : s.vm.findClass own = some m.cls) (hy1 : y.name = "<init>") (hlink : (Cond.methodLink own index y).before args s = true) (hinst : (Cond.instanceMethod y).before args s = true)
    (hini : (Cond.initialized y.cls).before args s = true)
    (hts : ∀ w ∈ Ts, w.before args s = true) (hG : GoodIn Ts ws) (hw : ws = Cond.code y cd nL none :: ws') (hx : plainName y.cls = true)
    (hy : y.cls ≠ "java/lang/invoke/MethodHandle" ∧ y.cls ≠ "java/lang/invoke/VarHandle")
    {a : Addr} {As rest : List Value} {pc : Nat} {ls : Array Slot} (hsize : ls.size = n)
    (hlen : (parseMethodDescriptor y.desc).map (fun d => d.parameters.length) = some As.length)
    (hW : (rest.map fun v => v.category).sum ≤ 8) (hd : decode cc pc = .ok (.invokespecial index, 3))
    (hR : rm.frames + 1 ≤ R.frames ∧ 8 + (nL + 11) + rm.locals ≤ R.locals) (hcells : cells + rm.cells ≤ R.cells) (hslots : slots + rm.slots ≤ R.slots)
    (kk : ∀ (s' : State) (mk : MethodId) (mid : List Frame) (methY : Method) (cY : Code) (s₁ : State), s'.heap = H → s.WarmedH s'.vm → s.slotsUsed ≤ s'.slotsUsed →
      BodyLoose p l y (headSpec ws rm) cd nL none e s' mk (Value.ref a :: As).toArray (mid ++ below) methY cY s₁ → cY.maxLocals = nL →
      ∃ t, Steps p.tables e (mid ++ below) (s₁.setTop (entryFrame mk (Value.ref a :: As).toArray nL)) t ∧ G t) :
    W p l e R s m args below meth c H locs cells slots G (F0 m pc ls (As.reverse ++ .ref a :: rest)) := by
  subst hb
  intro T hT X
  have hcode : (Cond.code y cd nL none).before args s = true := hts _ (hG _ (by rw [hw]; exact List.mem_cons_self)).1
  have hpl : e.platform.magicAccessors = ({} : Platform).magicAccessors := by rw [X.admits.platform]
  obtain ⟨mk, methM, cM, kP, vm₁, hnamed, hmethM, hcodeM, -, hlocalsM, -, hkP, -, hW₁, hstep₁⟩ := Steps.initColdArgs (e := e) X.here hexec X.warmed hpl hown hy1 hy hlink hinst hcode (f := F0 m pc ls (As.reverse ++ .ref a :: rest)) rfl
    (argsL := As) (a := a) (rest := rest) (fun sig h => by rw [h] at hlen; exact (Option.some.inj hlen).symm) rfl hd
  have X₁ := X.noted hW₁
  have hn := X₁.named hnamed
  have hpay := pay_in hts hG
  have hc2 : (Cond.code y cd nL none).before (Value.ref a :: As).toArray (T.setVm vm₁) = true := hpay _ (by rw [hw]; exact List.mem_cons_self) _ _ X₁.warmed
  obtain ⟨methY, cY, hmY, hcY, -, hlY, -, -, -, -⟩ := Cond.code_spec hn hc2
  obtain ⟨kY, hkY, -⟩ := className_of_methodNamed hn
  have hini2 : (Cond.initialized y.cls).before (Value.ref a :: As).toArray (T.setVm vm₁) = true := word_at X₁.warmed (Or.inl (by first | rfl | simp [Cond.onTables, Cond.keeps, Cond.steady])) hini
  have hinitY : kY.init = .initialized := Cond.initialized_spec (findClass_of_methodNamed hn) hkY hini2
  have hAt : At (T.setVm vm₁) (F0 m pc ls rest).method c below := X₁.here
  have hpre : (headSpec ws rm).pre.before (Value.ref a :: As).toArray (T.setVm vm₁) = true := atoms_intro fun w hw => hpay w hw _ _ X₁.warmed
  have happ : (headSpec ws rm).appliesLoose y e.platform ((T.setVm vm₁).calling (F0 m pc ls rest) mk (Value.ref a :: As).toArray) = true :=
    Spec.appliesLoose_calling (g := F0 m pc ls rest) hAt hd hn hkY hinitY
      (X₁.room_calling (g := F0 m pc ls rest) (R' := rm) (by rw [hml _ X]; exact hsize) hmY hcY hR.1 (by rw [hlY]; show 2 * 0 + (rest.map fun v => v.category).sum + (nL + 11) + rm.locals ≤ R.locals; have := hR.2; omega) hcells hslots) hpre
  obtain ⟨mid, hmid⟩ := hAt.above
  have hfr : ((T.setVm vm₁).setTop (F0 m pc ls rest)).frames = (.java (F0 m pc ls rest) :: mid) ++ below := by rw [State.frames_setTop' (F0 m pc ls rest) hAt.top, hmid]; rfl
  have hf' : ((T.setVm vm₁).calling (F0 m pc ls rest) mk (Value.ref a :: As).toArray).frames = .invoking mk (Value.ref a :: As).toArray :: ((.java (F0 m pc ls rest) :: mid) ++ below) := by
    rw [State.frames_calling hAt.top, hmid]; rfl
  obtain ⟨t, hst, hGt⟩ := rf_body (p := p) (G := G) hx (hpay _ (by rw [hw]; exact List.mem_cons_self) _ ((T.setVm vm₁).calling (F0 m pc ls rest) mk (Value.ref a :: As).toArray) X₁.warmed) X.admits X.cas X.clock hf' happ
    (fun mY c2 s₁ B hl => kk ((T.setVm vm₁).calling (F0 m pc ls rest) mk (Value.ref a :: As).toArray) mk (.java (F0 m pc ls rest) :: mid) mY c2 s₁ hT X₁.warmed (by
      show s.slotsUsed ≤ T.slotsUsed
      have h4 : T.slotsUsed = s.slotsUsed + _ := X.same.2.2.2.1
      rw [h4]; exact Nat.le_add_right _ _) B hl)
  refine ⟨t, hstep₁ t fun acts => ?_, hGt⟩
  have ht0 : ∃ t0, ((T.setVm vm₁).setTop (F0 m pc ls rest)).threads[((T.setVm vm₁).setTop (F0 m pc ls rest)).cur]? = some t0 := by
    obtain ⟨t0, h0, -⟩ := State.frames_cons hfr
    exact ⟨t0, h0⟩
  obtain ⟨t0, ht0⟩ := ht0
  have hstep : (stepThread p.tables e ((T.setVm vm₁).calling (F0 m pc ls rest) mk (Value.ref a :: As).toArray)).1 = (doInvoke e ((T.setVm vm₁).setTop (F0 m pc ls rest)) acts mk (Value.ref a :: As).toArray).1 := by
    rw [stepThread_invoking hf', doInvoke_state e _ acts, State.calling, State.pushFrame, State.setFrames_setFrames, ← hfr, State.setFrames_self ht0]
  rw [← hstep]
  exact rf_weaken hst
