/-! THROWS: out of a method, into the one handler (TaintHouseModel.text), and the call of that method -/
/-- the search in a table of one row, whose class may still be unresolved -/
def fnd (e : Env) (s : State) (f : JFrame) (a : Addr) (h : Handler) (vm' : Vm) : Prop :=
  ∀ (Q : Handler → Pre) (E : CtlPost) (d : Bool) (acts : List Action), wp (findHandler f a) Q E e d acts s ↔ Q h d acts (s.setVm vm')
theorem fnd_one {e : Env} {s : State} {f : JFrame} {a : Addr} {meth : Method} {code : Code} (hm : s.vm.method? f.method = some meth) (hc : meth.code = some code)
    {x : ExceptionTableEntry} (ht : code.exceptionTable.toList = [x]) (hx : covers x f.pc = true) (h0 : x.catchType ≠ 0) {c : ClassId} {cell : Cell}
    (hl : s.vm.ClassLinks e.platform f.method.cls x.catchType c) (hcell : s.heap[a]? = some cell) (hobj : ∀ k, cell.vm ≠ .statics k)
    (hk : ∃ k, s.vm.classes[cell.cls]? = some k) (hcl : ∃ k, s.vm.classes[c]? = some k) (hfit : s.vm.assignable cell.cls c = true) :
    fnd e s f a (.found x.handlerPc) (s.vm.noted f.method.cls x.catchType (.cls c)) := by
  intro Q E d acts
  rw [W.findHandler_eq hm hc, ht]
  simp only [covers] at hx
  have hop := (resolveClass_links e.toSetting hl).op (op := VmOp.resolveClass f.method.cls x.catchType) rfl
  have hal : s.vm.Alike (s.vm.noted f.method.cls x.catchType (.cls c)) := (Vm.Alike.refl s.vm).noted _ _ _
  obtain ⟨k1, hk1⟩ := hk
  obtain ⟨k2, hk2⟩ := hcl
  obtain ⟨k3, hk3, -⟩ := hal.2.2 _ _ hk1
  obtain ⟨k4, hk4, -⟩ := hal.2.2 _ _ hk2
  have hf2 : (s.vm.noted f.method.cls x.catchType (.cls c)).assignable cell.cls c = true := by rw [hal.assignable]; exact hfit
  simp [findHandler.go, hx, h0, hop.1, hop.2, hcell, hobj, hk3, hk4, hf2, VmOp.dirties, VmOp.acts]
theorem fnd_step {e : Env} {s : State} {a : Addr} {f : JFrame} {r : List Frame} {pc : Nat} {vm' : Vm} (hf : fnd e s f a (.found pc) vm') :
    (stepThrowing e s a (.java f :: r)).Is ((s.setVm vm').setFrames (.java { f with pc := pc, stack := [.ref a] } :: r)) [] := by
  simp only [stepThrowing, searchFrame, vmDo]
  generalize hr : Sem.go _ e false [] s = res
  obtain ⟨as, rfl, ha⟩ := Sem.eq_ok_of hr (a := Handler.found pc) (s' := s.setVm vm') (acts' := []) (by simp [hf _ _ _ _])
  exact ⟨rfl, ha⟩
theorem fnd_caught {tb : Tables} {e : Env} {s target : State} {g : JFrame} {c : Code} {below : List Frame} {a : Addr} (h : At s g.method c below) {pc : Nat} {vm' : Vm}
    (hf : fnd e ((s.setTop g).pushFrame (.throwing a)) g a (.found pc) vm') (hrest : Steps tb e below ((s.setVm vm').setTop { g with pc := pc, stack := [.ref a] }) target) :
    Steps tb e below ((s.setTop g).pushFrame (.throwing a)) target := by
  have hth := h.throwing a
  refine Steps.head hth.1 hth.2 ?_
  rw [stepThread_throwing (frames_entered h.top _), (fnd_step (s := (s.setTop g).pushFrame (.throwing a)) hf).1]
  obtain ⟨g₀, hg⟩ := Option.isSome_iff_exists.mp h.top
  obtain ⟨r, hr⟩ := State.topJava?_eq_some.mp hg
  have hr' : (s.setVm vm').frames = .java g₀ :: r := hr
  have hsw : ∀ (u : State) (F G : List Frame), ((u.setFrames F).setVm vm').setFrames G = (u.setVm vm').setFrames G := fun u F G => by
    rw [show (u.setFrames F).setVm vm' = (u.setVm vm').setFrames F from rfl, State.setFrames_setFrames]
  rw [State.setTop_of_frames _ hr'] at hrest
  rw [hr, List.tail_cons, State.pushFrame, hsw, State.setTop_of_frames _ hr, hsw]
  exact hrest
def Mx (below : List Frame) (P : Pl) (o : Outcome) (w1 : Wd) (n0 : Nat) (args : Array Value) (s : State) : State → Prop := fun t => ∃ oo, t.status = .running ∧ Ended t below oo ∧ Qo P o w1 args s oo t ∧ ∃ L, FrameX s t L (w1.1 - n0) (slo w1.1 - slo n0) ∧ ∀ q ∈ L, AO P q.base
theorem Mx.of {below : List Frame} {P : Pl} {o : Outcome} {w1 : Wd} {n0 : Nat} {args : Array Value} {s t : State} (h : MQ below (Qo P o w1) args s (w1.1 - n0) (slo w1.1 - slo n0) (AO P) t) : Mx below P o w1 n0 args s t := by
  obtain ⟨o', h1, h2, h3, L, h4, h5⟩ := h
  exact ⟨o', h1, h2, h3, L, ⟨h4.2.1, h4.2.2⟩, h5⟩
/-- the machine, with the reference to cell x thrown at pc -/
abbrev Thr (p : Program) (l : Launch) (e : Env) (R : Room) (s : State) (mi : MethodId) (args : Array Value) (below : List Frame) (meth : Method) (c : Code) (m : Nat) (P : Pl) (n0 : Nat) (Q : State → Prop) (pc : Nat) (ls : List Value) (x : Nat) (w : Wd) : Prop :=
  ∀ (H : Heap) (locs : List Loc) (la : Array Slot) (stk : List Value), ReH P w H → va_S (AO P) s.heap H locs → LsR P m ls la → (n0 ≤ w.1 ∧ w.1 ≤ 200) → ∀ T : State, T.heap = H → Stand p l e R s mi args below meth c T locs (w.1 - n0) (slo w.1 - slo n0) → ∃ t, Steps p.tables e below ((T.setTop (F0 mi pc la stk)).pushFrame (.throwing (P.1 + x))) t ∧ Q t
section Throws
variable {p : Program} {l : Launch} {e : Env} {R : Room} {s : State} {mi : MethodId} {args : Array Value} {below : List Frame} {meth : Method} {c : Code} {m n0 : Nat} {P : Pl} {E : Xe} {Q : State → Prop}
variable {pc j b cc d q x : Nat} {ls st r as : List Value} {w w1 : Wd} {v : Option Value}
theorem t_out (C : Cx p R s mi args meth c m P E n0) (hmt : m ≠ mText) (hm0 : m ≠ 0) : Thr p l e R s mi args below meth c m P n0 (Mx below P (.threw x) w n0 args s) pc ls x w := by
  intro H locs la stk h1 h2 h3 h4 T hT X
  have hex : c.exceptionTable.isEmpty = true := by
    have := C.2.2.2.2.2.2.2.2.2.2.2.2.2.2
    unfold Exc at this
    rw [if_neg hmt] at this
    exact this.resolve_left hm0
  have hlocks := C.2.2.2.2.2.2.1
  obtain ⟨hs, hrun, hend, hW, hsame⟩ := X.leaveThrown (P.1 + x) (g := F0 mi pc la stk) rfl rfl rfl (fun z hz => by
    have : c.exceptionTable = #[] := by simpa using hex
    rw [this] at hz
    cases hz) (hlocks := hlocks)
  exact ⟨_, hs, .threw (P.1 + x), hrun, hend, ⟨rfl, by show ReH P w T.heap; rw [hT]; exact h1, h2.F hT⟩, locs, ⟨hW, hsame⟩, h2.2.2⟩
theorem lnk_wr : (12, 13, 14) ∈ clkL ∧ ow mText = 12 := by decide +kernel
theorem t_catch (C : Cx p R s mi args meth c m P E n0) (hm : m = mText) (h15 : 15 ≤ pc) (h55 : pc < 55) (hx : x < w.1) (hs : shc x = 14) (k : Wst p l e R s mi args below meth c m P n0 Q (58, ls, [.ref x], w)) : Thr p l e R s mi args below meth c m P n0 Q pc ls x w := by
  intro H locs la stk h1 h2 h3 h4 T hT X
  have hcw := C.2.2.2.2.2.2.2.2.2.2.2.2.2.2
  unfold Exc at hcw
  rw [if_pos hm] at hcw
  obtain ⟨x0, hx0⟩ : ∃ x0, c.exceptionTable.toList = [x0] := by
    cases hl : c.exceptionTable.toList with
    | nil => rw [hl] at hcw; cases hcw
    | cons y ys =>
      cases ys with
      | nil => exact ⟨y, rfl⟩
      | cons z zs => rw [hl] at hcw; simp at hcw
  rw [hx0] at hcw
  simp only [List.map_cons, List.map_nil, List.cons.injEq, Prod.mk.injEq, and_true] at hcw
  obtain ⟨e1, e2, e3, e4⟩ := hcw
  have hpl : e.platform.magicAccessors = ({} : Platform).magicAccessors := by rw [X.admits.platform]
  have hlink : (Cond.classLink (cn (ow m)) x0.catchType (cn 14)).before args s = true := by
    rw [e4, hm, lnk_wr.2]
    exact C.2.2.2.2.2.1 _ (gt_in (clk_in _ lnk_wr.1) rfl)
  obtain ⟨c', hc', hcl⟩ := Cond.classLink_spec C.2.2.2.2.1 hlink e.platform hpl
  obtain ⟨dk, _, _, kt, hd, _, _, _, _, hkt, _, hopen⟩ := hcl.here
  have hcl₀ := X.warmed.classLinks hcl
  have hW' : s.WarmedH (T.vm.noted mi.cls x0.catchType (.cls c')) := X.warmed.noted hd hopen (State.rightAt_cls hcl)
  have hal := X.warmed.alike
  obtain ⟨kt', hkt', -⟩ := hal.2.2 _ _ hkt
  obtain ⟨cell, hcell, hobj, hcls⟩ := recv_O C h1 hx (by omega)
  rw [hs] at hcls
  obtain ⟨y1, y2, hy1, hy2, hy3⟩ := Cond.castable_spec C.2.2.2.2.2.2.2.2.2.1.2.2.2.2.2.2.2.1
  have hy1' : s.vm.findClass (cn 14) = some y1 := hy1
  have hy2' : s.vm.findClass (cn 14) = some y2 := hy2
  have q1 : y1 = cell.cls := Option.some.inj (hy1'.symm.trans hcls)
  have q2 : y2 = c' := Option.some.inj (hy2'.symm.trans hc')
  have hfit : s.vm.assignable cell.cls c' = true := by rw [← q1, ← q2]; exact hy3
  have hfit' : T.vm.assignable cell.cls c' = true := by rw [hal.assignable]; exact hfit
  have q3 : cell.cls = c' := Option.some.inj (hcls.symm.trans hc')
  obtain ⟨t, a1, b1⟩ := k H locs la h1 h2 h3 h4 (T.setVm (T.vm.noted mi.cls x0.catchType (.cls c'))) hT (X.noted hW')
  refine ⟨t, ?_, b1⟩
  refine fnd_caught (g := F0 mi pc la stk) X.here (pc := 58) (vm' := T.vm.noted mi.cls x0.catchType (.cls c')) ?_ a1
  rw [← e3]
  exact fnd_one (f := F0 mi pc la stk) (a := P.1 + x) (s := (T.setTop (F0 mi pc la stk)).pushFrame (.throwing (P.1 + x))) (meth := meth) (code := c) X.method' X.code hx0 (by simp [covers, e1, e2, h15, h55]) (by rw [e4]; decide) (c := c') (cell := cell) hcl₀ (by show T.heap[P.1 + x]? = _; rw [hT]; exact hcell) (fun z hz => by rw [hz] at hobj; cases hobj) (by rw [q3]; exact ⟨kt', hkt'⟩) ⟨kt', hkt'⟩ hfit'
theorem c_athrow (C : Cx p R s mi args meth c m P E n0) (hd : decode (bO m) pc = .ok (.athrow, 1)) (k : Thr p l e R s mi args below meth c m P n0 Q pc ls x w) : Wst p l e R s mi args below meth c m P n0 Q (pc, ls, .ref x :: r, w) := by
  intro H locs la h1 h2 h3 h4 T hT X
  obtain ⟨t, a1, b1⟩ := k H locs la (r.map (tv P)) h1 h2 h3 h4 T hT X
  refine ⟨t, ?_, b1⟩
  have hx := C.1
  have hb := C.2.1
  show Steps p.tables e below (T.setTop (F0 mi pc la (.ref (P.1 + x) :: r.map (tv P)))) t
  have hdg : decode c.code pc = .ok (.athrow, 1) := by rw [hb]; exact hd
  jvm_step X.here [hx, hdg, athrow.wp_sem]
  exact a1
theorem c_thr {k : Nat} {As : List Value} (C : Cx p R s mi args meth c m P E n0) (hd : decode (bO m) pc = .ok (.invokevirtual q, 3)) (hl : (Cond.methodLink (cn (ow m)) q (yO j)).before args s = true) (hj : j < nM) (hj1 : 1 ≤ j) (hjt : j ≠ mText) (hsm : sm j = 0) (hni : (yO j).name ≠ "<init>") (hb : As.length = npar j) (hf : frm j + 1 ≤ frm m) (hlo : 8 + (mx j + 11) + loc j ≤ loc m)
    (hk : k < w.1) (hs : shc k = ow j) (hs15 : shc k < 15) (hcat : catS r ≤ 8) (hM : Ct l E P j (.ref k :: As) w (.threw x) w1) (h5 : w.1 ≤ w1.1) (h6 : w.1 ≤ 200 → w1.1 ≤ 200) (hR : w1.1 - n0 ≤ R.cells ∧ slo w1.1 - slo n0 ≤ R.slots) (kk : Thr p l e R s mi args below meth c m P n0 Q pc ls x w1) : Wst p l e R s mi args below meth c m P n0 Q (pc, ls, As.reverse ++ .ref k :: r, w) := by
  intro H locs la h1 h2 h3 h4 T hT X
  have hsz := sz_of C h1 h2 h4.1 hT X
  have hm := mok hj
  have hini : (Cond.initialized (yO j).cls).before args s = true := by
    rw [← hm.2.2.2]
    exact C.2.2.2.2.2.1 _ (gt_in (in_tbl (init_in _ (own_init j hj))) rfl)
  have hinst : (Cond.instanceMethod (yO j)).before args s = true := C.2.2.2.2.2.1 _ (gt_in (inst_in hj hj1 hsm) rfl)
  have hsel : (Cond.selects (yO j).cls (yO j) (yO j)).before args s = true := C.2.2.2.2.2.1 _ (gt_in (sel_in hj hj1 hsm hni) rfl)
  have hcode : (Cond.code (yO j) (bO j) (mx j) (rt j)).before args s = true := by
    have := C.2.2.2.2.2.1 _ ((goodC hj hj1 _ List.mem_cons_self).1)
    unfold codeW at this
    rw [if_neg hjt] at this
    exact this
  obtain ⟨cellB, hcB, hoB, hclB⟩ := recv_O C h1 hk hs15
  rw [hs, hm.2.2.2] at hclB
  obtain ⟨mk, methM, hnamed, hmethM, hstM, habM⟩ := Cond.instanceMethod_spec hinst
  obtain ⟨methM', cM, hmethM', hcM, -, hlM, -, -, -, hsigM⟩ := Cond.code_spec hnamed hcode
  cases hmethM.symm.trans hmethM'
  obtain ⟨c2, r2, m2, q1, q2, q3, q4, kP, hkP, hkPi⟩ := Cond.selects_spec hsel
  cases hclB.symm.trans q1
  cases (State.methodFound?_of_named hnamed hm.2.1).symm.trans q2
  cases hnamed.symm.trans q3
  have hselP : selectMethod e.platform s.vm cellB.cls mk = .method mk := by rw [Launch.admits_selectMethod X.admits]; exact q4
  have hlen : (As.map (tv P)).length = methM.sig.parameters.length := by
    have h2 := hm.2.2.1
    rw [hsigM] at h2
    rw [List.length_map, hb]
    exact (Option.some.inj h2).symm
  obtain ⟨vm₁, X₁, hstep₁⟩ := X.invokevirtual C.1 C.2.2.2.2.1 hl hnamed hmethM hstM hkP hkPi hm.2.1 (a := P.1 + k) (cell := cellB) (by rw [hT]; exact hcB)
    (fun z h => by rw [h] at hoB; cases hoB) hselP hmethM habM hkP hkPi (g := F0 mi pc la ((As.reverse ++ .ref k :: r).map (tv P))) rfl (argsL := As.map (tv P)) (rest := r.map (tv P)) hlen (by simp [tv]) (by rw [C.2.1]; exact hd)
  have hdg : decode c.code pc = .ok (.invokevirtual q, 3) := by rw [C.2.1]; exact hd
  have hW8 := hWc (mi := mi) (pc := pc) (la := la) (st0 := r.map (tv P)) C hcat
  have hkI : kP.init = .initialized := Cond.initialized_spec (findClass_of_methodNamed hnamed) hkP hini
  have hn1 : (T.setVm vm₁).methodNamed? (yO j) = some mk := X₁.named hnamed
  obtain ⟨kY, hkY, -⟩ := className_of_methodNamed hn1
  have hwarm := X₁.warmed
  have hpre : ∀ wd ∈ codeW j :: gtbl, ∀ (a' : Array Value) (U : State), s.WarmedH U.vm → wd.before a' U = true := fun wd hwd a' U hU => word_at hU (goodC hj hj1 wd hwd).2 (C.2.2.2.2.2.1 _ (goodC hj hj1 wd hwd).1)
  have hini' : (Cond.initialized (yO j).cls).before #[] (T.setVm vm₁) = true := word_at hwarm (Or.inl (by first | rfl | simp [Cond.onTables, Cond.keeps, Cond.steady])) hini
  have hkYi : kY.init = .initialized := Cond.initialized_spec (findClass_of_methodNamed hn1) hkY hini'
  have hRc' := hRc h4.1 h5 hR
  have hmM1 : (T.setVm vm₁).vm.method? mk = some methM := by
    show vm₁.method? mk = _
    rw [show vm₁.method? mk = s.vm.method? mk from hwarm.alike.method? mk]
    exact hmethM
  have happ : (headSpec (codeW j :: gtbl) (rmO j w w1)).appliesLoose (yO j) e.platform ((T.setVm vm₁).calling (F0 mi pc la (r.map (tv P))) mk ((.ref k :: As).map (tv P)).toArray) = true :=
    Spec.appliesLoose_calling (g := F0 mi pc la (r.map (tv P))) X₁.here hdg hn1 hkY hkYi
      (X₁.room_calling (g := F0 mi pc la (r.map (tv P))) (R' := rmO j w w1) (by rw [C.2.2.1]; exact h3.1) hmM1 hcM (by show frm j + 1 ≤ R.frames; exact Nat.le_trans hf C.2.2.2.2.2.2.2.2.2.2.1) (by
        rw [hlM]
        show 2 * (F0 mi pc la (r.map (tv P))).monitorRoom + ((r.map (tv P)).map fun v => v.category).sum + (mx j + 11) + loc j ≤ R.locals
        have := C.2.2.2.2.2.2.2.2.2.2.2.1
        omega) hRc'.1 hRc'.2) (atoms_intro fun wd hwd => hpre wd hwd _ _ hwarm)
  obtain ⟨mid, hmid⟩ := X₁.here.above
  have hfr : ((T.setVm vm₁).setTop (F0 mi pc la (r.map (tv P)))).frames = (.java (F0 mi pc la (r.map (tv P))) :: mid) ++ below := by rw [State.frames_setTop' _ X₁.here.top, hmid]; rfl
  obtain ⟨o, s₂, hsteps, -, hend, hq, L, hFX, hL⟩ := Steps.callFree hM p X₁.admits X₁.cas X₁.clock (acts := []) hfr happ (Po.blind _ _ (F0 mi pc la (r.map (tv P))) mk (po_at (as := .ref k :: As) C h1 h2 hsz (T.setVm vm₁) hT hwarm)) trivial
  rw [State.frames_setTop' _ X₁.here.top, X₁.tail] at hend
  obtain ⟨ho, hPw, hF⟩ := hq
  have ho' : o = .threw (P.1 + x) := ho
  subst ho'
  obtain ⟨T', X', hWT, hsT, hs2⟩ := X₁.outOfThrown (g := F0 mi pc la (r.map (tv P))) rfl hend hFX.1 hFX.2
  have hm1 := slo_mono h4.1
  have hm2 := slo_mono h5
  have h40 := h4.1
  dsimp only at hm1 h40
  rw [show w.1 - n0 + (w1.1 - w.1) = w1.1 - n0 by omega, show slo w.1 - slo n0 + (slo w1.1 - slo w.1) = slo w1.1 - slo n0 by omega] at X'
  have hh : s₂.heap = T'.heap := by rw [hs2]; exact Stand.throwing_heap _ _ _
  obtain ⟨t, a1, b1⟩ := kk T'.heap (locs ++ L) la (r.map (tv P)) (by rw [← hh]; exact hPw) ⟨Nat.le_trans h2.1 (by rw [← hh, ← hT]; exact hF.1), fun z hz hA => by
      rw [← hh, hF.2 z (by show z < T.heap.size; rw [hT]; exact Nat.lt_of_lt_of_le hz h2.1) hA]
      show T.heap[z]? = _
      rw [hT]
      exact h2.2.1 z hz hA, fun z hz => by
      rcases List.mem_append.mp hz with y | y
      · exact h2.2.2 z y
      · exact hL z y⟩ h3 ⟨Nat.le_trans h40 h5, h6 h4.2⟩ T' rfl X'
  refine ⟨t, hstep₁ _ fun acts => ?_, b1⟩
  rw [doInvoke_state]
  refine Steps.trans hsteps ?_
  rw [hs2]
  exact a1
end Throws
