/-! new Wrong(): the exception object of the reference, made once -/
def wrN : String := "TaintHouseModel$Wrong"
theorem wr_words : ∀ w ∈ Bundle.throwableAtoms, goodWord w = true → w ∈ lw_tbl := by decide +kernel
theorem wr_chain : ∀ w ∈ Bundle.chain0Atoms "java/lang/RuntimeException" ["java/lang/Exception"], goodWord w = true → w ∈ lw_tbl := by decide +kernel
theorem wr_more : Cond.methodLink wrN 1 ⟨"java/lang/RuntimeException", "<init>", "()V"⟩ ∈ lw_tbl ∧ Cond.selects wrN Bundle.tFill0 Bundle.tFill0 ∈ lw_tbl ∧ Cond.selects wrN Bundle.tFill Bundle.tFill ∈ lw_tbl ∧ Cond.lays wrN Bundle.tN "cause" "Ljava/lang/Throwable;" ∈ lw_tbl ∧ Cond.lays wrN Bundle.tN "stackTrace" Bundle.steD ∈ lw_tbl ∧ Cond.lays wrN Bundle.tN "suppressedExceptions" Bundle.listD ∈ lw_tbl ∧ Cond.lays wrN Bundle.tN "backtrace" "Ljava/lang/Object;" ∈ lw_tbl ∧ Cond.fieldLink Bundle.tN 198 Bundle.tN "backtrace" "Ljava/lang/Object;" ∈ lw_tbl ∧ Cond.lays Bundle.tN Bundle.tN "backtrace" "Ljava/lang/Object;" ∈ lw_tbl ∧ Cond.lays wrN wrN "place" "I" ∈ lw_tbl ∧ Cond.instantiable wrN 7 ∈ lw_tbl := by decide +kernel
theorem wr_split1 : ∀ c ∈ Bundle.throwableAtoms, goodWord c = true ∨ c = .laysStatic Bundle.tN "UNASSIGNED_STACK" Bundle.steD ∨ c = .laysStatic Bundle.tN "SUPPRESSED_SENTINEL" Bundle.listD := by decide +kernel
theorem wr_split2 : ∀ c ∈ Bundle.chain0Atoms "java/lang/RuntimeException" ["java/lang/Exception"], goodWord c = true ∨ c = .declares ⟨"java/lang/Exception", "<init>", "()V"⟩ ∨ c = .declares ⟨"java/lang/Throwable", "<init>", "()V"⟩ := by decide +kernel
theorem wr_cd0 : decode (bO mWr) 0 = .ok (.aload_n 0, 1) := by decide +kernel
theorem wr_cd1 : decode (bO mWr) 1 = .ok (.invokespecial 1, 3) := by decide +kernel
theorem wr_cd4 : decode (bO mWr) 4 = .ok (.return_, 1) := by decide +kernel
theorem wr_m : yO mWr = ⟨wrN, "<init>", "()V"⟩ ∧ mx mWr = 1 ∧ rt mWr = none ∧ mWr ≠ mText ∧ mWr < nM ∧ 1 ≤ mWr ∧ sm mWr = 0 := by decide +kernel
def PW (P : Pl) (E : Xe) (o : Nat) : Array Value → State → Prop := fun v U => v = ([.ref o] : List Value).toArray ∧ Ko P E U ∧ P.1 ≤ U.heap.size ∧ P.1 ≤ o ∧ ∃ (cX : ClassId) (kX : Class), U.vm.findClass wrN = some cX ∧ U.vm.classes[cX]? = some kX ∧ U.heap[o]? = some (freshCell cX kX)
def QW (o : Nat) : Array Value → State → Outcome → State → Prop := fun _ st oo t => oo = .returned none ∧ t.heap.size = st.heap.size ∧ (∀ q : Nat, q ≠ o → t.heap[q]? = st.heap[q]?) ∧ ∃ (cell : Cell) (cX : ClassId), t.vm.findClass wrN = some cX ∧ t.heap[o]? = some cell ∧ cell.cls = cX ∧ cell.vm = .none ∧ ∀ i, SlotIs t wrN "place" "I" i → cell.slots[i]? = some (.int 0)
def rmW : Room := { frames := 5, cells := 0, slots := 0, locals := 110 }
set_option maxHeartbeats 4000000 in
theorem wr_met {l : Launch} (hNT : ∀ e : Env, l.admits e → e.platform.stackTraces = false) (P : Pl) (E : Xe) (o : Nat) : Met l (yO mWr) (codeW mWr :: gtbl) rmW (PW P E o) (QW o) 0 0 (AO P) := by
  obtain ⟨hy, hmx, hrt, hnt, hlt, h1, hsm⟩ := wr_m
  have hcw : codeW mWr = Cond.code (yO mWr) (bO mWr) 1 none := by unfold codeW; rw [if_neg hnt, hmx, hrt]
  refine Met.ofW (cc := bO mWr) (maxL := 1) (ret := none) (by rw [hy]; decide) (by rw [hcw]) ?_
  intro p e s m args below meth c s₁ B hml hv
  obtain ⟨rfl, hKo, hz, ho, cX, kX, hfX, hkX, hcell⟩ := hv
  have hx := B.exec
  have hb := B.bytes
  have hr := B.returns
  have hlk := B.notSynchronized
  have hts0 := atoms_spec (ws := codeW mWr :: gtbl) B.pre
  have hg : ∀ w ∈ lw_tbl, goodWord w = true → w.before ([.ref o] : List Value).toArray s = true := fun w h hgw => hts0 w (List.mem_cons_of_mem _ (gt_in h hgw))
  have hown : s.vm.findClass wrN = some m.cls := by
    have := findClass_of_methodNamed B.named
    rw [hy] at this
    exact this
  have hl := lv_entry ([.ref o]) (n := 1) (Nat.le_of_ble_eq_true rfl)
  rw [lg_entry_eq]
  generalize (lg_sl ([.ref o]) ++ List.replicate (1 - (lg_sl ([.ref o])).length) Slot.unset).toArray = ls at hl ⊢
  have hl : lv_has ls 1 [(0, .ref o)] := hl
  refine lv_aload_n hx hb wr_cd0 rfl (lv_at hl 0 rfl) ?_
  intro T hT X
  have howns : e.platform.frameOwnsMonitors = true := by rw [X.admits.platform]
  have hfin : e.platform.finalization = false := by rw [X.admits.platform]
  have hpl : e.platform.magicAccessors = ({} : Platform).magicAccessors := by rw [X.admits.platform]
  obtain ⟨hz1, hz2, hd1, hd2, hd3⟩ := hKo.2.2.2.2.2.2.2.2
  obtain ⟨T0, Z, L, LZ, Y⟩ := ThrowableC.of_atoms (args := ([.ref o] : List Value).toArray) (s := s) howns hfin hpl (fun w hw => by
    rcases wr_split1 w hw with z | z | z
    · exact hg w (wr_words w hw z) z
    · rw [z]
      obtain ⟨c1, k1, i1, f1, a1, cell1, q1, q2, q3, q4, q5, q6, q7, q8, q9, q10, q11⟩ := hz1
      exact Cond.laysStatic_of q1 q2 q3 q4 q5 q6 q7 q8 q9
    · rw [z]
      obtain ⟨c1, k1, i1, f1, a1, cell1, q1, q2, q3, q4, q5, q6, q7, q8, q9, q10, q11⟩ := hz2
      exact Cond.laysStatic_of q1 q2 q3 q4 q5 q6 q7 q8 q9)
  obtain ⟨P1, Ps, hlen, L1, hL, hP1m, hlink1, hlink⟩ := Bundle.chain0 (args := ([.ref o] : List Value).toArray) (s := s) hpl Y.init0 ["java/lang/Exception"] "java/lang/RuntimeException" (by decide) (by decide) (fun w hw => by
    rcases wr_split2 w hw with z | z | z
    · exact hg w (wr_chain w hw z) z
    · rw [z]; exact va_Nw.use rfl hd2
    · rw [z]; exact va_Nw.use rfl hd3)
  obtain ⟨w1, w2, w3, w4, w5, w6, w7, w8, w9, w10, w11⟩ := wr_more
  have a' : ∀ w ∈ lw_tbl, goodWord w = true → w.holds ([.ref o] : List Value).toArray s none s [] = true := fun w h hgw => hg w h hgw
  obtain ⟨c1, kX', hc1, hk1, hord, -, -, hn6⟩ := Cond.instantiable_spec (a' _ w11 rfl)
  cases Option.some.inj (hc1.symm.trans hfX)
  cases Option.some.inj (hk1.symm.trans hkX)
  have hsel0 : selectMethod e.platform s.vm cX T0.fill0 = .method T0.fill0 := by
    obtain ⟨c2, r2, m2, q1, q2, q3, q4, -⟩ := Cond.selects_spec (a' _ w2 rfl)
    cases Option.some.inj (q1.symm.trans hfX)
    cases Option.some.inj (q2.symm.trans (State.methodFound?_of_named Y.fill0 (by decide)))
    cases Option.some.inj (q3.symm.trans Y.fill0)
    rw [Launch.admits_selectMethod X.admits]; exact q4
  have hselF : selectMethod e.platform s.vm cX T0.fill = .method T0.fill := by
    obtain ⟨c2, r2, m2, q1, q2, q3, q4, -⟩ := Cond.selects_spec (a' _ w3 rfl)
    cases Option.some.inj (q1.symm.trans hfX)
    cases Option.some.inj (q2.symm.trans (State.methodFound?_of_named Y.fill (by decide)))
    cases Option.some.inj (q3.symm.trans Y.fill)
    rw [Launch.admits_selectMethod X.admits]; exact q4
  -- the statics
  obtain ⟨u0, hu0e⟩ : ∃ u : RefV, P.2.2.2 6 = u.v := by
    rcases hKo.1 6 with z | ⟨a, z⟩
    · exact ⟨⟨.null, rfl⟩, z⟩
    · exact ⟨⟨.ref a, rfl⟩, z⟩
  obtain ⟨sen, hsene⟩ : ∃ u : RefV, P.2.2.2 7 = u.v := by
    rcases hKo.1 7 with z | ⟨a, z⟩
    · exact ⟨⟨.null, rfl⟩, z⟩
    · exact ⟨⟨.ref a, rfl⟩, z⟩
  obtain ⟨cellS, hcS, hiss⟩ := Y.statics
  have hu0 : cellS.slots[T0.fUnassigned.slot]? = some u0.v ∧ ¬ AO P T0.aS := by
    obtain ⟨c1, k1, i1, f1, a1, cell1, q1, q2, q3, q4, q5, q6, q7, q8, q9, q10, q11⟩ := hz1
    cases Option.some.inj (q2.symm.trans Y.unassigned)
    cases Option.some.inj (q4.symm.trans L.statics)
    cases Option.some.inj (q5.symm.trans hcS)
    exact ⟨by rw [← hu0e]; exact q10, q11⟩
  have hsen : cellS.slots[T0.fSentinel.slot]? = some sen.v := by
    obtain ⟨c1, k1, i1, f1, a1, cell1, q1, q2, q3, q4, q5, q6, q7, q8, q9, q10, q11⟩ := hz2
    cases Option.some.inj (q2.symm.trans Y.sentinel)
    cases Option.some.inj (q4.symm.trans L.statics)
    cases Option.some.inj (q5.symm.trans hcS)
    rw [← hsene]; exact q10
  obtain ⟨ci198, i198, fB, hk198, hg198, ha198, hsB, -, hnB, htB, hffB⟩ := Cond.ownField (t := .object "java/lang/Object") Y.found L.cls (by decide +kernel) (a' _ w8 rfl) (a' _ w9 rfl) e.platform hpl
  have hneS : T0.aS ≠ o := fun z => hu0.2 (by rw [z]; exact ho)
  have hknownS : cellS.vm ≠ .unknown := fun hu => by rw [hu] at hiss; cases hiss
  obtain ⟨tyC, dC, hdC, hdnC⟩ := Cond.laysAt hfX hkX Y.cause (a' _ w4 rfl)
  obtain ⟨tyS, dS, hdS, hdnS⟩ := Cond.laysAt hfX hkX Y.stack (a' _ w5 rfl)
  obtain ⟨tyP, dP, hdP, hdnP⟩ := Cond.laysAt hfX hkX Y.supp (a' _ w6 rfl)
  obtain ⟨tyB, dB, hdB, hdnB⟩ := Cond.laysAt hfX hkX hffB (a' _ w7 rfl)
  have bC := Cond.laysApart hdB hdC hdnB hdnC (by rw [hnB, Y.causeName]; decide)
  have bS := Cond.laysApart hdB hdS hdnB hdnS (by rw [hnB, Y.stackName]; decide)
  have bP := Cond.laysApart hdB hdP hdnB hdnP (by rw [hnB, Y.suppName]; decide)
  have hskip : SkipFacts T0 e.platform s (fun u => u) u0 ((preparedCellV T0.toThrowableT (freshCell cX kX) o u0 sen).withEntry T.cur) :=
    ⟨{ ci198 := ci198, i198 := i198, fBack := fB }, ⟨hk198, hg198, ha198, hsB⟩, by
      have := fresh_default (c := cX) tyB
      rw [htB] at this
      simpa [preparedCellV, Cell.setSlot, Cell.withEntry, Array.getElem?_setIfInBounds, bC, bS, bP, bC.symm, bS.symm, bP.symm, defaultValue] using this, fun _ _ => rfl⟩
  obtain ⟨tm, methC, cdC, kC, vm₁, hnC, -, -, -, -, -, -, -, hW₁, st1⟩ := Steps.initCold (tb := p.tables) (e := e) (below := below) (s := s) (U := T) X.here hx X.warmed hpl hown (t := Bundle.init0 "java/lang/RuntimeException") rfl rfl (by decide)
    (hg _ w1 rfl) (hg _ (wr_chain _ (by decide) rfl) rfl) (bytes := Bundle.five) (maxL := 1) (hg (.code (Bundle.init0 "java/lang/RuntimeException") Bundle.five 1 none) (wr_chain _ (by decide +kernel) rfl) rfl)
    (f := F0 m 1 ls [.ref o]) rfl (a := o) (rest := []) rfl (by rw [hb]; exact wr_cd1)
  cases Option.some.inj (hnC.symm.trans hP1m)
  have X₁ := X.noted hW₁
  have hTc : T.heap[o]? = some (freshCell cX kX) := by rw [hT]; exact hcell
  obtain ⟨vm₂, X₂, st2⟩ := X₁.ctorPlainOffV hx (g := F0 m 1 ls []) rfl (by rw [hml]; exact hl.1) T0 L Z LZ (P1 :: Ps)
    (fun P hP => by rcases List.mem_cons.mp hP with rfl | hP; exact L1; exact hL P hP) ⟨hlink1, hlink⟩ (u0 := u0) (sen := sen) (self := o) (cell := freshCell cX kX) (cellS := cellS)
    hTc (fun _ => by simp) (by simp) rfl rfl hsel0 hselF (by show T.heap[T0.aS]? = _; rw [hT]; exact hcS) hneS hknownS hu0.1 hsen
    (Takes.of_laid hkX hord tyC (by rw [Y.causeType]; rfl)) (Takes.of_laid hkX hord tyS (by rw [Y.stackType]; exact fits_refV_array _ u0)) (Takes.of_laid hkX hord tyP (by rw [Y.suppType]; exact fits_refV_object _ sen)) Y.objLocals hskip (hNT e X.admits) (ig := .invokespecial 1) (len := 3) [] (by rw [hb]; exact wr_cd1)
    (by simp only [List.length_cons, hlen]; show 4 < rmW.frames; decide) (by simp only [List.length_cons, hlen]; show 2 * (F0 m 1 ls []).monitorRoom + _ + (13 * 2 + 41) ≤ rmW.locals; simp [JFrame.monitorRoom, rmW])
  have hlo : o < T.heap.size := (Array.getElem?_eq_some_iff.mp hTc).1
  have hvr := W.vret (p := p) (l := l) (e := e) (R := (headSpec (codeW mWr :: gtbl) rmW).room) (s := s) (m := m) (args := ([.ref o] : List Value).toArray) (below := below) (meth := meth) (c := c) (H := (((T.setVm vm₁).setVm vm₂).setCell o ((preparedCellV T0.toThrowableT (freshCell cX kX) o u0 sen).setSlot T0.fStack.slot u0.v)).heap) (locs := [] ++ [⟨o, T0.fCause.slot⟩, ⟨o, T0.fStack.slot⟩, ⟨o, T0.fSupp.slot⟩, ⟨o, T0.fStack.slot⟩]) (cells := 0) (slots := 0) (Qc := QW o) (free := AO P) (pc := 4) (ls := ls) hx hb hr (fun t ht hWt => by
      refine ⟨rfl, ?_, ?_, ?_⟩
      · rw [ht, size_setCell]
        show T.heap.size = s.heap.size
        rw [hT]
      · intro q hq
        rw [ht]
        show (T.heap.setIfInBounds o _)[q]? = _
        rw [Array.getElem?_setIfInBounds, if_neg (fun z => hq z.symm), hT]
      · refine ⟨(preparedCellV T0.toThrowableT (freshCell cX kX) o u0 sen).setSlot T0.fStack.slot u0.v, cX, by rw [hWt.alike.findClass]; exact hfX, ?_, rfl, rfl, ?_⟩
        · rw [ht]
          show (T.heap.setIfInBounds o _)[o]? = _
          rw [Array.getElem?_setIfInBounds, if_pos rfl, if_pos hlo]
        · intro i hi
          obtain ⟨cf, kf, fi, fd, hfd, rfl⟩ := slotIs_moved hWt.alike.symm hi
          obtain ⟨tyF, dF, hdF, hdnF⟩ := Cond.laysAt hfX hkX hfd (a' _ w10 rfl)
          have hfn := State.fieldFound?_type hfd (t := .int) (by decide +kernel)
          have pC := Cond.laysApart hdF hdC hdnF hdnC (by rw [hfn.1, Y.causeName]; decide)
          have pS := Cond.laysApart hdF hdS hdnF hdnS (by rw [hfn.1, Y.stackName]; decide)
          have pP := Cond.laysApart hdF hdP hdnF hdnP (by rw [hfn.1, Y.suppName]; decide)
          have := fresh_default (c := cX) tyF
          rw [hfn.2] at this
          simpa [preparedCellV, Cell.setSlot, Array.getElem?_setIfInBounds, pC, pS, pP, pC.symm, pS.symm, pP.symm, defaultValue] using this) (fun q hq => by
      have : q.base = o := by simp at hq; rcases hq with rfl | rfl | rfl | rfl <;> rfl
      rw [this]; exact ho) wr_cd4 hlk
  obtain ⟨t, a1, b1⟩ := hvr _ rfl X₂
  refine ⟨t, ?_, b1⟩
  refine st1 _ fun acts => ?_
  rw [doInvoke_state]
  exact st2 t a1
