/-! CALLS: a contract of method j for one run of the interpreter, and the rows of calls that return -/
def tvo (P : Pl) (o : Outcome) : Outcome := match o with
  | .returned v => .returned (v.map (tv P))
  | .threw k => .threw (P.1 + k)
def FrameX (st t : State) (L : List Loc) (k n : Nat) : Prop := st.WarmedH t.vm ∧ st.sameButNew ({ t with vm := st.vm } : State) L k n
def Qo (P : Pl) (o : Outcome) (w1 : Wd) : Array Value → State → Outcome → State → Prop := fun _ st oo t => oo = tvo P o ∧ ReH P w1 t.heap ∧ va_F (AO P) st t
def Po (P : Pl) (E : Xe) (as : List Value) (w : Wd) : Array Value → State → Prop := fun v U => v = (as.map (tv P)).toArray ∧ ReH P w U.heap ∧ U.heap.size = P.1 + w.1 ∧ va_K P.2.1 clO (tyO P) U ∧ Ko P E U
def rmO (j : Nat) (w w1 : Wd) : Room := { frames := frm j, cells := w1.1 - w.1, slots := slo w1.1 - slo w.1, locals := loc j }
def Ct (l : Launch) (E : Xe) (P : Pl) (j : Nat) (as : List Value) (w : Wd) (o : Outcome) (w1 : Wd) : Prop :=
  MetFree l (yO j) (headSpec (codeW j :: gtbl) (rmO j w w1)) (Po P E as w) (fun _ _ _ _ _ => True) (fun a st oo t => Qo P o w1 a st oo t ∧ ∃ L, FrameX st t L (w1.1 - w.1) (slo w1.1 - slo w.1) ∧ ∀ q ∈ L, AO P q.base)
theorem Ct.met {l : Launch} {E : Xe} {P : Pl} {j : Nat} {as : List Value} {w w1 : Wd} {v : Option Value} (h : Ct l E P j as w (.returned v) w1) : Met l (yO j) (codeW j :: gtbl) (rmO j w w1) (Po P E as w) (Qo P (.returned v) w1) (w1.1 - w.1) (slo w1.1 - slo w.1) (AO P) := by
  intro p e ha hc hk s m args below hf happ hP hK
  obtain ⟨n, o, h1, h2, h3, h4, L, h5, h6⟩ := h p e ha hc hk s m args below hf happ hP hK
  exact ⟨n, o, h1, h2, h3, h4, L, ⟨⟨_, h4.1⟩, h5.1, h5.2⟩, h6⟩
theorem Po.blind {P : Pl} {E : Xe} {as : List Value} {w : Wd} : FrameBlind (Po P E as w) := by
  intro a U g mk h
  obtain ⟨h1, h2, h3, h4, h5⟩ := h
  exact ⟨h1, h2, h3, va_K.moved (u := U) (U := U.calling g mk a) (Vm.Alike.refl U.vm) h4, h5.to (U := U.calling g mk a) (State.WarmedH.refl U) (by rw [h3]; omega) (fun _ _ _ => rfl)⟩
theorem good_g {w : Cond} (h : w ∈ gtbl) : (w.onTables && w.keeps) = true ∨ ∃ ty, w = .arrayClass ty := good_of_word (List.mem_filter.mp h).2
theorem goodC {j : Nat} (h : j < nM) (h1 : 1 ≤ j) : GoodIn gtbl (codeW j :: gtbl) := by
  intro w hw
  have hm : w ∈ gtbl := by
    rcases List.mem_cons.mp hw with e | e
    · rw [e]
      refine gt_in (code_in h h1) ?_
      unfold codeW
      split <;> rfl
    · exact e
  exact ⟨hm, good_g hm⟩
theorem own_init : ∀ k, k < nM → ow k < cnL.length := by decide +kernel
theorem mok {j : Nat} (h : j < nM) : plainName (yO j).cls = true ∧ ((yO j).cls ≠ "java/lang/invoke/MethodHandle" ∧ (yO j).cls ≠ "java/lang/invoke/VarHandle") ∧ (parseMethodDescriptor (yO j).desc).map (fun d => d.parameters.length) = some (npar j) ∧ cn (ow j) = (yO j).cls := by
  have := m_ok j h
  unfold mOK at this
  simp only [Bool.and_eq_true, decide_eq_true_eq] at this
  exact ⟨this.1.1.1, this.1.1.2, this.1.2, this.2⟩
section Calls13
variable {p : Program} {l : Launch} {e : Env} {R : Room} {s : State} {mi : MethodId} {args : Array Value} {below : List Frame} {meth : Method} {c : Code} {m n0 : Nat} {P : Pl} {E : Xe} {Q : State → Prop}
variable {pc j b cc d q : Nat} {ls st r as : List Value} {w w1 : Wd} {v : Option Value}
theorem sz_of {T : State} {H : Heap} {locs : List Loc} {sl : Nat} (C : Cx p R s mi args meth c m P E n0) (h1 : ReH P w H) (h2 : va_S (AO P) s.heap H locs) (h4 : n0 ≤ w.1) (hT : T.heap = H) (X : Stand p l e R s mi args below meth c T locs (w.1 - n0) sl) : H.size = P.1 + w.1 := by
  have hz := X.heapSize
  rw [hT, C.2.2.2.2.2.2.2.2.2.2.2.2.1] at hz
  have hs := h2.1
  rw [C.2.2.2.2.2.2.2.2.2.2.2.2.1] at hs
  rcases Nat.eq_or_lt_of_le h4 with e1 | e1
  · omega
  · have := (h1 (w.1 - 1) _ (wsO_at P w (by omega))).lt
    have : P.1 + (w.1 - 1) < H.size := this
    omega
theorem po_at {H : Heap} {locs : List Loc} (C : Cx p R s mi args meth c m P E n0) (h1 : ReH P w H) (h2 : va_S (AO P) s.heap H locs) (hsz : H.size = P.1 + w.1) : ∀ U : State, U.heap = H → s.WarmedH U.vm → Po P E as w (as.map (tv P)).toArray U := by
  intro U hU hW
  refine ⟨rfl, by rw [hU]; exact h1, by rw [hU]; exact hsz, va_K.moved hW.alike C.2.2.2.2.2.2.2.2.1, C.2.2.2.2.2.2.2.2.2.1.to hW ?_ (fun a ha hA => by rw [hU]; exact h2.2.1 a ha hA)⟩
  rw [C.2.2.2.2.2.2.2.2.2.2.2.2.1]
  omega
/-- behind a call that returns -/
theorem run_fin {H : Heap} {locs : List Loc} {la : Array Slot} {a : Array Value} {st0 : List Value} (C : Cx p R s mi args meth c m P E n0) (hr : va_Run p l e R s mi args below meth c H locs (w.1 - n0) (slo w.1 - slo n0) (w1.1 - w.1) (slo w1.1 - slo w.1) (F0 mi pc la st0) (r.map (tv P)) (Qo P (.returned v) w1 a) (AO P))
    (h2 : va_S (AO P) s.heap H locs) (h3 : LsR P m ls la) (h4 : n0 ≤ w.1) (h5 : w.1 ≤ w1.1) (h6 : w1.1 ≤ 200) (k : Wst p l e R s mi args below meth c m P n0 Q (pc + 3, ls, v.toList ++ r, w1)) : W p l e R s mi args below meth c H locs (w.1 - n0) (slo w.1 - slo n0) Q (F0 mi pc la st0) := by
  intro T hT X
  obtain ⟨v', st₀, t, T', L, e0, X', hL, e1, e2, ⟨hv, hP, hF⟩, hgo⟩ := hr T hT X
  have hv' : v' = v.map (tv P) := by
    have := hv
    unfold tvo at this
    exact Outcome.returned.inj this
  subst hv'
  have hm1 := slo_mono h4
  have hm2 := slo_mono h5
  rw [show w.1 - n0 + (w1.1 - w.1) = w1.1 - n0 by omega, show slo w.1 - slo n0 + (slo w1.1 - slo w.1) = slo w1.1 - slo n0 by omega] at X'
  obtain ⟨t2, a1, b1⟩ := k T'.heap (locs ++ L) la (by show ReH P w1 T'.heap; rw [e1]; exact hP) ⟨Nat.le_trans h2.1 (by rw [e1, ← e0]; exact hF.1), fun x hx hA => by
      rw [e1, hF.2 x (by rw [e0]; exact Nat.lt_of_lt_of_le hx h2.1) hA, e0]
      exact h2.2.1 x hx hA, fun x hx => by
      rcases List.mem_append.mp hx with z | z
      · exact h2.2.2 x z
      · exact hL x z⟩ h3 ⟨by show n0 ≤ w1.1; omega, h6⟩ T' rfl X'
  refine ⟨t2, hgo _ ?_, b1⟩
  have : (v.toList ++ r).map (tv P) = (v.map (tv P)).toList ++ r.map (tv P) := by cases v <;> simp
  dsimp only at a1
  rw [this] at a1
  exact a1
theorem callB_O (C : Cx p R s mi args meth c m P E n0) (hj : j < nM) (hj1 : 1 ≤ j) (hjt : j ≠ mText) (hl : (Cond.methodLink (cn (ow m)) q (yO j)).before args s = true) (hb : b = npar j) (hf : frm j + 1 ≤ frm m) (hlo : 8 + (mx j + 11) + loc j ≤ loc m) : CallB R s args (cn (ow m)) q (yO j) (bO j) (mx j) (rt j) (codeW j :: gtbl) (rmO j w w1) (w1.1 - w.1) (slo w1.1 - slo w.1) b := by
  have hm := mok hj
  have hini : (Cond.initialized (yO j).cls).before args s = true := by
    rw [← hm.2.2.2]
    exact C.2.2.2.2.2.1 _ (gt_in (in_tbl (init_in _ (own_init j hj))) rfl)
  have hcw : codeW j = Cond.code (yO j) (bO j) (mx j) (rt j) := by unfold codeW; rw [if_neg hjt]
  refine callB_of (Ts := gtbl) (ws' := gtbl) b C.2.2.2.2.2.1 (goodC hj hj1) (by rw [hcw]) rfl rfl hini hl ⟨hm.2.1.1, hm.2.1.2, by rw [hb]; exact hm.2.2.1⟩ ⟨Nat.le_trans hf C.2.2.2.2.2.2.2.2.2.2.1, Nat.le_trans hlo C.2.2.2.2.2.2.2.2.2.2.2.1⟩
theorem callN_O (C : Cx p R s mi args meth c m P E n0) {host : String} (hj : j < nM) (hj1 : 1 ≤ j) (hjt : j ≠ mText) (hl : va_Nw (Cond.methodLinkNest (cn (ow m)) q (yO j) host) s) (hb : b = npar j) (hf : frm j + 1 ≤ frm m) (hlo : 8 + (mx j + 11) + loc j ≤ loc m) : va_CN R s args (cn (ow m)) q (yO j) host (bO j) (mx j) (rt j) (codeW j :: gtbl) (rmO j w w1) (w1.1 - w.1) (slo w1.1 - slo w.1) b := by
  have hm := mok hj
  have hini : (Cond.initialized (yO j).cls).before args s = true := by
    rw [← hm.2.2.2]
    exact C.2.2.2.2.2.1 _ (gt_in (in_tbl (init_in _ (own_init j hj))) rfl)
  have hcw : codeW j = Cond.code (yO j) (bO j) (mx j) (rt j) := by unfold codeW; rw [if_neg hjt]
  exact va_cnB (Ts := gtbl) (ws' := gtbl) b C.2.2.2.2.2.1 (goodC hj hj1) (by rw [hcw]) rfl rfl hl hini ⟨hm.2.1.1, hm.2.1.2, by rw [hb]; exact hm.2.2.1⟩ ⟨Nat.le_trans hf C.2.2.2.2.2.2.2.2.2.2.1, Nat.le_trans hlo C.2.2.2.2.2.2.2.2.2.2.2.1⟩
theorem cat_tv (hP : ∀ k, (P.2.2.2 k).category = 1) (r : List Value) : ((r.map (tv P)).map fun v => v.category).sum = catS r := by
  unfold catS
  rw [List.map_map]
  congr 1
  apply List.map_congr_left
  intro x _
  exact tv_cat hP x
theorem recv_O (C : Cx p R s mi args meth c m P E n0) {H : Heap} {k : Nat} (h1 : ReH P w H) (hk : k < w.1) (hs : shc k < 15) : ∃ cellB : Cell, H[P.1 + k]? = some cellB ∧ cellB.vm.isStatics = false ∧ s.vm.findClass (cn (shc k)) = some cellB.cls := by
  have hat := wsO_at P w hk
  rw [enO_o (by omega)] at hat
  exact va_recv (q := (cn (shc k), fT (shc k), nF (shc k))) C.2.2.2.2.2.2.2.2.1 h1 (clO_at hs) hat
/-- an instance method of one of our own objects -/
theorem c_virt {k : Nat} {As : List Value} (C : Cx p R s mi args meth c m P E n0) (hd : decode (bO m) pc = .ok (.invokevirtual q, 3)) (hl : (Cond.methodLink (cn (ow m)) q (yO j)).before args s = true) (hj : j < nM) (hj1 : 1 ≤ j) (hjt : j ≠ mText) (hsm : sm j = 0) (hni : (yO j).name ≠ "<init>") (hb : As.length = npar j) (hf : frm j + 1 ≤ frm m) (hlo : 8 + (mx j + 11) + loc j ≤ loc m)
    (hk : k < w.1) (hs : shc k = ow j) (hs15 : shc k < 15) (hcat : catS r ≤ 8) (hM : Ct l E P j (.ref k :: As) w (.returned v) w1) (h5 : w.1 ≤ w1.1) (h6 : w.1 ≤ 200 → w1.1 ≤ 200) (hR : w1.1 - n0 ≤ R.cells ∧ slo w1.1 - slo n0 ≤ R.slots) (kk : Wst p l e R s mi args below meth c m P n0 Q (pc + 3, ls, v.toList ++ r, w1)) : Wst p l e R s mi args below meth c m P n0 Q (pc, ls, As.reverse ++ .ref k :: r, w) := by
  intro H locs la h1 h2 h3 h4 T hT X
  have hsz := sz_of C h1 h2 h4.1 hT X
  have hm := mok hj
  have hm1 := slo_mono h4.1
  have hm2 := slo_mono h5
  have hcw : CallW R s args (cn (ow m)) (yO j).cls q (yO j) (bO j) (mx j) (rt j) (codeW j :: gtbl) (rmO j w w1) (w1.1 - w.1) (slo w1.1 - slo w.1) As.length := ⟨callB_O C hj hj1 hjt hl hb hf hlo, C.2.2.2.2.2.1 _ (gt_in (inst_in hj hj1 hsm) rfl), C.2.2.2.2.2.1 _ (gt_in (sel_in hj hj1 hsm hni) rfl)⟩
  have hrun := va_runV (e := e) (below := below) (meth := meth) (H := H) (locs := locs) (cells := w.1 - n0) (slots := slo w.1 - slo n0) (b := P.1 + k) (As := As.map (tv P)) (rest := r.map (tv P)) (g := F0 mi pc la ((As.reverse ++ .ref k :: r).map (tv P))) (Ts := gtbl) (nL := mx m) ⟨C.1, C.2.1, C.2.2.1, C.2.2.2.2.1, C.2.2.2.2.2.1⟩ hM.met hcw
    ⟨Po.blind, by have := recv_O C h1 hk hs15; rw [hs, hm.2.2.2] at this; exact this, fun U hU hW => po_at (as := .ref k :: As) C h1 h2 hsz U hU hW⟩ rfl (by simp) h3.1 (by simp [tv]) (by
      have := cat_tv (P := P) C.2.2.2.2.2.2.2.2.2.1.cat r
      rw [this]
      simpa [JFrame.monitorRoom] using hcat) hd ⟨by show w.1 - n0 + (w1.1 - w.1) ≤ R.cells; have := h4.1; dsimp only at this; omega, by show slo w.1 - slo n0 + (slo w1.1 - slo w.1) ≤ R.slots; dsimp only at hm1; omega⟩
  exact run_fin C hrun h2 h3 h4.1 h5 (h6 h4.2) kk T hT X
end Calls13
