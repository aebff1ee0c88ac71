/-! ENDS of methods; the call of TaintHouseModel.text, which has a handler -/
theorem W.mono {p : Program} {l : Launch} {e : Env} {R : Room} {s : State} {m : MethodId} {args : Array Value} {below : List Frame} {meth : Method} {c : Code} {H : Heap} {locs : List Loc} {cells slots : Nat} {Q Q' : State → Prop} {g : JFrame} (h : W p l e R s m args below meth c H locs cells slots Q g) (hq : ∀ t, Q t → Q' t) : W p l e R s m args below meth c H locs cells slots Q' g := by
  intro T hT X
  obtain ⟨t, a, b⟩ := h T hT X
  exact ⟨t, a, hq t b⟩
section Ends
variable {p : Program} {l : Launch} {e : Env} {R : Room} {s : State} {mi : MethodId} {args : Array Value} {below : List Frame} {meth : Method} {c : Code} {m n0 : Nat} {P : Pl} {E : Xe} {Q : State → Prop}
variable {pc j b cc d q x : Nat} {ls st r as : List Value} {w w1 : Wd} {v : Option Value}
theorem c_rt {i : Instr} (C : Cx p R s mi args meth c m P E n0) (hd : decode (bO m) pc = .ok (i, 1)) (h : rt1 m i st = some v) : Wst p l e R s mi args below meth c m P n0 (Mx below P (.returned v) w n0 args s) (pc, ls, st, w) := by
  intro H locs la h1 h2 h3 h4
  have hrt := C.2.2.2.1
  have hlk := C.2.2.2.2.2.2.1
  have hq : ∀ t : State, t.heap = H → s.WarmedH t.vm → Qo P (.returned v) w args s (.returned (v.map (tv P))) t := fun t ht _ => ⟨rfl, by show ReH P w t.heap; rw [ht]; exact h1, h2.F ht⟩
  unfold rt1 at h
  split at h
  · split at h
    · rename_i x
      split at h
      · rename_i hr
        cases h
        exact W.mono (W.iret C.1 C.2.1 (hrt.trans hr) hq h2.2.2 hd hlk) (fun t => Mx.of)
      · rename_i hr
        split at h
        · rename_i hx
          cases h
          exact W.mono (W.zret C.1 C.2.1 (hrt.trans hr) (by rcases hx with rfl | rfl <;> rfl) hq h2.2.2 hd hlk) (fun t => Mx.of)
        · cases h
      · rename_i hr
        split at h
        · rename_i hx
          cases h
          exact W.mono (W.zret C.1 C.2.1 (hrt.trans hr) (by rw [← hx]; exact pk_nb x) hq h2.2.2 hd hlk) (fun t => Mx.of)
        · cases h
      · rename_i hr
        split at h
        · rename_i hx
          cases h
          exact W.mono (W.zret C.1 C.2.1 (hrt.trans hr) (by rw [← hx]; exact pk_nc x) hq h2.2.2 hd hlk) (fun t => Mx.of)
        · cases h
      · cases h
    · cases h
  · split at h
    · rename_i x
      split at h
      · rename_i hr
        cases h
        exact W.mono (W.lret C.1 C.2.1 (hrt.trans hr) hq h2.2.2 hd hlk) (fun t => Mx.of)
      · cases h
    · cases h
  · split at h
    · rename_i x
      split at h
      · rename_i nm hr
        cases h
        exact W.mono (W.aret C.1 C.2.1 (hrt.trans hr) (Or.inl ⟨_, rfl⟩) (Or.inr ⟨P.1 + x, rfl⟩) hq h2.2.2 hd hlk) (fun t => Mx.of)
      · cases h
    · cases h
  · split at h
    · split at h
      · rename_i hr
        cases h
        exact W.mono (W.vret C.1 C.2.1 (hrt.trans hr) hq h2.2.2 hd hlk) (fun t => Mx.of)
      · cases h
    · cases h
  · cases h
theorem txt_ok : mText < nM ∧ 1 ≤ mText ∧ sm mText = 0 ∧ (yO mText).name ≠ "<init>" ∧ npar mText = 0 ∧ ow mText = 12 := by decide +kernel
theorem c_text {k : Nat} (C : Cx p R s mi args meth c m P E n0) (hd : decode (bO m) pc = .ok (.invokevirtual q, 3)) (hl : (Cond.methodLink (cn (ow m)) q (yO mText)).before args s = true) (hf : frm mText + 1 ≤ frm m) (hlo : 8 + (mx mText + 11) + loc mText ≤ loc m)
    (hk : k < w.1) (hs : shc k = ow mText) (hcat : catS r ≤ 8) (hM : Ct l E P mText [.ref k] w (.returned v) w1) (h5 : w.1 ≤ w1.1) (h6 : w.1 ≤ 200 → w1.1 ≤ 200) (hR : w1.1 - n0 ≤ R.cells ∧ slo w1.1 - slo n0 ≤ R.slots) (kk : Wst p l e R s mi args below meth c m P n0 Q (pc + 3, ls, v.toList ++ r, w1)) : Wst p l e R s mi args below meth c m P n0 Q (pc, ls, .ref k :: r, w) := by
  intro H locs la h1 h2 h3 h4 T hT X
  have hsz := sz_of C h1 h2 h4.1 hT X
  obtain ⟨hj, hj1, hsm, hni, hnp, ho12⟩ := txt_ok
  have hm := mok hj
  have hini : (Cond.initialized (yO mText).cls).before args s = true := by
    rw [← hm.2.2.2]
    exact C.2.2.2.2.2.1 _ (gt_in (in_tbl (init_in _ (own_init mText hj))) rfl)
  have hinst : (Cond.instanceMethod (yO mText)).before args s = true := C.2.2.2.2.2.1 _ (gt_in (inst_in hj hj1 hsm) rfl)
  have hsel : (Cond.selects (yO mText).cls (yO mText) (yO mText)).before args s = true := C.2.2.2.2.2.1 _ (gt_in (sel_in hj hj1 hsm hni) rfl)
  have hcwm : codeW mText = Cond.codeWith (yO mText) (bO mText) (mx mText) (rt mText) [(15, 55, 58, 13)] := by unfold codeW; rw [if_pos rfl]
  have hcode : (Cond.codeWith (yO mText) (bO mText) (mx mText) (rt mText) [(15, 55, 58, 13)]).before args s = true := by
    have := C.2.2.2.2.2.1 _ ((goodC hj hj1 _ List.mem_cons_self).1)
    rw [hcwm] at this
    exact this
  obtain ⟨cellB, hcB, hoB, hclB⟩ := recv_O C h1 hk (by rw [hs, ho12]; decide)
  rw [hs, hm.2.2.2] at hclB
  obtain ⟨mk, methM, hnamed, hmethM, hstM, habM⟩ := Cond.instanceMethod_spec hinst
  obtain ⟨m9, methM', cM, hn9, hmethM', hcM, -, hlM, -, -, -, hsigM⟩ := Cond.codeWith_spec hcode
  cases hnamed.symm.trans hn9
  cases hmethM.symm.trans hmethM'
  obtain ⟨c2, r2, m2, q1, q2, q3, q4, kP, hkP, hkPi⟩ := Cond.selects_spec hsel
  cases hclB.symm.trans q1
  cases (State.methodFound?_of_named hnamed hm.2.1).symm.trans q2
  cases hnamed.symm.trans q3
  have hselP : selectMethod e.platform s.vm cellB.cls mk = .method mk := by rw [Launch.admits_selectMethod X.admits]; exact q4
  have hlen : ([] : List Value).length = methM.sig.parameters.length := by
    have h2 := hm.2.2.1
    rw [hsigM, hnp] at h2
    exact (Option.some.inj h2).symm
  have hpre : ∀ wd ∈ codeW mText :: gtbl, ∀ (a' : Array Value) (U : State), s.WarmedH U.vm → wd.before a' U = true := fun wd hwd a' U hU => word_at hU (goodC hj hj1 wd hwd).2 (C.2.2.2.2.2.1 _ (goodC hj hj1 wd hwd).1)
  have hRc' := hRc h4.1 h5 hR
  have hW8 := hWc (mi := mi) (pc := pc) (la := la) (st0 := r.map (tv P)) C hcat
  have hK : Back l R p e below s args (yO mText) 3 8 (PreOf R (w1.1 - w.1) (slo w1.1 - slo w.1) (Po P E [.ref k] w)) (PostOf (Qo P (.returned v) w1) (w1.1 - w.1) (slo w1.1 - slo w.1) (AO P)) :=
    va_backW (hh := [(15, 55, 58, 13)]) (bytes := bO mText) (maxL := mx mText) (ret := rt mText) hM.met Po.blind rfl rfl (Nat.le_trans hf C.2.2.2.2.2.2.2.2.2.2.1) (Nat.le_trans hlo C.2.2.2.2.2.2.2.2.2.2.2.1) hpre (by rw [hcwm]; exact List.mem_cons_self) (fun a' U hU => word_at hU (Or.inl (by first | rfl | simp [Cond.onTables, Cond.keeps, Cond.steady])) hini)
  have hrun : va_Run p l e R s mi args below meth c H locs (w.1 - n0) (slo w.1 - slo n0) (w1.1 - w.1) (slo w1.1 - slo w.1) (F0 mi pc la ((.ref k :: r).map (tv P))) (r.map (tv P)) (Qo P (.returned v) w1 (([.ref k] : List Value).map (tv P)).toArray) (AO P) := by
    intro T1 hT1 X1
    obtain ⟨vm₁, X₁, hstep₁⟩ := X1.invokevirtual C.1 C.2.2.2.2.1 hl hnamed hmethM hstM hkP hkPi hm.2.1 (a := P.1 + k) (cell := cellB) (by rw [hT1]; exact hcB)
      (fun z h => by rw [h] at hoB; cases hoB) hselP hmethM habM hkP hkPi (g := F0 mi pc la ((.ref k :: r).map (tv P))) rfl (argsL := []) (rest := r.map (tv P)) hlen rfl (by rw [C.2.1]; exact hd)
    obtain ⟨v', ⟨U', l2, c2, s2⟩, X', ⟨g', mk', t, L, e1, e2, hq, f1, hL, f2, f3⟩, hsteps⟩ := hK mi meth c ⟨T1.setVm vm₁, locs, w.1 - n0, slo w.1 - slo n0⟩ (F0 mi pc la (r.map (tv P))) (.invokevirtual q) mk (([.ref k] : List Value).map (tv P)).toArray X₁ rfl (by rw [C.2.2.1]; exact h3.1) (by rw [C.2.1]; exact hd) hW8 (X₁.named hnamed) ⟨hRc'.1, hRc'.2, po_at (as := [.ref k]) C h1 h2 hsz (T1.setVm vm₁) hT1 X₁.warmed⟩
    dsimp only [Pt.U, Pt.locs, Pt.cells, Pt.slots] at X' e1 e2 f1 f2 f3 hsteps
    subst f1; subst f2; subst f3
    exact ⟨v', (T1.setVm vm₁).calling g' mk' _, t, U', L, hT1, X', hL, e1, e2, hq, fun target h => hstep₁ _ fun acts => by rw [doInvoke_state]; exact hsteps.trans h⟩
  exact run_fin C hrun h2 h3 h4.1 h5 (h6 h4.2) kk T hT X
end Ends
