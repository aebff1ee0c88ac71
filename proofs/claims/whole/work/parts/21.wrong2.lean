/-! new Wrong() in the walk of TaintHouseModel's constructor -/
def mMI : Nat := 182
theorem wr_site : ∀ m, m < nM → (cdO m).zipIdx.all (fun x => match x.1.1 with | .new _ => (if x.1.2.2.1 = 14 then Nat.beq m mMI && Nat.beq x.2 14 else true) | _ => true) = true := by decide +kernel
theorem wr_codes : decode (bO mMI) 14 = .ok (.new 13, 3) ∧ decode (bO mMI) 17 = .ok (.dup, 1) ∧ decode (bO mMI) 18 = .ok (.invokespecial 15, 3) ∧ ow mMI = 12 ∧ 1 ≤ frm mMI ∧ 6 ≤ frm mMI ∧ 130 ≤ loc mMI ∧ (12, 13, 14) ∈ clkL ∧ (12, 15, mWr, 0, 5) ∈ mrL := by decide +kernel
theorem shc14 : ∀ k, k < 200 → shc k = 14 → k = 84 := by decide +kernel
theorem fT14 : fT 14 0 = (wrN, "place", "I", false) ∧ nF 14 = 1 ∧ fK 14 0 = 0 ∧ cn 14 = wrN := by decide +kernel
set_option maxHeartbeats 1000000 in
theorem wrOk {E : Xe} {l : Launch} (hNT : ∀ e : Env, l.admits e → e.platform.stackTraces = false) : WrOk E l := by
  intro p e R s mi args below meth c m n0 P Q pc n b cc d q v ls st w C hcd hs hcat hR k
  have hw : w.1 < 200 := by
    rcases Nat.lt_or_ge w.1 200 with z | z
    · exact z
    · rw [shc_out z] at hs; omega
  have hm := C.2.2.2.2.2.2.2.2.2.2.2.2.2.1
  have hsite := List.all_eq_true.mp (wr_site m hm) ((.new q, n, 14, b, cc, d, v), pc) (by
    refine List.mem_of_getElem? (i := pc) ?_
    rw [List.getElem?_zipIdx, hcd]
    simp)
  dsimp only at hsite
  rw [if_pos rfl, Bool.and_eq_true] at hsite
  obtain rfl : m = mMI := Nat.eq_of_beq_eq_true hsite.1
  obtain rfl : pc = 14 := Nat.eq_of_beq_eq_true hsite.2
  obtain ⟨g1, g2, g3, g4, g5, g6, g7, g8, g9⟩ := wr_codes
  obtain ⟨hy, hmx, hrt, hnt, hlt, h1', hsm⟩ := wr_m
  obtain ⟨f1, f2, f3, f4⟩ := fT14
  have hK := C.2.2.2.2.2.2.2.2.1
  have hsl := slo_wr w.1 hw hs
  have hsum : slo (w.1 + 1) = slo w.1 + 7 := by show slo w.1 + sloL.getD w.1 0 = _; rw [hsl]
  have hR2 := hR.2
  rw [hsum] at hR2
  intro H locs la h1 h2 h3 h4 T hT X
  have hsz := sz_of C h1 h2 h4.1 hT X
  have hmono := slo_mono h4.1
  dsimp only at h4 hmono
  obtain ⟨hSl, hfc, kC0, hkC0, hkd⟩ := hK.1 14 _ (clO_at (by decide))
  rw [f4] at hfc
  have hlnk : (Cond.classLink (cn (ow mMI)) 13 (cn 14)).before args s = true := by rw [g4]; exact C.2.2.2.2.2.1 _ (gt_in (clk_in _ g8) rfl)
  refine W.newcK (cC := P.2.1.1 14) (n := 7) (C := cn 14) C.1 C.2.1 C.2.2.2.2.1 hlnk (C.2.2.2.2.2.1 _ (gt_in ins_wr rfl)) (C.2.2.2.2.2.1 _ (gt_in (ini_in 14 (by decide)) rfl)) (g := F0 mi 14 la (st.map (tv P))) rfl g1 (show w.1 - n0 + 1 ≤ R.cells by omega) (show slo w.1 - slo n0 + 7 ≤ R.slots by omega) (by rw [f4]; exact hfc) hsz ?_ T hT X
  intro H1 kC hkC e1 z1 o1
  refine lv_dup C.1 C.2.1 g2 rfl ?_
  have hA : ∀ q : Nat, q < s.heap.size → ¬ AO P q → H1[q]? = s.heap[q]? := fun q hq hA => by
    rw [o1 q (by have := h2.1; omega)]
    exact h2.2.1 q hq hA
  have hz0 : P.1 ≤ s.heap.size := by rw [C.2.2.2.2.2.2.2.2.2.2.2.2.1]; omega
  have hKo := C.2.2.2.2.2.2.2.2.2.1
  have hnl : va_Nw (Cond.methodLinkNest (cn (ow mMI)) 15 (yO mWr) "TaintHouseModel") s := by
    have := hKo.2.2.2.2.2.2.1 _ g9 (by dsimp only; omega)
    rw [g4]
    exact this
  have hmw := mok hlt
  have hini : (Cond.initialized (yO mWr).cls).before args s = true := by
    rw [← hmw.2.2.2]
    exact C.2.2.2.2.2.1 _ (gt_in (in_tbl (init_in _ (own_init mWr hlt))) rfl)
  have hcw : codeW mWr = Cond.code (yO mWr) (bO mWr) 1 none := by unfold codeW; rw [if_neg hnt, hmx, hrt]
  have hcn : va_CN R s args (cn (ow mMI)) 15 (yO mWr) "TaintHouseModel" (bO mWr) 1 none (codeW mWr :: gtbl) rmW 0 0 0 :=
    va_cnB (Ts := gtbl) (ws' := gtbl) 0 C.2.2.2.2.2.1 (goodC hlt h1') (by rw [hcw]) rfl rfl hnl hini ⟨hmw.2.1.1, hmw.2.1.2, by rw [hmw.2.2.1]; decide +kernel⟩ ⟨by have := C.2.2.2.2.2.2.2.2.2.2.1; show 5 + 1 ≤ R.frames; omega, by have := C.2.2.2.2.2.2.2.2.2.2.2.1; show 8 + (1 + 11) + 110 ≤ R.locals; omega⟩
  have hrun := va_runIN (p := p) (l := l) (e := e) (R := R) (s := s) (m := mi) (args := args) (below := below) (meth := meth) (c := c) (H := H1) (locs := locs) (cells := w.1 - n0 + 1) (slots := slo w.1 - slo n0 + 7) (b := P.1 + w.1) (As := []) (rest := .ref (P.1 + w.1) :: st.map (tv P)) (g := F0 mi 18 la (.ref (P.1 + w.1) :: .ref (P.1 + w.1) :: st.map (tv P))) (Ts := gtbl) (nL := mx mMI) (cc := bO mMI) ⟨C.1, C.2.1, C.2.2.1, C.2.2.2.2.1, C.2.2.2.2.2.1⟩ (wr_met hNT P E (P.1 + w.1)) ⟨hcn, by rw [hy], C.2.2.2.2.2.1 _ (gt_in (inst_in hlt h1' hsm) rfl)⟩
    ⟨fun a U g mk hq => by
      obtain ⟨q0, q1, q2, q3, cX, kX, q4, q5, q6⟩ := hq
      exact ⟨q0, q1.to (U := U.calling g mk a) (State.WarmedH.refl U) q2 (fun _ _ _ => rfl), q2, q3, cX, kX, q4, q5, q6⟩, fun U hU hWm => by
      obtain ⟨kC', hkC', heC⟩ := hWm.alike.2.2 _ _ hkC
      refine ⟨rfl, hKo.to hWm hz0 (fun a ha hAa => by rw [hU]; exact hA a ha hAa), by rw [hU, z1]; omega, by omega, P.2.1.1 14, kC', by rw [hWm.alike.findClass]; exact hfc, hkC', ?_⟩
      rw [hU, e1]
      show some (blank _ kC) = some (freshCell _ kC')
      rw [heC]
      rfl⟩ rfl rfl h3.1 rfl (by
      have h9 := cat_tv (P := P) hKo.cat st
      show 2 * (F0 mi 18 la _).monitorRoom + (((Value.ref (P.1 + w.1) :: st.map (tv P)).map fun v => v.category)).sum ≤ 8
      rw [List.map_cons, List.sum_cons, h9]
      show 2 * 0 + (1 + catS st) ≤ 8
      omega) g3 ⟨by omega, by omega⟩
  intro T1 hT1 X1
  obtain ⟨v', st₀, t, T', L, e0, X', hL, e2, e3, ⟨hv, hsz', hoth, cell, cX, hcX, hcl, hccls, hcvm, hcsl⟩, hgo⟩ := hrun T1 hT1 X1
  obtain rfl : v' = none := Outcome.returned.inj hv
  have hWT := X'.warmed
  have hcX' : P.2.1.1 14 = cX := by
    rw [← e3, hWT.alike.findClass, hfc] at hcX
    exact Option.some.inj hcX
  have hslot : cell.slots[P.2.1.2 14 0]? = some (.int 0) := by
    refine hcsl _ ?_
    have h9 := hSl 0 (by rw [f2]; decide)
    dsimp only at h9
    rw [f1] at h9
    exact slotIs_moved (E := t) (by rw [← e3]; exact hWT.alike) h9
  have hheap : ∀ x : Nat, x ≠ P.1 + w.1 → T'.heap[x]? = H1[x]? := fun x hx => by rw [e2, hoth x hx, e0]
  have hP' : ReH P (w.1 + 1, clr w.2.1 w.1 false, clr w.2.2.1 w.1 0, clr w.2.2.2 w.1 none) T'.heap := by
    unfold ReH
    rw [← wsO_push (P := P) (w := w) (w' := (w.1 + 1, clr w.2.1 w.1 false, clr w.2.2.1 w.1 0, clr w.2.2.2 w.1 none)) (x := .inr (14, [.int 0])) rfl (fun k0 hk0 => enO_same (clr_o _ _ _ _ (by omega)) (clr_o _ _ _ _ (by omega)) (clr_o _ _ _ _ (by omega))) (by
      rw [enO_o (by omega), hs, f2]
      show Sum.inr (14, [fvl P _ w.1 0]) = _
      rw [fv0 (by rw [hs]; exact f3)]
      show Sum.inr (14, [Value.int (clr w.2.2.1 w.1 0 w.1 0)]) = _
      rw [clr_s])]
    refine va_P.app (h1.kept fun k0 x hx => ?_) (fun k0 x hx => ?_)
    · obtain ⟨hk0, rfl⟩ := wsO_lt hx
      show T'.heap[P.1 + k0]? = H[P.1 + k0]?
      rw [hheap (P.1 + k0) (fun z => Nat.ne_of_lt hk0 (Nat.add_left_cancel z)), o1 (P.1 + k0) (Nat.add_lt_add_left hk0 _)]
    · have hz9 : k0 < 1 := (List.getElem?_eq_some_iff.mp hx).1
      rw [show k0 = 0 by omega] at hx
      cases hx
      refine ⟨_, clO_at (by decide), cell, by show T'.heap[P.1 + w.1]? = _; rw [e2]; exact hcl, by rw [hccls]; exact hcX'.symm, hcvm, fun k1 hk1 => ?_⟩
      have hk2 : k1 < 1 := by rw [← f2]; exact hk1
      obtain rfl : k1 = 0 := by omega
      exact hslot
  have hS' : va_S (AO P) s.heap T'.heap (locs ++ L) := by
    refine ⟨?_, fun x hx hAx => ?_, fun x hx => ?_⟩
    · rw [e2, hsz', e0, z1]
      have := h2.1
      omega
    · have hxn : x ≠ P.1 + w.1 := fun z => hAx (by show P.1 ≤ x; omega)
      rw [hheap x hxn]
      exact hA x hx hAx
    · rcases List.mem_append.mp hx with z | z
      · exact h2.2.2 x z
      · exact hL x z
  rw [Nat.add_zero, Nat.add_zero] at X'
  have kk := k T'.heap (locs ++ L) la hP' hS' h3 ⟨by show n0 ≤ w.1 + 1; omega, by show w.1 + 1 ≤ 200; omega⟩
  dsimp only at kk
  rw [hsum, show w.1 + 1 - n0 = w.1 - n0 + 1 by omega, show slo w.1 + 7 - slo n0 = slo w.1 - slo n0 + 7 by omega] at kk
  obtain ⟨t2, a2, b2⟩ := kk T' rfl X'
  exact ⟨t2, hgo _ a2, b2⟩
