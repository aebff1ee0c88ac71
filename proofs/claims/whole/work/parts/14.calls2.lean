/-! The other kinds of calls that return -/
theorem str_cls : ∀ j, j < nM → ow j = cStr → (yO j).cls = "java/lang/String" := by decide +kernel
section Calls14
variable {p : Program} {l : Launch} {e : Env} {R : Room} {s : State} {mi : MethodId} {args : Array Value} {below : List Frame} {meth : Method} {c : Code} {m n0 : Nat} {P : Pl} {E : Xe} {Q : State → Prop}
variable {pc j b cc d q : Nat} {ls st r as : List Value} {w w1 : Wd} {v : Option Value}
theorem hWc (C : Cx p R s mi args meth c m P E n0) {la : Array Slot} {st0 : List Value} (hcat : catS r ≤ 8) : 2 * (F0 mi pc la st0).monitorRoom + ((r.map (tv P)).map fun v => v.category).sum ≤ 8 := by
  rw [cat_tv (P := P) C.2.2.2.2.2.2.2.2.2.1.cat r]
  simpa [JFrame.monitorRoom] using hcat
theorem hRc (h4 : n0 ≤ w.1) (h5 : w.1 ≤ w1.1) (hR : w1.1 - n0 ≤ R.cells ∧ slo w1.1 - slo n0 ≤ R.slots) : w.1 - n0 + (w1.1 - w.1) ≤ R.cells ∧ slo w.1 - slo n0 + (slo w1.1 - slo w.1) ≤ R.slots := by
  have hm1 := slo_mono h4
  have hm2 := slo_mono h5
  omega
/-- a method of a text -/
theorem c_virtS {k : Nat} {As : List Value} (C : Cx p R s mi args meth c m P E n0) (hd : decode (bO m) pc = .ok (.invokevirtual q, 3)) (hl : (Cond.methodLink (cn (ow m)) q (yO j)).before args s = true) (hj : j < nM) (hj1 : 1 ≤ j) (hjt : j ≠ mText) (hsm : sm j = 0) (hni : (yO j).name ≠ "<init>") (hb : As.length = npar j) (hf : frm j + 1 ≤ frm m) (hlo : 8 + (mx j + 11) + loc j ≤ loc m)
    (hk : isXS k = true) (hs : ow j = cStr) (hcat : catS r ≤ 8) (hM : Ct l E P j (.retAddr k :: As) w (.returned v) w1) (h5 : w.1 ≤ w1.1) (h6 : w.1 ≤ 200 → w1.1 ≤ 200) (hR : w1.1 - n0 ≤ R.cells ∧ slo w1.1 - slo n0 ≤ R.slots) (kk : Wst p l e R s mi args below meth c m P n0 Q (pc + 3, ls, v.toList ++ r, w1)) : Wst p l e R s mi args below meth c m P n0 Q (pc, ls, As.reverse ++ .retAddr k :: r, w) := by
  intro H locs la h1 h2 h3 h4 T hT X
  have hsz := sz_of C h1 h2 h4.1 hT X
  simp only [isXS, Bool.and_eq_true] at hk
  have hx1 := Nat.le_of_ble_eq_true hk.1
  have hx2 := Nat.le_of_ble_eq_true hk.2
  obtain ⟨i, rfl⟩ : ∃ i, k = 10 + i := ⟨k - 10, by omega⟩
  obtain ⟨adK, adV, g6, g7, g8⟩ := C.2.2.2.2.2.2.2.2.2.1.2.2.2.2.2.1
  have t1 : tv P (.retAddr (10 + i)) = .ref (adK i) := (g6 i (by omega)).1
  have hcw : CallW R s args (cn (ow m)) (yO j).cls q (yO j) (bO j) (mx j) (rt j) (codeW j :: gtbl) (rmO j w w1) (w1.1 - w.1) (slo w1.1 - slo w.1) As.length := ⟨callB_O C hj hj1 hjt hl hb hf hlo, C.2.2.2.2.2.1 _ (gt_in (inst_in hj hj1 hsm) rfl), C.2.2.2.2.2.1 _ (gt_in (sel_in hj hj1 hsm hni) rfl)⟩
  have hrun := va_runV (e := e) (below := below) (meth := meth) (H := H) (locs := locs) (cells := w.1 - n0) (slots := slo w.1 - slo n0) (b := adK i) (As := As.map (tv P)) (rest := r.map (tv P)) (g := F0 mi pc la ((As.reverse ++ .retAddr (10 + i) :: r).map (tv P))) (Ts := gtbl) (nL := mx m) ⟨C.1, C.2.1, C.2.2.1, C.2.2.2.2.1, C.2.2.2.2.2.1⟩ hM.met hcw
    ⟨Po.blind, by rw [str_cls j hj hs]; exact vk_recv g7 (by omega) h2, fun U hU hW => by
      have := po_at (as := .retAddr (10 + i) :: As) C h1 h2 hsz U hU hW
      rw [List.map_cons, t1] at this
      exact this⟩ rfl (by simp) h3.1 (by simp [t1]) (hWc C hcat) hd (hRc h4.1 h5 hR)
  exact run_fin C hrun h2 h3 h4.1 h5 (h6 h4.2) kk T hT X
/-- a static method -/
theorem c_stat {As : List Value} (C : Cx p R s mi args meth c m P E n0) (hd : decode (bO m) pc = .ok (.invokestatic q, 3)) (hl : (Cond.methodLink (cn (ow m)) q (yO j)).before args s = true) (hj : j < nM) (hj1 : 1 ≤ j) (hjt : j ≠ mText) (hsm : sm j = 1) (hb : As.length = npar j) (hf : frm j + 1 ≤ frm m) (hlo : 8 + (mx j + 11) + loc j ≤ loc m)
    (hcat : catS r ≤ 8) (hM : Ct l E P j As w (.returned v) w1) (h5 : w.1 ≤ w1.1) (h6 : w.1 ≤ 200 → w1.1 ≤ 200) (hR : w1.1 - n0 ≤ R.cells ∧ slo w1.1 - slo n0 ≤ R.slots) (kk : Wst p l e R s mi args below meth c m P n0 Q (pc + 3, ls, v.toList ++ r, w1)) : Wst p l e R s mi args below meth c m P n0 Q (pc, ls, As.reverse ++ r, w) := by
  intro H locs la h1 h2 h3 h4 T hT X
  have hsz := sz_of C h1 h2 h4.1 hT X
  have hrun := va_runS (e := e) (below := below) (meth := meth) (H := H) (locs := locs) (cells := w.1 - n0) (slots := slo w.1 - slo n0) (As := As.map (tv P)) (rest := r.map (tv P)) (g := F0 mi pc la ((As.reverse ++ r).map (tv P))) (Ts := gtbl) (nL := mx m) ⟨C.1, C.2.1, C.2.2.1, C.2.2.2.2.1, C.2.2.2.2.2.1⟩ hM.met ⟨callB_O (b := As.length) C hj hj1 hjt hl hb hf hlo, C.2.2.2.2.2.1 _ (gt_in (stat_in hj hj1 hsm) rfl)⟩
    ⟨Po.blind, fun U hU hW => po_at (as := As) C h1 h2 hsz U hU hW⟩ rfl (by simp) h3.1 (by simp) (hWc C hcat) hd (hRc h4.1 h5 hR)
  exact run_fin C hrun h2 h3 h4.1 h5 (h6 h4.2) kk T hT X
theorem c_statN {As : List Value} {host : String} (C : Cx p R s mi args meth c m P E n0) (hd : decode (bO m) pc = .ok (.invokestatic q, 3)) (hl : va_Nw (Cond.methodLinkNest (cn (ow m)) q (yO j) host) s) (hj : j < nM) (hj1 : 1 ≤ j) (hjt : j ≠ mText) (hsm : sm j = 1) (hb : As.length = npar j) (hf : frm j + 1 ≤ frm m) (hlo : 8 + (mx j + 11) + loc j ≤ loc m)
    (hcat : catS r ≤ 8) (hM : Ct l E P j As w (.returned v) w1) (h5 : w.1 ≤ w1.1) (h6 : w.1 ≤ 200 → w1.1 ≤ 200) (hR : w1.1 - n0 ≤ R.cells ∧ slo w1.1 - slo n0 ≤ R.slots) (kk : Wst p l e R s mi args below meth c m P n0 Q (pc + 3, ls, v.toList ++ r, w1)) : Wst p l e R s mi args below meth c m P n0 Q (pc, ls, As.reverse ++ r, w) := by
  intro H locs la h1 h2 h3 h4 T hT X
  have hsz := sz_of C h1 h2 h4.1 hT X
  have hrun := va_runSN (e := e) (below := below) (meth := meth) (H := H) (locs := locs) (cells := w.1 - n0) (slots := slo w.1 - slo n0) (As := As.map (tv P)) (rest := r.map (tv P)) (g := F0 mi pc la ((As.reverse ++ r).map (tv P))) (Ts := gtbl) (nL := mx m) ⟨C.1, C.2.1, C.2.2.1, C.2.2.2.2.1, C.2.2.2.2.2.1⟩ hM.met ⟨callN_O (b := As.length) C hj hj1 hjt hl hb hf hlo, C.2.2.2.2.2.1 _ (gt_in (stat_in hj hj1 hsm) rfl), trivial⟩
    ⟨Po.blind, fun U hU hW => po_at (as := As) C h1 h2 hsz U hU hW⟩ rfl (by simp) h3.1 (by simp) (hWc C hcat) hd (hRc h4.1 h5 hR)
  exact run_fin C hrun h2 h3 h4.1 h5 (h6 h4.2) kk T hT X
/-- a constructor -/
theorem c_init {k : Nat} {As : List Value} (C : Cx p R s mi args meth c m P E n0) (hd : decode (bO m) pc = .ok (.invokespecial q, 3)) (hl : (Cond.methodLink (cn (ow m)) q (yO j)).before args s = true) (hj : j < nM) (hj1 : 1 ≤ j) (hjt : j ≠ mText) (hsm : sm j = 0) (hni : (yO j).name = "<init>") (hrt : rt j = none) (hb : As.length = npar j) (hf : frm j + 1 ≤ frm m) (hlo : 8 + (mx j + 11) + loc j ≤ loc m)
    (hcat : catS r ≤ 8) (hM : Ct l E P j (.ref k :: As) w (.returned v) w1) (h5 : w.1 ≤ w1.1) (h6 : w.1 ≤ 200 → w1.1 ≤ 200) (hR : w1.1 - n0 ≤ R.cells ∧ slo w1.1 - slo n0 ≤ R.slots) (kk : Wst p l e R s mi args below meth c m P n0 Q (pc + 3, ls, v.toList ++ r, w1)) : Wst p l e R s mi args below meth c m P n0 Q (pc, ls, As.reverse ++ .ref k :: r, w) := by
  intro H locs la h1 h2 h3 h4 T hT X
  have hsz := sz_of C h1 h2 h4.1 hT X
  have hcb := callB_O (b := As.length) (w := w) (w1 := w1) (R := R) C hj hj1 hjt hl hb hf hlo
  rw [hrt] at hcb
  have hrun := va_runI (e := e) (below := below) (meth := meth) (H := H) (locs := locs) (cells := w.1 - n0) (slots := slo w.1 - slo n0) (b := P.1 + k) (As := As.map (tv P)) (rest := r.map (tv P)) (g := F0 mi pc la ((As.reverse ++ .ref k :: r).map (tv P))) (Ts := gtbl) (nL := mx m) ⟨C.1, C.2.1, C.2.2.1, C.2.2.2.2.1, C.2.2.2.2.2.1⟩ hM.met ⟨hcb, hni, C.2.2.2.2.2.1 _ (gt_in (inst_in hj hj1 hsm) rfl)⟩
    ⟨Po.blind, fun U hU hW => po_at (as := .ref k :: As) C h1 h2 hsz U hU hW⟩ rfl (by simp) h3.1 (by simp [tv]) (hWc C hcat) hd (hRc h4.1 h5 hR)
  exact run_fin C hrun h2 h3 h4.1 h5 (h6 h4.2) kk T hT X
theorem c_initN {k : Nat} {As : List Value} {host : String} (C : Cx p R s mi args meth c m P E n0) (hd : decode (bO m) pc = .ok (.invokespecial q, 3)) (hl : va_Nw (Cond.methodLinkNest (cn (ow m)) q (yO j) host) s) (hj : j < nM) (hj1 : 1 ≤ j) (hjt : j ≠ mText) (hsm : sm j = 0) (hni : (yO j).name = "<init>") (hrt : rt j = none) (hb : As.length = npar j) (hf : frm j + 1 ≤ frm m) (hlo : 8 + (mx j + 11) + loc j ≤ loc m)
    (hcat : catS r ≤ 8) (hM : Ct l E P j (.ref k :: As) w (.returned v) w1) (h5 : w.1 ≤ w1.1) (h6 : w.1 ≤ 200 → w1.1 ≤ 200) (hR : w1.1 - n0 ≤ R.cells ∧ slo w1.1 - slo n0 ≤ R.slots) (kk : Wst p l e R s mi args below meth c m P n0 Q (pc + 3, ls, v.toList ++ r, w1)) : Wst p l e R s mi args below meth c m P n0 Q (pc, ls, As.reverse ++ .ref k :: r, w) := by
  intro H locs la h1 h2 h3 h4 T hT X
  have hsz := sz_of C h1 h2 h4.1 hT X
  have hcb := callN_O (b := As.length) (w := w) (w1 := w1) (R := R) C hj hj1 hjt hl hb hf hlo
  rw [hrt] at hcb
  have hrun := va_runIN (e := e) (below := below) (meth := meth) (H := H) (locs := locs) (cells := w.1 - n0) (slots := slo w.1 - slo n0) (b := P.1 + k) (As := As.map (tv P)) (rest := r.map (tv P)) (g := F0 mi pc la ((As.reverse ++ .ref k :: r).map (tv P))) (Ts := gtbl) (nL := mx m) ⟨C.1, C.2.1, C.2.2.1, C.2.2.2.2.1, C.2.2.2.2.2.1⟩ hM.met ⟨hcb, hni, C.2.2.2.2.2.1 _ (gt_in (inst_in hj hj1 hsm) rfl)⟩
    ⟨Po.blind, fun U hU hW => po_at (as := .ref k :: As) C h1 h2 hsz U hU hW⟩ rfl (by simp) h3.1 (by simp [tv]) (hWc C hcat) hd (hRc h4.1 h5 hR)
  exact run_fin C hrun h2 h3 h4.1 h5 (h6 h4.2) kk T hT X
theorem obj_in : Cond.instanceMethod Lib.objectInit ∈ lw_tbl ∧ Cond.code Lib.objectInit ⟨#[0xb1]⟩ 1 none ∈ lw_tbl := by decide +kernel
theorem math_in : Cond.static Lib.Math.max.name ∈ lw_tbl ∧ Cond.static Lib.Math.min.name ∈ lw_tbl ∧ Cond.static Lib.MathLoose.min_long.x ∈ lw_tbl ∧ Cond.initialized "java/lang/Math" ∈ lw_tbl ∧ Cond.code Lib.Math.max.name Lib.Math.max.code 2 (some .int) ∈ lw_tbl ∧ Cond.code Lib.Math.min.name Lib.Math.min.code 2 (some .int) ∈ lw_tbl ∧ Cond.code Lib.MathLoose.min_long.x Lib.MathLoose.min_long.code 4 (some .long) ∈ lw_tbl := by decide +kernel
theorem c_obj {k : Nat} (C : Cx p R s mi args meth c m P E n0) (hd : decode (bO m) pc = .ok (.invokespecial q, 3)) (hl : (Cond.methodLink (cn (ow m)) q Lib.objectInit).before args s = true) (hf : 1 ≤ frm m) (hlo : 25 ≤ loc m) (hcat : catS r ≤ 8) (kk : Wst p l e R s mi args below meth c m P n0 Q (pc + 3, ls, r, w)) : Wst p l e R s mi args below meth c m P n0 Q (pc, ls, .ref k :: r, w) := by
  intro H locs la h1 h2 h3 h4
  refine W.objInit C.1 C.2.1 C.2.2.2.2.1 hl (C.2.2.2.2.2.1 _ (gt_in obj_in.1 rfl)) (C.2.2.2.2.2.1 _ (gt_in obj_in.2 rfl)) (g := F0 mi pc la ((.ref k :: r).map (tv P))) rfl (by rw [C.2.2.1]; exact h3.1) (a := P.1 + k) (rest := r.map (tv P)) rfl hd (Nat.le_trans hf C.2.2.2.2.2.2.2.2.2.2.1) ?_ (kk H locs la h1 h2 h3 h4)
  have h8 := hWc (mi := mi) (pc := pc) (la := la) (st0 := (.ref k :: r).map (tv P)) C hcat
  have := C.2.2.2.2.2.2.2.2.2.2.2.1
  omega
theorem c_max {x y : Int32} (C : Cx p R s mi args meth c m P E n0) (hd : decode (bO m) pc = .ok (.invokestatic q, 3)) (hl : (Cond.methodLink (cn (ow m)) q Lib.Math.max.name).before args s = true) (hf : 1 ≤ frm m) (hlo : 25 ≤ loc m) (hcat : catS r ≤ 8) (hR : w.1 - n0 ≤ R.cells ∧ slo w.1 - slo n0 ≤ R.slots) (kk : Wst p l e R s mi args below meth c m P n0 Q (pc + 3, ls, .int (if x < y then y else x) :: r, w)) : Wst p l e R s mi args below meth c m P n0 Q (pc, ls, .int y :: .int x :: r, w) := by
  intro H locs la h1 h2 h3 h4
  have h8 := cat_tv (P := P) C.2.2.2.2.2.2.2.2.2.1.cat r
  have h9 := C.2.2.2.2.2.2.2.2.2.2.2.1
  exact va_mmax C.1 C.2.1 (by rw [C.2.2.1]; exact h3.1.symm) C.2.2.2.2.1 hl (C.2.2.2.2.2.1 _ (gt_in math_in.1 rfl)) (C.2.2.2.2.2.1 _ (gt_in math_in.2.2.2.1 rfl)) (C.2.2.2.2.2.1 _ (gt_in math_in.2.2.2.2.1 rfl)) (Nat.le_trans hf C.2.2.2.2.2.2.2.2.2.2.1) (by rw [h8]; omega) hR.1 hR.2 hd (kk H locs la h1 h2 h3 h4)
theorem c_min {x y : Int32} (C : Cx p R s mi args meth c m P E n0) (hd : decode (bO m) pc = .ok (.invokestatic q, 3)) (hl : (Cond.methodLink (cn (ow m)) q Lib.Math.min.name).before args s = true) (hf : 1 ≤ frm m) (hlo : 25 ≤ loc m) (hcat : catS r ≤ 8) (hR : w.1 - n0 ≤ R.cells ∧ slo w.1 - slo n0 ≤ R.slots) (kk : Wst p l e R s mi args below meth c m P n0 Q (pc + 3, ls, .int (if y < x then y else x) :: r, w)) : Wst p l e R s mi args below meth c m P n0 Q (pc, ls, .int y :: .int x :: r, w) := by
  intro H locs la h1 h2 h3 h4
  have h8 := cat_tv (P := P) C.2.2.2.2.2.2.2.2.2.1.cat r
  have h9 := C.2.2.2.2.2.2.2.2.2.2.2.1
  exact va_mmin C.1 C.2.1 (by rw [C.2.2.1]; exact h3.1.symm) C.2.2.2.2.1 hl (C.2.2.2.2.2.1 _ (gt_in math_in.2.1 rfl)) (C.2.2.2.2.2.1 _ (gt_in math_in.2.2.2.1 rfl)) (C.2.2.2.2.2.1 _ (gt_in math_in.2.2.2.2.2.1 rfl)) (Nat.le_trans hf C.2.2.2.2.2.2.2.2.2.2.1) (by rw [h8]; omega) hR.1 hR.2 hd (kk H locs la h1 h2 h3 h4)
theorem c_minL {x y : Int64} (C : Cx p R s mi args meth c m P E n0) (hd : decode (bO m) pc = .ok (.invokestatic q, 3)) (hl : (Cond.methodLink (cn (ow m)) q Lib.MathLoose.min_long.x).before args s = true) (hf : 1 ≤ frm m) (hlo : 25 ≤ loc m) (hcat : catS r ≤ 8) (hR : w.1 - n0 ≤ R.cells ∧ slo w.1 - slo n0 ≤ R.slots) (kk : Wst p l e R s mi args below meth c m P n0 Q (pc + 3, ls, .long (if y < x then y else x) :: r, w)) : Wst p l e R s mi args below meth c m P n0 Q (pc, ls, .long y :: .long x :: r, w) := by
  intro H locs la h1 h2 h3 h4
  have h8 := cat_tv (P := P) C.2.2.2.2.2.2.2.2.2.1.cat r
  have h9 := C.2.2.2.2.2.2.2.2.2.2.2.1
  exact va_mmin_long C.1 C.2.1 (by rw [C.2.2.1]; exact h3.1.symm) C.2.2.2.2.1 hl (C.2.2.2.2.2.1 _ (gt_in math_in.2.2.1 rfl)) (C.2.2.2.2.2.1 _ (gt_in math_in.2.2.2.1 rfl)) (C.2.2.2.2.2.1 _ (gt_in math_in.2.2.2.2.2.2 rfl)) (Nat.le_trans hf C.2.2.2.2.2.2.2.2.2.2.1) (by rw [h8]; omega) hR.1 hR.2 hd (kk H locs la h1 h2 h3 h4)
end Calls14
