/-! Rows of the instructions that touch fields and arrays -/
theorem gt_in {w : Cond} (h : w ∈ lw_tbl) (hg : goodWord w = true) : w ∈ gtbl := List.mem_filter.mpr ⟨h, hg⟩
theorem fldG {ci : Nat} (h : ci < 15) : ∀ w ∈ u_ws (cn ci) (fT ci) (nF ci), w ∈ gtbl := by
  intro w hw
  refine gt_in (fld_in h w hw) ?_
  unfold u_ws at hw
  obtain ⟨k, -, rfl⟩ := List.mem_map.mp hw
  unfold u_lay
  split <;> rfl
theorem shc_kind : ∀ k, k < 200 → shc k < 15 ∨ shc k = 100 ∨ shc k = 101 ∨ shc k = 102 := by decide +kernel
theorem shc_out {k : Nat} (h : 200 ≤ k) : shc k = 999 := by
  unfold shc
  have : shcL.length = 200 := by decide +kernel
  rw [List.getD_eq_getElem?_getD, List.getElem?_eq_none (by omega)]
  rfl
theorem fr_str : ∀ q ∈ frL, q.2.2.1 = 90 → (q.2.2.2.1 = 0 ∧ q.2.2.2.2 = 8) ∨ (q.2.2.2.1 = 1 ∧ q.2.2.2.2 = 9) := by decide +kernel
theorem fld_ref : ∀ ci, ci < 15 → ∀ k, k < nF ci → fK ci k = 1 ∨ fK ci k = 3 → (match fY ci k with | .object _ => true | .array _ => true | _ => false) = true := by decide +kernel
theorem enO_o {P : Pl} {w : Wd} {k : Nat} (h : shc k < 100) : enO P w k = .inr (shc k, (List.range (nF (shc k))).map (fvl P w k)) := by
  unfold enO
  rw [if_neg]
  intro q
  have := Nat.le_of_ble_eq_true q
  omega
theorem enO_a {P : Pl} {w : Wd} {k : Nat} (h : 100 ≤ shc k) : enO P w k = .inl (P.2.2.1 (shc k), shl k, .inl (w.2.2.1 k)) := by
  unfold enO
  rw [if_pos (Nat.ble_eq_true_of_le h)]
theorem enO_same {P : Pl} {w w' : Wd} {q : Nat} (h1 : w'.2.1 q = w.2.1 q) (h2 : w'.2.2.1 q = w.2.2.1 q) (h3 : w'.2.2.2 q = w.2.2.2 q) : enO P w' q = enO P w q := by
  unfold enO
  have : fvl P w' q = fvl P w q := by funext j; unfold fvl; rw [h1, h2, h3]
  rw [h2, this]
theorem map_set {α : Type} {N b : Nat} {f f' : Nat → α} {v : α} (hb : f' b = v) (ho : ∀ j, j ≠ b → f' j = f j) : ((List.range N).map f).set b v = (List.range N).map f' := by
  apply List.ext_getElem?
  intro j
  rw [List.getElem?_set]
  by_cases hj : j < N
  · by_cases e : b = j
    · subst e
      simp [hj, hb]
    · rw [if_neg e]
      simp [hj, ho j (fun q => e q.symm)]
  · have h1 : ((List.range N).map f)[j]? = none := by simp; omega
    have h2 : ((List.range N).map f')[j]? = none := by simp; omega
    rw [h2]
    split
    · split
      · rename_i e h
        subst e
        simp at h
        omega
      · rfl
    · exact h1
theorem blt_lt {a b : Nat} (h : Nat.blt a b = true) : a < b := Nat.le_of_ble_eq_true h
theorem up2_row {α : Type} (f : Nat → Nat → α) (k j q : Nat) (v : α) (h : q ≠ k) : up2 f k j v q = f q := by funext i; exact up2_k f k j q i v h
theorem fv0 {P : Pl} {w : Wd} {k j : Nat} (h : fK (shc k) j = 0) : fvl P w k j = .int (w.2.2.1 k j) := by unfold fvl; rw [h]; rfl
theorem fv4 {P : Pl} {w : Wd} {k j : Nat} (h : fK (shc k) j = 4) : fvl P w k j = .int (w.2.2.1 k j) := by unfold fvl; rw [h]; rfl
theorem fv1 {P : Pl} {w : Wd} {k j : Nat} (h : fK (shc k) j = 1) : fvl P w k j = rfv P (w.2.2.2 k j) := by unfold fvl; rw [h]; rfl
theorem fv2 {P : Pl} {w : Wd} {k j : Nat} (h : fK (shc k) j = 2) : fvl P w k j = .int (if w.2.1 k j then Int32.ofNat (sf k j) else 0) := by unfold fvl; rw [h]; rfl
theorem fv3 {P : Pl} {w : Wd} {k j : Nat} (h : fK (shc k) j = 3) : fvl P w k j = if w.2.1 k j then .ref (P.1 + sf k j) else .null := by unfold fvl; rw [h]; rfl
section Cells
variable {p : Program} {l : Launch} {e : Env} {R : Room} {s : State} {mi : MethodId} {args : Array Value} {below : List Frame} {meth : Method} {c : Code} {m n0 : Nat} {P : Pl} {E : Xe} {Q : State → Prop}
variable {pc n a b cc d : Nat} {v : Int32} {ls st : List Value} {w : Wd} {g : Fr}
theorem frLink (C : Cx p R s mi args meth c m P E n0) {q : Nat} (h : frL[d]? = some (ow m, q, a, b, cc)) (h9 : a ≠ 90) : a < 15 ∧ b < nF a ∧ cc = fK a b ∧ (Cond.fieldLink (cn (ow m)) q (fT a b).1 (fT a b).2.1 (fT a b).2.2.1).before args s = true := by
  have hm := List.mem_of_getElem? h
  rcases fr_ok _ hm with e | ⟨e1, e2, e3⟩
  · exact absurd e h9
  · refine ⟨e1, e2, e3, C.2.2.2.2.2.1 _ (gt_in ?_ rfl)⟩
    have hi := fr_in _ hm
    unfold frW at hi
    rw [if_neg h9] at hi
    exact hi
theorem shc_not90 (h : shc b = 90) : False := by
  by_cases hb : b < 200
  · have := shc_kind b hb
    omega
  · rw [shc_out (by omega)] at h
    omega
theorem g_get (C : Cx p R s mi args meth c m P E n0) {q k : Nat} {r : List Value} (hd : decode (bO m) pc = .ok (.getfield q, 3)) (hf : frL[d]? = some (ow m, q, a, b, cc)) (hk : k < w.1) (hs : shc k = a)
    (kk : ∀ (H : Heap) (locs : List Loc) (la : Array Slot), ReH P w H → va_S (AO P) s.heap H locs → LsR P m ls la → (n0 ≤ w.1 ∧ w.1 ≤ 200) → W p l e R s mi args below meth c H locs (w.1 - n0) (slo w.1 - slo n0) Q (F0 mi (pc + 3) la (fvl P w k b :: r.map (tv P)))) : Wst p l e R s mi args below meth c m P n0 Q (pc, ls, .ref k :: r, w) := by
  intro H locs la h1 h2 h3 h4
  obtain ⟨e1, e2, e3, e4⟩ := frLink C hf (fun z => shc_not90 (hs.trans z))
  have hat := wsO_at P w hk
  rw [enO_o (by omega), hs] at hat
  exact va_get (D := P.2.1) (ci := a) (C := cn a) (T := fT a) (N := nF a) C.1 C.2.1 C.2.2.2.2.2.1 (fldG e1) C.2.2.2.2.1 C.2.2.2.2.2.2.2.2.1 h1 k hat (clO_at e1) b e2 e4 (fun _ h9 => h9) (v := fvl P w k b) (by simp [e2]) hd (kk H locs la h1 h2 h3 h4)
theorem r_getfield {q : Nat} (C : Cx p R s mi args meth c m P E n0) (hd : decode (bO m) pc = .ok (.getfield q, n)) (ha : auxE m pc (.getfield q, n, a, b, cc, d, v) = true) (h : st1 E (.getfield q, n, a, b, cc, d, v) pc ls st w = some g) (k : Wst p l e R s mi args below meth c m P n0 Q g) : Wst p l e R s mi args below meth c m P n0 Q (pc, ls, st, w) := by
  simp only [auxE, Bool.and_eq_true, decide_eq_true_eq] at ha
  obtain rfl : n = 3 := Nat.eq_of_beq_eq_true ha.1
  have hf := ha.2
  simp only [st1] at h
  split at h
  · rename_i k0 r
    split at h
    · rename_i hc
      simp only [Bool.and_eq_true] at hc
      have hk := blt_lt hc.1
      have hs := Nat.eq_of_beq_eq_true hc.2
      obtain ⟨e1, e2, e3, -⟩ := frLink C hf (fun z => shc_not90 (hs.trans z))
      have hfk : fK (shc k0) b = cc := by rw [hs]; exact e3.symm
      split at h
      · rename_i e0
        cases h
        refine g_get C hd hf hk hs (fun H locs la h1 h2 h3 h4 => ?_)
        have := k H locs la h1 h2 h3 h4
        rw [fv0 (hfk.trans e0)]
        exact this
      · split at h
        · rename_i e0
          cases h
          refine g_get C hd hf hk hs (fun H locs la h1 h2 h3 h4 => ?_)
          have := k H locs la h1 h2 h3 h4
          rw [fv4 (hfk.trans e0)]
          exact this
        · split at h
          · rename_i e0
            split at h
            · rename_i x hx
              cases h
              refine g_get C hd hf hk hs (fun H locs la h1 h2 h3 h4 => ?_)
              have := k H locs la h1 h2 h3 h4
              rw [fv1 (hfk.trans e0), hx]
              exact this
            · cases h
          · split at h
            · rename_i hF
              split at h
              · rename_i e0
                cases h
                refine g_get C hd hf hk hs (fun H locs la h1 h2 h3 h4 => ?_)
                have := k H locs la h1 h2 h3 h4
                rw [fv2 (hfk.trans e0), if_pos hF]
                exact this
              · split at h
                · rename_i e0
                  cases h
                  refine g_get C hd hf hk hs (fun H locs la h1 h2 h3 h4 => ?_)
                  have := k H locs la h1 h2 h3 h4
                  rw [fv3 (hfk.trans e0), if_pos hF]
                  exact this
                · cases h
            · cases h
    · cases h
  · rename_i x r
    split at h
    · rename_i hx
      simp only [isXS, Bool.and_eq_true] at hx
      have hx1 := Nat.le_of_ble_eq_true hx.1
      have hx2 := Nat.le_of_ble_eq_true hx.2
      have hm := List.mem_of_getElem? hf
      obtain ⟨adK, adV, h6, h7, h8⟩ := C.2.2.2.2.2.2.2.2.2.1.2.2.2.2.2.1
      obtain ⟨i, rfl⟩ : ∃ i, x = 10 + i := ⟨x - 10, by omega⟩
      have hi : i < 5 := by omega
      have hS := h7.1 i hi
      have hlk : a = 90 → (Cond.fieldLink (cn (ow m)) q "java/lang/String" (if b = 0 then "value" else "coder") (if b = 0 then "[B" else "B")).before args s = true := by
        intro e9
        have hin := fr_in _ hm
        unfold frW at hin
        rw [if_pos e9] at hin
        exact C.2.2.2.2.2.1 _ (gt_in hin rfl)
      have h9 : cc = 8 ∨ cc = 9 → a = 90 := by
        intro hz
        rcases fr_ok _ hm with e | ⟨e1, e2, e3⟩
        · exact e
        · have := (fld_fin a e1 b e2).2.1
          have : cc = fK a b := e3
          omega
      split at h
      · rename_i e8
        cases h
        have e9 := h9 (Or.inl e8)
        have hb : b = 0 := by
          rcases fr_str _ hm e9 with z | z
          · exact z.1
          · have : cc = 9 := z.2
            omega
        have hl := hlk e9
        rw [if_pos hb, if_pos hb] at hl
        intro H locs la h1 h2 h3 h4
        have kk := k H locs la h1 h2 h3 h4
        have t1 : tv P (.retAddr (10 + i)) = .ref (adK i) := (h6 i hi).1
        have t2 : tv P (.retAddr (10 + i + 10)) = .ref (adV i) := by
          rw [show 10 + i + 10 = 20 + i by omega]
          exact (h6 i hi).2
        show W p l e R s mi args below meth c H locs _ _ Q (F0 mi pc la (tv P (.retAddr (10 + i)) :: r.map (tv P)))
        rw [t1]
        refine vk_getf C.1 C.2.1 hS.2.2.1 h2 C.2.2.2.2.1 hl (fun _ h9 => h9) hd ?_
        rw [← t2]
        exact kk
      · split at h
        · rename_i e8
          cases h
          have e9 := h9 (Or.inr e8)
          have hb : b = 1 := by
            rcases fr_str _ hm e9 with z | z
            · have : cc = 8 := z.2
              omega
            · exact z.1
          have hl := hlk e9
          rw [if_neg (by omega), if_neg (by omega)] at hl
          intro H locs la h1 h2 h3 h4
          have kk := k H locs la h1 h2 h3 h4
          have t1 : tv P (.retAddr (10 + i)) = .ref (adK i) := (h6 i hi).1
          show W p l e R s mi args below meth c H locs _ _ Q (F0 mi pc la (tv P (.retAddr (10 + i)) :: r.map (tv P)))
          rw [t1]
          exact vk_getf C.1 C.2.1 hS.2.1 h2 C.2.2.2.2.1 hl (fun _ h9 => h9) hd kk
        · cases h
    · cases h
  · cases h
theorem g_put (C : Cx p R s mi args meth c m P E n0) {q k : Nat} {x : Value} {r : List Value} {w' : Wd} (hd : decode (bO m) pc = .ok (.putfield q, 3)) (hf : frL[d]? = some (ow m, q, a, b, cc)) (hk : k < w.1) (hs : shc k = a)
    (hfin : fK a b = 2 ∨ fK a b = 3 → (yO m).name = "<init>" ∧ ow m = a) (hn : narrow (fY a b) (tv P x) = tv P x) (hfit : fits (fY a b) (tv P x) = true) (hw1 : w'.1 = w.1) (hwk : fvl P w' k b = tv P x) (hwj : ∀ j, j ≠ b → fvl P w' k j = fvl P w k j) (hwq : ∀ z, z ≠ k → enO P w' z = enO P w z)
    (kk : Wst p l e R s mi args below meth c m P n0 Q (pc + 3, ls, r, w')) : Wst p l e R s mi args below meth c m P n0 Q (pc, ls, x :: .ref k :: r, w) := by
  intro H locs la h1 h2 h3 h4
  obtain ⟨e1, e2, e3, e4⟩ := frLink C hf (fun z => shc_not90 (hs.trans z))
  have hat := wsO_at P w hk
  rw [enO_o (by omega), hs] at hat
  have hset : (wsO P w).set k (P.1 + k, .inr (a, ((List.range (nF a)).map (fvl P w k)).set b (tv P x))) = wsO P w' := by
    refine wsO_set P w w' k _ hw1 ?_ hwq
    rw [enO_o (by omega), hs, map_set hwk hwj]
  have go : ∀ (H1 : Heap) (locs1 : List Loc), va_P P.2.1 clO ((wsO P w).set k (P.1 + k, .inr (a, ((List.range (nF a)).map (fvl P w k)).set b (tv P x)))) H1 → va_D (AO P) ((wsO P w).set k (P.1 + k, .inr (a, ((List.range (nF a)).map (fvl P w k)).set b (tv P x)))) → va_S (AO P) s.heap H1 locs1 → W p l e R s mi args below meth c H1 locs1 (w.1 - n0) (slo w.1 - slo n0) Q (F0 mi (pc + 3) la (r.map (tv P))) := by
    intro H1 locs1 g1 _ g3
    rw [hset] at g1
    have := kk H1 locs1 la g1 g3 h3 (by show n0 ≤ w'.1 ∧ w'.1 ≤ 200; rw [hw1]; exact h4)
    dsimp only at this
    rw [hw1] at this
    exact this
  cases hb : (fT a b).2.2.2 with
  | false => exact va_put (D := P.2.1) (ci := a) (C := cn a) (T := fT a) (N := nF a) (v := tv P x) (ty := fY a b) C.1 C.2.1 C.2.2.2.2.2.1 (fldG e1) (fY a) (fld_ty a e1) (fld_nm a e1) C.2.2.2.2.1 C.2.2.2.2.2.2.2.2.1 h1 (wsO_D P w) h2 k hat (clO_at e1) b e2 e4 (fun _ h9 => h9) hb (fld_ty a e1 b e2) hn hfit (by simp [e2]) hd go
  | true =>
    have hfi := hfin ((fld_fin a e1 b e2).1.mp hb)
    refine va_putF (D := P.2.1) (ci := a) (C := cn a) (T := fT a) (N := nF a) (v := tv P x) (ty := fY a b) C.1 C.2.1 C.2.2.2.2.2.1 (fldG e1) (fY a) (fld_ty a e1) (fld_nm a e1) C.2.2.2.2.1 C.2.2.2.2.2.2.2.2.1 h1 (wsO_D P w) h2 k hat (clO_at e1) b e2 e4 (fun _ h9 => h9) hb (C.2.2.2.2.2.2.2.1 hfi.1) (by rw [hfi.2]; exact (fld_fin a e1 b e2).2.2.2.2.2) (fld_ty a e1 b e2) hn hfit (by simp [e2]) hd go
theorem fvl_int {k j : Nat} {x : Int32} {b' : Nat} (hj : j ≠ b') : fvl P (w.1, w.2.1, up2 w.2.2.1 k b' x, w.2.2.2) k j = fvl P w k j := by
  unfold fvl
  dsimp only
  rw [up2_j _ _ _ _ _ hj]
theorem fvl_ref {k j : Nat} {x : Option Nat} {b' : Nat} (hj : j ≠ b') : fvl P (w.1, w.2.1, w.2.2.1, up2 w.2.2.2 k b' x) k j = fvl P w k j := by
  unfold fvl
  dsimp only
  rw [up2_j _ _ _ _ _ hj]
theorem fvl_fin {k j : Nat} {x : Bool} {b' : Nat} (hj : j ≠ b') : fvl P (w.1, up2 w.2.1 k b' x, w.2.2.1, w.2.2.2) k j = fvl P w k j := by
  unfold fvl
  dsimp only
  simp only [up2_j _ _ _ _ _ hj]
theorem nar_ref {ty : FieldType} (h : (match ty with | .object _ => true | .array _ => true | _ => false) = true) (q : Nat) : narrow ty (.ref q) = .ref q ∧ fits ty (.ref q) = true := by
  cases ty <;> first | (exact ⟨rfl, rfl⟩) | (cases h)
theorem r_putfield {q : Nat} (C : Cx p R s mi args meth c m P E n0) (hd : decode (bO m) pc = .ok (.putfield q, n)) (ha : auxE m pc (.putfield q, n, a, b, cc, d, v) = true) (h : st1 E (.putfield q, n, a, b, cc, d, v) pc ls st w = some g) (k : Wst p l e R s mi args below meth c m P n0 Q g) : Wst p l e R s mi args below meth c m P n0 Q (pc, ls, st, w) := by
  simp only [auxE, Bool.and_eq_true, Bool.or_eq_true, decide_eq_true_eq] at ha
  obtain rfl : n = 3 := Nat.eq_of_beq_eq_true ha.1.1
  have hf := ha.1.2
  have hi : cc = 2 ∨ cc = 3 → (yO m).name = "<init>" ∧ ow m = a := by
    intro hz
    rcases ha.2 with ((z | z) | z) | z
    · have := Nat.eq_of_beq_eq_true z; omega
    · have := Nat.eq_of_beq_eq_true z; omega
    · have := Nat.eq_of_beq_eq_true z; omega
    · exact ⟨z.1, Nat.eq_of_beq_eq_true z.2⟩
  simp only [st1] at h
  split at h
  · rename_i x k0 r
    split at h
    · rename_i hc
      simp only [Bool.and_eq_true] at hc
      have hk := blt_lt hc.1
      have hs := Nat.eq_of_beq_eq_true hc.2
      obtain ⟨e1, e2, e3, -⟩ := frLink C hf (fun z => shc_not90 (hs.trans z))
      have hfk : fK (shc k0) b = cc := by rw [hs]; exact e3.symm
      have ff := fld_fin a e1 b e2
      split at h
      · rename_i e0
        cases h
        refine g_put (w' := (w.1, w.2.1, up2 w.2.2.1 k0 b x, w.2.2.2)) C hd hf hk hs (by rw [← e3]; exact hi) ?_ ?_ rfl ?_ (fun j hj => fvl_int hj) (fun z hz => enO_same rfl (up2_row _ _ _ _ _ hz) rfl) k
        · rw [ff.2.2.1 (by omega)]; rfl
        · rw [ff.2.2.1 (by omega)]; rfl
        · exact (fv0 (hfk.trans e0)).trans (congrArg Value.int (up2_s _ _ _ _))
      · split at h
        · rename_i e0
          split at h
          · rename_i hx
            cases h
            refine g_put (w' := (w.1, w.2.1, up2 w.2.2.1 k0 b x, w.2.2.2)) C hd hf hk hs (by rw [← e3]; exact hi) ?_ ?_ rfl ?_ (fun j hj => fvl_int hj) (fun z hz => enO_same rfl (up2_row _ _ _ _ _ hz) rfl) k
            · rw [ff.2.2.2.2.1 (by omega)]; rcases hx with rfl | rfl <;> rfl
            · rw [ff.2.2.2.2.1 (by omega)]; rcases hx with rfl | rfl <;> rfl
            · exact (fv4 (hfk.trans e0)).trans (congrArg Value.int (up2_s _ _ _ _))
          · cases h
        · split at h
          · rename_i e0
            split at h
            · rename_i hx
              cases h
              refine g_put (w' := (w.1, up2 w.2.1 k0 b true, w.2.2.1, w.2.2.2)) C hd hf hk hs (by rw [← e3]; exact hi) ?_ ?_ rfl ?_ (fun j hj => fvl_fin hj) (fun z hz => enO_same (up2_row _ _ _ _ _ hz) rfl rfl) k
              · rw [ff.2.2.2.1 (by omega)]; rfl
              · rw [ff.2.2.2.1 (by omega)]; rfl
              · rw [fv2 (hfk.trans e0)]
                show Value.int (if up2 w.2.1 k0 b true k0 b = true then _ else _) = _
                rw [up2_s, if_pos rfl, hx]
                rfl
            · cases h
          · cases h
    · cases h
  · rename_i x k0 r
    split at h
    · rename_i hc
      simp only [Bool.and_eq_true] at hc
      have hk := blt_lt hc.1
      have hs := Nat.eq_of_beq_eq_true hc.2
      obtain ⟨e1, e2, e3, -⟩ := frLink C hf (fun z => shc_not90 (hs.trans z))
      have hfk : fK (shc k0) b = cc := by rw [hs]; exact e3.symm
      have fr := fld_ref a e1 b e2
      split at h
      · rename_i e0
        cases h
        have hr := nar_ref (fr (by omega)) (P.1 + x)
        refine g_put (w' := (w.1, w.2.1, w.2.2.1, up2 w.2.2.2 k0 b (some x))) C hd hf hk hs (by rw [← e3]; exact hi) hr.1 hr.2 rfl ?_ (fun j hj => fvl_ref hj) (fun z hz => enO_same rfl rfl (up2_row _ _ _ _ _ hz)) k
        rw [fv1 (hfk.trans e0)]
        show rfv P (up2 w.2.2.2 k0 b (some x) k0 b) = _
        rw [up2_s]
        rfl
      · split at h
        · rename_i e0
          split at h
          · rename_i hx
            cases h
            have hr := nar_ref (fr (by omega)) (P.1 + x)
            refine g_put (w' := (w.1, up2 w.2.1 k0 b true, w.2.2.1, w.2.2.2)) C hd hf hk hs (by rw [← e3]; exact hi) hr.1 hr.2 rfl ?_ (fun j hj => fvl_fin hj) (fun z hz => enO_same (up2_row _ _ _ _ _ hz) rfl rfl) k
            rw [fv3 (hfk.trans e0)]
            show (if up2 w.2.1 k0 b true k0 b = true then Value.ref (P.1 + sf k0 b) else _) = _
            rw [up2_s, if_pos rfl, ← hx]
            rfl
          · cases h
        · cases h
    · cases h
  · cases h
end Cells
