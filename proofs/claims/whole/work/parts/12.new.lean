/-! Rows that make cells -/
theorem clk_ok : ∀ q ∈ clkL, q.2.2 < 15 := by decide +kernel
theorem slo_arr : ∀ k, k < 200 → 100 ≤ shc k → sloL.getD k 0 = shl k ∧ shl k ≤ 100000 := by decide +kernel
theorem slo_obj : ∀ k, k < 200 → shc k < 14 → sloL.getD k 0 = nF (shc k) := by decide +kernel
theorem slo_wr : ∀ k, k < 200 → shc k = 14 → sloL.getD k 0 = 7 := by decide +kernel
theorem slo_mono {a b : Nat} (h : a ≤ b) : slo a ≤ slo b := by
  induction b with
  | zero => rw [Nat.le_zero.mp h]; exact Nat.le_refl _
  | succ b ih =>
    rcases Nat.lt_or_ge b a with e | e
    · rw [show a = b + 1 by omega]; exact Nat.le_refl _
    · show slo a ≤ slo b + _
      have := ih e
      omega
theorem wsO_push {P : Pl} {w w' : Wd} {x : va_E} (h1 : w'.1 = w.1 + 1) (ho : ∀ k, k < w.1 → enO P w' k = enO P w k) (hn : enO P w' w.1 = x) : wsO P w ++ [(P.1 + w.1, x)] = wsO P w' := by
  unfold wsO
  rw [h1, List.range_succ, List.map_append]
  congr 1
  · apply List.map_congr_left
    intro k hk
    rw [ho k (List.mem_range.mp hk)]
  · simp [hn]
theorem clr_s {α : Type} (f : Nat → Nat → α) (k : Nat) (v : α) : clr f k v k = fun _ => v := by funext j; simp [clr]
theorem clr_o {α : Type} (f : Nat → Nat → α) (k q : Nat) (v : α) (h : q ≠ k) : clr f k v q = f q := by funext j; simp [clr, h]
/-- the new cell lies where the row ends -/
theorem new_at {P : Pl} {w : Wd} {q sz n0 : Nat} {x : va_E} {H1 : Heap} {D : va_G} {cl : List vw_C} (hD : va_D (AO P) (wsO P w ++ [(q, x)])) (hP : va_P D cl (wsO P w ++ [(q, x)]) H1) (hz : H1.size ≤ sz + (w.1 - n0 + 1)) (hs : sz = P.1 + n0) (h0 : n0 ≤ w.1) : q = P.1 + w.1 := by
  have hlen : (wsO P w).length = w.1 := by simp [wsO]
  have hlast : (wsO P w ++ [(q, x)])[w.1]? = some (q, x) := by
    rw [List.getElem?_append_right (by omega), hlen]
    simp
  have g1 : q < H1.size := (hP w.1 _ hlast).lt
  have g2 : P.1 ≤ q := hD.2 w.1 _ hlast
  rcases Nat.lt_or_ge q (P.1 + w.1) with e | e
  · obtain ⟨k, rfl⟩ : ∃ k, q = P.1 + k := ⟨q - P.1, by omega⟩
    have hk : k < w.1 := by omega
    have h1 : (wsO P w ++ [(P.1 + k, x)])[k]? = some (P.1 + k, enO P w k) := by
      rw [List.getElem?_append_left (by omega)]
      exact wsO_at P w hk
    have := hD.1 k w.1 _ _ h1 hlast rfl
    omega
  · omega
section New
variable {p : Program} {l : Launch} {e : Env} {R : Room} {s : State} {mi : MethodId} {args : Array Value} {below : List Frame} {meth : Method} {c : Code} {m n0 : Nat} {P : Pl} {E : Xe} {Q : State → Prop}
variable {pc n a b cc d : Nat} {v : Int32} {ls st : List Value} {w : Wd} {g : Fr}
theorem r_newarray {q : ArrayType} (C : Cx p R s mi args meth c m P E n0) (hd : decode (bO m) pc = .ok (.newarray q, n)) (ha : auxE m pc (.newarray q, n, a, b, cc, d, v) = true) (h : st1 E (.newarray q, n, a, b, cc, d, v) pc ls st w = some g) (hr : g.2.2.2.1 - n0 ≤ R.cells ∧ slo g.2.2.2.1 - slo n0 ≤ R.slots) (k : Wst p l e R s mi args below meth c m P n0 Q g) : Wst p l e R s mi args below meth c m P n0 Q (pc, ls, st, w) := by
  simp only [auxE, Bool.and_eq_true] at ha
  obtain rfl : n = 2 := Nat.eq_of_beq_eq_true ha.1
  have hty : ∃ ty, newarray.typeOf q = ty ∧ ((ty = .int ∧ a = 100) ∨ (ty = .byte ∧ a = 101) ∨ (ty = .boolean ∧ a = 102)) := by
    have h2 := ha.2
    cases q <;> first | (exact ⟨_, rfl, Or.inl ⟨rfl, Nat.eq_of_beq_eq_true h2⟩⟩) | (exact ⟨_, rfl, Or.inr (Or.inl ⟨rfl, Nat.eq_of_beq_eq_true h2⟩)⟩) | (exact ⟨_, rfl, Or.inr (Or.inr ⟨rfl, Nat.eq_of_beq_eq_true h2⟩)⟩) | (cases h2)
  obtain ⟨ty, hty, hto⟩ := hty
  simp only [st1] at h
  split at h
  · rename_i x r
    split at h
    · cases h
    · rename_i hx
      split at h
      · rename_i hc
        simp only [Bool.and_eq_true] at hc
        have hs := Nat.eq_of_beq_eq_true hc.1
        have hl := Nat.eq_of_beq_eq_true hc.2
        cases h
        dsimp only at hr
        have hw : w.1 < 200 := by
          rcases Nat.lt_or_ge w.1 200 with z | z
          · exact z
          · rw [shc_out z] at hs; omega
        have hsl := slo_arr w.1 hw (by omega)
        have hsum : slo (w.1 + 1) = slo w.1 + shl w.1 := by show slo w.1 + sloL.getD w.1 0 = _; rw [hsl.1]
        intro H locs la h1 h2 h3 h4
        have hmono := slo_mono h4.1
        dsimp only at h4 hmono
        have hK := C.2.2.2.2.2.2.2.2.1
        have harr : (Cond.arrayClass (newarray.typeOf q)).before args s = true := by
          rw [hty]
          rcases hto with z | z | z <;> rw [z.1]
          · exact C.2.2.2.2.2.1 _ (gt_in arr_in.1 rfl)
          · exact C.2.2.2.2.2.1 _ (gt_in arr_in.2.1 rfl)
          · exact C.2.2.2.2.2.1 _ (gt_in arr_in.2.2 rfl)
        have hdv : defaultValue ty = .int 0 := by rcases hto with z | z | z <;> rw [z.1] <;> rfl
        have hcb : componentBytes ty ≤ 4 := by rcases hto with z | z | z <;> rw [z.1] <;> decide
        refine va_newa (D := P.2.1) (cl := clO) (A := AO P) (a0 := (shl w.1, .inl (fun _ => 0))) (N' := shl w.1) C.1 C.2.1 harr hty hK h1 (wsO_D P w) h2 (fun z hz => ?_) (fun cA => ?_) hx hl.symm ?_ ?_ ?_ hd ?_
        · show P.1 ≤ z
          rw [C.2.2.2.2.2.2.2.2.2.2.2.2.1] at hz
          omega
        · rw [vp_cell_i, hdv]
        · calc shl w.1 * componentBytes ty ≤ 100000 * 4 := Nat.mul_le_mul hsl.2 hcb
            _ ≤ 536870912 := by decide
        · show w.1 - n0 + 1 ≤ R.cells
          omega
        · show slo w.1 - slo n0 + shl w.1 ≤ R.slots
          omega
        · intro q1 cA H1 g1 g2 g3 g4 T hT X
          have hz := X.heapSize
          rw [hT] at hz
          have eq := new_at g3 g2 hz C.2.2.2.2.2.2.2.2.2.2.2.2.1 h4.1
          subst eq
          have ecA : cA = P.2.2.1 a := by
            have f1 : va_RA s cA ty := (g1.2 3 (cA, ty) rfl).2
            rcases hto with z | z | z
            · rw [z.1] at f1
              rw [z.2]
              exact Option.some.inj (Eq.trans (Eq.symm (f1 : s.vm.findClass _ = some cA)) ((hK.2 0 (P.2.2.1 100, .int) rfl).2 : s.vm.findClass _ = some _))
            · rw [z.1] at f1
              rw [z.2]
              exact Option.some.inj (Eq.trans (Eq.symm (f1 : s.vm.findClass _ = some cA)) ((hK.2 1 (P.2.2.1 101, .byte) rfl).2 : s.vm.findClass _ = some _))
            · rw [z.1] at f1
              rw [z.2]
              exact Option.some.inj (Eq.trans (Eq.symm (f1 : s.vm.findClass _ = some cA)) ((hK.2 2 (P.2.2.1 102, .boolean) rfl).2 : s.vm.findClass _ = some _))
          rw [wsO_push (w' := (w.1 + 1, w.2.1, clr w.2.2.1 w.1 0, w.2.2.2)) rfl (fun k0 hk0 => enO_same rfl (clr_o _ _ _ _ (by omega)) rfl) (by
            rw [enO_a (by omega), hs, ecA]
            show Sum.inl (_, _, Sum.inl (clr w.2.2.1 w.1 0 w.1)) = _
            rw [clr_s])] at g2
          have kk := k H1 locs la g2 g4 h3 ⟨by show n0 ≤ w.1 + 1; omega, by show w.1 + 1 ≤ 200; omega⟩
          dsimp only at kk
          rw [hsum, show w.1 + 1 - n0 = w.1 - n0 + 1 by omega, show slo w.1 + shl w.1 - slo n0 = slo w.1 - slo n0 + shl w.1 by omega] at kk
          exact kk T hT X
      · cases h
  · cases h
theorem r_new {q : Nat} (C : Cx p R s mi args meth c m P E n0) (h14 : a ≠ 14) (hd : decode (bO m) pc = .ok (.new q, n)) (ha : auxE m pc (.new q, n, a, b, cc, d, v) = true) (h : st1 E (.new q, n, a, b, cc, d, v) pc ls st w = some g) (hr : g.2.2.2.1 - n0 ≤ R.cells ∧ slo g.2.2.2.1 - slo n0 ≤ R.slots) (k : Wst p l e R s mi args below meth c m P n0 Q g) : Wst p l e R s mi args below meth c m P n0 Q (pc, ls, st, w) := by
  simp only [auxE, Bool.and_eq_true] at ha
  obtain rfl : n = 3 := Nat.eq_of_beq_eq_true ha.1
  have hm : (ow m, q, a) ∈ clkL := by simpa using ha.2
  have ha15 : a < 15 := clk_ok _ hm
  simp only [st1] at h
  rw [if_neg h14] at h
  split at h
  · rename_i hc
    simp only [Bool.and_eq_true] at hc
    have hs := Nat.eq_of_beq_eq_true hc.1
    cases h
    dsimp only at hr
    have hw : w.1 < 200 := by
      rcases Nat.lt_or_ge w.1 200 with z | z
      · exact z
      · rw [shc_out z] at hs; omega
    have hsl := slo_obj w.1 hw (by omega)
    rw [hs] at hsl
    have hsum : slo (w.1 + 1) = slo w.1 + nF a := by show slo w.1 + sloL.getD w.1 0 = _; rw [hsl]
    intro H locs la h1 h2 h3 h4
    have hmono := slo_mono h4.1
    dsimp only at h4 hmono
    have hK := C.2.2.2.2.2.2.2.2.1
    have hw' : enO P ((w.1 + 1, clr w.2.1 w.1 false, clr w.2.2.1 w.1 0, clr w.2.2.2 w.1 none) : Wd) w.1 = .inr (a, (List.range (nF a)).map (fvl P ((w.1 + 1, clr w.2.1 w.1 false, clr w.2.2.1 w.1 0, clr w.2.2.2 w.1 none) : Wd) w.1)) := by
      rw [enO_o (by omega), hs]
    refine va_new (D := P.2.1) (cl := clO) (A := AO P) (ci := a) (C := cn a) (T := fT a) (N := nF a) (fs := (List.range (nF a)).map (fvl P ((w.1 + 1, clr w.2.1 w.1 false, clr w.2.2.1 w.1 0, clr w.2.2.2 w.1 none) : Wd) w.1)) C.1 C.2.1 C.2.2.2.2.2.1 (fldG ha15) (fY a) (fld_ty a ha15) C.2.2.2.2.1 (C.2.2.2.2.2.1 _ (gt_in (clk_in _ hm) rfl)) (C.2.2.2.2.2.1 _ (gt_in (ins_in a (by omega)) rfl)) (C.2.2.2.2.2.1 _ (gt_in (ini_in a ha15) rfl)) hK h1 (wsO_D P w) h2 (fun z hz => ?_) (clO_at ha15) (fun j hj => ?_) ?_ ?_ hd ?_
    · show P.1 ≤ z
      rw [C.2.2.2.2.2.2.2.2.2.2.2.2.1] at hz
      omega
    · have e1 : vp_V ((List.range (nF a)).map (fvl P ((w.1 + 1, clr w.2.1 w.1 false, clr w.2.2.1 w.1 0, clr w.2.2.2 w.1 none) : Wd) w.1)) j = fvl P ((w.1 + 1, clr w.2.1 w.1 false, clr w.2.2.1 w.1 0, clr w.2.2.2 w.1 none) : Wd) w.1 j := by
        unfold vp_V
        rw [List.getD_eq_getElem?_getD, List.getElem?_map, List.getElem?_range hj]
        rfl
      rw [e1]
      obtain ⟨f1, f2, f3, f4, f5, f6⟩ := fld_fin a ha15 j hj
      have fr := fld_ref a ha15 j hj
      have z1 : clr w.2.1 w.1 false w.1 j = false := by rw [clr_s]
      have z2 : clr w.2.2.1 w.1 0 w.1 j = 0 := by rw [clr_s]
      have z3 : clr w.2.2.2 w.1 none w.1 j = none := by rw [clr_s]
      have hk5 : fK a j = 0 ∨ fK a j = 1 ∨ fK a j = 2 ∨ fK a j = 3 ∨ fK a j = 4 := by omega
      rcases hk5 with hk | hk | hk | hk | hk
      · rw [fv0 (by rw [hs]; exact hk), f3 hk]
        show _ = Value.int (clr w.2.2.1 w.1 0 w.1 j)
        rw [z2]; rfl
      · rw [fv1 (by rw [hs]; exact hk)]
        show _ = rfv P (clr w.2.2.2 w.1 none w.1 j)
        rw [z3]
        have := fr (Or.inl hk)
        cases hty : fY a j <;> rw [hty] at this <;> first | rfl | cases this
      · rw [fv2 (by rw [hs]; exact hk), f4 hk]
        show _ = Value.int (if clr w.2.1 w.1 false w.1 j = true then _ else _)
        rw [z1]; rfl
      · rw [fv3 (by rw [hs]; exact hk)]
        show _ = if clr w.2.1 w.1 false w.1 j = true then _ else Value.null
        rw [z1]
        have := fr (Or.inr hk)
        cases hty : fY a j <;> rw [hty] at this <;> first | rfl | cases this
      · rw [fv4 (by rw [hs]; exact hk), f5 hk]
        show _ = Value.int (clr w.2.2.1 w.1 0 w.1 j)
        rw [z2]; rfl
    · show w.1 - n0 + 1 ≤ R.cells
      omega
    · show slo w.1 - slo n0 + nF a ≤ R.slots
      omega
    · intro q1 H1 g2 g3 g4 T hT X
      have hz := X.heapSize
      rw [hT] at hz
      have eq := new_at g3 g2 hz C.2.2.2.2.2.2.2.2.2.2.2.2.1 h4.1
      subst eq
      rw [wsO_push (w' := (w.1 + 1, clr w.2.1 w.1 false, clr w.2.2.1 w.1 0, clr w.2.2.2 w.1 none)) rfl (fun k0 hk0 => enO_same (clr_o _ _ _ _ (by omega)) (clr_o _ _ _ _ (by omega)) (clr_o _ _ _ _ (by omega))) hw'] at g2
      have kk := k H1 locs la g2 g4 h3 ⟨by show n0 ≤ w.1 + 1; omega, by show w.1 + 1 ≤ 200; omega⟩
      dsimp only at kk
      rw [hsum, show w.1 + 1 - n0 = w.1 - n0 + 1 by omega, show slo w.1 + nF a - slo n0 = slo w.1 - slo n0 + nF a by omega] at kk
      exact kk T hT X
  · cases h
end New
