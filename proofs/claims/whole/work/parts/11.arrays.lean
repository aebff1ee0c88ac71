/-! Rows of arrays, constants, statics, switches -/
theorem ldcw_ok : ∀ l ∈ cdL, l.all (fun e => match e.1 with | .ldc_w _ => Nat.beq e.2.2.2.2.1 0 | _ => true) = true := by decide +kernel
theorem gst_in : ∀ q ∈ gstL, (if q.2.2.2 = 1 then Cond.fieldLink (cn q.1) q.2.1 "java/lang/String" "COMPACT_STRINGS" "Z" else if q.2.2.1 = 5 then Cond.fieldLink (cn q.1) q.2.1 "jdk/internal/util/Preconditions" "SIOOBE_FORMATTER" "Ljava/util/function/BiFunction;" else Cond.fieldLink (cn q.1) q.2.1 "TaintHouse" (stN (q.2.2.1 - 1)) "[I") ∈ lw_tbl := by decide +kernel
theorem gst_ok : ∀ q ∈ gstL, q.2.2.2 ≤ 1 ∧ (q.2.2.2 = 0 → q.2.2.1 = 1 ∨ q.2.2.1 = 2 ∨ q.2.2.1 = 3 ∨ q.2.2.1 = 5) := by decide +kernel
theorem swT_hit {l : List (Int32 × Nat)} {d t i : Nat} {x : Int32} (h : l[i]? = some (x, t)) (hb : ∀ (j : Nat) (q : Int32 × Nat), j < i → l[j]? = some q → q.1 ≠ x) : swT l d x = t := by
  induction l generalizing i with
  | nil => simp at h
  | cons a r ih =>
    obtain ⟨k, u⟩ := a
    cases i with
    | zero =>
      simp at h
      obtain ⟨rfl, rfl⟩ := h
      simp [swT]
    | succ i =>
      have h0 := hb 0 (k, u) (Nat.succ_pos i) rfl
      unfold swT
      rw [if_neg (fun z => h0 z.symm)]
      exact ih (by simpa using h) (fun j q hj hq => hb (j + 1) q (by omega) (by simpa using hq))
theorem swT_out {l : List (Int32 × Nat)} {d : Nat} {x : Int32} (hb : ∀ (j : Nat) (q : Int32 × Nat), l[j]? = some q → q.1 ≠ x) : swT l d x = d := by
  induction l with
  | nil => rfl
  | cons a r ih =>
    obtain ⟨k, u⟩ := a
    unfold swT
    rw [if_neg (fun z => hb 0 (k, u) rfl z.symm)]
    exact ih (fun j q hq => hb (j + 1) q (by simpa using hq))
theorem swT_look : ∀ (l : List (Int32 × Nat)) (ps : List (Int × Int)) (d : Nat) (dd pc : Int) (x : Int32), l.map (fun q => (q.1.toInt, (q.2 : Int))) = ps.map (fun q => (q.1, pc + q.2)) → pc + dd = (d : Int) → pc + Op.lookupswitch.offset ps dd x.toInt = (swT l d x : Int) := by
  intro l
  induction l with
  | nil =>
    intro ps d dd pc x h hd
    cases ps with
    | nil => exact hd
    | cons => simp at h
  | cons a r ih =>
    intro ps d dd pc x h hd
    cases ps with
    | nil => simp at h
    | cons b t =>
      obtain ⟨k, u⟩ := a
      obtain ⟨b1, b2⟩ := b
      simp only [List.map_cons, List.cons.injEq, Prod.mk.injEq] at h
      rw [Op.lookupswitch.offset_cons]
      unfold swT
      by_cases hk : x = k
      · rw [if_pos hk, if_pos (by rw [hk, h.1.1])]
        exact h.1.2.symm
      · rw [if_neg hk, if_neg (fun z => hk (Int32.toInt_inj.mp (by rw [h.1.1]; exact z.symm)))]
        exact ih t d dd pc x h.2 hd
section Arr
variable {p : Program} {l : Launch} {e : Env} {R : Room} {s : State} {mi : MethodId} {args : Array Value} {below : List Frame} {meth : Method} {c : Code} {m n0 : Nat} {P : Pl} {E : Xe} {Q : State → Prop}
variable {pc n a b cc d : Nat} {v : Int32} {ls st : List Value} {w : Wd} {g : Fr}
theorem r_lookupswitch {q : Int} {ps : Array (Int × Int)} (C : Cx p R s mi args meth c m P E n0) (hd : decode (bO m) pc = .ok (.lookupswitch q ps, n)) (ha : auxE m pc (.lookupswitch q ps, n, a, b, cc, d, v) = true) (h : st1 E (.lookupswitch q ps, n, a, b, cc, d, v) pc ls st w = some g) (k : Wst p l e R s mi args below meth c m P n0 Q g) : Wst p l e R s mi args below meth c m P n0 Q (pc, ls, st, w) := by
  simp only [auxE, Bool.and_eq_true, decide_eq_true_eq] at ha
  simp only [st1] at h
  split at h
  · rename_i x r
    cases h
    exact fun H locs la h1 h2 h3 h4 => lv_lookup C.1 C.2.1 hd ha.2 rfl (swT_look _ _ _ _ _ x ha.1.2 ha.1.1) (k H locs la h1 h2 h3 h4)
  · cases h
theorem r_tableswitch {q lo hi : Int} {offs : Array Int} (C : Cx p R s mi args meth c m P E n0) (hd : decode (bO m) pc = .ok (.tableswitch q lo hi offs, n)) (ha : auxE m pc (.tableswitch q lo hi offs, n, a, b, cc, d, v) = true) (h : st1 E (.tableswitch q lo hi offs, n, a, b, cc, d, v) pc ls st w = some g) (k : Wst p l e R s mi args below meth c m P n0 Q g) : Wst p l e R s mi args below meth c m P n0 Q (pc, ls, st, w) := by
  simp only [auxE, Bool.and_eq_true, decide_eq_true_eq] at ha
  obtain ⟨⟨hq, hl⟩, hh⟩ := ha
  simp only [st1] at h
  generalize swL.getD a ([], 0) = S at hq hl h
  obtain ⟨S1, S2⟩ := S
  dsimp only at hq hl h
  have hk : ∀ (j : Nat) (z : Int32 × Nat), S1[j]? = some z → j < offs.size ∧ z.1.toInt = lo + (j : Int) ∧ (z.2 : Int) = (pc : Int) + offs.toList.getD j 0 := by
    intro j z hz
    have h1 : (S1.map (fun q => (q.1.toInt, (q.2 : Int))))[j]? = some (z.1.toInt, (z.2 : Int)) := by rw [List.getElem?_map, hz]; rfl
    rw [hl] at h1
    have hj : j < offs.size := by
      have := (List.getElem?_eq_some_iff.mp h1).1
      simpa using this
    rw [List.getElem?_map, List.getElem?_range hj] at h1
    have h2 := Option.some.inj h1
    simp only [Prod.mk.injEq] at h2
    exact ⟨hj, h2.1.symm, h2.2.symm⟩
  have hlen : S1.length = offs.size := by
    have := congrArg List.length hl
    simpa using this
  split at h
  · rename_i x r
    cases h
    intro H locs la h1 h2 h3 h4
    by_cases hx : x.toInt < lo ∨ hi < x.toInt
    · have e1 : swT S1 S2 x = S2 := swT_out (fun j z hz e => by
        obtain ⟨g1, g2, -⟩ := hk j z hz
        rw [e] at g2
        omega)
      rw [e1] at k
      exact lv_tableOut C.1 C.2.1 hd hx hq (k H locs la h1 h2 h3 h4)
    · have hx1 : ¬ x.toInt < lo := fun z => hx (Or.inl z)
      have hx2 : ¬ hi < x.toInt := fun z => hx (Or.inr z)
      obtain ⟨i, hi0⟩ : ∃ i : Nat, x.toInt = lo + (i : Int) := ⟨(x.toInt - lo).toNat, by omega⟩
      have hi1 : i < offs.size := by omega
      obtain ⟨z, hz⟩ : ∃ z, S1[i]? = some z := ⟨S1[i]'(by omega), List.getElem?_eq_getElem (by omega)⟩
      obtain ⟨-, g2, g3⟩ := hk i z hz
      have ez : z.1 = x := Int32.toInt_inj.mp (by rw [g2, hi0])
      have e1 : swT S1 S2 x = z.2 := swT_hit (i := i) (by rw [hz, ← ez]) (fun j y hj hy e => by
        obtain ⟨-, f2, -⟩ := hk j y hy
        rw [e] at f2
        omega)
      rw [e1] at k
      refine lv_tableIn (off := offs.toList.getD i 0) C.1 C.2.1 hd hx1 hx2 ?_ g3.symm (k H locs la h1 h2 h3 h4)
      rw [show (x.toInt - lo).toNat = i by omega, ← Array.getElem?_toList, List.getD_eq_getElem?_getD, List.getElem?_eq_getElem (by simpa using hi1)]
      rfl
  · cases h
theorem arrAt {k : Nat} {H : Heap} (hk : k < w.1) (h1 : ReH P w H) (hs : 100 ≤ shc k) : (wsO P w)[k]? = some (P.1 + k, .inl (P.2.2.1 (shc k), shl k, .inl (w.2.2.1 k))) := by
  rw [wsO_at P w hk, enO_a hs]
theorem r_iaload (C : Cx p R s mi args meth c m P E n0) (hd : decode (bO m) pc = .ok (.iaload, n)) (ha : auxE m pc (.iaload, n, a, b, cc, d, v) = true) (h : st1 E (.iaload, n, a, b, cc, d, v) pc ls st w = some g) (k : Wst p l e R s mi args below meth c m P n0 Q g) : Wst p l e R s mi args below meth c m P n0 Q (pc, ls, st, w) := by
  obtain rfl : n = 1 := Nat.eq_of_beq_eq_true ha
  simp only [st1] at h
  split at h
  · rename_i i k0 r
    split at h
    · rename_i hc
      simp only [Bool.and_eq_true] at hc
      have hk := blt_lt hc.1
      have hs := Nat.eq_of_beq_eq_true hc.2
      split at h
      · cases h
      · rename_i hi
        cases h
        intro H locs la h1 h2 h3 h4
        exact va_iald (D := P.2.1) C.1 C.2.1 C.2.2.2.2.2.2.2.2.1 h1 k0 0 (arrAt hk h1 (by omega)) (by rw [hs]; rfl) hi hd (k H locs la h1 h2 h3 h4)
    · cases h
  · rename_i i k0 r
    split at h
    · rename_i hc
      split at h
      · cases h
      · rename_i hi
        cases h
        have h3' := Nat.le_of_ble_eq_true hc
        intro H locs la h1 h2 h3 h4
        have kk := k H locs la h1 h2 h3 h4
        have hK := C.2.2.2.2.2.2.2.2.2.1
        show W p l e R s mi args below meth c H locs _ _ Q (F0 mi pc la (.int i :: tv P (.retAddr k0) :: r.map (tv P)))
        by_cases h0 : k0 = 0
        · subst h0
          obtain ⟨bb, g1, g2, g3⟩ := hK.2.1
          rw [show tv P (.retAddr 0) = .ref bb from g1]
          have hz : P.1 ≤ s.heap.size := by rw [C.2.2.2.2.2.2.2.2.2.2.2.2.1]; omega
          exact va_sld C.1 C.2.1 g2 (Nat.lt_of_lt_of_le g3 hz) (Nat.not_le.mpr g3) h2 hi hd kk
        · obtain ⟨j, rfl⟩ : ∃ j, k0 = j + 1 := ⟨k0 - 1, by omega⟩
          obtain ⟨t, g1, g2, g3⟩ := hK.2.2.1 j (by omega)
          rw [show tv P (.retAddr (j + 1)) = .ref t from g1]
          exact va_ti C.1 C.2.1 g3 h2 hi rfl hd kk
    · cases h
  · cases h
theorem r_baload (C : Cx p R s mi args meth c m P E n0) (hd : decode (bO m) pc = .ok (.baload, n)) (ha : auxE m pc (.baload, n, a, b, cc, d, v) = true) (h : st1 E (.baload, n, a, b, cc, d, v) pc ls st w = some g) (k : Wst p l e R s mi args below meth c m P n0 Q g) : Wst p l e R s mi args below meth c m P n0 Q (pc, ls, st, w) := by
  obtain rfl : n = 1 := Nat.eq_of_beq_eq_true ha
  simp only [st1] at h
  split at h
  · rename_i i k0 r
    split at h
    · rename_i hc
      simp only [Bool.and_eq_true, Bool.or_eq_true] at hc
      have hk := blt_lt hc.1
      split at h
      · cases h
      · rename_i hi
        cases h
        intro H locs la h1 h2 h3 h4
        rcases hc.2 with z | z
        · have hs := Nat.eq_of_beq_eq_true z
          exact va_bald (D := P.2.1) C.1 C.2.1 C.2.2.2.2.2.2.2.2.1 h1 k0 1 (arrAt hk h1 (by omega)) (by rw [hs]; rfl) hi hd (k H locs la h1 h2 h3 h4)
        · have hs := Nat.eq_of_beq_eq_true z
          exact va_zald (D := P.2.1) C.1 C.2.1 C.2.2.2.2.2.2.2.2.1 h1 k0 2 (arrAt hk h1 (by omega)) (by rw [hs]; rfl) hi hd (k H locs la h1 h2 h3 h4)
    · cases h
  · rename_i i k0 r
    split at h
    · rename_i hc
      simp only [isXB, Bool.and_eq_true] at hc
      have hx1 := Nat.le_of_ble_eq_true hc.1
      have hx2 := Nat.le_of_ble_eq_true hc.2
      split at h
      · cases h
      · rename_i hi
        cases h
        intro H locs la h1 h2 h3 h4
        have kk := k H locs la h1 h2 h3 h4
        obtain ⟨adK, adV, h6, h7, h8⟩ := C.2.2.2.2.2.2.2.2.2.1.2.2.2.2.2.1
        obtain ⟨j, rfl⟩ : ∃ j, k0 = 20 + j := ⟨k0 - 20, by omega⟩
        have hj : j < 5 := by omega
        have hS := (h7.1 j hj).2.2.2
        show W p l e R s mi args below meth c H locs _ _ Q (F0 mi pc la (.int i :: tv P (.retAddr (20 + j)) :: r.map (tv P)))
        rw [show tv P (.retAddr (20 + j)) = .ref (adV j) from (h6 j hj).2]
        have hxl : xlen E (20 + j) = (xTL.map List.length).getD j 0 := by
          unfold xlen
          rw [if_neg (by omega), if_neg (by omega), if_neg (by omega), if_neg (by omega), show 20 + j - 20 = j by omega]
          rw [List.getD_eq_getElem?_getD, List.getD_eq_getElem?_getD, List.getElem?_map]
          cases xTL[j]? <;> rfl
        refine va_tb C.1 C.2.1 hS h2 (by rw [← hxl]; exact hi) ?_ hd kk
        have : xval E (20 + j) i.toNatClampNeg = (xTL.getD j []).getD i.toNatClampNeg 0 := by
          unfold xval
          rw [if_neg (by omega), if_neg (by omega), if_neg (by omega), if_neg (by omega), show 20 + j - 20 = j by omega]
        show Value.int _ = Value.int _
        rw [this]
    · cases h
  · cases h
theorem g_ast {k : Nat} (hs : 100 ≤ shc k) (hk : k < w.1) {i : Nat} {x : Int32} {cA : ClassId} (hcA : cA = P.2.2.1 (shc k)) : (wsO P w).set k (P.1 + k, .inl (cA, shl k, .inl (upd (w.2.2.1 k) i x))) = wsO P (w.1, w.2.1, up2 w.2.2.1 k i x, w.2.2.2) := by
  refine wsO_set P w _ k _ rfl ?_ (fun q hq => enO_same rfl (up2_row _ _ _ _ _ hq) rfl)
  rw [enO_a hs, hcA]
  have : up2 w.2.2.1 k i x k = upd (w.2.2.1 k) i x := by
    funext j
    unfold up2 upd
    rw [if_pos rfl]
  show Sum.inl (_, _, Sum.inl (up2 w.2.2.1 k i x k)) = _
  rw [this]
theorem r_iastore (C : Cx p R s mi args meth c m P E n0) (hd : decode (bO m) pc = .ok (.iastore, n)) (ha : auxE m pc (.iastore, n, a, b, cc, d, v) = true) (h : st1 E (.iastore, n, a, b, cc, d, v) pc ls st w = some g) (k : Wst p l e R s mi args below meth c m P n0 Q g) : Wst p l e R s mi args below meth c m P n0 Q (pc, ls, st, w) := by
  obtain rfl : n = 1 := Nat.eq_of_beq_eq_true ha
  simp only [st1] at h
  split at h
  · rename_i x i k0 r
    split at h
    · rename_i hc
      simp only [Bool.and_eq_true] at hc
      have hk := blt_lt hc.1
      have hs := Nat.eq_of_beq_eq_true hc.2
      split at h
      · cases h
      · rename_i hi
        cases h
        intro H locs la h1 h2 h3 h4
        refine va_iast (D := P.2.1) C.1 C.2.1 C.2.2.2.2.2.2.2.2.1 h1 (wsO_D P w) h2 k0 0 (arrAt hk h1 (by omega)) (by rw [hs]; rfl) hi hd (fun H1 locs1 g1 _ g3 => ?_)
        rw [g_ast (by omega) hk rfl] at g1
        exact k H1 locs1 la g1 g3 h3 h4
    · cases h
  · cases h
theorem r_bastore (C : Cx p R s mi args meth c m P E n0) (hd : decode (bO m) pc = .ok (.bastore, n)) (ha : auxE m pc (.bastore, n, a, b, cc, d, v) = true) (h : st1 E (.bastore, n, a, b, cc, d, v) pc ls st w = some g) (k : Wst p l e R s mi args below meth c m P n0 Q g) : Wst p l e R s mi args below meth c m P n0 Q (pc, ls, st, w) := by
  obtain rfl : n = 1 := Nat.eq_of_beq_eq_true ha
  simp only [st1] at h
  split at h
  · rename_i x i k0 r
    split at h
    · rename_i hc
      have hk := blt_lt hc
      split at h
      · cases h
      · rename_i hi
        split at h
        · rename_i z
          have hs := Nat.eq_of_beq_eq_true z
          cases h
          intro H locs la h1 h2 h3 h4
          refine va_bast (D := P.2.1) C.1 C.2.1 C.2.2.2.2.2.2.2.2.1 h1 (wsO_D P w) h2 k0 1 (arrAt hk h1 (by omega)) (by rw [hs]; rfl) hi hd (fun H1 locs1 g1 _ g3 => ?_)
          rw [g_ast (by omega) hk rfl] at g1
          exact k H1 locs1 la g1 g3 h3 h4
        · split at h
          · rename_i z
            have hs := Nat.eq_of_beq_eq_true z
            cases h
            intro H locs la h1 h2 h3 h4
            refine va_zast (D := P.2.1) C.1 C.2.1 C.2.2.2.2.2.2.2.2.1 h1 (wsO_D P w) h2 k0 2 (arrAt hk h1 (by omega)) (by rw [hs]; rfl) hi hd (fun H1 locs1 g1 _ g3 => ?_)
            rw [g_ast (by omega) hk rfl] at g1
            exact k H1 locs1 la g1 g3 h3 h4
          · cases h
    · cases h
  · cases h
theorem r_arraylength (C : Cx p R s mi args meth c m P E n0) (hd : decode (bO m) pc = .ok (.arraylength, n)) (ha : auxE m pc (.arraylength, n, a, b, cc, d, v) = true) (h : st1 E (.arraylength, n, a, b, cc, d, v) pc ls st w = some g) (k : Wst p l e R s mi args below meth c m P n0 Q g) : Wst p l e R s mi args below meth c m P n0 Q (pc, ls, st, w) := by
  obtain rfl : n = 1 := Nat.eq_of_beq_eq_true ha
  simp only [st1] at h
  split at h
  · rename_i k0 r
    split at h
    · rename_i hc
      simp only [Bool.and_eq_true] at hc
      have hk := blt_lt hc.1
      have hs := Nat.le_of_ble_eq_true hc.2
      cases h
      intro H locs la h1 h2 h3 h4
      have hkk : k0 < 200 := Nat.lt_of_lt_of_le hk h4.2
      rcases shc_kind k0 hkk with z | z | z | z
      · exact absurd hs (by omega)
      · exact va_alen (D := P.2.1) C.1 C.2.1 C.2.2.2.2.2.2.2.2.1 h1 k0 0 (arrAt hk h1 hs) (by rw [z]; rfl) rfl hd (k H locs la h1 h2 h3 h4)
      · exact va_alen (D := P.2.1) C.1 C.2.1 C.2.2.2.2.2.2.2.2.1 h1 k0 1 (arrAt hk h1 hs) (by rw [z]; rfl) rfl hd (k H locs la h1 h2 h3 h4)
      · exact va_alen (D := P.2.1) C.1 C.2.1 C.2.2.2.2.2.2.2.2.1 h1 k0 2 (arrAt hk h1 hs) (by rw [z]; rfl) rfl hd (k H locs la h1 h2 h3 h4)
    · cases h
  · rename_i k0 r
    split at h
    · rename_i hc
      simp only [Bool.or_eq_true] at hc
      cases h
      intro H locs la h1 h2 h3 h4
      have kk := k H locs la h1 h2 h3 h4
      have hK := C.2.2.2.2.2.2.2.2.2.1
      show W p l e R s mi args below meth c H locs _ _ Q (F0 mi pc la (tv P (.retAddr k0) :: r.map (tv P)))
      rcases hc with hc | hc
      · have h3' := Nat.le_of_ble_eq_true hc
        by_cases h0 : k0 = 0
        · subst h0
          obtain ⟨bb, g1, g2, g3⟩ := hK.2.1
          rw [show tv P (.retAddr 0) = .ref bb from g1]
          have hz : P.1 ≤ s.heap.size := by rw [C.2.2.2.2.2.2.2.2.2.2.2.2.1]; omega
          exact va_slen C.1 C.2.1 g2 (Nat.lt_of_lt_of_le g3 hz) (Nat.not_le.mpr g3) h2 hd kk
        · obtain ⟨j, rfl⟩ : ∃ j, k0 = j + 1 := ⟨k0 - 1, by omega⟩
          obtain ⟨t, g1, g2, g3⟩ := hK.2.2.1 j (by omega)
          rw [show tv P (.retAddr (j + 1)) = .ref t from g1]
          exact va_tlen C.1 C.2.1 g3 h2 rfl hd kk
      · simp only [isXB, Bool.and_eq_true] at hc
        have hx1 := Nat.le_of_ble_eq_true hc.1
        have hx2 := Nat.le_of_ble_eq_true hc.2
        obtain ⟨adK, adV, h6, h7, h8⟩ := hK.2.2.2.2.2.1
        obtain ⟨j, rfl⟩ : ∃ j, k0 = 20 + j := ⟨k0 - 20, by omega⟩
        have hj : j < 5 := by omega
        have hS := (h7.1 j hj).2.2.2
        rw [show tv P (.retAddr (20 + j)) = .ref (adV j) from (h6 j hj).2]
        have hxl : xlen E (20 + j) = (xTL.map List.length).getD j 0 := by
          unfold xlen
          rw [if_neg (by omega), if_neg (by omega), if_neg (by omega), if_neg (by omega), show 20 + j - 20 = j by omega]
          rw [List.getD_eq_getElem?_getD, List.getD_eq_getElem?_getD, List.getElem?_map]
          cases xTL[j]? <;> rfl
        exact va_tlen C.1 C.2.1 hS h2 (by rw [hxl]) hd kk
    · cases h
  · cases h
theorem r_getstatic {q : Nat} (C : Cx p R s mi args meth c m P E n0) (hd : decode (bO m) pc = .ok (.getstatic q, n)) (ha : auxE m pc (.getstatic q, n, a, b, cc, d, v) = true) (h : st1 E (.getstatic q, n, a, b, cc, d, v) pc ls st w = some g) (k : Wst p l e R s mi args below meth c m P n0 Q g) : Wst p l e R s mi args below meth c m P n0 Q (pc, ls, st, w) := by
  simp only [auxE, Bool.and_eq_true, Bool.or_eq_true, decide_eq_true_eq] at ha
  obtain rfl : n = 3 := Nat.eq_of_beq_eq_true ha.1.1
  have hm : (ow m, q, a, cc) ∈ gstL := by simpa using ha.1.2
  have hin := gst_in _ hm
  have hok := gst_ok _ hm
  dsimp only at hin hok
  have hK := C.2.2.2.2.2.2.2.2.2.1
  simp only [st1] at h
  split at h
  · rename_i e0
    cases h
    rw [if_neg (by omega)] at hin
    intro H locs la h1 h2 h3 h4
    have kk := k H locs la h1 h2 h3 h4
    by_cases e5 : a = 5
    · rw [if_pos e5] at hin
      subst e5
      exact va_gets C.1 C.2.1 hK.2.2.2.2.1 h2 C.2.2.2.2.1 (C.2.2.2.2.2.1 _ (gt_in hin rfl)) (fun _ h9 => h9) hd kk
    · rw [if_neg e5] at hin
      have hr := hok.2 e0
      obtain ⟨j, rfl⟩ : ∃ j, a = j + 1 := ⟨a - 1, by omega⟩
      obtain ⟨t, g1, g2, g3⟩ := hK.2.2.1 j (by omega)
      rw [show j + 1 - 1 = j by omega] at hin
      refine va_gets C.1 C.2.1 g2 h2 C.2.2.2.2.1 (C.2.2.2.2.2.1 _ (gt_in hin rfl)) (fun _ h9 => h9) hd ?_
      rw [← show tv P (.retAddr (j + 1)) = .ref t from g1]
      exact kk
  · rename_i e0
    cases h
    have e1 : cc = 1 := by omega
    rw [if_pos e1] at hin
    have hv : v = 1 := by
      rcases ha.2 with z | z
      · have := Nat.eq_of_beq_eq_true z
        omega
      · exact z
    subst hv
    exact fun H locs la h1 h2 h3 h4 => va_gets C.1 C.2.1 hK.2.2.2.1 h2 C.2.2.2.2.1 (C.2.2.2.2.2.1 _ (gt_in hin rfl)) (fun _ h9 => h9) hd (k H locs la h1 h2 h3 h4)
theorem r_ldc {q : Nat} (C : Cx p R s mi args meth c m P E n0) (hd : decode (bO m) pc = .ok (.ldc q, n)) (ha : auxE m pc (.ldc q, n, a, b, cc, d, v) = true) (h : st1 E (.ldc q, n, a, b, cc, d, v) pc ls st w = some g) (k : Wst p l e R s mi args below meth c m P n0 Q g) : Wst p l e R s mi args below meth c m P n0 Q (pc, ls, st, w) := by
  simp only [auxE, Bool.and_eq_true] at ha
  obtain rfl : n = 2 := Nat.eq_of_beq_eq_true ha.1
  have ha2 := ha.2
  simp only [st1] at h
  split at h
  · rename_i e0
    cases h
    rw [if_pos e0] at ha2
    have hm : (ow m, q, v) ∈ cstL := by simpa using ha2
    exact fun H locs la h1 h2 h3 h4 => lv_ldc C.1 C.2.1 C.2.2.2.2.1 (C.2.2.2.2.2.1 _ (gt_in (cst_in _ hm) rfl)) hd (k H locs la h1 h2 h3 h4)
  · rename_i e0
    rw [if_neg e0] at ha2
    split at h
    · rename_i hx
      cases h
      simp only [isXS, Bool.and_eq_true] at hx
      have hx1 := Nat.le_of_ble_eq_true hx.1
      have hx2 := Nat.le_of_ble_eq_true hx.2
      have hm : (ow m, q, a) ∈ strL := by simpa using ha2
      obtain ⟨adK, adV, h6, h7, h8⟩ := C.2.2.2.2.2.2.2.2.2.1.2.2.2.2.2.1
      obtain ⟨tx, ht⟩ := h8 _ hm
      obtain ⟨i, rfl⟩ : ∃ i, a = 10 + i := ⟨a - 10, by omega⟩
      dsimp only at ht
      rw [show 10 + i - 10 = i by omega] at ht
      intro H locs la h1 h2 h3 h4
      have kk := k H locs la h1 h2 h3 h4
      refine va_ldcS C.1 C.2.1 C.2.2.2.2.1 ht hd ?_
      rw [← show tv P (.retAddr (10 + i)) = .ref (adK i) from (h6 i (by omega)).1]
      exact kk
    · cases h
theorem r_ldc_w {q : Nat} (C : Cx p R s mi args meth c m P E n0) (hcd : (cdO m)[pc]? = some (.ldc_w q, n, a, b, cc, d, v)) (hd : decode (bO m) pc = .ok (.ldc_w q, n)) (ha : auxE m pc (.ldc_w q, n, a, b, cc, d, v) = true) (h : st1 E (.ldc_w q, n, a, b, cc, d, v) pc ls st w = some g) (k : Wst p l e R s mi args below meth c m P n0 Q g) : Wst p l e R s mi args below meth c m P n0 Q (pc, ls, st, w) := by
  have hc0 : cc = 0 := by
    have hl : cdO m ∈ cdL := by
      unfold cdO at hcd ⊢
      rw [List.getD_eq_getElem?_getD] at hcd ⊢
      cases hg : cdL[m]? with
      | none => rw [hg] at hcd; simp at hcd
      | some x => exact List.mem_of_getElem? hg
    have h1 := List.all_eq_true.mp (ldcw_ok _ hl) _ (List.mem_of_getElem? hcd)
    exact Nat.eq_of_beq_eq_true h1
  simp only [auxE, Bool.and_eq_true] at ha
  obtain rfl : n = 3 := Nat.eq_of_beq_eq_true ha.1
  have ha2 := ha.2
  simp only [st1] at h
  rw [if_pos hc0] at h ha2
  cases h
  have hm : (ow m, q, v) ∈ cstL := by simpa using ha2
  exact fun H locs la h1 h2 h3 h4 => lv_ldcw C.1 C.2.1 C.2.2.2.2.1 (C.2.2.2.2.2.1 _ (gt_in (cst_in _ hm) rfl)) hd (k H locs la h1 h2 h3 h4)
theorem r_ldc2_w {q : Nat} (C : Cx p R s mi args meth c m P E n0) (hd : decode (bO m) pc = .ok (.ldc2_w q, n)) (ha : auxE m pc (.ldc2_w q, n, a, b, cc, d, v) = true) (h : st1 E (.ldc2_w q, n, a, b, cc, d, v) pc ls st w = some g) (k : Wst p l e R s mi args below meth c m P n0 Q g) : Wst p l e R s mi args below meth c m P n0 Q (pc, ls, st, w) := by
  simp only [auxE, Bool.and_eq_true] at ha
  obtain rfl : n = 3 := Nat.eq_of_beq_eq_true ha.1
  simp only [st1] at h
  cases h
  have hm : (ow m, q, a) ∈ clgL := by simpa using ha.2
  exact fun H locs la h1 h2 h3 h4 => lv_ldc2 C.1 C.2.1 C.2.2.2.2.1 (C.2.2.2.2.2.1 _ (gt_in (clg_in _ hm) rfl)) hd (k H locs la h1 h2 h3 h4)
end Arr
