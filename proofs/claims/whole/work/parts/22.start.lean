/-! THE LAW'S ENTRY: what the Statement gives of the start, as the context of the interpreter -/
def stTm (k : Nat) : Term := .static "TaintHouse" (stN k) "[I"
def stVl (k : Nat) : List Int32 := if k = 0 then xSHAPESL else if k = 1 then xTAKESL else xGIVESL
def stEl (k j : Nat) : Cond := .eq (.elem (stTm k) (.int (Int32.ofNat j))) (.int ((stVl k).getD j 0))
def stLv (k : Nat) : List Cond := [.arrayOf (stTm k) .int, .eq (.length (stTm k)) (.int (Int32.ofNat (stVl k).length))] ++ (List.range (stVl k).length).map (stEl k)
def sTm (i : Nat) : Term := if i = 0 then .string "TaintHouse$Names" 20 else if i = 1 then .string "TaintHouse$Lexer" 104 else if i = 2 then .string "TaintHouseModel" 242 else if i = 3 then .string "TaintHouseModel" 171 else .string "TaintHouseModel" 177
def sVm (i : Nat) : Term := .field (sTm i) "java/lang/String" "value" "[B"
def sEl (i j : Nat) : Cond := .eq (.elem (sVm i) (.int (Int32.ofNat j))) (.int ((xTL.getD i []).getD j 0))
def sLv (i : Nat) : List Cond := [.exactly (sTm i) "java/lang/String", .eq (.field (sTm i) "java/lang/String" "coder" "B") (.int 0), .arrayOf (sVm i) .byte, .eq (.length (sVm i)) (.int (Int32.ofNat ((xTL.map List.length).getD i 0)))] ++ (List.range (xTL.getD i []).length).map (sEl i)
def neW (q : Nat × Nat) : Cond := .not (.eq (sTm q.1) (sTm q.2))
def neL : List (Nat × Nat) := [(0, 1), (0, 2), (1, 2), (0, 3), (1, 3), (2, 3), (0, 4), (1, 4), (2, 4), (3, 4)]
def oneL : List Cond := [.eq (.static "java/lang/String" "COMPACT_STRINGS" "Z") (.int 1), .isRef (.static "jdk/internal/util/Preconditions" "SIOOBE_FORMATTER" "Ljava/util/function/BiFunction;"), .isRef (.static "java/lang/Throwable" "UNASSIGNED_STACK" "[Ljava/lang/StackTraceElement;"), .isRef (.static "java/lang/Throwable" "SUPPRESSED_SENTINEL" "Ljava/util/List;")]
def gvL : List Cond := flatC (Jvm.Cond.and given_1 narrow_1)
theorem gv_st0 : isSub (stLv 0) gvL = true := by decide +kernel
theorem gv_st1 : isSub (stLv 1) gvL = true := by decide +kernel
theorem gv_st2 : isSub (stLv 2) gvL = true := by decide +kernel
theorem gv_s0 : isSub (sLv 0) gvL = true := by decide +kernel
theorem gv_s1 : isSub (sLv 1) gvL = true := by decide +kernel
theorem gv_s2 : isSub (sLv 2) gvL = true := by decide +kernel
theorem gv_s3 : isSub (sLv 3) gvL = true := by decide +kernel
theorem gv_s4 : isSub (sLv 4) gvL = true := by decide +kernel
theorem gv_ne : isSub (neL.map neW) gvL = true := by decide +kernel
theorem gv_one : isSub oneL gvL = true := by decide +kernel
theorem gv_st {k : Nat} (h : k < 3) : ∀ w ∈ stLv k, w ∈ gvL := by
  rcases (by omega : k = 0 ∨ k = 1 ∨ k = 2) with e | e | e <;> subst e
  · exact isSub_mem _ _ gv_st0
  · exact isSub_mem _ _ gv_st1
  · exact isSub_mem _ _ gv_st2
theorem gv_s {i : Nat} (h : i < 5) : ∀ w ∈ sLv i, w ∈ gvL := by
  rcases (by omega : i = 0 ∨ i = 1 ∨ i = 2 ∨ i = 3 ∨ i = 4) with e | e | e | e | e <;> subst e
  · exact isSub_mem _ _ gv_s0
  · exact isSub_mem _ _ gv_s1
  · exact isSub_mem _ _ gv_s2
  · exact isSub_mem _ _ gv_s3
  · exact isSub_mem _ _ gv_s4
def wdL1 : List Cond := [.initialized "TaintHouse", .initialized "java/lang/String", .initialized "jdk/internal/util/Preconditions"]
def wdL2 : List Cond := [.arrayClass .int, .laysStatic "java/lang/String" "COMPACT_STRINGS" "Z", .arrayClass .byte, .laysStatic "jdk/internal/util/Preconditions" "SIOOBE_FORMATTER" "Ljava/util/function/BiFunction;", .laysStatic "TaintHouse" "SHAPES" "[I", .laysStatic "TaintHouse" "TAKES" "[I", .laysStatic "TaintHouse" "GIVES" "[I", .castable "TaintHouseModel$Wrong" "TaintHouseModel$Wrong", .declares ⟨"java/lang/RuntimeException", "<init>", "()V"⟩, .declares ⟨"java/lang/Exception", "<init>", "()V"⟩, .declares ⟨"java/lang/Throwable", "<init>", "()V"⟩, .laysStatic "java/lang/Throwable" "UNASSIGNED_STACK" "[Ljava/lang/StackTraceElement;", .laysStatic "java/lang/Throwable" "SUPPRESSED_SENTINEL" "Ljava/util/List;", .arrayClass .boolean]
theorem wd_1 : isSub wdL1 tables_1 = true := by decide +kernel
theorem wd_2 : isSub wdL2 tables_1 = true := by decide +kernel
def isSt (own : String) (k : Nat) : Cond → Bool
  | .stringRef o i _ => o == own && i == k
  | _ => false
def stWd (own : String) (k : Nat) : Option Cond := tables_1.find? (isSt own k)
theorem st_wd : ∀ q ∈ strL, (stWd (cn q.1) q.2.1).isSome = true := by decide +kernel
theorem st_in {q : Nat × Nat × Nat} (h : q ∈ strL) : ∃ tx, Cond.stringRef (cn q.1) q.2.1 tx ∈ lw_tbl := by
  have h1 := st_wd q h
  unfold stWd at h1
  obtain ⟨w, hw⟩ := Option.isSome_iff_exists.mp h1
  have h2 := List.find?_some hw
  have h3 := List.mem_of_find?_eq_some hw
  cases w with
  | stringRef o i tx =>
    simp only [isSt, Bool.and_eq_true, beq_iff_eq] at h2
    obtain ⟨rfl, rfl⟩ := h2
    exact ⟨tx, in_tbl h3⟩
  | _ => cases h2
theorem st_tm : ∀ q ∈ strL, sTm (q.2.2 - 10) = .string (cn q.1) q.2.1 ∧ q.2.2 - 10 < 5 := by decide +kernel
theorem ref_of {args : Array Value} {s : State} {C n d : String} (h : (Cond.isRef (.static C n d)).before args s = true) : ∃ v, (Term.static C n d).eval args s none [] s = some v ∧ (v = .null ∨ ∃ a, v = .ref a) := by
  cases hv : (Term.static C n d).eval args s none [] s with
  | none => simp [Cond.before, Cond.holds, Cond.value, hv] at h
  | some w =>
    simp only [Cond.before, Cond.holds, Cond.value, hv] at h
    cases w with
    | null => exact ⟨_, rfl, Or.inl rfl⟩
    | ref t => exact ⟨_, rfl, Or.inr ⟨t, rfl⟩⟩
    | _ => simp at h
theorem zS_of {args : Array Value} {s : State} {P : Pl} {C n d : String} {v : Value} (hl : (Cond.laysStatic C n d).before args s = true) (hv : (Term.static C n d).eval args s none [] s = some v) (hA : ∀ a : Nat, a < s.heap.size → ¬ AO P a) : zS P C n d v s s.heap := by
  obtain ⟨c, k, i, f, a, cell, hc, hi, hst, ha, hcell, hs, hcls, hlt, hty⟩ := Cond.laysStatic_spec hl
  obtain ⟨hst', a', cell', ha', hcell', -, hslot⟩ := Term.static_spec hi hv
  cases ha.symm.trans ha'
  cases hcell.symm.trans hcell'
  exact ⟨c, k, i, f, a, cell, hc, hi, hst, ha, hcell, hs, hcls, hlt, hty, hslot, hA a (Array.getElem?_eq_some_iff.mp hcell).1⟩
theorem arr_of {args : Array Value} {s : State} {ty : FieldType} (hn : ∀ C, ty ≠ .object C) (h : (Cond.arrayClass ty).before args s = true) : ∃ c : ClassId, ArrOfT s c ty ∧ va_RA s c ty := by
  obtain ⟨c, k, comp, h1, h2, h3⟩ := Cond.arrayClass_spec h
  refine ⟨c, fun n z => ⟨fun k h => (by cases h), k, h2, comp, h3⟩, ?_⟩
  cases ty with
  | object C => exact absurd rfl (hn C)
  | _ => exact h1
/-- the things that were there -/
def xo (b : Nat) (t : Nat → Nat) (v5 v6 v7 : Value) (adK adV : Nat → Nat) (k : Nat) : Value := if k = 0 then .ref b else if k < 4 then .ref (t (k - 1)) else if k = 5 then v5 else if k = 6 then v6 else if k = 7 then v7 else if 10 ≤ k ∧ k < 15 then .ref (adK (k - 10)) else if 20 ≤ k ∧ k < 25 then .ref (adV (k - 20)) else .null
