/-! THE CONTEXT of a walk of method m, and the rows of the instructions that touch neither fields nor arrays -/
def stN (k : Nat) : String := if k = 0 then "SHAPES" else if k = 1 then "TAKES" else "GIVES"
/-- a static reference of a class that was there before, with all that the tables say of its place -/
def zS (P : Pl) (C n d : String) (v : Value) (U : State) (H : Heap) : Prop := ∃ (c : ClassId) (k : Class) (i : Nat) (f : Field) (a : Nat) (cell : Cell), U.vm.findClass C = some c ∧ U.fieldFound? C n d = some (c, k, i, f) ∧ f.isStatic = true ∧ k.statics = some a ∧ H[a]? = some cell ∧ cell.vm.isStatics = true ∧ cell.cls = c ∧ f.slot < cell.slots.size ∧ k.staticTypes[f.slot]? = some f.type ∧ cell.slots[f.slot]? = some v ∧ ¬ AO P a
theorem zS.to {P : Pl} {C n d : String} {v : Value} {s U : State} (h : zS P C n d v s s.heap) (hA : s.vm.Alike U.vm) (hk : ∀ a : Nat, a < s.heap.size → ¬ AO P a → U.heap[a]? = s.heap[a]?) : zS P C n d v U U.heap := by
  obtain ⟨c, k, i, f, a, cell, h1, h2, h3, h4, h5, h6, h7, h8, h9, h10, h11⟩ := h
  obtain ⟨k', hi', hek⟩ := State.fieldFound?_setVm hA h2
  exact ⟨c, k', i, f, a, cell, by rw [hA.findClass]; exact h1, hi', h3, by rw [hek]; exact h4, by rw [hk a (Array.getElem?_eq_some_iff.mp h5).1 h11]; exact h5, h6, h7, h8, by rw [hek]; exact h9, h10, h11⟩
def Ko (P : Pl) (E : Xe) (s : State) : Prop :=
  (∀ k, P.2.2.2 k = .null ∨ ∃ a, P.2.2.2 k = .ref a) ∧
  (∃ b, P.2.2.2 0 = .ref b ∧ va_X b E.1 E.2 s s.heap ∧ b < P.1) ∧
  (∀ k, k < 3 → ∃ t, P.2.2.2 (k + 1) = .ref t ∧ va_Z "TaintHouse" (stN k) "[I" (.ref t) (AO P) s s.heap ∧ va_T .int t (xlen E (k + 1)) (fun j => .int (xval E (k + 1) j)) (AO P) s s.heap) ∧
  va_Z "java/lang/String" "COMPACT_STRINGS" "Z" (.int 1) (AO P) s s.heap ∧
  va_Z "jdk/internal/util/Preconditions" "SIOOBE_FORMATTER" "Ljava/util/function/BiFunction;" (P.2.2.2 5) (AO P) s s.heap ∧
  (∃ adK adV : Nat → Nat, (∀ i, i < 5 → P.2.2.2 (10 + i) = .ref (adK i) ∧ P.2.2.2 (20 + i) = .ref (adV i)) ∧ vk_S 5 (xTL.map List.length) xTL adK adV (AO P) s s.heap ∧ ∀ q ∈ strL, ∃ tx, vk_R (cn q.1) q.2.1 tx (adK (q.2.2 - 10)) s) ∧
  (∀ q ∈ mrL, (3 ≤ q.2.2.2.2 ∧ q.2.2.2.2 ≤ 5) → va_Nw (mrW q) s) ∧
  va_Nw (.castable "TaintHouseModel$Wrong" "TaintHouseModel$Wrong") s ∧
  (zS P "java/lang/Throwable" "UNASSIGNED_STACK" "[Ljava/lang/StackTraceElement;" (P.2.2.2 6) s s.heap ∧ zS P "java/lang/Throwable" "SUPPRESSED_SENTINEL" "Ljava/util/List;" (P.2.2.2 7) s s.heap ∧ va_Nw (.declares ⟨"java/lang/RuntimeException", "<init>", "()V"⟩) s ∧ va_Nw (.declares ⟨"java/lang/Exception", "<init>", "()V"⟩) s ∧ va_Nw (.declares ⟨"java/lang/Throwable", "<init>", "()V"⟩) s)
theorem Ko.cat {P : Pl} {E : Xe} {s : State} (h : Ko P E s) (k : Nat) : (P.2.2.2 k).category = 1 := by
  rcases h.1 k with e | ⟨a, e⟩ <;> rw [e] <;> rfl
theorem mrW_nest {q : Nat × Nat × Nat × Nat × Nat} (h : 3 ≤ q.2.2.2.2 ∧ q.2.2.2.2 ≤ 5) : ∃ a i hh, mrW q = .methodLinkNest a i (yO q.2.2.1) hh := by
  unfold mrW
  rw [if_neg (by omega), if_neg (by omega), if_neg (by omega), if_neg (by omega), if_neg (by omega), if_pos (by omega)]
  exact ⟨_, _, _, rfl⟩
theorem Ko.to {P : Pl} {E : Xe} {s U : State} (h : Ko P E s) (hW : s.WarmedH U.vm) (hz : P.1 ≤ s.heap.size) (hk : ∀ a : Nat, a < s.heap.size → ¬ AO P a → U.heap[a]? = s.heap[a]?) : Ko P E U := by
  have hA := hW.alike
  obtain ⟨h1, ⟨b, hb1, hb2, hb3⟩, h3, h4, h5, ⟨adK, adV, h6, h7, h8⟩, h9, h10, h11, h12, h13, h14, h15⟩ := h
  refine ⟨h1, ⟨b, hb1, (hb2.moved hA).kept (hk b (Nat.lt_of_lt_of_le hb3 hz) (Nat.not_le.mpr hb3)), hb3⟩, fun k hk3 => ?_, (h4.moved hA).kept hk, (h5.moved hA).kept hk, ⟨adK, adV, h6, (h7.moved hA).kept hk, fun q hq => ?_⟩, fun q hq hn => ?_, va_Nw.warmC hW h10, h11.to hA hk, h12.to hA hk, va_Nw.warmD hW h13, va_Nw.warmD hW h14, va_Nw.warmD hW h15⟩
  · obtain ⟨t, e1, e2, e3⟩ := h3 k hk3
    exact ⟨t, e1, (e2.moved hA).kept hk, (e3.moved hA).kept hk⟩
  · obtain ⟨tx, e⟩ := h8 q hq
    exact ⟨tx, e.warm hW⟩
  · have e := h9 q hq hn
    obtain ⟨a, i, hh, er⟩ := mrW_nest hn
    rw [er] at e ⊢
    exact va_Nw.warmM hW e
/-- what is known of the exception table -/
def Exc (m : Nat) (c : Code) (args : Array Value) (s : State) : Prop := if m = mText then c.exceptionTable.toList.map (fun h => (h.startPc, h.endPc, h.handlerPc, h.catchType)) = [(15, 55, 58, 13)] else (m = 0 ∨ c.exceptionTable.isEmpty = true)
def Cx (p : Program) (R : Room) (s : State) (mi : MethodId) (args : Array Value) (meth : Method) (c : Code) (m : Nat) (P : Pl) (E : Xe) (n0 : Nat) : Prop :=
  p.tables.exec = Jvm.exec ∧ c.code = bO m ∧ c.maxLocals = mx m ∧ meth.sig.returnType = rt m ∧ s.vm.findClass (cn (ow m)) = some mi.cls ∧ (∀ w ∈ gtbl, w.before args s = true) ∧ meth.locks = false ∧ ((yO m).name = "<init>" → meth.name = "<init>") ∧ va_K P.2.1 clO (tyO P) s ∧ Ko P E s ∧ frm m ≤ R.frames ∧ loc m ≤ R.locals ∧ s.heap.size = P.1 + n0 ∧ m < nM ∧ Exc m c args s
abbrev Wst (p : Program) (l : Launch) (e : Env) (R : Room) (s : State) (mi : MethodId) (args : Array Value) (below : List Frame) (meth : Method) (c : Code) (m : Nat) (P : Pl) (n0 : Nat) (Q : State → Prop) (fr : Fr) : Prop :=
  ∀ (H : Heap) (locs : List Loc) (la : Array Slot), ReH P fr.2.2.2 H → va_S (AO P) s.heap H locs → LsR P m fr.2.1 la → (n0 ≤ fr.2.2.2.1 ∧ fr.2.2.2.1 ≤ 200) → W p l e R s mi args below meth c H locs (fr.2.2.2.1 - n0) (slo fr.2.2.2.1 - slo n0) Q (F0 mi fr.1 la (fr.2.2.1.map (tv P)))
theorem LsR_sto {P : Pl} (hP : ∀ k, (P.2.2.2 k).category = 1) {m : Nat} {ls : List Value} {la la' : Array Slot} (h : LsR P m ls la) {k : Nat} {x : Value} (hk : k < mx m) (h' : lv_has la' (mx m) ((k, tv P x) :: (lst P ls).filter (fun q => !(q.1 == k) && !(q.1 + 1 == k && q.2.category == 2)))) : LsR P m (sto ls k x) la' := by
  refine ⟨h'.1, by simp [sto, clL_len, h.2.1], h'.2.1, fun i v hv hu => ?_⟩
  unfold sto at hv
  rw [List.getElem?_set] at hv
  split at hv
  · rename_i e
    subst e
    split at hv
    · cases hv
      exact h'.2.2 (k, tv P x) List.mem_cons_self
    · cases hv
  · rename_i e
    obtain ⟨g1, g2⟩ := clL_get hv hu
    refine h'.2.2 (i, tv P v) (List.mem_cons_of_mem _ (List.mem_filter.mpr ⟨lst_mem.mpr ⟨v, g1, hu, rfl⟩, ?_⟩))
    rw [tv_cat hP]
    have e2 : (i == k) = false := by simpa using fun q : i = k => e q.symm
    rw [e2]
    by_cases e3 : i + 1 = k
    · have : v.category ≠ 2 := fun q => g2 ⟨e3, q⟩
      simp [this]
    · simp [e3]
theorem LsR_stoL {P : Pl} (hP : ∀ k, (P.2.2.2 k).category = 1) {m : Nat} {ls : List Value} {la la' : Array Slot} (h : LsR P m ls la) {k : Nat} {x : Value} (hk : k + 1 < mx m) (h' : lv_has la' (mx m) ((k, tv P x) :: (lst P ls).filter (fun q => !(q.1 == k) && (!(q.1 == k + 1) && !(q.1 + 1 == k && q.2.category == 2))))) : LsR P m (stoL ls k x) la' := by
  refine ⟨h'.1, by simp [stoL, clL_len, h.2.1], h'.2.1, fun i v hv hu => ?_⟩
  unfold stoL at hv
  rw [List.getElem?_set] at hv
  split at hv
  · split at hv
    · exact absurd (Option.some.inj hv).symm hu
    · cases hv
  · rename_i e0
    rw [List.getElem?_set] at hv
    split at hv
    · rename_i e
      subst e
      split at hv
      · cases hv
        exact h'.2.2 (k, tv P x) List.mem_cons_self
      · cases hv
    · rename_i e
      obtain ⟨g1, g2⟩ := clL_get hv hu
      refine h'.2.2 (i, tv P v) (List.mem_cons_of_mem _ (List.mem_filter.mpr ⟨lst_mem.mpr ⟨v, g1, hu, rfl⟩, ?_⟩))
      rw [tv_cat hP]
      have e2 : (i == k) = false := by simpa using fun q : i = k => e q.symm
      have e4 : (i == k + 1) = false := by simpa using fun q : i = k + 1 => e0 q.symm
      rw [e2, e4]
      by_cases e3 : i + 1 = k
      · have : v.category ≠ 2 := fun q => g2 ⟨e3, q⟩
        simp [this]
      · simp [e3]
section Rows
variable {p : Program} {l : Launch} {e : Env} {R : Room} {s : State} {mi : MethodId} {args : Array Value} {below : List Frame} {meth : Method} {c : Code} {m n0 : Nat} {P : Pl} {E : Xe} {Q : State → Prop}
variable {pc n a b cc d : Nat} {v : Int32} {ls st : List Value} {w : Wd} {g : Fr}
theorem r_iadd (C : Cx p R s mi args meth c m P E n0) (hd : decode (bO m) pc = .ok (.iadd, n)) (ha : auxE m pc (.iadd, n, a, b, cc, d, v) = true) (h : st1 E (.iadd, n, a, b, cc, d, v) pc ls st w = some g) (k : Wst p l e R s mi args below meth c m P n0 Q g) : Wst p l e R s mi args below meth c m P n0 Q (pc, ls, st, w) := by
  obtain rfl : n = 1 := Nat.eq_of_beq_eq_true ha
  simp only [st1] at h
  split at h
  · cases h; exact fun H locs la h1 h2 h3 h4 => lv_iadd C.1 C.2.1 hd (k H locs la h1 h2 h3 h4)
  · cases h
theorem r_isub (C : Cx p R s mi args meth c m P E n0) (hd : decode (bO m) pc = .ok (.isub, n)) (ha : auxE m pc (.isub, n, a, b, cc, d, v) = true) (h : st1 E (.isub, n, a, b, cc, d, v) pc ls st w = some g) (k : Wst p l e R s mi args below meth c m P n0 Q g) : Wst p l e R s mi args below meth c m P n0 Q (pc, ls, st, w) := by
  obtain rfl : n = 1 := Nat.eq_of_beq_eq_true ha
  simp only [st1] at h
  split at h
  · cases h; exact fun H locs la h1 h2 h3 h4 => lv_isub C.1 C.2.1 hd (k H locs la h1 h2 h3 h4)
  · cases h
theorem r_imul (C : Cx p R s mi args meth c m P E n0) (hd : decode (bO m) pc = .ok (.imul, n)) (ha : auxE m pc (.imul, n, a, b, cc, d, v) = true) (h : st1 E (.imul, n, a, b, cc, d, v) pc ls st w = some g) (k : Wst p l e R s mi args below meth c m P n0 Q g) : Wst p l e R s mi args below meth c m P n0 Q (pc, ls, st, w) := by
  obtain rfl : n = 1 := Nat.eq_of_beq_eq_true ha
  simp only [st1] at h
  split at h
  · cases h; exact fun H locs la h1 h2 h3 h4 => lv_imul C.1 C.2.1 hd (k H locs la h1 h2 h3 h4)
  · cases h
theorem r_iand (C : Cx p R s mi args meth c m P E n0) (hd : decode (bO m) pc = .ok (.iand, n)) (ha : auxE m pc (.iand, n, a, b, cc, d, v) = true) (h : st1 E (.iand, n, a, b, cc, d, v) pc ls st w = some g) (k : Wst p l e R s mi args below meth c m P n0 Q g) : Wst p l e R s mi args below meth c m P n0 Q (pc, ls, st, w) := by
  obtain rfl : n = 1 := Nat.eq_of_beq_eq_true ha
  simp only [st1] at h
  split at h
  · cases h; exact fun H locs la h1 h2 h3 h4 => lv_iand C.1 C.2.1 hd (k H locs la h1 h2 h3 h4)
  · cases h
theorem r_ior (C : Cx p R s mi args meth c m P E n0) (hd : decode (bO m) pc = .ok (.ior, n)) (ha : auxE m pc (.ior, n, a, b, cc, d, v) = true) (h : st1 E (.ior, n, a, b, cc, d, v) pc ls st w = some g) (k : Wst p l e R s mi args below meth c m P n0 Q g) : Wst p l e R s mi args below meth c m P n0 Q (pc, ls, st, w) := by
  obtain rfl : n = 1 := Nat.eq_of_beq_eq_true ha
  simp only [st1] at h
  split at h
  · cases h; exact fun H locs la h1 h2 h3 h4 => lv_ior C.1 C.2.1 hd (k H locs la h1 h2 h3 h4)
  · cases h
theorem r_ixor (C : Cx p R s mi args meth c m P E n0) (hd : decode (bO m) pc = .ok (.ixor, n)) (ha : auxE m pc (.ixor, n, a, b, cc, d, v) = true) (h : st1 E (.ixor, n, a, b, cc, d, v) pc ls st w = some g) (k : Wst p l e R s mi args below meth c m P n0 Q g) : Wst p l e R s mi args below meth c m P n0 Q (pc, ls, st, w) := by
  obtain rfl : n = 1 := Nat.eq_of_beq_eq_true ha
  simp only [st1] at h
  split at h
  · cases h; exact fun H locs la h1 h2 h3 h4 => lv_ixor C.1 C.2.1 hd (k H locs la h1 h2 h3 h4)
  · cases h
theorem r_ishl (C : Cx p R s mi args meth c m P E n0) (hd : decode (bO m) pc = .ok (.ishl, n)) (ha : auxE m pc (.ishl, n, a, b, cc, d, v) = true) (h : st1 E (.ishl, n, a, b, cc, d, v) pc ls st w = some g) (k : Wst p l e R s mi args below meth c m P n0 Q g) : Wst p l e R s mi args below meth c m P n0 Q (pc, ls, st, w) := by
  obtain rfl : n = 1 := Nat.eq_of_beq_eq_true ha
  simp only [st1] at h
  split at h
  · cases h; exact fun H locs la h1 h2 h3 h4 => lv_ishl C.1 C.2.1 hd (k H locs la h1 h2 h3 h4)
  · cases h
theorem r_ishr (C : Cx p R s mi args meth c m P E n0) (hd : decode (bO m) pc = .ok (.ishr, n)) (ha : auxE m pc (.ishr, n, a, b, cc, d, v) = true) (h : st1 E (.ishr, n, a, b, cc, d, v) pc ls st w = some g) (k : Wst p l e R s mi args below meth c m P n0 Q g) : Wst p l e R s mi args below meth c m P n0 Q (pc, ls, st, w) := by
  obtain rfl : n = 1 := Nat.eq_of_beq_eq_true ha
  simp only [st1] at h
  split at h
  · cases h; exact fun H locs la h1 h2 h3 h4 => lv_ishr C.1 C.2.1 hd (k H locs la h1 h2 h3 h4)
  · cases h
theorem r_ladd (C : Cx p R s mi args meth c m P E n0) (hd : decode (bO m) pc = .ok (.ladd, n)) (ha : auxE m pc (.ladd, n, a, b, cc, d, v) = true) (h : st1 E (.ladd, n, a, b, cc, d, v) pc ls st w = some g) (k : Wst p l e R s mi args below meth c m P n0 Q g) : Wst p l e R s mi args below meth c m P n0 Q (pc, ls, st, w) := by
  obtain rfl : n = 1 := Nat.eq_of_beq_eq_true ha
  simp only [st1] at h
  split at h
  · cases h; exact fun H locs la h1 h2 h3 h4 => lv_ladd C.1 C.2.1 hd (k H locs la h1 h2 h3 h4)
  · cases h
theorem r_lsub (C : Cx p R s mi args meth c m P E n0) (hd : decode (bO m) pc = .ok (.lsub, n)) (ha : auxE m pc (.lsub, n, a, b, cc, d, v) = true) (h : st1 E (.lsub, n, a, b, cc, d, v) pc ls st w = some g) (k : Wst p l e R s mi args below meth c m P n0 Q g) : Wst p l e R s mi args below meth c m P n0 Q (pc, ls, st, w) := by
  obtain rfl : n = 1 := Nat.eq_of_beq_eq_true ha
  simp only [st1] at h
  split at h
  · cases h; exact fun H locs la h1 h2 h3 h4 => lv_lsub C.1 C.2.1 hd (k H locs la h1 h2 h3 h4)
  · cases h
theorem r_lmul (C : Cx p R s mi args meth c m P E n0) (hd : decode (bO m) pc = .ok (.lmul, n)) (ha : auxE m pc (.lmul, n, a, b, cc, d, v) = true) (h : st1 E (.lmul, n, a, b, cc, d, v) pc ls st w = some g) (k : Wst p l e R s mi args below meth c m P n0 Q g) : Wst p l e R s mi args below meth c m P n0 Q (pc, ls, st, w) := by
  obtain rfl : n = 1 := Nat.eq_of_beq_eq_true ha
  simp only [st1] at h
  split at h
  · cases h; exact fun H locs la h1 h2 h3 h4 => lv_lmul C.1 C.2.1 hd (k H locs la h1 h2 h3 h4)
  · cases h
theorem r_ineg (C : Cx p R s mi args meth c m P E n0) (hd : decode (bO m) pc = .ok (.ineg, n)) (ha : auxE m pc (.ineg, n, a, b, cc, d, v) = true) (h : st1 E (.ineg, n, a, b, cc, d, v) pc ls st w = some g) (k : Wst p l e R s mi args below meth c m P n0 Q g) : Wst p l e R s mi args below meth c m P n0 Q (pc, ls, st, w) := by
  obtain rfl : n = 1 := Nat.eq_of_beq_eq_true ha
  simp only [st1] at h
  split at h
  · cases h; exact fun H locs la h1 h2 h3 h4 => lv_ineg C.1 C.2.1 hd (k H locs la h1 h2 h3 h4)
  · cases h
theorem r_i2l (C : Cx p R s mi args meth c m P E n0) (hd : decode (bO m) pc = .ok (.i2l, n)) (ha : auxE m pc (.i2l, n, a, b, cc, d, v) = true) (h : st1 E (.i2l, n, a, b, cc, d, v) pc ls st w = some g) (k : Wst p l e R s mi args below meth c m P n0 Q g) : Wst p l e R s mi args below meth c m P n0 Q (pc, ls, st, w) := by
  obtain rfl : n = 1 := Nat.eq_of_beq_eq_true ha
  simp only [st1] at h
  split at h
  · cases h; exact fun H locs la h1 h2 h3 h4 => lv_i2l C.1 C.2.1 hd rfl (k H locs la h1 h2 h3 h4)
  · cases h
theorem r_l2i (C : Cx p R s mi args meth c m P E n0) (hd : decode (bO m) pc = .ok (.l2i, n)) (ha : auxE m pc (.l2i, n, a, b, cc, d, v) = true) (h : st1 E (.l2i, n, a, b, cc, d, v) pc ls st w = some g) (k : Wst p l e R s mi args below meth c m P n0 Q g) : Wst p l e R s mi args below meth c m P n0 Q (pc, ls, st, w) := by
  obtain rfl : n = 1 := Nat.eq_of_beq_eq_true ha
  simp only [st1] at h
  split at h
  · cases h; exact fun H locs la h1 h2 h3 h4 => lv_l2i C.1 C.2.1 hd rfl (k H locs la h1 h2 h3 h4)
  · cases h
theorem r_i2b (C : Cx p R s mi args meth c m P E n0) (hd : decode (bO m) pc = .ok (.i2b, n)) (ha : auxE m pc (.i2b, n, a, b, cc, d, v) = true) (h : st1 E (.i2b, n, a, b, cc, d, v) pc ls st w = some g) (k : Wst p l e R s mi args below meth c m P n0 Q g) : Wst p l e R s mi args below meth c m P n0 Q (pc, ls, st, w) := by
  obtain rfl : n = 1 := Nat.eq_of_beq_eq_true ha
  simp only [st1] at h
  split at h
  · cases h; exact fun H locs la h1 h2 h3 h4 => lv_i2b C.1 C.2.1 hd rfl (k H locs la h1 h2 h3 h4)
  · cases h
theorem r_i2c (C : Cx p R s mi args meth c m P E n0) (hd : decode (bO m) pc = .ok (.i2c, n)) (ha : auxE m pc (.i2c, n, a, b, cc, d, v) = true) (h : st1 E (.i2c, n, a, b, cc, d, v) pc ls st w = some g) (k : Wst p l e R s mi args below meth c m P n0 Q g) : Wst p l e R s mi args below meth c m P n0 Q (pc, ls, st, w) := by
  obtain rfl : n = 1 := Nat.eq_of_beq_eq_true ha
  simp only [st1] at h
  split at h
  · cases h; exact fun H locs la h1 h2 h3 h4 => lv_i2c C.1 C.2.1 hd rfl (k H locs la h1 h2 h3 h4)
  · cases h
theorem r_iushr (C : Cx p R s mi args meth c m P E n0) (hd : decode (bO m) pc = .ok (.iushr, n)) (ha : auxE m pc (.iushr, n, a, b, cc, d, v) = true) (h : st1 E (.iushr, n, a, b, cc, d, v) pc ls st w = some g) (k : Wst p l e R s mi args below meth c m P n0 Q g) : Wst p l e R s mi args below meth c m P n0 Q (pc, ls, st, w) := by
  obtain rfl : n = 1 := Nat.eq_of_beq_eq_true ha
  simp only [st1] at h
  split at h
  · cases h; exact fun H locs la h1 h2 h3 h4 => lv_iushr C.1 C.2.1 hd rfl (k H locs la h1 h2 h3 h4)
  · cases h
theorem r_lcmp (C : Cx p R s mi args meth c m P E n0) (hd : decode (bO m) pc = .ok (.lcmp, n)) (ha : auxE m pc (.lcmp, n, a, b, cc, d, v) = true) (h : st1 E (.lcmp, n, a, b, cc, d, v) pc ls st w = some g) (k : Wst p l e R s mi args below meth c m P n0 Q g) : Wst p l e R s mi args below meth c m P n0 Q (pc, ls, st, w) := by
  obtain rfl : n = 1 := Nat.eq_of_beq_eq_true ha
  simp only [st1] at h
  split at h
  · cases h; exact fun H locs la h1 h2 h3 h4 => W.lcmp C.1 C.2.1 hd (k H locs la h1 h2 h3 h4)
  · cases h
theorem r_idiv (C : Cx p R s mi args meth c m P E n0) (hd : decode (bO m) pc = .ok (.idiv, n)) (ha : auxE m pc (.idiv, n, a, b, cc, d, v) = true) (h : st1 E (.idiv, n, a, b, cc, d, v) pc ls st w = some g) (k : Wst p l e R s mi args below meth c m P n0 Q g) : Wst p l e R s mi args below meth c m P n0 Q (pc, ls, st, w) := by
  obtain rfl : n = 1 := Nat.eq_of_beq_eq_true ha
  simp only [st1] at h
  split at h
  · split at h
    · cases h
    · rename_i hy
      cases h; exact fun H locs la h1 h2 h3 h4 => lv_idiv C.1 C.2.1 hd hy (k H locs la h1 h2 h3 h4)
  · cases h
theorem r_irem (C : Cx p R s mi args meth c m P E n0) (hd : decode (bO m) pc = .ok (.irem, n)) (ha : auxE m pc (.irem, n, a, b, cc, d, v) = true) (h : st1 E (.irem, n, a, b, cc, d, v) pc ls st w = some g) (k : Wst p l e R s mi args below meth c m P n0 Q g) : Wst p l e R s mi args below meth c m P n0 Q (pc, ls, st, w) := by
  obtain rfl : n = 1 := Nat.eq_of_beq_eq_true ha
  simp only [st1] at h
  split at h
  · split at h
    · cases h
    · rename_i hy
      cases h; exact fun H locs la h1 h2 h3 h4 => lv_irem C.1 C.2.1 hd hy (k H locs la h1 h2 h3 h4)
  · cases h
theorem r_iconst {q : Int} (C : Cx p R s mi args meth c m P E n0) (hd : decode (bO m) pc = .ok ((.iconst q), n)) (ha : auxE m pc ((.iconst q), n, a, b, cc, d, v) = true) (h : st1 E ((.iconst q), n, a, b, cc, d, v) pc ls st w = some g) (k : Wst p l e R s mi args below meth c m P n0 Q g) : Wst p l e R s mi args below meth c m P n0 Q (pc, ls, st, w) := by
  simp only [auxE, Bool.and_eq_true, decide_eq_true_eq] at ha
  obtain rfl : n = 1 := Nat.eq_of_beq_eq_true ha.1
  simp only [st1] at h
  cases h
  exact fun H locs la h1 h2 h3 h4 => lv_iconst C.1 C.2.1 hd ha.2 (k H locs la h1 h2 h3 h4)
theorem r_bipush {q : Int} (C : Cx p R s mi args meth c m P E n0) (hd : decode (bO m) pc = .ok ((.bipush q), n)) (ha : auxE m pc ((.bipush q), n, a, b, cc, d, v) = true) (h : st1 E ((.bipush q), n, a, b, cc, d, v) pc ls st w = some g) (k : Wst p l e R s mi args below meth c m P n0 Q g) : Wst p l e R s mi args below meth c m P n0 Q (pc, ls, st, w) := by
  simp only [auxE, Bool.and_eq_true, decide_eq_true_eq] at ha
  obtain rfl : n = 2 := Nat.eq_of_beq_eq_true ha.1
  simp only [st1] at h
  cases h
  exact fun H locs la h1 h2 h3 h4 => lv_bipush C.1 C.2.1 hd ha.2 (k H locs la h1 h2 h3 h4)
theorem r_sipush {q : Int} (C : Cx p R s mi args meth c m P E n0) (hd : decode (bO m) pc = .ok ((.sipush q), n)) (ha : auxE m pc ((.sipush q), n, a, b, cc, d, v) = true) (h : st1 E ((.sipush q), n, a, b, cc, d, v) pc ls st w = some g) (k : Wst p l e R s mi args below meth c m P n0 Q g) : Wst p l e R s mi args below meth c m P n0 Q (pc, ls, st, w) := by
  simp only [auxE, Bool.and_eq_true, decide_eq_true_eq] at ha
  obtain rfl : n = 3 := Nat.eq_of_beq_eq_true ha.1
  simp only [st1] at h
  cases h
  exact fun H locs la h1 h2 h3 h4 => lv_sipush C.1 C.2.1 hd ha.2 (k H locs la h1 h2 h3 h4)
theorem r_lconst {q : Fin 2} (C : Cx p R s mi args meth c m P E n0) (hd : decode (bO m) pc = .ok ((.lconst q), n)) (ha : auxE m pc ((.lconst q), n, a, b, cc, d, v) = true) (h : st1 E ((.lconst q), n, a, b, cc, d, v) pc ls st w = some g) (k : Wst p l e R s mi args below meth c m P n0 Q g) : Wst p l e R s mi args below meth c m P n0 Q (pc, ls, st, w) := by
  obtain rfl : n = 1 := Nat.eq_of_beq_eq_true ha
  simp only [st1] at h
  cases h
  exact fun H locs la h1 h2 h3 h4 => lv_lconst C.1 C.2.1 hd rfl (k H locs la h1 h2 h3 h4)
theorem r_iload {q : Nat} (C : Cx p R s mi args meth c m P E n0) (hd : decode (bO m) pc = .ok ((.iload q), n)) (ha : auxE m pc ((.iload q), n, a, b, cc, d, v) = true) (h : st1 E ((.iload q), n, a, b, cc, d, v) pc ls st w = some g) (k : Wst p l e R s mi args below meth c m P n0 Q g) : Wst p l e R s mi args below meth c m P n0 Q (pc, ls, st, w) := by
  obtain rfl : n = 2 := Nat.eq_of_beq_eq_true ha
  simp only [st1] at h
  split at h
  · rename_i x hx
    cases h
    exact fun H locs la h1 h2 h3 h4 => lv_iload C.1 C.2.1 hd (h3.2.2.2 q _ hx (by intro q; cases q)) (k H locs la h1 h2 h3 h4)
  · cases h
theorem r_iload_n {q : Fin 4} (C : Cx p R s mi args meth c m P E n0) (hd : decode (bO m) pc = .ok ((.iload_n q), n)) (ha : auxE m pc ((.iload_n q), n, a, b, cc, d, v) = true) (h : st1 E ((.iload_n q), n, a, b, cc, d, v) pc ls st w = some g) (k : Wst p l e R s mi args below meth c m P n0 Q g) : Wst p l e R s mi args below meth c m P n0 Q (pc, ls, st, w) := by
  obtain rfl : n = 1 := Nat.eq_of_beq_eq_true ha
  simp only [st1] at h
  split at h
  · rename_i x hx
    cases h
    exact fun H locs la h1 h2 h3 h4 => lv_iload_n C.1 C.2.1 hd rfl (h3.2.2.2 q.val _ hx (by intro q; cases q)) (k H locs la h1 h2 h3 h4)
  · cases h
theorem r_lload {q : Nat} (C : Cx p R s mi args meth c m P E n0) (hd : decode (bO m) pc = .ok ((.lload q), n)) (ha : auxE m pc ((.lload q), n, a, b, cc, d, v) = true) (h : st1 E ((.lload q), n, a, b, cc, d, v) pc ls st w = some g) (k : Wst p l e R s mi args below meth c m P n0 Q g) : Wst p l e R s mi args below meth c m P n0 Q (pc, ls, st, w) := by
  obtain rfl : n = 2 := Nat.eq_of_beq_eq_true ha
  simp only [st1] at h
  split at h
  · rename_i x hx
    cases h
    exact fun H locs la h1 h2 h3 h4 => lv_lload C.1 C.2.1 hd (h3.2.2.2 q _ hx (by intro q; cases q)) (k H locs la h1 h2 h3 h4)
  · cases h
theorem r_lload_n {q : Fin 4} (C : Cx p R s mi args meth c m P E n0) (hd : decode (bO m) pc = .ok ((.lload_n q), n)) (ha : auxE m pc ((.lload_n q), n, a, b, cc, d, v) = true) (h : st1 E ((.lload_n q), n, a, b, cc, d, v) pc ls st w = some g) (k : Wst p l e R s mi args below meth c m P n0 Q g) : Wst p l e R s mi args below meth c m P n0 Q (pc, ls, st, w) := by
  obtain rfl : n = 1 := Nat.eq_of_beq_eq_true ha
  simp only [st1] at h
  split at h
  · rename_i x hx
    cases h
    exact fun H locs la h1 h2 h3 h4 => lv_lload_n C.1 C.2.1 hd rfl (h3.2.2.2 q.val _ hx (by intro q; cases q)) (k H locs la h1 h2 h3 h4)
  · cases h
theorem r_aload {q : Nat} (C : Cx p R s mi args meth c m P E n0) (hd : decode (bO m) pc = .ok ((.aload q), n)) (ha : auxE m pc ((.aload q), n, a, b, cc, d, v) = true) (h : st1 E ((.aload q), n, a, b, cc, d, v) pc ls st w = some g) (k : Wst p l e R s mi args below meth c m P n0 Q g) : Wst p l e R s mi args below meth c m P n0 Q (pc, ls, st, w) := by
  obtain rfl : n = 2 := Nat.eq_of_beq_eq_true ha
  simp only [st1] at h
  split at h
  · rename_i x hx
    cases h
    exact fun H locs la h1 h2 h3 h4 => lv_aload C.1 C.2.1 hd (h3.2.2.2 q _ hx (by intro q; cases q)) (k H locs la h1 h2 h3 h4)
  · rename_i x hx
    cases h
    intro H locs la h1 h2 h3 h4
    have hv := h3.2.2.2 q _ hx (by intro q; cases q)
    have kk := k H locs la h1 h2 h3 h4
    have e1 : (Value.retAddr x :: st).map (tv P) = P.2.2.2 x :: st.map (tv P) := rfl
    have e2 : tv P (.retAddr x) = P.2.2.2 x := rfl
    rw [e2] at hv
    rw [show ((pc + 2, ls, Value.retAddr x :: st, w) : Fr).2.2.1.map (tv P) = P.2.2.2 x :: st.map (tv P) from rfl] at kk
    rcases C.2.2.2.2.2.2.2.2.2.1.1 x with e3 | ⟨t, e3⟩
    · rw [e3] at hv kk
      exact lv_aloadN C.1 C.2.1 hd hv kk
    · rw [e3] at hv kk
      exact lv_aload C.1 C.2.1 hd hv kk
  · cases h
theorem r_aload_n {q : Fin 4} (C : Cx p R s mi args meth c m P E n0) (hd : decode (bO m) pc = .ok ((.aload_n q), n)) (ha : auxE m pc ((.aload_n q), n, a, b, cc, d, v) = true) (h : st1 E ((.aload_n q), n, a, b, cc, d, v) pc ls st w = some g) (k : Wst p l e R s mi args below meth c m P n0 Q g) : Wst p l e R s mi args below meth c m P n0 Q (pc, ls, st, w) := by
  obtain rfl : n = 1 := Nat.eq_of_beq_eq_true ha
  simp only [st1] at h
  split at h
  · rename_i x hx
    cases h
    exact fun H locs la h1 h2 h3 h4 => lv_aload_n C.1 C.2.1 hd rfl (h3.2.2.2 q.val _ hx (by intro q; cases q)) (k H locs la h1 h2 h3 h4)
  · rename_i x hx
    cases h
    intro H locs la h1 h2 h3 h4
    have hv := h3.2.2.2 q.val _ hx (by intro q; cases q)
    have kk := k H locs la h1 h2 h3 h4
    have e1 : (Value.retAddr x :: st).map (tv P) = P.2.2.2 x :: st.map (tv P) := rfl
    have e2 : tv P (.retAddr x) = P.2.2.2 x := rfl
    rw [e2] at hv
    rw [show ((pc + 1, ls, Value.retAddr x :: st, w) : Fr).2.2.1.map (tv P) = P.2.2.2 x :: st.map (tv P) from rfl] at kk
    rcases C.2.2.2.2.2.2.2.2.2.1.1 x with e3 | ⟨t, e3⟩
    · rw [e3] at hv kk
      exact lv_aload_nN C.1 C.2.1 hd rfl hv kk
    · rw [e3] at hv kk
      exact lv_aload_n C.1 C.2.1 hd rfl hv kk
  · cases h
theorem r_istore {q : Nat} (C : Cx p R s mi args meth c m P E n0) (hd : decode (bO m) pc = .ok ((.istore q), n)) (ha : auxE m pc ((.istore q), n, a, b, cc, d, v) = true) (h : st1 E ((.istore q), n, a, b, cc, d, v) pc ls st w = some g) (k : Wst p l e R s mi args below meth c m P n0 Q g) : Wst p l e R s mi args below meth c m P n0 Q (pc, ls, st, w) := by
  obtain rfl : n = 2 := Nat.eq_of_beq_eq_true ha
  simp only [st1] at h
  split at h
  · split at h
    · rename_i x r hq
      cases h
      intro H locs la h1 h2 h3 h4
      have hq : q < mx m := by rw [← h3.2.1]; exact hq
      exact lv_istore C.1 C.2.1 hd h3.has hq rfl (fun la' h' => k H locs la' h1 h2 (LsR_sto C.2.2.2.2.2.2.2.2.2.1.cat h3 (x := .int x) hq h') h4)
    · cases h
  · cases h
theorem r_istore_n {q : Fin 4} (C : Cx p R s mi args meth c m P E n0) (hd : decode (bO m) pc = .ok ((.istore_n q), n)) (ha : auxE m pc ((.istore_n q), n, a, b, cc, d, v) = true) (h : st1 E ((.istore_n q), n, a, b, cc, d, v) pc ls st w = some g) (k : Wst p l e R s mi args below meth c m P n0 Q g) : Wst p l e R s mi args below meth c m P n0 Q (pc, ls, st, w) := by
  obtain rfl : n = 1 := Nat.eq_of_beq_eq_true ha
  simp only [st1] at h
  split at h
  · split at h
    · rename_i x r hq
      cases h
      intro H locs la h1 h2 h3 h4
      have hq : q.val < mx m := by rw [← h3.2.1]; exact hq
      exact lv_istore_n C.1 C.2.1 hd rfl h3.has hq rfl (fun la' h' => k H locs la' h1 h2 (LsR_sto C.2.2.2.2.2.2.2.2.2.1.cat h3 (x := .int x) hq h') h4)
    · cases h
  · cases h
theorem r_astore {q : Nat} (C : Cx p R s mi args meth c m P E n0) (hd : decode (bO m) pc = .ok ((.astore q), n)) (ha : auxE m pc ((.astore q), n, a, b, cc, d, v) = true) (h : st1 E ((.astore q), n, a, b, cc, d, v) pc ls st w = some g) (k : Wst p l e R s mi args below meth c m P n0 Q g) : Wst p l e R s mi args below meth c m P n0 Q (pc, ls, st, w) := by
  obtain rfl : n = 2 := Nat.eq_of_beq_eq_true ha
  simp only [st1] at h
  split at h
  · split at h
    · rename_i x r hq
      cases h
      intro H locs la h1 h2 h3 h4
      have hq : q < mx m := by rw [← h3.2.1]; exact hq
      exact lv_astore C.1 C.2.1 hd h3.has hq rfl (fun la' h' => k H locs la' h1 h2 (LsR_sto C.2.2.2.2.2.2.2.2.2.1.cat h3 (x := .ref x) hq h') h4)
    · cases h
  · cases h
theorem r_astore_n {q : Fin 4} (C : Cx p R s mi args meth c m P E n0) (hd : decode (bO m) pc = .ok ((.astore_n q), n)) (ha : auxE m pc ((.astore_n q), n, a, b, cc, d, v) = true) (h : st1 E ((.astore_n q), n, a, b, cc, d, v) pc ls st w = some g) (k : Wst p l e R s mi args below meth c m P n0 Q g) : Wst p l e R s mi args below meth c m P n0 Q (pc, ls, st, w) := by
  obtain rfl : n = 1 := Nat.eq_of_beq_eq_true ha
  simp only [st1] at h
  split at h
  · split at h
    · rename_i x r hq
      cases h
      intro H locs la h1 h2 h3 h4
      have hq : q.val < mx m := by rw [← h3.2.1]; exact hq
      exact lv_astore_n C.1 C.2.1 hd rfl h3.has hq rfl (fun la' h' => k H locs la' h1 h2 (LsR_sto C.2.2.2.2.2.2.2.2.2.1.cat h3 (x := .ref x) hq h') h4)
    · cases h
  · cases h
theorem r_lstore {q : Nat} (C : Cx p R s mi args meth c m P E n0) (hd : decode (bO m) pc = .ok ((.lstore q), n)) (ha : auxE m pc ((.lstore q), n, a, b, cc, d, v) = true) (h : st1 E ((.lstore q), n, a, b, cc, d, v) pc ls st w = some g) (k : Wst p l e R s mi args below meth c m P n0 Q g) : Wst p l e R s mi args below meth c m P n0 Q (pc, ls, st, w) := by
  obtain rfl : n = 2 := Nat.eq_of_beq_eq_true ha
  simp only [st1] at h
  split at h
  · split at h
    · rename_i x r hq
      cases h
      intro H locs la h1 h2 h3 h4
      have hq : q + 1 < mx m := by rw [← h3.2.1]; exact hq
      exact lv_lstore C.1 C.2.1 hd h3.has hq rfl (fun la' h' => k H locs la' h1 h2 (LsR_stoL C.2.2.2.2.2.2.2.2.2.1.cat h3 (x := .long x) hq h') h4)
    · cases h
  · cases h
theorem r_lstore_n {q : Fin 4} (C : Cx p R s mi args meth c m P E n0) (hd : decode (bO m) pc = .ok ((.lstore_n q), n)) (ha : auxE m pc ((.lstore_n q), n, a, b, cc, d, v) = true) (h : st1 E ((.lstore_n q), n, a, b, cc, d, v) pc ls st w = some g) (k : Wst p l e R s mi args below meth c m P n0 Q g) : Wst p l e R s mi args below meth c m P n0 Q (pc, ls, st, w) := by
  obtain rfl : n = 1 := Nat.eq_of_beq_eq_true ha
  simp only [st1] at h
  split at h
  · split at h
    · rename_i x r hq
      cases h
      intro H locs la h1 h2 h3 h4
      have hq : q.val + 1 < mx m := by rw [← h3.2.1]; exact hq
      exact lv_lstore_n C.1 C.2.1 hd rfl h3.has hq rfl (fun la' h' => k H locs la' h1 h2 (LsR_stoL C.2.2.2.2.2.2.2.2.2.1.cat h3 (x := .long x) hq h') h4)
    · cases h
  · cases h
theorem r_iinc {q : Nat} {z : Int} (C : Cx p R s mi args meth c m P E n0) (hd : decode (bO m) pc = .ok ((.iinc q z), n)) (ha : auxE m pc ((.iinc q z), n, a, b, cc, d, v) = true) (h : st1 E ((.iinc q z), n, a, b, cc, d, v) pc ls st w = some g) (k : Wst p l e R s mi args below meth c m P n0 Q g) : Wst p l e R s mi args below meth c m P n0 Q (pc, ls, st, w) := by
  simp only [auxE, Bool.and_eq_true, decide_eq_true_eq] at ha
  obtain rfl : n = 3 := Nat.eq_of_beq_eq_true ha.1
  simp only [st1] at h
  split at h
  · rename_i x hx
    split at h
    · rename_i hq
      cases h
      intro H locs la h1 h2 h3 h4
      have hq : q < mx m := by rw [← h3.2.1]; exact hq
      obtain ⟨j, hj⟩ := List.getElem?_of_mem (lst_mem (P := P) (ls := ls) (q := (q, .int x)) |>.mpr ⟨_, hx, (by intro q; cases q), rfl⟩)
      exact lv_iinc C.1 C.2.1 hd h3.has hj (by rw [ha.2]) hq rfl (fun la' h' => k H locs la' h1 h2 (LsR_sto C.2.2.2.2.2.2.2.2.2.1.cat h3 (x := .int (x + v)) hq h') h4)
    · cases h
  · cases h
theorem r_dup (C : Cx p R s mi args meth c m P E n0) (hd : decode (bO m) pc = .ok (.dup, n)) (ha : auxE m pc (.dup, n, a, b, cc, d, v) = true) (h : st1 E (.dup, n, a, b, cc, d, v) pc ls st w = some g) (k : Wst p l e R s mi args below meth c m P n0 Q g) : Wst p l e R s mi args below meth c m P n0 Q (pc, ls, st, w) := by
  obtain rfl : n = 1 := Nat.eq_of_beq_eq_true ha
  simp only [st1] at h
  split at h
  · rename_i x r
    split at h
    · rename_i hx
      cases h
      exact fun H locs la h1 h2 h3 h4 => lv_dup C.1 C.2.1 hd (by rw [tv_cat C.2.2.2.2.2.2.2.2.2.1.cat]; cases x <;> first | rfl | cases hx) (k H locs la h1 h2 h3 h4)
    · cases h
  · cases h
theorem r_pop (C : Cx p R s mi args meth c m P E n0) (hd : decode (bO m) pc = .ok (.pop, n)) (ha : auxE m pc (.pop, n, a, b, cc, d, v) = true) (h : st1 E (.pop, n, a, b, cc, d, v) pc ls st w = some g) (k : Wst p l e R s mi args below meth c m P n0 Q g) : Wst p l e R s mi args below meth c m P n0 Q (pc, ls, st, w) := by
  obtain rfl : n = 1 := Nat.eq_of_beq_eq_true ha
  simp only [st1] at h
  split at h
  · rename_i x r
    split at h
    · rename_i hx
      cases h
      exact fun H locs la h1 h2 h3 h4 => lv_pop C.1 C.2.1 hd (by rw [tv_cat C.2.2.2.2.2.2.2.2.2.1.cat]; cases x <;> first | rfl | cases hx) (k H locs la h1 h2 h3 h4)
    · cases h
  · cases h
theorem r_dup2 (C : Cx p R s mi args meth c m P E n0) (hd : decode (bO m) pc = .ok (.dup2, n)) (ha : auxE m pc (.dup2, n, a, b, cc, d, v) = true) (h : st1 E (.dup2, n, a, b, cc, d, v) pc ls st w = some g) (k : Wst p l e R s mi args below meth c m P n0 Q g) : Wst p l e R s mi args below meth c m P n0 Q (pc, ls, st, w) := by
  obtain rfl : n = 1 := Nat.eq_of_beq_eq_true ha
  simp only [st1] at h
  split at h
  · rename_i y x r
    split at h
    · rename_i hx
      simp only [Bool.and_eq_true] at hx
      cases h
      exact fun H locs la h1 h2 h3 h4 => lv_dup2_11 C.1 C.2.1 hd (by rw [tv_cat C.2.2.2.2.2.2.2.2.2.1.cat]; cases y <;> first | rfl | cases hx.2) (by rw [tv_cat C.2.2.2.2.2.2.2.2.2.1.cat]; cases x <;> first | rfl | cases hx.1) (k H locs la h1 h2 h3 h4)
    · cases h
  · cases h
theorem r_ifCond {q : ClassFile.Cond} {z : Int} (C : Cx p R s mi args meth c m P E n0) (hd : decode (bO m) pc = .ok ((.ifCond q z), n)) (ha : auxE m pc ((.ifCond q z), n, a, b, cc, d, v) = true) (h : st1 E ((.ifCond q z), n, a, b, cc, d, v) pc ls st w = some g) (k : Wst p l e R s mi args below meth c m P n0 Q g) : Wst p l e R s mi args below meth c m P n0 Q (pc, ls, st, w) := by
  simp only [auxE, Bool.and_eq_true, decide_eq_true_eq] at ha
  obtain rfl : n = 3 := Nat.eq_of_beq_eq_true ha.1
  simp only [st1] at h
  split at h
  · cases q
    · dsimp only at h
      split at h
      · rename_i hc
        cases h
        exact fun H locs la h1 h2 h3 h4 => lv_if_eq C.1 C.2.1 hd ha.2 (fun _ => k H locs la h1 h2 h3 h4) (fun z => absurd hc z)
      · rename_i hc
        cases h
        exact fun H locs la h1 h2 h3 h4 => lv_if_eq C.1 C.2.1 hd ha.2 (fun z => absurd z hc) (fun _ => k H locs la h1 h2 h3 h4)
    · dsimp only at h
      split at h
      · rename_i hc
        cases h
        exact fun H locs la h1 h2 h3 h4 => lv_if_ne C.1 C.2.1 hd ha.2 (fun z => absurd hc z) (fun _ => k H locs la h1 h2 h3 h4)
      · rename_i hc
        cases h
        exact fun H locs la h1 h2 h3 h4 => lv_if_ne C.1 C.2.1 hd ha.2 (fun _ => k H locs la h1 h2 h3 h4) (fun z => absurd z hc)
    · dsimp only at h
      split at h
      · rename_i hc
        cases h
        exact fun H locs la h1 h2 h3 h4 => lv_if_lt C.1 C.2.1 hd ha.2 (fun _ => k H locs la h1 h2 h3 h4) (fun z => absurd hc z)
      · rename_i hc
        cases h
        exact fun H locs la h1 h2 h3 h4 => lv_if_lt C.1 C.2.1 hd ha.2 (fun z => absurd z hc) (fun _ => k H locs la h1 h2 h3 h4)
    · dsimp only at h
      split at h
      · rename_i hc
        cases h
        exact fun H locs la h1 h2 h3 h4 => lv_if_ge C.1 C.2.1 hd ha.2 (fun _ => k H locs la h1 h2 h3 h4) (fun z => absurd hc z)
      · rename_i hc
        cases h
        exact fun H locs la h1 h2 h3 h4 => lv_if_ge C.1 C.2.1 hd ha.2 (fun z => absurd z hc) (fun _ => k H locs la h1 h2 h3 h4)
    · dsimp only at h
      split at h
      · rename_i hc
        cases h
        exact fun H locs la h1 h2 h3 h4 => lv_if_gt C.1 C.2.1 hd ha.2 (fun _ => k H locs la h1 h2 h3 h4) (fun z => absurd hc z)
      · rename_i hc
        cases h
        exact fun H locs la h1 h2 h3 h4 => lv_if_gt C.1 C.2.1 hd ha.2 (fun z => absurd z hc) (fun _ => k H locs la h1 h2 h3 h4)
    · dsimp only at h
      split at h
      · rename_i hc
        cases h
        exact fun H locs la h1 h2 h3 h4 => lv_if_le C.1 C.2.1 hd ha.2 (fun _ => k H locs la h1 h2 h3 h4) (fun z => absurd hc z)
      · rename_i hc
        cases h
        exact fun H locs la h1 h2 h3 h4 => lv_if_le C.1 C.2.1 hd ha.2 (fun z => absurd z hc) (fun _ => k H locs la h1 h2 h3 h4)
  · cases h
theorem r_if_icmp {q : ClassFile.Cond} {z : Int} (C : Cx p R s mi args meth c m P E n0) (hd : decode (bO m) pc = .ok ((.if_icmp q z), n)) (ha : auxE m pc ((.if_icmp q z), n, a, b, cc, d, v) = true) (h : st1 E ((.if_icmp q z), n, a, b, cc, d, v) pc ls st w = some g) (k : Wst p l e R s mi args below meth c m P n0 Q g) : Wst p l e R s mi args below meth c m P n0 Q (pc, ls, st, w) := by
  simp only [auxE, Bool.and_eq_true, decide_eq_true_eq] at ha
  obtain rfl : n = 3 := Nat.eq_of_beq_eq_true ha.1
  simp only [st1] at h
  split at h
  · cases q
    · dsimp only at h
      split at h
      · rename_i hc
        cases h
        exact fun H locs la h1 h2 h3 h4 => lv_icmp_eq C.1 C.2.1 hd ha.2 (fun _ => k H locs la h1 h2 h3 h4) (fun z => absurd hc z)
      · rename_i hc
        cases h
        exact fun H locs la h1 h2 h3 h4 => lv_icmp_eq C.1 C.2.1 hd ha.2 (fun z => absurd z hc) (fun _ => k H locs la h1 h2 h3 h4)
    · dsimp only at h
      split at h
      · rename_i hc
        cases h
        exact fun H locs la h1 h2 h3 h4 => lv_icmp_ne C.1 C.2.1 hd ha.2 (fun z => absurd hc z) (fun _ => k H locs la h1 h2 h3 h4)
      · rename_i hc
        cases h
        exact fun H locs la h1 h2 h3 h4 => lv_icmp_ne C.1 C.2.1 hd ha.2 (fun _ => k H locs la h1 h2 h3 h4) (fun z => absurd z hc)
    · dsimp only at h
      split at h
      · rename_i hc
        cases h
        exact fun H locs la h1 h2 h3 h4 => lv_icmp_lt C.1 C.2.1 hd ha.2 (fun _ => k H locs la h1 h2 h3 h4) (fun z => absurd hc z)
      · rename_i hc
        cases h
        exact fun H locs la h1 h2 h3 h4 => lv_icmp_lt C.1 C.2.1 hd ha.2 (fun z => absurd z hc) (fun _ => k H locs la h1 h2 h3 h4)
    · dsimp only at h
      split at h
      · rename_i hc
        cases h
        exact fun H locs la h1 h2 h3 h4 => lv_icmp_ge C.1 C.2.1 hd ha.2 (fun _ => k H locs la h1 h2 h3 h4) (fun z => absurd hc z)
      · rename_i hc
        cases h
        exact fun H locs la h1 h2 h3 h4 => lv_icmp_ge C.1 C.2.1 hd ha.2 (fun z => absurd z hc) (fun _ => k H locs la h1 h2 h3 h4)
    · dsimp only at h
      split at h
      · rename_i hc
        cases h
        exact fun H locs la h1 h2 h3 h4 => lv_icmp_gt C.1 C.2.1 hd ha.2 (fun _ => k H locs la h1 h2 h3 h4) (fun z => absurd hc z)
      · rename_i hc
        cases h
        exact fun H locs la h1 h2 h3 h4 => lv_icmp_gt C.1 C.2.1 hd ha.2 (fun z => absurd z hc) (fun _ => k H locs la h1 h2 h3 h4)
    · dsimp only at h
      split at h
      · rename_i hc
        cases h
        exact fun H locs la h1 h2 h3 h4 => lv_icmp_le C.1 C.2.1 hd ha.2 (fun _ => k H locs la h1 h2 h3 h4) (fun z => absurd hc z)
      · rename_i hc
        cases h
        exact fun H locs la h1 h2 h3 h4 => lv_icmp_le C.1 C.2.1 hd ha.2 (fun z => absurd z hc) (fun _ => k H locs la h1 h2 h3 h4)
  · cases h
theorem r_goto {z : Int} (C : Cx p R s mi args meth c m P E n0) (hd : decode (bO m) pc = .ok ((.goto z), n)) (ha : auxE m pc ((.goto z), n, a, b, cc, d, v) = true) (h : st1 E ((.goto z), n, a, b, cc, d, v) pc ls st w = some g) (k : Wst p l e R s mi args below meth c m P n0 Q g) : Wst p l e R s mi args below meth c m P n0 Q (pc, ls, st, w) := by
  simp only [auxE, Bool.and_eq_true, decide_eq_true_eq] at ha
  obtain rfl : n = 3 := Nat.eq_of_beq_eq_true ha.1
  simp only [st1] at h
  cases h
  exact fun H locs la h1 h2 h3 h4 => lv_goto C.1 C.2.1 hd ha.2 (k H locs la h1 h2 h3 h4)
end Rows
