/-! HOW A WORLD STANDS IN THE MACHINE'S HEAP: P: where the row begins, class numbers and slots, array classes, the things that were there before -/
abbrev Pl : Type := Nat × va_G × (Nat → ClassId) × (Nat → Value)
def clO : List vw_C := (List.range 15).map (fun ci => (cn ci, fT ci, nF ci))
def tyO (P : Pl) : List (ClassId × FieldType) := [(P.2.2.1 100, .int), (P.2.2.1 101, .byte), (P.2.2.1 102, .boolean)]
def tv (P : Pl) (v : Value) : Value := match v with
  | .ref k => .ref (P.1 + k)
  | .retAddr k => P.2.2.2 k
  | v => v
def rfv (P : Pl) (r : Option Nat) : Value := match r with
  | none => .null
  | some k => .ref (P.1 + k)
def fvl (P : Pl) (w : Wd) (k j : Nat) : Value := match fK (shc k) j with
  | 0 => .int (w.2.2.1 k j)
  | 1 => rfv P (w.2.2.2 k j)
  | 2 => .int (if w.2.1 k j then Int32.ofNat (sf k j) else 0)
  | 3 => if w.2.1 k j then .ref (P.1 + sf k j) else .null
  | _ => .int (w.2.2.1 k j)
def enO (P : Pl) (w : Wd) (k : Nat) : va_E := if Nat.ble 100 (shc k) then .inl (P.2.2.1 (shc k), shl k, .inl (w.2.2.1 k)) else .inr (shc k, (List.range (nF (shc k))).map (fvl P w k))
def wsO (P : Pl) (w : Wd) : va_W := (List.range w.1).map (fun k => (P.1 + k, enO P w k))
def AO (P : Pl) : Nat → Prop := fun q => P.1 ≤ q
def ReH (P : Pl) (w : Wd) (H : Heap) : Prop := va_P P.2.1 clO (wsO P w) H
theorem clO_at {ci : Nat} (h : ci < 15) : clO[ci]? = some (cn ci, fT ci, nF ci) := by simp [clO, h]
theorem wsO_at (P : Pl) (w : Wd) {k : Nat} (h : k < w.1) : (wsO P w)[k]? = some (P.1 + k, enO P w k) := by simp [wsO, h]
theorem wsO_lt {P : Pl} {w : Wd} {k : Nat} {q : Nat × va_E} (h : (wsO P w)[k]? = some q) : k < w.1 ∧ q = (P.1 + k, enO P w k) := by
  have hk : k < w.1 := by
    have := (List.getElem?_eq_some_iff.mp h).1
    simpa [wsO] using this
  rw [wsO_at P w hk] at h
  exact ⟨hk, (Option.some.inj h).symm⟩
theorem wsO_D (P : Pl) (w : Wd) : va_D (AO P) (wsO P w) := by
  refine ⟨fun i j p q hi hj e => ?_, fun k q hk => ?_⟩
  · obtain ⟨-, rfl⟩ := wsO_lt hi
    obtain ⟨-, rfl⟩ := wsO_lt hj
    have : P.1 + i = P.1 + j := e
    omega
  · obtain ⟨-, rfl⟩ := wsO_lt hk
    show P.1 ≤ P.1 + k
    omega
theorem wsO_set (P : Pl) (w w' : Wd) (k : Nat) (e : va_E) (h1 : w'.1 = w.1) (he : enO P w' k = e) (ho : ∀ q, q ≠ k → enO P w' q = enO P w q) : (wsO P w).set k (P.1 + k, e) = wsO P w' := by
  apply List.ext_getElem?
  intro j
  rw [List.getElem?_set]
  by_cases hj : j < w.1
  · rw [wsO_at P w' (by omega)]
    by_cases hk : k = j
    · subst hk
      have : k < (wsO P w).length := by simpa [wsO] using hj
      simp [this, he]
    · rw [if_neg hk, wsO_at P w hj, ho j (fun q => hk q.symm)]
  · have h2 : (wsO P w)[j]? = none := by simp [wsO]; omega
    have h3 : (wsO P w')[j]? = none := by simp [wsO]; omega
    rw [h3]
    split
    · rename_i hk
      subst hk
      have : ¬ k < (wsO P w).length := by simpa [wsO] using hj
      simp [this]
    · exact h2
/-- the locals -/
def LsR (P : Pl) (m : Nat) (ls : List Value) (la : Array Slot) : Prop := la.size = mx m ∧ ls.length = mx m ∧ lv_wf la ∧ ∀ (i : Nat) (v : Value), ls[i]? = some v → v ≠ us → la[i]? = some (.val (tv P v))
def lst (P : Pl) (ls : List Value) : List (Nat × Value) := (List.range ls.length).filterMap (fun i => match ls[i]? with
  | some v => if v = us then none else some (i, tv P v)
  | none => none)
theorem lst_mem {P : Pl} {ls : List Value} {q : Nat × Value} : q ∈ lst P ls ↔ ∃ v, ls[q.1]? = some v ∧ v ≠ us ∧ q.2 = tv P v := by
  unfold lst
  rw [List.mem_filterMap]
  constructor
  · rintro ⟨i, hi, h⟩
    cases hv : ls[i]? with
    | none => rw [hv] at h; cases h
    | some v =>
      rw [hv] at h
      dsimp only at h
      split at h
      · cases h
      · rename_i hn
        cases h
        exact ⟨v, hv, hn, rfl⟩
  · rintro ⟨v, h1, h2, h3⟩
    refine ⟨q.1, List.mem_range.mpr (List.getElem?_eq_some_iff.mp h1).1, ?_⟩
    rw [h1]
    dsimp only
    rw [if_neg h2, ← h3]
theorem LsR.has {P : Pl} {m : Nat} {ls : List Value} {la : Array Slot} (h : LsR P m ls la) : lv_has la (mx m) (lst P ls) := by
  refine ⟨h.1, h.2.2.1, fun q hq => ?_⟩
  obtain ⟨v, h1, h2, h3⟩ := lst_mem.mp hq
  rw [h3]
  exact h.2.2.2 q.1 v h1 h2
theorem us_cat : us.category = 1 := rfl
theorem tv_cat {P : Pl} (hP : ∀ k, (P.2.2.2 k).category = 1) (v : Value) : (tv P v).category = v.category := by
  cases v <;> simp [tv, Value.category, hP] <;> exact hP _
theorem clL_len (ls : List Value) (k : Nat) : (clL ls k).length = ls.length := by
  unfold clL
  split
  · rfl
  · split <;> simp
theorem clL_get {ls : List Value} {k i : Nat} {v : Value} (h : (clL ls k)[i]? = some v) (hv : v ≠ us) : ls[i]? = some v ∧ ¬ (i + 1 = k ∧ v.category = 2) := by
  unfold clL at h
  split at h
  · exact ⟨h, fun q => by omega⟩
  · rename_i k
    split at h
    · rename_i x hx
      rw [List.getElem?_set] at h
      split at h
      · split at h
        · exact absurd (Option.some.inj h).symm hv
        · cases h
      · rename_i e
        exact ⟨h, fun q => e (by omega)⟩
    · rename_i x hx
      rw [List.getElem?_set] at h
      split at h
      · split at h
        · exact absurd (Option.some.inj h).symm hv
        · cases h
      · rename_i e
        exact ⟨h, fun q => e (by omega)⟩
    · rename_i hx hy
      refine ⟨h, fun q => ?_⟩
      have e : i = k := by omega
      subst e
      have h2 := q.2
      cases v with
      | long x => exact hx x h
      | double x => exact hy x h
      | _ => simp [Value.category] at h2
