/-! FAULTS 1 to 4 noted, as sets; the classes linked on both sides -/
def NoC (S : Nat → Nat → Prop) (A : St) : Prop := ((∀ q k, ¬ S q k) ∧ A 57 3 = 0) ∨ ∃ q k, 1 ≤ k ∧ k < 10 ∧ q < 2000 ∧ isMn S q k ∧ A 57 3 = Int32.ofNat k ∧ A 57 4 = Int32.ofNat q
def NoR (S : Nat → Nat → Prop) (B : St) : Prop := ((∀ q k, ¬ S q k) ∧ B 82 22 = 0 ∧ B 82 5 = 4001) ∨ ∃ q k, 1 ≤ k ∧ k < 10 ∧ q < 2000 ∧ isMn S q k ∧ B 82 22 = Int32.ofNat k ∧ B 82 5 = Int32.ofNat q
def PtS (c : Prop) (x : Int32) (k : Nat) : Nat → Nat → Prop := fun q' k' => c ∧ x = Int32.ofNat q' ∧ q' < 2000 ∧ k' = k
def UnS (S T : Nat → Nat → Prop) : Nat → Nat → Prop := fun q k => S q k ∨ T q k
section
variable {S : Nat → Nat → Prop} {A B : St} {q k q0 k0 : Nat}
theorem x83_m (h : NoC S A) (h1 : 1 ≤ k) (h2 : k < 10) (h3 : q < 2000) : ∃ A', x83 A (Int32.ofNat q) (Int32.ofNat k) = some A' ∧ NoC (adS S q k) A' := by
  have new : isMn (adS S q k) q k → NoC (adS S q k) (up2 (up2 A 57 3 (Int32.ofNat k)) 57 4 (Int32.ofNat q)) := fun z => Or.inr ⟨q, k, h1, h2, h3, z, by rw [up2_j _ _ _ _ _ (by decide), up2_s], up2_s _ _ _ _⟩
  unfold x83
  rcases h with ⟨e1, e2⟩ | ⟨q0, k0, e1, e2, e3, e4, e5, e6⟩
  · rw [if_pos e2]
    exact ⟨_, rfl, new (isMn.one e1)⟩
  · rw [e5, e6, if_neg (fun z => by have := (i32_e (x := 0) (b := 0) rfl (by omega) (by decide)).mp z; omega)]
    by_cases c1 : q < q0
    · rw [if_pos ((i32_lt (by omega) (by omega)).mpr c1)]
      exact ⟨_, rfl, new (e4.new (Or.inl c1))⟩
    · rw [if_neg (fun z => c1 ((i32_lt (by omega) (by omega)).mp z))]
      by_cases c2 : q = q0
      · rw [if_pos (by rw [c2])]
        by_cases c3 : k0 ≤ k
        · rw [if_pos ((i32_le (by omega) (by omega)).mpr c3)]
          exact ⟨_, rfl, Or.inr ⟨q0, k0, e1, e2, e3, e4.old (Or.inr ⟨c2.symm, c3⟩), e5, e6⟩⟩
        · rw [if_neg (fun z => c3 ((i32_le (by omega) (by omega)).mp z))]
          exact ⟨_, rfl, new (e4.new (Or.inr ⟨c2, by omega⟩))⟩
      · rw [if_neg (by rw [i32_eq (by omega) (by omega)]; exact c2)]
        exact ⟨_, rfl, Or.inr ⟨q0, k0, e1, e2, e3, e4.old (Or.inl (by omega)), e5, e6⟩⟩
theorem x217_m (h : NoR S B) (h1 : 1 ≤ k) (h2 : k < 10) (h3 : q < 2000) : ∃ B', x217 B (Int32.ofNat k) (Int32.ofNat q) = some B' ∧ NoR (adS S q k) B' := by
  have new : isMn (adS S q k) q k → NoR (adS S q k) (up2 (up2 B 82 22 (Int32.ofNat k)) 82 5 (Int32.ofNat q)) := fun z => Or.inr ⟨q, k, h1, h2, h3, z, by rw [up2_j _ _ _ _ _ (by decide), up2_s], up2_s _ _ _ _⟩
  unfold x217
  rcases h with ⟨e1, e2, e3⟩ | ⟨q0, k0, e1, e2, e3, e4, e5, e6⟩
  · rw [e3, if_pos (show Int32.ofNat q < 4001 by show Int32.ofNat q < Int32.ofNat 4001; rw [i32_lt (by omega) (by decide)]; omega)]
    exact ⟨_, rfl, new (isMn.one e1)⟩
  · rw [e5, e6]
    by_cases c1 : q < q0
    · rw [if_pos ((i32_lt (by omega) (by omega)).mpr c1)]
      exact ⟨_, rfl, new (e4.new (Or.inl c1))⟩
    · rw [if_neg (fun z => c1 ((i32_lt (by omega) (by omega)).mp z))]
      by_cases c2 : q = q0
      · rw [if_pos (by rw [c2])]
        by_cases c3 : k0 ≤ k
        · rw [if_pos ((i32_le (by omega) (by omega)).mpr c3)]
          exact ⟨_, rfl, Or.inr ⟨q0, k0, e1, e2, e3, e4.old (Or.inr ⟨c2.symm, c3⟩), e5, e6⟩⟩
        · rw [if_neg (fun z => c3 ((i32_le (by omega) (by omega)).mp z))]
          exact ⟨_, rfl, new (e4.new (Or.inr ⟨c2, by omega⟩))⟩
      · rw [if_neg (by rw [i32_eq (by omega) (by omega)]; exact c2)]
        exact ⟨_, rfl, Or.inr ⟨q0, k0, e1, e2, e3, e4.old (Or.inl (by omega)), e5, e6⟩⟩
/-- the same was noted on both sides: the same fault is told -/
theorem note_sm (hA : NoC S A) (hB : NoR S B) : A 57 3 = B 82 22 ∧ (A 57 3 ≠ 0 → A 57 4 = B 82 5) := by
  rcases hA with ⟨a1, a2⟩ | ⟨q, k, a1, a2, a3, a4, a5, a6⟩
  · rcases hB with ⟨b1, b2, b3⟩ | ⟨q', k', b1, b2, b3, b4, b5, b6⟩
    · exact ⟨by rw [a2, b2], fun z => absurd a2 z⟩
    · exact absurd b4.1 (a1 _ _)
  · rcases hB with ⟨b1, b2, b3⟩ | ⟨q', k', b1, b2, b3, b4, b5, b6⟩
    · exact absurd a4.1 (b1 _ _)
    · have e1 := a4.2 q' k' b4.1
      have e2 := b4.2 q k a4.1
      have e3 : q = q' := by omega
      have e4 : k = k' := by omega
      subst e3
      subst e4
      exact ⟨by rw [a5, b5], fun _ => by rw [a6, b6]⟩

theorem isMn.ext {S' : Nat → Nat → Prop} (e : ∀ q k, S q k ↔ S' q k) (h : isMn S q k) : isMn S' q k := ⟨(e _ _).mp h.1, fun q' k' z => h.2 q' k' ((e _ _).mpr z)⟩
theorem NoC.ext {S' : Nat → Nat → Prop} (h : NoC S A) (e : ∀ q k, S q k ↔ S' q k) : NoC S' A := by
  rcases h with ⟨h1, h2⟩ | ⟨q, k, h1, h2, h3, h4, h5⟩
  · exact Or.inl ⟨fun q k z => h1 q k ((e _ _).mpr z), h2⟩
  · exact Or.inr ⟨q, k, h1, h2, h3, h4.ext e, h5⟩
theorem NoR.ext {S' : Nat → Nat → Prop} (h : NoR S B) (e : ∀ q k, S q k ↔ S' q k) : NoR S' B := by
  rcases h with ⟨h1, h2⟩ | ⟨q, k, h1, h2, h3, h4, h5⟩
  · exact Or.inl ⟨fun q k z => h1 q k ((e _ _).mpr z), h2⟩
  · exact Or.inr ⟨q, k, h1, h2, h3, h4.ext e, h5⟩
theorem NoC.of {A' : St} (h : NoC S A) (h1 : A' 57 3 = A 57 3) (h2 : A' 57 4 = A 57 4) : NoC S A' := by
  unfold NoC
  rw [h1, h2]
  exact h
theorem NoR.of {B' : St} (h : NoR S B) (h1 : B' 82 22 = B 82 22) (h2 : B' 82 5 = B 82 5) : NoR S B' := by
  unfold NoR
  rw [h1, h2]
  exact h
theorem adS_pt {x : Int32} (hx : x = Int32.ofNat q) (hq : q < 2000) : ∀ q' k', adS S q k q' k' ↔ UnS S (PtS True x k) q' k' := by
  intro q' k'
  unfold adS UnS PtS
  constructor
  · rintro (z | ⟨rfl, rfl⟩)
    · exact Or.inl z
    · exact Or.inr ⟨trivial, hx, hq, rfl⟩
  · rintro (z | ⟨-, z1, z2, rfl⟩)
    · exact Or.inl z
    · rw [hx, i32_eq (by omega) (by omega)] at z1
      exact Or.inr ⟨z1.symm, rfl⟩
theorem x83_y {x v : Int32} (h : NoC S A) (hx : Plc x) (hv : v = Int32.ofNat k) (h1 : 1 ≤ k) (h2 : k < 10) : ∃ A', x83 A x v = some A' ∧ NoC (UnS S (PtS True x k)) A' ∧ ∀ a b, a ≠ 57 → A' a b = A a b := by
  obtain ⟨q, hq, rfl⟩ := hx
  obtain ⟨A', e1, e2⟩ := x83_m h h1 h2 hq
  refine ⟨A', by rw [hv]; exact e1, e2.ext (adS_pt rfl hq), fun a b z => ?_⟩
  have := x83_fr A A Frm.refl _ e1
  refine this a b ?_
  cases y : mdb [(57, some 4), (57, some 3)] a b with
  | false => rfl
  | true =>
    obtain ⟨e, he, f1, f2⟩ := mdb_of y
    simp only [List.mem_cons, List.not_mem_nil, or_false] at he
    rcases he with rfl | rfl <;> exact absurd f1.symm z
theorem x217_y {x v : Int32} (h : NoR S B) (hx : Plc x) (hv : v = Int32.ofNat k) (h1 : 1 ≤ k) (h2 : k < 10) : ∃ B', x217 B v x = some B' ∧ NoR (UnS S (PtS True x k)) B' ∧ ∀ a b, (a ≠ 82 ∨ (b ≠ 5 ∧ b ≠ 22)) → B' a b = B a b := by
  obtain ⟨q, hq, rfl⟩ := hx
  obtain ⟨B', e1, e2⟩ := x217_m h h1 h2 hq
  refine ⟨B', by rw [hv]; exact e1, e2.ext (adS_pt rfl hq), fun a b z => ?_⟩
  have := x217_fr B B Frm.refl _ e1
  refine this a b ?_
  cases y : mdb [(82, some 5), (82, some 22)] a b with
  | false => rfl
  | true =>
    obtain ⟨e, he, f1, f2⟩ := mdb_of y
    simp only [List.mem_cons, List.not_mem_nil, or_false] at he
    rcases he with rfl | rfl
    all_goals
      simp only [reduceCtorEq, false_or, Option.some.injEq] at f1 f2
      omega
/-- noted if c -/
theorem x83_c {x v : Int32} {c : Prop} [Decidable c] (h : NoC S A) (hx : c → Plc x) (hv : v = Int32.ofNat k) (h1 : 1 ≤ k) (h2 : k < 10) : ∃ A', (if c then x83 A x v else some A) = some A' ∧ NoC (UnS S (PtS c x k)) A' ∧ ∀ a b, a ≠ 57 → A' a b = A a b := by
  by_cases z : c
  · obtain ⟨A', e1, e2, e3⟩ := x83_y h (hx z) hv h1 h2
    refine ⟨A', by rw [if_pos z]; exact e1, e2.ext (fun q k => ?_), e3⟩
    unfold UnS PtS
    simp only [z]
  · refine ⟨A, if_neg z, h.ext (fun q k => ?_), fun _ _ _ => rfl⟩
    unfold UnS PtS
    simp only [z, false_and, or_false]
theorem x217_c {x v : Int32} {c : Prop} [Decidable c] (h : NoR S B) (hx : c → Plc x) (hv : v = Int32.ofNat k) (h1 : 1 ≤ k) (h2 : k < 10) : ∃ B', (if c then x217 B v x else some B) = some B' ∧ NoR (UnS S (PtS c x k)) B' ∧ ∀ a b, (a ≠ 82 ∨ (b ≠ 5 ∧ b ≠ 22)) → B' a b = B a b := by
  by_cases z : c
  · obtain ⟨A', e1, e2, e3⟩ := x217_y h (hx z) hv h1 h2
    refine ⟨A', by rw [if_pos z]; exact e1, e2.ext (fun q k => ?_), e3⟩
    unfold UnS PtS
    simp only [z]
  · refine ⟨B, if_neg z, h.ext (fun q k => ?_), fun _ _ _ => rfl⟩
    unfold UnS PtS
    simp only [z, false_and, or_false]
end
theorem t37 : (∀ (I : St) (i : Nat), i < 1460 → tget I (37) (Int32.ofNat i) 0 = I (38) (6 * i)) ∧ (∀ (I : St) (i : Nat), i < 1460 → tget I (37) (Int32.ofNat i) 1 = I (38) (6 * i + 1)) ∧ (∀ (I : St) (i : Nat), i < 1460 → tget I (37) (Int32.ofNat i) 2 = I (38) (6 * i + 2)) ∧ (∀ (I : St) (i : Nat) (v : Int32), i < 1460 → tset I (37) (Int32.ofNat i) 0 v = up2 I (38) (6 * i) v) ∧ (∀ (I : St) (i : Nat) (v : Int32), i < 1460 → tset I (37) (Int32.ofNat i) 1 v = up2 I (38) (6 * i + 1) v) ∧ (∀ (I : St) (i : Nat) (v : Int32), i < 1460 → tset I (37) (Int32.ofNat i) 2 v = up2 I (38) (6 * i + 2) v) := by
  exact ⟨fun I i h => tg_n (c := 0) (by decide) (by decide) h rfl (by decide), fun I i h => tg_n (c := 1) (by decide) (by decide) h rfl (by decide), fun I i h => tg_n (c := 2) (by decide) (by decide) h rfl (by decide), fun I i v h => ts_n (c := 0) (by decide) (by decide) h rfl (by decide), fun I i v h => ts_n (c := 1) (by decide) (by decide) h rfl (by decide), fun I i v h => ts_n (c := 2) (by decide) (by decide) h rfl (by decide)⟩
theorem oI_m1 {o : Option Nat} (h : ∀ i, o = some i → i < 2147483648) : oI o = -1 ↔ o = none := by
  cases o with
  | none => exact ⟨fun _ => rfl, fun _ => rfl⟩
  | some i => exact ⟨fun z => absurd z (i32_m1 (h i rfl)), fun z => by cases z⟩
theorem get_lt {L : List (List Nat)} {i : Nat} {s : List Nat} (h : L[i]? = some s) : i < L.length := by
  obtain ⟨h1, -⟩ := List.getElem?_eq_some_iff.mp h
  exact h1
/-- names are the same on one side if and only if they are on the other -/
theorem NE.iff {L M : List (List Nat)} {x y x' y' : Int32} (hL : L.Nodup) (hM : M.Nodup) (bL : L.length < 2000) (bM : M.length ≤ 2000) (h : NE L M x y) (h' : NE L M x' y') : x = x' ↔ y = y' := by
  obtain ⟨i, j, s, rfl, rfl, e1, e2⟩ := h
  obtain ⟨i', j', s', rfl, rfl, e3, e4⟩ := h'
  have l1 := get_lt e1
  have l2 := get_lt e2
  have l3 := get_lt e3
  have l4 := get_lt e4
  rw [i32_eq (by omega) (by omega), i32_eq (by omega) (by omega)]
  constructor
  · rintro rfl
    rw [e1] at e3
    cases e3
    exact get_inj hM e2 e4
  · rintro rfl
    rw [e2] at e4
    cases e4
    exact get_inj hL e1 e3
theorem i32_l1 {a b : Nat} {x : Int32} (hx : x = Int32.ofNat b) (ha : a < 2147483648) (hb : b < 2147483648) : Int32.ofNat a < x ↔ a < b := by rw [hx]; exact i32_lt ha hb
theorem i32_l2 {a b : Nat} {x : Int32} (hx : x = Int32.ofNat b) (ha : a < 2147483648) (hb : b < 2147483648) : x ≤ Int32.ofNat a ↔ b ≤ a := by rw [hx]; exact i32_le hb ha
theorem i32_l3 {a b : Nat} {x : Int32} (hx : x = Int32.ofNat b) (ha : a < 2147483648) (hb : b < 2147483648) : Int32.ofNat a ≤ x ↔ a ≤ b := by rw [hx]; exact i32_le ha hb
theorem i32_l4 {a b : Nat} {x : Int32} (hx : x = Int32.ofNat b) (ha : a < 2147483648) (hb : b < 2147483648) : x < Int32.ofNat a ↔ b < a := by rw [hx]; exact i32_lt hb ha
