/-! FRAMES: Frm L I J: J is I but for what the list L names (a cell's field, or a whole cell) -/
def mdb : List (Nat × Option Nat) → Nat → Nat → Bool
  | [], _, _ => false
  | (c, o) :: r, k, j => (Nat.beq c k && (match o with | none => true | some i => Nat.beq i j)) || mdb r k j
def sbb (L' L : List (Nat × Option Nat)) : Bool := L'.all fun e => L.any fun e' => Nat.beq e'.1 e.1 && (match e'.2, e.2 with | none, _ => true | some i, some j => Nat.beq i j | some _, none => false)
def Frm (L : List (Nat × Option Nat)) (I J : St) : Prop := ∀ k j, mdb L k j = false → J k j = I k j
section
variable {L L' : List (Nat × Option Nat)} {I J K : St} {k j c : Nat} {a b v x : Int32}
theorem Frm.refl : Frm L I I := fun _ _ _ => rfl
theorem Frm.u2 (h : Frm L I J) (hm : mdb L k j = true) : Frm L I (up2 J k j v) := by
  intro p q hpq
  by_cases hp : p = k
  · subst hp
    by_cases hq : q = j
    · subst hq; rw [hm] at hpq; cases hpq
    · rw [up2_j _ _ _ _ _ hq]; exact h p q hpq
  · rw [up2_k _ _ _ _ _ _ hp]; exact h p q hpq
theorem Frm.ts (h : Frm L I J) (hm : ∀ j, mdb L (sf k 2) j = true) : Frm L I (tset J k a b v) := by
  unfold tset
  split
  · exact h
  · exact Frm.u2 h (hm _)
theorem Frm.ts2 (h : Frm L I J) (hm : ∀ j, mdb L (sf k 2) j = true) : Frm L I (tset2 J k a b v) := Frm.ts (Frm.ts h hm) hm
theorem Frm.ta (h : Frm L I J) (hm : mdb L k 3 = true) : Frm L I (tadd J k) := by
  unfold tadd
  split
  · exact Frm.u2 h hm
  · exact h
theorem Frm.tr (h : Frm L I J) (hm : mdb L k 3 = true) : Frm L I (tresize J k a) := Frm.u2 h hm
theorem Frm.fi (h : Frm L I J) (hm : ∀ j, mdb L c j = true) : Frm L I (fillF J c k v) := by
  intro p q hpq
  unfold fillF
  split
  · rename_i z
    rw [← z.1] at hm
    rw [hm q] at hpq
    cases hpq
  · exact h p q hpq
theorem mdb_of : mdb L k j = true → ∃ e ∈ L, e.1 = k ∧ (e.2 = none ∨ e.2 = some j) := by
  induction L with
  | nil => intro h; cases h
  | cons e r ih =>
    obtain ⟨c, o⟩ := e
    intro h
    simp only [mdb, Bool.or_eq_true, Bool.and_eq_true, Nat.beq_eq] at h
    rcases h with ⟨h1, h2⟩ | h
    · refine ⟨(c, o), List.mem_cons_self, h1, ?_⟩
      cases o with
      | none => exact Or.inl rfl
      | some i =>
        right
        rw [Nat.beq_eq] at h2
        rw [h2]
    · obtain ⟨e, he, h1⟩ := ih h
      exact ⟨e, List.mem_cons_of_mem _ he, h1⟩
theorem mdb_to {e : Nat × Option Nat} (he : e ∈ L) (h1 : e.1 = k) (h2 : e.2 = none ∨ e.2 = some j) : mdb L k j = true := by
  induction L with
  | nil => cases he
  | cons f r ih =>
    obtain ⟨c, o⟩ := f
    simp only [mdb, Bool.or_eq_true, Bool.and_eq_true, Nat.beq_eq]
    rcases List.mem_cons.mp he with h | h
    · subst h
      left
      refine ⟨h1, ?_⟩
      rcases h2 with h2 | h2
      · have h2 : o = none := h2
        subst h2
        rfl
      · have h2 : o = some j := h2
        subst h2
        exact Nat.beq_refl j
    · exact Or.inr (ih h)
theorem mdb_sub (hs : sbb L' L = true) (h : mdb L' k j = true) : mdb L k j = true := by
  obtain ⟨e, he, h1, h2⟩ := mdb_of h
  unfold sbb at hs
  rw [List.all_eq_true] at hs
  have h3 := hs e he
  rw [List.any_eq_true] at h3
  obtain ⟨f, hf, h4⟩ := h3
  rw [Bool.and_eq_true, Nat.beq_eq] at h4
  refine mdb_to hf (h4.1.trans h1) ?_
  have h5 := h4.2
  rcases h2 with h2 | h2
  · rw [h2] at h5
    split at h5
    · exact Or.inl (by assumption)
    · rename_i z1 z2; cases z2
    · cases h5
  · rw [h2] at h5
    split at h5
    · exact Or.inl (by assumption)
    · rename_i i' j' z1 z2
      right
      cases z2
      rw [Nat.beq_eq] at h5
      rw [z1, h5]
    · rename_i z1 z2; cases z2
theorem Frm.trans (h : Frm L I J) (h' : Frm L' J K) (hs : sbb L' L = true) : Frm L I K := by
  intro p q hpq
  have h1 : mdb L' p q = false := by
    cases z : mdb L' p q with
    | false => rfl
    | true => rw [mdb_sub hs z] at hpq; cases hpq
  rw [h' p q h1, h p q hpq]
theorem Frm.wd (h : Frm L' I J) (hs : sbb L' L = true) : Frm L I J := Frm.trans Frm.refl h hs
end
def Fq {α : Type} (X : Option α) (T : α → Prop) : Prop := ∀ q, X = some q → T q
section
variable {α β γ : Type} {T : α → Prop} {S : β → Prop}
theorem F.none : Fq (Option.none : Option α) T := by intro q h; cases h
theorem F.some {x : α} (h : T x) : Fq (Option.some x) T := by intro q z; cases z; exact h
theorem F.ite {c : Prop} [Decidable c] {A B : Option α} (h1 : c → Fq A T) (h2 : ¬ c → Fq B T) : Fq (if c then A else B) T := by
  split
  · exact h1 (by assumption)
  · exact h2 (by assumption)
theorem F.bind {Y : Option β} {f : β → Option α} (h : Fq Y S) (K : ∀ q, S q → Fq (f q) T) : Fq (Y.bind f) T := by
  intro q hq
  obtain ⟨p, h1, h2⟩ := Option.bind_eq_some_iff.mp hq
  exact K p (h p h1) q h2
theorem F.bindr {Y : Option β} {f : β → Option α} (K : ∀ q, Fq (f q) T) : Fq (Y.bind f) T := F.bind (S := fun _ => True) (fun _ _ => trivial) (fun q _ => K q)
theorem F.letS {L : List (Nat × Option Nat)} {I e : St} {f : St → Option α} (h : Frm L I e) (K : ∀ J, Frm L I J → Fq (f J) T) : Fq (Lt e f) T := K e h
theorem F.letV {e : β} {f : β → Option α} (K : ∀ v, Fq (f v) T) : Fq (Lt e f) T := K e
theorem F.bindE {A : β → Prop} {B : γ → Prop} {Y : Option (β ⊕ γ)} {f : β → Option α} {g : γ → Option α} (h : Fq Y (fun q => Sum.elim (fun a => A a) (fun b => B b) q)) (K1 : ∀ a, A a → Fq (f a) T) (K2 : ∀ b, B b → Fq (g b) T) : Fq (Y.bind (Sum.elim f g)) T := by
  refine F.bind h ?_
  intro q hq
  cases q with
  | inl a => exact K1 a hq
  | inr b => exact K2 b hq
theorem F.bindT {A : β → Prop} {B : γ → Prop} {Y : Option (β ⊕ γ)} {f : β → Option α} {g : γ → Option α} (h : Fq Y (fun q => Sum.elim (fun a => A a) (fun b => B b) q)) (K1 : ∀ a, A a → Fq (f a) T) (K2 : ∀ b, B b → Fq (g b) T) : Fq (Y.bind (Sum.elim f g)) T := F.bindE h K1 K2
theorem F.bindS {Y : Option (β ⊕ γ)} {f : β → Option α} {g : γ → Option α} (K1 : ∀ a, Fq (f a) T) (K2 : ∀ b, Fq (g b) T) : Fq (Y.bind (Sum.elim f g)) T := by
  refine F.bindr ?_
  intro q
  cases q with
  | inl a => exact K1 a
  | inr b => exact K2 b
end
