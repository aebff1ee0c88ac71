/-! LOOPS that note; FIELDS' places; MEMBERS and LABELS told again -/
theorem lpS {Y : Nat → Int32 → St → Option St} {NO : Nat → (Nat → Nat → Prop) → St → Prop} {T : Nat → Nat → Nat → Prop} {N : Nat} (hx : ∀ b S S' I, NO b S I → (∀ q k, S q k ↔ S' q k) → NO b S' I) (he : ∀ f S I, NO N S I → Y (f + 1) (Int32.ofNat N) I = some I) (hs : ∀ f b S I, b < N → NO b S I → ∃ I', Y (f + 1) (Int32.ofNat b) I = Y f (Int32.ofNat (b + 1)) I' ∧ NO (b + 1) (UnS S (T b)) I') : ∀ d a f S I, a + d = N → d < f → NO a S I → ∃ I', Y f (Int32.ofNat a) I = some I' ∧ NO N (fun q k => S q k ∨ ∃ b, a ≤ b ∧ b < N ∧ T b q k) I' := by
  intro d
  induction d with
  | zero =>
    intro a f S I h1 h2 h
    obtain ⟨f, rfl⟩ : ∃ g, f = g + 1 := ⟨f - 1, by omega⟩
    obtain rfl : a = N := by omega
    refine ⟨I, he f S I h, hx _ _ _ _ h (fun q k => ⟨Or.inl, ?_⟩)⟩
    rintro (z | ⟨b, z1, z2, -⟩)
    · exact z
    · omega
  | succ d ih =>
    intro a f S I h1 h2 h
    obtain ⟨f, rfl⟩ : ∃ g, f = g + 1 := ⟨f - 1, by omega⟩
    obtain ⟨J, j1, j2⟩ := hs f a S I (by omega) h
    obtain ⟨J', k1, k2⟩ := ih (a + 1) f _ J (by omega) (by omega) j2
    refine ⟨J', by rw [j1]; exact k1, hx _ _ _ _ k2 (fun q k => ?_)⟩
    unfold UnS
    constructor
    · rintro ((z | z) | ⟨b, z1, z2, z3⟩)
      · exact Or.inl z
      · exact Or.inr ⟨a, Nat.le_refl _, by omega, z⟩
      · exact Or.inr ⟨b, by omega, z2, z3⟩
    · rintro (z | ⟨b, z1, z2, z3⟩)
      · exact Or.inl (Or.inl z)
      · rcases Nat.lt_or_ge a b with y | y
        · exact Or.inr ⟨b, by omega, z2, z3⟩
        · obtain rfl : b = a := by omega
          exact Or.inl (Or.inr z3)
/-- one place, noted if one before is the same -/
theorem lpP {Y : Nat → Int32 → St → Option St} {NO : (Nat → Nat → Prop) → St → Prop} {q : Nat → Prop} {x : Int32} {N kd : Nat} (hx : ∀ S S' I, NO S I → (∀ q k, S q k ↔ S' q k) → NO S' I) (he : ∀ f S I, NO S I → Y (f + 1) (Int32.ofNat N) I = some I) (hs : ∀ f b S I, b < N → NO S I → ∃ I', Y (f + 1) (Int32.ofNat b) I = Y f (Int32.ofNat (b + 1)) I' ∧ NO (UnS S (PtS (q b) x kd)) I') (f : Nat) (hf : N < f) (S : Nat → Nat → Prop) (I : St) (h : NO S I) : ∃ I', Y f 0 I = some I' ∧ NO (UnS S (PtS (∃ j, j < N ∧ q j) x kd)) I' := by
  obtain ⟨J, j1, j2⟩ := lpS (NO := fun _ => NO) (T := fun b => PtS (q b) x kd) (fun _ => hx) he hs N 0 f S I (by omega) hf h
  refine ⟨J, j1, hx _ _ _ j2 (fun q' k' => ?_)⟩
  unfold UnS PtS
  constructor
  · rintro (z | ⟨b, -, z1, z2, z3⟩)
    · exact Or.inl z
    · exact Or.inr ⟨⟨b, z1, z2⟩, z3⟩
  · rintro (z | ⟨⟨b, z1, z2⟩, z3⟩)
    · exact Or.inl z
    · exact Or.inr ⟨b, by omega, z1, z2, z3⟩
def SM (B : St) (N : Nat) : Nat → Nat → Prop := fun q k => ∃ i, i < N ∧ PtS (∃ j, j < i ∧ B 171 i = B 171 j ∧ B 172 i = B 172 j) (B 173 i) 1 q k
def SL (B : St) (Z N : Nat) : Nat → Nat → Prop := fun q k => ∃ i, i < N ∧ PtS (∃ j, j < i ∧ B (Z + 34) i = B (Z + 34) j ∧ B (Z + 35) i = B (Z + 35) j) (B 174 i) 1 q k
/-- .. of the first n methods -/
def NoF (S : Nat → Nat → Prop) (A I : St) : Prop := NoC S I ∧ ∀ a b, a ≠ 57 → I a b = A a b
def NoG (S : Nat → Nat → Prop) (B I : St) : Prop := NoR S I ∧ ∀ a b, (a ≠ 82 ∨ (b ≠ 5 ∧ b ≠ 22)) → I a b = B a b
theorem NoF.ext {S S' : Nat → Nat → Prop} {A I : St} (h : NoF S A I) (e : ∀ q k, S q k ↔ S' q k) : NoF S' A I := ⟨h.1.ext e, h.2⟩
theorem NoG.ext {S S' : Nat → Nat → Prop} {A I : St} (h : NoG S A I) (e : ∀ q k, S q k ↔ S' q k) : NoG S' A I := ⟨h.1.ext e, h.2⟩
theorem NoF.nt {S : Nat → Nat → Prop} {A I : St} {x v : Int32} {k : Nat} {c : Prop} [Decidable c] (h : NoF S A I) (hx : c → Plc x) (hv : v = Int32.ofNat k) (h1 : 1 ≤ k) (h2 : k < 10) : ∃ A', (if c then x83 I x v else some I) = some A' ∧ NoF (UnS S (PtS c x k)) A A' := by
  obtain ⟨J, j1, j2, j3⟩ := x83_c h.1 hx hv h1 h2
  exact ⟨J, j1, j2, fun a b z => (j3 a b z).trans (h.2 a b z)⟩
theorem NoG.nt {S : Nat → Nat → Prop} {A I : St} {x v : Int32} {k : Nat} {c : Prop} [Decidable c] (h : NoG S A I) (hx : c → Plc x) (hv : v = Int32.ofNat k) (h1 : 1 ≤ k) (h2 : k < 10) : ∃ A', (if c then x217 I v x else some I) = some A' ∧ NoG (UnS S (PtS c x k)) A A' := by
  obtain ⟨J, j1, j2, j3⟩ := x217_c h.1 hx hv h1 h2
  exact ⟨J, j1, j2, fun a b z => (j3 a b z).trans (h.2 a b z)⟩
theorem if2 {α : Type} {c d : Prop} [Decidable c] [Decidable d] {x y : α} : (if c then if d then x else y else y) = if c ∧ d then x else y := by
  by_cases h1 : c <;> by_cases h2 : d <;> simp [h1, h2]
section
variable {L M : List (List Nat)} {Z N : Nat} {A B : St} {S : Nat → Nat → Prop}
theorem x85_l (bL : L.length ≤ 1460) (nL : L.Nodup) (bM : M.length ≤ 2000) (nM : M.Nodup) (hb : CB L M N A B) (hN : N ≤ 136) {I : St} (h : NoF S A I) : ∃ J, x85 I = some J ∧ NoF (UnS S (SM B N)) A J := by
  obtain ⟨b1, b2, b3⟩ := hb
  have inner : ∀ i, i < N → ∀ S I, NoF S A I → ∃ J, l85_20 (Int32.ofNat i) 100000 0 I = some J ∧ NoF (UnS S (PtS (∃ j, j < i ∧ (B 171 i = B 171 j ∧ B 172 i = B 172 j)) (B 173 i) 1)) A J := fun i hi S I h => by
    refine lpP (Y := l85_20 (Int32.ofNat i)) (NO := fun S => NoF S A) (q := fun j => B 171 i = B 171 j ∧ B 172 i = B 172 j) (fun _ _ _ => NoF.ext) (fun f S I h => ?_) (fun f b S I hb h => ?_) 100000 (by omega) S I h
    · rw [l85_20, if_pos (Int32.le_refl _)]
    · obtain ⟨c1, c2, c3, c4⟩ := b3 i hi
      obtain ⟨d1, d2, d3, d4⟩ := b3 b (by omega)
      obtain ⟨J, j1, j2⟩ := h.nt (c := B 171 i = B 171 b ∧ B 172 i = B 172 b) (x := B 173 i) (v := 1) (k := 1) (fun _ => c4) rfl (by decide) (by decide)
      refine ⟨J, ?_, j2⟩
      rw [l85_20, if_neg (by rw [i32_le (by omega) (by omega)]; omega), i32_s]
      simp (disch := omega) only [t46, h.2]
      rw [if2, c2, c3, d3]
      have e : (A 47 (3 * i) = A 47 (3 * b) ∧ B 171 i = B 171 b) ↔ (B 171 i = B 171 b ∧ B 172 i = B 172 b) := by
        rw [NE.iff nL nM (by omega) bM c1 d1]
        exact And.comm
      by_cases z : B 171 i = B 171 b ∧ B 172 i = B 172 b
      · rw [if_pos (e.mpr z)]
        rw [if_pos z] at j1
        rw [j1, Option.bind_some]
      · rw [if_neg (fun y => z (e.mp y))]
        rw [if_neg z] at j1
        cases j1
        rfl
  have := lpS (Y := l85_10) (NO := fun _ S => NoF S A) (N := N) (T := fun i => PtS (∃ j, j < i ∧ (B 171 i = B 171 j ∧ B 172 i = B 172 j)) (B 173 i) 1) (fun _ _ _ _ => NoF.ext) (fun f S I h => by
    rw [l85_10, h.2 _ _ (by omega), b1, if_pos (Int32.le_refl _)]) (fun f b S I hb h => by
    obtain ⟨J, j1, j2⟩ := inner b hb S I h
    refine ⟨J, ?_, j2⟩
    rw [l85_10, h.2 _ _ (by omega), b1, if_neg (by rw [i32_le (by omega) (by omega)]; omega), j1, Option.bind_some, i32_s]) N 0 100000 S I (by omega) (by omega) h
  obtain ⟨J, j1, j2⟩ := this
  refine ⟨J, ?_, j2.ext (fun q k => ?_)⟩
  · unfold x85
    rw [show (0 : Int32) = Int32.ofNat 0 from rfl, j1]
    rfl
  · unfold UnS SM
    simp only [Nat.zero_le, true_and]
theorem x215_m (hb : CB L M N A B) (hN : N ≤ 136) {I : St} (h : NoG S B I) : ∃ J, l215_124 Z 100000 0 I = some J ∧ NoG (UnS S (SM B N)) B J := by
  obtain ⟨b1, b2, b3⟩ := hb
  have inner : ∀ i, i < N → ∀ S I, NoG S B I → ∃ J, l215_134 Z (Int32.ofNat i) 100000 0 I = some J ∧ NoG (UnS S (PtS (∃ j, j < i ∧ (B 171 i = B 171 j ∧ B 172 i = B 172 j)) (B 173 i) 1)) B J := fun i hi S I h => by
    refine lpP (Y := l215_134 Z (Int32.ofNat i)) (NO := fun S => NoG S B) (q := fun j => B 171 i = B 171 j ∧ B 172 i = B 172 j) (fun _ _ _ => NoG.ext) (fun f S I h => ?_) (fun f b S I hb h => ?_) 100000 (by omega) S I h
    · rw [l215_134, if_pos (Int32.le_refl _)]
    · obtain ⟨c1, c2, c3, c4⟩ := b3 i hi
      have i1 : inb (Int32.ofNat i) 1300 := (i32_inb (by omega)).mpr (by omega)
      have i2 : inb (Int32.ofNat b) 1300 := (i32_inb (by omega)).mpr (by omega)
      have e1 : (Int32.ofNat i).toNatClampNeg = i := i32_cl (by omega)
      have e2 : (Int32.ofNat b).toNatClampNeg = b := i32_cl (by omega)
      obtain ⟨J, j1, j2⟩ := h.nt (c := B 171 i = B 171 b ∧ B 172 i = B 172 b) (x := B 173 i) (v := 1) (k := 1) (fun _ => c4) rfl (by decide) (by decide)
      refine ⟨J, ?_, j2⟩
      rw [l215_134, if_neg (by rw [i32_le (by omega) (by omega)]; omega), i32_s]
      simp (disch := omega) only [if_pos i1, if_pos i2, e1, e2, h.2]
      rw [if2]
      by_cases z : B 171 i = B 171 b ∧ B 172 i = B 172 b
      · rw [if_pos z]
        rw [if_pos z] at j1
        rw [j1, Option.bind_some]
      · rw [if_neg z]
        rw [if_neg z] at j1
        cases j1
        rfl
  have := lpS (Y := l215_124 Z) (NO := fun _ S => NoG S B) (N := N) (T := fun i => PtS (∃ j, j < i ∧ (B 171 i = B 171 j ∧ B 172 i = B 172 j)) (B 173 i) 1) (fun _ _ _ _ => NoG.ext) (fun f S I h => by
    rw [l215_124, h.2 _ _ (by omega), b2, if_pos (Int32.le_refl _)]) (fun f b S I hb h => by
    obtain ⟨J, j1, j2⟩ := inner b hb S I h
    refine ⟨J, ?_, j2⟩
    rw [l215_124, h.2 _ _ (by omega), b2, if_neg (by rw [i32_le (by omega) (by omega)]; omega), j1, Option.bind_some, i32_s]) N 0 100000 S I (by omega) (by omega) h
  obtain ⟨J, j1, j2⟩ := this
  refine ⟨J, j1, j2.ext (fun q k => ?_)⟩
  unfold UnS SM
  simp only [Nat.zero_le, true_and]
theorem x215_l (hZ2 : 85 ≤ Z) (hl : B Z 10 = Int32.ofNat N) (hp : ∀ i, i < N → Plc (B 174 i)) (hN : N ≤ 1280) {I : St} (h : NoG S B I) : ∃ J, l215_194 Z 100000 0 I = some J ∧ NoG (UnS S (SL B Z N)) B J := by
  have inner : ∀ i, i < N → ∀ S I, NoG S B I → ∃ J, l215_207 Z (Int32.ofNat i) 100000 0 I = some J ∧ NoG (UnS S (PtS (∃ j, j < i ∧ (B (Z + 34) i = B (Z + 34) j ∧ B (Z + 35) i = B (Z + 35) j)) (B 174 i) 1)) B J := fun i hi S I h => by
    refine lpP (Y := l215_207 Z (Int32.ofNat i)) (NO := fun S => NoG S B) (q := fun j => B (Z + 34) i = B (Z + 34) j ∧ B (Z + 35) i = B (Z + 35) j) (fun _ _ _ => NoG.ext) (fun f S I h => ?_) (fun f b S I hb h => ?_) 100000 (by omega) S I h
    · rw [l215_207, if_pos (Int32.le_refl _)]
    · have i1 : inb (Int32.ofNat i) 2000 := (i32_inb (by omega)).mpr (by omega)
      have i2 : inb (Int32.ofNat b) 2000 := (i32_inb (by omega)).mpr (by omega)
      have e1 : (Int32.ofNat i).toNatClampNeg = i := i32_cl (by omega)
      have e2 : (Int32.ofNat b).toNatClampNeg = b := i32_cl (by omega)
      obtain ⟨J, j1, j2⟩ := h.nt (c := B (Z + 34) i = B (Z + 34) b ∧ B (Z + 35) i = B (Z + 35) b) (x := B 174 i) (v := 1) (k := 1) (fun _ => hp i hi) rfl (by decide) (by decide)
      refine ⟨J, ?_, j2⟩
      rw [l215_207, if_neg (by rw [i32_le (by omega) (by omega)]; omega), i32_s]
      simp (disch := omega) only [if_pos i1, if_pos i2, e1, e2, h.2]
      rw [if2]
      by_cases z : B (Z + 34) i = B (Z + 34) b ∧ B (Z + 35) i = B (Z + 35) b
      · rw [if_pos z]
        rw [if_pos z] at j1
        rw [j1, Option.bind_some]
      · rw [if_neg z]
        rw [if_neg z] at j1
        cases j1
        rfl
  have := lpS (Y := l215_194 Z) (NO := fun _ S => NoG S B) (N := N) (T := fun i => PtS (∃ j, j < i ∧ (B (Z + 34) i = B (Z + 34) j ∧ B (Z + 35) i = B (Z + 35) j)) (B 174 i) 1) (fun _ _ _ _ => NoG.ext) (fun f S I h => by
    rw [l215_194, h.2 _ _ (by omega), hl, if_pos (Int32.le_refl _)]) (fun f b S I hb h => by
    obtain ⟨J, j1, j2⟩ := inner b hb S I h
    refine ⟨J, ?_, j2⟩
    rw [l215_194, h.2 _ _ (by omega), hl, if_neg (by rw [i32_le (by omega) (by omega)]; omega), j1, Option.bind_some, i32_s]) N 0 100000 S I (by omega) (by omega) h
  obtain ⟨J, j1, j2⟩ := this
  refine ⟨J, j1, j2.ext (fun q k => ?_)⟩
  unfold UnS SL
  simp only [Nat.zero_le, true_and]
end
/-- how many fields, with those above -/
def alf (p E : Nat → Nat) : Nat → Nat → Nat
  | 0, _ => 0
  | d + 1, c => (if c = 0 then 0 else alf p E d (p c)) + (E (c + 1) - E c)
theorem alf_d {p E : Nat → Nat} {n : Nat} (hp : ∀ c, 0 < c → c < n → p c < c) : ∀ c d e, c < n → c < d → c < e → alf p E d c = alf p E e c := by
  intro c
  induction c using Nat.strongRecOn with
  | ind c ih =>
    intro d e h1 h2 h3
    obtain ⟨d, rfl⟩ : ∃ g, d = g + 1 := ⟨d - 1, by omega⟩
    obtain ⟨e, rfl⟩ : ∃ g, e = g + 1 := ⟨e - 1, by omega⟩
    rw [alf, alf]
    by_cases z : c = 0
    · rw [if_pos z, if_pos z]
    · have := hp c (by omega) h1
      rw [if_neg z, if_neg z, ih (p c) this d e (by omega) (by omega) (by omega)]
theorem alf_s {p E : Nat → Nat} {n c : Nat} (hp : ∀ c, 0 < c → c < n → p c < c) (hn : n ≤ 19) (hc : c < n) (h0 : 0 < c) : alf p E 19 c = alf p E 19 (p c) + (E (c + 1) - E c) := by
  have := hp c h0 hc
  rw [alf, if_neg (by omega), alf_d hp (p c) 18 19 (by omega) (by omega) (by omega)]
theorem alf_le {p E : Nat → Nat} {n : Nat} (hp : ∀ c, 0 < c → c < n → p c < c) (hE : ∀ c, c < n → E (c + 1) ≤ E c + 8) : ∀ d c, c < n → alf p E d c ≤ 8 * (c + 1) := by
  intro d
  induction d with
  | zero => intro c _; rw [alf]; omega
  | succ d ih =>
    intro c hc
    rw [alf]
    have := hE c hc
    split
    · omega
    · rename_i z
      have h1 := hp c (by omega) hc
      have := ih (p c) (by omega)
      omega
theorem prn_lt {B : St} {Z c : Nat} (h : 0 < c) : prn B Z c < c := by
  unfold prn
  split
  · split <;> omega
  · split
    · exact h
    · cases z : cls B Z (B (Z + 6) c) c with
      | none => exact h
      | some i => exact cls_lt z
def FC (P : Nat) (p E : Nat → Nat) (A : St) (n c : Nat) (I : St) : Prop := (∀ a b, (a ≠ P + 4 ∨ b % 5 ≠ 4) → (a ≠ P + 2 ∨ b % 6 ≠ 4) → I a b = A a b) ∧ (∀ x, x < n → I (P + 2) (6 * x + 4) = if x < c then Int32.ofNat (alf p E 19 x) else 0) ∧ ∀ x, 7 ≤ x → x < c → ∀ f, E x ≤ f → f < E (x + 1) → I (P + 4) (5 * f + 4) = Int32.ofNat (alf p E 19 (p x) + (f - E x))
section
variable {P n : Nat} {p E : Nat → Nat} {A : St}
theorem l84_i (hP : Hid (P = 3 ∨ P = 18)) (hP2 : 3 ≤ P ∧ P ≤ 18) {b1 : Int32} {ab fi ow : Nat} (h1 : fi + ow ≤ 96) (h2 : ab ≤ 1000) : ∀ d j f (I : St), j + d = ow → d < f → ∃ J, l84_71 P b1 (Int32.ofNat ab) (Int32.ofNat fi) (Int32.ofNat ow) f (Int32.ofNat j) I = some J ∧ (∀ a b, (a ≠ P + 4 ∨ b % 5 ≠ 4 ∨ b < 5 * (fi + j) ∨ 5 * (fi + ow) ≤ b) → J a b = I a b) ∧ ∀ i, j ≤ i → i < ow → J (P + 4) (5 * (fi + i) + 4) = Int32.ofNat (ab + i) := by
  intro d
  induction d with
  | zero =>
    intro j f I h3 h4
    obtain ⟨f, rfl⟩ : ∃ g, f = g + 1 := ⟨f - 1, by omega⟩
    obtain rfl : j = ow := by omega
    exact ⟨I, by rw [l84_71, if_pos (Int32.le_refl _)], fun _ _ _ => rfl, fun i z1 z2 => by omega⟩
  | succ d ih =>
    intro j f I h3 h4
    obtain ⟨f, rfl⟩ : ∃ g, f = g + 1 := ⟨f - 1, by omega⟩
    obtain ⟨J, j1, j2, j3⟩ := ih (j + 1) f (up2 I (P + 4) (5 * (fi + j) + 4) (Int32.ofNat (ab + j))) (by omega) (by omega)
    refine ⟨J, ?_, fun a b z => ?_, fun i z1 z2 => ?_⟩
    · rw [l84_71, if_neg (by rw [i32_le (by omega) (by omega)]; omega), i32_s, i32_a, i32_a]
      simp (disch := omega) only [tP3 hP]
      exact j1
    · rw [j2 a b (by omega), up2_o (by omega)]
    · rcases Nat.lt_or_ge j i with y | y
      · exact j3 i (by omega) z2
      · obtain rfl : i = j := by omega
        rw [j2 _ _ (by omega), up2_s]
theorem x84_l (hP : Hid (P = 3 ∨ P = 18)) (hP2 : 3 ≤ P ∧ P ≤ 18) (hp : ∀ c, 0 < c → c < n → p c < c) (hn : n ≤ 19) (h7 : 7 ≤ n) (hn0 : A (P + 1) 3 = Int32.ofNat n) (hE : ∀ c, c < n → E c ≤ E (c + 1) ∧ E (c + 1) ≤ E c + 8) (hE0 : E 7 = 0) (hA : ∀ c, c < n → A (P + 2) (6 * c + 2) = Int32.ofNat (E c) ∧ A (P + 2) (6 * c + 3) = Int32.ofNat (E (c + 1) - E c) ∧ A (P + 2) (6 * c + 4) = 0) (hpar : ∀ c, 7 ≤ c → c < n → A (P + 2) (6 * c) = Int32.ofNat (p c)) : ∃ J, x84 P A = some J ∧ FC P p E A n n J := by
  have eB : ∀ c, 7 ≤ c → c ≤ n → E c ≤ 8 * (c - 7) := by
    intro c
    induction c with
    | zero => intro z; omega
    | succ c ih =>
      intro z1 z2
      rcases Nat.lt_or_ge c 7 with y | y
      · rw [show c + 1 = 7 by omega, hE0]; omega
      · have := ih y (by omega); have := (hE c (by omega)).2; omega
  have e0 : ∀ c, c ≤ 7 → E c = 0 := fun c hc => by
    have := mono_le (F := E) (k := n) (fun m hm => (hE m hm).1) c 7 hc h7
    omega
  have a0 : ∀ c, c < 7 → alf p E 19 c = 0 := by
    have : ∀ d c, c < 7 → alf p E d c = 0 := by
      intro d
      induction d with
      | zero => intro c _; rfl
      | succ d ih =>
        intro c hc
        rw [alf, e0 (c + 1) (by omega), e0 c (by omega)]
        split
        · rfl
        · rename_i z
          have := hp c (by omega) (by omega)
          rw [ih (p c) (by omega)]
    exact this 19
  have hst : FC P p E A n 7 A := ⟨fun _ _ _ _ => rfl, fun x hx => by
    rw [(hA x hx).2.2]
    split
    · rename_i z; rw [a0 x z]; rfl
    · rfl, fun x z1 z2 => by omega⟩
  have go : ∀ d c f (I : St), c + d = n → d < f → 7 ≤ c → FC P p E A n c I → ∃ J, l84_3 P f (Int32.ofNat c) I = some J ∧ FC P p E A n n J := by
    intro d
    induction d with
    | zero =>
      intro c f I h1 h2 h3 h
      obtain ⟨f, rfl⟩ : ∃ g, f = g + 1 := ⟨f - 1, by omega⟩
      obtain rfl : c = n := by omega
      exact ⟨I, by rw [l84_3, h.1 _ _ (by omega) (by omega), hn0, if_pos (Int32.le_refl _)], h⟩
    | succ d ih =>
      intro c f I h1 h2 h3 h
      obtain ⟨f, rfl⟩ : ∃ g, f = g + 1 := ⟨f - 1, by omega⟩
      obtain ⟨g1, g2, g3⟩ := h
      have hpc := hp c (by omega) (by omega)
      have hEc := hE c (by omega)
      have hB := eB (c + 1) (by omega) (by omega)
      have hal := alf_le hp (fun c hc => (hE c hc).2) 19 (p c) (by omega)
      obtain ⟨J, j1, j2, j3⟩ := l84_i hP hP2 (b1 := Int32.ofNat c) (ab := alf p E 19 (p c)) (fi := E c) (ow := E (c + 1) - E c) (by omega) (by omega) (E (c + 1) - E c) 0 100000 I (by omega) (by omega)
      have hk : FC P p E A n (c + 1) (up2 J (P + 2) (6 * c + 4) (Int32.ofNat (alf p E 19 c))) := by
        refine ⟨fun a b z1 z2 => by rw [up2_o (by omega), j2 a b (by omega), g1 a b z1 z2], fun x hx => ?_, fun x z1 z2 f' z3 z4 => ?_⟩
        · rcases Nat.lt_trichotomy x c with y | y | y
          · rw [up2_o (by omega), j2 _ _ (by omega), g2 x hx, if_pos y, if_pos (by omega)]
          · subst y; rw [up2_s, if_pos (by omega)]
          · rw [up2_o (by omega), j2 _ _ (by omega), g2 x hx, if_neg (by omega), if_neg (by omega)]
        · rw [up2_o (by omega)]
          rcases Nat.lt_or_ge x c with y | y
          · have := mono_le (F := E) (k := n) (fun m hm => (hE m hm).1) (x + 1) c (by omega) (by omega)
            rw [j2 _ _ (by omega), g3 x z1 y f' z3 z4]
          · obtain rfl : x = c := by omega
            have := j3 (f' - E x) (by omega) (by omega)
            rw [show E x + (f' - E x) = f' by omega] at this
            exact this
      obtain ⟨J', k1, k2⟩ := ih (c + 1) f _ (by omega) (by omega) (by omega) hk
      refine ⟨J', ?_, k2⟩
      rw [l84_3, g1 _ _ (by omega) (by omega), hn0, if_neg (by rw [i32_le (by omega) (by omega)]; omega)]
      simp (disch := omega) only [tP1 hP, g1]
      rw [hpar c h3 (by omega)]
      simp (disch := omega) only [tP1 hP, g2]
      rw [if_pos hpc, (hA c (by omega)).1, (hA c (by omega)).2.1, show (0 : Int32) = Int32.ofNat 0 from rfl, j1, Option.bind_some, i32_s, i32_a, ← alf_s hp hn (by omega) (by omega)]
      exact k1
  obtain ⟨J, j1, j2⟩ := go (n - 7) 7 100000 A (by omega) (by omega) (by omega) hst
  refine ⟨J, ?_, j2⟩
  unfold x84
  rw [show (7 : Int32) = Int32.ofNat 7 from rfl, j1]
  rfl
end
