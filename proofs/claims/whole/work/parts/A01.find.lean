/-! FINDERS: the first below n; the nearest by parents -/
def fdn (p : Nat → Bool) : Nat → Option Nat
  | 0 => none
  | n + 1 => match fdn p n with
    | some i => some i
    | none => if p n = true then some n else none
def oI : Option Nat → Int32
  | none => -1
  | some i => Int32.ofNat i
def smm (o : Option Nat) (v : Nat → Int32) : Unit ⊕ Int32 := match o with
  | none => .inl ()
  | some i => .inr (v i)
theorem fdn_some {p : Nat → Bool} {i : Nat} : ∀ {n : Nat}, fdn p n = some i → i < n ∧ p i = true ∧ ∀ j, j < i → p j = false := by
  have hnone : ∀ n, fdn p n = none → ∀ i, i < n → p i = false := by
    intro n
    induction n with
    | zero => intro _ i hi; omega
    | succ n ih =>
      intro h i hi
      rw [fdn] at h
      split at h
      · cases h
      · rename_i h1
        split at h
        · cases h
        · rename_i h2
          rcases Nat.lt_or_ge i n with z | z
          · exact ih h1 i z
          · rw [show i = n by omega]; simpa using h2
  intro n
  induction n with
  | zero => intro h; cases h
  | succ n ih =>
    intro h
    rw [fdn] at h
    split at h
    · rename_i h1
      cases h
      obtain ⟨a, b, c⟩ := ih h1
      exact ⟨by omega, b, c⟩
    · rename_i h1
      split at h
      · rename_i h2
        cases h
        exact ⟨by omega, h2, hnone _ h1⟩
      · cases h
theorem fdn_none {p : Nat → Bool} {n : Nat} : fdn p n = none ↔ ∀ i, i < n → p i = false := by
  induction n with
  | zero => exact ⟨fun _ i hi => by omega, fun _ => rfl⟩
  | succ n ih =>
    rw [fdn]
    constructor
    · intro h i hi
      split at h
      · cases h
      · rename_i h1
        split at h
        · cases h
        · rename_i h2
          rcases Nat.lt_or_ge i n with z | z
          · exact ih.mp h1 i z
          · rw [show i = n by omega]; simpa using h2
    · intro h
      rw [ih.mpr (fun i hi => h i (by omega))]
      dsimp only
      rw [if_neg (by rw [h n (by omega)]; decide)]
theorem fdn_of {p : Nat → Bool} {n i : Nat} (hi : i < n) (h : p i = true) (h' : ∀ j, j < i → p j = false) : fdn p n = some i := by
  cases z : fdn p n with
  | none => rw [fdn_none] at z; rw [z i hi] at h; cases h
  | some j =>
    obtain ⟨a, b, c⟩ := fdn_some z
    rcases Nat.lt_trichotomy i j with y | y | y
    · rw [c i y] at h; cases h
    · rw [y]
    · rw [h' j y] at b; cases b
theorem fdn_ext {p q : Nat → Bool} {n : Nat} (h : ∀ i, i < n → p i = q i) : fdn p n = fdn q n := by
  induction n with
  | zero => rfl
  | succ n ih => rw [fdn, fdn, ih (fun i hi => h i (by omega)), h n (by omega)]
theorem fdn_lt {p : Nat → Bool} {n i : Nat} (h : fdn p n = some i) : i < n := (fdn_some h).1
theorem fdn_sm {p : Nat → Bool} {n : Nat} : (fdn p n).isSome = true ↔ ∃ i, i < n ∧ p i = true := by
  cases z : fdn p n with
  | none => rw [fdn_none] at z; simp only [Option.isSome_none, Bool.false_eq_true, false_iff]; rintro ⟨i, h1, h2⟩; rw [z i h1] at h2; cases h2
  | some j => obtain ⟨a, b, c⟩ := fdn_some z; simp only [Option.isSome_some, true_iff]; exact ⟨j, a, b⟩
theorem srch {l : Nat → Int32 → Option (Unit ⊕ Int32)} {p : Nat → Bool} {v : Nat → Int32} {n : Nat} (he : ∀ f, l (f + 1) (Int32.ofNat n) = some (.inl ())) (hy : ∀ f b, b < n → p b = true → l (f + 1) (Int32.ofNat b) = some (.inr (v b))) (hn : ∀ f b, b < n → p b = false → l (f + 1) (Int32.ofNat b) = l f (Int32.ofNat (b + 1))) (f : Nat) (hf : n < f) : l f 0 = some (smm (fdn p n) v) := by
  have H : ∀ d b f, b + d = n → d < f → (∀ j, j < b → p j = false) → l f (Int32.ofNat b) = some (smm (fdn p n) v) := by
    intro d
    induction d with
    | zero =>
      intro b f h1 h2 h3
      obtain ⟨f, rfl⟩ : ∃ g, f = g + 1 := ⟨f - 1, by omega⟩
      obtain rfl : b = n := by omega
      rw [he, fdn_none.mpr h3]
      rfl
    | succ d ih =>
      intro b f h1 h2 h3
      obtain ⟨f, rfl⟩ : ∃ g, f = g + 1 := ⟨f - 1, by omega⟩
      cases z : p b with
      | true => rw [hy f b (by omega) z, fdn_of (by omega) z h3]; rfl
      | false =>
        rw [hn f b (by omega) z]
        exact ih (b + 1) f (by omega) (by omega) (fun j hj => by
          rcases Nat.lt_or_ge j b with y | y
          · exact h3 j y
          · rw [show j = b by omega]; exact z)
  exact H n 0 f (by omega) hf (fun j hj => by omega)
def upw (p : Nat → Nat) (g : Nat → Option Nat) : Nat → Nat → Option Nat
  | 0, _ => none
  | d + 1, c => match g c with
    | some r => some r
    | none => if c = 0 then none else upw p g d (p c)
def PAR (f : Nat → Int32) (p : Nat → Nat) (n : Nat) : Prop := f 0 = -1 ∧ ∀ c, 0 < c → c < n → f c = Int32.ofNat (p c) ∧ p c < c
theorem upw_ext {p : Nat → Nat} {g h : Nat → Option Nat} {n : Nat} (hp : ∀ c, 0 < c → c < n → p c < c) (hg : ∀ c, c < n → g c = h c) : ∀ d c, c < n → upw p g d c = upw p h d c := by
  intro d
  induction d with
  | zero => intro c _; rfl
  | succ d ih =>
    intro c hc
    rw [upw, upw, hg c hc]
    split
    · rfl
    · split
      · rfl
      · rename_i z
        exact ih _ (by have := hp c (by omega) hc; omega)
theorem upw_d {f : Nat → Int32} {p : Nat → Nat} {n : Nat} (hp : PAR f p n) (g : Nat → Option Nat) : ∀ c d e, c < n → c < d → c < e → upw p g d c = upw p g e c := by
  intro c
  induction c using Nat.strongRecOn with
  | ind c ih =>
    intro d e h1 h2 h3
    obtain ⟨d, rfl⟩ : ∃ g, d = g + 1 := ⟨d - 1, by omega⟩
    obtain ⟨e, rfl⟩ : ∃ g, e = g + 1 := ⟨e - 1, by omega⟩
    rw [upw, upw]
    split
    · rfl
    · split
      · rfl
      · rename_i z
        have := (hp.2 c (by omega) h1).2
        exact ih (p c) this d e (by omega) (by omega) (by omega)
theorem upw_lt {p : Nat → Nat} {g : Nat → Option Nat} {k n : Nat} (hp : ∀ c, 0 < c → c < n → p c < c) (hg : ∀ c r, c < n → g c = some r → r < k) : ∀ d c r, c < n → upw p g d c = some r → r < k := by
  intro d
  induction d with
  | zero => intro c r _ h; cases h
  | succ d ih =>
    intro c r hc h
    rw [upw] at h
    split at h
    · rename_i z; cases h; exact hg c _ hc z
    · split at h
      · cases h
      · rename_i z; exact ih _ _ (by have := hp c (by omega) hc; omega) h
/-- a loop by parents, without a bound -/
theorem wlk {l : Nat → Int32 → Option (Unit ⊕ Int32)} {f : Nat → Int32} {p : Nat → Nat} {g : Nat → Option Nat} {n : Nat} (hp : PAR f p n) (hn : n ≤ 19) (he : ∀ e, l (e + 1) (-1) = some (.inl ())) (hs : ∀ e c, c < n → l (e + 1) (Int32.ofNat c) = (some (smm (g c) Int32.ofNat)).bind (Sum.elim (fun _ => l e (f c)) (fun r => some (.inr r)))) : ∀ c e, c < n → c + 1 < e → l e (Int32.ofNat c) = some (smm (upw p g 19 c) Int32.ofNat) := by
  intro c
  induction c using Nat.strongRecOn with
  | ind c ih =>
    intro e h1 h2
    obtain ⟨e, rfl⟩ : ∃ g, e = g + 1 := ⟨e - 1, by omega⟩
    rw [hs e c h1, Option.bind_some, upw]
    cases z : g c with
    | some r => rfl
    | none =>
      dsimp only [smm, Sum.elim_inl]
      by_cases y : c = 0
      · subst y
        obtain ⟨e, rfl⟩ : ∃ g, e = g + 1 := ⟨e - 1, by omega⟩
        rw [hp.1, he]
        rfl
      · obtain ⟨q1, q2⟩ := hp.2 c (by omega) h1
        rw [q1, ih (p c) q2 e (by omega) (by omega), if_neg y, upw_d hp g (p c) 19 18 (by omega) (by omega) (by omega)]
        rfl
theorem el_smm {o : Option Nat} : (some (smm o Int32.ofNat)).bind (Sum.elim (fun _ => some (-1)) (fun r => some r)) = some (oI o) := by
  cases o <;> rfl
section
variable {Z n k : Nat} {I : St} {x y v : Int32} {p : Nat → Nat}
theorem x216_f (hn : n ≤ 19) : x216 Z I x (Int32.ofNat n) = some (oI (fdn (fun c => decide (I (Z + 4) c = x)) n)) := by
  have h := srch (l := fun f b => l216_2 Z x (Int32.ofNat n) f b I) (p := fun c => decide (I (Z + 4) c = x)) (v := Int32.ofNat) (n := n)
    (fun f => by rw [l216_2, if_pos (Int32.le_refl _)])
    (fun f b hb hp => by
      rw [l216_2, if_neg (by rw [i32_le (by omega) (by omega)]; omega), if_pos ((i32_inb (by omega)).mpr (by omega)), i32_cl (by omega), if_pos (of_decide_eq_true hp)])
    (fun f b hb hp => by
      rw [l216_2, if_neg (by rw [i32_le (by omega) (by omega)]; omega), if_pos ((i32_inb (by omega)).mpr (by omega)), i32_cl (by omega), if_neg (of_decide_eq_false hp), i32_s])
    100000 (by omega)
  unfold x216
  rw [h]
  exact el_smm
/-- fields, statics, methods of class c named y -/
def flf (Z : Nat) (I : St) (y : Int32) (n c : Nat) : Option Nat := fdn (fun f => decide (I (Z + 9) f = Int32.ofNat c ∧ I (Z + 10) f = y)) n
def stf (Z : Nat) (I : St) (y : Int32) (n c : Nat) : Option Nat := fdn (fun f => decide (I (Z + 12) f = Int32.ofNat c ∧ I (Z + 13) f = y)) n
def mtf (Z : Nat) (I : St) (y v : Int32) (n c : Nat) : Option Nat := fdn (fun f => decide (I (Z + 15) f = Int32.ofNat c ∧ I (Z + 16) f = y ∧ I (Z + 25) f = v)) n
theorem l222_f {c : Nat} (h7 : I Z 7 = Int32.ofNat k) (hk : k ≤ 100) : l222_10 Z y (Int32.ofNat c) 100000 0 I = some (smm (flf Z I y k c) Int32.ofNat) := by
  refine srch (l := fun f b => l222_10 Z y (Int32.ofNat c) f b I) (p := fun f => decide (I (Z + 9) f = Int32.ofNat c ∧ I (Z + 10) f = y)) (v := Int32.ofNat) (n := k) (fun f => ?_) (fun f b hb hp => ?_) (fun f b hb hp => ?_) 100000 (by omega)
  · rw [l222_10, h7, if_pos (Int32.le_refl _)]
  · have hp := of_decide_eq_true hp
    have hi : inb (Int32.ofNat b) 100 := (i32_inb (by omega)).mpr (by omega)
    have hcl : (Int32.ofNat b).toNatClampNeg = b := i32_cl (by omega)
    rw [l222_10, h7, if_neg (by rw [i32_le (by omega) (by omega)]; omega)]
    simp only [if_pos hi, hcl, if_pos hp.1, if_pos hp.2]
  · have hp := of_decide_eq_false hp
    have hi : inb (Int32.ofNat b) 100 := (i32_inb (by omega)).mpr (by omega)
    have hcl : (Int32.ofNat b).toNatClampNeg = b := i32_cl (by omega)
    rw [l222_10, h7, if_neg (by rw [i32_le (by omega) (by omega)]; omega)]
    simp only [if_pos hi, hcl, i32_s]
    split
    · rename_i z1
      rw [if_neg (fun z2 => hp ⟨z1, z2⟩)]
    · rfl
theorem l223_f {c : Nat} (h7 : I Z 6 = Int32.ofNat k) (hk : k ≤ 16) : l223_10 Z y (Int32.ofNat c) 100000 0 I = some (smm (stf Z I y k c) Int32.ofNat) := by
  refine srch (l := fun f b => l223_10 Z y (Int32.ofNat c) f b I) (p := fun f => decide (I (Z + 12) f = Int32.ofNat c ∧ I (Z + 13) f = y)) (v := Int32.ofNat) (n := k) (fun f => ?_) (fun f b hb hp => ?_) (fun f b hb hp => ?_) 100000 (by omega)
  · rw [l223_10, h7, if_pos (Int32.le_refl _)]
  · have hp := of_decide_eq_true hp
    have hi : inb (Int32.ofNat b) 16 := (i32_inb (by omega)).mpr (by omega)
    have hcl : (Int32.ofNat b).toNatClampNeg = b := i32_cl (by omega)
    rw [l223_10, h7, if_neg (by rw [i32_le (by omega) (by omega)]; omega)]
    simp only [if_pos hi, hcl, if_pos hp.1, if_pos hp.2]
  · have hp := of_decide_eq_false hp
    have hi : inb (Int32.ofNat b) 16 := (i32_inb (by omega)).mpr (by omega)
    have hcl : (Int32.ofNat b).toNatClampNeg = b := i32_cl (by omega)
    rw [l223_10, h7, if_neg (by rw [i32_le (by omega) (by omega)]; omega)]
    simp only [if_pos hi, hcl, i32_s]
    split
    · rename_i z1
      rw [if_neg (fun z2 => hp ⟨z1, z2⟩)]
    · rfl
theorem l219_f {c : Nat} (h7 : I Z 8 = Int32.ofNat k) (hk : k ≤ 24) : l219_12 Z y v (Int32.ofNat c) 100000 0 I = some (smm (mtf Z I y v k c) Int32.ofNat) := by
  refine srch (l := fun f b => l219_12 Z y v (Int32.ofNat c) f b I) (p := fun f => decide (I (Z + 15) f = Int32.ofNat c ∧ I (Z + 16) f = y ∧ I (Z + 25) f = v)) (v := Int32.ofNat) (n := k) (fun f => ?_) (fun f b hb hp => ?_) (fun f b hb hp => ?_) 100000 (by omega)
  · rw [l219_12, h7, if_pos (Int32.le_refl _)]
  · have hp := of_decide_eq_true hp
    have hi : inb (Int32.ofNat b) 24 := (i32_inb (by omega)).mpr (by omega)
    have hcl : (Int32.ofNat b).toNatClampNeg = b := i32_cl (by omega)
    rw [l219_12, h7, if_neg (by rw [i32_le (by omega) (by omega)]; omega)]
    simp only [if_pos hi, hcl, if_pos hp.1, if_pos hp.2.1, if_pos hp.2.2]
  · have hp := of_decide_eq_false hp
    have hi : inb (Int32.ofNat b) 24 := (i32_inb (by omega)).mpr (by omega)
    have hcl : (Int32.ofNat b).toNatClampNeg = b := i32_cl (by omega)
    rw [l219_12, h7, if_neg (by rw [i32_le (by omega) (by omega)]; omega)]
    simp only [if_pos hi, hcl, i32_s]
    split
    · rename_i z1
      split
      · rename_i z2
        rw [if_neg (fun z3 => hp ⟨z1, z2, z3⟩)]
      · rfl
    · rfl
theorem x222_f {c : Nat} (hp : PAR (I (Z + 8)) p n) (hn : n ≤ 19) (h7 : I Z 7 = Int32.ofNat k) (hk : k ≤ 100) (hc : c < n) : x222 Z I (Int32.ofNat c) y = some (oI (upw p (flf Z I y k) 19 c)) := by
  unfold x222
  rw [wlk (l := fun f b => l222_2 Z y f b I) hp hn (g := flf Z I y k) (fun e => by rw [l222_2, if_pos rfl]) (fun e c hc => by
    rw [l222_2, if_neg (i32_m1 (by omega)), l222_f h7 hk, if_pos ((i32_inb (by omega)).mpr (by omega)), i32_cl (by omega)]) c 100000 hc (by omega)]
  exact el_smm
theorem x223_f {c : Nat} (hp : PAR (I (Z + 8)) p n) (hn : n ≤ 19) (h7 : I Z 6 = Int32.ofNat k) (hk : k ≤ 16) (hc : c < n) : x223 Z I (Int32.ofNat c) y = some (oI (upw p (stf Z I y k) 19 c)) := by
  unfold x223
  rw [wlk (l := fun f b => l223_2 Z y f b I) hp hn (g := stf Z I y k) (fun e => by rw [l223_2, if_pos rfl]) (fun e c hc => by
    rw [l223_2, if_neg (i32_m1 (by omega)), l223_f h7 hk, if_pos ((i32_inb (by omega)).mpr (by omega)), i32_cl (by omega)]) c 100000 hc (by omega)]
  exact el_smm
theorem x219_f {c : Nat} (hp : PAR (I (Z + 8)) p n) (hn : n ≤ 19) (h7 : I Z 8 = Int32.ofNat k) (hk : k ≤ 24) (hc : c < n) : x219 Z I (Int32.ofNat c) y v = some (oI (upw p (mtf Z I y v k) 19 c)) := by
  unfold x219
  rw [wlk (l := fun f b => l219_3 Z y v f b I) hp hn (g := mtf Z I y v k) (fun e => by rw [l219_3, if_pos rfl]) (fun e c hc => by
    rw [l219_3, if_neg (i32_m1 (by omega)), l219_f h7 hk, if_pos ((i32_inb (by omega)).mpr (by omega)), i32_cl (by omega)]) c 100000 hc (by omega)]
  exact el_smm
theorem x219_0 : x219 Z I (-1) y v = some (-1) := by
  unfold x219
  rw [show (100000 : Nat) = 99999 + 1 from rfl, l219_3, if_pos rfl]
  rfl
end
/-- the class's: k a table of members -/
theorem x87_f {P k n c : Nat} {I : St} {x s : Int32} {p : Nat → Nat} {g : Nat → Option Nat} (hp : PAR (fun c => tget I (P + 1) (Int32.ofNat c) 0) p n) (hn : n ≤ 19) (hg : ∀ c b6, c < n → l87_22 P k x s (Int32.ofNat c) b6 100000 0 I = some (smm (g c) Int32.ofNat)) (hc : c < n) : x87 P k I (Int32.ofNat c) x s = some (oI (upw p g 19 c)) := by
  have H : ∀ c e t, c < n → c + t < 19 → c + 1 < e → l87_6 P k x s e (Int32.ofNat c) (Int32.ofNat t) I = some (smm (upw p g 19 c) Int32.ofNat) := by
    intro c
    induction c using Nat.strongRecOn with
    | ind c ih =>
      intro e t h1 h2 h3
      obtain ⟨e, rfl⟩ : ∃ g, e = g + 1 := ⟨e - 1, by omega⟩
      rw [l87_6, if_neg (by show ¬ Int32.ofNat 19 ≤ _; rw [i32_le (by decide) (by omega)]; omega), if_neg (i32_m1 (by omega)), hg c _ h1, Option.bind_some, upw]
      cases z : g c with
      | some r => rfl
      | none =>
        dsimp only [smm, Sum.elim_inl]
        rw [i32_s]
        by_cases y : c = 0
        · subst y
          have h0 := hp.1
          dsimp only at h0
          obtain ⟨e, rfl⟩ : ∃ g, e = g + 1 := ⟨e - 1, by omega⟩
          rw [h0, l87_6]
          split
          · rfl
          · rfl
        · obtain ⟨q1, q2⟩ := hp.2 c (by omega) h1
          dsimp only at q1
          rw [q1, ih (p c) q2 e (t + 1) (by omega) (by omega) (by omega), if_neg y, upw_d hp g (p c) 19 18 (by omega) (by omega) (by omega)]
          rfl
  unfold x87
  rw [show (0 : Int32) = Int32.ofNat 0 from rfl, H c 100000 0 hc (by omega) (by omega)]
  exact el_smm
theorem l87_f {P k n c : Nat} {I : St} {x s b6 : Int32} {q : Nat → Bool} (h3 : I k 3 = Int32.ofNat n) (hn : n < 1000) (hq : ∀ i, i < n → (q i = true ↔ (tget I k (Int32.ofNat i) 1 = x ∧ tget I k (Int32.ofNat i) 0 = Int32.ofNat c ∧ tget I k (Int32.ofNat i) 2 = s))) : l87_22 P k x s (Int32.ofNat c) b6 100000 0 I = some (smm (fdn q n) Int32.ofNat) := by
  refine srch (l := fun f b => l87_22 P k x s (Int32.ofNat c) b6 f b I) (p := q) (v := Int32.ofNat) (n := n) (fun f => ?_) (fun f b hb hp => ?_) (fun f b hb hp => ?_) 100000 (by omega)
  · rw [l87_22, h3, if_pos (Int32.le_refl _)]
  · have hp := (hq b hb).mp hp
    rw [l87_22, h3, if_neg (by rw [i32_le (by omega) (by omega)]; omega), if_pos hp.1, if_pos hp.2.1, if_pos hp.2.2]
  · have hp : ¬ _ := fun z => Bool.false_ne_true (hp.symm.trans ((hq b hb).mpr z))
    rw [l87_22, h3, if_neg (by rw [i32_le (by omega) (by omega)]; omega), i32_s]
    split
    · rename_i z1
      split
      · rename_i z2
        rw [if_neg (fun z3 => hp ⟨z1, z2, z3⟩)]
      · rfl
    · rfl
theorem x87_0 {P k : Nat} {I : St} {x s : Int32} : x87 P k I (-1) x s = some (-1) := by
  unfold x87
  rw [show (100000 : Nat) = 99999 + 1 from rfl, l87_6]
  rw [if_neg (by decide), if_pos rfl]
  rfl
