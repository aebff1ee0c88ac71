/-! FUNCTIONS OUT OF METHODS: the rules by which the interpreter follows them. Dq X T: the function X has an answer, of which T holds. -/
abbrev St : Type := Nat → Nat → Int32
def Dq {α : Type} (X : Option α) (T : α → Prop) : Prop := ∃ q, X = some q ∧ T q
def Lt {α β : Type} (x : α) (f : α → β) : β := f x
abbrev inb (i : Int32) (n : Nat) : Prop := ¬ i < 0 ∧ i.toNatClampNeg < n
def ushr (x y : Int32) : Int32 := (x.toUInt32 >>> (y.toUInt32 &&& Int32.toUInt32 31)).toInt32
def i2b (x : Int32) : Int32 := x.toInt8.toInt32
def i2c (x : Int32) : Int32 := (x.toUInt32 % 65536).toInt32
def tadr (I : St) (k : Nat) : Int32 := if I k 3 < Int32.ofNat (sf k 0) then I k 3 else -1
def tadd (I : St) (k : Nat) : St := if I k 3 < Int32.ofNat (sf k 0) then up2 I k 3 (I k 3 + 1) else I
def thol (I : St) (k : Nat) (i : Int32) : Int32 := if i < 0 ∨ I k 3 ≤ i then 0 else 1
def tlen (t : Nat) : Int32 := Int32.ofNat (xTL.getD t []).length
section
variable {E : Xe} {m : Nat} {o : Outcome} {w : Wd}
theorem Rn.thr {pc : Nat} {ls r : List Value} {e2 : Nat × Nat × Nat × Nat × Nat × Int32} {k : Nat} (hc : (cdO m)[pc]? = some (.athrow, e2)) (hb : Nat.blt k w.1 = true) (hh : Nat.beq m mText = false) : Rn E m (pc, ls, .ref k :: r, w) (.threw k) w := by
  refine ⟨1, ?_⟩
  rw [ex_some hc]
  unfold exB
  have h0 : hnd m pc k = none := by
    unfold hnd
    rw [hh]
    rfl
  rw [if_neg (show ¬ isRt Instr.athrow = true by decide), if_neg (show ¬ isCl Instr.athrow = true by decide)]
  dsimp only
  rw [if_pos hb, h0]
  dsimp only
  rw [if_neg (by rw [hh]; decide)]
theorem Rn.callT {pc j k : Nat} {ls st as r : List Value} {w1 : Wd} {e : En} (hc : (cdO m)[pc]? = some e) (hn : isCl e.1 = true) (h6 : Nat.ble 6 e.2.2.2.2.1 = false) (h : cl1 e st w = some (j, as, r)) (hm : (Nat.beq e.2.2.2.2.1 1 && isR as && !Nat.beq m mText) = true) (hk : Nat.blt k w1.1 = true) (hj : Rn E j (0, loc0 j as, [], w) (.threw k) w1) : Rn E m (pc, ls, st, w) (.threw k) w1 := by
  obtain ⟨g, hj⟩ := hj
  refine ⟨g + 1, ?_⟩
  rw [ex_some hc]
  unfold exB
  have hr : ¬ isRt e.1 = true := by
    intro z
    revert hn z
    cases e.1 <;> simp [isRt, isCl]
  simp only [Bool.and_eq_true, Bool.not_eq_true'] at hm
  have hnd0 : hnd m pc k = none := by
    unfold hnd
    rw [if_neg]
    rw [hm.2]
    simp
  rw [if_neg hr, if_pos hn, if_neg (by rw [h6]; decide), h]
  dsimp only
  rw [hj]
  dsimp only
  rw [if_pos (by rw [hm.1.1, hm.1.2, hk]; rfl), hnd0]
  dsimp only
  rw [if_neg (by rw [hm.2]; decide)]
end
section
variable {E : Xe} {m : Nat} {o : Outcome} {w : Wd} {X : Prop} {α : Type} {T : α → Prop}
theorem D.some {x : α} (h : Dq (Option.some x) T) : T x := by
  obtain ⟨q, h1, h2⟩ := h
  cases h1
  exact h2
theorem D.to {G : Prop} {x : α} (h : Dq (Option.some x) T) (K : T x → G) : G := K (D.some h)
theorem D.none {G : Prop} (h : Dq Option.none T) : G := by
  obtain ⟨q, h1, h2⟩ := h
  cases h1
theorem D.run (n : Nat) {fr g : Fr} (h : sN E m n fr = Option.some g) (K : X → Rn E m g o w) : X → Rn E m fr o w := fun x => Rn.run n h (K x)
theorem D.st {pc : Nat} {ls st : List Value} {w0 : Wd} {e : En} {g : Fr} (hc : (cdO m)[pc]? = Option.some e) (hn : ¬ (isRt e.1 || (isCl e.1 || isAt e.1)) = true) (h : st1 E e pc ls st w0 = Option.some g) (K : X → Rn E m g o w) : X → Rn E m (pc, ls, st, w0) o w := fun x => Rn.st hc hn h (K x)
theorem D.sw {pc : Nat} {ls st : List Value} {w0 : Wd} {e : En} {g : Fr} (hc : (cdO m)[pc]? = Option.some e) (hn : ¬ (isRt e.1 || (isCl e.1 || isAt e.1)) = true) (h : st1 E e pc ls st w0 = Option.some g) (K : X → Rn E m g o w) : X → Rn E m (pc, ls, st, w0) o w := fun x => Rn.st hc hn h (K x)
theorem D.br {pc : Nat} {ls st : List Value} {w0 : Wd} {e : En} {g1 g2 : Fr} {c : Prop} {A B : Option α} [Decidable c] (hc : (cdO m)[pc]? = Option.some e) (hn : ¬ (isRt e.1 || (isCl e.1 || isAt e.1)) = true) (h : st1 E e pc ls st w0 = if c then Option.some g1 else Option.some g2) (K1 : c → Dq A T → Rn E m g1 o w) (K2 : ¬ c → Dq B T → Rn E m g2 o w) : Dq (if c then A else B) T → Rn E m (pc, ls, st, w0) o w := by
  intro x
  refine Rn.br hc hn h (fun z => K1 z ?_) (fun z => K2 z ?_)
  · rw [if_pos z] at x; exact x
  · rw [if_neg z] at x; exact x
theorem D.brp {pc : Nat} {ls st : List Value} {w0 : Wd} {e : En} {g1 g2 : Fr} {c : Prop} {A B : α} [Decidable c] (hc : (cdO m)[pc]? = Option.some e) (hn : ¬ (isRt e.1 || (isCl e.1 || isAt e.1)) = true) (h : st1 E e pc ls st w0 = if c then Option.some g1 else Option.some g2) (K1 : c → Dq (Option.some A) T → Rn E m g1 o w) (K2 : ¬ c → Dq (Option.some B) T → Rn E m g2 o w) : Dq (Option.some (if c then A else B)) T → Rn E m (pc, ls, st, w0) o w := by
  intro x
  refine Rn.br hc hn h (fun z => K1 z ?_) (fun z => K2 z ?_)
  · rw [if_pos z] at x; exact x
  · rw [if_neg z] at x; exact x
theorem D.swc {ls st : List Value} {w0 : Wd} {x k : Int32} {t d : Nat} {l : List (Int32 × Nat)} {A B : Option α} (K1 : x = k → Dq A T → Rn E m (t, ls, st, w0) o w) (K2 : ¬ x = k → Dq B T → Rn E m (swT l d x, ls, st, w0) o w) : Dq (if x = k then A else B) T → Rn E m (swT ((k, t) :: l) d x, ls, st, w0) o w := by
  intro h
  unfold swT
  by_cases z : x = k
  · rw [if_pos z] at h ⊢; exact K1 z h
  · rw [if_neg z] at h ⊢; exact K2 z h
theorem D.swcp {ls st : List Value} {w0 : Wd} {x k : Int32} {t d : Nat} {l : List (Int32 × Nat)} {A B : α} (K1 : x = k → Dq (Option.some A) T → Rn E m (t, ls, st, w0) o w) (K2 : ¬ x = k → Dq (Option.some B) T → Rn E m (swT l d x, ls, st, w0) o w) : Dq (Option.some (if x = k then A else B)) T → Rn E m (swT ((k, t) :: l) d x, ls, st, w0) o w := by
  intro h
  unfold swT
  by_cases z : x = k
  · rw [if_pos z] at h ⊢; exact K1 z h
  · rw [if_neg z] at h ⊢; exact K2 z h
theorem D.gd {G c : Prop} {A : Option α} [Decidable c] (K : c → Dq A T → G) : Dq (if c then A else Option.none) T → G := by
  intro h
  by_cases z : c
  · rw [if_pos z] at h; exact K z h
  · rw [if_neg z] at h; exact D.none h
theorem D.gn {G c : Prop} {A : Option α} [Decidable c] (K : ¬ c → Dq A T → G) : Dq (if c then Option.none else A) T → G := by
  intro h
  by_cases z : c
  · rw [if_pos z] at h; exact D.none h
  · rw [if_neg z] at h; exact K z h
theorem D.bind {β : Type} {G : Prop} {Y : Option β} {f : β → Option α} (K : Dq Y (fun q => Dq (f q) T) → G) : Dq (Y.bind f) T → G := by
  rintro ⟨q, h1, h2⟩
  obtain ⟨p, h3, h4⟩ := Option.bind_eq_some_iff.mp h1
  exact K ⟨p, h3, q, h4, h2⟩
theorem D.lett {β : Type} {G : Prop} {e : β} {f : β → Option α} (K : Dq (f e) T → G) : Dq (Lt e f) T → G := K
theorem D.letV {frame : Int32 → Fr} {e : Int32} {f : Int32 → Option α} (K : ∀ v : Int32, Dq (f v) T → Rn E m (frame v) o w) : Dq (Lt e f) T → Rn E m (frame e) o w := K e
theorem D.letVp {frame : Int32 → Fr} {e : Int32} {f : Int32 → α} (K : ∀ v : Int32, Dq (Option.some (f v)) T → Rn E m (frame v) o w) : Dq (Option.some (Lt e f)) T → Rn E m (frame e) o w := K e
theorem D.jn {β : Type} {G : Prop} {Y : Option β} {f : β → Option α} (H : ∀ T1 : β → Prop, (∀ q, T1 q → Dq (f q) T) → (Dq Y T1 → G)) : Dq (Y.bind f) T → G := D.bind (H _ (fun _ h => h))
theorem D.inl {β γ : Type} {G : Prop} {f : β → Option α} {g : γ → Option α} {q : β} (K : Dq (f q) T → G) : Dq (Sum.elim f g (.inl q)) T → G := K
theorem D.letS {R : Nat → Nat → Option Nat} {pc : Nat} {ls st : List Value} {e : St} {f : St → Option α} (K : ∀ J : St, Dq (f J) T → Rn E m (pc, ls, st, wT J R) o w) : Dq (Lt e f) T → Rn E m (pc, ls, st, wT e R) o w := K e
theorem D.ce {pc j : Nat} {ls st as r : List Value} {w0 w1 : Wd} {e : En} {v : Option Value} (hc : (cdO m)[pc]? = Option.some e) (hn : isCl e.1 = true) (h6 : Nat.ble 6 e.2.2.2.2.1 = false) (h : cl1 e st w0 = Option.some (j, as, r)) (hj : Rn E j (0, loc0 j as, [], w0) (.returned v) w1) (K : X → Rn E m (pc + 3, ls, v.toList ++ r, w1) o w) : X → Rn E m (pc, ls, st, w0) o w := fun x => Rn.call hc hn h6 h hj (K x)
theorem D.pr {pc : Nat} {ls st r : List Value} {w0 : Wd} {e : En} (hc : (cdO m)[pc]? = Option.some e) (hn : isCl e.1 = true) (h6 : Nat.ble 6 e.2.2.2.2.1 = true) (h : pr1 e.2.2.2.2.1 st = Option.some r) (K : X → Rn E m (pc + 3, ls, r, w0) o w) : X → Rn E m (pc, ls, st, w0) o w := fun x => Rn.pr hc hn h6 h (K x)
theorem D.call {β : Type} {Y : Option β} {f : β → Option α} {pc j : Nat} {ls st as r : List Value} {w0 : Wd} {w1 : β → Wd} {e : En} {v : β → Option Value} (hc : (cdO m)[pc]? = Option.some e) (hn : isCl e.1 = true) (h6 : Nat.ble 6 e.2.2.2.2.1 = false) (h : cl1 e st w0 = Option.some (j, as, r)) (hj : ∀ q, Y = Option.some q → Rn E j (0, loc0 j as, [], w0) (.returned (v q)) (w1 q)) (K : ∀ q, Dq (f q) T → Rn E m (pc + 3, ls, (v q).toList ++ r, w1 q) o w) : Dq (Y.bind f) T → Rn E m (pc, ls, st, w0) o w := by
  refine D.bind ?_
  rintro ⟨q, h1, h2⟩
  exact Rn.call hc hn h6 h (hj q h1) (K q h2)
theorem D.ct {β : Type} {R : Nat → Nat → Option Nat} {Y : Option (St ⊕ β)} {f : β → Option α} {g : St → Option α} {pc j : Nat} {ls st as r : List Value} {w0 : Wd} {w1 : β → Wd} {e : En} {v : β → Option Value} (hc : (cdO m)[pc]? = Option.some e) (hn : isCl e.1 = true) (h6 : Nat.ble 6 e.2.2.2.2.1 = false) (h : cl1 e st w0 = Option.some (j, as, r)) (hm : (Nat.beq e.2.2.2.2.1 1 && isR as && !Nat.beq m mText) = true) (hj : ∀ q, Y = Option.some (.inr q) → Rn E j (0, loc0 j as, [], w0) (.returned (v q)) (w1 q)) (ht : ∀ J, Y = Option.some (.inl J) → Rn E j (0, loc0 j as, [], w0) (.threw 84) (wT J R)) (hX : ∀ J, Dq (g J) T → o = .threw 84 ∧ w = wT J R) (K : ∀ q, Dq (f q) T → Rn E m (pc + 3, ls, (v q).toList ++ r, w1 q) o w) : Dq (Y.bind (Sum.elim g f)) T → Rn E m (pc, ls, st, w0) o w := by
  refine D.bind ?_
  rintro ⟨q, h1, h2⟩
  cases q with
  | inl J =>
    obtain ⟨rfl, rfl⟩ := hX J h2
    exact Rn.callT hc hn h6 h hm rfl (ht J h1)
  | inr q => exact Rn.call hc hn h6 h (hj q h1) (K q h2)
end
section
variable {E : Xe} {I : St} {R : Nat → Nat → Option Nat} {k pc n a b c d q j : Nat} {ls r : List Value} {v x i y : Int32} {w : Wd} {dd : Value}
theorem clL_d (h1 : ls[j - 1]? = some dd) (hd : is1 dd = true) : clL ls j = ls := by
  unfold clL
  split
  · rfl
  · rename_i j'
    have h1 : ls[j']? = some dd := h1
    rw [h1]
    cases dd <;> first | rfl | cases hd
theorem ist_d (h1 : ls[j - 1]? = some dd) (hd : is1 dd = true) (h2 : Nat.blt j ls.length = true) : st1 E (.istore j, n, a, b, c, d, v) pc ls (.int x :: r) w = some (pc + n, ls.set j (.int x), r, w) := by
  have h2 : j < ls.length := Nat.blt_eq.mp h2
  simp only [st1, sto]
  rw [if_pos h2, clL_d h1 hd]
theorem istn_d {f : Fin 4} (h1 : ls[f.val - 1]? = some dd) (hd : is1 dd = true) (h2 : Nat.blt f.val ls.length = true) : st1 E (.istore_n f, n, a, b, c, d, v) pc ls (.int x :: r) w = some (pc + n, ls.set f.val (.int x), r, w) := by
  have h2 : f.val < ls.length := Nat.blt_eq.mp h2
  simp only [st1, sto]
  rw [if_pos h2, clL_d h1 hd]
theorem ast_d (h1 : ls[j - 1]? = some dd) (hd : is1 dd = true) (h2 : Nat.blt j ls.length = true) : st1 E (.astore j, n, a, b, c, d, v) pc ls (.ref k :: r) w = some (pc + n, ls.set j (.ref k), r, w) := by
  have h2 : j < ls.length := Nat.blt_eq.mp h2
  simp only [st1, sto]
  rw [if_pos h2, clL_d h1 hd]
theorem astn_d {f : Fin 4} (h1 : ls[f.val - 1]? = some dd) (hd : is1 dd = true) (h2 : Nat.blt f.val ls.length = true) : st1 E (.astore_n f, n, a, b, c, d, v) pc ls (.ref k :: r) w = some (pc + n, ls.set f.val (.ref k), r, w) := by
  have h2 : f.val < ls.length := Nat.blt_eq.mp h2
  simp only [st1, sto]
  rw [if_pos h2, clL_d h1 hd]
theorem iinc_d {z : _} (h0 : ls[j]? = some (.int x)) (h1 : ls[j - 1]? = some dd) (hd : is1 dd = true) (h2 : Nat.blt j ls.length = true) : st1 E (.iinc j z, n, a, b, c, d, v) pc ls r w = some (pc + n, ls.set j (.int (x + v)), r, w) := by
  have h2 : j < ls.length := Nat.blt_eq.mp h2
  simp only [st1, sto]
  rw [h0]
  dsimp only
  rw [if_pos h2, clL_d h1 hd]
theorem gf_1 (h : R k b = some q) (hk : Nat.blt k 200 = true := by rfl) (hs : Nat.beq (shc k) a = true := by rfl) {z : Nat} : st1 E (.getfield z, n, a, b, 1, d, v) pc ls (.ref k :: r) (wT I R) = some (pc + n, ls, .ref q :: r, wT I R) := by
  simp [st1, wT, hk, hs, h]
theorem pf_4 (hk : k < 200) (hs : shc k = a) (h : x = 0 ∨ x = 1) {z : Nat} : st1 E (.putfield z, n, a, b, 4, d, v) pc ls (.int x :: .ref k :: r) (wT I R) = some (pc + n, ls, r, wT (up2 I k b x) R) := by
  have h1 : Nat.blt k 200 = true := by simpa [Nat.blt_eq] using hk
  have h2 : Nat.beq (shc k) a = true := by rw [hs]; simp
  simp [st1, wT, h1, h2, h]
theorem al_b (hk : k < 200) (hs : (Nat.beq (shc k) 101 || Nat.beq (shc k) 102) = true) (h0 : ¬ i < 0) (h1 : i.toNatClampNeg < shl k) : st1 E (.baload, n, a, b, c, d, v) pc ls (.int i :: .ref k :: r) (wT I R) = some (pc + n, ls, .int (I k i.toNatClampNeg) :: r, wT I R) := by
  have h2 : Nat.blt k 200 = true := by simpa [Nat.blt_eq] using hk
  have h3 : ¬ (i < 0 ∨ shl k ≤ i.toNatClampNeg) := by rintro (z | z); exact h0 z; omega
  simp only [st1, wT, h2, hs, Bool.true_and]
  rw [if_pos trivial, if_neg h3]
theorem as_b (hk : k < 200) (hs : shc k = 101) (h0 : ¬ i < 0) (h1 : i.toNatClampNeg < shl k) : st1 E (.bastore, n, a, b, c, d, v) pc ls (.int x :: .int i :: .ref k :: r) (wT I R) = some (pc + n, ls, r, wT (up2 I k i.toNatClampNeg (vp_nar .byte x)) R) := by
  have h2 : Nat.blt k 200 = true := by simpa [Nat.blt_eq] using hk
  have h3 : ¬ (i < 0 ∨ shl k ≤ i.toNatClampNeg) := by rintro (z | z); exact h0 z; omega
  simp only [st1, wT, h2, hs]
  rw [if_pos trivial, if_neg h3, if_pos (show Nat.beq 101 101 = true from rfl)]
theorem as_z (hk : k < 200) (hs : shc k = 102) (h0 : ¬ i < 0) (h1 : i.toNatClampNeg < shl k) : st1 E (.bastore, n, a, b, c, d, v) pc ls (.int x :: .int i :: .ref k :: r) (wT I R) = some (pc + n, ls, r, wT (up2 I k i.toNatClampNeg (vp_nar .boolean x)) R) := by
  have h2 : Nat.blt k 200 = true := by simpa [Nat.blt_eq] using hk
  have h3 : ¬ (i < 0 ∨ shl k ≤ i.toNatClampNeg) := by rintro (z | z); exact h0 z; omega
  simp only [st1, wT, h2, hs]
  rw [if_pos trivial, if_neg h3, if_neg (show ¬ Nat.beq 102 101 = true by decide), if_pos (show Nat.beq 102 102 = true from rfl)]
theorem xs_1 (h : inb i 59) : st1 E (.iaload, n, a, b, c, d, v) pc ls (.int i :: .retAddr 1 :: r) w = some (pc + n, ls, .int (xSHAPESL.getD i.toNatClampNeg 0) :: r, w) := by
  have h3 : ¬ (i < 0 ∨ 59 ≤ i.toNatClampNeg) := by rintro (z | z); exact h.1 z; have := h.2; omega
  exact (if_neg h3 : (if i < 0 ∨ 59 ≤ i.toNatClampNeg then none else some (pc + n, ls, Value.int (xSHAPESL.getD i.toNatClampNeg 0) :: r, w)) = _)
theorem xs_2 (h : inb i 59) : st1 E (.iaload, n, a, b, c, d, v) pc ls (.int i :: .retAddr 2 :: r) w = some (pc + n, ls, .int (xTAKESL.getD i.toNatClampNeg 0) :: r, w) := by
  have h3 : ¬ (i < 0 ∨ 59 ≤ i.toNatClampNeg) := by rintro (z | z); exact h.1 z; have := h.2; omega
  exact (if_neg h3 : (if i < 0 ∨ 59 ≤ i.toNatClampNeg then none else some (pc + n, ls, Value.int (xTAKESL.getD i.toNatClampNeg 0) :: r, w)) = _)
theorem xs_3 (h : inb i 59) : st1 E (.iaload, n, a, b, c, d, v) pc ls (.int i :: .retAddr 3 :: r) w = some (pc + n, ls, .int (xGIVESL.getD i.toNatClampNeg 0) :: r, w) := by
  have h3 : ¬ (i < 0 ∨ 59 ≤ i.toNatClampNeg) := by rintro (z | z); exact h.1 z; have := h.2; omega
  exact (if_neg h3 : (if i < 0 ∨ 59 ≤ i.toNatClampNeg then none else some (pc + n, ls, Value.int (xGIVESL.getD i.toNatClampNeg 0) :: r, w)) = _)
theorem div_s (h : ¬ y = 0) : st1 E (.idiv, n, a, b, c, d, v) pc ls (.int y :: .int x :: r) w = some (pc + n, ls, .int (x / y) :: r, w) := if_neg h
theorem rem_s (h : ¬ y = 0) : st1 E (.irem, n, a, b, c, d, v) pc ls (.int y :: .int x :: r) w = some (pc + n, ls, .int (x - x / y * y) :: r, w) := if_neg h
theorem fail_ok (x : Int32) : Rn E 197 (0, loc0 197 [.ref 82, .int x], [], wT I R) (.returned (some (.ref 84))) (wT (up2 I 84 0 x) R) := by
  refine Rn.run 6 rfl ?_
  exact Rn.ret rfl rfl rfl
theorem i32_nc {i : Int32} (h : ¬ i < 0) : i = Int32.ofNat i.toNatClampNeg := by
  have h1 : 0 ≤ i.toInt := by
    rw [Int32.lt_iff_toInt_lt] at h
    have z : (0 : Int32).toInt = 0 := rfl
    omega
  apply Int32.toInt_inj.mp
  rw [i32_of]
  · show i.toInt = ((i.toInt.toNat : Nat) : Int)
    omega
  · have := Int32.toInt_lt i
    show i.toInt.toNat < _
    omega
theorem scharI {tx : Nat} {i : Int32} {w : Wd} (ht : tx < 5) (h : inb i (xTL.getD tx []).length) : Rn E 30 (0, loc0 30 [.retAddr (10 + tx), .int i], [], w) (.returned (some (.int ((xTL.getD tx []).getD i.toNatClampNeg 0)))) w := by
  have e := i32_nc h.1
  have := schar_ok (E := E) (w := w) (i := i.toNatClampNeg) ht h.2
  rw [← e] at this
  exact this
end
