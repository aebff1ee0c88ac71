/-! WHICH TRY CATCHES, at one level -/
def ftr (h : Nat → Bool) : Nat → Nat → Option Nat
  | 0, _ => none
  | d + 1, b => if h b = true then some b else ftr h d (b + 1)
theorem ftr_ext {h g : Nat → Bool} : ∀ d b, (∀ x, b ≤ x → x < b + d → h x = g x) → ftr h d b = ftr g d b := by
  intro d
  induction d with
  | zero => intro b _; rfl
  | succ d ih => intro b hx; rw [ftr, ftr, hx b (by omega) (by omega), ih (b + 1) (fun x y1 y2 => hx x (by omega) (by omega))]
theorem ftr_no {h : Nat → Bool} : ∀ d b, (∀ x, b ≤ x → x < b + d → h x = false) → ftr h d b = none := by
  intro d
  induction d with
  | zero => intro b _; rfl
  | succ d ih => intro b hx; rw [ftr, hx b (by omega) (by omega), if_neg (by decide), ih (b + 1) (fun x y1 y2 => hx x (by omega) (by omega))]
theorem ftr_y {h : Nat → Bool} : ∀ d b x, ftr h d b = some x → b ≤ x ∧ x < b + d ∧ h x = true := by
  intro d
  induction d with
  | zero => intro b x z; cases z
  | succ d ih =>
    intro b x z
    rw [ftr] at z
    by_cases y : h b = true
    · rw [if_pos y] at z; cases z; exact ⟨by omega, by omega, y⟩
    · rw [if_neg y] at z
      obtain ⟨y1, y2, y3⟩ := ih _ _ z
      exact ⟨by omega, by omega, y3⟩
theorem ftr_app {h : Nat → Bool} {e : Nat} : ∀ d b, ftr h (d + e) b = if ftr h d b = none then ftr h e (b + d) else ftr h d b := by
  intro d
  induction d with
  | zero => intro b; rw [ftr, if_pos rfl, Nat.zero_add, Nat.add_zero]
  | succ d ih =>
    intro b
    rw [show d + 1 + e = d + e + 1 by omega, ftr, ftr]
    by_cases y : h b = true
    · rw [if_pos y, if_pos y, if_neg (by intro z; cases z)]
    · rw [if_neg y, if_neg y, ih (b + 1), show b + 1 + d = b + (d + 1) by omega]
/-- a try that covers i and whose class c is of -/
def hit (Z : Nat) (B : St) (p : Nat → Nat) (c f i tr : Nat) : Bool := decide ((B (Z + 40) (4 * tr)).toNatClampNeg ≤ f + i ∧ f + i < (B (Z + 40) (4 * tr + 1)).toNatClampNeg ∧ isb p c (B (Z + 40) (4 * tr + 3)).toNatClampNeg = 1)
section
variable {P Z n k s : Nat} {E F G p : Nat → Nat} {A B : St} {c m i : Nat} {v : Int32}
theorem l171_n (hP : Hid (P = 3 ∨ P = 18)) (hP2 : 3 ≤ P ∧ P ≤ 18) (hL : Lkd P Z n k s E F G p A B) (hm : m < k) (hG : G (m + 1) ≤ 192) (hF : F (m + 1) ≤ 1280) (hi : A 68 9 = Int32.ofNat i) (hi2 : i < 1333) (hv : CV n c v) : ∀ d b f, G m ≤ b → b + d = G (m + 1) → d < f → l171_48 P v (Int32.ofNat (G (m + 1))) f (Int32.ofNat b) A = some (smm (ftr (hit Z B p c (F m) i) d b) Int32.ofNat) := by
  intro d
  induction d with
  | zero =>
    intro b f h1 h2 h3
    obtain ⟨f, rfl⟩ : ∃ g, f = g + 1 := ⟨f - 1, by omega⟩
    rw [l171_48, if_pos ((i32_le (by omega) (by omega)).mpr (by omega))]
    rfl
  | succ d ih =>
    intro b f h1 h2 h3
    obtain ⟨f, rfl⟩ : ∃ g, f = g + 1 := ⟨f - 1, by omega⟩
    obtain ⟨-, a, e, g, dd, w1, w2, w3, w4, w5, w6, w7, w8, w9, w10, w11, w12, w13⟩ := hL.2.2.2 m b hm h1 (by omega)
    have hn := hL.1.2.2.2.1
    have hh : hit Z B p c (F m) i b = decide (a ≤ i ∧ i < e ∧ isb p c dd = 1) := by
      unfold hit
      rw [w7, w9, w13, i32_cl (by omega), i32_cl (by omega), i32_cl (by omega)]
      congr 1
      exact propext ⟨fun y => ⟨by omega, by omega, y.2.2⟩, fun y => ⟨by omega, by omega, y.2.2⟩⟩
    rw [l171_48, if_neg (by rw [i32_le (by omega) (by omega)]; omega), hi]
    simp (disch := omega) only [tP11 hP]
    rw [w6, w8, w12, ftr, hh, i32_s]
    have nx := ih (b + 1) f (by omega) (by omega) (by omega)
    by_cases y1 : i < a
    · rw [if_pos ((i32_lt (by omega) (by omega)).mpr y1), if_neg (by rw [decide_eq_true_eq]; omega)]
      exact nx
    rw [if_neg (by rw [i32_lt (by omega) (by omega)]; exact y1)]
    by_cases y2 : e ≤ i
    · rw [if_pos ((i32_le (by omega) (by omega)).mpr y2), if_neg (by rw [decide_eq_true_eq]; omega)]
      exact nx
    rw [if_neg (by rw [i32_le (by omega) (by omega)]; exact y2), x150_n hP hL.1 hv w5, Option.bind_some]
    rcases isb_01 (p := p) (c := c) (d := dd) with y | y
    · rw [y, if_neg (by decide), if_pos (by rw [decide_eq_true_eq]; exact ⟨by omega, by omega, rfl⟩)]; rfl
    · rw [y, if_pos rfl, if_neg (by rw [decide_eq_true_eq]; exact fun z => absurd z.2.2 (by decide))]
      exact nx
theorem x171_n (hP : Hid (P = 3 ∨ P = 18)) (hP2 : 3 ≤ P ∧ P ≤ 18) (hL : Lkd P Z n k s E F G p A B) (hm : m < k) (hG : G (m + 1) ≤ 192) (hF : F (m + 1) ≤ 1280) (hm8 : A 68 8 = Int32.ofNat m) (hi : A 68 9 = Int32.ofNat i) (hi2 : i < 1333) (hv : CV n c v) : x171 P A v = some (oI (ftr (hit Z B p c (F m) i) (G (m + 1) - G m) (G m))) := by
  obtain ⟨g1, g2, g3, g4, g5⟩ := hL.2.1.2.2.2.2.2.2.1 m hm
  obtain ⟨-, -, -, -, -, -, -, -, -, -, -, q1, q2⟩ := g5
  have hk := hL.1.2.2.2.2.1
  unfold x171
  rw [hm8]
  simp (disch := omega) only [tP7 hP]
  rw [q1, q2, i32_a, show G m + (G (m + 1) - G m) = G (m + 1) by omega, l171_n hP hP2 hL hm hG hF hi hi2 hv (G (m + 1) - G m) (G m) 100000 (Nat.le_refl _) (by omega) (by omega), Option.bind_some]
  cases ftr (hit Z B p c (F m) i) (G (m + 1) - G m) (G m) with
  | none => rfl
  | some x => rfl
theorem l245_n {r : Nat} {w : Int32} (hL : Lkd P Z n k s E F G p A B) (hm : m < 24) (hGk : G k ≤ 192) (hF : ∀ m, m < k → F (m + 1) ≤ 1280) (h63 : B 82 63 = Int32.ofNat m) (h64 : B 82 64 = Int32.ofNat (F m + i)) (hi2 : F m + i < 1333) (hr : r < 3001) (hv : CV n c (B 181 r)) (hT : ∀ tr, tr < G k → ∃ m', m' < k ∧ G m' ≤ tr ∧ tr < G (m' + 1)) : ∀ d b f, b + d = G k → d < f → l245_9 Z (Int32.ofNat (r + 1)) w f (Int32.ofNat b) B = match ftr (fun tr => decide (B (Z + 37) tr = Int32.ofNat m) && hit Z B p c (F m) i tr) d b with | none => some (.inl ()) | some t => (x239 (up2 (up2 B 82 64 (B (Z + 40) (4 * t + 2))) 82 65 0) (Int32.ofNat (r + 1)) w).bind fun q => some (.inr q) := by
  intro d
  induction d with
  | zero =>
    intro b f h2 h3
    obtain ⟨f, rfl⟩ : ∃ g, f = g + 1 := ⟨f - 1, by omega⟩
    rw [l245_9, hL.2.1.2.2.1, if_pos ((i32_le (by omega) (by omega)).mpr (by omega))]
    rfl
  | succ d ih =>
    intro b f h2 h3
    obtain ⟨f, rfl⟩ : ∃ g, f = g + 1 := ⟨f - 1, by omega⟩
    obtain ⟨m', m1, m2, m3⟩ := hT b (by omega)
    obtain ⟨w0, a, e, g, dd, w1, w2, w3, w4, w5, w6, w7, w8, w9, w10, w11, w12, w13⟩ := hL.2.2.2 m' b m1 m2 m3
    have hn := hL.1.2.2.2.1
    have hk := hL.1.2.2.2.2.1
    have hF' := hF m' m1
    have nx := ih (b + 1) f (by omega) (by omega)
    rw [l245_9, hL.2.1.2.2.1, if_neg (by rw [i32_le (by omega) (by omega)]; omega), if_pos ((i32_inb (by omega)).mpr (by omega)), i32_cl (by omega), w0, h63, ftr, w0, i32_s]
    have e4 : (4 : Int32) * Int32.ofNat b = Int32.ofNat (4 * b) := (Int32.ofNat_mul 4 b).symm
    by_cases y : m' = m
    · subst y
      have hh : hit Z B p c (F m') i b = decide (F m' + a ≤ F m' + i ∧ F m' + i < F m' + e ∧ isb p c dd = 1) := by
        unfold hit
        rw [w7, w9, w13, i32_cl (by omega), i32_cl (by omega), i32_cl (by omega)]
      rw [if_pos rfl, decide_eq_true rfl, Bool.true_and, hh, e4, show Int32.ofNat (4 * b) + 1 = Int32.ofNat (4 * b + 1) from i32_s, show Int32.ofNat (4 * b) + 3 = Int32.ofNat (4 * b + 3) from i32_a _ 3, show Int32.ofNat (4 * b) + 2 = Int32.ofNat (4 * b + 2) from i32_a _ 2, if_pos ((i32_inb (by omega)).mpr (by omega)), if_pos ((i32_inb (by omega)).mpr (by omega)), if_pos ((i32_inb (by omega)).mpr (by omega)), i32_cl (a := 4 * b) (by omega), i32_cl (a := 4 * b + 1) (by omega), i32_cl (a := 4 * b + 3) (by omega), w7, w9, w13, h64]
      by_cases y1 : F m' + i < F m' + a
      · rw [if_pos ((i32_lt (by omega) (by omega)).mpr y1), if_neg (by rw [decide_eq_true_eq]; omega)]
        exact nx
      rw [if_neg (by rw [i32_lt (by omega) (by omega)]; exact y1)]
      by_cases y2 : F m' + e ≤ F m' + i
      · rw [if_pos ((i32_le (by omega) (by omega)).mpr y2), if_neg (by rw [decide_eq_true_eq]; omega)]
        exact nx
      rw [if_neg (by rw [i32_le (by omega) (by omega)]; exact y2), x246_n hL.1 hr hv w5, Option.bind_some]
      rcases isb_01 (p := p) (c := c) (d := dd) with y | y
      · rw [y, if_neg (by decide), if_pos ((i32_inb (by omega)).mpr (by omega)), if_pos (by rw [decide_eq_true_eq]; exact ⟨by omega, by omega, rfl⟩), i32_cl (a := 4 * b + 2) (by omega)]
      · rw [y, if_pos rfl, if_neg (by rw [decide_eq_true_eq]; exact fun z => absurd z.2.2 (by decide))]
        exact nx
    · have ne : ¬ Int32.ofNat m' = Int32.ofNat m := by rw [i32_eq (by omega) (by omega)]; exact y
      rw [if_neg ne, decide_eq_false ne, Bool.false_and, if_neg (by decide)]
      exact nx
/-- all tries, or the method's own -/
theorem ftr_own {h : Nat → Bool} (hL : Lkd P Z n k s E F G p A B) (hm : m < k) (hT : ∀ tr, tr < G k → ∃ m', m' < k ∧ G m' ≤ tr ∧ tr < G (m' + 1)) (hmo : ∀ a b, a ≤ b → b ≤ k → G a ≤ G b) : ftr (fun tr => decide (B (Z + 37) tr = Int32.ofNat m) && h tr) (G k) 0 = ftr h (G (m + 1) - G m) (G m) := by
  have hk := hL.1.2.2.2.2.1
  have g1 := hmo m (m + 1) (by omega) (by omega)
  have g2 := hmo (m + 1) k (by omega) (by omega)
  have oth : ∀ tr, tr < G k → (tr < G m ∨ G (m + 1) ≤ tr) → (decide (B (Z + 37) tr = Int32.ofNat m) && h tr) = false := by
    intro tr y1 y2
    obtain ⟨m', m1, m2, m3⟩ := hT tr y1
    have ne : m' ≠ m := by intro z; subst z; omega
    rw [(hL.2.2.2 m' tr m1 m2 m3).1, decide_eq_false (by rw [i32_eq (by omega) (by omega)]; exact ne), Bool.false_and]
  rw [show G k = G m + ((G (m + 1) - G m) + (G k - G (m + 1))) by omega, ftr_app, ftr_no (G m) 0 (fun x y1 y2 => oth x (by omega) (by omega)), if_pos rfl, ftr_app, Nat.zero_add, ftr_no (G k - G (m + 1)) (G m + (G (m + 1) - G m)) (fun x y1 y2 => oth x (by omega) (by omega))]
  have e : ftr (fun tr => decide (B (Z + 37) tr = Int32.ofNat m) && h tr) (G (m + 1) - G m) (G m) = ftr h (G (m + 1) - G m) (G m) := ftr_ext _ _ (fun x y1 y2 => by
    rw [(hL.2.2.2 m x hm y1 (by omega)).1, decide_eq_true rfl, Bool.true_and])
  rw [e]
  split
  · rename_i z; exact z.symm
  · rfl
end
