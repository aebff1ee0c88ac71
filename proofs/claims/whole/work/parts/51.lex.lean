/-! TEXTS: tokens of a tape, as pure functions. A tape T: its length and its bytes; 256 is what stands behind its end. -/
abbrev Tp : Type := Nat × (Nat → Nat)
def cA (T : Tp) (i : Nat) : Nat := if i < T.1 then T.2 i else 256
def cL (c : Nat) : Bool := (Nat.ble 97 c && Nat.ble c 122) || (Nat.ble 65 c && Nat.ble c 90)
def cD (c : Nat) : Bool := Nat.ble 48 c && Nat.ble c 57
def cN (c : Nat) : Bool := cL c || cD c
def cB (c : Nat) : Bool := Nat.beq c 9 || (Nat.beq c 10 || (Nat.beq c 13 || Nat.beq c 32))
def cE (c : Nat) : Bool := !(Nat.beq c 10 || Nat.beq c 256)
def cS (c : Nat) : Bool := Nat.beq c 123 || (Nat.beq c 125 || (Nat.beq c 40 || (Nat.beq c 41 || (Nat.beq c 59 || (Nat.beq c 58 || (Nat.beq c 44 || Nat.beq c 45))))))
def whl (p : Nat → Bool) : Nat → Nat → Nat
  | 0, i => i
  | f + 1, i => if p i then whl p f (i + 1) else i
theorem whl_st {p : Nat → Bool} {n : Nat} (hp : ∀ i, n ≤ i → p i = false) : ∀ f i, n ≤ i + f → whl p (f + 1) i = whl p f i := by
  intro f
  induction f with
  | zero =>
    intro i h
    show (if p i = true then whl p 0 (i + 1) else i) = i
    rw [hp i (by omega)]
    rfl
  | succ f ih =>
    intro i h
    rw [whl]
    conv => rhs; rw [whl]
    split
    · exact ih (i + 1) (by omega)
    · rfl
def Wh (T : Tp) (p : Nat → Bool) (i : Nat) : Nat := whl (fun j => p (cA T j)) T.1 i
theorem cA_end {T : Tp} {i : Nat} (h : T.1 ≤ i) : cA T i = 256 := by
  unfold cA
  rw [if_neg (by omega)]
theorem Wh_eq {T : Tp} {p : Nat → Bool} (hp : p 256 = false) (i : Nat) : Wh T p i = if p (cA T i) then Wh T p (i + 1) else i := by
  have hq : ∀ i, T.1 ≤ i → (fun j => p (cA T j)) i = false := by
    intro i hi
    show p (cA T i) = false
    rw [cA_end hi, hp]
  unfold Wh
  rw [← whl_st hq T.1 i (by omega), whl]
theorem Wh_yes {T : Tp} {p : Nat → Bool} (hp : p 256 = false) {i : Nat} (h : p (cA T i) = true) : Wh T p i = Wh T p (i + 1) := by
  rw [Wh_eq hp, if_pos h]
theorem Wh_no {T : Tp} {p : Nat → Bool} (hp : p 256 = false) {i : Nat} (h : p (cA T i) = false) : Wh T p i = i := by
  rw [Wh_eq hp, if_neg (by rw [h]; decide)]
theorem whl_ge {p : Nat → Bool} : ∀ f i, i ≤ whl p f i := by
  intro f
  induction f with
  | zero => intro i; exact Nat.le_refl _
  | succ f ih =>
    intro i
    rw [whl]
    split
    · exact Nat.le_trans (Nat.le_succ i) (ih (i + 1))
    · exact Nat.le_refl _
theorem Wh_ge {T : Tp} {p : Nat → Bool} (i : Nat) : i ≤ Wh T p i := whl_ge _ _
theorem whl_le {p : Nat → Bool} {n : Nat} (hp : ∀ i, n ≤ i → p i = false) : ∀ f i, i ≤ n → whl p f i ≤ n := by
  intro f
  induction f with
  | zero => intro i h; exact h
  | succ f ih =>
    intro i h
    rw [whl]
    split
    · rename_i z
      refine ih (i + 1) ?_
      rcases Nat.lt_or_ge i n with y | y
      · exact y
      · rw [hp i y] at z; cases z
    · exact h
theorem Wh_le {T : Tp} {p : Nat → Bool} (hp : p 256 = false) {i : Nat} (h : i ≤ T.1) : Wh T p i ≤ T.1 := by
  refine whl_le ?_ _ _ h
  intro j hj
  show p (cA T j) = false
  rw [cA_end hj, hp]
theorem whl_all {p : Nat → Bool} : ∀ f i k, i ≤ k → k < whl p f i → p k = true := by
  intro f
  induction f with
  | zero =>
    intro i k h1 h2
    have h2 : k < i := h2
    omega
  | succ f ih =>
    intro i k h1 h2
    rw [whl] at h2
    split at h2
    · rename_i z
      rcases Nat.eq_or_lt_of_le h1 with y | y
      · subst y; exact z
      · exact ih (i + 1) k y h2
    · omega
theorem Wh_all {T : Tp} {p : Nat → Bool} {i k : Nat} (h1 : i ≤ k) (h2 : k < Wh T p i) : p (cA T k) = true := whl_all _ _ k h1 h2
def skl (T : Tp) : Nat → Nat → Nat
  | 0, i => i
  | f + 1, i => if cB (cA T i) then skl T f (i + 1) else if cA T i = 35 then skl T f (Wh T cE i) else i
theorem Wh35 {T : Tp} {i : Nat} (h : cA T i = 35) : i + 1 ≤ Wh T cE i := by
  rw [Wh_yes (by rfl) (by rw [h]; rfl)]
  exact Wh_ge _
theorem skl_st {T : Tp} : ∀ f i, T.1 ≤ i + f → skl T (f + 1) i = skl T f i := by
  intro f
  induction f with
  | zero =>
    intro i h
    show (if cB (cA T i) = true then skl T 0 (i + 1) else if cA T i = 35 then skl T 0 (Wh T cE i) else i) = i
    rw [cA_end (by omega)]
    rfl
  | succ f ih =>
    intro i h
    rw [skl]
    conv => rhs; rw [skl]
    split
    · exact ih (i + 1) (by omega)
    · split
      · rename_i z
        have := Wh35 z
        exact ih _ (by omega)
      · rfl
def sk (T : Tp) (i : Nat) : Nat := skl T T.1 i
theorem sk_eq {T : Tp} (i : Nat) : sk T i = if cB (cA T i) then sk T (i + 1) else if cA T i = 35 then sk T (Wh T cE i) else i := by
  unfold sk
  rw [← skl_st T.1 i (by omega), skl]
theorem skl_ge {T : Tp} : ∀ f i, i ≤ skl T f i := by
  intro f
  induction f with
  | zero => intro i; exact Nat.le_refl _
  | succ f ih =>
    intro i
    rw [skl]
    split
    · exact Nat.le_trans (Nat.le_succ i) (ih (i + 1))
    · split
      · rename_i z
        have := Wh35 z
        exact Nat.le_trans (by omega) (ih _)
      · exact Nat.le_refl _
theorem sk_ge {T : Tp} (i : Nat) : i ≤ sk T i := skl_ge _ _
theorem skl_le {T : Tp} : ∀ f i, i ≤ T.1 → skl T f i ≤ T.1 := by
  intro f
  induction f with
  | zero => intro i h; exact h
  | succ f ih =>
    intro i h
    rw [skl]
    split
    · rename_i z
      refine ih _ ?_
      rcases Nat.lt_or_ge i T.1 with y | y
      · exact y
      · rw [cA_end y] at z; cases z
    · split
      · exact ih _ (Wh_le (by rfl) h)
      · exact h
theorem sk_le {T : Tp} {i : Nat} (h : i ≤ T.1) : sk T i ≤ T.1 := skl_le _ _ h
/-- a token's end; where the next one begins; its signs; a number's worth -/
def te (T : Tp) (p : Nat) : Nat := if cL (cA T p) then Wh T cN p else if cD (cA T p) then (if cA T p = 48 then p + 1 else Wh T cD p) else if cA T p = 256 then p else p + 1
def nx (T : Tp) (p : Nat) : Nat := sk T (te T p)
def sg (T : Tp) (i j : Nat) : List Nat := (List.range (j - i)).map fun d => T.2 (i + d)
def str (T : Tp) (p : Nat) : List Nat := sg T p (te T p)
def nv (l : List Nat) : Nat := l.foldl (fun a c => 10 * a + (c - 48)) 0
theorem te_le {T : Tp} {p : Nat} (h : p ≤ T.1) : te T p ≤ T.1 := by
  unfold te
  split
  · exact Wh_le (by rfl) h
  · split
    · rename_i z1 z2
      have hp : p < T.1 := by
        rcases Nat.lt_or_ge p T.1 with y | y
        · exact y
        · rw [cA_end y] at z2; cases z2
      split
      · omega
      · exact Wh_le (by rfl) h
    · split
      · exact h
      · rename_i z
        rcases Nat.lt_or_ge p T.1 with y | y
        · exact y
        · exact absurd (cA_end y) z
theorem te_gt {T : Tp} {p : Nat} (h : p < T.1) (hb : T.2 p < 256) : p < te T p := by
  have e : cA T p = T.2 p := by unfold cA; rw [if_pos h]
  unfold te
  split
  · rename_i z
    rw [Wh_yes (by rfl) (by unfold cN; rw [z]; rfl)]
    exact Wh_ge _
  · split
    · rename_i z1 z
      split
      · omega
      · rw [Wh_yes (by rfl) z]
        exact Wh_ge _
    · split
      · rename_i z
        rw [e] at z
        omega
      · omega
theorem nx_le {T : Tp} {p : Nat} (h : p ≤ T.1) : nx T p ≤ T.1 := sk_le (te_le h)
/-- words: those of instructions, the others, the first classes' names -/
def wl3 : List (List Nat) := [[112, 117, 115, 104], [110, 117, 108, 108], [108, 111, 97, 100], [115, 116, 111, 114, 101], [105, 110, 99], [100, 117, 112], [112, 111, 112], [115, 119, 97, 112], [97, 100, 100], [115, 117, 98], [109, 117, 108], [100, 105, 118], [114, 101, 109], [97, 110, 100], [111, 114], [120, 111, 114], [115, 104, 108], [115, 104, 114], [117, 115, 104, 114], [110, 101, 103], [103, 111, 116, 111], [105, 102, 101, 113], [105, 102, 110, 101], [105, 102, 108, 116], [105, 102, 103, 101], [105, 102, 103, 116], [105, 102, 108, 101], [99, 109, 112, 101, 113], [99, 109, 112, 110, 101], [99, 109, 112, 108, 116], [99, 109, 112, 103, 101], [99, 109, 112, 103, 116], [99, 109, 112, 108, 101], [105, 102, 110, 117, 108, 108], [105, 102, 115, 111, 109, 101], [115, 97, 109, 101], [111, 116, 104, 101, 114], [110, 101, 119], [103, 101, 116], [112, 117, 116], [103, 101, 116, 115], [112, 117, 116, 115], [105, 110, 116, 115], [114, 101, 102, 115], [105, 103, 101, 116], [105, 112, 117, 116], [114, 103, 101, 116], [114, 112, 117, 116], [108, 101, 110, 103, 116, 104], [99, 97, 108, 108], [118, 105, 114, 116], [114, 101, 116], [116, 104, 114, 111, 119], [105, 115], [97, 115], [115, 111, 117, 114, 99, 101], [115, 105, 110, 107], [99, 108, 101, 97, 110], [109, 97, 114, 107]]
def wl4 : List (List Nat) := [[99, 108, 97, 115, 115], [102, 105, 101, 108, 100], [115, 116, 97, 116, 105, 99], [109, 101, 116, 104, 111, 100], [118, 105, 114, 116, 117, 97, 108], [105, 110, 116], [114, 101, 102], [110, 111, 110, 101], [116, 114, 121]]
def wl2 : List (List Nat) := [[65, 110, 121], [70, 97, 117, 108, 116], [78, 117, 108, 108, 70, 97, 117, 108, 116], [66, 111, 117, 110, 100, 115, 70, 97, 117, 108, 116], [83, 105, 122, 101, 70, 97, 117, 108, 116], [68, 105, 118, 105, 100, 101, 70, 97, 117, 108, 116], [67, 97, 115, 116, 70, 97, 117, 108, 116]]
def wlT (t : Nat) : List (List Nat) := if t = 3 then wl3 else if t = 4 then wl4 else wl2
/-- where word w of a text begins -/
def wof (l : List (List Nat)) (w : Nat) : Nat := ((l.take w).map fun x => x.length + 1).sum
theorem wl_ok : ∀ t, t = 3 ∨ t = 4 ∨ t = 2 → (∀ w, w < (wlT t).length → ∀ j, j < ((wlT t).getD w []).length → (xTL.getD t []).getD (wof (wlT t) w + j) 0 = Int32.ofNat (((wlT t).getD w []).getD j 0) ∧ ((wlT t).getD w []).getD j 0 ≠ 32 ∧ ((wlT t).getD w []).getD j 0 < 123) ∧ (∀ w, w < (wlT t).length → (xTL.getD t []).getD (wof (wlT t) w + ((wlT t).getD w []).length) 0 = 32 ∧ wof (wlT t) (w + 1) = wof (wlT t) w + ((wlT t).getD w []).length + 1 ∧ wof (wlT t) w + ((wlT t).getD w []).length < (xTL.getD t []).length ∧ ((wlT t).getD w []).length < 13) ∧ wof (wlT t) (wlT t).length = (xTL.getD t []).length ∧ (xTL.getD t []).length < 1000 := by
  intro t ht
  rcases ht with rfl | rfl | rfl <;> decide +kernel
