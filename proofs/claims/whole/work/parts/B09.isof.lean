/-! IS OF: both sides -/
/-- 1 if d is c or above it -/
def isb (p : Nat → Nat) (c d : Nat) : Int32 := if upw p (fun x => if x = d then some 0 else none) 19 c = some 0 then 1 else 0
/-- the class column of an object: c, or an array's -/
def CV (n c : Nat) (v : Int32) : Prop := c < n ∧ (v = Int32.ofNat c ∨ (c = 0 ∧ (v = -2 ∨ v = -3)))
theorem isb_s {f : Nat → Int32} {p : Nat → Nat} {n c d : Nat} (hp : PAR f p n) (hn : n ≤ 19) (hc : c < n) : isb p c d = if c = d then 1 else if c = 0 then 0 else isb p (p c) d := by
  unfold isb
  rw [show (19 : Nat) = 18 + 1 from rfl, upw]
  by_cases y : c = d
  · simp only [if_pos y, if_true]
  · simp only [if_neg y]
    by_cases z : c = 0
    · simp only [if_pos z, reduceCtorEq, if_false]
    · simp only [if_neg z]
      have := (hp.2 c (by omega) hc).2
      rw [upw_d hp _ (p c) 18 (18 + 1) (by omega) (by omega) (by omega)]
section
variable {P Z n k s : Nat} {E F G p : Nat → Nat} {A B : St} {c d : Nat} {v : Int32}
theorem l150_n (hP : Hid (P = 3 ∨ P = 18)) (hp : PAR (fun c => A (P + 2) (6 * c)) p n) (hn : n ≤ 19) (hd : d < n) : ∀ c f b, c < n → c + 1 < f → b + c < 19 → l150_13 P (Int32.ofNat d) f (Int32.ofNat c) (Int32.ofNat b) A = some (if isb p c d = 1 then .inr 1 else .inl ()) := by
  intro c
  induction c using Nat.strongRecOn with
  | ind c ih =>
    intro f b h1 h2 h3
    obtain ⟨f, rfl⟩ : ∃ g, f = g + 1 := ⟨f - 1, by omega⟩
    rw [l150_13, isb_s hp hn h1, if_neg (by rw [i32_l2 (x := 19) (b := 19) rfl (by omega) (by decide)]; omega), if_neg (i32_m1 (by omega))]
    by_cases y : c = d
    · rw [if_pos (by rw [y]), if_pos y]; rfl
    · rw [if_neg (by rw [i32_eq (by omega) (by omega)]; exact y), if_neg y]
      simp (disch := omega) only [tP1 hP]
      by_cases z : c = 0
      · subst z
        have e0 : A (P + 2) (6 * 0) = -1 := hp.1
        obtain ⟨f, rfl⟩ : ∃ g, f = g + 1 := ⟨f - 1, by omega⟩
        rw [e0, if_pos rfl, l150_13, i32_s]
        by_cases w : 19 ≤ b + 1
        · rw [if_pos ((i32_l2 (x := 19) (b := 19) rfl (by omega) (by decide)).mpr w)]; rfl
        · rw [if_neg (by rw [i32_l2 (x := 19) (b := 19) rfl (by omega) (by decide)]; exact w), if_pos rfl]; rfl
      · obtain ⟨q1, q2⟩ := hp.2 c (by omega) h1
        have q1 : A (P + 2) (6 * c) = Int32.ofNat (p c) := q1
        rw [q1, if_neg z, i32_s]
        exact ih (p c) q2 f (b + 1) (by omega) (by omega) (by omega)
theorem l246_n (hp : PAR (B (Z + 8)) p n) (hn : n ≤ 19) (hd : d < n) : ∀ c f, c < n → c + 1 < f → l246_23 Z (Int32.ofNat d) f (Int32.ofNat c) B = some (if isb p c d = 1 then Int32.ofNat d else -1) := by
  intro c
  induction c using Nat.strongRecOn with
  | ind c ih =>
    intro f h1 h2
    obtain ⟨f, rfl⟩ : ∃ g, f = g + 1 := ⟨f - 1, by omega⟩
    rw [l246_23, isb_s hp hn h1, if_neg (i32_m1 (by omega))]
    by_cases y : c = d
    · rw [if_pos (by rw [y]), if_pos y, if_pos rfl, y]
    · rw [if_neg (by rw [i32_eq (by omega) (by omega)]; exact y), if_neg y, if_pos ((i32_inb (by omega)).mpr (by omega)), i32_cl (by omega)]
      by_cases z : c = 0
      · subst z
        obtain ⟨f, rfl⟩ : ∃ g, f = g + 1 := ⟨f - 1, by omega⟩
        rw [hp.1, if_pos rfl, l246_23, if_pos rfl, if_neg (by decide)]
      · obtain ⟨q1, q2⟩ := hp.2 c (by omega) h1
        rw [q1, if_neg z]
        exact ih (p c) q2 f (by omega) (by omega)
theorem isb_01 : isb p c d = 1 ∨ isb p c d = 0 := by
  unfold isb
  split
  · exact Or.inl rfl
  · exact Or.inr rfl
theorem x150_n (hP : Hid (P = 3 ∨ P = 18)) (hL : LPc P Z n s k E p A B) (hv : CV n c v) (hd : d < n) : x150 P A v (Int32.ofNat d) = some (isb p c d) := by
  obtain ⟨-, -, c3, c4, -, -, -, c8, -⟩ := hL
  obtain ⟨v1, v2⟩ := hv
  have e : (if 0 ≤ v then some v else some 0) = some (Int32.ofNat c) := by
    rcases v2 with y | ⟨y, z | z⟩
    · rw [y, if_pos ((i32_l2 (x := 0) (b := 0) rfl (by omega) (by decide)).mpr (by omega))]
    · rw [z, y]; rfl
    · rw [z, y]; rfl
  unfold x150
  rw [e, Option.bind_some, show (0 : Int32) = Int32.ofNat 0 from rfl, l150_n hP c8 c4 hd c 100000 0 v1 (by omega) (by omega), Option.bind_some]
  rcases isb_01 (p := p) (c := c) (d := d) with y | y
  · rw [y, if_pos rfl]; rfl
  · rw [y, if_neg (by decide)]; rfl
theorem x246_n {r : Nat} (hL : LPc P Z n s k E p A B) (hr : r < 3001) (hv : CV n c (B 181 r)) (hd : d < n) : x246 Z B (Int32.ofNat (r + 1)) (Int32.ofNat d) = some (isb p c d) := by
  obtain ⟨-, -, c3, c4, -, -, -, -, c9, -⟩ := hL
  obtain ⟨v1, v2⟩ := hv
  unfold x246
  rw [i32_p, if_pos ((i32_inb (by omega)).mpr hr), i32_cl (by omega)]
  have key : (if isb p c d = 1 then Int32.ofNat d else -1) = Int32.ofNat d ↔ isb p c d = 1 := by
    rcases isb_01 (p := p) (c := c) (d := d) with y | y
    · rw [y, if_pos rfl]; exact ⟨fun _ => rfl, fun _ => rfl⟩
    · rw [y, if_neg (by decide)]
      exact ⟨fun z => absurd z.symm (i32_m1 (by omega)), fun z => by cases z⟩
  rcases v2 with y | ⟨y, z⟩
  · rw [y, if_pos ((i32_l2 (x := 0) (b := 0) rfl (by omega) (by decide)).mpr (by omega)), l246_n c9 c4 hd c 100000 v1 (by omega), Option.bind_some]
    simp only [key]
    rcases isb_01 (p := p) (c := c) (d := d) with y | y
    · rw [y, if_pos rfl]
    · rw [y, if_neg (by decide)]
  · have e : (if 0 ≤ B 181 r then (l246_23 Z (Int32.ofNat d) 100000 (B 181 r) B).bind fun q1 => if q1 = Int32.ofNat d then some (1 : Int32) else some 0 else if Int32.ofNat d = 0 then some 1 else some 0) = if Int32.ofNat d = 0 then some 1 else some 0 := by
      rcases z with z | z
      · rw [z, if_neg (by decide)]
      · rw [z, if_neg (by decide)]
    rw [e, y, isb_s c9 c4 (by omega)]
    by_cases w : d = 0
    · rw [w]; rfl
    · rw [if_neg (by rw [i32_e (x := 0) (b := 0) rfl (by omega) (by decide)]; exact w), if_neg (fun h => w h.symm), if_pos rfl]
end
