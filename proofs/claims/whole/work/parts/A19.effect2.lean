/-! THE REFERENCE's effect() -/
/-- the reference's stack, good; or not good -/
def Rg (o : Option (Nat × Nat)) (B : St) : Prop := match o with
  | some t => Sok t ∧ t.1 ≤ 16 ∧ B 82 29 = Int32.ofNat t.1 ∧ B 82 30 = Int32.ofNat t.2 ∧ B 82 31 = 1
  | none => B 82 31 = 0
def rtk : List Nat → St → Option St
  | [], B => some B
  | k :: ks, B => (x231 B (Int32.ofNat k)).bind fun q => rtk ks q.2
def rpo (g : Nat) (B : St) : Option St := if g = 0 then some B else x232 B (Int32.ofNat g)
section
variable {e : Option (Nat × Nat)} {B : St} {Z : Nat}
theorem x231_g (h : Rg e B) {k : Nat} (hk : k ≤ 2) : ∃ v B', x231 B (Int32.ofNat k) = some (v, B') ∧ Rg (e.bind (tkk k)) B' ∧ (∀ a b, (a ≠ 82 ∨ (b ≠ 29 ∧ b ≠ 30 ∧ b ≠ 31)) → B' a b = B a b) ∧ ∀ t, e = some t → 0 < t.1 → v = Int32.ofNat (skd t) := by
  unfold x231 Lt
  cases e with
  | none =>
    have h : B 82 31 = 0 := h
    by_cases z : B 82 29 = 0
    · rw [if_pos z]
      exact ⟨_, _, rfl, up2_s _ _ _ _, fun a b y => up2_o (by omega), fun t y => (nomatch y)⟩
    · rw [if_neg z]
      dsimp only
      rw [up2_o (by omega), up2_o (by omega), if_pos h]
      exact ⟨_, _, rfl, up2_s _ _ _ _, fun a b y => by rw [up2_o (by omega), up2_o (by omega), up2_o (by omega)], fun t y => (nomatch y)⟩
  | some t =>
    obtain ⟨h1, h2, h3, h4, h5⟩ := h
    obtain ⟨b1, b2⟩ := h1
    have b3 := p20 b1
    rw [Option.bind_some]
    by_cases z : t.1 = 0
    · have : tkk k t = none := by unfold tkk; rw [if_pos z]
      rw [if_pos (by rw [h3, z]; rfl), this]
      exact ⟨_, _, rfl, up2_s _ _ _ _, fun a b y => up2_o (by omega), fun t' y1 y2 => by cases y1; omega⟩
    · have e1 : Int32.ofNat t.1 - 1 = Int32.ofNat (t.1 - 1) := i32_sb (b := 1) (by omega)
      have e2 : Int32.ofNat (2 ^ (t.1 - 1)) - 1 = Int32.ofNat (2 ^ (t.1 - 1) - 1) := i32_sb (b := 1) (Nat.two_pow_pos _)
      have e3 : ((if t.2.testBit (t.1 - 1) = true then (1 : Int32) else 0) + 1) = Int32.ofNat (skd t) := by unfold skd; cases t.2.testBit (t.1 - 1) <;> rfl
      rw [if_neg (by rw [h3]; exact fun y => z ((i32_e (x := 0) (b := 0) rfl (by omega) (by decide)).mp y))]
      dsimp only
      rw [up2_o (by omega), up2_o (by omega), h5, if_neg (by decide), h3, h4, e1, i32_tb (by omega) (by omega), i32_sh1 _ (by omega), e2, i32_an, an_pp, e3]
      have hs : ∀ (v : Int32), Rg (some (spp t)) (up2 (up2 (up2 B 82 29 (Int32.ofNat (t.1 - 1))) 82 30 (Int32.ofNat (t.2 % 2 ^ (t.1 - 1)))) 82 31 1) := fun v => by
        refine ⟨spp_ok ⟨b1, b2⟩, by show t.1 - 1 ≤ 16; omega, ?_, ?_, up2_s _ _ _ _⟩
        · simp (disch := omega) only [up2_o, up2_s]; rfl
        · simp (disch := omega) only [up2_o, up2_s]; rfl
      have fr : ∀ (w : Int32) a b, (a ≠ 82 ∨ (b ≠ 29 ∧ b ≠ 30 ∧ b ≠ 31)) → up2 (up2 (up2 B 82 29 (Int32.ofNat (t.1 - 1))) 82 30 (Int32.ofNat (t.2 % 2 ^ (t.1 - 1)))) 82 31 w a b = B a b := fun w a b y => by rw [up2_o (by omega), up2_o (by omega), up2_o (by omega)]
      unfold tkk
      rw [if_neg z]
      by_cases k0 : k = 0
      · rw [if_pos (by rw [k0]; rfl), if_pos (Or.inl k0)]
        exact ⟨_, _, rfl, hs 0, fr _, fun t' y1 y2 => by cases y1; rfl⟩
      · rw [if_neg (fun y => k0 ((i32_e (x := 0) (b := 0) rfl (by omega) (by decide)).mp y))]
        by_cases k1 : skd t = k
        · rw [if_pos (by rw [k1]), if_pos (Or.inr k1)]
          exact ⟨_, _, rfl, hs 0, fr _, fun t' y1 y2 => by cases y1; rfl⟩
        · rw [if_neg (by rw [i32_eq (by rcases skd_12 (t := t) with y | y <;> omega) (by omega)]; exact k1), if_neg (by omega)]
          exact ⟨_, _, rfl, up2_s _ _ _ _, fr _, fun t' y1 y2 => by cases y1; rfl⟩
theorem x232_g (h : Rg e B) {k : Nat} {x : Int32} (hk : k ≤ 7) (hx : ∀ t, e = some t → x = Int32.ofNat k) : ∃ B', x232 B x = some B' ∧ Rg (e.bind (psg k)) B' ∧ ∀ a b, (a ≠ 82 ∨ (b ≠ 29 ∧ b ≠ 30 ∧ b ≠ 31)) → B' a b = B a b := by
  unfold x232
  cases e with
  | none =>
    have h : B 82 31 = 0 := h
    by_cases z : x = 2
    · rw [if_pos z, Option.bind_some, up2_o (by omega), h, if_pos rfl]
      exact ⟨_, rfl, up2_s _ _ _ _, fun a b y => by rw [up2_o (by omega), up2_o (by omega), up2_o (by omega)]⟩
    · rw [if_neg z, Option.bind_some, h, if_pos rfl]
      exact ⟨_, rfl, up2_s _ _ _ _, fun a b y => by rw [up2_o (by omega), up2_o (by omega)]⟩
  | some t =>
    obtain ⟨h1, h2, h3, h4, h5⟩ := h
    have b3 := p20 h1.1
    obtain rfl := hx t rfl
    rw [Option.bind_some]
    have e1 : (if Int32.ofNat k = 2 then some (up2 B 82 30 (B 82 30 ||| 1 <<< (B 82 29 &&& 31))) else some B) = some (if k = 2 then up2 B 82 30 (Int32.ofNat (t.2 ||| 2 ^ t.1)) else B) := by
      by_cases z : k = 2
      · rw [if_pos (by rw [z]; rfl), if_pos z, h3, h4, i32_sh1 _ (by omega), i32_or]
      · rw [if_neg (fun y => z ((i32_e (x := 2) (b := 2) rfl (by omega) (by decide)).mp y)), if_neg z]
    rw [e1, Option.bind_some]
    generalize hB1 : (if k = 2 then up2 B 82 30 (Int32.ofNat (t.2 ||| 2 ^ t.1)) else B) = B1
    have f1 : ∀ a b, (a ≠ 82 ∨ b ≠ 30) → B1 a b = B a b := fun a b y => by
      rw [← hB1]
      split
      · exact up2_o y
      · rfl
    have f30 : B1 82 30 = Int32.ofNat (sps k t).2 := by
      rw [← hB1]
      unfold sps
      dsimp only
      split
      · rw [up2_s]
      · exact h4
    rw [f1 82 31 (by omega), h5, if_neg (by decide), f1 82 29 (by omega), h3, i32_s]
    unfold psg
    by_cases z : t.1 < 16
    · rw [if_neg (by rw [i32_l4 (x := 16) (b := 16) rfl (by omega) (by decide)]; omega), if_pos z]
      refine ⟨_, rfl, ⟨sps_ok h1 (by omega), by show t.1 + 1 ≤ 16; omega, ?_, ?_, up2_s _ _ _ _⟩, fun a b y => by rw [up2_o (by omega), up2_o (by omega), f1 a b (by omega)]⟩
      · rw [up2_o (by omega), up2_s]; rfl
      · rw [up2_o (by omega), up2_o (by omega)]; exact f30
    · rw [if_pos ((i32_l4 (x := 16) (b := 16) rfl (by omega) (by decide)).mpr (by omega)), if_neg z]
      exact ⟨_, rfl, up2_s _ _ _ _, fun a b y => by rw [up2_o (by omega), up2_o (by omega), f1 a b (by omega)]⟩
theorem rtk_g : ∀ (ks : List Nat) (e : Option (Nat × Nat)) (B : St), (∀ k, k ∈ ks → k ≤ 2) → Rg e B → ∃ B', rtk ks B = some B' ∧ Rg (e.bind (tkz ks)) B' ∧ ∀ a b, (a ≠ 82 ∨ (b ≠ 29 ∧ b ≠ 30 ∧ b ≠ 31)) → B' a b = B a b := by
  intro ks
  induction ks with
  | nil =>
    intro e B _ h
    refine ⟨B, rfl, ?_, fun _ _ _ => rfl⟩
    cases e <;> exact h
  | cons k ks ih =>
    intro e B hk h
    obtain ⟨v, B1, a1, a2, a3, -⟩ := x231_g h (hk k List.mem_cons_self)
    obtain ⟨B2, b1, b2, b3⟩ := ih _ B1 (fun x hx => hk x (List.mem_cons_of_mem _ hx)) a2
    refine ⟨B2, by rw [rtk, a1, Option.bind_some]; exact b1, ?_, fun a b y => (b3 a b y).trans (a3 a b y)⟩
    cases e with
    | none => exact b2
    | some t => exact b2
theorem rpo_g (h : Rg e B) {k : Nat} (hk : k ≤ 2) : ∃ B', rpo k B = some B' ∧ Rg (e.bind (pso k)) B' ∧ ∀ a b, (a ≠ 82 ∨ (b ≠ 29 ∧ b ≠ 30 ∧ b ≠ 31)) → B' a b = B a b := by
  unfold rpo
  by_cases z : k = 0
  · rw [if_pos z]
    refine ⟨B, rfl, ?_, fun _ _ _ => rfl⟩
    unfold pso
    cases e with
    | none => exact h
    | some t => rw [Option.bind_some, if_pos z]; exact h
  · rw [if_neg z]
    obtain ⟨B', a1, a2, a3⟩ := x232_g (k := k) h (by omega) (fun _ _ => rfl)
    refine ⟨B', a1, ?_, a3⟩
    unfold pso
    cases e with
    | none => exact a2
    | some t => rw [Option.bind_some, if_neg z]; exact a2
/-- what the reference's effect() looks at -/
def OpR (Z m o fk rt rs c rf x : Nat) (B : St) : Prop := ((o = 38 ∨ o = 39) → ∃ r, r < 96 ∧ B (Z + 27) x = Int32.ofNat r ∧ B (Z + 11) r = Int32.ofNat fk) ∧ ((o = 40 ∨ o = 41) → ∃ r, r < 16 ∧ B (Z + 27) x = Int32.ofNat r ∧ B (Z + 14) r = Int32.ofNat fk) ∧ ((o = 49 ∨ o = 50) → ∃ r, r < 24 ∧ B (Z + 27) x = Int32.ofNat r ∧ B (Z + 18) r = Int32.ofNat c ∧ B (Z + 19) r = Int32.ofNat rf ∧ B (Z + 20) r = Int32.ofNat rs) ∧ c ≤ 6 ∧ rf < 64 ∧ rs ≤ 2 ∧ (fk = 1 ∨ fk = 2) ∧ rt ≤ 2 ∧ B 82 32 = Int32.ofNat m ∧ m < 24 ∧ B (Z + 20) m = Int32.ofNat rt ∧ x < 1333
set_option maxHeartbeats 4000000 in
theorem x233_p {o x : Nat} (hx : x < 1333) (ho : o < 59) (hno : ¬ (o = 2 ∨ o = 3 ∨ o = 4 ∨ o = 5 ∨ o = 7 ∨ o = 38 ∨ o = 39 ∨ o = 40 ∨ o = 41 ∨ o = 49 ∨ o = 50 ∨ o = 51)) : x233 Z B (Int32.ofNat x) (Int32.ofNat o) = (rtk (tkl o) B).bind (rpo (gvk o)) := by
  have hin : inb (Int32.ofNat x) 2400 := (i32_inb (by omega)).mpr (by omega)
  have e234 : ∀ (K : St) (y : Int32), x234 Z K (Int32.ofNat x) y = x234 Z K (Int32.ofNat x) y := fun _ _ => rfl
  have hc : o = 0 ∨ o = 1 ∨ o = 6 ∨ o = 8 ∨ o = 9 ∨ o = 10 ∨ o = 11 ∨ o = 12 ∨ o = 13 ∨ o = 14 ∨ o = 15 ∨ o = 16 ∨ o = 17 ∨ o = 18 ∨ o = 19 ∨ o = 20 ∨ o = 21 ∨ o = 22 ∨ o = 23 ∨ o = 24 ∨ o = 25 ∨ o = 26 ∨ o = 27 ∨ o = 28 ∨ o = 29 ∨ o = 30 ∨ o = 31 ∨ o = 32 ∨ o = 33 ∨ o = 34 ∨ o = 35 ∨ o = 36 ∨ o = 37 ∨ o = 42 ∨ o = 43 ∨ o = 44 ∨ o = 45 ∨ o = 46 ∨ o = 47 ∨ o = 48 ∨ o = 52 ∨ o = 53 ∨ o = 54 ∨ o = 55 ∨ o = 56 ∨ o = 57 ∨ o = 58 := by omega
  unfold x233
  rcases hc with rfl | rfl | rfl | rfl | rfl | rfl | rfl | rfl | rfl | rfl | rfl | rfl | rfl | rfl | rfl | rfl | rfl | rfl | rfl | rfl | rfl | rfl | rfl | rfl | rfl | rfl | rfl | rfl | rfl | rfl | rfl | rfl | rfl | rfl | rfl | rfl | rfl | rfl | rfl | rfl | rfl | rfl | rfl | rfl | rfl | rfl | rfl
  all_goals
    simp (decide := true) only [if_true, if_false, x234, x235, x236, if_pos hin, Option.bind_assoc, Option.bind_some, Option.bind_fun_some]
    simp (decide := true) only [tkl, gvk, rtk, rpo, List.getD_cons_succ, List.getD_cons_zero, if_true, if_false, Option.bind_assoc, Option.bind_some, Option.bind_fun_some]
    try rfl
end
