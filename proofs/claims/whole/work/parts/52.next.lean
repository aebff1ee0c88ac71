/-! THE REFERENCE'S next(): the token at the place -/
theorem up2_up2 {I : St} {k j : Nat} {x y : Int32} : up2 (up2 I k j x) k j y = up2 I k j y := by
  funext a b
  unfold up2
  split
  · split
    · rfl
    · rfl
  · rfl
theorem up2_id {I : St} {k j : Nat} {x : Int32} (h : I k j = x) : up2 I k j x = I := by
  funext a b
  unfold up2
  split
  · rename_i e
    subst e
    split
    · rename_i e
      subst e
      exact h.symm
    · rfl
  · rfl
def lkv (c : Nat) : Int32 := if c = 256 then -1 else Int32.ofNat c
/-- the reference's tape -/
def TB (T : Tp) (I : St) : Prop := I 82 1 = Int32.ofNat T.1 ∧ T.1 ≤ 1280 ∧ ∀ i, i < T.1 → I 83 i = i2b (Int32.ofNat (T.2 i)) ∧ T.2 i < 256
theorem TB.up {T : Tp} {I : St} {j : Nat} {v : Int32} (h : TB T I) (hj : j ≠ 1) : TB T (up2 I 82 j v) := by
  refine ⟨?_, h.2.1, ?_⟩
  · rw [up2_j _ _ _ _ _ (Ne.symm hj)]; exact h.1
  · intro i hi
    rw [up2_k _ _ _ _ _ _ (by decide)]
    exact h.2.2 i hi
theorem TB.le {T : Tp} {I : St} (h : TB T I) (k : Nat) : cA T k ≤ 256 := by
  unfold cA
  split
  · rename_i z
    have := (h.2.2 k z).2
    omega
  · exact Nat.le_refl _
theorem i2b_and : ∀ c, c < 256 → i2b (Int32.ofNat c) &&& 255 = Int32.ofNat c := by decide +kernel
theorem x193_n {T : Tp} {I : St} (h : TB T I) {k : Nat} (hk : k < 4000) : x193 I (Int32.ofNat k) = some (lkv (cA T k)) := by
  obtain ⟨h1, h2, h3⟩ := h
  unfold x193
  rw [h1]
  by_cases z : T.1 ≤ k
  · rw [if_pos ((i32_le (by omega) (by omega)).mpr z), cA_end z]
    rfl
  · rw [if_neg (fun y => z ((i32_le (by omega) (by omega)).mp y)), if_pos ((i32_inb (by omega)).mpr hk), i32_cl (by omega)]
    obtain ⟨h4, h5⟩ := h3 k (by omega)
    rw [h4, i2b_and _ h5]
    rw [show cA T k = T.2 k from by unfold cA; rw [if_pos (by omega)]]
    unfold lkv
    rw [if_neg (by omega)]
theorem lkv_eq {c d : Nat} (hc : c ≤ 256) (hd : d < 256) : lkv c = Int32.ofNat d ↔ c = d := by
  unfold lkv
  split
  · constructor
    · intro z; exact absurd z.symm (i32_m1 (by omega))
    · intro z; omega
  · rw [i32_eq (by omega) (by omega)]
theorem lkv_e {c d : Nat} {x : Int32} (hx : x = Int32.ofNat d) (hc : c ≤ 256) (hd : d < 256) : lkv c = x ↔ c = d := by
  rw [hx]
  exact lkv_eq hc hd
theorem i32_e {a b : Nat} {x : Int32} (hx : x = Int32.ofNat b) (ha : a < 2147483648) (hb : b < 2147483648) : Int32.ofNat a = x ↔ a = b := by
  rw [hx]
  exact i32_eq ha hb
theorem lkv_m1 {c : Nat} (hc : c ≤ 256) : lkv c = -1 ↔ c = 256 := by
  unfold lkv
  split
  · rename_i z; exact ⟨fun _ => z, fun _ => rfl⟩
  · rename_i z
    exact ⟨fun y => absurd y (i32_m1 (by omega)), fun y => absurd y z⟩
theorem xL_all : ∀ c, c < 257 → x194 (fun _ _ => 0) (lkv c) = if cL c = true then 1 else 0 := by decide +kernel
theorem xL {I : St} {c : Nat} (hc : c ≤ 256) : x194 I (lkv c) = if cL c = true then 1 else 0 := xL_all c (by omega)
theorem xD_all : ∀ c, c < 257 → x195 (fun _ _ => 0) (lkv c) = if cD c = true then 1 else 0 := by decide +kernel
theorem xD {I : St} {c : Nat} (hc : c ≤ 256) : x195 I (lkv c) = if cD c = true then 1 else 0 := xD_all c (by omega)
theorem cE_no : ∀ c, c < 257 → (cE c = false ↔ c = 10 ∨ c = 256) := by decide +kernel
theorem l192_21_n {T : Tp} {b1 : Int32} : ∀ n I a, TB T I → I 82 11 = Int32.ofNat a → a ≤ T.1 → T.1 < a + n → l192_21 b1 n I = some (up2 I 82 11 (Int32.ofNat (Wh T cE a))) := by
  intro n
  induction n with
  | zero => intro I a h ha hl hn; omega
  | succ n ih =>
    intro I a h ha hl hn
    have hc := h.le a
    have h2 := h.2.1
    rw [l192_21, h.1, ha]
    by_cases z : T.1 ≤ a
    · rw [if_pos ((i32_le (by omega) (by omega)).mpr z), Wh_no (by rfl) (by rw [cA_end z]; rfl), up2_id ha]
    · rw [if_neg (fun y => z ((i32_le (by omega) (by omega)).mp y)), x193_n h (by omega), Option.bind_some]
      by_cases y : cA T a = 10
      · rw [if_pos ((lkv_e (x := 10) rfl hc (by decide)).mpr y), Wh_no (by rfl) (by rw [y]; rfl), up2_id ha]
      · rw [if_neg (fun x => y ((lkv_e (x := 10) (d := 10) rfl hc (by decide)).mp x)), i32_s, ih _ (a + 1) (h.up (by decide)) (up2_s _ _ _ _) (by omega) (by omega), up2_up2]
        rw [Wh_yes (i := a) (by rfl)]
        cases e : cE (cA T a) with
        | true => rfl
        | false =>
          rcases (cE_no _ (by omega)).mp e with x | x
          · exact absurd x y
          · exfalso
            unfold cA at x
            rw [if_pos (by omega)] at x
            have := (h.2.2 a (by omega)).2
            omega
theorem cB_lk : ∀ c, c < 257 → (cB c = true ↔ c = 9 ∨ c = 10 ∨ c = 13 ∨ c = 32) := by decide +kernel
theorem l192_2_n {T : Tp} : ∀ n I a, TB T I → I 82 11 = Int32.ofNat a → a ≤ T.1 → T.1 + 1 < a + n → l192_2 n 1 I = some (up2 I 82 11 (Int32.ofNat (sk T a))) := by
  intro n
  induction n with
  | zero => intro I a h ha hl hn; omega
  | succ n ih =>
    intro I a h ha hl hn
    have hc := h.le a
    have h2 := h.2.1
    rw [l192_2, if_neg (by decide), ha, x193_n h (by omega), Option.bind_some, sk_eq]
    by_cases z : cA T a = 35
    · rw [if_pos ((lkv_e (x := 35) rfl hc (by decide)).mpr z), l192_21_n _ _ a h ha hl (by omega), Option.bind_some]
      have w1 := Wh35 z
      have w2 : Wh T cE a ≤ T.1 := Wh_le (by rfl) hl
      rw [ih _ (Wh T cE a) (h.up (by decide)) (up2_s _ _ _ _) w2 (by omega), up2_up2]
      rw [z]
      rfl
    · rw [if_neg (fun x => z ((lkv_e (x := 35) (d := 35) rfl hc (by decide)).mp x)), if_neg z]
      by_cases y : cB (cA T a) = true
      · have e : (if lkv (cA T a) = 32 then some (1 : Int32) else if lkv (cA T a) = 9 then some 1 else if lkv (cA T a) = 10 then some 1 else if lkv (cA T a) = 13 then some 1 else some 0) = some 1 := by
          rcases (cB_lk _ (by omega)).mp y with x | x | x | x <;> rw [x] <;> rfl
        rw [e, Option.bind_some, if_neg (by decide), if_pos y, i32_s]
        have hl2 : a + 1 ≤ T.1 := by
          rcases Nat.lt_or_ge a T.1 with x | x
          · exact x
          · rw [cA_end x] at y; cases y
        rw [ih _ (a + 1) (h.up (by decide)) (up2_s _ _ _ _) hl2 (by omega), up2_up2]
      · have e : (if lkv (cA T a) = 32 then some (1 : Int32) else if lkv (cA T a) = 9 then some 1 else if lkv (cA T a) = 10 then some 1 else if lkv (cA T a) = 13 then some 1 else some 0) = some 0 := by
          have q : ∀ (d : Nat) (x : Int32), x = Int32.ofNat d → d = 9 ∨ d = 10 ∨ d = 13 ∨ d = 32 → ¬ lkv (cA T a) = x := by
            intro d x hx hd z
            apply y
            rw [cB_lk _ (by omega), (lkv_e hx hc (by omega)).mp z]
            exact hd
          rw [if_neg (q 32 32 rfl (by decide)), if_neg (q 9 9 rfl (by decide)), if_neg (q 10 10 rfl (by decide)), if_neg (q 13 13 rfl (by decide))]
        rw [e, Option.bind_some, if_pos rfl, if_neg y]
        cases n with
        | zero => omega
        | succ n => rw [l192_2, if_pos rfl, up2_id ha]
