/-! next(): names and numbers -/
def tl (p a : Nat) : Int32 := if a ≤ p + 12 then -1 else Int32.ofNat (p + 12)
theorem nx_s {I : St} {A B C D : Int32} : up2 (up2 (up2 (up2 I 82 16 A) 82 11 B) 82 16 C) 82 11 D = up2 (up2 I 82 16 C) 82 11 D := by
  funext a b
  unfold up2
  by_cases h : a = 82 <;> by_cases h1 : b = 11 <;> by_cases h2 : b = 16 <;> simp [h, h1, h2]
theorem nx_s2 {I : St} {B C D : Int32} : up2 (up2 (up2 I 82 11 B) 82 16 C) 82 11 D = up2 (up2 I 82 16 C) 82 11 D := by
  funext a b
  unfold up2
  by_cases h : a = 82 <;> by_cases h1 : b = 11 <;> by_cases h2 : b = 16 <;> simp [h, h1, h2]
theorem l192_147_n {T : Tp} {p : Nat} : ∀ n I a, TB T I → I 82 11 = Int32.ofNat a → I 82 13 = Int32.ofNat p → I 82 16 = tl p a → p ≤ a → a ≤ T.1 → T.1 < a + n → l192_147 n I = some (up2 (up2 I 82 16 (tl p (Wh T cN a))) 82 11 (Int32.ofNat (Wh T cN a))) := by
  intro n
  induction n with
  | zero => intro I a h ha hp ht hpa hl hn; omega
  | succ n ih =>
    intro I a h ha hp ht hpa hl hn
    have hc := h.le a
    have h2 := h.2.1
    have step : cN (cA T a) = true → (if ((I 82 11) - (I 82 13)) = 12 then if (I 82 16) = (-1) then l192_147 n (up2 (up2 I 82 16 (I 82 11)) 82 11 ((I 82 11) + 1)) else l192_147 n (up2 I 82 11 ((I 82 11) + 1)) else l192_147 n (up2 I 82 11 ((I 82 11) + 1))) = some (up2 (up2 I 82 16 (tl p (Wh T cN a))) 82 11 (Int32.ofNat (Wh T cN a))) := by
      intro hN
      have hl2 : a + 1 ≤ T.1 := by
        rcases Nat.lt_or_ge a T.1 with x | x
        · exact x
        · rw [cA_end x] at hN; cases hN
      rw [Wh_yes (by rfl) hN, ha, hp, i32_sb hpa, i32_s]
      by_cases z : a - p = 12
      · rw [if_pos ((i32_e (x := 12) (b := 12) rfl (by omega) (by decide)).mpr z), if_pos (by rw [ht]; unfold tl; rw [if_pos (by omega)])]
        rw [ih _ (a + 1) ((h.up (by decide)).up (by decide)) (up2_s _ _ _ _) (by rw [up2_j _ _ _ _ _ (by decide), up2_j _ _ _ _ _ (by decide)]; exact hp) (by rw [up2_j _ _ _ _ _ (by decide), up2_s]; unfold tl; rw [if_neg (by omega)]; congr 1; omega) (by omega) hl2 (by omega), nx_s]
      · rw [if_neg (fun x => z ((i32_e (x := 12) (b := 12) rfl (by omega) (by decide)).mp x))]
        rw [ih _ (a + 1) (h.up (by decide)) (up2_s _ _ _ _) (by rw [up2_j _ _ _ _ _ (by decide)]; exact hp) (by rw [up2_j _ _ _ _ _ (by decide), ht]; unfold tl; by_cases y : a ≤ p + 12; (rw [if_pos y, if_pos (by omega)]); (rw [if_neg y, if_neg (by omega)])) (by omega) hl2 (by omega), nx_s2]
    rw [l192_147]
    have hx : x193 I (I 82 11) = some (lkv (cA T a)) := by rw [ha]; exact x193_n h (by omega)
    rw [hx, Option.bind_some, xL hc]
    by_cases y : cL (cA T a) = true
    · rw [if_pos y, if_neg (by decide)]
      exact step (by unfold cN; rw [y]; rfl)
    · rw [if_neg y, if_pos rfl, Option.bind_some, xD hc]
      by_cases y2 : cD (cA T a) = true
      · rw [if_pos y2, if_neg (by decide)]
        exact step (by unfold cN; rw [y2]; simp)
      · rw [if_neg y2, if_pos rfl, Wh_no (by rfl) (by unfold cN; simp [y, y2]), ← ht, up2_id rfl, up2_id ha]
theorem sg_s {T : Tp} {p a : Nat} (h : p ≤ a) : sg T p (a + 1) = sg T p a ++ [T.2 a] := by
  unfold sg
  have e : a + 1 - p = (a - p) + 1 := by omega
  rw [e, List.range_succ, List.map_append]
  congr 1
  have e2 : p + (a - p) = a := by omega
  simp [e2]
theorem nv_s {l : List Nat} {c : Nat} : nv (l ++ [c]) = 10 * nv l + (c - 48) := by
  unfold nv
  rw [List.foldl_append]
  rfl
/-- a long that holds a number's worth, or more than 2147483648 where that is more -/
def nb (v : Nat) (b : Int64) : Prop := (v ≤ 2147483648 → b.toInt = v) ∧ (2147483648 < v → 2147483648 < b.toInt ∧ b.toInt < 100000000000)
theorem cD_n : ∀ c, c < 257 → (cD c = true ↔ 48 ≤ c ∧ c ≤ 57) := by decide +kernel
theorem l64 {b : Int64} {c : Nat} (h0 : 0 ≤ b.toInt) (h1 : b.toInt ≤ 2147483648) (hc : 48 ≤ c) (hd : c ≤ 57) : ((10 : Int64) * b + (Int32.ofNat c).toInt64 - (48 : Int64)).toInt = 10 * b.toInt + c - 48 := by
  have e1 : (Int32.ofNat c).toInt64.toInt = c := by
    rw [Int32.toInt_toInt64, i32_of (by omega)]
  have e2 : (10 : Int64).toInt = 10 := by decide
  have e3 : (48 : Int64).toInt = 48 := by decide
  rw [Int64.toInt_sub, Int64.toInt_add, Int64.toInt_mul, e1, e2, e3]
  have b1 : (10 * b.toInt).bmod (2 ^ 64) = 10 * b.toInt := by rw [Int.bmod_def]; omega
  rw [b1]
  have b2 : (10 * b.toInt + (c : Int)).bmod (2 ^ 64) = 10 * b.toInt + c := by rw [Int.bmod_def]; omega
  rw [b2, Int.bmod_def]
  omega
theorem lg_le {b : Int64} : lg_cmp b (2147483648 : Int64) ≤ 0 ↔ b.toInt ≤ 2147483648 := by
  have e : (2147483648 : Int64).toInt = 2147483648 := by decide
  unfold lg_cmp
  by_cases h : b > 2147483648
  · rw [if_pos h]
    have h1 : (2147483648 : Int64) < b := h
    rw [Int64.lt_iff_toInt_lt, e] at h1
    exact ⟨fun z => absurd z (by decide), fun z => by omega⟩
  · rw [if_neg h]
    have h1 : ¬ (2147483648 : Int64) < b := h
    rw [Int64.lt_iff_toInt_lt, e] at h1
    refine ⟨fun _ => by omega, fun _ => ?_⟩
    split <;> decide
theorem lg_0 {b : Int64} : lg_cmp b (2147483648 : Int64) = 0 ↔ b.toInt = 2147483648 := by
  have e : (2147483648 : Int64).toInt = 2147483648 := by decide
  unfold lg_cmp
  by_cases h : b > 2147483648
  · rw [if_pos h]
    have h1 : (2147483648 : Int64) < b := h
    rw [Int64.lt_iff_toInt_lt, e] at h1
    exact ⟨fun z => absurd z (by decide), fun z => by omega⟩
  · rw [if_neg h]
    by_cases h2 : b = 2147483648
    · rw [if_pos h2]
      exact ⟨fun _ => by rw [h2, e], fun _ => rfl⟩
    · rw [if_neg h2]
      exact ⟨fun z => absurd z (by decide), fun z => absurd (Int64.toInt_inj.mp (z.trans e.symm)) h2⟩
theorem l192_267_n {T : Tp} {p : Nat} (hz : cA T p ≠ 48) : ∀ n I a (b : Int64), TB T I → I 82 11 = Int32.ofNat a → I 82 13 = Int32.ofNat p → nb (nv (sg T p a)) b → p ≤ a → a ≤ T.1 → T.1 < a + n → ∃ b', l192_267 n b I = some (b', up2 I 82 11 (Int32.ofNat (Wh T cD a))) ∧ nb (nv (sg T p (Wh T cD a))) b' := by
  intro n
  induction n with
  | zero => intro I a b h ha hp ht hpa hl hn; omega
  | succ n ih =>
    intro I a b h ha hp ht hpa hl hn
    have hc := h.le a
    have hcp := h.le p
    have h2 := h.2.1
    have hx : x193 I (I 82 11) = some (lkv (cA T a)) := by rw [ha]; exact x193_n h (by omega)
    have hy : x193 I (I 82 13) = some (lkv (cA T p)) := by rw [hp]; exact x193_n h (by omega)
    rw [l192_267, hx, Option.bind_some, xD hc]
    by_cases y : cD (cA T a) = true
    · rw [if_pos y, if_neg (by decide)]
      have hl2 : a + 1 ≤ T.1 := by
        rcases Nat.lt_or_ge a T.1 with x | x
        · exact x
        · rw [cA_end x] at y; cases y
      have ec : cA T a = T.2 a := by unfold cA; rw [if_pos (by omega)]
      obtain ⟨d1, d2⟩ := (cD_n _ (by omega)).mp y
      have es : nv (sg T p (a + 1)) = 10 * nv (sg T p a) + (cA T a - 48) := by rw [sg_s hpa, nv_s, ec]
      have el : lkv (cA T a) = Int32.ofNat (cA T a) := by unfold lkv; rw [if_neg (by omega)]
      have step : ∃ b', (if (lg_cmp b (2147483648 : Int64)) ≤ 0 then (some (lkv (cA T a))).bind fun q24 => l192_267 n ((((10 : Int64) * b) + (Int32.toInt64 q24)) - (48 : Int64)) (up2 I 82 11 ((I 82 11) + 1)) else l192_267 n b (up2 I 82 11 ((I 82 11) + 1))) = some (b', up2 I 82 11 (Int32.ofNat (Wh T cD a))) ∧ nb (nv (sg T p (Wh T cD a))) b' := by
        rw [Wh_yes (by rfl) y]
        by_cases q : b.toInt ≤ 2147483648
        · rw [if_pos (lg_le.mpr q), Option.bind_some, ha, i32_s, el]
          have hv : nv (sg T p a) ≤ 2147483648 := by
            rcases Nat.lt_or_ge 2147483648 (nv (sg T p a)) with x | x
            · have := (ht.2 x).1; omega
            · exact x
          have hbv := ht.1 hv
          have e3 := l64 (b := b) (c := cA T a) (by omega) q d1 d2
          obtain ⟨b', r1, r2⟩ := ih (up2 I 82 11 (Int32.ofNat (a + 1))) (a + 1) ((10 : Int64) * b + (Int32.ofNat (cA T a)).toInt64 - (48 : Int64)) (h.up (by decide)) (up2_s _ _ _ _) (by rw [up2_j _ _ _ _ _ (by decide)]; exact hp) (by rw [es]; unfold nb; rw [e3]; omega) (by omega) hl2 (by omega)
          refine ⟨b', ?_, r2⟩
          rw [r1, up2_up2]
        · rw [if_neg (fun x => q (lg_le.mp x)), ha, i32_s]
          have hv : 2147483648 < nv (sg T p a) := by
            rcases Nat.lt_or_ge 2147483648 (nv (sg T p a)) with x | x
            · exact x
            · have := ht.1 x; omega
          have hbv := ht.2 hv
          obtain ⟨b', r1, r2⟩ := ih (up2 I 82 11 (Int32.ofNat (a + 1))) (a + 1) b (h.up (by decide)) (up2_s _ _ _ _) (by rw [up2_j _ _ _ _ _ (by decide)]; exact hp) (by rw [es]; unfold nb; omega) (by omega) hl2 (by omega)
          refine ⟨b', ?_, r2⟩
          rw [r1, up2_up2]
      by_cases z : a = p
      · rw [if_pos (by rw [ha, hp, z])]
        exact step
      · rw [if_neg (by rw [ha, hp, i32_eq (by omega) (by omega)]; exact z), hy, Option.bind_some, if_neg (fun x => hz ((lkv_e (x := 48) (d := 48) rfl hcp (by decide)).mp x))]
        exact step
    · rw [if_neg y, if_pos rfl, Wh_no (by rfl) (by simpa using y)]
      exact ⟨b, by rw [up2_id ha], ht⟩
