/-! THE CLASS'S LEXER: pieces -/
def TC (T : Tp) (I : St) : Prop := I 1 3 = Int32.ofNat T.1 ∧ T.1 ≤ 1280 ∧ ∀ i, i < T.1 → tget I 1 (Int32.ofNat i) 0 = Int32.ofNat (T.2 i) ∧ T.2 i < 256
theorem TC.fr {T : Tp} {I J : St} {L : List (Nat × Option Nat)} (h : TC T I) (hf : Frm L I J) (h1 : mdb L 1 3 = false) (h2 : (L.all fun e => !Nat.beq e.1 2) = true) : TC T J := by
  refine ⟨by rw [hf _ _ h1]; exact h.1, h.2.1, fun i hi => ?_⟩
  have s : sf 1 2 = 2 := by decide
  rw [tget_fr hf (by rw [s]; exact no_cell h2)]
  exact h.2.2 i hi
theorem xB1 : ∀ c, c < 256 → x40 (fun _ _ => 0) (Int32.ofNat c) = if cB c = true then 1 else 0 := by decide +kernel
theorem xL1 : ∀ c, c < 256 → x42 (fun _ _ => 0) (Int32.ofNat c) = if cL c = true then 1 else 0 := by decide +kernel
theorem xD1 : ∀ c, c < 256 → x44 (fun _ _ => 0) (Int32.ofNat c) = if cD c = true then 1 else 0 := by decide +kernel
theorem xS1 : ∀ c, c < 256 → x47 (fun _ _ => 0) (Int32.ofNat c) = if cS c = true then 1 else 0 := by decide +kernel
section
variable {T : Tp} {I : St}
theorem TC.at (h : TC T I) {a : Nat} (ha : a < T.1) : x39 I (Int32.ofNat a) = Int32.ofNat (cA T a) ∧ cA T a < 256 := by
  obtain ⟨h1, h2⟩ := h.2.2 a ha
  have e : cA T a = T.2 a := by unfold cA; rw [if_pos ha]
  rw [e]
  exact ⟨h1, h2⟩
theorem TC.b (h : TC T I) {a : Nat} (ha : a < T.1) : x40 I (x39 I (Int32.ofNat a)) = if cB (cA T a) = true then 1 else 0 := by
  obtain ⟨h1, h2⟩ := h.at ha
  rw [h1]; exact xB1 _ h2
theorem TC.l (h : TC T I) {a : Nat} (ha : a < T.1) : x42 I (x39 I (Int32.ofNat a)) = if cL (cA T a) = true then 1 else 0 := by
  obtain ⟨h1, h2⟩ := h.at ha
  rw [h1]; exact xL1 _ h2
theorem TC.d (h : TC T I) {a : Nat} (ha : a < T.1) : x44 I (x39 I (Int32.ofNat a)) = if cD (cA T a) = true then 1 else 0 := by
  obtain ⟨h1, h2⟩ := h.at ha
  rw [h1]; exact xD1 _ h2
theorem TC.s (h : TC T I) {a : Nat} (ha : a < T.1) : x47 I (x39 I (Int32.ofNat a)) = if cS (cA T a) = true then 1 else 0 := by
  obtain ⟨h1, h2⟩ := h.at ha
  rw [h1]; exact xS1 _ h2
theorem l41_n (h : TC T I) : ∀ n a, a ≤ T.1 → T.1 < a + n → l41_2 (Int32.ofNat T.1) n (Int32.ofNat a) I = some (Int32.ofNat (Wh T cE a)) := by
  have h2 := h.2.1
  intro n
  induction n with
  | zero => intro a g1 g2; omega
  | succ n ih =>
    intro a g1 g2
    rw [l41_2]
    rcases Nat.lt_or_ge a T.1 with z | z
    · obtain ⟨q1, q2⟩ := h.at z
      rw [if_neg (by rw [i32_le (by omega) (by omega)]; omega), q1, i32_s]
      by_cases y : cA T a = 10
      · rw [if_pos (by rw [y]; rfl), Wh_no (by rfl) (by rw [y]; rfl)]
      · rw [if_neg (fun w => y ((i32_e (x := 10) (b := 10) rfl (by omega) (by decide)).mp w)), ih (a + 1) (by omega) (by omega), ← Wh_yes (by rfl)]
        cases e : cE (cA T a) with
        | true => rfl
        | false =>
          rcases (cE_no _ (by omega)).mp e with x | x
          · exact absurd x y
          · omega
    · rw [if_pos (by rw [i32_le (by omega) (by omega)]; omega), Wh_no (by rfl) (by rw [cA_end z]; rfl)]
theorem x41_n (h : TC T I) {a : Nat} (ha : a ≤ T.1) : x41 I (Int32.ofNat a) (Int32.ofNat T.1) = some (Int32.ofNat (Wh T cE a)) := by
  have h2 := h.2.1
  unfold x41
  rw [l41_n h 100000 a ha (by omega), Option.bind_some]
theorem l43_n {L : List (List Nat)} {u p : Nat} (hu : u + 1280 < 4405) : ∀ n a I, TC T I → NmP L u (sg T p a) I → p ≤ a → a ≤ T.1 → T.1 < a + n → ∃ J, l43_9 (Int32.ofNat p) (Int32.ofNat T.1) n (Int32.ofNat a) I = some (Int32.ofNat (Wh T cN a), J) ∧ NmP L u (sg T p (Wh T cN a)) J := by
  intro n
  induction n with
  | zero => intro a I g1 g2 g3 g4 g5; omega
  | succ n ih =>
    intro a I g1 g2 g3 g4 g5
    have h2 := g1.2.1
    rw [l43_9]
    rcases Nat.lt_or_ge a T.1 with z | z
    · obtain ⟨q1, q2⟩ := g1.at z
      have step : cN (cA T a) = true → ∃ J, (x38 I (x39 I (Int32.ofNat a))).bind (fun q2 => l43_9 (Int32.ofNat p) (Int32.ofNat T.1) n (Int32.ofNat a + 1) q2) = some (Int32.ofNat (Wh T cN a), J) ∧ NmP L u (sg T p (Wh T cN a)) J := by
        intro hN
        have hl : (sg T p a).length = a - p := sg_len
        obtain ⟨K, w1, w2⟩ := x38_n g2 q2 (by omega)
        have hf := x38_fr (a1 := Int32.ofNat (cA T a)) I I Frm.refl K w1
        rw [q1, w1, Option.bind_some, i32_s, Wh_yes (by rfl) hN]
        have e : sg T p a ++ [cA T a] = sg T p (a + 1) := by
          rw [sg_s g3]
          unfold cA
          rw [if_pos z]
        rw [e] at w2
        exact ih (a + 1) K (g1.fr hf rfl rfl) w2 (by omega) (by omega) (by omega)
      rw [if_neg (by rw [i32_le (by omega) (by omega)]; omega), g1.l z]
      by_cases y : cL (cA T a) = true
      · rw [if_pos y, if_neg (by decide)]
        exact step (by unfold cN; rw [y]; rfl)
      · rw [if_neg y, if_pos rfl, g1.d z]
        by_cases y2 : cD (cA T a) = true
        · rw [if_pos y2, if_neg (by decide)]
          exact step (by unfold cN; rw [y2]; simp)
        · rw [if_neg y2, if_pos rfl, Wh_no (by rfl) (by unfold cN; simp [y, y2])]
          exact ⟨I, rfl, g2⟩
    · rw [if_pos (by rw [i32_le (by omega) (by omega)]; omega), Wh_no (by rfl) (by rw [cA_end z]; rfl)]
      exact ⟨I, rfl, g2⟩
theorem sf34 : sf 34 0 = 4001 ∧ sf 34 1 = 3 ∧ sf 34 2 = 35 := by decide
theorem tok34 {i : Nat} {b : Int32} (hi : i < 4001) (h0 : ¬ b < 0) (h1 : ¬ 3 ≤ b) : tok 34 (Int32.ofNat i) b := by
  obtain ⟨s1, s2, s3⟩ := sf34
  unfold tok
  rw [s1, s2]
  rintro (h | h | h | h)
  · exact i32_nn (by omega) h
  · rw [i32_le (by omega) (by omega)] at h; omega
  · exact h0 h
  · exact h1 h
/-- a token more -/
theorem x45_n {r : Nat} (h : I 34 3 = Int32.ofNat r) (hr : r < 4001) (k q c : Int32) : ∃ J, x45 I k q c = some J ∧ J 34 3 = Int32.ofNat (r + 1) ∧ tget J 34 (Int32.ofNat r) 0 = k ∧ tget J 34 (Int32.ofNat r) 1 = q ∧ tget J 34 (Int32.ofNat r) 2 = c ∧ (∀ i d, i < r → tget J 34 (Int32.ofNat i) d = tget I 34 (Int32.ofNat i) d) ∧ Frm [(35, none), (34, some 3)] I J := by
  obtain ⟨s1, s2, s3⟩ := sf34
  obtain ⟨t1, t2⟩ := tadd_n h (by rw [s1]; exact hr) (by omega)
  have hx : x45 I k q c = some (tset (tset (tset (tadd I 34) 34 (tadr I 34) 0 k) 34 (tadr I 34) 1 q) 34 (tadr I 34) 2 c) := rfl
  refine ⟨_, hx, ?_, ?_, ?_, ?_, ?_, x45_fr I I Frm.refl _ hx⟩
  · rw [tset_fld (by rw [s3]; decide), tset_fld (by rw [s3]; decide), tset_fld (by rw [s3]; decide), t1, up2_s]
  · rw [t2, tget_ne (by decide) (by decide) (Or.inr (by decide)), tget_ne (by decide) (by decide) (Or.inr (by decide)), tget_same (tok34 (b := 0) hr (by decide) (by decide))]
  · rw [t2, tget_ne (by decide) (by decide) (Or.inr (by decide)), tget_same (tok34 (b := 1) hr (by decide) (by decide))]
  · rw [t2, tget_same (tok34 (b := 2) hr (by decide) (by decide))]
  · intro i d hi
    have e : Int32.ofNat r ≠ Int32.ofNat i := by rw [Ne, i32_eq (by omega) (by omega)]; omega
    rw [t2, tget_ne (by decide) (by decide) (Or.inl e), tget_ne (by decide) (by decide) (Or.inl e), tget_ne (by decide) (by decide) (Or.inl e), t1, tget_up (by rw [s3]; decide)]
/-- the class's long of a number -/
def nm (v : Nat) (b : Int64) : Prop := (v ≤ 2147483648 → b.toInt = v) ∧ (2147483648 < v → b.toInt = 2147483649)
theorem lg_z {b : Int64} : lg_cmp b (0 : Int64) = 0 ↔ b.toInt = 0 := by
  have e : (0 : Int64).toInt = 0 := by decide
  unfold lg_cmp
  by_cases h : b > 0
  · rw [if_pos h]
    have h1 : (0 : Int64) < b := h
    rw [Int64.lt_iff_toInt_lt, e] at h1
    exact ⟨fun z => absurd z (by decide), fun z => by omega⟩
  · rw [if_neg h]
    by_cases h2 : b = 0
    · rw [if_pos h2]
      exact ⟨fun _ => by rw [h2, e], fun _ => rfl⟩
    · rw [if_neg h2]
      exact ⟨fun z => absurd z (by decide), fun z => absurd (Int64.toInt_inj.mp (z.trans e.symm)) h2⟩
theorem l64b {b : Int64} {c : Nat} (h0 : 0 ≤ b.toInt) (h1 : b.toInt ≤ 2147483649) (hc : 48 ≤ c) (hd : c ≤ 57) : (b * (10 : Int64) + (Int32.ofNat c).toInt64 - (48 : Int64)).toInt = 10 * b.toInt + c - 48 := by
  have e1 : (Int32.ofNat c).toInt64.toInt = c := by
    rw [Int32.toInt_toInt64, i32_of (by omega)]
  have e2 : (10 : Int64).toInt = 10 := by decide
  have e3 : (48 : Int64).toInt = 48 := by decide
  rw [Int64.toInt_sub, Int64.toInt_add, Int64.toInt_mul, e1, e2, e3]
  have b1 : (b.toInt * 10).bmod (2 ^ 64) = b.toInt * 10 := by rw [Int.bmod_def]; omega
  rw [b1]
  have b2 : (b.toInt * 10 + (c : Int)).bmod (2 ^ 64) = b.toInt * 10 + c := by rw [Int.bmod_def]; omega
  rw [b2, Int.bmod_def]
  omega
theorem nm_s {v c : Nat} {b : Int64} (h : nm v b) (hc : 48 ≤ c) (hd : c ≤ 57) : nm (10 * v + (c - 48)) (if (2147483649 : Int64) < (b * (10 : Int64) + (Int32.ofNat c).toInt64 - (48 : Int64)) then (2147483649 : Int64) else (b * (10 : Int64) + (Int32.ofNat c).toInt64 - (48 : Int64))) := by
  have e : (2147483649 : Int64).toInt = 2147483649 := by decide
  obtain ⟨h1, h2⟩ := h
  have hb : 0 ≤ b.toInt ∧ b.toInt ≤ 2147483649 := by
    rcases Nat.lt_or_ge 2147483648 v with z | z
    · have := h2 z; omega
    · have := h1 z; omega
  have e3 := l64b hb.1 hb.2 hc hd
  by_cases z : (2147483649 : Int64) < (b * (10 : Int64) + (Int32.ofNat c).toInt64 - (48 : Int64))
  · rw [if_pos z]
    rw [Int64.lt_iff_toInt_lt, e3, e] at z
    unfold nm
    rw [e]
    rcases Nat.lt_or_ge 2147483648 v with y | y
    · have := h2 y; omega
    · have := h1 y; omega
  · rw [if_neg z]
    rw [Int64.lt_iff_toInt_lt, e3, e] at z
    unfold nm
    rw [e3]
    rcases Nat.lt_or_ge 2147483648 v with y | y
    · have := h2 y; omega
    · have := h1 y; omega
theorem l46_n (h : TC T I) {p : Nat} (hz : cA T p ≠ 48) : ∀ n a (b : Int64), nm (nv (sg T p a)) b → (p < a → 0 < nv (sg T p a)) → p ≤ a → a ≤ T.1 → T.1 < a + n → ∃ b', l46_5 (Int32.ofNat p) (Int32.ofNat T.1) n (Int32.ofNat a) b I = some (Int32.ofNat (Wh T cD a), b') ∧ nm (nv (sg T p (Wh T cD a))) b' := by
  have h2 := h.2.1
  intro n
  induction n with
  | zero => intro a b g1 g2 g3 g4 g5; omega
  | succ n ih =>
    intro a b g1 g2 g3 g4 g5
    rw [l46_5]
    rcases Nat.lt_or_ge a T.1 with z | z
    · obtain ⟨q1, q2⟩ := h.at z
      rw [if_neg (by rw [i32_le (by omega) (by omega)]; omega), h.d z]
      by_cases y : cD (cA T a) = true
      · rw [if_pos y, if_neg (by decide), q1, i32_s, Wh_yes (by rfl) y]
        obtain ⟨d1, d2⟩ := (cD_n _ (by omega)).mp y
        have ec : cA T a = T.2 a := by unfold cA; rw [if_pos z]
        have es : nv (sg T p (a + 1)) = 10 * nv (sg T p a) + (cA T a - 48) := by rw [sg_s g3, nv_s, ec]
        have hn := nm_s (c := cA T a) g1 d1 d2
        rw [← es] at hn
        have hpos : 0 < nv (sg T p (a + 1)) := by
          rcases Nat.eq_or_lt_of_le g3 with w | w
          · subst w
            rw [es]
            omega
          · have := g2 w
            rw [es]
            omega
        have step := ih (a + 1) _ hn (fun _ => hpos) (by omega) (by omega) (by omega)
        by_cases w : lg_cmp b (0 : Int64) = 0
        · rw [if_pos w]
          have hb := lg_z.mp w
          have ha : a = p := by
            rcases Nat.eq_or_lt_of_le g3 with w | w
            · exact w.symm
            · have := g2 w
              rcases Nat.lt_or_ge 2147483648 (nv (sg T p a)) with x | x
              · have := g1.2 x; omega
              · have := g1.1 x; omega
          rw [if_pos (by rw [ha])]
          exact step
        · rw [if_neg w]
          exact step
      · rw [if_neg y, if_pos rfl, Wh_no (by rfl) (by simpa using y)]
        exact ⟨b, rfl, g1⟩
    · rw [if_pos (by rw [i32_le (by omega) (by omega)]; omega), Wh_no (by rfl) (by rw [cA_end z]; rfl)]
      exact ⟨b, rfl, g1⟩
theorem l46_0 (h : TC T I) {p : Nat} (hz : cA T p = 48) (hp : p < T.1) {n : Nat} : l46_5 (Int32.ofNat p) (Int32.ofNat T.1) (n + 2) (Int32.ofNat p) 0 I = some (Int32.ofNat (p + 1), 0) := by
  have h2 := h.2.1
  obtain ⟨q1, q2⟩ := h.at hp
  have e : (if (2147483649 : Int64) < ((0 : Int64) * (10 : Int64) + (Int32.ofNat 48).toInt64 - (48 : Int64)) then (2147483649 : Int64) else ((0 : Int64) * (10 : Int64) + (Int32.ofNat 48).toInt64 - (48 : Int64))) = 0 := by decide
  have hd0 : cD (cA T p) = true := by rw [hz]; decide
  rw [l46_5, if_neg (by rw [i32_le (by omega) (by omega)]; omega), h.d hp, if_pos hd0, if_neg (by decide), if_pos (by decide), if_pos rfl, q1, hz, e, i32_s, l46_5]
  rcases Nat.lt_or_ge (p + 1) T.1 with z | z
  · rw [if_neg (by rw [i32_le (by omega) (by omega)]; omega), h.d z]
    by_cases y : cD (cA T (p + 1)) = true
    · rw [if_pos y, if_neg (by decide), if_pos (by decide), if_neg (by rw [i32_eq (by omega) (by omega)]; omega)]
    · rw [if_neg y, if_pos rfl]
  · rw [if_pos (by rw [i32_le (by omega) (by omega)]; omega)]
end
