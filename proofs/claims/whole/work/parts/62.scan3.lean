/-! Lexer.scan, whole -/
/-- the tokens' table holds the tokens 0 .. r - 1 -/
def Tks (T : Tp) (L : List (List Nat)) (r : Nat) (I : St) : Prop := I 34 3 = Int32.ofNat r ∧ ∀ i, i < r → TkR T L (pr T i) (tget I 34 (Int32.ofNat i) 0) (tget I 34 (Int32.ofNat i) 1) (tget I 34 (Int32.ofNat i) 2)
theorem TkR.mono {T : Tp} {L L' : List (List Nat)} {p : Nat} {k q c : Int32} (h : TkR T L p k q c) (hL : ∀ (i : Nat) (s : List Nat), L[i]? = some s → L'[i]? = some s) : TkR T L' p k q c := by
  obtain ⟨h1, h2, h3, h4, h5⟩ := h
  refine ⟨h1, h2, fun z => ?_, h4, h5⟩
  obtain ⟨i, g1, g2, g3, g4⟩ := h3 z
  exact ⟨i, g1, g2, hL i _ g3, g4⟩
theorem Tks.push {T : Tp} {L L' : List (List Nat)} {r : Nat} {I J : St} (h : Tks T L r I) (h1 : Tk1 T L' r (pr T r) I J) (hL : ∀ (i : Nat) (s : List Nat), L[i]? = some s → L'[i]? = some s) : Tks T L' (r + 1) J := by
  obtain ⟨a1, a2, a3⟩ := h1
  refine ⟨a1, fun i hi => ?_⟩
  rcases Nat.lt_or_ge i r with z | z
  · rw [a3 _ _ z, a3 _ _ z, a3 _ _ z]
    exact (h.2 i z).mono hL
  · have : i = r := by omega
    subst this
    exact a2
/-- what scan() keeps: at the byte a, r tokens read -/
def Sc (T : Tp) (L : List (List Nat)) (u r a : Nat) (I : St) : Prop := TC T I ∧ NmR L u I ∧ I 39 3 = Int32.ofNat u ∧ Pfx L ∧ L.length ≤ 75 + a ∧ u ≤ 405 + a ∧ Tks T L r I ∧ r ≤ a ∧ pr T r = sk T a ∧ a ≤ T.1
theorem l25_n {T : Tp} : ∀ n a t I L u r, Sc T L u r a I → t ≤ a → T.1 < a + n → ∃ J L' u' r', l25_27 (Int32.ofNat T.1) n (Int32.ofNat a) (Int32.ofNat t) I = some J ∧ Sc T L' u' r' T.1 J := by
  intro n
  induction n with
  | zero => intro a t I L u r h g1 g2; have := h.2.2.2.2.2.2.2.2.2; omega
  | succ n ih =>
    intro a t I L u r h g1 g2
    obtain ⟨hT, hN, h39, hP, hl, hu, hk, hra, hpr, ha⟩ := id h
    have h2 := hT.2.1
    rw [l25_27]
    rcases Nat.lt_or_ge a T.1 with z | z
    · obtain ⟨q1, q2⟩ := hT.at z
      have hgt := te_gt z (hT.2.2 a z).2
      have hte := te_le (T := T) (p := a) ha
      rw [if_neg (by rw [i32_le (by omega) (by omega)]; omega), if_neg (by rw [i32_le (by omega) (by omega)]; omega), hT.b z]
      have hske := sk_eq (T := T) a
      by_cases c1 : cB (cA T a) = true
      · rw [if_pos c1, if_neg (by decide), i32_s, i32_s]
        rw [if_pos c1] at hske
        exact ih (a + 1) (t + 1) I L u r ⟨hT, hN, h39, hP, by omega, by omega, hk, by omega, by rw [hpr, hske], z⟩ (by omega) (by omega)
      · rw [if_neg c1, if_pos rfl, q1]
        rw [if_neg c1] at hske
        by_cases c2 : cA T a = 35
        · have w := Wh35 c2
          have w2 : Wh T cE a ≤ T.1 := Wh_le (by rfl) ha
          rw [if_pos (by rw [c2]; rfl), x41_n hT ha, Option.bind_some, i32_s]
          rw [if_pos c2] at hske
          exact ih (Wh T cE a) (t + 1) I L u r ⟨hT, hN, h39, hP, by omega, by omega, hk, by omega, by rw [hpr, hske], w2⟩ (by omega) (by omega)
        · rw [if_neg (fun y => c2 ((i32_e (x := 35) (b := 35) rfl (by omega) (by decide)).mp y))]
          rw [if_neg c2] at hske
          rw [hske] at hpr
          have hnx : pr T (r + 1) = sk T (te T a) := by rw [pr, hpr]; rfl
          have e42 : x42 I (Int32.ofNat (cA T a)) = if cL (cA T a) = true then 1 else 0 := xL1 _ q2
          have e44 : x44 I (Int32.ofNat (cA T a)) = if cD (cA T a) = true then 1 else 0 := xD1 _ q2
          have e47 : x47 I (Int32.ofNat (cA T a)) = if cS (cA T a) = true then 1 else 0 := xS1 _ q2
          rw [e42]
          by_cases c3 : cL (cA T a) = true
          · rw [if_pos c3, if_neg (by decide)]
            obtain ⟨J, L', u', w1, w2, w3, w4, w5, w6, w7, w8, w9⟩ := x43_n hT hN h39 hP (by omega) (by omega) hk.1 (by omega) z c3
            rw [w1, Option.bind_some, i32_s]
            exact ih (te T a) (t + 1) J L' u' (r + 1) ⟨w2, w3, w4, w5, by omega, by omega, hk.push (by rw [hpr]; exact w9) w6, by omega, hnx, hte⟩ (by omega) (by omega)
          · rw [if_neg c3, if_pos rfl, e44]
            by_cases c4 : cD (cA T a) = true
            · rw [if_pos c4, if_neg (by decide)]
              obtain ⟨J, w1, w2, w3⟩ := x46_n (L := L) hT hk.1 (by omega) z c4
              rw [w1, Option.bind_some, i32_s]
              exact ih (te T a) (t + 1) J L u (r + 1) ⟨hT.fr w2 rfl rfl, hN.fr w2 rfl rfl rfl rfl, by rw [w2 _ _ rfl]; exact h39, hP, by omega, by omega, hk.push (by rw [hpr]; exact w3) (fun i s h => h), by omega, hnx, hte⟩ (by omega) (by omega)
            · rw [if_neg c4, if_pos rfl, e47]
              have et : te T a = a + 1 := by unfold te; rw [if_neg c3, if_neg c4, if_neg (by omega)]
              have hcd : ckd T a = if cS (cA T a) = true then 6 else 7 := by
                unfold ckd
                rw [if_neg (by omega), if_neg c3, if_neg c4]
              have fin : ∀ k : Int32, k = ckd T a → (k = 6 ∨ k = 7) → ∃ J L' u' r', ((some k).bind fun (q3 : Int32) => (x45 I q3 (Int32.ofNat a) (Int32.ofNat (cA T a))).bind fun q4 => l25_27 (Int32.ofNat T.1) n (Int32.ofNat a + 1) (Int32.ofNat t + 1) q4) = some J ∧ Sc T L' u' r' T.1 J := by
                intro k hk1 hk2
                obtain ⟨J, j1, j2, j3, j4, j5, j6, j7⟩ := x45_n hk.1 (by omega) k (Int32.ofNat a) (Int32.ofNat (cA T a))
                rw [Option.bind_some, j1, Option.bind_some, i32_s, i32_s]
                have hk3 : Tk1 T L r a I J := by
                  refine ⟨j2, ?_, j6⟩
                  rw [j3, j4, j5]
                  exact ⟨hk1, rfl, fun y => by rcases y with y | y <;> rcases hk2 with w | w <;> rw [w] at y <;> exact absurd y (by decide), fun y => by rcases hk2 with w | w <;> rw [w] at y <;> exact absurd y (by decide), fun _ => rfl⟩
                exact ih (a + 1) (t + 1) J L u (r + 1) ⟨hT.fr j7 rfl rfl, hN.fr j7 rfl rfl rfl rfl, by rw [j7 _ _ rfl]; exact h39, hP, by omega, by omega, hk.push (by rw [hpr]; exact hk3) (fun i s h => h), by omega, by rw [hnx, et], z⟩ (by omega) (by omega)
              by_cases c5 : cS (cA T a) = true
              · rw [if_pos c5, if_neg (by decide)]
                exact fin 6 (by rw [hcd, if_pos c5]) (Or.inl rfl)
              · rw [if_neg c5, if_pos rfl]
                exact fin 7 (by rw [hcd, if_neg c5]) (Or.inr rfl)
    · obtain rfl : a = T.1 := by omega
      by_cases y : Int32.ofNat T.1 ≤ Int32.ofNat t
      · rw [if_pos y]
        exact ⟨I, L, u, r, rfl, h⟩
      · rw [if_neg y, if_pos (Int32.le_refl _)]
        exact ⟨I, L, u, r, rfl, h⟩
/-- scan(): the tape's tokens stand in the table, K of them and the end -/
theorem x25_n {T : Tp} {I : St} (hT : TC T I) : ∃ J L u K, x25 I = some J ∧ NmR L u J ∧ Pfx L ∧ Tks T L (K + 1) J ∧ pr T K = T.1 ∧ K ≤ T.1 := by
  have h2 := hT.2.1
  obtain ⟨s1, s2, s3⟩ := sf34
  have e34 : tresize I 34 0 = up2 I 34 3 0 := rfl
  obtain ⟨J0, u0, a1, a2, a3⟩ := x26_n (I := up2 I 34 3 0)
  have f0 := x26_fr (up2 I 34 3 0) (up2 I 34 3 0) Frm.refl J0 a1
  have hf : Frm [(34, some 3), (39, some 3), (38, none), (37, some 3), (42, none), (36, some 4), (36, some 3), (40, none)] I J0 := Frm.trans (Frm.u2 Frm.refl rfl) f0 rfl
  have hT0 : TC T J0 := hT.fr hf rfl rfl
  obtain ⟨b1, b2, b3, b4, b5, b6, b7⟩ := a2
  have h0 : Sc T wlA u0 0 0 J0 := ⟨hT0, b1, b4, fun _ _ => rfl, by decide, by omega, ⟨by rw [f0 _ _ rfl]; rfl, fun i hi => absurd hi (Nat.not_lt_zero _)⟩, Nat.le_refl _, rfl, Nat.zero_le _⟩
  obtain ⟨J1, L, u, K, c1, c2⟩ := l25_n 100000 0 0 J0 wlA u0 0 h0 (Nat.le_refl _) (by omega)
  obtain ⟨d1, d2, d3, d4, d5, d6, d7, d8, d9, d10⟩ := c2
  have hsk : sk T T.1 = T.1 := by
    rw [sk_eq, cA_end (Nat.le_refl _)]
    rfl
  rw [hsk] at d9
  obtain ⟨J, j1, j2, j3, j4, j5, j6, j7⟩ := x45_n d7.1 (by omega) 0 (Int32.ofNat T.1) 0
  have hk3 : Tk1 T L K (pr T K) J1 J := by
    refine ⟨j2, ?_, j6⟩
    rw [j3, j4, j5, d9]
    refine ⟨?_, rfl, fun y => by rcases y with y | y <;> exact absurd y (by decide), fun y => absurd y (by decide), fun y => absurd y (by decide)⟩
    unfold ckd
    rw [if_pos (cA_end (Nat.le_refl _))]
  refine ⟨J, L, u, K, ?_, d2.fr j7 rfl rfl rfl rfl, d4, d7.push hk3 (fun i s h => h), d9, d8⟩
  unfold x25
  have c1 : l25_27 (Int32.ofNat T.1) 100000 0 0 J0 = some J1 := c1
  rw [e34, a1, Option.bind_some, hT0.1, c1, Option.bind_some, j1, Option.bind_some]
