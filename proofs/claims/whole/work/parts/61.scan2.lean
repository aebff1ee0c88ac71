/-! Lexer.scan: the tokens' table is the row of tokens -/
def pr (T : Tp) : Nat → Nat
  | 0 => sk T 0
  | r + 1 => nx T (pr T r)
def ckd (T : Tp) (p : Nat) : Int32 := if cA T p = 256 then 0 else if cL (cA T p) = true then (if te T p ≤ p + 12 then (if isW T p = true then 3 else 1) else 2) else if cD (cA T p) = true then (if nv (str T p) < 2147483648 then 4 else if nv (str T p) = 2147483648 then 5 else 7) else if cS (cA T p) = true then 6 else 7
/-- (k, q, c) is the token at p, names by the row L -/
def TkR (T : Tp) (L : List (List Nat)) (p : Nat) (k q c : Int32) : Prop := k = ckd T p ∧ q = Int32.ofNat p ∧ (k = 1 ∨ k = 3 → ∃ i, c = Int32.ofNat i ∧ i < 1460 ∧ L[i]? = some (str T p) ∧ (k = 3 ↔ i < 68)) ∧ (k = 4 → c = Int32.ofNat (nv (str T p))) ∧ (k = 6 → c = Int32.ofNat (cA T p))
/-- L begins with the words and the first classes' names -/
def Pfx (L : List (List Nat)) : Prop := ∀ i, i < 75 → L[i]? = wlA[i]?
theorem wi_mem {s : List Nat} : ∀ (l : List (List Nat)) n, (wi l s n).isSome = true ↔ s ∈ l := by
  intro l
  induction l with
  | nil => intro n; simp [wi]
  | cons x r ih =>
    intro n
    rw [wi]
    split
    · rename_i z; simp [z]
    · rename_i z
      rw [ih, List.mem_cons]
      exact ⟨fun h => Or.inr h, fun h => h.resolve_left (fun y => z y.symm)⟩
theorem isW_mem {T : Tp} {p : Nat} : isW T p = true ↔ str T p ∈ wl3 ++ wl4 := by
  unfold isW
  rw [Bool.or_eq_true, wi_mem, wi_mem, List.mem_append]
theorem wlA_68 : ∀ i, i < 68 → wlA[i]? = (wl3 ++ wl4)[i]? := by decide +kernel
theorem wl68 : (wl3 ++ wl4).length = 68 := by decide
theorem nodup_inj {L : List (List Nat)} (hn : L.Nodup) {i j : Nat} (hi : i < L.length) (hj : j < L.length) (h : L[i] = L[j]) : i = j := by
  have hp := List.pairwise_iff_getElem.mp hn
  rcases Nat.lt_trichotomy i j with z | z | z
  · exact absurd h (hp i j hi hj z)
  · exact z
  · exact absurd h.symm (hp j i hj hi z)
theorem Pfx.w {L : List (List Nat)} (h : Pfx L) (hn : L.Nodup) {i : Nat} {s : List Nat} (hi : L[i]? = some s) : s ∈ wl3 ++ wl4 ↔ i < 68 := by
  constructor
  · intro hs
    obtain ⟨j, hj, e⟩ := List.getElem_of_mem hs
    rw [wl68] at hj
    have e2 : L[j]? = some s := by
      rw [h j (by omega), wlA_68 j hj, List.getElem?_eq_getElem (by rw [wl68]; exact hj), e]
    have e3 : i = j := by
      obtain ⟨hi1, hi2⟩ := List.getElem?_eq_some_iff.mp hi
      obtain ⟨hj1, hj2⟩ := List.getElem?_eq_some_iff.mp e2
      exact nodup_inj hn hi1 hj1 (hi2.trans hj2.symm)
    omega
  · intro h68
    rw [h i (by omega), wlA_68 i h68] at hi
    exact List.mem_of_getElem? hi
theorem NmR.fr {L : List (List Nat)} {u : Nat} {I J : St} {M : List (Nat × Option Nat)} (h : NmR L u I) (hf : Frm M I J) (h1 : mdb M 37 3 = false) (h2 : (M.all fun e => !Nat.beq e.1 38) = true) (h3 : (M.all fun e => !Nat.beq e.1 40) = true) (h4 : (M.all fun e => !Nat.beq e.1 42) = true) : NmR L u J := by
  obtain ⟨s1, s2, s3, s4, s5, s6, s7, s8, s9⟩ := sf37
  obtain ⟨a1, a2, a3, a4, a5, a6⟩ := h
  have t37 : ∀ a b, tget J 37 a b = tget I 37 a b := fun a b => tget_fr hf (by rw [s3]; exact no_cell h2)
  have t39 : ∀ a b, tget J 39 a b = tget I 39 a b := fun a b => tget_fr hf (by rw [s6]; exact no_cell h3)
  have t41 : ∀ a b, tget J 41 a b = tget I 41 a b := fun a b => tget_fr hf (by rw [s9]; exact no_cell h4)
  refine ⟨by rw [hf _ _ h1]; exact a1, a2, a3, a4, ?_, ?_⟩
  · intro i s hi
    simp only [t37, t39]
    exact a5 i s hi
  · intro b hb
    rw [t41]
    exact a6 b hb
theorem l43_9_f {b1 b2 : Int32} {I0 : St} : ∀ (n : Nat) (b3 : Int32) (I : St), Frm [(36, some 4), (40, none), (39, some 3)] I0 I → Fq (l43_9 b1 b2 n b3 I) (fun q => Frm [(36, some 4), (40, none), (39, some 3)] I0 q.2) := by
  intro n
  induction n with
  | zero => intro b3 I h0; exact F.none
  | succ n ih =>
    intro b3 I h0
    rw [l43_9]
    refine F.ite (fun _ => F.some h0) (fun _ => ?_)
    refine F.ite (fun _ => ?_) (fun _ => ?_)
    · refine F.ite (fun _ => F.some h0) (fun _ => ?_)
      refine F.bind (x38_fr _ _ Frm.refl) (fun q2 hq2 => ?_)
      exact ih _ _ (Frm.trans h0 hq2 rfl)
    · refine F.bind (x38_fr _ _ Frm.refl) (fun q2 hq2 => ?_)
      exact ih _ _ (Frm.trans h0 hq2 rfl)
/-- one token more in the table, from I to J -/
def Tk1 (T : Tp) (L : List (List Nat)) (r p : Nat) (I J : St) : Prop := J 34 3 = Int32.ofNat (r + 1) ∧ TkR T L p (tget J 34 (Int32.ofNat r) 0) (tget J 34 (Int32.ofNat r) 1) (tget J 34 (Int32.ofNat r) 2) ∧ ∀ i d, i < r → tget J 34 (Int32.ofNat i) d = tget I 34 (Int32.ofNat i) d
section
variable {T : Tp} {I : St} {L : List (List Nat)} {u r a : Nat}
theorem x43_n (hT : TC T I) (hN : NmR L u I) (h39 : I 39 3 = Int32.ofNat u) (hP : Pfx L) (hl : L.length < 1460) (hu : u + 1280 < 4405) (h34 : I 34 3 = Int32.ofNat r) (hr : r < 4001) (ha : a < T.1) (hc : cL (cA T a) = true) : ∃ J L' u', x43 I (Int32.ofNat a) (Int32.ofNat T.1) = some (Int32.ofNat (te T a), J) ∧ TC T J ∧ NmR L' u' J ∧ J 39 3 = Int32.ofNat u' ∧ Pfx L' ∧ (∀ (i : Nat) (s : List Nat), L[i]? = some s → L'[i]? = some s) ∧ L'.length ≤ L.length + 1 ∧ u' ≤ u + (te T a - a) ∧ Tk1 T L' r a I J := by
  have h2 := hT.2.1
  have et : te T a = Wh T cN a := by unfold te; rw [if_pos hc]
  have hte := te_le (T := T) (p := a) (by omega)
  have hgt := te_gt ha (hT.2.2 a ha).2
  obtain ⟨I1, w1, w2⟩ := x29_n hN h39
  have f1 := x29_fr I I Frm.refl I1 w1
  have e0 : sg T a a = [] := by unfold sg; rw [Nat.sub_self]; rfl
  rw [← e0] at w2
  obtain ⟨I2, v1, v2⟩ := l43_n (T := T) (p := a) hu 100000 a I1 (hT.fr f1 rfl rfl) w2 (Nat.le_refl _) (by omega) (by omega)
  have f2 := l43_9_f (b1 := Int32.ofNat a) (b2 := Int32.ofNat T.1) (I0 := I1) 100000 (Int32.ofNat a) I1 Frm.refl _ v1
  rw [← et] at v1 v2
  obtain ⟨i, I3, y1, y2⟩ := x35_n v2 hl
  have f3 := x35_fr I2 I2 Frm.refl _ y1
  have f13 : Frm [(36, some 4), (40, none), (39, some 3), (36, some 3), (38, none), (37, some 3), (42, none), (35, none), (34, some 3)] I I3 := Frm.trans (Frm.trans (Frm.wd f1 rfl) f2 rfl) f3 rfl
  have f13' : Frm [(36, some 4), (40, none), (39, some 3), (36, some 3), (38, none), (37, some 3), (42, none)] I I3 := Frm.trans (Frm.trans (Frm.wd f1 rfl) f2 rfl) f3 rfl
  have s34 : I3 34 3 = Int32.ofNat r := by rw [f13' _ _ rfl]; exact h34
  have t34 : ∀ i d, tget I3 34 i d = tget I 34 i d := fun i d => tget_fr f13' (fun _ => rfl)
  have slen : (str T a).length = te T a - a := sg_len
  have hL' : ∃ L' u', NmR L' u' I3 ∧ I3 39 3 = Int32.ofNat u' ∧ Pfx L' ∧ (∀ (j : Nat) (s : List Nat), L[j]? = some s → L'[j]? = some s) ∧ L'.length ≤ L.length + 1 ∧ u' ≤ u + (te T a - a) ∧ L'[i]? = some (str T a) := by
    rcases y2 with ⟨z1, z2, z3, z4⟩ | ⟨z1, z2, z3, z4⟩
    · exact ⟨L, u, z3, z4, hP, fun j s h => h, by omega, by omega, z2⟩
    · refine ⟨L ++ [sg T a (te T a)], u + (sg T a (te T a)).length, z3, z4, ?_, ?_, ?_, ?_, ?_⟩
      · intro j hj
        have hL75 : 75 ≤ L.length := by
          rcases Nat.lt_or_ge L.length 75 with x | x
          · have := hP L.length x
            rw [List.getElem?_eq_none (Nat.le_refl _)] at this
            have e : wlA.length = 75 := by decide
            rw [List.getElem?_eq_getElem (by omega)] at this
            cases this
          · exact x
        rw [List.getElem?_append_left (by omega)]
        exact hP j hj
      · intro j s h
        rw [List.getElem?_append_left (List.getElem?_eq_some_iff.mp h).1]
        exact h
      · rw [List.length_append]
        exact Nat.le_refl _
      · have : (sg T a (te T a)).length = te T a - a := sg_len
        omega
      · rw [z2, List.getElem?_append_right (Nat.le_refl _), Nat.sub_self]
        rfl
  obtain ⟨L', u', n1, n2, n3, n4, n5, n6, n7⟩ := hL'
  have hi : i < 1460 := by
    have h1 := (List.getElem?_eq_some_iff.mp n7).1
    have h3 := n1.2.1
    omega
  have hw := n3.w n1.2.2.2.1 n7
  have hcd : ckd T a = if te T a ≤ a + 12 then (if isW T a = true then 3 else 1) else 2 := by
    unfold ckd
    rw [if_neg (fun z => by rw [z] at hc; cases hc), if_pos hc]
  have c1 : x43 I (Int32.ofNat a) (Int32.ofNat T.1) = (if (Int32.ofNat (te T a) - Int32.ofNat a) ≤ 12 then (if 68 ≤ Int32.ofNat i then some 1 else some 3).bind fun (q8 : Int32) => (x45 I3 q8 (Int32.ofNat a) (Int32.ofNat i)).bind fun q9 => some (Int32.ofNat (te T a), q9) else (x45 I3 2 (Int32.ofNat a) 0).bind fun q10 => some (Int32.ofNat (te T a), q10)) := by
    unfold x43
    rw [w1, Option.bind_some, v1, Option.bind_some]
    dsimp only
    rw [y1, Option.bind_some]
  rw [c1, i32_sb (by omega)]
  have fin : ∀ k c : Int32, k = ckd T a → ((k = 1 ∨ k = 3) → c = Int32.ofNat i ∧ (k = 3 ↔ i < 68)) → k ≠ 4 → k ≠ 6 → ∃ J L' u', (x45 I3 k (Int32.ofNat a) c).bind (fun q9 => some (Int32.ofNat (te T a), q9)) = some (Int32.ofNat (te T a), J) ∧ TC T J ∧ NmR L' u' J ∧ J 39 3 = Int32.ofNat u' ∧ Pfx L' ∧ (∀ (i : Nat) (s : List Nat), L[i]? = some s → L'[i]? = some s) ∧ L'.length ≤ L.length + 1 ∧ u' ≤ u + (te T a - a) ∧ Tk1 T L' r a I J := by
    intro k c hk hn1 hk4 hk6
    obtain ⟨J, j1, j2, j3, j4, j5, j6, j7⟩ := x45_n s34 hr k (Int32.ofNat a) c
    refine ⟨J, L', u', by rw [j1]; rfl, (hT.fr f13 rfl rfl).fr j7 rfl rfl, n1.fr j7 rfl rfl rfl rfl, by rw [j7 _ _ rfl]; exact n2, n3, n4, n5, n6, j2, ?_, fun i d hi => by rw [j6 i d hi, t34]⟩
    rw [j3, j4, j5]
    refine ⟨hk, rfl, fun z => ?_, fun z => absurd z hk4, fun z => absurd z hk6⟩
    obtain ⟨g1, g2⟩ := hn1 z
    exact ⟨i, g1, hi, n7, g2⟩
  by_cases z : te T a ≤ a + 12
  · rw [if_pos (by show _ ≤ Int32.ofNat 12; rw [i32_le (by omega) (by omega)]; omega)]
    by_cases y : i < 68
    · have hW : isW T a = true := isW_mem.mpr (hw.mpr y)
      rw [if_neg (by show ¬ Int32.ofNat 68 ≤ _; rw [i32_le (by omega) (by omega)]; omega), Option.bind_some]
      exact fin 3 _ (by rw [hcd, if_pos z, if_pos hW]) (fun _ => ⟨rfl, fun _ => y, fun _ => rfl⟩) (by decide) (by decide)
    · have hW : ¬ isW T a = true := fun q => y (hw.mp (isW_mem.mp q))
      rw [if_pos (by show Int32.ofNat 68 ≤ _; rw [i32_le (by omega) (by omega)]; omega), Option.bind_some]
      exact fin 1 _ (by rw [hcd, if_pos z, if_neg hW]) (fun _ => ⟨rfl, fun q => absurd q (by decide), fun q => absurd q y⟩) (by decide) (by decide)
  · rw [if_neg (by show ¬ _ ≤ Int32.ofNat 12; rw [i32_le (by omega) (by omega)]; omega)]
    exact fin 2 0 (by rw [hcd, if_neg z]) (fun q => by rcases q with q | q <;> exact absurd q (by decide)) (by decide) (by decide)
theorem x46_n (hT : TC T I) (h34 : I 34 3 = Int32.ofNat r) (hr : r < 4001) (ha : a < T.1) (hc : cD (cA T a) = true) : ∃ J, x46 I (Int32.ofNat a) (Int32.ofNat T.1) = some (Int32.ofNat (te T a), J) ∧ Frm [(35, none), (34, some 3)] I J ∧ Tk1 T L r a I J := by
  have h2 := hT.2.1
  have hcl : cA T a < 256 := (hT.at ha).2
  obtain ⟨n0, nS, nL⟩ := cD_no _ (by omega) hc
  have main : ∃ b', l46_5 (Int32.ofNat a) (Int32.ofNat T.1) 100000 (Int32.ofNat a) 0 I = some (Int32.ofNat (te T a), b') ∧ nm (nv (str T a)) b' := by
    by_cases c6 : cA T a = 48
    · have et : te T a = a + 1 := by unfold te; rw [if_neg (by rw [nL]; decide), if_pos hc, if_pos c6]
      refine ⟨0, ?_, ?_⟩
      · rw [et]; exact l46_0 (n := 99998) hT c6 ha
      · have e1 : cA T a = T.2 a := by unfold cA; rw [if_pos ha]
        unfold str
        rw [et, sg_s (Nat.le_refl _), nv_s, ← e1, c6]
        have e2 : sg T a a = [] := by unfold sg; rw [Nat.sub_self]; rfl
        rw [e2]
        exact ⟨fun _ => by decide, fun z => by simp [nv] at z⟩
    · have et : te T a = Wh T cD a := by unfold te; rw [if_neg (by rw [nL]; decide), if_pos hc, if_neg c6]
      have e2 : sg T a a = [] := by unfold sg; rw [Nat.sub_self]; rfl
      obtain ⟨b', r1, r2⟩ := l46_n hT c6 100000 a 0 (by rw [e2]; exact ⟨fun _ => by decide, fun z => by simp [nv] at z⟩) (fun z => by omega) (Nat.le_refl _) (by omega) (by omega)
      refine ⟨b', ?_, ?_⟩
      · rw [et]; exact r1
      · unfold str; rw [et]; exact r2
  obtain ⟨b', r1, r2⟩ := main
  have hcd : ckd T a = if nv (str T a) < 2147483648 then 4 else if nv (str T a) = 2147483648 then 5 else 7 := by
    unfold ckd
    rw [if_neg n0, if_neg (by rw [nL]; decide), if_pos hc]
  have fin : ∀ k c : Int32, k = ckd T a → k ≠ 1 → k ≠ 3 → k ≠ 6 → (k = 4 → c = Int32.ofNat (nv (str T a))) → ∃ J, (x45 I k (Int32.ofNat a) c).bind (fun q9 => some (Int32.ofNat (te T a), q9)) = some (Int32.ofNat (te T a), J) ∧ Frm [(35, none), (34, some 3)] I J ∧ Tk1 T L r a I J := by
    intro k c hk k1 k3 k6 k4
    obtain ⟨J, j1, j2, j3, j4, j5, j6, j7⟩ := x45_n h34 hr k (Int32.ofNat a) c
    refine ⟨J, by rw [j1]; rfl, j7, j2, ?_, j6⟩
    rw [j3, j4, j5]
    exact ⟨hk, rfl, fun z => by rcases z with z | z; exact absurd z k1; exact absurd z k3, k4, fun z => absurd z k6⟩
  unfold x46
  rw [r1, Option.bind_some]
  dsimp only
  by_cases d1 : nv (str T a) ≤ 2147483648
  · have hb := r2.1 d1
    rw [if_pos (lg_le.mpr (by omega))]
    by_cases d2 : nv (str T a) = 2147483648
    · rw [if_pos (lg_0.mpr (by omega)), Option.bind_some]
      exact fin 5 _ (by rw [hcd, if_neg (by omega), if_pos d2]) (by decide) (by decide) (by decide) (fun z => absurd z (by decide))
    · rw [if_neg (fun z => d2 (by have := lg_0.mp z; omega)), Option.bind_some]
      exact fin 4 _ (by rw [hcd, if_pos (by omega)]) (by decide) (by decide) (by decide) (fun _ => i64_i32 hb (by omega))
  · have hb := r2.2 (by omega)
    rw [if_neg (fun z => by have := lg_le.mp z; omega)]
    exact fin 7 _ (by rw [hcd, if_neg (by omega), if_neg (by omega)]) (by decide) (by decide) (by decide) (fun z => absurd z (by decide))
end
