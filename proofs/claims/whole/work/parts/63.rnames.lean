/-! THE REFERENCE'S NAMES: nameOf(), name() -/
theorem i2b_inj {c d : Nat} (hc : c < 256) (hd : d < 256) (h : i2b (Int32.ofNat c) = i2b (Int32.ofNat d)) : c = d := by
  have h1 := congrArg (fun x => x &&& 255) h
  rw [i2b_and _ hc, i2b_and _ hd] at h1
  exact (i32_eq (by omega) (by omega)).mp h1
theorem nar_b : ∀ c, c < 256 → vp_nar .byte (i2b (Int32.ofNat c)) = i2b (Int32.ofNat c) := by decide +kernel
/-- the table of names of the program at Z holds the strings M, in u signs -/
def RN (Z : Nat) (M : List (List Nat)) (u : Nat) (I : St) : Prop :=
  I Z 3 = Int32.ofNat M.length ∧ I Z 4 = Int32.ofNat u ∧ M.length ≤ 2000 ∧ u ≤ 4100 ∧ M.Nodup ∧
  (∀ i s, M[i]? = some s → ∃ o, I (Z + 2) i = Int32.ofNat o ∧ o + s.length ≤ u ∧ I (Z + 3) i = Int32.ofNat s.length ∧ (∀ j, j < s.length → I (Z + 1) (o + j) = i2b (Int32.ofNat (s.getD j 0)) ∧ s.getD j 0 < 256))
theorem RN.fr {Z : Nat} {M : List (List Nat)} {u : Nat} {I J : St} {X : List (Nat × Option Nat)} (h : RN Z M u I) (hf : Frm X I J) (h3 : mdb X Z 3 = false) (h4 : mdb X Z 4 = false) (c1 : (X.all fun e => !Nat.beq e.1 (Z + 1)) = true) (c2 : (X.all fun e => !Nat.beq e.1 (Z + 2)) = true) (c3 : (X.all fun e => !Nat.beq e.1 (Z + 3)) = true) : RN Z M u J := by
  obtain ⟨a1, a2, a3, a4, a5, a6⟩ := h
  refine ⟨by rw [hf _ _ h3]; exact a1, by rw [hf _ _ h4]; exact a2, a3, a4, a5, fun i s hi => ?_⟩
  obtain ⟨o, b1, b2, b3, b4⟩ := a6 i s hi
  refine ⟨o, by rw [hf _ _ (no_cell c2 _)]; exact b1, b2, by rw [hf _ _ (no_cell c3 _)]; exact b3, fun j hj => ?_⟩
  rw [hf _ _ (no_cell c1 _)]
  exact b4 j hj
section
variable {T : Tp} {p Z u : Nat} {I : St} {M : List (List Nat)}
theorem RS.ge (h : RS T p I) : p ≤ te T p := by
  rcases Nat.lt_or_ge p T.1 with z | z
  · have := te_gt z (h.1.2.2 p z).2
    omega
  · unfold te
    rw [cA_end z]
    exact Nat.le_refl _
theorem l202_42_n (h : RS T p I) (hN : RN Z M u I) {k o : Nat} {s : List Nat} (hk : k < 2000) (ho : I (Z + 2) k = Int32.ofNat o) (hou : o + s.length ≤ u) (hs : ∀ j, j < s.length → I (Z + 1) (o + j) = i2b (Int32.ofNat (s.getD j 0)) ∧ s.getD j 0 < 256) (hl : s.length = te T p - p) : ∀ n i, i ≤ te T p - p → te T p - p + 1 < i + n → ∃ r : Int32, l202_42 Z (Int32.ofNat k) n 1 (Int32.ofNat i) I = some r ∧ ((r = 1 ∧ ∀ j, i ≤ j → j < te T p - p → s.getD j 0 = T.2 (p + j)) ∨ (r = 0 ∧ ¬ ∀ j, i ≤ j → j < te T p - p → s.getD j 0 = T.2 (p + j))) := by
  have hge := h.ge
  have hle := te_le h.2.2
  have h12 := h.1.2.1
  have hu := hN.2.2.2.1
  obtain ⟨r1, r2, r3, r4, r5, r6⟩ := h.2.1
  intro n
  induction n with
  | zero => intro i g1 g2; omega
  | succ n ih =>
    intro i g1 g2
    rw [l202_42, r4, r3, i32_sb hge]
    rcases Nat.lt_or_ge i (te T p - p) with z | z
    · obtain ⟨q1, q2⟩ := hs i (by omega)
      obtain ⟨q3, q4⟩ := h.1.2.2 (p + i) (by omega)
      have hik : inb (Int32.ofNat k) 2000 := (i32_inb (by omega)).mpr hk
      rw [if_neg (by rw [i32_le (by omega) (by omega)]; omega), if_neg (by decide), if_pos hik, i32_cl (a := k) (by omega), ho, i32_a, i32_a, if_pos ((i32_inb (by omega)).mpr (by omega)), if_pos ((i32_inb (by omega)).mpr (by omega)), i32_cl (by omega), i32_cl (by omega), q1, q3, i32_s]
      by_cases y : s.getD i 0 = T.2 (p + i)
      · rw [if_pos (by rw [y])]
        obtain ⟨r, t1, t2⟩ := ih (i + 1) (by omega) (by omega)
        refine ⟨r, t1, ?_⟩
        have e : (∀ j, i + 1 ≤ j → j < te T p - p → s.getD j 0 = T.2 (p + j)) ↔ (∀ j, i ≤ j → j < te T p - p → s.getD j 0 = T.2 (p + j)) := by
          constructor
          · intro g j g1 g2
            rcases Nat.eq_or_lt_of_le g1 with g3 | g3
            · subst g3; exact y
            · exact g j g3 g2
          · intro g j g1 g2
            exact g j (by omega) g2
        rw [← e]
        exact t2
      · rw [if_neg (fun w => y (i2b_inj q2 q4 w))]
        cases n with
        | zero => omega
        | succ n =>
          refine ⟨0, ?_, Or.inr ⟨rfl, fun g => y (g i (Nat.le_refl _) z)⟩⟩
          rw [l202_42]
          split
          · rfl
          · rfl
    · rw [if_pos (by rw [i32_le (by omega) (by omega)]; omega)]
      exact ⟨1, rfl, Or.inl ⟨rfl, fun j g1 g2 => by omega⟩⟩
theorem l202_2_n (h : RS T p I) (hN : RN Z M u I) : ∀ n k, k ≤ M.length → M.length < k + n → (∃ i, k ≤ i ∧ M[i]? = some (str T p) ∧ l202_2 Z n (Int32.ofNat k) I = some (.inr (Int32.ofNat i, I))) ∨ ((∀ i, k ≤ i → M[i]? ≠ some (str T p)) ∧ l202_2 Z n (Int32.ofNat k) I = some (.inl ())) := by
  have hge := h.ge
  have hle := te_le h.2.2
  have h12 := h.1.2.1
  obtain ⟨a1, a2, a3, a4, a5, a6⟩ := id hN
  obtain ⟨r1, r2, r3, r4, r5, r6⟩ := h.2.1
  have slen : (str T p).length = te T p - p := sg_len
  intro n
  induction n with
  | zero => intro k g1 g2; omega
  | succ n ih =>
    intro k g1 g2
    rw [l202_2, a1]
    rcases Nat.lt_or_ge k M.length with z | z
    · obtain ⟨o, b1, b2, b3, b4⟩ := a6 k M[k] (List.getElem?_eq_getElem z)
      rw [if_neg (by rw [i32_le (by omega) (by omega)]; omega), if_pos ((i32_inb (by omega)).mpr (by omega)), i32_cl (by omega), b3, r4, r3, i32_sb hge, i32_s]
      have go : M[k] ≠ str T p → ((∃ i, k ≤ i ∧ M[i]? = some (str T p) ∧ l202_2 Z n (Int32.ofNat (k + 1)) I = some (.inr (Int32.ofNat i, I))) ∨ ((∀ i, k ≤ i → M[i]? ≠ some (str T p)) ∧ l202_2 Z n (Int32.ofNat (k + 1)) I = some (.inl ()))) := by
        intro hne
        rcases ih (k + 1) (by omega) (by omega) with ⟨i, c1, c2, c3⟩ | ⟨c1, c2⟩
        · exact Or.inl ⟨i, by omega, c2, c3⟩
        · refine Or.inr ⟨fun i hi e => ?_, c2⟩
          rcases Nat.eq_or_lt_of_le hi with w | w
          · subst w
            rw [List.getElem?_eq_getElem z] at e
            exact hne (Option.some.inj e)
          · exact c1 i w e
      by_cases y : M[k].length = te T p - p
      · obtain ⟨r, t1, t2⟩ := l202_42_n h hN (by omega) b1 b2 b4 y 100000 0 (Nat.zero_le _) (by omega)
        have t1 : l202_42 Z (Int32.ofNat k) 100000 1 0 I = some r := t1
        rw [if_pos (by rw [y]), Option.bind_some, t1, Option.bind_some]
        rcases t2 with ⟨rfl, t3⟩ | ⟨rfl, t3⟩
        · rw [if_neg (by decide)]
          refine Or.inl ⟨k, Nat.le_refl _, ?_, rfl⟩
          rw [List.getElem?_eq_getElem z]
          congr 1
          refine getD_ext (by rw [slen, y]) (fun j hj => ?_)
          rw [t3 j (Nat.zero_le _) (by omega)]
          exact (sg_get (by omega)).symm
        · rw [if_pos rfl]
          refine go (fun e => t3 (fun j _ hj => ?_))
          rw [e]
          exact sg_get hj
      · rw [if_neg (by rw [i32_eq (by omega) (by omega)]; exact y), Option.bind_some]
        have t1 : l202_42 Z (Int32.ofNat k) 100000 0 0 I = some 0 := by
          rw [show (100000 : Nat) = 99999 + 1 from rfl, l202_42]
          split
          · rfl
          · rfl
        rw [t1, Option.bind_some, if_pos rfl]
        exact go (fun e => y (by rw [e, slen]))
    · rw [if_pos (by rw [i32_le (by omega) (by omega)]; omega)]
      refine Or.inr ⟨fun i hi e => ?_, rfl⟩
      rw [List.getElem?_eq_none (by omega)] at e
      cases e
end
