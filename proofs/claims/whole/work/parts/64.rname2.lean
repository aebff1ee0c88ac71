/-! nameOf(): a new name; name() -/
section
variable {T : Tp} {p Z u : Nat} {I : St} {M : List (List Nat)}
/-- the loop that copies the signs -/
theorem l202_176_n (hZ : Z = 85 ∨ Z = 126) {b1 : Int32} {e : Nat} (he : e ≤ T.1) : ∀ n a w I, TB T I → I 82 14 = Int32.ofNat e → I Z 4 = Int32.ofNat w → a ≤ e → w + (e - a) ≤ 4100 → e < a + n → ∃ J, l202_176 Z b1 n (Int32.ofNat a) I = some J ∧ J Z 4 = Int32.ofNat (w + (e - a)) ∧ (∀ j, j < e - a → J (Z + 1) (w + j) = i2b (Int32.ofNat (T.2 (a + j)))) ∧ (∀ x, x < w → J (Z + 1) x = I (Z + 1) x) ∧ Frm [(Z, some 4), (Z + 1, none)] I J := by
  intro n
  induction n with
  | zero => intro a w I g1 g2 g3 g4 g5 g6; omega
  | succ n ih =>
    intro a w I g1 g2 g3 g4 g5 g6
    have h12 := g1.2.1
    rw [l202_176, g2]
    rcases Nat.lt_or_ge a e with z | z
    · obtain ⟨q3, q4⟩ := g1.2.2 a (by omega)
      have k1 : ∀ (A : St) (x : Nat) (v : Int32), up2 A (Z + 1) x v Z 4 = A Z 4 := fun A x v => up2_k _ _ _ _ _ _ (by omega)
      rw [if_neg (by rw [i32_le (by omega) (by omega)]; omega), if_pos ((i32_inb (by omega)).mpr (by omega)), g3, if_pos ((i32_inb (by omega)).mpr (by omega)), i32_cl (by omega), i32_cl (by omega), q3, nar_b _ q4, k1, g3, i32_s, i32_s]
      show ∃ J, l202_176 Z b1 n (Int32.ofNat (a + 1)) (up2 (up2 I (Z + 1) w (i2b (Int32.ofNat (T.2 a)))) Z 4 (Int32.ofNat (w + 1))) = some J ∧ _
      have hf1 : Frm [(Z, some 4), (Z + 1, none)] I (up2 (up2 I (Z + 1) w (i2b (Int32.ofNat (T.2 a)))) Z 4 (Int32.ofNat (w + 1))) := by
        rcases hZ with rfl | rfl <;> exact Frm.u2 (Frm.u2 Frm.refl rfl) rfl
      have hB : TB T (up2 (up2 I (Z + 1) w (i2b (Int32.ofNat (T.2 a)))) Z 4 (Int32.ofNat (w + 1))) := by
        rcases hZ with rfl | rfl <;> exact g1.fr hf1 rfl rfl
      obtain ⟨J, j1, j2, j3, j4, j5⟩ := ih (a + 1) (w + 1) _ hB (by rw [up2_k _ _ _ _ _ _ (by omega), up2_k _ _ _ _ _ _ (by omega)]; exact g2) (up2_s _ _ _ _) (by omega) (by omega) (by omega)
      refine ⟨J, j1, ?_, ?_, ?_, ?_⟩
      · rw [j2]
        congr 1
        omega
      · intro j hj
        rcases Nat.eq_zero_or_pos j with y | y
        · subst y
          show J (Z + 1) w = i2b (Int32.ofNat (T.2 a))
          rw [j4 w (by omega), up2_k _ _ _ _ _ _ (by omega), up2_s]
        · have e1 : w + j = (w + 1) + (j - 1) := by omega
          have e2 : a + j = (a + 1) + (j - 1) := by omega
          rw [e1, e2]
          exact j3 (j - 1) (by omega)
      · intro x hx
        rw [j4 x (by omega), up2_k _ _ _ _ _ _ (by omega), up2_j _ _ _ _ _ (by omega)]
      · exact Frm.trans hf1 j5 (by rcases hZ with rfl | rfl <;> rfl)
    · obtain rfl : a = e := by omega
      rw [if_pos (Int32.le_refl _)]
      refine ⟨I, rfl, by rw [g3, Nat.sub_self]; rfl, fun j hj => by omega, fun _ _ => rfl, Frm.refl⟩
theorem x202_n (hZ : Z = 85 ∨ Z = 126) (h : RS T p I) (hN : RN Z M u I) (hM : M.length < 2000) (hu : u + 1280 < 4100) : ∃ r M' u' J, x202 Z I = some (Int32.ofNat r, J) ∧ RN Z M' u' J ∧ M'[r]? = some (str T p) ∧ (∀ (i : Nat) (s : List Nat), M[i]? = some s → M'[i]? = some s) ∧ M'.length ≤ M.length + 1 ∧ u' ≤ u + (te T p - p) ∧ RS T p J := by
  have hge := h.ge
  have hle := te_le h.2.2
  have h12 := h.1.2.1
  obtain ⟨a1, a2, a3, a4, a5, a6⟩ := id hN
  obtain ⟨r1, r2, r3, r4, r5, r6⟩ := h.2.1
  have slen : (str T p).length = te T p - p := sg_len
  have hfr : ∀ q, x202 Z I = some q → RS T p q.2 := by
    intro q hq
    have := x202_fr hZ I I Frm.refl q hq
    rcases hZ with rfl | rfl <;> exact h.fr this rfl
  rcases l202_2_n h hN 100000 0 (Nat.zero_le _) (by omega) with ⟨i, c1, c2, c3⟩ | ⟨c1, c2⟩
  · have c3 : l202_2 Z 100000 0 I = some (.inr (Int32.ofNat i, I)) := c3
    refine ⟨i, M, u, I, ?_, hN, c2, fun i s h => h, by omega, by omega, h⟩
    unfold x202
    rw [c3]
    rfl
  · have c2 : l202_2 Z 100000 0 I = some (.inl ()) := c2
    generalize hA : up2 (up2 (up2 I Z 3 (Int32.ofNat (M.length + 1))) (Z + 2) M.length (Int32.ofNat u)) (Z + 3) M.length (Int32.ofNat (te T p - p)) = A
    have e82 : ∀ j, A 82 j = I 82 j := fun j => by
      rw [← hA, up2_k _ _ _ _ _ _ (by omega), up2_k _ _ _ _ _ _ (by omega), up2_k _ _ _ _ _ _ (by omega)]
    have e83 : ∀ j, A 83 j = I 83 j := fun j => by
      rw [← hA, up2_k _ _ _ _ _ _ (by omega), up2_k _ _ _ _ _ _ (by omega), up2_k _ _ _ _ _ _ (by omega)]
    have eZ4 : A Z 4 = Int32.ofNat u := by
      rw [← hA, up2_k _ _ _ _ _ _ (by omega), up2_k _ _ _ _ _ _ (by omega), up2_j _ _ _ _ _ (by decide)]
      exact a2
    have eZ3 : A Z 3 = Int32.ofNat (M.length + 1) := by
      rw [← hA, up2_k _ _ _ _ _ _ (by omega), up2_k _ _ _ _ _ _ (by omega), up2_s]
    have e1 : ∀ x, A (Z + 1) x = I (Z + 1) x := fun x => by
      rw [← hA, up2_k _ _ _ _ _ _ (by omega), up2_k _ _ _ _ _ _ (by omega), up2_k _ _ _ _ _ _ (by omega)]
    have e2 : ∀ x, A (Z + 2) x = if x = M.length then Int32.ofNat u else I (Z + 2) x := fun x => by
      rw [← hA, up2_k _ _ _ _ _ _ (by omega)]
      by_cases hx : x = M.length
      · rw [if_pos hx, hx, up2_s]
      · rw [if_neg hx, up2_j _ _ _ _ _ hx, up2_k _ _ _ _ _ _ (by omega)]
    have e3 : ∀ x, A (Z + 3) x = if x = M.length then Int32.ofNat (te T p - p) else I (Z + 3) x := fun x => by
      rw [← hA]
      by_cases hx : x = M.length
      · rw [if_pos hx, hx, up2_s]
      · rw [if_neg hx, up2_j _ _ _ _ _ hx, up2_k _ _ _ _ _ _ (by omega), up2_k _ _ _ _ _ _ (by omega)]
    have hBA : TB T A := ⟨by rw [e82]; exact h.1.1, h12, fun i hi => by rw [e83]; exact h.1.2.2 i hi⟩
    obtain ⟨J, j1, j2, j3, j4, j5⟩ := l202_176_n (T := T) hZ (b1 := Int32.ofNat M.length) hle 100000 p u A hBA (by rw [e82]; exact r4) eZ4 hge (by omega) (by omega)
    have hx : x202 Z I = some (Int32.ofNat M.length, J) := by
      unfold x202
      have k14 : up2 (up2 I Z 3 (Int32.ofNat (M.length + 1))) (Z + 2) M.length (Int32.ofNat u) 82 14 = Int32.ofNat (te T p) := by
        rw [up2_k _ _ _ _ _ _ (by omega), up2_k _ _ _ _ _ _ (by omega)]; exact r4
      have k13 : up2 (up2 I Z 3 (Int32.ofNat (M.length + 1))) (Z + 2) M.length (Int32.ofNat u) 82 13 = Int32.ofNat p := by
        rw [up2_k _ _ _ _ _ _ (by omega), up2_k _ _ _ _ _ _ (by omega)]; exact r3
      rw [c2, Option.bind_some]
      simp only [Sum.elim_inl, Lt, a1]
      rw [if_pos ((i32_inb (by omega)).mpr hM), if_pos ((i32_inb (by omega)).mpr hM), i32_cl (by omega), i32_s, up2_j _ _ _ _ _ (by decide : (4 : Nat) ≠ 3), a2, k14, k13, i32_sb hge, hA]
      rw [e82, r3, j1]
      rfl
    refine ⟨M.length, M ++ [str T p], u + (te T p - p), J, hx, ?_, ?_, ?_, ?_, Nat.le_refl _, hfr _ hx⟩
    · have n2 : ∀ x, J (Z + 2) x = A (Z + 2) x := fun x => j5 _ _ (by rcases hZ with rfl | rfl <;> rfl)
      have n3 : ∀ x, J (Z + 3) x = A (Z + 3) x := fun x => j5 _ _ (by rcases hZ with rfl | rfl <;> rfl)
      refine ⟨?_, j2, ?_, by omega, ?_, ?_⟩
      · rw [j5 _ _ (by rcases hZ with rfl | rfl <;> rfl), eZ3, List.length_append]
        rfl
      · rw [List.length_append]
        exact hM
      · rw [List.nodup_append]
        refine ⟨a5, by simp, ?_⟩
        intro x hx y hy
        rw [List.mem_singleton] at hy
        subst hy
        intro z
        subst z
        obtain ⟨i, hi, e⟩ := List.getElem_of_mem hx
        exact c1 i (Nat.zero_le _) (by rw [List.getElem?_eq_getElem hi, e])
      · intro i s hi
        rcases Nat.lt_or_ge i M.length with z | z
        · rw [List.getElem?_append_left z] at hi
          obtain ⟨o, b1, b2, b3, b4⟩ := a6 i s hi
          refine ⟨o, by rw [n2, e2, if_neg (by omega)]; exact b1, by omega, by rw [n3, e3, if_neg (by omega)]; exact b3, fun j hj => ?_⟩
          rw [j4 _ (by omega), e1]
          exact b4 j hj
        · have hi' : i = M.length := by
            have := (List.getElem?_eq_some_iff.mp hi).1
            rw [List.length_append] at this
            have this : i < M.length + 1 := this
            omega
          subst hi'
          rw [List.getElem?_append_right (Nat.le_refl _), Nat.sub_self] at hi
          have hi : str T p = s := by simpa using hi
          subst hi
          refine ⟨u, by rw [n2, e2, if_pos rfl], by omega, by rw [n3, e3, if_pos rfl, slen], fun j hj => ?_⟩
          have e : (str T p).getD j 0 = T.2 (p + j) := sg_get (by omega)
          rw [e]
          exact ⟨j3 j (by omega), (h.1.2.2 (p + j) (by omega)).2⟩
    · rw [List.getElem?_append_right (Nat.le_refl _), Nat.sub_self]
      rfl
    · intro i s hi
      rw [List.getElem?_append_left (List.getElem?_eq_some_iff.mp hi).1]
      exact hi
    · rw [List.length_append]
      exact Nat.le_refl _
end
