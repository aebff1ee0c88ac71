/-! Names.matches, finish -/
section
variable {L : List (List Nat)} {u : Nat} {cur : List Nat} {I : St}
theorem l37_28_n (h : NmP L u cur I) {s : List Nat} {o : Nat} (hlen : s.length = cur.length) (ho : o + s.length ≤ u) (hs : ∀ j, j < s.length → tget I 39 (Int32.ofNat (o + j)) 0 = Int32.ofNat (s.getD j 0)) (hb : ∀ j, j < s.length → s.getD j 0 < 256) : ∀ n j, j ≤ cur.length → cur.length < j + n → ∃ r, l37_28 (Int32.ofNat cur.length) (Int32.ofNat o) n (Int32.ofNat j) I = some r ∧ ((r = .inl () ∧ ∀ i, j ≤ i → i < cur.length → s.getD i 0 = cur.getD i 0) ∨ (r = .inr 0 ∧ ¬ ∀ i, j ≤ i → i < cur.length → s.getD i 0 = cur.getD i 0)) := by
  obtain ⟨h1, h2, h3, h4, h5, h6, h7⟩ := h
  intro n
  induction n with
  | zero => intro j g1 g2; omega
  | succ n ih =>
    intro j g1 g2
    rw [l37_28]
    rcases Nat.lt_or_ge j cur.length with z | z
    · have b1 := hb j (by omega)
      have b2 := h7 j z
      rw [if_neg (by rw [i32_le (by omega) (by omega)]; omega), i32_a, h2, i32_a, hs j (by omega), h6 j z, i32_s]
      by_cases y : s.getD j 0 = cur.getD j 0
      · rw [if_pos (by rw [y])]
        obtain ⟨r, r1, r2⟩ := ih (j + 1) (by omega) (by omega)
        refine ⟨r, r1, ?_⟩
        have e : (∀ i, j + 1 ≤ i → i < cur.length → s.getD i 0 = cur.getD i 0) ↔ (∀ i, j ≤ i → i < cur.length → s.getD i 0 = cur.getD i 0) := by
          constructor
          · intro g i g1 g2
            rcases Nat.eq_or_lt_of_le g1 with g3 | g3
            · subst g3; exact y
            · exact g i g3 g2
          · intro g i g1 g2
            exact g i (by omega) g2
        rw [← e]
        exact r2
      · rw [if_neg (by rw [i32_eq (by omega) (by omega)]; exact y)]
        exact ⟨_, rfl, Or.inr ⟨rfl, fun g => y (g j (Nat.le_refl _) z)⟩⟩
    · rw [if_pos (by rw [i32_le (by omega) (by omega)]; omega)]
      exact ⟨_, rfl, Or.inl ⟨rfl, fun i g1 g2 => by omega⟩⟩
theorem x37_n (h : NmP L u cur I) {i : Nat} {s : List Nat} (hi : L[i]? = some s) : ∃ r : Int32, x37 I (Int32.ofNat i) (Int32.ofNat cur.length) = some r ∧ ((r ≠ 0 ∧ s = cur) ∨ (r = 0 ∧ s ≠ cur)) := by
  have h5 := h.2.2.2.2.1
  obtain ⟨o, b1, b2, b3, b4, b5, -⟩ := h.1.2.2.2.2.1 i s hi
  have hu := h.1.2.2.1
  unfold x37
  rw [b3, b1]
  by_cases z : s.length = cur.length
  · obtain ⟨r, r1, r2⟩ := l37_28_n h z b2 b4 b5 100000 0 (Nat.zero_le _) (by omega)
    have r1 : l37_28 (Int32.ofNat cur.length) (Int32.ofNat o) 100000 0 I = some r := r1
    rw [if_pos (by rw [z]), r1, Option.bind_some]
    rcases r2 with ⟨rfl, r3⟩ | ⟨rfl, r3⟩
    · refine ⟨1, rfl, Or.inl ⟨by decide, getD_ext z (fun j hj => r3 j (Nat.zero_le _) (by omega))⟩⟩
    · refine ⟨0, rfl, Or.inr ⟨rfl, fun y => r3 (fun j _ _ => by rw [y])⟩⟩
  · rw [if_neg (by rw [i32_eq (by omega) (by omega)]; exact z)]
    exact ⟨0, rfl, Or.inr ⟨rfl, fun y => z (by rw [y])⟩⟩
theorem l35_46_n (h : NmP L u cur I) {b2 b3 : Int32} : ∀ n k b5, k ≤ L.length → b5 + k ≤ L.length → k < n → (∃ i, i < k ∧ L[i]? = some cur ∧ l35_46 (Int32.ofNat cur.length) b2 b3 n (nxt L k (bk cur)) (Int32.ofNat b5) I = some (.inr (Int32.ofNat i, tresize I 39 (I 36 3)))) ∨ ((∀ i, i < k → L[i]? ≠ some cur) ∧ l35_46 (Int32.ofNat cur.length) b2 b3 n (nxt L k (bk cur)) (Int32.ofNat b5) I = some (.inl ())) := by
  have hL := h.1.2.1
  have h37 := h.1.1
  intro n
  induction n with
  | zero => intro k b5 g1 g2 g3; omega
  | succ n ih =>
    intro k b5 g1 g2 g3
    rcases nxt_or (L := L) k (bk cur) with ⟨e1, e2⟩ | ⟨i, e1, e2, e3, e4⟩
    · right
      refine ⟨fun i hi z => e2 i hi ?_, ?_⟩
      · rw [List.getD_eq_getElem?_getD, z]; rfl
      · rw [e1, l35_46, if_pos rfl]
    · have hi : L[i]? = some (L.getD i []) := by
        rw [List.getD_eq_getElem?_getD, List.getElem?_eq_getElem (by omega)]
        rfl
      obtain ⟨r, r1, r2⟩ := x37_n h hi
      rw [e2, l35_46, if_neg (i32_m1 (by omega)), h37, if_neg (by rw [i32_le (by omega) (by omega)]; omega), r1, Option.bind_some]
      rcases r2 with ⟨r3, r4⟩ | ⟨r3, r4⟩
      · left
        refine ⟨i, e1, by rw [hi, r4], ?_⟩
        rw [if_neg r3]
      · rw [if_pos r3]
        obtain ⟨o, b1, -, -, -, -, -, -, b8⟩ := h.1.2.2.2.2.1 i _ hi
        rw [b8, e3, i32_s]
        rcases ih i (b5 + 1) (by omega) (by omega) (by omega) with ⟨i', q1, q2, q3⟩ | ⟨q1, q2⟩
        · left
          exact ⟨i', by omega, q2, q3⟩
        · right
          refine ⟨fun i' hi' z => ?_, q2⟩
          rcases Nat.lt_trichotomy i' i with y | y | y
          · exact q1 i' y z
          · subst y
            rw [hi] at z
            cases z
            exact r4 rfl
          · exact e4 i' y hi' (by rw [List.getD_eq_getElem?_getD, z]; rfl)
theorem tok37 {i : Nat} {b : Int32} (hi : i < 1460) (h0 : ¬ b < 0) (h1 : ¬ 6 ≤ b) : tok 37 (Int32.ofNat i) b := by
  obtain ⟨s1, s2, s3, s4, s5, s6, -⟩ := sf37
  unfold tok
  rw [s1, s2]
  rintro (h | h | h | h)
  · exact i32_nn (by omega) h
  · rw [i32_le (by omega) (by omega)] at h; omega
  · exact h0 h
  · exact h1 h
theorem tok41 {i : Nat} (hi : i < 256) : tok 41 (Int32.ofNat i) 0 := by
  obtain ⟨s1, s2, s3, s4, s5, s6, s7, s8, s9⟩ := sf37
  exact tok_n (k := 41) (i := i) (j := 0) (by omega) (by omega) (by omega) (by omega)
theorem tres39 {n : Nat} (hn : n ≤ 4405) {I : St} : tresize I 39 (Int32.ofNat n) = up2 I 39 3 (Int32.ofNat n) := by
  obtain ⟨s1, s2, s3, s4, s5, s6, -⟩ := sf37
  exact tres_n (by omega) (by omega)
theorem x35_n (h : NmP L u cur I) (hl : L.length < 1460) : ∃ r J, x35 I = some (Int32.ofNat r, J) ∧ ((cur ∈ L ∧ L[r]? = some cur ∧ NmR L u J ∧ J 39 3 = Int32.ofNat u) ∨ (cur ∉ L ∧ r = L.length ∧ NmR (L ++ [cur]) (u + cur.length) J ∧ J 39 3 = Int32.ofNat (u + cur.length))) := by
  obtain ⟨s1, s2, s3, s4, s5, s6, s7, s8, s9⟩ := sf37
  obtain ⟨h1, h2, h3, h4, h5, h6, h7⟩ := id h
  obtain ⟨a1, a2, a3, a4, a5, a6⟩ := id h1
  obtain ⟨k1, k2⟩ := bk_I cur
  have e1 : (I 39 3) - (I 36 3) = Int32.ofNat cur.length := by
    rw [h4, h2, i32_sb (by omega)]
    congr 1
    omega
  have e2 : ((I 36 4) ^^^ (ushr (I 36 4) 8)) &&& 255 = Int32.ofNat (bk cur) := by rw [h3]; exact k1
  unfold x35
  rw [e1, e2, a6 _ k2]
  rcases l35_46_n h (b2 := Int32.ofNat (bk cur)) (b3 := nxt L L.length (bk cur)) 100000 L.length 0 (Nat.le_refl _) (by omega) (by omega) with ⟨i, q1, q2, q3⟩ | ⟨q1, q2⟩
  · have q3 : l35_46 (Int32.ofNat cur.length) (Int32.ofNat (bk cur)) (nxt L L.length (bk cur)) 100000 (nxt L L.length (bk cur)) 0 I = some (.inr (Int32.ofNat i, tresize I 39 (I 36 3))) := q3
    refine ⟨i, _, by rw [q3]; rfl, Or.inl ⟨List.mem_of_getElem? q2, q2, ?_, ?_⟩⟩
    · rw [h2, tres39 a3]
      exact h1.up (by decide) (by decide) (by decide) (by decide)
    · rw [h2, tres39 a3, up2_s]
  · have q2 : l35_46 (Int32.ofNat cur.length) (Int32.ofNat (bk cur)) (nxt L L.length (bk cur)) 100000 (nxt L L.length (bk cur)) 0 I = some (.inl ()) := q2
    have hnot : cur ∉ L := fun z => by
      obtain ⟨i, hi, z⟩ := List.getElem_of_mem z
      exact q1 i hi (by rw [List.getElem?_eq_getElem hi, z])
    obtain ⟨t1, t2⟩ := tadd_n a1 (by rw [s1]; exact hl) (by omega)
    rw [q2, t1, t2]
    refine ⟨L.length, _, rfl, Or.inr ⟨hnot, rfl, ?_, ?_⟩⟩
    · have g37 : ∀ (I' : St) (i : Nat) (c : Int32) (v : Int32) (d : Int32), i < L.length → tget (tset I' 37 (Int32.ofNat L.length) c v) 37 (Int32.ofNat i) d = tget I' 37 (Int32.ofNat i) d := fun I' i c v d hi => tget_ne (by decide) (by decide) (Or.inl (by rw [Ne, i32_eq (by omega) (by omega)]; omega))
      have c37 : ∀ (I' : St) (c d v : Int32), c ≠ d → tget (tset I' 37 (Int32.ofNat L.length) c v) 37 (Int32.ofNat L.length) d = tget I' 37 (Int32.ofNat L.length) d := fun I' c d v hcd => tget_ne (by decide) (by decide) (Or.inr hcd)
      have o41 : ∀ (I' : St) (a b c v : Int32) (d : Int32), tget (tset I' 41 a b c) 37 v d = tget I' 37 v d := fun I' a b c v d => tget_oth (by rw [s3, s9]; decide)
      have o41' : ∀ (I' : St) (a b c v : Int32) (d : Int32), tget (tset I' 41 a b c) 39 v d = tget I' 39 v d := fun I' a b c v d => tget_oth (by rw [s6, s9]; decide)
      have o37 : ∀ (I' : St) (a b c v : Int32) (d : Int32), tget (tset I' 37 a b c) 39 v d = tget I' 39 v d := fun I' a b c v d => tget_oth (by rw [s6, s3]; decide)
      have o37' : ∀ (I' : St) (a b c v : Int32) (d : Int32), tget (tset I' 37 a b c) 41 v d = tget I' 41 v d := fun I' a b c v d => tget_oth (by rw [s9, s3]; decide)
      have f37 : ∀ (I' : St) (a b c : Int32) (x y : Nat), x ≠ 38 → tset I' 37 a b c x y = I' x y := fun I' a b c x y hx => tset_fld (by rw [s3]; exact hx)
      have f41 : ∀ (I' : St) (a b c : Int32) (x y : Nat), x ≠ 42 → tset I' 41 a b c x y = I' x y := fun I' a b c x y hx => tset_fld (by rw [s9]; exact hx)
      have u37 : ∀ (v a b : Int32), tget (up2 I 37 3 v) 37 a b = tget I 37 a b := fun v a b => tget_up (by rw [s3]; decide)
      have u39 : ∀ (v a b : Int32), tget (up2 I 37 3 v) 39 a b = tget I 39 a b := fun v a b => tget_up (by rw [s6]; decide)
      have u41 : ∀ (v a b : Int32), tget (up2 I 37 3 v) 41 a b = tget I 41 a b := fun v a b => tget_up (by rw [s9]; decide)
      refine ⟨?_, ?_, h5, ?_, ?_, ?_⟩
      · rw [f41 _ _ _ _ _ _ (by decide), f37 _ _ _ _ _ _ (by decide), f37 _ _ _ _ _ _ (by decide), f37 _ _ _ _ _ _ (by decide), f37 _ _ _ _ _ _ (by decide), f37 _ _ _ _ _ _ (by decide), up2_s, List.length_append]
        rfl
      · rw [List.length_append]
        exact hl
      · rw [List.nodup_append]
        refine ⟨a4, by simp, ?_⟩
        intro a ha b hb
        rw [List.mem_singleton] at hb
        subst hb
        exact fun z => hnot (z ▸ ha)
      · intro i s hi
        rcases Nat.lt_or_ge i L.length with z | z
        · rw [List.getElem?_append_left z] at hi
          obtain ⟨o, b1, b2, b3, b4, b5, b6, b7, b8⟩ := a5 i s hi
          refine ⟨o, ?_, by omega, ?_, fun j hj => ?_, b5, ?_, ?_, ?_⟩
          · rw [o41, g37 _ _ _ _ _ z, g37 _ _ _ _ _ z, g37 _ _ _ _ _ z, g37 _ _ _ _ _ z, g37 _ _ _ _ _ z, u37]; exact b1
          · rw [o41, g37 _ _ _ _ _ z, g37 _ _ _ _ _ z, g37 _ _ _ _ _ z, g37 _ _ _ _ _ z, g37 _ _ _ _ _ z, u37]; exact b3
          · rw [o41', o37, o37, o37, o37, o37, u39]; exact b4 j hj
          · rw [o41, g37 _ _ _ _ _ z, g37 _ _ _ _ _ z, g37 _ _ _ _ _ z, g37 _ _ _ _ _ z, g37 _ _ _ _ _ z, u37]; exact b6
          · rw [o41, g37 _ _ _ _ _ z, g37 _ _ _ _ _ z, g37 _ _ _ _ _ z, g37 _ _ _ _ _ z, g37 _ _ _ _ _ z, u37]; exact b7
          · rw [o41, g37 _ _ _ _ _ z, g37 _ _ _ _ _ z, g37 _ _ _ _ _ z, g37 _ _ _ _ _ z, g37 _ _ _ _ _ z, u37, b8, nxt_app (by omega)]
        · have hi' : i = L.length := by
            have := (List.getElem?_eq_some_iff.mp hi).1
            rw [List.length_append] at this
            have this : i < L.length + 1 := this
            omega
          subst hi'
          rw [List.getElem?_append_right (Nat.le_refl _), Nat.sub_self] at hi
          have hi : cur = s := by simpa using hi
          subst hi
          refine ⟨u, ?_, Nat.le_refl _, ?_, fun j hj => ?_, h7, ?_, ?_, ?_⟩
          · rw [o41, c37 _ _ _ _ (by decide), c37 _ _ _ _ (by decide), tget_same (tok37 (b := 3) hl (by decide) (by decide)), f37 _ _ _ _ _ _ (by decide), f37 _ _ _ _ _ _ (by decide), up2_k _ _ _ _ _ _ (by decide)]; exact h2
          · rw [o41, c37 _ _ _ _ (by decide), tget_same (tok37 (b := 4) hl (by decide) (by decide))]
          · rw [o41', o37, o37, o37, o37, o37, u39]; exact h6 j hj
          · rw [o41, c37 _ _ _ _ (by decide), c37 _ _ _ _ (by decide), c37 _ _ _ _ (by decide), c37 _ _ _ _ (by decide), tget_same (tok37 (b := 0) hl (by decide) (by decide))]
          · rw [o41, c37 _ _ _ _ (by decide), c37 _ _ _ _ (by decide), c37 _ _ _ _ (by decide), tget_same (tok37 (b := 1) hl (by decide) (by decide))]
          · rw [o41, tget_same (tok37 (b := 5) hl (by decide) (by decide)), nxt_app (Nat.le_refl _)]
      · intro b hb
        rw [List.length_append]
        show _ = nxt (L ++ [cur]) (L.length + 1) b
        rw [nxt, nxt_app (Nat.le_refl _)]
        have ec : (L ++ [cur]).getD L.length [] = cur := by
          rw [List.getD_eq_getElem?_getD, List.getElem?_append_right (Nat.le_refl _), Nat.sub_self]
          rfl
        rw [ec]
        by_cases z : bk cur = b
        · subst z
          rw [if_pos rfl, tget_same (tok41 k2)]
        · rw [if_neg z, tget_ne (by decide) (by decide) (Or.inl (by rw [Ne, i32_eq (by omega) (by omega)]; exact z)), o37', o37', o37', o37', o37', u41]
          exact a6 b hb
    · rw [tset_fld (by rw [s9]; decide), tset_fld (by rw [s3]; decide), tset_fld (by rw [s3]; decide), tset_fld (by rw [s3]; decide), tset_fld (by rw [s3]; decide), tset_fld (by rw [s3]; decide), up2_k _ _ _ _ _ _ (by decide)]
      exact h4
end
