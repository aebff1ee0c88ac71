/-! THE CLASS'S NAMES: a row of strings, found again by hash chains -/
def hs (s : List Nat) : Int32 := s.foldl (fun h c => h * 31 + Int32.ofNat c) 0
def bkI (h : Int32) : Int32 := (h ^^^ ushr h 8) &&& 255
def bk (s : List Nat) : Nat := (bkI (hs s)).toNatClampNeg
theorem and255 (x : Int32) : (x &&& 255) = Int32.ofNat (x &&& 255).toNatClampNeg ∧ (x &&& 255).toNatClampNeg < 256 := by
  have h1 : (x &&& 255).toBitVec.toNat ≤ 255 := by
    have : (x &&& 255).toBitVec = x.toBitVec &&& (255 : Int32).toBitVec := rfl
    rw [this, BitVec.toNat_and]
    exact Nat.le_trans Nat.and_le_right (by decide)
  have h2 : (x &&& 255).toInt = ((x &&& 255).toBitVec.toNat : Int) := by
    show (x &&& 255).toBitVec.toInt = _
    rw [BitVec.toInt_eq_toNat_of_lt (by omega)]
  have h3 : ¬ (x &&& 255) < 0 := by
    rw [Int32.lt_iff_toInt_lt, h2]
    show ¬ _ < (0 : Int)
    omega
  refine ⟨i32_nc h3, ?_⟩
  show (x &&& 255).toInt.toNat < 256
  rw [h2]
  omega
theorem bk_I (s : List Nat) : bkI (hs s) = Int32.ofNat (bk s) ∧ bk s < 256 := and255 _
/-- the greatest number below n of a string in bucket b -/
def nxt (L : List (List Nat)) : Nat → Nat → Int32
  | 0, _ => -1
  | n + 1, b => if bk (L.getD n []) = b then Int32.ofNat n else nxt L n b
theorem nxt_app {L : List (List Nat)} {s : List Nat} : ∀ {n b : Nat}, n ≤ L.length → nxt (L ++ [s]) n b = nxt L n b := by
  intro n
  induction n with
  | zero => intro b h; rfl
  | succ n ih =>
    intro b h
    have e : (L ++ [s]).getD n [] = L.getD n [] := by
      rw [List.getD_eq_getElem?_getD, List.getD_eq_getElem?_getD, List.getElem?_append_left (by omega)]
    rw [nxt, nxt, e, ih (by omega)]
theorem nxt_or {L : List (List Nat)} : ∀ (n b : Nat), (nxt L n b = -1 ∧ ∀ j, j < n → bk (L.getD j []) ≠ b) ∨ (∃ i, i < n ∧ nxt L n b = Int32.ofNat i ∧ bk (L.getD i []) = b ∧ ∀ j, i < j → j < n → bk (L.getD j []) ≠ b) := by
  intro n
  induction n with
  | zero => intro b; exact Or.inl ⟨rfl, fun j h => by omega⟩
  | succ n ih =>
    intro b
    by_cases z : bk (L.getD n []) = b
    · right
      refine ⟨n, by omega, ?_, z, fun j h1 h2 => by omega⟩
      rw [nxt, if_pos z]
    · rcases ih b with ⟨h1, h2⟩ | ⟨i, h1, h2, h3, h4⟩
      · left
        refine ⟨by rw [nxt, if_neg z]; exact h1, fun j hj => ?_⟩
        rcases Nat.lt_or_ge j n with y | y
        · exact h2 j y
        · have : j = n := by omega
          rw [this]; exact z
      · right
        refine ⟨i, by omega, by rw [nxt, if_neg z]; exact h2, h3, fun j g1 g2 => ?_⟩
        rcases Nat.lt_or_ge j n with y | y
        · exact h4 j g1 y
        · have : j = n := by omega
          rw [this]; exact z
/-- the table of names holds the strings L, in u signs -/
def NmR (L : List (List Nat)) (u : Nat) (I : St) : Prop :=
  I 37 3 = Int32.ofNat L.length ∧ L.length ≤ 1460 ∧ u ≤ 4405 ∧ L.Nodup ∧
  (∀ i s, L[i]? = some s → ∃ o, tget I 37 (Int32.ofNat i) 3 = Int32.ofNat o ∧ o + s.length ≤ u ∧ tget I 37 (Int32.ofNat i) 4 = Int32.ofNat s.length ∧ (∀ j, j < s.length → tget I 39 (Int32.ofNat (o + j)) 0 = Int32.ofNat (s.getD j 0)) ∧ (∀ j, j < s.length → s.getD j 0 < 256) ∧ tget I 37 (Int32.ofNat i) 0 = -1 ∧ tget I 37 (Int32.ofNat i) 1 = -1 ∧ tget I 37 (Int32.ofNat i) 5 = nxt L i (bk s)) ∧
  (∀ b, b < 256 → tget I 41 (Int32.ofNat b) 0 = nxt L L.length b)
/-- .. and the signs cur have been put since begin() -/
def NmP (L : List (List Nat)) (u : Nat) (cur : List Nat) (I : St) : Prop :=
  NmR L u I ∧ I 36 3 = Int32.ofNat u ∧ I 36 4 = hs cur ∧ I 39 3 = Int32.ofNat (u + cur.length) ∧ u + cur.length ≤ 4405 ∧ (∀ j, j < cur.length → tget I 39 (Int32.ofNat (u + j)) 0 = Int32.ofNat (cur.getD j 0)) ∧ (∀ j, j < cur.length → cur.getD j 0 < 256)
theorem sf37 : sf 37 0 = 1460 ∧ sf 37 1 = 6 ∧ sf 37 2 = 38 ∧ sf 39 0 = 4405 ∧ sf 39 1 = 1 ∧ sf 39 2 = 40 ∧ sf 41 0 = 256 ∧ sf 41 1 = 1 ∧ sf 41 2 = 42 := by decide
theorem NmR.up {L : List (List Nat)} {u k j : Nat} {I : St} {v : Int32} (h : NmR L u I) (h1 : ¬ (k = 37 ∧ j = 3)) (h2 : k ≠ 38) (h3 : k ≠ 40) (h4 : k ≠ 42) : NmR L u (up2 I k j v) := by
  obtain ⟨s1, s2, s3, s4, s5, s6, s7, s8, s9⟩ := sf37
  obtain ⟨a1, a2, a3, a4, a5, a6⟩ := h
  have t37 : ∀ a b, tget (up2 I k j v) 37 a b = tget I 37 a b := fun a b => tget_up (by rw [s3]; exact h2)
  have t39 : ∀ a b, tget (up2 I k j v) 39 a b = tget I 39 a b := fun a b => tget_up (by rw [s6]; exact h3)
  have t41 : ∀ a b, tget (up2 I k j v) 41 a b = tget I 41 a b := fun a b => tget_up (by rw [s9]; exact h4)
  refine ⟨?_, a2, a3, a4, ?_, ?_⟩
  · rw [← a1]
    by_cases z : k = 37
    · subst z
      exact up2_j _ _ _ _ _ (fun y => h1 ⟨rfl, y.symm⟩)
    · exact up2_k _ _ _ _ _ _ (Ne.symm z)
  · intro i s hi
    simp only [t37, t39]
    exact a5 i s hi
  · intro b hb
    rw [t41]
    exact a6 b hb
theorem x29_n {L : List (List Nat)} {u : Nat} {I : St} (h : NmR L u I) (hu : I 39 3 = Int32.ofNat u) : ∃ J, x29 I = some J ∧ NmP L u [] J := by
  refine ⟨_, rfl, ?_⟩
  refine ⟨(h.up (by decide) (by decide) (by decide) (by decide)).up (by decide) (by decide) (by decide) (by decide), ?_, rfl, ?_, ?_, (fun j hj => absurd hj (Nat.not_lt_zero _)), (fun j hj => absurd hj (Nat.not_lt_zero _))⟩
  · rw [up2_j _ _ _ _ _ (by decide), up2_s, hu]
  · rw [up2_k _ _ _ _ _ _ (by decide), up2_k _ _ _ _ _ _ (by decide), hu]
    rfl
  · have := h.2.2.1
    simpa using this
theorem hs_s {s : List Nat} {c : Nat} : hs (s ++ [c]) = hs s * 31 + Int32.ofNat c := by
  unfold hs
  rw [List.foldl_append]
  rfl
theorem tok39 {i : Nat} (h : i < 4405) : tok 39 (Int32.ofNat i) 0 := by
  obtain ⟨s1, s2, s3, s4, s5, s6, -⟩ := sf37
  exact tok_n (k := 39) (i := i) (j := 0) (by omega) (by omega) (by omega) (by omega)
theorem x38_n {L : List (List Nat)} {u c : Nat} {cur : List Nat} {I : St} (h : NmP L u cur I) (hc : c < 256) (hl : u + cur.length < 4405) : ∃ J, x38 I (Int32.ofNat c) = some J ∧ NmP L u (cur ++ [c]) J := by
  obtain ⟨s1, s2, s3, s4, s5, s6, s7, s8, s9⟩ := sf37
  obtain ⟨h1, h2, h3, h4, h5, h6, h7⟩ := h
  obtain ⟨e1, e2⟩ := tadd_n h4 (by rw [s4]; exact hl) (by omega)
  refine ⟨_, rfl, ?_⟩
  rw [e1, e2]
  have hR : NmR L u (tset (up2 I 39 3 (Int32.ofNat (u + cur.length + 1))) 39 (Int32.ofNat (u + cur.length)) 0 (Int32.ofNat c)) := by
    have g := h1.up (k := 39) (j := 3) (v := Int32.ofNat (u + cur.length + 1)) (by decide) (by decide) (by decide) (by decide)
    obtain ⟨a1, a2, a3, a4, a5, a6⟩ := g
    refine ⟨by rw [tset_fld (by rw [s6]; decide)]; exact a1, a2, a3, a4, ?_, ?_⟩
    · intro i s hi
      obtain ⟨o, b1, b2, b3, b4, b5, b6⟩ := a5 i s hi
      refine ⟨o, by rw [tget_oth (by rw [s3, s6]; decide)]; exact b1, b2, by rw [tget_oth (by rw [s3, s6]; decide)]; exact b3, fun j hj => ?_, b5, ?_⟩
      · rw [tget_ne (by decide) (by decide) (Or.inl (by rw [Ne, i32_eq (by omega) (by omega)]; omega))]
        exact b4 j hj
      · rw [tget_oth (by rw [s3, s6]; decide), tget_oth (by rw [s3, s6]; decide), tget_oth (by rw [s3, s6]; decide)]
        exact b6
    · intro b hb
      rw [tget_oth (by rw [s6, s9]; decide)]
      exact a6 b hb
  have f36 : ∀ j, tset (up2 I 39 3 (Int32.ofNat (u + cur.length + 1))) 39 (Int32.ofNat (u + cur.length)) 0 (Int32.ofNat c) 36 j = I 36 j := fun j => by
    rw [tset_fld (by rw [s6]; decide), up2_k _ _ _ _ _ _ (by decide)]
  refine ⟨hR.up (by decide) (by decide) (by decide) (by decide), ?_, ?_, ?_, ?_, ?_, ?_⟩
  · rw [up2_j _ _ _ _ _ (by decide), f36]; exact h2
  · rw [up2_s, f36, h3, hs_s]
  · rw [up2_k _ _ _ _ _ _ (by decide), tset_fld (by rw [s6]; decide), up2_s, List.length_append]
    rfl
  · rw [List.length_append]
    exact hl
  · intro j hj
    rw [List.length_append] at hj
    have hj : j < cur.length + 1 := hj
    rw [tget_up (by rw [s6]; decide)]
    rcases Nat.lt_or_ge j cur.length with z | z
    · rw [tget_ne (by decide) (by decide) (Or.inl (by rw [Ne, i32_eq (by omega) (by omega)]; omega)), tget_up (by rw [s6]; decide), h6 j z, List.getD_eq_getElem?_getD, List.getD_eq_getElem?_getD, List.getElem?_append_left z]
    · have : j = cur.length := by omega
      subst this
      rw [tget_same (tok39 hl), List.getD_eq_getElem?_getD, List.getElem?_append_right (Nat.le_refl _)]
      simp
  · intro j hj
    rw [List.length_append] at hj
    have hj : j < cur.length + 1 := hj
    rcases Nat.lt_or_ge j cur.length with z | z
    · rw [List.getD_eq_getElem?_getD, List.getElem?_append_left z, ← List.getD_eq_getElem?_getD]
      exact h7 j z
    · have : j = cur.length := by omega
      subst this
      rw [List.getD_eq_getElem?_getD, List.getElem?_append_right (Nat.le_refl _)]
      simpa using hc
