/-! THE REFERENCE's look() as a whole -/
section
variable {T : Tp} {L M : List (List Nat)} {K P Z u p n k s : Nat} {E F H G : Nat → Nat} {A B : St}
/-- what the reference has looked up -/
def LkB (Z n k s : Nat) (E F H G : Nat → Nat) (B J : St) : Prop := PAR (J (Z + 8)) (prn B Z) n ∧ (∀ m t j, m < k → G m ≤ t → t < G (m + 1) → j < 4 → J (Z + 40) (4 * t + j) = tto B Z n (H k) m t j) ∧ (∀ m i, m < k → F m ≤ i → i < F (m + 1) → CdR B Z n (E n) s k (H k) m i J) ∧ FrR Z B J
def RSt (Z n k s : Nat) (E F H : Nat → Nat) (B : St) (m : Nat) (S : Nat → Nat → Prop) (I : St) : Prop := NoR S I ∧ FrR Z B I ∧ PAR (I (Z + 8)) (prn B Z) n ∧ (∀ m' i, m' < m → F m' ≤ i → i < F (m' + 1) → CdR B Z n (E n) s k (H k) m' i I) ∧ ∀ i, F m ≤ i → I (Z + 27) i = B (Z + 27) i
set_option maxHeartbeats 4000000 in
theorem x215_w (hZ : Z = 85 ∨ Z = 126) (h : Bz L M P Z p n k k s E F H G A B) (h22 : B 82 22 = 0) (h5 : B 82 5 = 4001) : ∃ J, x215 Z B = some J ∧ NoR (SAll B Z n (E n) s k F H G) J ∧ LkB Z n k s E F H G B J := by
  obtain ⟨⟨hp, bM, nM⟩, hb, hf, hs, hc, hm, hz, hk, hl, ht, n1, n2, n3, n4, n5, n6, n7, n8⟩ := h
  have hZ2 : 85 ≤ Z := by omega
  obtain ⟨c1, c2, c3, c4⟩ := hc
  obtain ⟨m1, m2, m3, m4⟩ := hm
  obtain ⟨k1, k2, k3, k4, k5, k6⟩ := hk
  obtain ⟨l1, l2, l3, l4⟩ := hl
  obtain ⟨t1, t2, t3, t4, t5⟩ := ht
  have hE : ∀ c, c < n → E c ≤ E (c + 1) ∧ E (c + 1) ≤ E c + 8 := fun c hc => ⟨(c4 c hc).2.2.2.1, (c4 c hc).2.2.2.2.1⟩
  have eN := eB_le hE n5 n n1 (Nat.le_refl _)
  have hLb : Lb L M Z k F H A B := ⟨l3, l4⟩
  have hTb : Tb L M P Z k G A B := ⟨t4, t5⟩
  have hFk : ∀ m, m ≤ k → F m ≤ F k := fun m hm => mono_le (F := F) (k := k) (fun a ha => (k5 a ha).1) m k hm (Nat.le_refl _)
  have hGk : ∀ m, m ≤ k → G m ≤ G k := fun m hm => mono_le (F := G) (k := k) (fun a ha => (t5 a ha).1) m k hm (Nat.le_refl _)
  have hgl := hTb.le n3 (m := k) (Nat.le_refl _)
  have h36 : ∀ l, l < H k → ∃ x, x < 3000 ∧ B (Z + 36) l = Int32.ofNat x := fun l hl => by
    obtain ⟨m, q1, q2, q3⟩ := hLb.me hl
    obtain ⟨-, -, -, -, t, q4, q5, q6⟩ := (l4 m q1).2 l q2 q3
    have := hFk (m + 1) (by omega)
    exact ⟨F m + t, by omega, q6⟩
  have hme : ∀ t, t < G k → ∃ m, m < k ∧ G m ≤ t ∧ t < G (m + 1) := by
    intro t ht
    have : ∀ j, j ≤ k → t < G j → ∃ m, m < j ∧ G m ≤ t ∧ t < G (m + 1) := by
      intro j
      induction j with
      | zero => intro _ z; rw [t4] at z; omega
      | succ j ih =>
        intro z1 z2
        rcases Nat.lt_or_ge t (G j) with y | y
        · obtain ⟨m, a, b, c⟩ := ih (by omega) y
          exact ⟨m, by omega, b, c⟩
        · exact ⟨j, by omega, y, z2⟩
    exact this k (Nat.le_refl _) ht
  -- classes
  obtain ⟨J1, a1, a2, a3, a4⟩ := lr_c (A := A) (P := P) (B := B) hZ2 bM n2 c3 (fun c hc => (c4 c hc).1) (n - 7) 7 100000 B (by omega) (by omega) (by omega) ⟨fun _ _ _ _ => rfl, fun x z1 z2 => by omega, Or.inl ⟨fun q k' z => by obtain ⟨c, z1, z2⟩ := z; rcases z2 with z2 | z2 <;> exact absurd z2.1.1 (by omega), h22, h5⟩⟩
  have par1 : PAR (J1 (Z + 8)) (prn B Z) n := by
    refine ⟨?_, fun c z1 z2 => ⟨?_, prn_lt z1⟩⟩
    · rw [a2 _ _ (by omega) (by omega), ((c4 0 (by omega)).1.2.2.1 (by omega)).2.2.2]; rfl
    · rcases Nat.lt_or_ge c 7 with y | y
      · rw [a2 _ _ (by omega) (by omega), ((c4 c z2).1.2.2.1 y).2.2.2, if_neg (by omega)]
        unfold prn
        rw [if_pos y]
        by_cases y1 : c = 1
        · rw [if_pos y1, if_pos (by omega)]; rfl
        · rw [if_neg y1, if_neg (by omega)]; rfl
      · exact a3 c y z2
  -- members, labels
  obtain ⟨J2, b1, b2, b3⟩ := x215_m (Z := Z) (A := A) (B := J1) (N := E n + s + k) (hb.of Mo.rf (fun _ _ _ => rfl) (fun a b z => a2 a b (by omega) (by omega))) (by omega) (I := J1) ⟨a4, fun _ _ _ => rfl⟩
  obtain ⟨J3, d1, d2, d3⟩ := x215_l (B := J1) (N := H k) hZ2 (by rw [a2 _ _ (by omega) (by omega)]; exact l2) (fun i hi => by
    obtain ⟨m, q1, q2, q3⟩ := hLb.me hi
    rw [a2 _ _ (by omega) (by omega)]
    exact ((l4 m q1).2 i q2 q3).2.2.1) (by omega) (I := J2) ⟨b2, b3⟩
  rw [SM_of (fun a b z1 z2 => a2 a b (by omega) (by omega)), SL_of (fun a b z => a2 a b (by omega) (by omega))] at d2
  have f3 : ∀ a b, (a ≠ 82 ∨ (b ≠ 5 ∧ b ≠ 22)) → (a ≠ Z + 8 ∨ b < 7) → J3 a b = B a b := fun a b z1 z2 => (d3 a b z1).trans (a2 a b z1 z2)
  -- methods
  have stp := lpS (Y := l215_279 Z) (NO := fun m S I => RSt Z n k s E F H B m S I) (N := k) (T := fun m q k' => SV B Z k m q k' ∨ ∃ i, F m ≤ i ∧ i < F (m + 1) ∧ SIn B Z n (E n) s k (H k) m i q k') (fun b S S' I h e => ⟨h.1.ext e, h.2⟩) (fun f S I hI => by
      rw [l215_279, hI.2.1 _ _ (by omega) (by omega) (by omega) (by omega) (by omega), m3, if_pos (Int32.le_refl _)]) (fun f m S I hm hI => by
      obtain ⟨g1, g2, g3, g4, g5⟩ := hI
      obtain ⟨q1, q2, q3, q4, q5, q6, q7, q8, q9⟩ := m4 m hm
      obtain ⟨zz1, zz2, zz3⟩ := hz m hm
      have hmn : cmn B Z m < n := by
        obtain ⟨c, -, y1, y2⟩ := n8 m hm
        unfold cmn
        rw [y2, i32_cl (by omega)]
        exact y1
      have hFm := (k5 m hm).1
      have hF2 := hFk (m + 1) (by omega)
      obtain ⟨I1, r1, r2, r3⟩ := x218_l hZ2 n2 n3 m3 hm q1 hmn g1 g2 g3
      have g2' : FrR Z B I1 := fun a b z1 z2 z3 z4 z5 => (r3 a b z1).trans (g2 a b z1 z2 z3 z4 z5)
      have inn := lpS (Y := l215_305 Z (Int32.ofNat m)) (NO := fun i S I => F m ≤ i ∧ NoR S I ∧ FrR Z B I ∧ PAR (I (Z + 8)) (prn B Z) n ∧ (∀ i', F m ≤ i' → i' < i → CdR B Z n (E n) s k (H k) m i' I) ∧ (∀ i', i ≤ i' → I (Z + 27) i' = B (Z + 27) i') ∧ ∀ a b, (a = Z + 33 ∨ a = Z + 27) → b < F m → I a b = I1 a b) (N := F (m + 1)) (T := fun i => SIn B Z n (E n) s k (H k) m i) (fun b S S' I h e => ⟨h.1, h.2.1.ext e, h.2.2⟩) (fun f S I hI => by
        obtain ⟨-, -, y3, -⟩ := hI
        have hin : inb (Int32.ofNat m) 24 := (i32_inb (by omega)).mpr (by omega)
        have hcl : (Int32.ofNat m).toNatClampNeg = m := i32_cl (by omega)
        rw [l215_305]
        simp only [if_pos hin, hcl]
        rw [y3 (Z + 21) _ (by omega) (by omega) (by omega) (by omega) (by omega), y3 (Z + 22) _ (by omega) (by omega) (by omega) (by omega) (by omega), q4, zz1, i32_a, show F m + (F (m + 1) - F m) = F (m + 1) by omega, if_pos (Int32.le_refl _)]) (fun f i S I hi hI => by
        obtain ⟨y1, y2, y3, y4, y5, y6, y7⟩ := hI
        have hin : inb (Int32.ofNat m) 24 := (i32_inb (by omega)).mpr (by omega)
        have hcl : (Int32.ofNat m).toNatClampNeg = m := i32_cl (by omega)
        obtain ⟨J, j1, j2, j3, j4, j5⟩ := x220_l (m := m) (nf := E n) (s := s) (k := k) (N := H k) hZ2 l2 (by omega) c3 n2 (by omega) n4 n3 hf.2.1 hs.2.1 m3 (show i < 1333 by omega) (k6 i (by omega)) h36 y2 y3 y4 (y6 i (Nat.le_refl _))
        refine ⟨J, ?_, by omega, j2, j3, ⟨by rw [j5 _ _ (by omega) (by omega)]; exact y4.1, fun c z1 z2 => by rw [j5 _ _ (by omega) (by omega)]; exact y4.2 c z1 z2⟩, fun i' z1 z2 => ?_, fun i' z => ?_, fun a b z1 z2 => ?_⟩
        · rw [l215_305]
          simp only [if_pos hin, hcl]
          rw [y3 (Z + 21) _ (by omega) (by omega) (by omega) (by omega) (by omega), y3 (Z + 22) _ (by omega) (by omega) (by omega) (by omega) (by omega), q4, zz1, i32_a, show F m + (F (m + 1) - F m) = F (m + 1) by omega, if_neg (by rw [i32_le (by omega) (by omega)]; omega), j1, Option.bind_some, i32_s]
        · rcases Nat.lt_or_ge i' i with y | y
          · have := y5 i' z1 y
            unfold CdR at this ⊢
            rw [j5 _ _ (by omega) (by omega), j5 _ _ (by omega) (by omega)]
            exact this
          · obtain rfl : i' = i := by omega
            exact j4
        · rw [j5 _ _ (by omega) (by omega)]
          exact y6 i' (by omega)
        · rw [j5 _ _ (by omega) (by omega)]
          exact y7 a b z1 z2)
      obtain ⟨I2, s1, s2, s3, s4, s5, s6, s7, s8⟩ := inn (F (m + 1) - F m) (F m) 100000 _ I1 (by omega) (by omega) ⟨Nat.le_refl _, r2, g2', ⟨by rw [r3 _ _ (by omega)]; exact g3.1, fun c z1 z2 => by rw [r3 _ _ (by omega)]; exact g3.2 c z1 z2⟩, fun i' z1 z2 => by omega, fun i' z => by rw [r3 _ _ (by omega)]; exact g5 i' z, fun _ _ _ _ => rfl⟩
      refine ⟨I2, ?_, s3.ext (fun q k' => ?_), s4, s5, fun m' i z1 z2 z3 => ?_, s7⟩
      · have hin : inb (Int32.ofNat m) 24 := (i32_inb (by omega)).mpr (by omega)
        have hcl : (Int32.ofNat m).toNatClampNeg = m := i32_cl (by omega)
        rw [l215_279, g2 _ _ (by omega) (by omega) (by omega) (by omega) (by omega), m3, if_neg (by rw [i32_le (by omega) (by omega)]; omega), r1, Option.bind_some]
        simp only [if_pos hin, hcl]
        rw [g2' (Z + 21) _ (by omega) (by omega) (by omega) (by omega) (by omega), q4, s1, Option.bind_some, i32_s]
      · unfold UnS
        constructor
        · rintro ((z | z) | z)
          · exact Or.inl z
          · exact Or.inr (Or.inl z)
          · exact Or.inr (Or.inr z)
        · rintro (z | z | z)
          · exact Or.inl (Or.inl z)
          · exact Or.inl (Or.inr z)
          · exact Or.inr z
      · rcases Nat.lt_or_ge m' m with y | y
        · have hG := mono_le (F := F) (k := k) (fun a ha => (k5 a ha).1) (m' + 1) m (by omega) (by omega)
          have := g4 m' i y z2 z3
          unfold CdR at this ⊢
          rw [s8 _ _ (by omega) (by omega), s8 _ _ (by omega) (by omega), r3 _ _ (by omega), r3 _ _ (by omega)]
          exact this
        · obtain rfl : m' = m := by omega
          exact s6 i z2 z3)
  have frJ3 : FrR Z B J3 := fun a b z1 z2 z3 z4 z5 => f3 a b z1 (by omega)
  obtain ⟨J4, e1, e2, e3, e4, e5, e6⟩ := stp k 0 100000 _ J3 (by omega) (by omega) ⟨d2, frJ3, ⟨by rw [d3 _ _ (by omega)]; exact par1.1, fun c z1 z2 => by rw [d3 _ _ (by omega)]; exact par1.2 c z1 z2⟩, fun m' i z => by omega, fun i z => f3 _ _ (by omega) (by omega)⟩
  -- tries
  have trs := lpS (Y := l215_348 Z) (NO := fun t S I => NoR S I ∧ FrR Z B I ∧ (∀ a b, (a = Z + 33 ∨ a = Z + 27 ∨ a = Z + 8) → I a b = J4 a b) ∧ ∀ m' t' j, m' < k → G m' ≤ t' → t' < G (m' + 1) → t' < t → j < 4 → I (Z + 40) (4 * t' + j) = tto B Z n (H k) m' t' j) (N := G k) (T := fun t q k' => ∃ m, m < k ∧ G m ≤ t ∧ t < G (m + 1) ∧ STr B Z n (H k) m t q k') (fun b S S' I h e => ⟨h.1.ext e, h.2⟩) (fun f S I hI => by
      rw [l215_348, hI.2.1 _ _ (by omega) (by omega) (by omega) (by omega) (by omega), t3, if_pos (Int32.le_refl _)]) (fun f t S I ht hI => by
      obtain ⟨y1, y2, y3, y4⟩ := hI
      obtain ⟨m, q1, q2, q3⟩ := hme t ht
      obtain ⟨r1, r2⟩ := (t5 m q1).2.2 t q2 q3
      obtain ⟨J, j1, j2, j3, j4, j5⟩ := x224_l (m := m) (N := H k) hZ2 l2 (by omega) c3 n2 (show t < 192 by omega) r1 (fun j hj => (r2 j hj).2.2) h36 y1 y2
      have uni : ∀ m', m' < k → G m' ≤ t → t < G (m' + 1) → m' = m := fun m' z1 z2 z3 => by
        have := ((t5 m' z1).2.2 t z2 z3).1
        rw [r1, i32_eq (by omega) (by omega)] at this
        exact this.symm
      refine ⟨J, ?_, j2.ext (fun q k' => ?_), j3, fun a b z => by rw [j5 _ _ (by omega) (by omega)]; exact y3 a b z, fun m' t' j z1 z2 z3 z4 z5 => ?_⟩
      · rw [l215_348, y2 _ _ (by omega) (by omega) (by omega) (by omega) (by omega), t3, if_neg (by rw [i32_le (by omega) (by omega)]; omega), j1, Option.bind_some, i32_s]
      · unfold UnS
        constructor
        · rintro (z | z)
          · exact Or.inl z
          · exact Or.inr ⟨m, q1, q2, q3, z⟩
        · rintro (z | ⟨m', z1, z2, z3, z4⟩)
          · exact Or.inl z
          · rw [uni m' z1 z2 z3] at z4
            exact Or.inr z4
      · rcases Nat.lt_or_ge t' t with y | y
        · rw [j5 _ _ (by omega) (by omega)]
          exact y4 m' t' j z1 z2 z3 y z5
        · obtain rfl : t' = t := by omega
          rw [uni m' z1 z2 z3]
          exact j4 j z5)
  obtain ⟨J5, g1, g2, g3, g4, g5⟩ := trs (G k) 0 100000 _ J4 (by omega) (by omega) ⟨e2, e3, fun _ _ _ => rfl, fun m' t' j z1 z2 z3 z4 => by omega⟩
  refine ⟨J5, ?_, g2.ext (fun q k' => ?_), ⟨by rw [g4 _ _ (by omega)]; exact e4.1, fun c z1 z2 => by rw [g4 _ _ (by omega)]; exact e4.2 c z1 z2⟩, fun m t j z1 z2 z3 z4 => g5 m t j z1 z2 z3 (by have := hGk (m + 1) (by omega); omega) z4, fun m i z1 z2 z3 => ?_, g3⟩
  · unfold x215
    rw [show (7 : Int32) = Int32.ofNat 7 from rfl, a1, Option.bind_some, b1, Option.bind_some, d1, Option.bind_some, show (0 : Int32) = Int32.ofNat 0 from rfl, e1, Option.bind_some, g1, Option.bind_some]
  · unfold SAll UnS SAm
    constructor
    · rintro (((((z | z) | z) | ⟨m, -, z1, (z | z)⟩)) | ⟨t, -, z1, m, z2, z3, z4, z5⟩)
      · exact Or.inl z
      · exact Or.inr (Or.inl z)
      · obtain ⟨i, z1, z2⟩ := z
        obtain ⟨m, q1, q2, q3⟩ := hLb.me z1
        exact Or.inr (Or.inr ⟨m, q1, Or.inr (Or.inl ⟨i, q2, q3, z2⟩)⟩)
      · exact Or.inr (Or.inr ⟨m, z1, Or.inl z⟩)
      · exact Or.inr (Or.inr ⟨m, z1, Or.inr (Or.inr (Or.inr z))⟩)
      · exact Or.inr (Or.inr ⟨m, z2, Or.inr (Or.inr (Or.inl ⟨t, z3, z4, z5⟩))⟩)
    · rintro (z | z | ⟨m, z1, (z | ⟨i, q1, q2, q3⟩ | ⟨t, q1, q2, q3⟩ | z)⟩)
      · exact Or.inl (Or.inl (Or.inl (Or.inl z)))
      · exact Or.inl (Or.inl (Or.inl (Or.inr z)))
      · exact Or.inl (Or.inr ⟨m, by omega, z1, Or.inl z⟩)
      · have := mono_le (F := H) (k := k) (fun a ha => (l4 a ha).1) (m + 1) k (by omega) (Nat.le_refl _)
        exact Or.inl (Or.inl (Or.inr ⟨i, by omega, q3⟩))
      · have := hGk (m + 1) (by omega)
        exact Or.inr ⟨t, by omega, by omega, m, z1, q1, q2, q3⟩
      · exact Or.inl (Or.inr ⟨m, by omega, z1, Or.inr z⟩)
  · have := e5 m i z1 z2 z3
    unfold CdR at this ⊢
    rw [g4 _ _ (by omega), g4 _ _ (by omega)]
    exact this
end
