/-! THE CLASS's linker as a whole -/
/-- all that is noted: classes, members, then m methods' virtuals, labels, tries, instructions -/
def SAm (B : St) (Z n nf s k N : Nat) (F H G : Nat → Nat) (m : Nat) : Nat → Nat → Prop := fun q k' => SV B Z k m q k' ∨ SLm B Z (H m) (H (m + 1)) q k' ∨ (∃ t, G m ≤ t ∧ t < G (m + 1) ∧ STr B Z n N m t q k') ∨ ∃ i, F m ≤ i ∧ i < F (m + 1) ∧ SIn B Z n nf s k N m i q k'
section
variable {L M : List (List Nat)} {P Z k n nf s : Nat} {F H G : Nat → Nat} {A B I : St} {S : Nat → Nat → Prop}
/-- while methods are linked: m done -/
def MS (L M : List (List Nat)) (P Z n nf s k : Nat) (F H G : Nat → Nat) (A A2 B : St) (m : Nat) (S : Nat → Nat → Prop) (I : St) : Prop := NoC S I ∧ (∀ a b, a ≠ 57 → (a ≠ 38 ∨ (b % 6 ≠ 1 ∧ b % 6 ≠ 2)) → a ≠ P + 10 → a ≠ P + 12 → I a b = A2 a b) ∧ (m < k → NmL L M Z B A m (H m) I) ∧ NmC L M Z B I n ∧ (∀ m' t, m' < m → G m' ≤ t → t < G (m' + 1) → TrL B Z n (H k) m' t P A I) ∧ (∀ b, 4 * G m ≤ b → I (P + 12) b = A (P + 12) b) ∧ (∀ m' i, m' < m → F m' ≤ i → i < F (m' + 1) → CdL B Z n nf s k (H k) m' i P A I) ∧ ∀ b, (3 * F m ≤ b ∨ b % 3 = 0) → I (P + 10) b = A (P + 10) b
/-- what A2 (classes, fields, members looked at) keeps of A -/
def A2k (P : Nat) (A A2 : St) : Prop := ∀ a b, a ≠ 57 → (a ≠ P + 2 ∨ (b % 6 ≠ 0 ∧ b % 6 ≠ 4)) → (a ≠ 38 ∨ b % 6 ≠ 0) → (a ≠ P + 4 ∨ b % 5 ≠ 4) → A2 a b = A a b
set_option maxHeartbeats 4000000 in
theorem ms_s (hP : P = 3 ∨ P = 18) (bL : L.length ≤ 1460) (nL : L.Nodup) (bM : M.length ≤ 2000) (nM : M.Nodup) (hLb : Lb L M Z k F H A B) (hTb : Tb L M P Z k G A B) (hk : k ≤ 24) (hn : n ≤ 19) (hnf : nf ≤ 96) (hs : s ≤ 16) (hH : H k ≤ 1280) {A2 : St} (h2 : A2k P A A2) (hC : CdC L M P Z n nf s k A2 B) (hMk : CMk P Z k A B) (hMB : MB Z k n B) (hCM : ∀ m, m < k → A (P + 8) (16 * m + 5) = Int32.ofNat (F m) ∧ A (P + 8) (16 * m + 6) = Int32.ofNat (F (m + 1) - F m) ∧ A (P + 8) (16 * m + 7) = Int32.ofNat (G m) ∧ A (P + 8) (16 * m + 8) = Int32.ofNat (G (m + 1) - G m) ∧ A 49 (4 * m + 2) = Int32.ofNat (H m) ∧ A 49 (4 * m + 3) = Int32.ofNat (H (m + 1) - H m)) (hF : ∀ m, m < k → F m ≤ F (m + 1)) (hF2 : F k ≤ 1280) (hK : ∀ i, i < F k → K1 L M P Z i A B) {m f : Nat} (hm : m < k) (hI : MS L M P Z n nf s k F H G A A2 B m S I) : ∃ J, l81_52 P (f + 1) (Int32.ofNat m) I = l81_52 P f (Int32.ofNat (m + 1)) J ∧ MS L M P Z n nf s k F H G A A2 B (m + 1) (UnS S (SAm B Z n nf s k (H k) F H G m)) J := by
  have hP2 : 3 ≤ P ∧ P ≤ 18 := by omega
  have hP' : Hid (P = 3 ∨ P = 18) := hP
  clear hP
  have hP : P = 3 ∨ P = 18 := hP'
  obtain ⟨g1, g2, g3, g4, g5, g6, g7, g8⟩ := hI
  obtain ⟨i1, i2, i3, i4, i5, i6⟩ := hCM m hm
  have Fm := mono_le (F := F) (k := k) hF (m + 1) k (by omega) (Nat.le_refl _)
  have hFm := hF m hm
  have hmn : cmn B Z m < n := by
    obtain ⟨c, -, c1, c2⟩ := hMB m hm
    unfold cmn
    rw [c2, i32_cl (by omega)]
    exact c1
  clear hP
  have hCI : CdC L M P Z n nf s k I B := hC.of (fun a b z => g2 a b (by omega) (by omega) (by omega) (by omega))
  obtain ⟨J1, a1, a2, a3⟩ := x86_l (hP') bL nL bM nM hn hk hCI (hMk.of (fun b => by rw [g2 _ _ (by omega) (by omega) (by omega) (by omega), h2 _ _ (by omega) (by omega) (by omega) (by omega)])) hm hmn g1
  have f1 : ∀ a b, a ≠ 57 → (a ≠ 38 ∨ (b % 6 ≠ 1 ∧ b % 6 ≠ 2)) → a ≠ P + 10 → a ≠ P + 12 → J1 a b = A2 a b := fun a b z1 z2 z3 z4 => (a3 a b z1).trans (g2 a b z1 z2 z3 z4)
  obtain ⟨J2, b1, b2, b3, b4⟩ := x90_l (A2 := J1) bL nL bM nM hLb hm hk hH ⟨by rw [f1 _ _ (by omega) (by omega) (by omega) (by omega), h2 _ _ (by omega) (by omega) (by omega) (by omega)]; exact i5, by rw [f1 _ _ (by omega) (by omega) (by omega) (by omega), h2 _ _ (by omega) (by omega) (by omega) (by omega)]; exact i6⟩ (fun b => by rw [f1 _ _ (by omega) (by omega) (by omega) (by omega), h2 _ _ (by omega) (by omega) (by omega) (by omega)]) (I := J1) ⟨a2, fun _ _ _ _ => rfl, (g3 hm).of (fun b => a3 _ _ (by omega))⟩
  have f2 : ∀ a b, a ≠ 57 → (a ≠ 38 ∨ (b % 6 ≠ 1 ∧ b % 6 ≠ 2)) → J2 a b = I a b := fun a b z1 z2 => (b3 a b z1 z2).trans (a3 a b z1)
  have nc2 : NmC L M Z B J2 n := fun i j s z1 z2 => by rw [f2 _ _ (by omega) (by omega)]; exact g4 i j s z1 z2
  have k2 : ∀ a b, a ≠ 57 → (a ≠ 38 ∨ (b % 6 ≠ 1 ∧ b % 6 ≠ 2)) → a ≠ P + 10 → a ≠ P + 12 → J2 a b = A2 a b := fun a b z1 z2 z3 z4 => (f2 a b z1 z2).trans (g2 a b z1 z2 z3 z4)
  obtain ⟨J3, c1, c2, c3, c4, c5, c6, c7⟩ := x91_l (A3 := J2) (I := J2) hP' hP2 bL hLb hm hk hn (by omega) (fun b => by rw [k2 _ _ (by omega) (by omega) (by omega) (by omega), h2 _ _ (by omega) (by omega) (by omega) (by omega)]) hTb (fun t z1 z2 j hj => by rw [f2 _ _ (by omega) (by omega)]; exact g6 _ (by omega)) ⟨by rw [k2 _ _ (by omega) (by omega) (by omega) (by omega), h2 _ _ (by omega) (by omega) (by omega) (by omega)]; exact i3, by rw [k2 _ _ (by omega) (by omega) (by omega) (by omega), h2 _ _ (by omega) (by omega) (by omega) (by omega)]; exact i4⟩ ⟨b2, fun _ _ _ _ => rfl, b4, nc2, fun t z1 z2 => by omega, fun _ _ => rfl⟩
  have f3 : ∀ a b, a ≠ 57 → (a ≠ 38 ∨ (b % 6 ≠ 1 ∧ b % 6 ≠ 2)) → a ≠ P + 12 → J3 a b = I a b := fun a b z1 z2 z3 => (c3 a b z1 z3).trans (f2 a b z1 z2)
  have k3 : ∀ a b, a ≠ 57 → (a ≠ 38 ∨ (b % 6 ≠ 1 ∧ b % 6 ≠ 2)) → a ≠ P + 10 → a ≠ P + 12 → J3 a b = A2 a b := fun a b z1 z2 z3 z4 => (f3 a b z1 z2 z4).trans (g2 a b z1 z2 z3 z4)
  obtain ⟨J4, d1, d2, d3, d4, d5, d6, d7⟩ := x94_l (A4 := J3) (I := J3) hP' hP2 bL nL bM nM hLb hm hk hn hnf hs (hC.of (fun a b z => k3 a b (by omega) (by omega) (by omega) (by omega))) hFm (by omega) (fun b => by rw [k3 _ _ (by omega) (by omega) (by omega) (by omega), h2 _ _ (by omega) (by omega) (by omega) (by omega)]) (fun i z1 z2 j hj => by rw [f3 _ _ (by omega) (by omega) (by omega)]; exact g8 _ (by omega)) (fun i z1 z2 => hK i (by omega)) ⟨by rw [k3 _ _ (by omega) (by omega) (by omega) (by omega), h2 _ _ (by omega) (by omega) (by omega) (by omega)]; exact i1, by rw [k3 _ _ (by omega) (by omega) (by omega) (by omega), h2 _ _ (by omega) (by omega) (by omega) (by omega)]; exact i2⟩ ⟨c2, fun _ _ _ _ => rfl, c4, c5, fun t z1 z2 => by omega, fun _ _ => rfl⟩
  have f4 : ∀ a b, a ≠ 57 → (a ≠ 38 ∨ (b % 6 ≠ 1 ∧ b % 6 ≠ 2)) → a ≠ P + 10 → a ≠ P + 12 → J4 a b = I a b := fun a b z1 z2 z3 z4 => (d3 a b z1 z3).trans (f3 a b z1 z2 z4)
  have t12 : ∀ b, J4 (P + 12) b = J3 (P + 12) b := fun b => d3 _ _ (by omega) (by omega)
  have t10 : ∀ b, J3 (P + 10) b = I (P + 10) b := fun b => f3 _ _ (by omega) (by omega) (by omega)
  refine ⟨J4, ?_, d2.ext (fun q k' => ?_), fun a b z1 z2 z3 z4 => (f4 a b z1 z2 z3 z4).trans (g2 a b z1 z2 z3 z4), fun hm1 => NmL.nx hLb hm hk d4 hm1, d5, ?_, ?_, ?_, ?_⟩
  · rw [l81_52, g2 _ _ (by omega) (by omega) (by omega) (by omega), hC.2.2.2.1, if_neg (by rw [i32_le (by omega) (by omega)]; omega), a1, Option.bind_some, b1, Option.bind_some, c1, Option.bind_some, d1, Option.bind_some, i32_s]
  · unfold SAm UnS
    constructor
    · rintro ((((z | z) | z) | z) | z)
      · exact Or.inl z
      · exact Or.inr (Or.inl z)
      · exact Or.inr (Or.inr (Or.inl z))
      · exact Or.inr (Or.inr (Or.inr (Or.inl z)))
      · exact Or.inr (Or.inr (Or.inr (Or.inr z)))
    · rintro (z | z | z | z | z)
      · exact Or.inl (Or.inl (Or.inl (Or.inl z)))
      · exact Or.inl (Or.inl (Or.inl (Or.inr z)))
      · exact Or.inl (Or.inl (Or.inr z))
      · exact Or.inl (Or.inr z)
      · exact Or.inr z
  · intro m' t z1 z2 z3
    rcases Nat.lt_or_ge m' m with y | y
    · have hG := mono_le (F := G) (k := k) (fun a ha => (hTb.2 a ha).1) (m' + 1) m (by omega) (by omega)
      obtain ⟨u1, u2⟩ := g5 m' t y z2 z3
      refine ⟨fun j hj l hl => ?_, fun c hc => ?_⟩
      · rw [t12, c7 _ (by omega), f2 _ _ (by omega) (by omega)]
        exact u1 j hj l hl
      · rw [t12, c7 _ (by omega), f2 _ _ (by omega) (by omega)]
        exact u2 c hc
    · obtain rfl : m' = m := by omega
      obtain ⟨u1, u2⟩ := c6 t z2 z3
      refine ⟨fun j hj l hl => ?_, fun c hc => ?_⟩
      · rw [t12]
        exact u1 j hj l hl
      · rw [t12]
        exact u2 c hc
  · intro b z
    rw [t12, c7 b (by omega), f2 _ _ (by omega) (by omega)]
    have := (hTb.2 m hm).1
    exact g6 b (by omega)
  · intro m' i z1 z2 z3
    rcases Nat.lt_or_ge m' m with y | y
    · have hG := mono_le (F := F) (k := k) hF (m' + 1) m (by omega) (by omega)
      have u := g7 m' i y z2 z3
      unfold CdL at u ⊢
      rw [d7 _ (by omega), d7 _ (by omega), t10, t10]
      exact u
    · obtain rfl : m' = m := by omega
      exact d6 i z2 z3
  · intro b z
    rw [d7 b (by omega), t10]
    exact g8 b (by omega)
end
