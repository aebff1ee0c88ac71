/-! ONE VISIT of the verifiers, the parts -/
theorem and15 (x : Int32) : ∃ v, v < 16 ∧ (x &&& 15) = Int32.ofNat v := by
  refine ⟨(x.toBitVec.toNat) % 16, Nat.mod_lt _ (by decide), ?_⟩
  apply Int32.toBitVec_inj.mp
  apply BitVec.eq_of_toNat_eq
  rw [Int32.toBitVec_and, BitVec.toNat_and, i32_bv, BitVec.toNat_ofNat]
  rw [show (15 : Int32).toBitVec.toNat = 2 ^ 4 - 1 from rfl, Nat.and_two_pow_sub_one_eq_mod]
  rw [Nat.mod_eq_of_lt (a := x.toBitVec.toNat % 16) (by have : x.toBitVec.toNat % 16 < 16 := Nat.mod_lt _ (by decide); omega)]
theorem and15_n {v : Nat} (h : v < 16) : Int32.ofNat v &&& 15 = Int32.ofNat v := by
  have : ∀ v, v < 16 → Int32.ofNat v &&& 15 = Int32.ofNat v := by decide
  exact this v h
section
variable {P Z m z f d i j : Nat} {V V0 : Nat → Option VEn} {N N0 : Nat → Bool} {A B : St} {t : Nat × Nat} {l : Nat × Nat × Nat}
theorem x107_l (hi : i < 100) (hA : A 60 (7 * i + 2) = Int32.ofNat t.1 ∧ A 60 (7 * i + 3) = Int32.ofNat t.2 ∧ A 60 (7 * i + 4) = Int32.ofNat l.1 ∧ A 60 (7 * i + 5) = Int32.ofNat l.2.1 ∧ A 60 (7 * i + 6) = Int32.ofNat l.2.2) : ∃ A', x107 A (Int32.ofNat i) = some A' ∧ Cs t A' ∧ Lc l A' ∧ ∀ a b, (a ≠ 58 ∨ b < 7 ∨ 11 < b) → A' a b = A a b := by
  obtain ⟨h1, h2, h3, h4, h5⟩ := hA
  unfold x107 Lt
  simp (disch := omega) only [t59, up2_o, h1, h2, h3, h4, h5]
  refine ⟨_, rfl, ⟨?_, ?_⟩, ⟨?_, ?_, ?_⟩, fun a b y => by simp (disch := omega) only [up2_o]⟩
  all_goals
    simp (disch := omega) only [up2_o, up2_s]
theorem x107_t {x : Int32} : ∃ A', x107 A x = some A' ∧ ∀ a b, (a ≠ 58 ∨ b < 7 ∨ 11 < b) → A' a b = A a b := by
  unfold x107 Lt
  exact ⟨_, rfl, fun a b y => by simp (disch := omega) only [up2_o]⟩
theorem l230_l {b2 : Int32} (hi : i < 100) : ∀ dd k ff (B : St), k + dd = 16 → dd < ff → (∀ k, k < 16 → B 179 (16 * i + k) = Int32.ofNat (wvl l k)) → ∃ B', l230_17 Z (Int32.ofNat i) b2 ff (Int32.ofNat k) B = some B' ∧ (∀ k', k ≤ k' → k' < 16 → B' 180 k' = Int32.ofNat (wvl l k')) ∧ ∀ a b, (a ≠ 180 ∨ b < k) → B' a b = B a b := by
  intro dd
  induction dd with
  | zero =>
    intro k ff B h1 h2 h3
    obtain ⟨ff, rfl⟩ : ∃ g, ff = g + 1 := ⟨ff - 1, by omega⟩
    obtain rfl : k = 16 := by omega
    exact ⟨B, by rw [l230_17, if_pos (by decide)], fun k' y1 y2 => by omega, fun _ _ _ => rfl⟩
  | succ dd ih =>
    intro k ff B h1 h2 h3
    obtain ⟨ff, rfl⟩ : ∃ g, ff = g + 1 := ⟨ff - 1, by omega⟩
    have e16 : (16 : Int32) * Int32.ofNat i + Int32.ofNat k = Int32.ofNat (16 * i + k) := by
      rw [show (16 : Int32) = Int32.ofNat 16 from rfl, ← Int32.ofNat_mul, i32_a]
    have i3 : inb (Int32.ofNat (16 * i + k)) 1600 := (i32_inb (by omega)).mpr (by omega)
    have c3 : (Int32.ofNat (16 * i + k)).toNatClampNeg = 16 * i + k := i32_cl (by omega)
    have i2 : inb (Int32.ofNat k) 16 := (i32_inb (by omega)).mpr (by omega)
    have c2 : (Int32.ofNat k).toNatClampNeg = k := i32_cl (by omega)
    obtain ⟨B', b1, b2', b3⟩ := ih (k + 1) ff (up2 B 180 k (Int32.ofNat (wvl l k))) (by omega) (by omega) (fun k' hk => by rw [up2_o (by omega)]; exact h3 k' hk)
    refine ⟨B', ?_, fun k' y1 y2 => ?_, fun a b y => by rw [b3 a b (by omega), up2_o (by omega)]⟩
    · rw [l230_17, if_neg (by rw [i32_l2 (x := 16) (b := 16) rfl (by omega) (by decide)]; omega)]
      simp only [e16, if_pos i3, if_pos i2, c3, c2, i32_s]
      rw [h3 k (by omega)]
      exact b1
    · rcases Nat.lt_or_ge k k' with y | y
      · exact b2' k' y y2
      · obtain rfl : k' = k := by omega
        rw [b3 _ _ (by omega), up2_s]
theorem VC.of {A' B' : St} (h : VC P Z m z f V N d A B) (hA : ∀ a b, (a = 60 ∨ (a = P + 8 ∧ b = 16 * m + 9) ∨ (a = 58 ∧ (b = 3 ∨ b = 4 ∨ b = 5))) → A' a b = A a b) (hB : ∀ a b, ((175 ≤ a ∧ a ≤ 179) ∨ (a = Z + 24) ∨ (a = Z + 22) ∨ (a = Z + 21) ∨ (a = 82 ∧ b = 32)) → B' a b = B a b) : VC P Z m z f V N d A' B' := by
  obtain ⟨v1, v2, v3, v4, v5, v6, v7, v8, v9, v10, v11⟩ := h
  refine ⟨fun i hi => (v1 i hi).of rfl rfl (Nat.le_refl _) (fun q _ _ => hA _ _ (by omega)) (fun p q _ _ _ => hB _ _ (by omega)) (fun q _ _ => hB _ _ (by omega)), v2, ?_, ?_, ?_, ?_, ?_, ?_, ?_, ?_, v11⟩
  · rw [hA _ _ (by omega)]; exact v3
  · rw [hB _ _ (by omega)]; exact v4
  · rw [hA _ _ (by omega)]; exact v5
  · rw [hB _ _ (by omega)]; exact v6
  · rw [hA _ _ (by omega)]; exact v7
  · rw [hA _ _ (by omega)]; exact v8
  · rw [hB _ _ (by omega)]; exact v9
  · rw [hB _ _ (by omega)]; exact v10
/-- while an instruction is visited -/
def SSq (P Z m z f : Nat) (V0 : Nat → Option VEn) (N0 : Nat → Bool) (Q : (Nat → Option VEn) → Prop) (A B : St) : Prop := FS A B ∨ (GS A B ∧ ∃ V N d, Ext V0 N0 V N ∧ Q V ∧ VC P Z m z f V N d A B)
theorem SSq.of {Q : (Nat → Option VEn) → Prop} {A' B' : St} (h : SSq P Z m z f V0 N0 Q A B) (hA : ∀ a b, (a = 60 ∨ (a = P + 8 ∧ b = 16 * m + 9) ∨ (a = 58 ∧ (b = 3 ∨ b = 4 ∨ b = 5 ∨ b = 6))) → A' a b = A a b) (hB : ∀ a b, ((175 ≤ a ∧ a ≤ 179) ∨ (a = Z + 24) ∨ (a = Z + 22) ∨ (a = Z + 21) ∨ (a = 82 ∧ (b = 32 ∨ b = 5 ∨ b = 22))) → B' a b = B a b) : SSq P Z m z f V0 N0 Q A' B' := by
  rcases h with ⟨q, h1, h2, h3, h4⟩ | ⟨⟨h1, h2⟩, V, N, d, h3, h4, h5⟩
  · exact Or.inl ⟨q, h1, by rw [hA _ _ (by omega)]; exact h2, by rw [hB _ _ (by omega)]; exact h3, by rw [hB _ _ (by omega)]; exact h4⟩
  · exact Or.inr ⟨⟨by rw [hA _ _ (by omega)]; exact h1, by rw [hB _ _ (by omega)]; exact h2⟩, V, N, d, h3, h4, h5.of (fun a b y => hA a b (by omega)) (fun a b y => hB a b (by omega))⟩
theorem SSq.im {Q Q' : (Nat → Option VEn) → Prop} (h : SSq P Z m z f V0 N0 Q A B) (e : ∀ V, Q V → Q' V) : SSq P Z m z f V0 N0 Q' A B := by
  rcases h with h | ⟨h1, V, N, d, h3, h4, h5⟩
  · exact Or.inl h
  · exact Or.inr ⟨h1, V, N, d, h3, e V h4, h5⟩
/-- places of faults 5 -/
def VD (Z m z f : Nat) (A B : St) : Prop := (A 49 (4 * m + 1) = B (Z + 23) m ∧ Plc (B (Z + 23) m)) ∧ ∀ i, i < z → A 53 (3 * (f + i)) = B (Z + 28) (f + i) ∧ Plc (B (Z + 28) (f + i))
theorem VD.of {A' B' : St} (h : VD Z m z f A B) (hA : ∀ a b, (a = 49 ∨ a = 53) → A' a b = A a b) (hB : ∀ a b, (a = Z + 23 ∨ a = Z + 28) → B' a b = B a b) : VD Z m z f A' B' := by
  refine ⟨?_, fun i hi => ?_⟩
  · rw [hA _ _ (by omega), hB _ _ (by omega)]; exact h.1
  · rw [hA _ _ (by omega), hB _ _ (by omega)]; exact h.2 i hi
def Mon (Q : (Nat → Option VEn) → Prop) : Prop := ∀ V N V' N', Q V → Ext V N V' N' → Q V'
theorem come_s (hP : Hid (P = 3 ∨ P = 18)) (hP2 : 3 ≤ P ∧ P ≤ 18) (hZ2 : 85 ≤ Z ∧ Z ≤ 126) {Q : (Nat → Option VEn) → Prop} (hQ : ∀ V N d V' N' d', Q V → Cme V N d j t l V' N' d' → Q V') (h : SSq P Z m z f V0 N0 Q A B) (hcl : FS A B ∨ (Cs t A ∧ Lc l A ∧ ∀ k, k < 16 → B 180 k = Int32.ofNat (wvl l k))) (hlo : Lok l) (hful : Lful l) (ht : Sok t) (h16 : t.1 ≤ 16) (hj : j ≤ z) (hvd : VD Z m z f A B) {y1 y2 : Int32} (hy1 : y1 = Int32.ofNat t.1) (hy2 : y2 = Int32.ofNat t.2) : ∃ A' B', x101 P A (Int32.ofNat j) = some A' ∧ x227 Z B (Int32.ofNat j) y1 y2 = some B' ∧ CfA P m A A' ∧ CfB Z m B B' ∧ (FS A B → FS A' B') ∧ SSq P Z m z f V0 N0 (fun V => Q V ∧ j < z ∧ Inc V j t l) A' B' := by
  subst hy1 hy2
  rcases h with h | ⟨h1, V, N, d, h3, h4, h5⟩
  · have g := h.go (P := P) (Z := Z) (x := Int32.ofNat j) (y1 := Int32.ofNat j) (y2 := Int32.ofNat t.1) (y3 := Int32.ofNat t.2)
    exact ⟨A, B, g.1, g.2, fun _ _ _ _ _ => rfl, fun _ _ _ _ _ => rfl, id, Or.inl h⟩
  · have nf : ¬ FS A B := fun ⟨q, y1, y2, _⟩ => by rw [h1.1] at y2; exact i32_m1 (by omega) y2.symm
    obtain ⟨hc, hl, hw⟩ := hcl.resolve_left nf
    obtain ⟨A', B', a1, a2, a3, a4, a5⟩ := come_l hP hP2 hZ2 h5 h1 hc hl hlo ht h16 hw hj hvd.1 hvd.2
    refine ⟨A', B', a1, a2, a3, a4, fun y => absurd y nf, ?_⟩
    rcases a5 with a5 | ⟨b1, b2, V', N', d', b3, b4⟩
    · exact Or.inl a5
    · obtain ⟨c1, c2⟩ := b3.ext hful
      exact Or.inr ⟨b1, V', N', d', h3.tr c1, ⟨hQ _ _ _ _ _ _ h4 b3, b2, c2⟩, b4⟩
theorem cl_next {A' B' : St} (hP2 : 3 ≤ P ∧ P ≤ 18) (hZ2 : 85 ≤ Z ∧ Z ≤ 126) (h : FS A B ∨ (Cs t A ∧ Lc l A ∧ ∀ k, k < 16 → B 180 k = Int32.ofNat (wvl l k))) (h1 : FS A B → FS A' B') (h2 : CfA P m A A') (h3 : CfB Z m B B') : FS A' B' ∨ (Cs t A' ∧ Lc l A' ∧ ∀ k, k < 16 → B' 180 k = Int32.ofNat (wvl l k)) := by
  rcases h with h | ⟨q1, q2, q3⟩
  · exact Or.inl (h1 h)
  · refine Or.inr ⟨⟨by rw [h2 _ _ (by omega) (by omega) (by omega)]; exact q1.1, by rw [h2 _ _ (by omega) (by omega) (by omega)]; exact q1.2⟩, ⟨by rw [h2 _ _ (by omega) (by omega) (by omega)]; exact q2.1, by rw [h2 _ _ (by omega) (by omega) (by omega)]; exact q2.2.1, by rw [h2 _ _ (by omega) (by omega) (by omega)]; exact q2.2.2⟩, fun k hk => by rw [h3 _ _ (by omega) (by omega) (by omega)]; exact q3 k hk⟩
theorem cf_cs {A' : St} (h : CfA P m A A') (hP2 : 3 ≤ P ∧ P ≤ 18) (hc : Cs t A) : Cs t A' := ⟨by rw [h _ _ (by omega) (by omega) (by omega)]; exact hc.1, by rw [h _ _ (by omega) (by omega) (by omega)]; exact hc.2⟩
theorem cf_lc {A' : St} (h : CfA P m A A') (hP2 : 3 ≤ P ∧ P ≤ 18) (hc : Lc l A) : Lc l A' := ⟨by rw [h _ _ (by omega) (by omega) (by omega)]; exact hc.1, by rw [h _ _ (by omega) (by omega) (by omega)]; exact hc.2.1, by rw [h _ _ (by omega) (by omega) (by omega)]; exact hc.2.2⟩
end
