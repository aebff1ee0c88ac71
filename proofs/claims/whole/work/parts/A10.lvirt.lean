/-! VIRTUALS looked at; the table of what is called -/
def cmn (B : St) (Z m : Nat) : Nat := (B (Z + 15) m).toNatClampNeg
/-- the nearest virtual above -/
def abv (B : St) (Z k m : Nat) : Option Nat := if cmn B Z m = 0 then none else upw (prn B Z) (mtf Z B (B (Z + 16) m) 1 k) 19 (prn B Z (cmn B Z m))
def smK (B : St) (Z m a : Nat) : Prop := B (Z + 18) a = B (Z + 18) m ∧ B (Z + 19) a = B (Z + 19) m ∧ B (Z + 20) a = B (Z + 20) m
def SV (B : St) (Z k m : Nat) : Nat → Nat → Prop := PtS (B (Z + 25) m ≠ 0 ∧ ∃ a, abv B Z k m = some a ∧ ¬ smK B Z m a) (B (Z + 17) m) 3
section
variable {L M : List (List Nat)} {P Z k m n nf s a : Nat} {A B I : St} {S : Nat → Nat → Prop}
def CMk (P Z k : Nat) (A B : St) : Prop := ∀ m, m < k → ∃ c rf, A (P + 8) (16 * m + 4) = Int32.ofNat c ∧ Mk P Z m c rf A B
theorem CMk.of {A' : St} (h : CMk P Z k A B) (hA : ∀ b, A' (P + 8) b = A (P + 8) b) : CMk P Z k A' B := fun m hm => by
  obtain ⟨c, rf, h1, h2⟩ := h m hm
  exact ⟨c, rf, by rw [hA]; exact h1, h2.of (fun a b z => by rw [z.1]; exact hA b) (fun _ _ _ => rfl)⟩
theorem tP7k (hP : P = 3 ∨ P = 18) {i j : Nat} (hi : i < 24) (hj : j < 16) (I : St) : tget I (P + 7) (Int32.ofNat i) (Int32.ofNat j) = I (P + 8) (16 * i + j) := by
  rcases hP with rfl | rfl
  · exact tg_n (k := 10) (c := j) (by decide) (by decide) hi rfl hj
  · exact tg_n (k := 25) (c := j) (by decide) (by decide) hi rfl hj
theorem x89_k (hP : P = 3 ∨ P = 18) {i j : Nat} (hi : i < 24) (hj : j < 6) : x89 P I (Int32.ofNat i) (Int32.ofNat j) = I (P + 8) (16 * i + 10 + j) := by
  unfold x89
  rw [if_neg (by rw [i32_l2 (x := 6) (b := 6) rfl (by omega) (by decide)]; omega), i32_10, tP7k hP hi (by omega), Nat.add_assoc]
theorem x88_l (hP : P = 3 ∨ P = 18) (hk : k ≤ 24) (h : CMk P Z k I B) (hM : CMh L M P Z k I B) (hm : m < k) (ha : a < k) : ∃ v, x88 P I (Int32.ofNat m) (Int32.ofNat a) = some v ∧ (v = 0 ↔ ¬ smK B Z m a) := by
  obtain ⟨c1, r1, e1, e2, e3, e4, e5, e6⟩ := h m hm
  obtain ⟨c2, r2, d1, d2, d3, d4, d5, d6⟩ := h a ha
  have f1 := ((hM.2 m hm).2.2.2.2.2.2.2.1)
  have f2 := ((hM.2 a ha).2.2.2.2.2.2.2.1)
  have hP' : Hid (P = 3 ∨ P = 18) := hP
  unfold x88
  simp (disch := omega) only [tP7 hP', e1, d1, f1, f2]
  by_cases z1 : c1 = c2
  · subst z1
    rw [if_pos rfl]
    by_cases z2 : B (Z + 20) m = B (Z + 20) a
    · rw [if_pos z2]
      have hl := srch (l := fun f b => l88_61 P (Int32.ofNat m) (Int32.ofNat a) (Int32.ofNat c1) f b I) (p := fun i => decide (r1.testBit i ≠ r2.testBit i)) (v := fun _ => 0) (n := c1)
        (fun f => by rw [l88_61, if_pos (Int32.le_refl _)])
        (fun f b hb hp => by
          have hp := of_decide_eq_true hp
          rw [l88_61, if_neg (by rw [i32_le (by omega) (by omega)]; omega), x89_k hP (by omega) (by omega), x89_k hP (by omega) (by omega), e6 b hb, d6 b hb, if_neg]
          cases h1 : r1.testBit b <;> cases h2 : r2.testBit b <;> rw [h1, h2] at hp <;> first | decide | exact absurd rfl hp)
        (fun f b hb hp => by
          have hp := of_decide_eq_false hp
          have hp : r1.testBit b = r2.testBit b := by
            cases h1 : r1.testBit b <;> cases h2 : r2.testBit b <;> rw [h1, h2] at hp <;> first | rfl | exact absurd (by decide) hp
          rw [l88_61, if_neg (by rw [i32_le (by omega) (by omega)]; omega), x89_k hP (by omega) (by omega), x89_k hP (by omega) (by omega), e6 b hb, d6 b hb, hp, if_pos rfl, i32_s])
        100000 (by omega)
      rw [hl, Option.bind_some]
      have hbits : fdn (fun i => decide (r1.testBit i ≠ r2.testBit i)) c1 = none ↔ r1 = r2 := by
        rw [fdn_none]
        constructor
        · intro w
          refine Nat.eq_of_testBit_eq (fun i => ?_)
          rcases Nat.lt_or_ge i c1 with y | y
          · have := of_decide_eq_false (w i y)
            cases h1 : r1.testBit i <;> cases h2 : r2.testBit i <;> rw [h1, h2] at this <;> first | rfl | exact absurd (by decide) this
          · rw [Nat.testBit_lt_two_pow (Nat.lt_of_lt_of_le e5 (Nat.pow_le_pow_right (by decide) y)), Nat.testBit_lt_two_pow (Nat.lt_of_lt_of_le d5 (Nat.pow_le_pow_right (by decide) y))]
        · rintro rfl i _
          exact decide_eq_false (fun z => z rfl)
      have hsm : smK B Z m a ↔ r1 = r2 := by
        unfold smK
        rw [e2, d2, e3, d3, z2]
        have b1 : r1 < 64 := Nat.lt_of_lt_of_le e5 (Nat.pow_le_pow_right (n := 2) (by decide) e4)
        have b2 : r2 < 64 := Nat.lt_of_lt_of_le d5 (Nat.pow_le_pow_right (n := 2) (by decide) e4)
        exact ⟨fun z => (i32_eq (by omega) (by omega)).mp z.2.1.symm, fun z => ⟨rfl, by rw [z], rfl⟩⟩
      rw [hsm, ← hbits]
      cases fdn (fun i => decide (r1.testBit i ≠ r2.testBit i)) c1 with
      | none => exact ⟨1, rfl, fun z => absurd z (by decide), fun z => absurd rfl z⟩
      | some i => exact ⟨0, rfl, fun _ z => (nomatch z), fun _ => rfl⟩
    · rw [if_neg z2]
      exact ⟨0, rfl, fun _ z => z2 z.2.2.symm, fun _ => rfl⟩
  · rw [if_neg (by rw [i32_eq (by omega) (by omega)]; exact z1)]
    refine ⟨0, rfl, fun _ z => ?_, fun _ => rfl⟩
    have := z.1
    rw [e2, d2, i32_eq (by omega) (by omega)] at this
    omega
theorem Mh.cm (h : Mh L M P Z m A B) : B (Z + 15) m = Int32.ofNat (cmn B Z m) ∧ cmn B Z m < 19 := by
  obtain ⟨h1, ⟨c, h2, h3⟩, -⟩ := h
  unfold cmn
  rw [h3, i32_cl (by omega)]
  exact ⟨rfl, h2⟩
theorem abv_b (h : abv B Z k m = some a) : a < k := by
  unfold abv at h
  split at h
  · cases h
  · exact upw_b (fun c r => fdn_lt) h
theorem x86_l (hP : P = 3 ∨ P = 18) (bL : L.length ≤ 1460) (nL : L.Nodup) (bM : M.length ≤ 2000) (nM : M.Nodup) (hn : n ≤ 19) (hk : k ≤ 24) (hC : CdC L M P Z n nf s k I B) (hK : CMk P Z k I B) (hm : m < k) (hmn : cmn B Z m < n) (hI : NoC S I) : ∃ J, x86 P I (Int32.ofNat m) = some J ∧ NoC (UnS S (SV B Z k m)) J ∧ ∀ a b, a ≠ 57 → J a b = I a b := by
  obtain ⟨h1, h2, h3, h4⟩ := hC
  have hmh := h4.2 m hm
  obtain ⟨c1, c2⟩ := hmh.cm
  obtain ⟨e1, -, e2, e3, e4, e5, -⟩ := hmh
  have hP' : Hid (P = 3 ∨ P = 18) := hP
  have no : ¬ (B (Z + 25) m ≠ 0 ∧ ∃ a, abv B Z k m = some a ∧ ¬ smK B Z m a) → ∀ q k', S q k' ↔ UnS S (SV B Z k m) q k' := fun z q k' => by
    unfold UnS SV PtS
    simp only [z, false_and, or_false]
  unfold x86
  simp (disch := omega) only [tP7 hP', t48, e5, e1, e3]
  by_cases z : B (Z + 25) m = 0
  · rw [if_pos z]
    exact ⟨I, rfl, hI.ext (no (fun y => y.1 z)), fun _ _ _ => rfl⟩
  · rw [if_neg z, c1]
    simp (disch := omega) only [tP1 hP']
    have hab : x87 P (P + 7) I (I (P + 2) (6 * cmn B Z m)) (I (P + 8) (16 * m + 1)) 1 = some (oI (abv B Z k m)) := by
      unfold abv
      by_cases y : cmn B Z m = 0
      · rw [if_pos y, y]
        have := h1.1
        dsimp only at this
        rw [this]
        exact x87_0
      · obtain ⟨q1, q2⟩ := h1.2 (cmn B Z m) (by omega) hmn
        dsimp only at q1
        rw [if_neg y, q1]
        exact nr_m hP' bL nL bM nM h1 hn h4 hk e2 (by omega)
    rw [hab, Option.bind_some]
    cases w : abv B Z k m with
    | none =>
      rw [if_pos (show oI none = -1 from rfl)]
      refine ⟨I, rfl, hI.ext (no (fun ⟨_, a, y, _⟩ => ?_)), fun _ _ _ => rfl⟩
      rw [w] at y
      cases y
    | some a =>
      have ha := abv_b w
      rw [if_neg (show ¬ oI (some a) = -1 from i32_m1 (by omega))]
      obtain ⟨v, v1, v2⟩ := x88_l hP hk hK h4 hm ha
      rw [show oI (some a) = Int32.ofNat a from rfl, v1, Option.bind_some, Option.bind_fun_some]
      obtain ⟨J, j1, j2, j3⟩ := x83_c (c := v = 0) hI (fun _ => e4) (show (3 : Int32) = Int32.ofNat 3 from rfl) (by decide) (by decide)
      refine ⟨J, j1, j2.ext (fun q k' => ?_), j3⟩
      unfold UnS SV PtS
      rw [v2, w]
      have : (∃ x, some a = some x ∧ ¬ smK B Z m x) ↔ ¬ smK B Z m a := ⟨fun ⟨x, y1, y2⟩ => by cases y1; exact y2, fun y => ⟨a, rfl, y⟩⟩
      rw [this]
      simp only [ne_eq, z, not_false_eq_true, true_and]
theorem x218_l (hZ2 : 85 ≤ Z) (hn : n ≤ 19) (hk : k ≤ 24) (h8 : B Z 8 = Int32.ofNat k) (hm : m < k) (hmh : Mh L M P Z m A B) (hmn : cmn B Z m < n) (hI : NoR S I) (hf : FrR Z B I) (hpar : PAR (I (Z + 8)) (prn B Z) n) : ∃ J, x218 Z I (Int32.ofNat m) = some J ∧ NoR (UnS S (SV B Z k m)) J ∧ ∀ a b, (a ≠ 82 ∨ (b ≠ 5 ∧ b ≠ 22)) → J a b = I a b := by
  obtain ⟨c1, c2⟩ := hmh.cm
  obtain ⟨-, -, -, -, e4, -⟩ := hmh
  have hin : inb (Int32.ofNat m) 24 := (i32_inb (by omega)).mpr (by omega)
  have hcl : (Int32.ofNat m).toNatClampNeg = m := i32_cl (by omega)
  have g : ∀ a b, Z + 15 ≤ a → a ≤ Z + 25 → I a b = B a b := fun a b z1 z2 => hf a b (by omega) (by omega) (by omega) (by omega) (by omega)
  have hi2 : inb (Int32.ofNat (cmn B Z m)) 19 := (i32_inb (by omega)).mpr (by omega)
  have hc2 : (Int32.ofNat (cmn B Z m)).toNatClampNeg = cmn B Z m := i32_cl (by omega)
  have q8 : I Z 8 = Int32.ofNat k := by rw [hf _ _ (by omega) (by omega) (by omega) (by omega) (by omega)]; exact h8
  have no : ¬ (B (Z + 25) m ≠ 0 ∧ ∃ a, abv B Z k m = some a ∧ ¬ smK B Z m a) → ∀ q k', S q k' ↔ UnS S (SV B Z k m) q k' := fun z q k' => by
    unfold UnS SV PtS
    simp only [z, false_and, or_false]
  have hab : x219 Z I (I (Z + 8) (cmn B Z m)) (B (Z + 16) m) 1 = some (oI (abv B Z k m)) := by
    unfold abv
    by_cases y : cmn B Z m = 0
    · rw [if_pos y, y, hpar.1]
      exact x219_0
    · obtain ⟨q1, q2⟩ := hpar.2 (cmn B Z m) (by omega) hmn
      rw [if_neg y, q1, x219_f hpar hn q8 hk (by omega)]
      have : mtf Z I (B (Z + 16) m) 1 k = mtf Z B (B (Z + 16) m) 1 k := by
        funext c
        exact fdn_ext (fun f hf' => by rw [g (Z + 15) _ (by omega) (by omega), g (Z + 16) _ (by omega) (by omega), g (Z + 25) _ (by omega) (by omega)])
      rw [this]
  unfold x218
  simp only [if_pos hin, hcl]
  rw [g (Z + 25) m (by omega) (by omega), g (Z + 15) m (by omega) (by omega), g (Z + 16) m (by omega) (by omega), c1]
  by_cases z : B (Z + 25) m = 0
  · rw [if_pos z]
    exact ⟨I, rfl, hI.ext (no (fun y => y.1 z)), fun _ _ _ => rfl⟩
  · rw [if_neg z]
    simp only [if_pos hi2, hc2]
    rw [hab, Option.bind_some]
    cases w : abv B Z k m with
    | none =>
      rw [if_pos (show oI none = -1 from rfl)]
      refine ⟨I, rfl, hI.ext (no (fun ⟨_, a, y, _⟩ => ?_)), fun _ _ _ => rfl⟩
      rw [w] at y
      cases y
    | some a =>
      have ha := abv_b w
      have hia : inb (Int32.ofNat a) 24 := (i32_inb (by omega)).mpr (by omega)
      have hca : (Int32.ofNat a).toNatClampNeg = a := i32_cl (by omega)
      rw [if_neg (show ¬ oI (some a) = -1 from i32_m1 (by omega)), show oI (some a) = Int32.ofNat a from rfl]
      simp (disch := omega) only [if_pos hia, hca, g, Option.bind_fun_some]
      have key : (if B (Z + 18) a = B (Z + 18) m then if B (Z + 19) a = B (Z + 19) m then if B (Z + 20) a = B (Z + 20) m then some I else x217 I 3 (B (Z + 17) m) else x217 I 3 (B (Z + 17) m) else x217 I 3 (B (Z + 17) m)) = if ¬ (B (Z + 18) a = B (Z + 18) m ∧ B (Z + 19) a = B (Z + 19) m ∧ B (Z + 20) a = B (Z + 20) m) then x217 I 3 (B (Z + 17) m) else some I := by
        by_cases y1 : B (Z + 18) a = B (Z + 18) m <;> by_cases y2 : B (Z + 19) a = B (Z + 19) m <;> by_cases y3 : B (Z + 20) a = B (Z + 20) m <;> simp [y1, y2, y3]
      rw [key]
      obtain ⟨J, j1, j2, j3⟩ := x217_c (c := ¬ (B (Z + 18) a = B (Z + 18) m ∧ B (Z + 19) a = B (Z + 19) m ∧ B (Z + 20) a = B (Z + 20) m)) hI (fun _ => e4) (show (3 : Int32) = Int32.ofNat 3 from rfl) (by decide) (by decide)
      refine ⟨J, j1, j2.ext (fun q k' => ?_), j3⟩
      unfold UnS SV PtS
      rw [w]
      have : (∃ x, some a = some x ∧ ¬ smK B Z m x) ↔ ¬ smK B Z m a := ⟨fun ⟨x, y1, y2⟩ => by cases y1; exact y2, fun y => ⟨a, rfl, y⟩⟩
      rw [this]
      unfold smK
      simp only [ne_eq, z, not_false_eq_true, true_and]
/-- what is called -/
def CaL (B : St) (P Z n k : Nat) (J : St) : Prop := ∀ m, m < k → B (Z + 25) m ≠ 0 → ∀ c, 7 ≤ c → c < n → J (P + 14) (24 * c + m) = oI (upw (prn B Z) (mtf Z B (B (Z + 16) m) 1 k) 19 c)
theorem ts13 (hP : P = 3 ∨ P = 18) {i j : Nat} (hi : i < 19) (hj : j < 24) (I : St) (v : Int32) : tset I (P + 13) (Int32.ofNat i) (Int32.ofNat j) v = up2 I (P + 14) (24 * i + j) v := by
  rcases hP with rfl | rfl
  · exact ts_n (k := 16) (c := j) (by decide) (by decide) hi rfl hj
  · exact ts_n (k := 31) (c := j) (by decide) (by decide) hi rfl hj
theorem x96_l (hP : P = 3 ∨ P = 18) (bL : L.length ≤ 1460) (nL : L.Nodup) (bM : M.length ≤ 2000) (nM : M.Nodup) (hn : n ≤ 19) (h7n : 7 ≤ n) (hk : k ≤ 24) (hn0 : I (P + 1) 3 = Int32.ofNat n) (hC : CdC L M P Z n nf s k I B) : ∃ J, x96 P I = some J ∧ CaL B P Z n k J ∧ ∀ a b, a ≠ P + 14 → J a b = I a b := by
  have hP2 : 3 ≤ P ∧ P ≤ 18 := by omega
  have hP' : Hid (P = 3 ∨ P = 18) := hP
  have inner : ∀ m, m < k → ∀ d c f (K : St), c + d = n → d < f → (∀ a b, a ≠ P + 14 → K a b = I a b) → ∃ J, l96_37 P (Int32.ofNat m) f (Int32.ofNat c) K = some J ∧ (∀ a b, a ≠ P + 14 → J a b = I a b) ∧ (∀ x, c ≤ x → x < n → J (P + 14) (24 * x + m) = oI (upw (prn B Z) (mtf Z B (B (Z + 16) m) 1 k) 19 x)) ∧ ∀ x y, y < 24 → (x < c ∨ y ≠ m) → J (P + 14) (24 * x + y) = K (P + 14) (24 * x + y) := by
    intro m hm d
    induction d with
    | zero =>
      intro c f K h1 h2 h3
      obtain ⟨f, rfl⟩ : ∃ g, f = g + 1 := ⟨f - 1, by omega⟩
      obtain rfl : c = n := by omega
      exact ⟨K, by rw [l96_37, h3 _ _ (by omega), hn0, if_pos (Int32.le_refl _)], h3, fun x z1 z2 => by omega, fun _ _ _ _ => rfl⟩
    | succ d ih =>
      intro c f K h1 h2 h3
      obtain ⟨f, rfl⟩ : ∃ g, f = g + 1 := ⟨f - 1, by omega⟩
      have hCK : CdC L M P Z n nf s k K B := hC.of (fun a b z => h3 a b (by omega))
      obtain ⟨e1, -, e2, -⟩ := hCK.2.2.2.2 m hm
      obtain ⟨J, j1, j2, j3, j4⟩ := ih (c + 1) f (up2 K (P + 14) (24 * c + m) (oI (upw (prn B Z) (mtf Z B (B (Z + 16) m) 1 k) 19 c))) (by omega) (by omega) (fun a b z => by rw [up2_o (by omega), h3 a b z])
      refine ⟨J, ?_, j2, fun x z1 z2 => ?_, fun x y z1 z2 => ?_⟩
      · rw [l96_37, h3 _ _ (by omega), hn0, if_neg (by rw [i32_le (by omega) (by omega)]; omega)]
        simp (disch := omega) only [tP7 hP']
        rw [nr_m hP' bL nL bM nM hCK.1 hn hCK.2.2.2 hk e2 (by omega), Option.bind_some, i32_s, ts13 hP (by omega) (by omega)]
        exact j1
      · rcases Nat.lt_or_ge c x with y | y
        · exact j3 x (by omega) z2
        · obtain rfl : x = c := by omega
          rw [j4 x m (by omega) (by omega), up2_s]
      · rw [j4 x y z1 (by omega), up2_o (by omega)]
  have outer : ∀ d m f (K : St), m + d = k → d < f → (∀ a b, a ≠ P + 14 → K a b = I a b) → ∃ J, l96_2 P f (Int32.ofNat m) K = some J ∧ (∀ a b, a ≠ P + 14 → J a b = I a b) ∧ (∀ m', m ≤ m' → m' < k → B (Z + 25) m' ≠ 0 → ∀ c, 7 ≤ c → c < n → J (P + 14) (24 * c + m') = oI (upw (prn B Z) (mtf Z B (B (Z + 16) m') 1 k) 19 c)) ∧ ∀ x y, y < m → J (P + 14) (24 * x + y) = K (P + 14) (24 * x + y) := by
    intro d
    induction d with
    | zero =>
      intro m f K h1 h2 h3
      obtain ⟨f, rfl⟩ : ∃ g, f = g + 1 := ⟨f - 1, by omega⟩
      obtain rfl : m = k := by omega
      exact ⟨K, by rw [l96_2, h3 _ _ (by omega), hC.2.2.2.1, if_pos (Int32.le_refl _)], h3, fun x z1 z2 => by omega, fun _ _ _ => rfl⟩
    | succ d ih =>
      intro m f K h1 h2 h3
      obtain ⟨f, rfl⟩ : ∃ g, f = g + 1 := ⟨f - 1, by omega⟩
      obtain ⟨-, -, -, -, -, e5, -⟩ := hC.2.2.2.2 m (by omega)
      have e5' : K (P + 8) (16 * m + 2) = B (Z + 25) m := by rw [h3 _ _ (by omega)]; exact e5
      by_cases z : B (Z + 25) m = 0
      · obtain ⟨J, j1, j2, j3, j4⟩ := ih (m + 1) f K (by omega) (by omega) h3
        refine ⟨J, ?_, j2, fun m' z1 z2 z3 => ?_, fun x y z1 => j4 x y (by omega)⟩
        · rw [l96_2, h3 _ _ (by omega), hC.2.2.2.1, if_neg (by rw [i32_le (by omega) (by omega)]; omega)]
          simp (disch := omega) only [tP7 hP', e5']
          rw [if_pos z, i32_s]
          exact j1
        · refine j3 m' ?_ z2 z3
          rcases Nat.lt_or_ge m m' with y | y
          · exact y
          · obtain rfl : m' = m := by omega
            exact absurd z z3
      · obtain ⟨K', k1, k2, k3, k4⟩ := inner m (by omega) (n - 7) 7 100000 K (by omega) (by omega) h3
        obtain ⟨J, j1, j2, j3, j4⟩ := ih (m + 1) f K' (by omega) (by omega) k2
        refine ⟨J, ?_, j2, fun m' z1 z2 z3 c z4 z5 => ?_, fun x y z1 => ?_⟩
        · rw [l96_2, h3 _ _ (by omega), hC.2.2.2.1, if_neg (by rw [i32_le (by omega) (by omega)]; omega)]
          simp (disch := omega) only [tP7 hP', e5']
          rw [if_neg z, show (7 : Int32) = Int32.ofNat 7 from rfl, k1, Option.bind_some, i32_s]
          exact j1
        · rcases Nat.lt_or_ge m m' with y | y
          · exact j3 m' y z2 z3 c z4 z5
          · obtain rfl : m' = m := by omega
            rw [j4 c m' (by omega), k3 c z4 z5]
        · rw [j4 x y (by omega), k4 x y (by omega) (by omega)]
  obtain ⟨J, j1, j2, j3, -⟩ := outer k 0 100000 I (by omega) (by omega) (fun _ _ _ => rfl)
  refine ⟨J, ?_, fun m hm h0 c z1 z2 => j3 m (by omega) hm h0 c z1 z2, j2⟩
  unfold x96
  rw [show (0 : Int32) = Int32.ofNat 0 from rfl, j1]
  rfl
end
