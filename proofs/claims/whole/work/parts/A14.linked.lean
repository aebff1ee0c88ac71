/-! THE LINKED PROGRAM, on both sides -/
/-- d is c or above it -/
def isA (p : Nat → Nat) (c d : Nat) : Prop := upw p (fun x => if x = d then some 0 else none) 19 c = some 0
/-- classes, fields, statics -/
def LPc (P Z n s k : Nat) (E p : Nat → Nat) (A B : St) : Prop := A (P + 1) 3 = Int32.ofNat n ∧ B Z 5 = Int32.ofNat n ∧ 7 ≤ n ∧ n ≤ 19 ∧ k ≤ 24 ∧ s ≤ 16 ∧ E 7 = 0 ∧ PAR (fun c => A (P + 2) (6 * c)) p n ∧ PAR (B (Z + 8)) p n ∧ (∀ c, c < n → E c ≤ E (c + 1) ∧ E (c + 1) ≤ E c + 8 ∧ A (P + 2) (6 * c + 2) = Int32.ofNat (E c) ∧ A (P + 2) (6 * c + 3) = Int32.ofNat (E (c + 1) - E c) ∧ A (P + 2) (6 * c + 4) = Int32.ofNat (alf p E 19 c) ∧ A (P + 2) (6 * c + 5) = Int32.ofNat (mcn (B (Z + 15)) (Int32.ofNat c) k) ∧ ∀ f, E c ≤ f → f < E (c + 1) → B (Z + 9) f = Int32.ofNat c) ∧ B Z 7 = Int32.ofNat (E n) ∧ (∀ f, f < E n → A (P + 4) (5 * f + 3) = B (Z + 11) f ∧ (B (Z + 11) f = 1 ∨ B (Z + 11) f = 2)) ∧ (∀ c, 7 ≤ c → c < n → ∀ f, E c ≤ f → f < E (c + 1) → A (P + 4) (5 * f + 4) = Int32.ofNat (alf p E 19 (p c) + (f - E c))) ∧ A (P + 5) 3 = Int32.ofNat s ∧ B Z 6 = Int32.ofNat s ∧ ∀ i, i < s → A (P + 6) (4 * i + 3) = B (Z + 14) i ∧ (B (Z + 14) i = 1 ∨ B (Z + 14) i = 2)
/-- a method, but for its deepest -/
def LPh (P Z n m : Nat) (F G : Nat → Nat) (A B : St) : Prop := A (P + 8) (16 * m) = B (Z + 15) m ∧ (∃ c, 7 ≤ c ∧ c < n ∧ B (Z + 15) m = Int32.ofNat c) ∧ A (P + 8) (16 * m + 2) = B (Z + 25) m ∧ (B (Z + 25) m = 0 ∨ B (Z + 25) m = 1) ∧ A (P + 8) (16 * m + 3) = B (Z + 20) m ∧ (∃ r, r ≤ 2 ∧ B (Z + 20) m = Int32.ofNat r) ∧ (∃ c rf, A (P + 8) (16 * m + 4) = Int32.ofNat c ∧ Mk P Z m c rf A B) ∧ A (P + 8) (16 * m + 5) = Int32.ofNat (F m) ∧ B (Z + 21) m = Int32.ofNat (F m) ∧ A (P + 8) (16 * m + 6) = Int32.ofNat (F (m + 1) - F m) ∧ B (Z + 22) m = Int32.ofNat (F (m + 1) - F m) ∧ A (P + 8) (16 * m + 7) = Int32.ofNat (G m) ∧ A (P + 8) (16 * m + 8) = Int32.ofNat (G (m + 1) - G m)
def LPm (P Z n k : Nat) (F G p : Nat → Nat) (A B : St) : Prop := A (P + 7) 3 = Int32.ofNat k ∧ B Z 8 = Int32.ofNat k ∧ B Z 11 = Int32.ofNat (G k) ∧ F 0 = 0 ∧ F k ≤ 1280 ∧ G 0 = 0 ∧ (∀ m, m < k → F m ≤ F (m + 1) ∧ F (m + 1) ≤ F m + 100 ∧ G m ≤ G (m + 1) ∧ G (m + 1) ≤ G m + 8 ∧ LPh P Z n m F G A B) ∧ (∀ m, m < k → B (Z + 25) m = 1 → ∀ c, 7 ≤ c → c < n → A (P + 14) (24 * c + m) = oI (upw p (mtf Z B (B (Z + 16) m) 1 k) 19 c)) ∧ ∀ m c, m < k → c < n → B (Z + 25) m = 1 → B (Z + 15) m = Int32.ofNat c → 0 < c → ∀ a, upw p (mtf Z B (B (Z + 16) m) 1 k) 19 (p c) = some a → smK B Z m a
/-- an instruction -/
def LP1 (P Z n s k : Nat) (E F p : Nat → Nat) (m i : Nat) (A B : St) : Prop := ∃ o, o < 59 ∧ A (P + 10) (3 * i) = Int32.ofNat o ∧ B (Z + 26) i = Int32.ofNat o ∧ ((shp o = 1 ∨ shp o = 2 ∨ shp o = 3 ∨ shp o = 7) → A (P + 10) (3 * i + 1) = B (Z + 27) i) ∧ ((shp o = 2 ∨ shp o = 3) → ∃ v, v < 16 ∧ B (Z + 27) i = Int32.ofNat v) ∧ (shp o = 3 → A (P + 10) (3 * i + 2) = B (Z + 31) i) ∧ (shp o = 4 → ∃ t, F m + t ≤ F (m + 1) ∧ A (P + 10) (3 * i + 1) = Int32.ofNat t ∧ B (Z + 33) i = Int32.ofNat (F m + t)) ∧ ((shp o = 5 ∨ shp o = 6) → ∃ c, c < n ∧ A (P + 10) (3 * i + 1) = Int32.ofNat c ∧ B (Z + 33) i = Int32.ofNat c) ∧ (shp o = 6 → ∃ c r, c < n ∧ B (Z + 33) i = Int32.ofNat c ∧ A (P + 10) (3 * i + 2) = Int32.ofNat r ∧ B (Z + 27) i = Int32.ofNat r ∧ ((o = 38 ∨ o = 39) → r < E n ∧ ∃ d, d < n ∧ isA p c d ∧ B (Z + 9) r = Int32.ofNat d) ∧ ((o = 40 ∨ o = 41) → r < s) ∧ (o = 49 → r < k ∧ B (Z + 25) r = 0) ∧ (o = 50 → r < k ∧ B (Z + 25) r = 1 ∧ upw p (mtf Z B (B (Z + 16) r) 1 k) 19 c = some r))
/-- a try -/
def LPt (P Z n : Nat) (F : Nat → Nat) (m t : Nat) (A B : St) : Prop := B (Z + 37) t = Int32.ofNat m ∧ ∃ a b c d, F m + a ≤ F (m + 1) ∧ F m + b ≤ F (m + 1) ∧ F m + c ≤ F (m + 1) ∧ a < b ∧ d < n ∧ A (P + 12) (4 * t) = Int32.ofNat a ∧ B (Z + 40) (4 * t) = Int32.ofNat (F m + a) ∧ A (P + 12) (4 * t + 1) = Int32.ofNat b ∧ B (Z + 40) (4 * t + 1) = Int32.ofNat (F m + b) ∧ A (P + 12) (4 * t + 2) = Int32.ofNat c ∧ B (Z + 40) (4 * t + 2) = Int32.ofNat (F m + c) ∧ A (P + 12) (4 * t + 3) = Int32.ofNat d ∧ B (Z + 40) (4 * t + 3) = Int32.ofNat d
def Lkd (P Z n k s : Nat) (E F G p : Nat → Nat) (A B : St) : Prop := LPc P Z n s k E p A B ∧ LPm P Z n k F G p A B ∧ (∀ m i, m < k → F m ≤ i → i < F (m + 1) → LP1 P Z n s k E F p m i A B) ∧ ∀ m t, m < k → G m ≤ t → t < G (m + 1) → LPt P Z n F m t A B
section
variable {P Z n k s : Nat} {E F G p : Nat → Nat} {A B A' B' : St}
theorem mtf_of {y v : Int32} (hB : ∀ a b, (a = Z + 15 ∨ a = Z + 16 ∨ a = Z + 25) → B' a b = B a b) : mtf Z B' y v k = mtf Z B y v k := by
  funext c
  exact fdn_ext (fun f _ => by rw [hB _ _ (by omega), hB _ _ (by omega), hB _ _ (by omega)])
theorem PAR.of' {f g : Nat → Int32} {p : Nat → Nat} {n : Nat} (h : PAR f p n) (e : ∀ c, g c = f c) : PAR g p n := ⟨by rw [e]; exact h.1, fun c z1 z2 => by rw [e]; exact h.2 c z1 z2⟩
theorem Lkd.of (h : Lkd P Z n k s E F G p A B) (hA : ∀ a b, P + 1 ≤ a → a ≤ P + 14 → (a ≠ P + 8 ∨ b % 16 ≠ 9) → A' a b = A a b) (hB : ∀ a b, ((a = Z ∧ 5 ≤ b) ∨ (Z + 4 ≤ a ∧ a ≤ Z + 40 ∧ a ≠ Z + 24)) → B' a b = B a b) : Lkd P Z n k s E F G p A' B' := by
  obtain ⟨⟨c1, c2, c3, c4, c5, c6, c7, c8, c9, c10, c11, c12, c13, c14, c15, c16⟩, ⟨m1, m2, m3, m4, m5, m6, m7, m8, m9⟩, h3, h4⟩ := h
  refine ⟨⟨?_, ?_, c3, c4, c5, c6, c7, c8.of' (fun c => hA _ _ (by omega) (by omega) (by omega)), c9.of' (fun c => hB _ _ (by omega)), fun c hc => ?_, ?_, fun f hf => ?_, fun c z1 z2 f z3 z4 => ?_, ?_, ?_, fun i hi => ?_⟩, ⟨?_, ?_, ?_, m4, m5, m6, fun m hm => ?_, fun m hm hv c z1 z2 => ?_, fun m c hm hcn hv z1 z2 a ha => ?_⟩, fun m i hm z1 z2 => ?_, fun m t hm z1 z2 => ?_⟩
  · rw [hA _ _ (by omega) (by omega) (by omega)]; exact c1
  · rw [hB _ _ (by omega)]; exact c2
  · obtain ⟨q1, q2, q3, q4, q5, q6, q7⟩ := c10 c hc
    refine ⟨q1, q2, ?_, ?_, ?_, ?_, fun f z1 z2 => by rw [hB _ _ (by omega)]; exact q7 f z1 z2⟩
    · rw [hA _ _ (by omega) (by omega) (by omega)]; exact q3
    · rw [hA _ _ (by omega) (by omega) (by omega)]; exact q4
    · rw [hA _ _ (by omega) (by omega) (by omega)]; exact q5
    · rw [hA _ _ (by omega) (by omega) (by omega), mcn_of k (fun i _ => hB (Z + 15) i (by omega))]; exact q6
  · rw [hB _ _ (by omega)]; exact c11
  · rw [hA _ _ (by omega) (by omega) (by omega), hB _ _ (by omega)]; exact c12 f hf
  · rw [hA _ _ (by omega) (by omega) (by omega)]; exact c13 c z1 z2 f z3 z4
  · rw [hA _ _ (by omega) (by omega) (by omega)]; exact c14
  · rw [hB _ _ (by omega)]; exact c15
  · rw [hA _ _ (by omega) (by omega) (by omega), hB _ _ (by omega)]; exact c16 i hi
  · rw [hA _ _ (by omega) (by omega) (by omega)]; exact m1
  · rw [hB _ _ (by omega)]; exact m2
  · rw [hB _ _ (by omega)]; exact m3
  · obtain ⟨q1, q2, q3, q4, q5⟩ := m7 m hm
    refine ⟨q1, q2, q3, q4, ?_⟩
    obtain ⟨r1, r2, r3, r4, r5, r6, ⟨c, rf, r7, r8⟩, r9⟩ := q5
    unfold LPh
    simp (disch := omega) only [hA, hB]
    exact ⟨r1, r2, r3, r4, r5, r6, ⟨c, rf, r7, r8.of (fun a b z => hA a b (by omega) (by omega) (by have := r8.2.2.1; omega)) (fun a b z => hB a b (by omega))⟩, r9⟩
  · rw [hB _ _ (by omega)] at hv ⊢
    rw [hA _ _ (by omega) (by omega) (by omega), mtf_of (fun a b z => hB a b (by omega))]
    exact m8 m hm hv c z1 z2
  · rw [hB _ _ (by omega)] at hv z1 ha
    rw [mtf_of (fun a b z => hB a b (by omega))] at ha
    have := m9 m c hm hcn hv z1 z2 a ha
    unfold smK at this ⊢
    simp (disch := omega) only [hB]
    exact this
  · obtain ⟨o, o1, o2⟩ := h3 m i hm z1 z2
    refine ⟨o, o1, ?_⟩
    simp (disch := omega) only [hA, hB, mtf_of (B' := B') (B := B) (Z := Z) (k := k) (fun a b z => hB a b (by omega))]
    exact o2
  · have := h4 m t hm z1 z2
    unfold LPt at this ⊢
    simp (disch := omega) only [hA, hB]
    exact this
theorem ptS_no {c : Prop} {x : Int32} {k : Nat} (hx : Plc x) (h : ∀ q' k', ¬ PtS c x k q' k') : ¬ c := fun z => by
  obtain ⟨q, h1, h2⟩ := hx
  exact h q k ⟨z, h2, h1, rfl⟩
/-- where the nearest was found -/
theorem upw_w {p : Nat → Nat} {g : Nat → Option Nat} {n r : Nat} (hp : ∀ c, 0 < c → c < n → p c < c) : ∀ d c, c < n → upw p g d c = some r → ∃ e, e < n ∧ g e = some r ∧ upw p (fun x => if x = e then some 0 else none) d c = some 0 := by
  intro d
  induction d with
  | zero => intro c _ h; cases h
  | succ d ih =>
    intro c hc h
    rw [upw] at h
    cases w : g c with
    | some r' =>
      rw [w] at h
      cases h
      refine ⟨c, hc, w, ?_⟩
      rw [upw, if_pos rfl]
    | none =>
      rw [w] at h
      dsimp only at h
      by_cases y : c = 0
      · rw [if_pos y] at h; cases h
      · rw [if_neg y] at h
        obtain ⟨e, e1, e2, e3⟩ := ih (p c) (by have := hp c (by omega) hc; omega) h
        refine ⟨e, e1, e2, ?_⟩
        rw [upw]
        by_cases y2 : c = e
        · rw [if_pos y2]
        · rw [if_neg y2]
          dsimp only
          rw [if_neg y]
          exact e3
end
section
variable {T : Tp} {L M : List (List Nat)} {K P Z u p n k s : Nat} {E F H G : Nat → Nat} {A B J I : St}
set_option maxHeartbeats 4000000 in
theorem lp_l (hP : P = 3 ∨ P = 18) (hZ : Z = 85 ∨ Z = 126) (h : Bz L M P Z p n k k s E F H G A B) (hno : ∀ q k', ¬ SAll B Z n (E n) s k F H G q k') (hA : LkA L M P Z n k s E F H G A B J) (hCa : CaL B P Z n k J) (hB : LkB Z n k s E F H G B I) : Lkd P Z n k s E F G (prn B Z) J I := by
  have hP2 : 3 ≤ P ∧ P ≤ 18 := by omega
  have hZ2 : 85 ≤ Z := by omega
  obtain ⟨⟨hp, bM, nM⟩, hb, hf, hs, hc, hm, hz, hk, hl, ht, n1, n2, n3, n4, n5, n6, n7, n8⟩ := h
  clear hP hZ
  obtain ⟨c1, c2, c3, c4⟩ := hc
  obtain ⟨m1, m2, m3, m4⟩ := hm
  obtain ⟨k1, k2, k3, k4, k5, k6⟩ := hk
  obtain ⟨l1, l2, l3, l4⟩ := hl
  obtain ⟨t1, t2, t3, t4, t5⟩ := ht
  obtain ⟨a1, a2, a3, a4, a5, a6, a7⟩ := hA
  obtain ⟨b1, b2, b3, b4⟩ := hB
  have hLb : Lb L M Z k F H A B := ⟨l3, l4⟩
  have hE : ∀ c, c < n → E c ≤ E (c + 1) ∧ E (c + 1) ≤ E c + 8 := fun c hc => ⟨(c4 c hc).2.2.2.1, (c4 c hc).2.2.2.2.1⟩
  have eN := eB_le hE n5 n n1 (Nat.le_refl _)
  have fA : ∀ a b, a ≠ 57 → (a ≠ P + 2 ∨ (b % 6 ≠ 0 ∧ b % 6 ≠ 4)) → a ≠ 38 → (a ≠ P + 4 ∨ b % 5 ≠ 4) → a ≠ P + 10 → a ≠ P + 12 → a ≠ P + 14 → J a b = A a b := a7
  have fB : ∀ a b, a ≠ 82 → a ≠ Z + 40 → a ≠ Z + 33 → a ≠ Z + 27 → a ≠ Z + 8 → I a b = B a b := fun a b z1 z2 z3 z4 z5 => b4 a b (by omega) z2 z3 z4 z5
  have hmt : ∀ y v, mtf Z I y v k = mtf Z B y v k := fun y v => mtf_of (fun a b z => fB a b (by omega) (by omega) (by omega) (by omega) (by omega))
  have noM : ∀ m, m < k → ∀ q k', ¬ SAm B Z n (E n) s k (H k) F H G m q k' := fun m hm q k' z => hno q k' (Or.inr (Or.inr ⟨m, hm, z⟩))
  refine ⟨⟨?_, ?_, n1, n2, n3, n4, n5, a1, b1, fun c hc => ?_, ?_, fun f hf' => ?_, fun c z1 z2 f z3 z4 => a3 c z1 z2 f z3 z4, ?_, ?_, fun i hi => ?_⟩, ⟨?_, ?_, ?_, k4, by omega, t4, fun m hm => ?_, fun m hm hv c z1 z2 => ?_, fun m c hm hcn hv z1 z2 a ha => ?_⟩, fun m i hm z1 z2 => ?_, fun m t hm z1 z2 => ?_⟩
  · rw [fA _ _ (by omega) (by omega) (by omega) (by omega) (by omega) (by omega) (by omega)]; exact c1
  · rw [fB _ _ (by omega) (by omega) (by omega) (by omega) (by omega)]; exact c3
  · obtain ⟨-, q2, q3, q4, q5, q6, q7⟩ := c4 c hc
    refine ⟨q4, q5, ?_, ?_, a2 c hc, ?_, fun f z1 z2 => by rw [fB _ _ (by omega) (by omega) (by omega) (by omega) (by omega)]; exact q6 f z1 z2⟩
    · rw [fA _ _ (by omega) (by omega) (by omega) (by omega) (by omega) (by omega) (by omega)]; exact q2
    · rw [fA _ _ (by omega) (by omega) (by omega) (by omega) (by omega) (by omega) (by omega)]; exact q3
    · rw [fA _ _ (by omega) (by omega) (by omega) (by omega) (by omega) (by omega) (by omega), mcn_of k (fun i _ => fB (Z + 15) i (by omega) (by omega) (by omega) (by omega) (by omega))]; exact q7
  · rw [fB _ _ (by omega) (by omega) (by omega) (by omega) (by omega)]; exact hf.2.1
  · obtain ⟨q1, q2, q3, q4, q5, -⟩ := hf.2.2 f hf'
    rw [fA _ _ (by omega) (by omega) (by omega) (by omega) (by omega) (by omega) (by omega), fB _ _ (by omega) (by omega) (by omega) (by omega) (by omega)]
    exact ⟨q4, q5⟩
  · rw [fA _ _ (by omega) (by omega) (by omega) (by omega) (by omega) (by omega) (by omega)]; exact hs.1
  · rw [fB _ _ (by omega) (by omega) (by omega) (by omega) (by omega)]; exact hs.2.1
  · obtain ⟨q1, q2, q3, q4, q5, -⟩ := hs.2.2 i hi
    rw [fA _ _ (by omega) (by omega) (by omega) (by omega) (by omega) (by omega) (by omega), fB _ _ (by omega) (by omega) (by omega) (by omega) (by omega)]
    exact ⟨q4, q5⟩
  · rw [fA _ _ (by omega) (by omega) (by omega) (by omega) (by omega) (by omega) (by omega)]; exact m1
  · rw [fB _ _ (by omega) (by omega) (by omega) (by omega) (by omega)]; exact m3
  · rw [fB _ _ (by omega) (by omega) (by omega) (by omega) (by omega)]; exact t3
  · obtain ⟨q1, ⟨c, rf, q2, q3⟩, q4, q5, q6, q7, q8, q9, q10⟩ := m4 m hm
    refine ⟨(k5 m hm).1, (k5 m hm).2, (t5 m hm).1, (t5 m hm).2.1, ?_⟩
    obtain ⟨r1, -, r3, r4, r5, r6, r7, r8, r9, r10⟩ := q1
    unfold LPh
    simp (disch := omega) only [fA, fB]
    exact ⟨r1, n8 m hm, r6, r7, r8, r9, ⟨c, rf, q2, q3.of (fun a b z => fA a b (by omega) (by omega) (by omega) (by omega) (by omega) (by omega) (by omega)) (fun a b z => fB a b (by omega) (by omega) (by omega) (by omega) (by omega))⟩, q4, q5, q6, (hz m hm).1, q7, q8⟩
  · rw [fB _ _ (by omega) (by omega) (by omega) (by omega) (by omega)] at hv ⊢
    rw [hmt]
    exact hCa m hm (by rw [hv]; decide) c z1 z2
  · rw [fB _ _ (by omega) (by omega) (by omega) (by omega) (by omega)] at hv z1 ha
    rw [hmt] at ha
    have hcm : cmn B Z m = c := by
      unfold cmn
      rw [z1, i32_cl (by omega)]
    have hab : abv B Z k m = some a := by
      unfold abv
      rw [hcm, if_neg (by omega)]
      exact ha
    have := ptS_no (k := 3) (m4 m hm).1.2.2.2.2.1 (fun q' k' z => noM m hm q' k' (Or.inl z))
    by_cases y : smK B Z m a
    · unfold smK at y ⊢
      simp (disch := omega) only [fB]
      exact y
    · exact absurd ⟨by rw [hv]; decide, a, hab, y⟩ this
  · obtain ⟨o1, o2, o3⟩ := (k6 i (by have := mono_le (F := F) (k := k) (fun a ha => (k5 a ha).1) (m + 1) k (by omega) (Nat.le_refl _); omega)).op
    obtain ⟨o, y1, y2, y3, -, -, y6, y7, y8, y9, y10⟩ := (k6 i (by have := mono_le (F := F) (k := k) (fun a ha => (k5 a ha).1) (m + 1) k (by omega) (Nat.le_refl _); omega))
    obtain rfl : o = opn B Z i := by
      unfold opn
      rw [y3, i32_cl (by omega)]
    have hcd := a5 m i hm z1 z2
    have hcr := b3 m i hm z1 z2
    have hsi : ∀ q k', ¬ SIn B Z n (E n) s k (H k) m i q k' := fun q k' z => noM m hm q k' (Or.inr (Or.inr (Or.inr ⟨i, z1, z2, z⟩)))
    obtain ⟨d1, d2, d3, d4⟩ := hcd
    obtain ⟨e1, e2, e3, e4⟩ := hcr
    unfold SIn at hsi
    generalize opn B Z i = o at *
    have f26 : I (Z + 26) i = Int32.ofNat o := by rw [fB _ _ (by omega) (by omega) (by omega) (by omega) (by omega)]; exact o2
    refine ⟨o, o1, by rw [a6 _ (by omega)]; exact o3, f26, fun z => ?_, fun z => ?_, fun z => ?_, fun z => ?_, fun z => ?_, fun z => ?_⟩
    · rw [(d4 (by omega)).1, e4 (by omega)]; exact y6 z
    · rw [e4 (by omega)]; exact y7 z
    · rw [(d4 (by omega)).2, fB _ _ (by omega) (by omega) (by omega) (by omega) (by omega)]; exact y8 z
    · obtain ⟨q1, q2, q3⟩ := y9 (Or.inl z)
      have := ptS_no (k := 2) q3 (fun q' k' w => hsi q' k' (Or.inl w))
      cases w : lbf B Z (H k) m (B (Z + 29) i) with
      | none => exact absurd ⟨z, w⟩ this
      | some l =>
        obtain ⟨t, u1, u2, u3⟩ := lb_at hLb hm n3 w
        exact ⟨t, u1, by rw [d1 z l w]; exact u2, by rw [e1 z, w]; exact u3⟩
    · obtain ⟨q1, q2, q3⟩ := y9 (Or.inr z)
      have := ptS_no (k := 2) q3 (fun q' k' w => hsi q' k' (Or.inr (Or.inl w)))
      cases w : cls B Z (B (Z + 29) i) n with
      | none => exact absurd ⟨z, w⟩ this
      | some c => exact ⟨c, cls_lt w, d2 z c w, by rw [e2 z, w]; rfl⟩
    · obtain ⟨q1, q2, q3⟩ := y9 (Or.inr (Or.inr z))
      obtain ⟨q4, q5, q6⟩ := y10 z
      have t1 := ptS_no (k := 2) q3 (fun q' k' w => hsi q' k' (Or.inr (Or.inl w)))
      have t2 := ptS_no (k := 2) q6 (fun q' k' w => hsi q' k' (Or.inr (Or.inr w)))
      cases w : cls B Z (B (Z + 29) i) n with
      | none => exact absurd ⟨Or.inr z, w⟩ t1
      | some c =>
        have hcn := cls_lt w
        cases v : lkm B Z (E n) s k o (B (Z + 31) i) c with
        | none => exact absurd ⟨z, c, w, v⟩ t2
        | some r =>
          have vb := lkm_b v
          refine ⟨c, r, hcn, by rw [e2 (Or.inr z), w]; rfl, d3 z c r w v, by rw [e3 z c w, v]; rfl, fun y => ⟨vb.1 y, ?_⟩, vb.2.1, fun y => ?_, fun y => ?_⟩
          · unfold lkm at v
            rw [if_pos y] at v
            obtain ⟨e, g1, g2, g3⟩ := upw_w (n := n) (fun c h0 _ => prn_lt h0) 19 c hcn v
            have := of_decide_eq_true (fdn_some g2).2.1
            exact ⟨e, g1, g3, by rw [fB _ _ (by omega) (by omega) (by omega) (by omega) (by omega)]; exact this.1⟩
          · subst y
            unfold lkm at v
            rw [if_neg (by omega), if_neg (by omega), if_neg (by omega)] at v
            obtain ⟨e, g1, g2, g3⟩ := upw_w (n := n) (fun c h0 _ => prn_lt h0) 19 c hcn v
            have := of_decide_eq_true (fdn_some g2).2.1
            exact ⟨fdn_lt g2, by rw [fB _ _ (by omega) (by omega) (by omega) (by omega) (by omega)]; exact this.2.2⟩
          · subst y
            unfold lkm at v
            rw [if_neg (by omega), if_neg (by omega), if_pos rfl] at v
            obtain ⟨e, g1, g2, g3⟩ := upw_w (n := n) (fun c h0 _ => prn_lt h0) 19 c hcn v
            have := of_decide_eq_true (fdn_some g2).2.1
            refine ⟨fdn_lt g2, by rw [fB _ _ (by omega) (by omega) (by omega) (by omega) (by omega)]; exact this.2.2, ?_⟩
            rw [fB _ _ (by omega) (by omega) (by omega) (by omega) (by omega), this.2.1, hmt]
            exact v
  · obtain ⟨r1, r2⟩ := (t5 m hm).2.2 t z1 z2
    have hst : ∀ q k', ¬ STr B Z n (H k) m t q k' := fun q k' z => noM m hm q k' (Or.inr (Or.inr (Or.inl ⟨t, z1, z2, z⟩)))
    unfold STr at hst
    have p0 : Plc (B (Z + 39) (4 * t)) := (r2 0 (by omega)).2.2
    have q0 := ptS_no (k := 2) p0 (fun q' k' w => hst q' k' (Or.inl w))
    have q1 := ptS_no (k := 2) (r2 1 (by omega)).2.2 (fun q' k' w => hst q' k' (Or.inr (Or.inl w)))
    have q2 := ptS_no (k := 2) (r2 2 (by omega)).2.2 (fun q' k' w => hst q' k' (Or.inr (Or.inr (Or.inl w))))
    have q3 := ptS_no (k := 2) (r2 3 (by omega)).2.2 (fun q' k' w => hst q' k' (Or.inr (Or.inr (Or.inr (Or.inl w)))))
    have q4 := ptS_no (k := 4) p0 (fun q' k' w => hst q' k' (Or.inr (Or.inr (Or.inr (Or.inr w)))))
    obtain ⟨d1, d2⟩ := a4 m t hm z1 z2
    have e0 : I (Z + 40) (4 * t) = lbv B Z (lbf B Z (H k) m (B (Z + 38) (4 * t))) := b2 m t 0 hm z1 z2 (by omega)
    have e1 : I (Z + 40) (4 * t + 1) = lbv B Z (lbf B Z (H k) m (B (Z + 38) (4 * t + 1))) := b2 m t 1 hm z1 z2 (by omega)
    have e2 : I (Z + 40) (4 * t + 2) = lbv B Z (lbf B Z (H k) m (B (Z + 38) (4 * t + 2))) := b2 m t 2 hm z1 z2 (by omega)
    have e3 : I (Z + 40) (4 * t + 3) = oI (cls B Z (B (Z + 38) (4 * t + 3)) n) := b2 m t 3 hm z1 z2 (by omega)
    refine ⟨by rw [fB _ _ (by omega) (by omega) (by omega) (by omega) (by omega)]; exact r1, ?_⟩
    cases w0 : lbf B Z (H k) m (B (Z + 38) (4 * t)) with
    | none => exact absurd w0 q0
    | some x0 =>
      cases w1 : lbf B Z (H k) m (B (Z + 38) (4 * t + 1)) with
      | none => exact absurd w1 q1
      | some x1 =>
        cases w2 : lbf B Z (H k) m (B (Z + 38) (4 * t + 2)) with
        | none => exact absurd w2 q2
        | some x2 =>
          cases w3 : cls B Z (B (Z + 38) (4 * t + 3)) n with
          | none => exact absurd w3 q3
          | some d =>
            obtain ⟨t0, u1, u2, u3⟩ := lb_at hLb hm n3 w0
            obtain ⟨t1, u4, u5, u6⟩ := lb_at hLb hm n3 w1
            obtain ⟨t2, u7, u8, u9⟩ := lb_at hLb hm n3 w2
            have hF := mono_le (F := F) (k := k) (fun a ha => (k5 a ha).1) (m + 1) k (by omega) (Nat.le_refl _)
            refine ⟨t0, t1, t2, d, u1, u4, u7, ?_, cls_lt w3, by rw [← u2]; exact d1 0 (by omega) x0 w0, by rw [e0, w0]; exact u3, by rw [← u5]; exact d1 1 (by omega) x1 w1, by rw [e1, w1]; exact u6, by rw [← u8]; exact d1 2 (by omega) x2 w2, by rw [e2, w2]; exact u9, d2 d w3, by rw [e3, w3]; rfl⟩
            rcases Nat.lt_or_ge t0 t1 with y | y
            · exact y
            · exact absurd ⟨x0, x1, x2, w0, w1, w2, by rw [u3, u6, i32_lt (by omega) (by omega)]; omega⟩ q4
end
