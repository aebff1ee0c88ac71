/-! TRIES linked, on both sides -/
def emT (B : St) (Z N m t : Nat) : Prop := ∃ a b c, lbf B Z N m (B (Z + 38) (4 * t)) = some a ∧ lbf B Z N m (B (Z + 38) (4 * t + 1)) = some b ∧ lbf B Z N m (B (Z + 38) (4 * t + 2)) = some c ∧ ¬ B (Z + 36) a < B (Z + 36) b
def STr (B : St) (Z n N m t : Nat) : Nat → Nat → Prop := fun q k => PtS (lbf B Z N m (B (Z + 38) (4 * t)) = none) (B (Z + 39) (4 * t)) 2 q k ∨ PtS (lbf B Z N m (B (Z + 38) (4 * t + 1)) = none) (B (Z + 39) (4 * t + 1)) 2 q k ∨ PtS (lbf B Z N m (B (Z + 38) (4 * t + 2)) = none) (B (Z + 39) (4 * t + 2)) 2 q k ∨ PtS (cls B Z (B (Z + 38) (4 * t + 3)) n = none) (B (Z + 39) (4 * t + 3)) 2 q k ∨ PtS (emT B Z N m t) (B (Z + 39) (4 * t)) 4 q k
def TrL (B : St) (Z n N m t P : Nat) (A I : St) : Prop := (∀ j, j < 3 → ∀ l, lbf B Z N m (B (Z + 38) (4 * t + j)) = some l → I (P + 12) (4 * t + j) = A 51 (3 * l + 2)) ∧ ∀ c, cls B Z (B (Z + 38) (4 * t + 3)) n = some c → I (P + 12) (4 * t + 3) = Int32.ofNat c
section
variable {L M : List (List Nat)} {P Z k m n : Nat} {F H G : Nat → Nat} {A B I : St} {S : Nat → Nat → Prop}
theorem lb_at (h : Lb L M Z k F H A B) (hm : m < k) (hk : k ≤ 24) {y : Int32} {l : Nat} (hl : lbf B Z (H k) m y = some l) : ∃ t, F m + t ≤ F (m + 1) ∧ A 51 (3 * l + 2) = Int32.ofNat t ∧ B (Z + 36) l = Int32.ofNat (F m + t) := by
  obtain ⟨a, b, c⟩ := fdn_some hl
  have b := of_decide_eq_true b
  obtain ⟨d, e⟩ := h.lo hm hk a b.1
  exact ((h.2 m hm).2 l d e).2.2.2.2
def TrI (L M : List (List Nat)) (Z n N m P : Nat) (H G : Nat → Nat) (B A A3 : St) (tt : Nat) (S : Nat → Nat → Prop) (I : St) : Prop := NoC S I ∧ (∀ a b, a ≠ 57 → a ≠ P + 12 → I a b = A3 a b) ∧ NmL L M Z B A m (H (m + 1)) I ∧ NmC L M Z B I n ∧ (∀ t, G m ≤ t → t < tt → TrL B Z n N m t P A I) ∧ ∀ b, (b < 4 * G m ∨ 4 * tt ≤ b) → I (P + 12) b = A3 (P + 12) b
set_option maxHeartbeats 4000000 in
theorem tr_s (hP : Hid (P = 3 ∨ P = 18)) (hP2 : 3 ≤ P ∧ P ≤ 18) (bL : L.length ≤ 1460) (h : Lb L M Z k F H A B) (hm : m < k) (hk : k ≤ 24) (hn : n ≤ 19) (hF : F (m + 1) ≤ 1280) {A3 : St} {tt f : Nat} {b4 : Int32} (ht : G m ≤ tt) (ht2 : tt < 192) (h55 : ∀ b, A3 55 b = A 55 b) (hT : ∀ j, j < 4 → NE L M (A3 (P + 12) (4 * tt + j)) (B (Z + 38) (4 * tt + j)) ∧ A 55 (4 * tt + j) = B (Z + 39) (4 * tt + j) ∧ Plc (B (Z + 39) (4 * tt + j))) (hb : ¬ b4 ≤ Int32.ofNat tt) (hI : TrI L M Z n (H k) m P H G B A A3 tt S I) : ∃ J, l91_42 P (Int32.ofNat m) b4 (f + 1) (Int32.ofNat tt) I = l91_42 P (Int32.ofNat m) b4 f (Int32.ofNat (tt + 1)) J ∧ TrI L M Z n (H k) m P H G B A A3 (tt + 1) (UnS S (STr B Z n (H k) m tt)) J := by
  obtain ⟨g1, g2, g3, g4, g5, g6⟩ := hI
  obtain ⟨e1, e2, e3⟩ : NE L M (A3 (P + 12) (4 * tt)) (B (Z + 38) (4 * tt)) ∧ A 55 (4 * tt) = B (Z + 39) (4 * tt) ∧ Plc (B (Z + 39) (4 * tt)) := hT 0 (by omega)
  obtain ⟨e4, e5, e6⟩ := hT 1 (by omega)
  obtain ⟨e7, e8, e9⟩ := hT 2 (by omega)
  obtain ⟨e10, e11, e12⟩ := hT 3 (by omega)
  obtain ⟨v1, J1, a1, a2, a3, a4, a5⟩ := x92_l h hm hk bL g1 g3 e1 e3
  obtain ⟨v2, J2, b1, b2, b3, b5, b6⟩ := x92_l h hm hk bL a2 (g3.of (fun b => a3 38 b (by omega))) e4 e6
  have f2 : ∀ a b, a ≠ 57 → J2 a b = I a b := fun a b z => (b3 a b z).trans (a3 a b z)
  obtain ⟨v3, J3, c1, c2, c3, c4, c5⟩ := x92_l h hm hk bL b2 (g3.of (fun b => f2 38 b (by omega))) e7 e9
  have f3 : ∀ a b, a ≠ 57 → J3 a b = I a b := fun a b z => (c3 a b z).trans (f2 a b z)
  obtain ⟨J4, d1, d2, d3⟩ : ∃ J4, (if v1 = -1 then some J3 else if v2 = -1 then some J3 else if v3 = -1 then some J3 else if v1 < v2 then some J3 else (x83 J3 (B (Z + 39) (4 * tt)) 4).bind fun q4 => some q4) = some J4 ∧ NoC (UnS (UnS (UnS (UnS S (PtS (lbf B Z (H k) m (B (Z + 38) (4 * tt)) = none) (B (Z + 39) (4 * tt)) 2)) (PtS (lbf B Z (H k) m (B (Z + 38) (4 * tt + 1)) = none) (B (Z + 39) (4 * tt + 1)) 2)) (PtS (lbf B Z (H k) m (B (Z + 38) (4 * tt + 2)) = none) (B (Z + 39) (4 * tt + 2)) 2)) (PtS (emT B Z (H k) m tt) (B (Z + 39) (4 * tt)) 4)) J4 ∧ ∀ a b, a ≠ 57 → J4 a b = J3 a b := by
    have no : ¬ emT B Z (H k) m tt → ∀ S q k', S q k' ↔ UnS S (PtS (emT B Z (H k) m tt) (B (Z + 39) (4 * tt)) 4) q k' := fun z S q k' => by
      unfold UnS PtS
      simp only [z, false_and, or_false]
    cases w1 : lbf B Z (H k) m (B (Z + 38) (4 * tt)) with
    | none =>
      rw [if_pos (a4 w1)]
      rw [w1] at c2
      exact ⟨J3, rfl, c2.ext (no (fun ⟨a, b, c, y1, _⟩ => by rw [w1] at y1; cases y1) _), fun _ _ _ => rfl⟩
    | some l1 =>
      obtain ⟨t1, p1, p2, p3⟩ := lb_at h hm hk w1
      rw [w1] at c2
      have q1 := (a5 l1 w1).trans p2
      rw [if_neg (by rw [q1]; exact i32_m1 (by omega))]
      cases w2 : lbf B Z (H k) m (B (Z + 38) (4 * tt + 1)) with
      | none =>
        rw [if_pos (b5 w2)]
        rw [w2] at c2
        exact ⟨J3, rfl, c2.ext (no (fun ⟨a, b, c, y1, y2, _⟩ => by rw [w2] at y2; cases y2) _), fun _ _ _ => rfl⟩
      | some l2 =>
        obtain ⟨t2, p4, p5, p6⟩ := lb_at h hm hk w2
        rw [w2] at c2
        have q2 := (b6 l2 w2).trans p5
        rw [if_neg (by rw [q2]; exact i32_m1 (by omega))]
        cases w3 : lbf B Z (H k) m (B (Z + 38) (4 * tt + 2)) with
        | none =>
          rw [if_pos (c4 w3)]
          rw [w3] at c2
          exact ⟨J3, rfl, c2.ext (no (fun ⟨a, b, c, y1, y2, y3, _⟩ => by rw [w3] at y3; cases y3) _), fun _ _ _ => rfl⟩
        | some l3 =>
          obtain ⟨t3, p7, p8, p9⟩ := lb_at h hm hk w3
          rw [w3] at c2
          have q3 := (c5 l3 w3).trans p8
          rw [if_neg (by rw [q3]; exact i32_m1 (by omega)), q1, q2]
          by_cases y : t1 < t2
          · rw [if_pos ((i32_lt (by omega) (by omega)).mpr y)]
            refine ⟨J3, rfl, c2.ext (no (fun ⟨a, b, c, y1, y2, y3, y4⟩ => ?_) _), fun _ _ _ => rfl⟩
            rw [w1] at y1
            rw [w2] at y2
            cases y1
            cases y2
            rw [p3, p6, i32_lt (by omega) (by omega)] at y4
            omega
          · rw [if_neg (fun z => y ((i32_lt (by omega) (by omega)).mp z)), Option.bind_fun_some]
            obtain ⟨J4, k1, k2, k3⟩ := x83_y c2 e3 (show (4 : Int32) = Int32.ofNat 4 from rfl) (by decide) (by decide)
            refine ⟨J4, k1, k2.ext (fun q k' => ?_), k3⟩
            have hy : emT B Z (H k) m tt := ⟨l1, l2, l3, w1, w2, w3, by rw [p3, p6, i32_lt (by omega) (by omega)]; omega⟩
            unfold UnS PtS
            simp only [hy]
  have f4 : ∀ a b, a ≠ 57 → J4 a b = I a b := fun a b z => (d3 a b z).trans (f3 a b z)
  generalize hJ5 : up2 (up2 (up2 J4 (P + 12) (4 * tt) v1) (P + 12) (4 * tt + 1) v2) (P + 12) (4 * tt + 2) v3 = J5
  have f5 : ∀ a b, a ≠ 57 → (a ≠ P + 12 ∨ b < 4 * tt ∨ 4 * tt + 2 < b) → J5 a b = I a b := fun a b z1 z2 => by
    rw [← hJ5, up2_o (by omega), up2_o (by omega), up2_o (by omega), f4 a b z1]
  have d2' : NoC (UnS (UnS (UnS (UnS S (PtS (lbf B Z (H k) m (B (Z + 38) (4 * tt)) = none) (B (Z + 39) (4 * tt)) 2)) (PtS (lbf B Z (H k) m (B (Z + 38) (4 * tt + 1)) = none) (B (Z + 39) (4 * tt + 1)) 2)) (PtS (lbf B Z (H k) m (B (Z + 38) (4 * tt + 2)) = none) (B (Z + 39) (4 * tt + 2)) 2)) (PtS (emT B Z (H k) m tt) (B (Z + 39) (4 * tt)) 4)) J5 := d2.of (by rw [← hJ5]; simp (disch := omega) only [up2_o]) (by rw [← hJ5]; simp (disch := omega) only [up2_o])
  obtain ⟨J6, k1, k2, k3⟩ := x93_l hn bL d2' (fun i j s y1 y2 => by rw [f5 _ _ (by omega) (by omega)]; exact g4 i j s y1 y2) e10 e12
  have hin : ∀ j, j < 4 → I (P + 12) (4 * tt + j) = A3 (P + 12) (4 * tt + j) := fun j hj => g6 _ (by omega)
  have i0 : I (P + 12) (4 * tt) = A3 (P + 12) (4 * tt) := hin 0 (by omega)
  have i1 := hin 1 (by omega)
  have i2 := hin 2 (by omega)
  have i3 := hin 3 (by omega)
  refine ⟨up2 J6 (P + 12) (4 * tt + 3) (oI (cls B Z (B (Z + 38) (4 * tt + 3)) n)), ?_, NoC.of (k2.ext (fun q k' => ?_)) (up2_o (by omega)) (up2_o (by omega)), fun a b z1 z2 => by rw [up2_o (by omega), k3 a b z1, f5 a b z1 (by omega), g2 a b z1 z2], ?_, ?_, ?_, ?_⟩
  · rw [l91_42, if_neg hb, i32_s]
    simp (disch := omega) only [tP11 hP, t54, g2, h55, i0, e2]
    rw [a1, Option.bind_some]
    dsimp only
    simp (disch := omega) only [tP11 hP, t54, a3, g2, h55, i1, e5]
    rw [b1, Option.bind_some]
    dsimp only
    simp (disch := omega) only [tP11 hP, t54, f2, g2, h55, i2, e8]
    rw [c1, Option.bind_some]
    dsimp only
    simp (disch := omega) only [tP11 hP, t54, f3, g2, h55, e2]
    rw [d1, Option.bind_some, hJ5]
    simp (disch := omega) only [tP11 hP, t54, f5, g2, h55, i3, e11]
    rw [k1, Option.bind_some]
  · unfold UnS STr
    constructor
    · rintro (((((z | z) | z) | z) | z) | z)
      · exact Or.inl z
      · exact Or.inr (Or.inl z)
      · exact Or.inr (Or.inr (Or.inl z))
      · exact Or.inr (Or.inr (Or.inr (Or.inl z)))
      · exact Or.inr (Or.inr (Or.inr (Or.inr (Or.inr z))))
      · exact Or.inr (Or.inr (Or.inr (Or.inr (Or.inl z))))
    · rintro (z | z | z | z | z | z)
      · exact Or.inl (Or.inl (Or.inl (Or.inl (Or.inl z))))
      · exact Or.inl (Or.inl (Or.inl (Or.inl (Or.inr z))))
      · exact Or.inl (Or.inl (Or.inl (Or.inr z)))
      · exact Or.inl (Or.inl (Or.inr z))
      · exact Or.inr z
      · exact Or.inl (Or.inr z)
  · exact g3.of (fun b => by rw [up2_o (by omega), k3 _ _ (by omega), f5 _ _ (by omega) (by omega)])
  · intro i j s y1 y2
    rw [up2_o (by omega), k3 _ _ (by omega), f5 _ _ (by omega) (by omega)]
    exact g4 i j s y1 y2
  · intro t z1 z2
    rcases Nat.lt_or_ge t tt with y | y
    · obtain ⟨x1, x2⟩ := g5 t z1 y
      refine ⟨fun j hj l hl => ?_, fun c hc => ?_⟩
      · rw [up2_o (by omega), k3 _ _ (by omega), f5 _ _ (by omega) (by omega)]
        exact x1 j hj l hl
      · rw [up2_o (by omega), k3 _ _ (by omega), f5 _ _ (by omega) (by omega)]
        exact x2 c hc
    · obtain rfl : t = tt := by omega
      refine ⟨fun j hj l hl => ?_, fun c hc => by rw [up2_s, hc]; rfl⟩
      rw [up2_o (by omega), k3 _ _ (by omega), ← hJ5]
      obtain rfl | rfl | rfl : j = 0 ∨ j = 1 ∨ j = 2 := by omega
      · show up2 (up2 (up2 J4 (P + 12) (4 * t) v1) (P + 12) (4 * t + 1) v2) (P + 12) (4 * t + 2) v3 (P + 12) (4 * t) = _
        simp (disch := omega) only [up2_o, up2_s]
        exact a5 l hl
      · simp (disch := omega) only [up2_o, up2_s]
        exact b6 l hl
      · simp (disch := omega) only [up2_s]
        exact c5 l hl
  · intro b z
    rw [up2_o (by omega), k3 _ _ (by omega), f5 _ _ (by omega) (by omega)]
    exact g6 b (by omega)
/-- what tries are -/
def Tb (L M : List (List Nat)) (P Z k : Nat) (G : Nat → Nat) (A B : St) : Prop := G 0 = 0 ∧ ∀ m, m < k → G m ≤ G (m + 1) ∧ G (m + 1) ≤ G m + 8 ∧ ∀ t, G m ≤ t → t < G (m + 1) → B (Z + 37) t = Int32.ofNat m ∧ ∀ j, j < 4 → NE L M (A (P + 12) (4 * t + j)) (B (Z + 38) (4 * t + j)) ∧ A 55 (4 * t + j) = B (Z + 39) (4 * t + j) ∧ Plc (B (Z + 39) (4 * t + j))
theorem Tb.le (h : Tb L M P Z k G A B) (hk : k ≤ 24) {m : Nat} (hm : m ≤ k) : G m ≤ 8 * m := by
  induction m with
  | zero => rw [h.1]; omega
  | succ m ih => have := ih (by omega); have := (h.2 m (by omega)).2.1; omega
theorem x91_l (hP : Hid (P = 3 ∨ P = 18)) (hP2 : 3 ≤ P ∧ P ≤ 18) (bL : L.length ≤ 1460) (h : Lb L M Z k F H A B) (hm : m < k) (hk : k ≤ 24) (hn : n ≤ 19) (hF : F (m + 1) ≤ 1280) {A3 : St} (h55 : ∀ b, A3 55 b = A 55 b) (hT : Tb L M P Z k G A B) (hA3 : ∀ t, G m ≤ t → t < G (m + 1) → ∀ j, j < 4 → A3 (P + 12) (4 * t + j) = A (P + 12) (4 * t + j)) (h78 : A3 (P + 8) (16 * m + 7) = Int32.ofNat (G m) ∧ A3 (P + 8) (16 * m + 8) = Int32.ofNat (G (m + 1) - G m)) (hI : TrI L M Z n (H k) m P H G B A A3 (G m) S I) : ∃ J, x91 P I (Int32.ofNat m) = some J ∧ TrI L M Z n (H k) m P H G B A A3 (G (m + 1)) (fun q k' => S q k' ∨ ∃ t, G m ≤ t ∧ t < G (m + 1) ∧ STr B Z n (H k) m t q k') J := by
  have hg := hT.le hk (m := m + 1) (by omega)
  obtain ⟨t1, t2, t3⟩ := hT.2 m hm
  have go := lpS (Y := l91_42 P (Int32.ofNat m) (Int32.ofNat (G (m + 1)))) (NO := fun tt S I => G m ≤ tt ∧ TrI L M Z n (H k) m P H G B A A3 tt S I) (N := G (m + 1)) (T := fun t => STr B Z n (H k) m t) (fun b S S' I h e => ⟨h.1, h.2.1.ext e, h.2.2⟩) (fun f S I hI => by rw [l91_42, if_pos (Int32.le_refl _)]) (fun f b S I hb hI => by
    obtain ⟨y1, y2⟩ := hI
    obtain ⟨J, j1, j2⟩ := tr_s (f := f) (b4 := Int32.ofNat (G (m + 1))) hP hP2 bL h hm hk hn hF y1 (by omega) h55 (fun j hj => by rw [hA3 b y1 hb j hj]; exact (t3 b y1 hb).2 j hj) (by rw [i32_le (by omega) (by omega)]; omega) y2
    exact ⟨J, j1, by omega, j2⟩)
  obtain ⟨J, j1, j2⟩ := go (G (m + 1) - G m) (G m) 100000 S I (by omega) (by omega) ⟨Nat.le_refl _, hI⟩
  refine ⟨J, ?_, j2.2⟩
  unfold x91
  simp (disch := omega) only [tP7 hP, hI.2.1, h78]
  rw [i32_a, show G m + (G (m + 1) - G m) = G (m + 1) by omega, j1]
  rfl
end
