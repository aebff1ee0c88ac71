/-! WHAT IS THROWN, to its try: both sides unwind -/
def UWs (Z k : Nat) (F : Nat → Nat) (B0 : St) (VV : Nat → Nat → Option VEn) (NO dp m i : Nat) (fr : Nat → FrT) (l : Nat × Nat × Nat) (A B : St) : Prop := FrC Z k F B0 VV NO dp m fr A B ∧ A 68 7 = Int32.ofNat dp ∧ B 82 55 = Int32.ofNat dp ∧ dp < 24 ∧ A 68 8 = Int32.ofNat m ∧ B 82 63 = Int32.ofNat m ∧ A 68 9 = Int32.ofNat i ∧ B 82 64 = Int32.ofNat (F m + i) ∧ m < k ∧ i < F (m + 1) - F m ∧ FV NO dp 0 0 l A B ∧ ∃ t, VV m i = some (t, l)
def FkA (A A' : St) : Prop := ∀ a b, (a ≠ 68 ∨ (b ≠ 7 ∧ b ≠ 8 ∧ b ≠ 9 ∧ b ≠ 11)) → A' a b = A a b
def FkB (B B' : St) : Prop := ∀ a b, (a ≠ 82 ∨ (b ≠ 55 ∧ b ≠ 63 ∧ b ≠ 64 ∧ b ≠ 65)) → B' a b = B a b
theorem G_own {G : Nat → Nat} {k : Nat} (h0 : G 0 = 0) : ∀ tr, tr < G k → ∃ m, m < k ∧ G m ≤ tr ∧ tr < G (m + 1) := by
  induction k with
  | zero => intro tr h; omega
  | succ k ih =>
    intro tr h
    by_cases y : tr < G k
    · obtain ⟨m, m1, m2⟩ := ih tr y
      exact ⟨m, by omega, m2⟩
    · exact ⟨k, by omega, by omega, h⟩
section
variable {P Z n k s : Nat} {E F G p oa os hk : Nat → Nat} {A0 B0 A B A' B' : St} {VV : Nat → Nat → Option VEn} {NO U EV dp m i c x o : Nat} {fr : Nat → FrT} {t : Nat × Nat} {l : Nat × Nat × Nat}
theorem lk_g (hL : Lkd P Z n k s E F G p A0 B0) : G k ≤ 192 ∧ (∀ m, m < k → G (m + 1) ≤ 192 ∧ F (m + 1) ≤ 1280) ∧ (∀ tr, tr < G k → ∃ m', m' < k ∧ G m' ≤ tr ∧ tr < G (m' + 1)) ∧ ∀ a b, a ≤ b → b ≤ k → G a ≤ G b := by
  have hk := hL.1.2.2.2.2.1
  obtain ⟨-, -, -, f0, f1, g0, h, -⟩ := hL.2.1
  have hmo : ∀ a b, a ≤ b → b ≤ k → G a ≤ G b := fun a b y1 y2 => mono_le (F := G) (k := k) (fun a ha => (h a ha).2.2.1) a b y1 y2
  have hmf : ∀ a b, a ≤ b → b ≤ k → F a ≤ F b := fun a b y1 y2 => mono_le (F := F) (k := k) (fun a ha => (h a ha).1) a b y1 y2
  have h8 : ∀ d, d ≤ k → G d ≤ 8 * d := by
    intro d
    induction d with
    | zero => intro _; omega
    | succ d ih =>
      intro y
      have h1 := ih (by omega)
      have h2 := (h d (by omega)).2.2.2.1
      omega
  have hGk : G k ≤ 192 := by
    have := h8 k (Nat.le_refl _)
    omega
  refine ⟨hGk, fun m hm => ⟨?_, ?_⟩, G_own g0, hmo⟩
  · have := hmo (m + 1) k (by omega) (Nat.le_refl _); omega
  · have := hmf (m + 1) k (by omega) (Nat.le_refl _); omega
theorem hit_of {cc f : Nat} (hp : PRG P Z A0 B0 A B) : hit Z B p cc f i = hit Z B0 p cc f i := by
  funext tr
  unfold hit
  rw [hp.2 _ _ (by omega), hp.2 _ _ (by omega), hp.2 _ _ (by omega)]
/-- back to the caller -/
theorem back_l (h : UWs Z k F B0 VV NO (dp + 1) m i fr l A B) : ∃ A' B', x167 A = some A' ∧ x247 B = some B' ∧ FkA A A' ∧ FkB B B' ∧ UWs Z k F B0 VV NO dp (fr dp).1 (fr dp).2.1 fr (fr dp).2.2.2 A' B' ∧ A' 68 11 = Int32.ofNat (fr dp).2.2.1.1 ∧ B' 82 65 = Int32.ofNat (fr dp).2.2.1.1 := by
  obtain ⟨u1, u2, u3, u4, u5, u6, u7, u8, u9, u10, u11, u12⟩ := h
  obtain ⟨y1, y2⟩ := u1 dp (by omega)
  have y1' := y1
  obtain ⟨h1, h2, ⟨t0, h3⟩, h4, h5, h6, h7, h8, h9, h10, h11, h12, h13, h14⟩ := y1
  have e7 : Int32.ofNat (dp + 1) - 1 = Int32.ofNat dp := i32_p
  have hi : inb (Int32.ofNat dp) 24 := (i32_inb (by omega)).mpr (by omega)
  have hc : (Int32.ofNat dp).toNatClampNeg = dp := i32_cl (by omega)
  have fA : ∀ a b, (a ≠ 68 ∨ (b ≠ 7 ∧ b ≠ 8 ∧ b ≠ 9 ∧ b ≠ 11)) → up2 (up2 (up2 (up2 A 68 7 (Int32.ofNat dp)) 68 8 (Int32.ofNat (fr dp).1)) 68 9 (Int32.ofNat (fr dp).2.1)) 68 11 (Int32.ofNat (fr dp).2.2.1.1) a b = A a b := fun a b y => by rw [up2_o (by omega), up2_o (by omega), up2_o (by omega), up2_o (by omega)]
  have fB : ∀ a b, (a ≠ 82 ∨ (b ≠ 55 ∧ b ≠ 63 ∧ b ≠ 64 ∧ b ≠ 65)) → up2 (up2 (up2 (up2 B 82 55 (Int32.ofNat dp)) 82 63 (Int32.ofNat (fr dp).1)) 82 64 (Int32.ofNat (F (fr dp).1 + (fr dp).2.1))) 82 65 (Int32.ofNat (fr dp).2.2.1.1) a b = B a b := fun a b y => by rw [up2_o (by omega), up2_o (by omega), up2_o (by omega), up2_o (by omega)]
  refine ⟨_, _, ?_, ?_, fA, fB, ⟨fun g hg => ?_, ?_, ?_, by omega, ?_, ?_, ?_, ?_, h1, h2, ?_, t0, h3⟩, up2_s _ _ _ _, up2_s _ _ _ _⟩
  · unfold x167 Lt
    simp (disch := omega) only [u2, e7, up2_o, up2_s, m78, h8, h9, h10]
  · unfold x247 Lt
    simp (disch := omega) only [u3, e7, if_pos hi, hc, up2_o, up2_s, h11, h12, h13]
  · obtain ⟨z1, z2⟩ := u1 g (by omega)
    refine ⟨z1.of (Nat.le_refl _) (fun a b y => fA a b (by omega)) (fun a b y => fB a b (by omega)), ?_⟩
    rw [z2]
    congr 1
    unfold lvm
    by_cases q : g + 1 = dp
    · rw [if_pos q, if_neg (by omega), q]
    · rw [if_neg q, if_neg (by omega)]
  · rw [up2_o (by omega), up2_o (by omega), up2_o (by omega), up2_s]
  · rw [up2_o (by omega), up2_o (by omega), up2_o (by omega), up2_s]
  · rw [up2_o (by omega), up2_o (by omega), up2_s]
  · rw [up2_o (by omega), up2_o (by omega), up2_s]
  · rw [up2_o (by omega), up2_s]
  · rw [up2_o (by omega), up2_s]
  · exact (h7.of (Nat.le_refl _) (fun b _ _ => fA _ _ (by omega)) (fun a b _ _ _ => fB _ _ (by omega)) h6).pop (h' := 0) (r' := 0) (by omega) (fun j hj => by omega)
set_option maxHeartbeats 4000000 in
theorem unw_l {cc r : Nat} {v w : Int32} (hP : Hid (P = 3 ∨ P = 18)) (hP2 : 3 ≤ P ∧ P ≤ 18) (hZ2 : 85 ≤ Z ∧ Z ≤ 126) (hL : Lkd P Z n k s E F G p A0 B0) (hv : CV n cc v) (hr : r < 3001) : ∀ dp m i l (A B : St) b f f', PRG P Z A0 B0 A B → UWs Z k F B0 VV NO dp m i fr l A B → B 181 r = v → b + dp ≤ 23 → dp + 2 ≤ f → dp + 3 ≤ f' → ∃ A' B', FkA A A' ∧ FkB B B' ∧ ((∃ dp' m' i' l' tr, UWs Z k F B0 VV NO dp' m' i' fr l' A' B' ∧ ftr (hit Z B0 p cc (F m') i') (G (m' + 1) - G m') (G m') = some tr ∧ l170_20 P v f (oI (ftr (hit Z B0 p cc (F m) i) (G (m + 1) - G m) (G m))) (Int32.ofNat b) A = some (Int32.ofNat tr, A') ∧ l245_2 Z (Int32.ofNat (r + 1)) w f' 1 B = (x239 (up2 (up2 B' 82 64 (B0 (Z + 40) (4 * tr + 2))) 82 65 0) (Int32.ofNat (r + 1)) w).bind fun q => some (.inr q)) ∨ (l170_20 P v f (oI (ftr (hit Z B0 p cc (F m) i) (G (m + 1) - G m) (G m))) (Int32.ofNat b) A = some (-1, A') ∧ l245_2 Z (Int32.ofNat (r + 1)) w f' 1 B = some (.inl B'))) := by
  obtain ⟨hGk, hFG, hT, hmo⟩ := lk_g hL
  have hk24 := hL.1.2.2.2.2.1
  intro dp
  induction dp with
  | zero =>
    intro m i l A B b f f' hp hu hB hb hf hf'
    obtain ⟨u1, u2, u3, u4, u5, u6, u7, u8, u9, u10, u11, u12⟩ := hu
    have hLk : Lkd P Z n k s E F G p A B := hL.of (fun a b y1 y2 _ => hp.1 a b y1 y2) (fun a b y => hp.2 a b (by omega))
    obtain ⟨f, rfl⟩ : ∃ g, f = g + 1 := ⟨f - 1, by omega⟩
    obtain ⟨f', rfl⟩ : ∃ g, f' = g + 2 := ⟨f' - 2, by omega⟩
    have hFm := (hFG m u9).2
    have h9 := l245_n (r := r) (w := w) (i := i) hLk (by omega : m < 24) hGk (fun m hm => (hFG m hm).2) u6 u8 (by omega) hr (by rw [hB]; exact hv) hT (G k) 0 100000 (by omega) (by omega)
    rw [ftr_own (h := hit Z B p cc (F m) i) hLk u9 hT hmo, hit_of hp, show Int32.ofNat 0 = (0 : Int32) from rfl] at h9
    have hb24 : ¬ (24 : Int32) ≤ Int32.ofNat b := by rw [i32_l2 (x := 24) (b := 24) rfl (by omega) (by decide)]; omega
    refine ⟨A, B, fun _ _ _ => rfl, fun _ _ _ => rfl, ?_⟩
    cases hz : ftr (hit Z B0 p cc (F m) i) (G (m + 1) - G m) (G m) with
    | some tr =>
      rw [hz] at h9
      have htr := (ftr_y _ _ _ hz).2.1
      have gm := hmo m k (by omega) (Nat.le_refl _)
      have := hFG m u9
      refine Or.inl ⟨0, m, i, l, tr, ⟨u1, u2, u3, u4, u5, u6, u7, u8, u9, u10, u11, u12⟩, hz, ?_, ?_⟩
      · rw [l170_20, if_neg hb24, if_neg (show ¬ oI (some tr) = -1 from i32_m1 (by omega))]; rfl
      · rw [l245_2, if_neg (by decide), h9]
        dsimp only
        rw [hp.2 _ _ (by omega)]
        cases x239 (up2 (up2 B 82 64 (B0 (Z + 40) (4 * tr + 2))) 82 65 0) (Int32.ofNat (r + 1)) w with
        | none => rfl
        | some q => rfl
    | none =>
      rw [hz] at h9
      refine Or.inr ⟨?_, ?_⟩
      · rw [l170_20, if_neg hb24, if_pos (show oI none = -1 from rfl), u2, if_pos (by decide)]; rfl
      · rw [l245_2, if_neg (by decide), h9]
        dsimp only
        rw [Option.bind_some, Sum.elim_inl, u3, if_pos (by decide), Option.bind_some, if_pos rfl, l245_2, if_pos rfl]
  | succ dp ih =>
    intro m i l A B b f f' hp hu hB hb hf hf'
    have hu' := hu
    obtain ⟨u1, u2, u3, u4, u5, u6, u7, u8, u9, u10, u11, u12⟩ := hu
    have hLk : Lkd P Z n k s E F G p A B := hL.of (fun a b y1 y2 _ => hp.1 a b y1 y2) (fun a b y => hp.2 a b (by omega))
    obtain ⟨f, rfl⟩ : ∃ g, f = g + 1 := ⟨f - 1, by omega⟩
    obtain ⟨f', rfl⟩ : ∃ g, f' = g + 1 := ⟨f' - 1, by omega⟩
    have hFm := (hFG m u9).2
    have h9 := l245_n (r := r) (w := w) (i := i) hLk (by omega : m < 24) hGk (fun m hm => (hFG m hm).2) u6 u8 (by omega) hr (by rw [hB]; exact hv) hT (G k) 0 100000 (by omega) (by omega)
    rw [ftr_own (h := hit Z B p cc (F m) i) hLk u9 hT hmo, hit_of hp, show Int32.ofNat 0 = (0 : Int32) from rfl] at h9
    have hb24 : ¬ (24 : Int32) ≤ Int32.ofNat b := by rw [i32_l2 (x := 24) (b := 24) rfl (by omega) (by decide)]; omega
    cases hz : ftr (hit Z B0 p cc (F m) i) (G (m + 1) - G m) (G m) with
    | some tr =>
      rw [hz] at h9
      have htr := (ftr_y _ _ _ hz).2.1
      have gm := hmo m k (by omega) (Nat.le_refl _)
      have := hFG m u9
      refine ⟨A, B, fun _ _ _ => rfl, fun _ _ _ => rfl, Or.inl ⟨dp + 1, m, i, l, tr, hu', hz, ?_, ?_⟩⟩
      · rw [l170_20, if_neg hb24, if_neg (show ¬ oI (some tr) = -1 from i32_m1 (by omega))]; rfl
      · rw [l245_2, if_neg (by decide), h9]
        dsimp only
        rw [hp.2 _ _ (by omega)]
        cases x239 (up2 (up2 B 82 64 (B0 (Z + 40) (4 * tr + 2))) 82 65 0) (Int32.ofNat (r + 1)) w with
        | none => rfl
        | some q => rfl
    | none =>
      rw [hz] at h9
      obtain ⟨A1, B1, a1, b1, fa, fb, hu1, -, -⟩ := back_l hu'
      have hp1 : PRG P Z A0 B0 A1 B1 := hp.of (fun a b y1 y2 => fa a b (by omega)) (fun a b y => fb a b (by omega))
      have hLk1 : Lkd P Z n k s E F G p A1 B1 := hL.of (fun a b y1 y2 _ => hp1.1 a b y1 y2) (fun a b y => hp1.2 a b (by omega))
      obtain ⟨v1, v2, v3, v4, v5, v6, v7, v8, v9, v10, v11, v12⟩ := hu1
      have hFm1 := (hFG _ v9)
      have hx := x171_n hP hP2 hLk1 v9 hFm1.1 hFm1.2 v5 v7 (by omega) hv
      rw [hit_of hp1] at hx
      obtain ⟨A2, B2, fa2, fb2, hh⟩ := ih (fr dp).1 (fr dp).2.1 (fr dp).2.2.2 A1 B1 (b + 1) f f' hp1 ⟨v1, v2, v3, v4, v5, v6, v7, v8, v9, v10, v11, v12⟩ (by rw [fb _ _ (by omega)]; exact hB) (by omega) (by omega) (by omega)
      have e1 : l170_20 P v (f + 1) (oI none) (Int32.ofNat b) A = l170_20 P v f (oI (ftr (hit Z B0 p cc (F (fr dp).1) (fr dp).2.1) (G ((fr dp).1 + 1) - G (fr dp).1) (G (fr dp).1))) (Int32.ofNat (b + 1)) A1 := by
        rw [l170_20, if_neg hb24, if_pos (show oI none = -1 from rfl), u2, if_neg (by rw [i32_l3 (x := 0) (b := 0) rfl (by omega) (by decide)]; omega), a1, Option.bind_some, hx, Option.bind_some, i32_s]
      have e2 : l245_2 Z (Int32.ofNat (r + 1)) w (f' + 1) 1 B = l245_2 Z (Int32.ofNat (r + 1)) w f' 1 B1 := by
        rw [l245_2, if_neg (by decide), h9]
        dsimp only
        rw [Option.bind_some, Sum.elim_inl, u3, if_neg (by rw [i32_l3 (x := 0) (b := 0) rfl (by omega) (by decide)]; omega), Option.bind_some, if_neg (by decide), b1, Option.bind_some]
      refine ⟨A2, B2, fun a b y => by rw [fa2 a b y, fa a b y], fun a b y => by rw [fb2 a b y, fb a b y], ?_⟩
      rw [e1, e2]
      exact hh
end
