/-! BOTH LINKERS as wholes -/
def SAll (B : St) (Z n nf s k : Nat) (F H G : Nat → Nat) : Nat → Nat → Prop := fun q k' => SC B Z n q k' ∨ SM B (nf + s + k) q k' ∨ ∃ m, m < k ∧ SAm B Z n nf s k (H k) F H G m q k'
theorem SM_of {B B' : St} {N : Nat} (h : ∀ a b, 171 ≤ a → a ≤ 173 → B' a b = B a b) : SM B' N = SM B N := by
  unfold SM
  simp (disch := omega) only [h]
theorem SL_of {B B' : St} {Z N : Nat} (h : ∀ a b, (a = 174 ∨ a = Z + 34 ∨ a = Z + 35) → B' a b = B a b) : SL B' Z N = SL B Z N := by
  unfold SL
  simp (disch := omega) only [h]
/-- what the linkers need of what was parsed -/
def Bz (L M : List (List Nat)) (P Z p n k q s : Nat) (E F H G : Nat → Nat) (A B : St) : Prop := (p ≤ 1280 ∧ M.length ≤ 2000 ∧ M.Nodup) ∧ CB L M (E n + s + k) A B ∧ CF L M P Z (E n) A B ∧ CS L M P Z s A B ∧ CC L M P Z n k E A B ∧ CM L M P Z k F H G A B ∧ CZ Z q F A B ∧ CK L M P Z k F A B ∧ CL L M Z k F H A B ∧ CT L M P Z k G A B ∧ 7 ≤ n ∧ n ≤ 19 ∧ k ≤ 24 ∧ s ≤ 16 ∧ E 7 = 0 ∧ F k ≤ p ∧ H k ≤ p ∧ MB Z k n B
theorem Bq.z {T : Tp} {L M : List (List Nat)} {K P Z u p n k q s : Nat} {E F H G : Nat → Nat} {A B : St} (h : Bq T L M K P Z u p n k q s E F H G A B) : Bz L M P Z p n k q s E F H G A B := by
  obtain ⟨hPa, hr⟩ := h
  obtain ⟨v1, v2, bM, v4, nM, v6⟩ := hPa.2.2.1
  exact ⟨⟨hPa.le, bM, nM⟩, hr⟩
theorem Bz.of {L M : List (List Nat)} {P Z p n k q s : Nat} {E F H G : Nat → Nat} {A B B' : St} (hZ2 : 85 ≤ Z ∧ Z ≤ 126) (h : Bz L M P Z p n k q s E F H G A B) (hB : ∀ a b, (a ≠ 82 ∨ b = 20) → B' a b = B a b) : Bz L M P Z p n k q s E F H G A B' := by
  obtain ⟨hPa, hb, hf, hs, hc, hm, hz, hk, hl, ht, n1, n2, n3, n4, n5, n6, n7, n8⟩ := h
  refine ⟨hPa, hb.of Mo.rf (fun _ _ _ => rfl) (fun a b z => hB a b (by omega)), hf.of Mo.rf (fun _ _ _ => rfl) (fun a b z => hB a b (by omega)), hs.of Mo.rf (fun _ _ _ => rfl) (fun a b z => hB a b (by omega)), hc.of Mo.rf (fun _ _ _ => rfl) (fun a b z => hB a b (by omega)), hm.of Mo.rf (fun _ _ _ => rfl) (fun a b z => hB a b (by omega)), hz.of (fun _ _ => rfl) (fun _ _ _ => rfl) (fun a b z => hB a b (by omega)), hk.of Mo.rf (fun _ _ _ => rfl) (fun a b z => hB a b (by omega)), hl.of Mo.rf (fun _ _ => ⟨rfl, Nat.le_refl _⟩) (fun _ _ _ => rfl) (fun a b z => hB a b (by omega)), ht.of Mo.rf (fun _ _ _ => rfl) (fun a b z => hB a b (by omega)), n1, n2, n3, n4, n5, n6, n7, n8.of (fun a b z => hB a b (by omega))⟩
section
variable {T : Tp} {L M : List (List Nat)} {K P Z u p n k s : Nat} {E F H G : Nat → Nat} {A B : St}
theorem eB_le {n : Nat} {E : Nat → Nat} (hE : ∀ c, c < n → E c ≤ E (c + 1) ∧ E (c + 1) ≤ E c + 8) (h7 : E 7 = 0) : ∀ c, 7 ≤ c → c ≤ n → E c ≤ 8 * (c - 7) := by
  intro c
  induction c with
  | zero => intro z; omega
  | succ c ih =>
    intro z1 z2
    rcases Nat.lt_or_ge c 7 with y | y
    · rw [show c + 1 = 7 by omega, h7]; omega
    · have := ih y (by omega); have := (hE c (by omega)).2; omega
/-- what the linked class has -/
def LkA (L M : List (List Nat)) (P Z n k s : Nat) (E F H G : Nat → Nat) (A B J : St) : Prop := PAR (fun c => J (P + 2) (6 * c)) (prn B Z) n ∧ (∀ x, x < n → J (P + 2) (6 * x + 4) = Int32.ofNat (alf (prn B Z) E 19 x)) ∧ (∀ x, 7 ≤ x → x < n → ∀ f, E x ≤ f → f < E (x + 1) → J (P + 4) (5 * f + 4) = Int32.ofNat (alf (prn B Z) E 19 (prn B Z x) + (f - E x))) ∧ (∀ m t, m < k → G m ≤ t → t < G (m + 1) → TrL B Z n (H k) m t P A J) ∧ (∀ m i, m < k → F m ≤ i → i < F (m + 1) → CdL B Z n (E n) s k (H k) m i P A J) ∧ (∀ b, b % 3 = 0 → J (P + 10) b = A (P + 10) b) ∧ ∀ a b, a ≠ 57 → (a ≠ P + 2 ∨ (b % 6 ≠ 0 ∧ b % 6 ≠ 4)) → a ≠ 38 → (a ≠ P + 4 ∨ b % 5 ≠ 4) → a ≠ P + 10 → a ≠ P + 12 → a ≠ P + 14 → J a b = A a b
set_option maxHeartbeats 4000000 in
theorem x81_l (hP : P = 3 ∨ P = 18) {u' : Nat} (h : Bz L M P Z p n k k s E F H G A B) (hN : NmR L u' A) : ∃ J, x81 P A = some (J 57 3, J) ∧ NoC (SAll B Z n (E n) s k F H G) J ∧ LkA L M P Z n k s E F H G A B J ∧ (J 57 3 = 0 → CaL B P Z n k J) := by
  obtain ⟨⟨hp, bM, nM⟩, hb, hf, hs, hc, hm, hz, hk, hl, ht, n1, n2, n3, n4, n5, n6, n7, n8⟩ := h
  have hP2 : 3 ≤ P ∧ P ≤ 18 := by omega
  have hP' : Hid (P = 3 ∨ P = 18) := hP
  obtain ⟨w1, w2, w3, nL, w5, w6⟩ := hN
  obtain ⟨c1, c2, c3, c4⟩ := hc
  obtain ⟨m1, m2, m3, m4⟩ := hm
  obtain ⟨k1, k2, k3, k4, k5, k6⟩ := hk
  obtain ⟨l1, l2, l3, l4⟩ := hl
  obtain ⟨t1, t2, t3, t4, t5⟩ := ht
  have hE : ∀ c, c < n → E c ≤ E (c + 1) ∧ E (c + 1) ≤ E c + 8 := fun c hc => ⟨(c4 c hc).2.2.2.1, (c4 c hc).2.2.2.2.1⟩
  have eB := eB_le hE n5
  have eN := eB n n1 (Nat.le_refl _)
  clear hP
  -- classes
  obtain ⟨J1, a1, a2, a3, a4, a5⟩ := lk_c (A := A) (B := B) hP' hP2 w2 nL bM nM n2 c1 (fun c hc => (c4 c hc).1) n1 n 0 100000 (up2 (up2 A 57 3 0) 57 4 (-1)) (by omega) (by omega) ⟨fun a b z1 z2 z3 => by rw [up2_o (by omega), up2_o (by omega)], fun i j s' z1 z2 => by
      obtain ⟨o, -, -, -, -, -, q6, -⟩ := w5 i s' z1
      have hi := get_lt z1
      rw [(t37).1 A i (by omega)] at q6
      rw [up2_o (by omega), up2_o (by omega), q6]
      rfl, fun x hx => by rw [if_neg (by omega), up2_o (by omega), up2_o (by omega)], Or.inl ⟨fun q k' z => by obtain ⟨c, z1, -⟩ := z; omega, by rw [up2_o (by omega), up2_s]⟩⟩
  have par1 : PAR (fun c => J1 (P + 2) (6 * c)) (prn B Z) n := by
    refine ⟨?_, fun c z1 z2 => ⟨?_, prn_lt z1⟩⟩
    · have := ((c4 0 (by omega)).1.2.2.1 (by omega))
      dsimp only
      rw [a4 0 (by omega), if_neg (by omega)]
      rw [this.2.2.1, this.2.2.2]
      rfl
    · dsimp only
      rw [a4 c (by omega)]
      by_cases y : 7 ≤ c
      · rw [if_pos ⟨z2, y⟩]
      · rw [if_neg (by omega)]
        have := ((c4 c z2).1.2.2.1 (by omega))
        rw [this.2.2.1, this.2.2.2, if_neg (by omega)]
        unfold prn
        rw [if_pos (show c < 7 by omega)]
        by_cases y1 : c = 1
        · rw [if_pos y1, if_pos (by omega)]; rfl
        · rw [if_neg y1, if_neg (by omega)]; rfl
  -- fields
  obtain ⟨J2, b1, b2, b3, b4⟩ := x84_l (P := P) (n := n) (p := prn B Z) (E := E) (A := J1) hP' hP2 (fun c z1 z2 => prn_lt z1) n2 n1 (by rw [a2 _ _ (by omega) (by omega) (by omega)]; exact c1) hE n5 (fun c hc => by
      have := c4 c hc
      rw [a2 _ _ (by omega) (by omega) (by omega), a2 _ _ (by omega) (by omega) (by omega), a2 _ _ (by omega) (by omega) (by omega)]
      exact ⟨this.2.1, this.2.2.1, this.1.2.1⟩) (fun c z1 z2 => (par1.2 c (by omega) z2).1)
  have f2 : ∀ a b, a ≠ 57 → (a ≠ P + 2 ∨ (b % 6 ≠ 0 ∧ b % 6 ≠ 4)) → (a ≠ 38 ∨ b % 6 ≠ 0) → (a ≠ P + 4 ∨ b % 5 ≠ 4) → J2 a b = A a b := fun a b z1 z2 z3 z4 => by
    rw [b2 a b (by omega) (by omega), a2 a b z1 (by omega) z3]
  -- members
  obtain ⟨J3, d1, d2, d3⟩ := x85_l (A := J2) (B := B) (N := E n + s + k) w2 nL bM nM (hb.of Mo.rf (fun a b z => f2 a b (by omega) (by omega) (by omega) (by omega)) (fun _ _ _ => rfl)) (by omega) (I := J2) ⟨NoC.of a5 (b2 _ _ (by omega) (by omega)) (b2 _ _ (by omega) (by omega)), fun _ _ _ => rfl⟩
  have h2 : A2k P A J3 := fun a b z1 z2 z3 z4 => (d3 a b z1).trans (f2 a b z1 z2 z3 z4)
  have nmc : NmC L M Z B J3 n := fun i j s' z1 z2 => by
    rw [d3 _ _ (by omega), b2 _ _ (by omega) (by omega)]
    exact a3 i j s' z1 z2
  have par3 : PAR (fun c => J3 (P + 2) (6 * c)) (prn B Z) n := by
    have e : ∀ c, J3 (P + 2) (6 * c) = J1 (P + 2) (6 * c) := fun c => by rw [d3 _ _ (by omega), b2 _ _ (by omega) (by omega)]
    refine ⟨?_, fun c z1 z2 => ⟨?_, prn_lt z1⟩⟩
    · rw [← par1.1]; exact e 0
    · rw [← (par1.2 c z1 z2).1]; exact e c
  have hC3 : CdC L M P Z n (E n) s k J3 B := by
    refine ⟨par3, ?_, hs.of Mo.rf (fun a b z => h2 a b (by omega) (by omega) (by omega) (by omega)) (fun _ _ _ => rfl), ?_, fun m hm => (m4 m hm).1.of Mo.rf (fun a b z => h2 a b (by omega) (by omega) (by omega) (by omega)) (fun _ _ _ => rfl)⟩
    · obtain ⟨q1, q2, q3⟩ := hf
      refine ⟨by rw [h2 _ _ (by omega) (by omega) (by omega) (by omega)]; exact q1, q2, fun i hi => ?_⟩
      rw [h2 _ _ (by omega) (by omega) (by omega) (by omega), h2 _ _ (by omega) (by omega) (by omega) (by omega), h2 _ _ (by omega) (by omega) (by omega) (by omega), h2 _ _ (by omega) (by omega) (by omega) (by omega)]
      exact q3 i hi
    · rw [h2 _ _ (by omega) (by omega) (by omega) (by omega)]; exact m1
  have hLb : Lb L M Z k F H A B := ⟨l3, l4⟩
  have hTb : Tb L M P Z k G A B := ⟨t4, t5⟩
  -- methods
  have go := lpS (Y := l81_52 P) (NO := fun m S I => MS L M P Z n (E n) s k F H G A J3 B m S I) (N := k) (T := fun m => SAm B Z n (E n) s k (H k) F H G m) (fun b S S' I h e => ⟨h.1.ext e, h.2⟩) (fun f S I hI => by
      rw [l81_52, hI.2.1 _ _ (by omega) (by omega) (by omega) (by omega), hC3.2.2.2.1, if_pos (Int32.le_refl _)]) (fun f m S I hm hI => ms_s hP' w2 nL bM nM hLb hTb n3 n2 (by omega) n4 (by omega) h2 hC3 (fun m hm => (m4 m hm).2.1) n8 (fun m hm => by
        obtain ⟨-, -, q1, q2, q3, q4, q5, q6, q7⟩ := m4 m hm
        exact ⟨q1, q3, q4, q5, q6, q7⟩) (fun m hm => (k5 m hm).1) (by omega) k6 hm hI)
  obtain ⟨J4, e1, e2, e3, e4, e5, e6, e7, e8, e9⟩ := go k 0 100000 _ J3 (by omega) (by omega) ⟨d2, fun _ _ _ _ _ _ => rfl, fun h0 i j s' z1 z2 => by
      obtain ⟨o, -, -, -, -, -, -, q7, -⟩ := w5 i s' z1
      have hi := get_lt z1
      rw [(t37).2.1 A i (by omega)] at q7
      rw [lbf_0 hLb h0 n3]
      refine ⟨fun l z => (nomatch z), fun _ => Or.inl ?_⟩
      rw [h2 _ _ (by omega) (by omega) (by omega) (by omega)]
      exact q7, nmc, fun m' t z => by omega, fun b z => h2 _ _ (by omega) (by omega) (by omega) (by omega), fun m' t z => by omega, fun b z => h2 _ _ (by omega) (by omega) (by omega) (by omega)⟩
  have hfin : NoC (SAll B Z n (E n) s k F H G) J4 := e2.ext (fun q k' => by
    unfold SAll UnS
    constructor
    · rintro ((z | z) | ⟨m, -, z1, z2⟩)
      · exact Or.inl z
      · exact Or.inr (Or.inl z)
      · exact Or.inr (Or.inr ⟨m, z1, z2⟩)
    · rintro (z | z | ⟨m, z1, z2⟩)
      · exact Or.inl (Or.inl z)
      · exact Or.inl (Or.inr z)
      · exact Or.inr ⟨m, by omega, z1, z2⟩)
  have lk : ∀ J : St, (∀ a b, a ≠ P + 14 → J a b = J4 a b) → LkA L M P Z n k s E F H G A B J := fun J hJ => by
    refine ⟨⟨?_, fun c z1 z2 => ⟨?_, prn_lt z1⟩⟩, fun x hx => ?_, fun x z1 z2 f z3 z4 => ?_, fun m t z1 z2 z3 => ?_, fun m i z1 z2 z3 => ?_, fun b z => ?_, fun a b z1 z2 z3 z4 z5 z6 z7 => ?_⟩
    · rw [← par3.1]; dsimp only; rw [hJ _ _ (by omega), e3 _ _ (by omega) (by omega) (by omega) (by omega)]
    · rw [← (par3.2 c z1 z2).1]; dsimp only; rw [hJ _ _ (by omega), e3 _ _ (by omega) (by omega) (by omega) (by omega)]
    · rw [hJ _ _ (by omega), e3 _ _ (by omega) (by omega) (by omega) (by omega), d3 _ _ (by omega), b3 x hx, if_pos hx]
    · rw [hJ _ _ (by omega), e3 _ _ (by omega) (by omega) (by omega) (by omega), d3 _ _ (by omega), b4 x z1 z2 f z3 z4]
    · have := e6 m t z1 z2 z3
      unfold TrL at this ⊢
      simp (disch := omega) only [hJ]
      exact this
    · have := e8 m i z1 z2 z3
      unfold CdL at this ⊢
      simp (disch := omega) only [hJ]
      exact this
    · rw [hJ _ _ (by omega)]; exact e9 b (by omega)
    · rw [hJ a b z7, e3 a b z1 (by omega) z5 z6, h2 a b z1 z2 (by omega) z4]
  have eq1 : x81 P A = if J4 57 3 = 0 then (x96 P J4).bind fun q12 => some ((q12 57 3), q12) else some ((J4 57 3), J4) := by
    unfold x81
    rw [show (0 : Int32) = Int32.ofNat 0 from rfl]
    rw [show (up2 (up2 A 57 3 (Int32.ofNat 0)) 57 4 (-1)) = up2 (up2 A 57 3 0) 57 4 (-1) from rfl, a1, Option.bind_some, b1, Option.bind_some, d1, Option.bind_some, e1, Option.bind_some]
  by_cases y : J4 57 3 = 0
  · obtain ⟨J5, g1, g2, g3⟩ := x96_l (hP') w2 nL bM nM n2 n1 n3 (I := J4) (by rw [e3 _ _ (by omega) (by omega) (by omega) (by omega), h2 _ _ (by omega) (by omega) (by omega) (by omega)]; exact c1) (hC3.of (fun a b z => e3 a b (by omega) (by omega) (by omega) (by omega)))
    refine ⟨J5, ?_, NoC.of hfin (g3 _ _ (by omega)) (g3 _ _ (by omega)), lk J5 g3, fun _ => g2⟩
    rw [eq1, if_pos y, g1, Option.bind_some]
  · exact ⟨J4, by rw [eq1, if_neg y], hfin, lk J4 (fun _ _ _ => rfl), fun z => absurd z y⟩
end
