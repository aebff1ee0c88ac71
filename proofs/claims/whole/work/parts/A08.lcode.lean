/-! INSTRUCTIONS linked by the class -/
def opn (B : St) (Z i : Nat) : Nat := (B (Z + 26) i).toNatClampNeg
/-- the member that an instruction names, of class c or above -/
def lkm (B : St) (Z nf s k o : Nat) (y : Int32) (c : Nat) : Option Nat := if o = 38 ∨ o = 39 then upw (prn B Z) (flf Z B y nf) 19 c else if o = 40 ∨ o = 41 then upw (prn B Z) (stf Z B y s) 19 c else upw (prn B Z) (mtf Z B y (if o = 50 then 1 else 0) k) 19 c
def SIn (B : St) (Z n nf s k N m i : Nat) : Nat → Nat → Prop := fun q kk => PtS (shp (opn B Z i) = 4 ∧ lbf B Z N m (B (Z + 29) i) = none) (B (Z + 30) i) 2 q kk ∨ PtS ((shp (opn B Z i) = 5 ∨ shp (opn B Z i) = 6) ∧ cls B Z (B (Z + 29) i) n = none) (B (Z + 30) i) 2 q kk ∨ PtS (shp (opn B Z i) = 6 ∧ ∃ c, cls B Z (B (Z + 29) i) n = some c ∧ lkm B Z nf s k (opn B Z i) (B (Z + 31) i) c = none) (B (Z + 32) i) 2 q kk
def CdL (B : St) (Z n nf s k N m i P : Nat) (A I : St) : Prop := (shp (opn B Z i) = 4 → ∀ l, lbf B Z N m (B (Z + 29) i) = some l → I (P + 10) (3 * i + 1) = A 51 (3 * l + 2)) ∧ ((shp (opn B Z i) = 5 ∨ shp (opn B Z i) = 6) → ∀ c, cls B Z (B (Z + 29) i) n = some c → I (P + 10) (3 * i + 1) = Int32.ofNat c) ∧ (shp (opn B Z i) = 6 → ∀ c r, cls B Z (B (Z + 29) i) n = some c → lkm B Z nf s k (opn B Z i) (B (Z + 31) i) c = some r → I (P + 10) (3 * i + 2) = Int32.ofNat r) ∧ ((shp (opn B Z i) ≠ 4 ∧ shp (opn B Z i) ≠ 5 ∧ shp (opn B Z i) ≠ 6) → I (P + 10) (3 * i + 1) = A (P + 10) (3 * i + 1) ∧ I (P + 10) (3 * i + 2) = A (P + 10) (3 * i + 2))
section
variable {L M : List (List Nat)} {P Z k m n nf s c : Nat} {F H G : Nat → Nat} {A B I : St} {S : Nat → Nat → Prop} {x y v : Int32}
theorem nr_f (hP : Hid (P = 3 ∨ P = 18)) (bL : L.length ≤ 1460) (nL : L.Nodup) (bM : M.length ≤ 2000) (nM : M.Nodup) (hp : PAR (fun c => I (P + 2) (6 * c)) (prn B Z) n) (hn : n ≤ 19) (hf : CF L M P Z nf I B) (hb : nf ≤ 96) (hx : NE L M x y) (hc : c < n) : x87 P (P + 3) I (Int32.ofNat c) x 0 = some (oI (upw (prn B Z) (flf Z B y nf) 19 c)) := by
  obtain ⟨h1, h2, h3⟩ := hf
  refine x87_f (n := n) ⟨?_, fun c h0 hc => ?_⟩ hn (fun c b6 hc => l87_f h1 (by omega) (fun i hi => ?_)) hc
  · rw [← hp.1]; exact (tP1 hP).1 I 0 (by omega)
  · rw [← (hp.2 c h0 hc).1]
    exact ⟨(tP1 hP).1 I c (by omega), (hp.2 c h0 hc).2⟩
  · obtain ⟨e1, e2, e3, -⟩ := h3 i hi
    simp (disch := omega) only [tP3 hP]
    rw [decide_eq_true_iff, e1, e3, NE.iff nL nM (by omega) bM e2 hx]
    exact ⟨fun z => ⟨z.2, z.1, rfl⟩, fun z => ⟨z.2.1, z.1⟩⟩
theorem nr_s (hP : Hid (P = 3 ∨ P = 18)) (bL : L.length ≤ 1460) (nL : L.Nodup) (bM : M.length ≤ 2000) (nM : M.Nodup) (hp : PAR (fun c => I (P + 2) (6 * c)) (prn B Z) n) (hn : n ≤ 19) (hf : CS L M P Z s I B) (hb : s ≤ 16) (hx : NE L M x y) (hc : c < n) : x87 P (P + 5) I (Int32.ofNat c) x 0 = some (oI (upw (prn B Z) (stf Z B y s) 19 c)) := by
  obtain ⟨h1, h2, h3⟩ := hf
  refine x87_f (n := n) ⟨?_, fun c h0 hc => ?_⟩ hn (fun c b6 hc => l87_f h1 (by omega) (fun i hi => ?_)) hc
  · rw [← hp.1]; exact (tP1 hP).1 I 0 (by omega)
  · rw [← (hp.2 c h0 hc).1]
    exact ⟨(tP1 hP).1 I c (by omega), (hp.2 c h0 hc).2⟩
  · obtain ⟨e1, e2, e3, -⟩ := h3 i hi
    simp (disch := omega) only [tP5 hP]
    rw [decide_eq_true_iff, e1, e3, NE.iff nL nM (by omega) bM e2 hx]
    exact ⟨fun z => ⟨z.2, z.1, rfl⟩, fun z => ⟨z.2.1, z.1⟩⟩
/-- what a search for methods needs -/
def CMh (L M : List (List Nat)) (P Z k : Nat) (A B : St) : Prop := A (P + 7) 3 = Int32.ofNat k ∧ ∀ m, m < k → Mh L M P Z m A B
theorem nr_m (hP : Hid (P = 3 ∨ P = 18)) (bL : L.length ≤ 1460) (nL : L.Nodup) (bM : M.length ≤ 2000) (nM : M.Nodup) (hp : PAR (fun c => I (P + 2) (6 * c)) (prn B Z) n) (hn : n ≤ 19) (hf : CMh L M P Z k I B) (hb : k ≤ 24) (hx : NE L M x y) (hc : c < n) : x87 P (P + 7) I (Int32.ofNat c) x v = some (oI (upw (prn B Z) (mtf Z B y v k) 19 c)) := by
  obtain ⟨h1, h3⟩ := hf
  refine x87_f (n := n) ⟨?_, fun c h0 hc => ?_⟩ hn (fun c b6 hc => l87_f h1 (by omega) (fun i hi => ?_)) hc
  · rw [← hp.1]; exact (tP1 hP).1 I 0 (by omega)
  · rw [← (hp.2 c h0 hc).1]
    exact ⟨(tP1 hP).1 I c (by omega), (hp.2 c h0 hc).2⟩
  · obtain ⟨e1, -, e2, -, -, e3, -⟩ := h3 i hi
    simp (disch := omega) only [tP7 hP]
    rw [decide_eq_true_iff, e1, e3, NE.iff nL nM (by omega) bM e2 hx]
    exact ⟨fun z => ⟨z.2.1, z.1, z.2.2⟩, fun z => ⟨z.2.1, z.1, z.2.2⟩⟩
theorem upw_b {g : Nat → Option Nat} {k c r : Nat} (hg : ∀ c r, g c = some r → r < k) (h : upw (prn B Z) g 19 c = some r) : r < k := by
  have : ∀ d c, upw (prn B Z) g d c = some r → r < k := by
    intro d
    induction d with
    | zero => intro c h; cases h
    | succ d ih =>
      intro c h
      rw [upw] at h
      split at h
      · rename_i z; cases h; exact hg c _ z
      · split at h
        · cases h
        · exact ih _ h
  exact this 19 c h
theorem lkm_b {o r : Nat} (h : lkm B Z nf s k o y c = some r) : ((o = 38 ∨ o = 39) → r < nf) ∧ ((o = 40 ∨ o = 41) → r < s) ∧ ((o = 49 ∨ o = 50) → r < k) := by
  unfold lkm at h
  refine ⟨fun z => ?_, fun z => ?_, fun z => ?_⟩
  · rw [if_pos z] at h
    exact upw_b (fun c r => fdn_lt) h
  · rw [if_neg (by omega), if_pos z] at h
    exact upw_b (fun c r => fdn_lt) h
  · rw [if_neg (by omega), if_neg (by omega)] at h
    exact upw_b (fun c r => fdn_lt) h
/-- what the class's linker of instructions looks at -/
def CdC (L M : List (List Nat)) (P Z n nf s k : Nat) (A B : St) : Prop := PAR (fun c => A (P + 2) (6 * c)) (prn B Z) n ∧ CF L M P Z nf A B ∧ CS L M P Z s A B ∧ CMh L M P Z k A B
theorem CdC.of {A' : St} (h : CdC L M P Z n nf s k A B) (hA : ∀ a b, ((P + 1 ≤ a ∧ a ≤ P + 8) ∨ a = 49) → A' a b = A a b) : CdC L M P Z n nf s k A' B := by
  obtain ⟨h1, h2, h3, h4, h5⟩ := h
  refine ⟨⟨?_, fun c z1 z2 => ?_⟩, h2.of Mo.rf (fun a b z => hA a b (by omega)) (fun _ _ _ => rfl), h3.of Mo.rf (fun a b z => hA a b (by omega)) (fun _ _ _ => rfl), ?_, fun m hm => (h5 m hm).of Mo.rf (fun a b z => hA a b (by omega)) (fun _ _ _ => rfl)⟩
  · rw [← h1.1]; exact hA _ _ (by omega)
  · rw [← (h1.2 c z1 z2).1]; exact ⟨hA _ _ (by omega), (h1.2 c z1 z2).2⟩
  · rw [hA _ _ (by omega)]; exact h4
theorem x95_l (hP : Hid (P = 3 ∨ P = 18)) (hP2 : 3 ≤ P ∧ P ≤ 18) (bL : L.length ≤ 1460) (nL : L.Nodup) (bM : M.length ≤ 2000) (nM : M.Nodup) (hn : n ≤ 19) (hnf : nf ≤ 96) (hs : s ≤ 16) (hk : k ≤ 24) (hC : CdC L M P Z n nf s k I B) {i o : Nat} {q : Int32} (hi : i < 1333) (ho : I (P + 10) (3 * i) = Int32.ofNat o) (h59 : o < 59) (h6 : shp o = 6) (hx : NE L M (I (P + 10) (3 * i + 2)) y) (hc : c < n) (h53 : I 53 (3 * i + 2) = q) (hq : Plc q) (hI : NoC S I) : ∃ J, x95 P I (Int32.ofNat i) (Int32.ofNat c) = some J ∧ NoC (UnS S (PtS (lkm B Z nf s k o y c = none) q 2)) J ∧ J (P + 10) (3 * i + 1) = Int32.ofNat c ∧ J (P + 10) (3 * i + 2) = oI (lkm B Z nf s k o y c) ∧ ∀ a b, a ≠ 57 → (a ≠ P + 10 ∨ (b ≠ 3 * i + 1 ∧ b ≠ 3 * i + 2)) → J a b = I a b := by
  obtain ⟨h1, h2, h3, h4⟩ := hC
  have o6 : o = 38 ∨ o = 39 ∨ o = 40 ∨ o = 41 ∨ o = 49 ∨ o = 50 := by
    have : ∀ o, o < 59 → shp o = 6 → o = 38 ∨ o = 39 ∨ o = 40 ∨ o = 41 ∨ o = 49 ∨ o = 50 := by decide
    exact this o h59 h6
  have cm1 : ¬ Int32.ofNat c = -1 := i32_m1 (by omega)
  have key : ∀ r : Option Nat, (∀ x, r = some x → x < 2147483648) → ∃ J, ((if oI r = (-1) then (x83 I q 2).bind fun q3 => some q3 else some I).bind fun (q4 : St) => some (up2 (up2 q4 (P + 10) (3 * i + 1) (Int32.ofNat c)) (P + 10) (3 * i + 2) (oI r))) = some J ∧ NoC (UnS S (PtS (r = none) q 2)) J ∧ J (P + 10) (3 * i + 1) = Int32.ofNat c ∧ J (P + 10) (3 * i + 2) = oI r ∧ ∀ a b, a ≠ 57 → (a ≠ P + 10 ∨ (b ≠ 3 * i + 1 ∧ b ≠ 3 * i + 2)) → J a b = I a b := fun r hr => by
    obtain ⟨J, j1, j2, j3⟩ := x83_c (c := oI r = -1) hI (fun _ => hq) (show (2 : Int32) = Int32.ofNat 2 from rfl) (by decide) (by decide)
    rw [Option.bind_fun_some, j1, Option.bind_some]
    refine ⟨_, rfl, NoC.of (j2.ext (fun q k' => ?_)) (by simp (disch := omega) only [up2_o]) (by simp (disch := omega) only [up2_o]), by simp (disch := omega) only [up2_o, up2_s], by simp (disch := omega) only [up2_s], fun a b z1 z2 => by rw [up2_o (by omega), up2_o (by omega), j3 a b z1]⟩
    unfold UnS PtS
    rw [oI_m1 hr]
  have hr : ∀ x, lkm B Z nf s k o y c = some x → x < 2147483648 := fun x hx => by
    have := lkm_b hx
    omega
  obtain ⟨J, j1, j2⟩ := key (lkm B Z nf s k o y c) hr
  refine ⟨J, ?_, j2⟩
  rw [← j1]
  unfold x95
  rw [if_neg cm1]
  simp (disch := omega) only [tP9 hP, t52, h53, ho]
  have e38 : (38 : Int32) = Int32.ofNat 38 := rfl
  rcases o6 with rfl | rfl | rfl | rfl | rfl | rfl
  · rw [if_neg (by decide), if_neg (by decide), if_neg (by decide), if_neg (by decide), if_neg (by decide), Option.bind_some, nr_f hP bL nL bM nM h1 hn h2 hnf hx hc]
    rfl
  · rw [if_neg (by decide), if_neg (by decide), if_neg (by decide), if_neg (by decide), if_neg (by decide), Option.bind_some, nr_f hP bL nL bM nM h1 hn h2 hnf hx hc]
    rfl
  · rw [if_neg (by decide), if_neg (by decide), if_pos (by decide), if_neg (by decide), Option.bind_some, nr_s hP bL nL bM nM h1 hn h3 hs hx hc]
    rfl
  · rw [if_neg (by decide), if_neg (by decide), if_neg (by decide), if_pos (by decide), if_neg (by decide), Option.bind_some, nr_s hP bL nL bM nM h1 hn h3 hs hx hc]
    rfl
  · rw [if_pos (by decide), if_neg (by decide), Option.bind_some, nr_m hP bL nL bM nM h1 hn h4 hk hx hc]
    rfl
  · rw [if_neg (by decide), if_pos (by decide), if_pos (by decide), Option.bind_some, nr_m hP bL nL bM nM h1 hn h4 hk hx hc]
    rfl
def CdI (L M : List (List Nat)) (Z n nf s k N m P : Nat) (F H : Nat → Nat) (B A A4 : St) (ii : Nat) (S : Nat → Nat → Prop) (I : St) : Prop := NoC S I ∧ (∀ a b, a ≠ 57 → a ≠ P + 10 → I a b = A4 a b) ∧ NmL L M Z B A m (H (m + 1)) I ∧ NmC L M Z B I n ∧ (∀ i, F m ≤ i → i < ii → CdL B Z n nf s k N m i P A I) ∧ ∀ b, (b < 3 * F m ∨ 3 * ii ≤ b ∨ b % 3 = 0) → I (P + 10) b = A4 (P + 10) b
theorem K1.op {i : Nat} (h : K1 L M P Z i A B) : opn B Z i < 59 ∧ B (Z + 26) i = Int32.ofNat (opn B Z i) ∧ A (P + 10) (3 * i) = Int32.ofNat (opn B Z i) := by
  obtain ⟨o, h1, h2, h3, -⟩ := h
  have : opn B Z i = o := by unfold opn; rw [h3, i32_cl (by omega)]
  rw [this]
  exact ⟨h1, h3, h2⟩
set_option maxHeartbeats 4000000 in
theorem cd_s (hP : Hid (P = 3 ∨ P = 18)) (hP2 : 3 ≤ P ∧ P ≤ 18) (bL : L.length ≤ 1460) (nL : L.Nodup) (bM : M.length ≤ 2000) (nM : M.Nodup) (h : Lb L M Z k F H A B) (hm : m < k) (hk : k ≤ 24) (hn : n ≤ 19) (hnf : nf ≤ 96) (hs : s ≤ 16) {A4 : St} (hC : CdC L M P Z n nf s k A4 B) {ii f : Nat} {b4 : Int32} (ht : F m ≤ ii) (ht2 : ii < 1333) (h53 : ∀ b, A4 53 b = A 53 b) (hA4 : ∀ j, j < 3 → A4 (P + 10) (3 * ii + j) = A (P + 10) (3 * ii + j)) (hK : K1 L M P Z ii A B) (hb : ¬ b4 ≤ Int32.ofNat ii) (hI : CdI L M Z n nf s k (H k) m P F H B A A4 ii S I) : ∃ J, l94_41 P (Int32.ofNat m) b4 (f + 1) (Int32.ofNat ii) I = l94_41 P (Int32.ofNat m) b4 f (Int32.ofNat (ii + 1)) J ∧ CdI L M Z n nf s k (H k) m P F H B A A4 (ii + 1) (UnS S (SIn B Z n nf s k (H k) m ii)) J := by
  obtain ⟨g1, g2, g3, g4, g5, g6⟩ := hI
  obtain ⟨o1, o2, o3⟩ := hK.op
  obtain ⟨o, y1, y2, y3, -, -, -, -, -, y9, y10⟩ := hK
  obtain rfl : o = opn B Z ii := by
    unfold opn
    rw [y3, i32_cl (by omega)]
  generalize ho : opn B Z ii = o at *
  have c0 : I (P + 10) (3 * ii) = Int32.ofNat o := by
    rw [g6 _ (by omega)]
    exact (hA4 0 (by omega)).trans o3
  have c1 : I (P + 10) (3 * ii + 1) = A (P + 10) (3 * ii + 1) := by rw [g6 _ (by omega)]; exact hA4 1 (by omega)
  have c2 : I (P + 10) (3 * ii + 2) = A (P + 10) (3 * ii + 2) := by rw [g6 _ (by omega)]; exact hA4 2 (by omega)
  have fin : ∀ (J : St) (T : Nat → Nat → Prop), NoC (UnS S T) J → (∀ q k', T q k' ↔ SIn B Z n nf s k (H k) m ii q k') → (∀ a b, a ≠ 57 → (a ≠ P + 10 ∨ (b ≠ 3 * ii + 1 ∧ b ≠ 3 * ii + 2)) → J a b = I a b) → CdL B Z n nf s k (H k) m ii P A J → CdI L M Z n nf s k (H k) m P F H B A A4 (ii + 1) (UnS S (SIn B Z n nf s k (H k) m ii)) J := fun J T w1 w2 w3 w4 => by
    refine ⟨w1.ext (fun q k' => by unfold UnS; rw [w2]), fun a b z1 z2 => by rw [w3 a b z1 (by omega), g2 a b z1 z2], g3.of (fun b => w3 _ _ (by omega) (by omega)), fun i j s' z1 z2 => by rw [w3 _ _ (by omega) (by omega)]; exact g4 i j s' z1 z2, fun i z1 z2 => ?_, fun b z => ?_⟩
    · rcases Nat.lt_or_ge i ii with y | y
      · obtain ⟨u1, u2, u3, u4⟩ := g5 i z1 y
        unfold CdL
        rw [w3 (P + 10) (3 * i + 1) (by omega) (by omega), w3 (P + 10) (3 * i + 2) (by omega) (by omega)]
        exact ⟨u1, u2, u3, u4⟩
      · obtain rfl : i = ii := by omega
        exact w4
    · rw [w3 _ _ (by omega) (by omega)]
      exact g6 b (by omega)
  rw [l94_41, if_neg hb, i32_s]
  simp (disch := omega) only [tP9 hP, t52, c0, c1, g2, h53]
  rw [x76_n o o1, Option.bind_some]
  have hsh : shp o < 8 := by
    have : ∀ o, o < 59 → shp o < 8 := by decide
    exact this o o1
  by_cases s4 : shp o = 4
  · obtain ⟨n1, n2, n3⟩ := y9 (Or.inl s4)
    obtain ⟨v, J, a1, a2, a3, a4, a5⟩ := x92_l h hm hk bL g1 g3 n1 n3
    rw [if_pos (by rw [s4]; rfl), n2, a1, Option.bind_some]
    dsimp only
    refine ⟨_, rfl, fin _ _ (a2.of (up2_o (by omega)) (up2_o (by omega))) (fun q k' => ?_) (fun a b z1 z2 => by rw [up2_o (by omega), a3 a b z1]) ?_⟩
    · unfold SIn PtS
      rw [ho, s4]
      simp
    · unfold CdL
      rw [ho, s4]
      refine ⟨fun _ l hl => by rw [up2_s]; exact a5 l hl, fun z => by omega, fun z => by omega, fun z => by omega⟩
  · rw [if_neg (fun z => s4 ((i32_e (x := 4) (b := 4) rfl (by omega) (by decide)).mp z))]
    by_cases s5 : shp o = 5
    · obtain ⟨n1, n2, n3⟩ := y9 (Or.inr (Or.inl s5))
      obtain ⟨J, a1, a2, a3⟩ := x93_l hn bL g1 g4 n1 n3
      rw [if_pos (by rw [s5]; rfl), n2, a1, Option.bind_some]
      dsimp only
      refine ⟨_, rfl, fin _ _ (a2.of (up2_o (by omega)) (up2_o (by omega))) (fun q k' => ?_) (fun a b z1 z2 => by rw [up2_o (by omega), a3 a b z1]) ?_⟩
      · unfold SIn PtS
        rw [ho, s5]
        simp
      · unfold CdL
        rw [ho, s5]
        refine ⟨fun z => by omega, fun _ c hc => by rw [up2_s, hc]; rfl, fun z => by omega, fun z => by omega⟩
    · rw [if_neg (fun z => s5 ((i32_e (x := 5) (b := 5) rfl (by omega) (by decide)).mp z))]
      by_cases s6 : shp o = 6
      · obtain ⟨n1, n2, n3⟩ := y9 (Or.inr (Or.inr s6))
        obtain ⟨n4, n5, n6⟩ := y10 s6
        obtain ⟨J, a1, a2, a3⟩ := x93_l hn bL g1 g4 n1 n3
        rw [if_pos (by rw [s6]; rfl), n2, a1, Option.bind_some]
        dsimp only
        cases w : cls B Z (B (Z + 29) ii) n with
        | none =>
          rw [w] at a2
          have : x95 P J (Int32.ofNat ii) (oI none) = some J := by unfold x95; rw [if_pos (show oI none = -1 from rfl)]
          rw [this, Option.bind_some]
          refine ⟨_, rfl, fin _ _ a2 (fun q k' => ?_) (fun a b z1 z2 => a3 a b z1) ?_⟩
          · unfold SIn PtS
            rw [ho, s6, w]
            simp
          · unfold CdL
            rw [ho, s6, w]
            refine ⟨fun z => by omega, fun _ c hc => (nomatch hc), fun _ c r hc => (nomatch hc), fun z => by omega⟩
        | some c =>
          rw [w] at a2
          have hc := cls_lt w
          obtain ⟨J', b1, b2, b3, b4, b5⟩ := x95_l (c := c) (y := B (Z + 31) ii) (q := B (Z + 32) ii) hP hP2 bL nL bM nM hn hnf hs hk (hC.of (A' := J) (fun a b z => by rw [a3 a b (by omega), g2 a b (by omega) (by omega)])) ht2 (by rw [a3 _ _ (by omega)]; exact c0) o1 s6 (by rw [a3 _ _ (by omega), c2]; exact n4) hc (by rw [a3 _ _ (by omega), g2 _ _ (by omega) (by omega), h53]; exact n5) n6 a2
          rw [show oI (some c) = Int32.ofNat c from rfl, b1, Option.bind_some]
          refine ⟨_, rfl, fin J' (PtS (lkm B Z nf s k o (B (Z + 31) ii) c = none) (B (Z + 32) ii) 2) (b2.ext (fun q k' => ?_)) (fun q k' => ?_) (fun a b z1 z2 => by rw [b5 a b z1 z2, a3 a b z1]) ?_⟩
          · unfold UnS PtS
            simp
          · unfold SIn PtS
            rw [ho, s6, w]
            simp
          · unfold CdL
            rw [ho, s6, w]
            refine ⟨fun z => by omega, fun _ c' hc' => by cases hc'; exact b3, fun _ c' r hc' hr => ?_, fun z => by omega⟩
            cases hc'
            rw [b4, hr]
            rfl
      · rw [if_neg (fun z => s6 ((i32_e (x := 6) (b := 6) rfl (by omega) (by decide)).mp z))]
        refine ⟨I, rfl, fin I (fun _ _ => False) (g1.ext (fun q k' => ?_)) (fun q k' => ?_) (fun _ _ _ _ => rfl) ?_⟩
        · unfold UnS
          simp
        · unfold SIn PtS
          rw [ho]
          simp only [s4, s5, s6, false_and, or_self]
        · unfold CdL
          rw [ho]
          exact ⟨fun z => absurd z s4, fun z => by omega, fun z => absurd z s6, fun _ => ⟨c1, c2⟩⟩
theorem x94_l (hP : Hid (P = 3 ∨ P = 18)) (hP2 : 3 ≤ P ∧ P ≤ 18) (bL : L.length ≤ 1460) (nL : L.Nodup) (bM : M.length ≤ 2000) (nM : M.Nodup) (h : Lb L M Z k F H A B) (hm : m < k) (hk : k ≤ 24) (hn : n ≤ 19) (hnf : nf ≤ 96) (hs : s ≤ 16) {A4 : St} (hC : CdC L M P Z n nf s k A4 B) (hFm : F m ≤ F (m + 1)) (hF : F (m + 1) ≤ 1280) (h53 : ∀ b, A4 53 b = A 53 b) (hA4 : ∀ i, F m ≤ i → i < F (m + 1) → ∀ j, j < 3 → A4 (P + 10) (3 * i + j) = A (P + 10) (3 * i + j)) (hK : ∀ i, F m ≤ i → i < F (m + 1) → K1 L M P Z i A B) (h56 : A4 (P + 8) (16 * m + 5) = Int32.ofNat (F m) ∧ A4 (P + 8) (16 * m + 6) = Int32.ofNat (F (m + 1) - F m)) (hI : CdI L M Z n nf s k (H k) m P F H B A A4 (F m) S I) : ∃ J, x94 P I (Int32.ofNat m) = some J ∧ CdI L M Z n nf s k (H k) m P F H B A A4 (F (m + 1)) (fun q k' => S q k' ∨ ∃ i, F m ≤ i ∧ i < F (m + 1) ∧ SIn B Z n nf s k (H k) m i q k') J := by
  have go := lpS (Y := l94_41 P (Int32.ofNat m) (Int32.ofNat (F (m + 1)))) (NO := fun ii S I => F m ≤ ii ∧ CdI L M Z n nf s k (H k) m P F H B A A4 ii S I) (N := F (m + 1)) (T := fun t => SIn B Z n nf s k (H k) m t) (fun b S S' I h e => ⟨h.1, h.2.1.ext e, h.2.2⟩) (fun f S I hI => by rw [l94_41, if_pos (Int32.le_refl _)]) (fun f b S I hb hI => by
    obtain ⟨y1, y2⟩ := hI
    obtain ⟨J, j1, j2⟩ := cd_s (f := f) (b4 := Int32.ofNat (F (m + 1))) hP hP2 bL nL bM nM h hm hk hn hnf hs hC y1 (by omega) h53 (hA4 b y1 hb) (hK b y1 hb) (by rw [i32_le (by omega) (by omega)]; omega) y2
    exact ⟨J, j1, by omega, j2⟩)
  obtain ⟨J, j1, j2⟩ := go (F (m + 1) - F m) (F m) 100000 S I (by omega) (by omega) ⟨Nat.le_refl _, hI⟩
  refine ⟨J, ?_, j2.2⟩
  unfold x94
  simp (disch := omega) only [tP7 hP, hI.2.1, h56]
  rw [i32_a, show F m + (F (m + 1) - F m) = F (m + 1) by omega, j1]
  rfl
end
