/-! LABELS and classes by name -/
/-- the first label of method m named y, of N -/
def lbf (B : St) (Z N m : Nat) (y : Int32) : Option Nat := fdn (fun l => decide (B (Z + 34) l = Int32.ofNat m ∧ B (Z + 35) l = y)) N
def lbv (B : St) (Z : Nat) : Option Nat → Int32
  | none => -1
  | some l => B (Z + 36) l
theorem x221_f {Z N m : Nat} {B I : St} {y : Int32} (hZ2 : 85 ≤ Z) (hN : B Z 10 = Int32.ofNat N) (hb : N ≤ 1280) (hI : ∀ a b, ((a = Z ∧ b = 10) ∨ (Z + 34 ≤ a ∧ a ≤ Z + 36)) → I a b = B a b) : x221 Z I (Int32.ofNat m) y = some (lbv B Z (lbf B Z N m y)) := by
  have h := srch (l := fun f b => l221_2 Z (Int32.ofNat m) y f b I) (p := fun l => decide (B (Z + 34) l = Int32.ofNat m ∧ B (Z + 35) l = y)) (v := fun l => B (Z + 36) l) (n := N)
    (fun f => by rw [l221_2, hI _ _ (by omega), hN, if_pos (Int32.le_refl _)])
    (fun f b hb hp => by
      have hp := of_decide_eq_true hp
      have hi : inb (Int32.ofNat b) 2000 := (i32_inb (by omega)).mpr (by omega)
      have hcl : (Int32.ofNat b).toNatClampNeg = b := i32_cl (by omega)
      rw [l221_2, hI _ _ (by omega), hN, if_neg (by rw [i32_le (by omega) (by omega)]; omega)]
      simp (disch := omega) only [if_pos hi, hcl, hI]
      rw [if_pos hp.1, if_pos hp.2])
    (fun f b hb hp => by
      have hp := of_decide_eq_false hp
      have hi : inb (Int32.ofNat b) 2000 := (i32_inb (by omega)).mpr (by omega)
      have hcl : (Int32.ofNat b).toNatClampNeg = b := i32_cl (by omega)
      rw [l221_2, hI _ _ (by omega), hN, if_neg (by rw [i32_le (by omega) (by omega)]; omega)]
      simp (disch := omega) only [if_pos hi, hcl, hI, i32_s]
      split
      · rename_i z1
        rw [if_neg (fun z2 => hp ⟨z1, z2⟩)]
      · rfl)
    100000 (by omega)
  unfold x221
  rw [h]
  unfold lbf
  cases fdn (fun l => decide (B (Z + 34) l = Int32.ofNat m ∧ B (Z + 35) l = y)) N <;> rfl
/-- the names' labels, r rows of labels done, the last of method m -/
def NmL (L M : List (List Nat)) (Z : Nat) (B A : St) (m r : Nat) (I : St) : Prop := ∀ (i j : Nat) (s : List Nat), L[i]? = some s → M[j]? = some s → (∀ l, lbf B Z r m (Int32.ofNat j) = some l → I 38 (6 * i + 1) = Int32.ofNat m ∧ I 38 (6 * i + 2) = A 51 (3 * l + 2)) ∧ (lbf B Z r m (Int32.ofNat j) = none → I 38 (6 * i + 1) = -1 ∨ ∃ m', m' < m ∧ I 38 (6 * i + 1) = Int32.ofNat m')
theorem NmL.of {L M : List (List Nat)} {Z m r : Nat} {B A I J : St} (h : NmL L M Z B A m r I) (hJ : ∀ b, J 38 b = I 38 b) : NmL L M Z B A m r J := by
  intro i j s h1 h2
  rw [hJ, hJ]
  exact h i j s h1 h2
section
variable {L M : List (List Nat)} {P Z k m n : Nat} {F H G : Nat → Nat} {A B I : St} {S : Nat → Nat → Prop}
/-- what labels are -/
def Lb (L M : List (List Nat)) (Z k : Nat) (F H : Nat → Nat) (A B : St) : Prop := H 0 = 0 ∧ ∀ m, m < k → H m ≤ H (m + 1) ∧ ∀ l, H m ≤ l → l < H (m + 1) → NE L M (A 51 (3 * l)) (B (Z + 35) l) ∧ A 51 (3 * l + 1) = B 174 l ∧ Plc (B 174 l) ∧ B (Z + 34) l = Int32.ofNat m ∧ ∃ t, F m + t ≤ F (m + 1) ∧ A 51 (3 * l + 2) = Int32.ofNat t ∧ B (Z + 36) l = Int32.ofNat (F m + t)
theorem Lb.me (h : Lb L M Z k F H A B) {l : Nat} (hl : l < H k) : ∃ m, m < k ∧ H m ≤ l ∧ l < H (m + 1) := by
  obtain ⟨h0, h1⟩ := h
  have : ∀ j, j ≤ k → l < H j → ∃ m, m < j ∧ H m ≤ l ∧ l < H (m + 1) := by
    intro j
    induction j with
    | zero => intro _ z; rw [h0] at z; omega
    | succ j ih =>
      intro z1 z2
      rcases Nat.lt_or_ge l (H j) with y | y
      · obtain ⟨m, a, b, c⟩ := ih (by omega) y
        exact ⟨m, by omega, b, c⟩
      · exact ⟨j, by omega, y, z2⟩
  exact this k (Nat.le_refl _) hl
theorem Lb.lo (h : Lb L M Z k F H A B) {m l : Nat} (hm : m < k) (hk : k ≤ 24) (hl : l < H k) (hB : B (Z + 34) l = Int32.ofNat m) : H m ≤ l ∧ l < H (m + 1) := by
  obtain ⟨m', a, b, c⟩ := h.me hl
  have := ((h.2 m' a).2 l b c).2.2.2.1
  rw [this, i32_eq (by omega) (by omega)] at hB
  subst hB
  exact ⟨b, c⟩
theorem lbf_s {N m l : Nat} {y : Int32} : lbf B Z (l + 1) m y = match lbf B Z l m y with | some i => some i | none => if B (Z + 34) l = Int32.ofNat m ∧ B (Z + 35) l = y then some l else none := by
  unfold lbf
  rw [fdn]
  cases fdn (fun l => decide (B (Z + 34) l = Int32.ofNat m ∧ B (Z + 35) l = y)) l with
  | some i => rfl
  | none =>
    dsimp only
    by_cases z : B (Z + 34) l = Int32.ofNat m ∧ B (Z + 35) l = y
    · rw [if_pos (by simpa using z), if_pos z]
    · rw [if_neg (by simpa using z), if_neg z]
theorem lbf_k (h : Lb L M Z k F H A B) (hm : m < k) (hk : k ≤ 24) {y : Int32} : lbf B Z (H k) m y = lbf B Z (H (m + 1)) m y := by
  have hmo := mono_le (F := H) (k := k) (fun a ha => (h.2 a ha).1) (m + 1) k (by omega) (Nat.le_refl _)
  cases w : lbf B Z (H (m + 1)) m y with
  | some l =>
    obtain ⟨a, b, c⟩ := fdn_some w
    exact fdn_of (by omega) b c
  | none =>
    refine fdn_none.mpr (fun l hl => ?_)
    rcases Nat.lt_or_ge l (H (m + 1)) with z | z
    · exact fdn_none.mp w l z
    · refine decide_eq_false (fun e => ?_)
      have := (h.lo hm hk hl e.1).2
      omega
theorem lbf_0 (h : Lb L M Z k F H A B) (hm : m < k) (hk : k ≤ 24) {y : Int32} : lbf B Z (H m) m y = none := by
  have hmo := mono_le (F := H) (k := k) (fun a ha => (h.2 a ha).1) (m + 1) k (by omega) (Nat.le_refl _)
  have := (h.2 m hm).1
  refine fdn_none.mpr (fun l hl => decide_eq_false (fun e => ?_))
  have := (h.lo hm hk (by omega) e.1).1
  omega
theorem NmL.nx (h : Lb L M Z k F H A B) (hm : m < k) (hk : k ≤ 24) (hn : NmL L M Z B A m (H (m + 1)) I) (hm1 : m + 1 < k) : NmL L M Z B A (m + 1) (H (m + 1)) I := by
  intro i j s h1 h2
  obtain ⟨a, b⟩ := hn i j s h1 h2
  rw [lbf_0 h hm1 hk]
  refine ⟨fun l z => (nomatch z), fun _ => ?_⟩
  cases w : lbf B Z (H (m + 1)) m (Int32.ofNat j) with
  | some l => exact Or.inr ⟨m, by omega, (a l w).1⟩
  | none =>
    rcases b w with z | ⟨m', z1, z2⟩
    · exact Or.inl z
    · exact Or.inr ⟨m', by omega, z2⟩
/-- labels noted: rows a to b -/
def SLm (B : St) (Z a b : Nat) : Nat → Nat → Prop := fun q k => ∃ i, a ≤ i ∧ i < b ∧ PtS (∃ j, j < i ∧ B (Z + 34) i = B (Z + 34) j ∧ B (Z + 35) i = B (Z + 35) j) (B 174 i) 1 q k
/-- the class's, while labels are linked -/
def LbI (L M : List (List Nat)) (Z : Nat) (B A A2 : St) (m r : Nat) (S : Nat → Nat → Prop) (I : St) : Prop := NoC S I ∧ (∀ a b, a ≠ 57 → (a ≠ 38 ∨ (b % 6 ≠ 1 ∧ b % 6 ≠ 2)) → I a b = A2 a b) ∧ NmL L M Z B A m r I
theorem x90_l (bL : L.length ≤ 1460) (nL : L.Nodup) (bM : M.length ≤ 2000) (nM : M.Nodup) (h : Lb L M Z k F H A B) (hm : m < k) (hk : k ≤ 24) (hH : H k ≤ 1280) {A2 : St} (h49 : A2 49 (4 * m + 2) = Int32.ofNat (H m) ∧ A2 49 (4 * m + 3) = Int32.ofNat (H (m + 1) - H m)) (h51 : ∀ b, A2 51 b = A 51 b) (hI : LbI L M Z B A A2 m (H m) S I) : ∃ J, x90 I (Int32.ofNat m) = some J ∧ LbI L M Z B A A2 m (H (m + 1)) (UnS S (SLm B Z (H m) (H (m + 1)))) J := by
  have hmo := mono_le (F := H) (k := k) (fun a ha => (h.2 a ha).1) (m + 1) k (by omega) (Nat.le_refl _)
  obtain ⟨h1, h2⟩ := h.2 m hm
  have go := lpS (Y := l90_31 (Int32.ofNat m) (Int32.ofNat (H (m + 1)))) (NO := fun r S I => H m ≤ r ∧ LbI L M Z B A A2 m r S I) (N := H (m + 1)) (T := fun i => PtS (∃ j, j < i ∧ B (Z + 34) i = B (Z + 34) j ∧ B (Z + 35) i = B (Z + 35) j) (B 174 i) 1 ) (fun b S S' I h e => ⟨h.1, h.2.1.ext e, h.2.2⟩) (fun f S I hI => by rw [l90_31, if_pos (Int32.le_refl _)]) (fun f b S I hb hI => ?_)
  · obtain ⟨J, j1, j2⟩ := go (H (m + 1) - H m) (H m) 100000 S I (by omega) (by omega) ⟨Nat.le_refl _, hI⟩
    refine ⟨J, ?_, j2.2⟩
    unfold x90
    simp (disch := omega) only [t48, hI.2.1, h49]
    rw [i32_a, show H m + (H (m + 1) - H m) = H (m + 1) by omega, j1]
    rfl
  · obtain ⟨hr, g1, g2, g3⟩ := hI
    obtain ⟨c1, c2, c3, c4, -⟩ := h2 b hr hb
    obtain ⟨i, j, s, r1, r2, r3, r4⟩ := c1
    have hi := get_lt r3
    have hj := get_lt r4
    obtain ⟨n1, n2⟩ := g3 i j s r3 r4
    have hcond : (∃ j, j < b ∧ B (Z + 34) b = B (Z + 34) j ∧ B (Z + 35) b = B (Z + 35) j) ↔ lbf B Z b m (Int32.ofNat j) ≠ none := by
      rw [← Option.isSome_iff_ne_none, lbf, fdn_sm]
      constructor
      · rintro ⟨x, e1, e2, e3⟩
        exact ⟨x, e1, decide_eq_true ⟨by rw [← e2, c4], by rw [← e3, r2]⟩⟩
      · rintro ⟨x, e1, e2⟩
        have e2 := of_decide_eq_true e2
        exact ⟨x, e1, by rw [e2.1, c4], by rw [e2.2, r2]⟩
    rw [l90_31, if_neg (by rw [i32_le (by omega) (by omega)]; omega), i32_s]
    simp (disch := omega) only [t50, g2, h51, Lt]
    rw [r1]
    simp (disch := omega) only [t37]
    cases w : lbf B Z b m (Int32.ofNat j) with
    | some l =>
      rw [if_pos (n1 l w).1, c2]
      obtain ⟨J, j1, j2, j3⟩ := x83_y g1 c3 (show (1 : Int32) = Int32.ofNat 1 from rfl) (by decide) (by decide)
      refine ⟨J, by rw [j1, Option.bind_some], by omega, j2.ext (fun q k => ?_), fun a b z1 z2 => (j3 a b z1).trans (g2 a b z1 z2), fun i' j' s' y1 y2 => ?_⟩
      · unfold UnS PtS
        rw [hcond, w]
        simp only [ne_eq, reduceCtorEq, not_false_eq_true]
      · obtain ⟨m1, m2⟩ := g3 i' j' s' y1 y2
        have hj' := get_lt y2
        rw [j3 _ _ (by omega), j3 _ _ (by omega), lbf_s (N := 0)]
        cases v : lbf B Z b m (Int32.ofNat j') with
        | some l' => exact ⟨fun x e => m1 x (by rw [v]; exact e), fun e => (nomatch e)⟩
        | none =>
          dsimp only
          rw [if_neg]
          · exact ⟨fun x e => (nomatch e), fun _ => m2 v⟩
          · rintro ⟨-, e⟩
            rw [r2] at e
            rw [← e, w] at v
            cases v
    | none =>
      have hne : ¬ I 38 (6 * i + 1) = Int32.ofNat m := by
        rcases n2 w with e | ⟨m', e1, e2⟩
        · rw [e]; exact fun z => i32_m1 (by omega) z.symm
        · rw [e2, i32_eq (by omega) (by omega)]; omega
      rw [if_neg hne]
      refine ⟨_, rfl, by omega, NoC.of (g1.ext (fun q k => ?_)) (by simp (disch := omega) only [up2_o]) (by simp (disch := omega) only [up2_o]), fun a b z1 z2 => by rw [up2_o (by omega), up2_o (by omega), g2 a b z1 z2], fun i' j' s' y1 y2 => ?_⟩
      · unfold UnS PtS
        rw [hcond, w]
        simp only [ne_eq, not_true_eq_false, false_and, or_false]
      · obtain ⟨m1, m2⟩ := g3 i' j' s' y1 y2
        have hj' := get_lt y2
        have hi' := get_lt y1
        rw [lbf_s (N := 0)]
        by_cases e : i' = i
        · subst e
          rw [r3] at y1
          cases y1
          obtain rfl := get_inj nM r4 y2
          rw [w]
          dsimp only
          rw [if_pos ⟨c4, r2⟩, up2_o (by omega), up2_s, up2_s]
          refine ⟨fun x e => ?_, fun e => (nomatch e)⟩
          cases e
          exact ⟨rfl, by simp (disch := omega) only [up2_o, g2, h51]⟩
        · rw [up2_o (by omega), up2_o (by omega), up2_o (by omega), up2_o (by omega)]
          cases v : lbf B Z b m (Int32.ofNat j') with
          | some l' => exact ⟨fun x e => m1 x (by rw [v]; exact e), fun e => (nomatch e)⟩
          | none =>
            dsimp only
            rw [if_neg]
            · exact ⟨fun x e => (nomatch e), fun _ => m2 v⟩
            · rintro ⟨-, e2⟩
              rw [r2, i32_eq (by omega) (by omega)] at e2
              subst e2
              rw [r4] at y2
              cases y2
              exact e (get_inj nL y1 r3)
/-- labelled() -/
theorem x92_l (h : Lb L M Z k F H A B) (hm : m < k) (hk : k ≤ 24) (bL : L.length ≤ 1460) {x y q : Int32} (hI : NoC S I) (hN : NmL L M Z B A m (H (m + 1)) I) (hx : NE L M x y) (hq : Plc q) : ∃ v J, x92 I (Int32.ofNat m) x q = some (v, J) ∧ NoC (UnS S (PtS (lbf B Z (H k) m y = none) q 2)) J ∧ (∀ a b, a ≠ 57 → J a b = I a b) ∧ (lbf B Z (H k) m y = none → v = -1) ∧ ∀ l, lbf B Z (H k) m y = some l → v = A 51 (3 * l + 2) := by
  obtain ⟨i, j, s, rfl, rfl, r3, r4⟩ := hx
  have hi := get_lt r3
  obtain ⟨n1, n2⟩ := hN i j s r3 r4
  rw [← lbf_k h hm hk] at n1 n2
  unfold x92
  simp (disch := omega) only [t37]
  cases w : lbf B Z (H k) m (Int32.ofNat j) with
  | some l =>
    rw [if_pos (n1 l w).1]
    refine ⟨_, _, rfl, hI.ext (fun q' k' => ?_), fun _ _ _ => rfl, fun z => (nomatch z), fun l' z => ?_⟩
    · unfold UnS PtS
      simp only [reduceCtorEq, false_and, or_false]
    · cases z
      exact (n1 l w).2
  | none =>
    rw [if_neg]
    · obtain ⟨J, j1, j2, j3⟩ := x83_y hI hq (show (2 : Int32) = Int32.ofNat 2 from rfl) (by decide) (by decide)
      refine ⟨-1, J, by rw [j1, Option.bind_some], j2.ext (fun q' k' => ?_), j3, fun _ => rfl, fun l z => (nomatch z)⟩
      unfold UnS PtS
      simp only []
    · rcases n2 w with e | ⟨m', e1, e2⟩
      · rw [e]; exact fun z => i32_m1 (by omega) z.symm
      · rw [e2, i32_eq (by omega) (by omega)]; omega
/-- classNamed() -/
theorem x93_l (hn : n ≤ 19) (bL : L.length ≤ 1460) {x y q : Int32} (hI : NoC S I) (hN : NmC L M Z B I n) (hx : NE L M x y) (hq : Plc q) : ∃ J, x93 I x q = some (oI (cls B Z y n), J) ∧ NoC (UnS S (PtS (cls B Z y n = none) q 2)) J ∧ ∀ a b, a ≠ 57 → J a b = I a b := by
  obtain ⟨i, j, s, rfl, rfl, r3, r4⟩ := hx
  have hi := get_lt r3
  have n1 := hN i j s r3 r4
  unfold x93
  simp (disch := omega) only [t37]
  rw [n1]
  by_cases w : cls B Z (Int32.ofNat j) n = none
  · rw [if_pos ((cls_m1 hn).mpr w)]
    obtain ⟨J, j1, j2, j3⟩ := x83_y hI hq (show (2 : Int32) = Int32.ofNat 2 from rfl) (by decide) (by decide)
    refine ⟨J, by rw [j1, Option.bind_some], j2.ext (fun q' k' => ?_), j3⟩
    unfold UnS PtS
    simp only [w]
  · rw [if_neg (fun z => w ((cls_m1 hn).mp z))]
    refine ⟨I, rfl, hI.ext (fun q' k' => ?_), fun _ _ _ => rfl⟩
    unfold UnS PtS
    simp only [w, false_and, or_false]
end
