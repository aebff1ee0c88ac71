/-! A LABEL in lockstep -/
/-- hides a disjunction from omega -/
def Hid (p : Prop) : Prop := p
/-- methods' classes -/
def MB (Z k n : Nat) (B : St) : Prop := ∀ m, m < k → ∃ c, 7 ≤ c ∧ c < n ∧ B (Z + 15) m = Int32.ofNat c
theorem MB.of {Z k n : Nat} {B B' : St} (h : MB Z k n B) (hB : ∀ a b, (a = Z + 15 ∧ b < k) → B' a b = B a b) : MB Z k n B' := fun m hm => by
  rw [hB _ _ ⟨rfl, hm⟩]
  exact h m hm
/-- all that both parsers have: n classes, k methods, q of them closed, s statics -/
def Bq (T : Tp) (L M : List (List Nat)) (K P Z u p n k q s : Nat) (E F H G : Nat → Nat) (A B : St) : Prop := Pa T L M K Z u p A B ∧ CB L M (E n + s + k) A B ∧ CF L M P Z (E n) A B ∧ CS L M P Z s A B ∧ CC L M P Z n k E A B ∧ CM L M P Z k F H G A B ∧ CZ Z q F A B ∧ CK L M P Z k F A B ∧ CL L M Z k F H A B ∧ CT L M P Z k G A B ∧ 7 ≤ n ∧ n ≤ 19 ∧ k ≤ 24 ∧ s ≤ 16 ∧ E 7 = 0 ∧ F k ≤ p ∧ H k ≤ p ∧ MB Z k n B
/-- wrong on both sides, at one place -/
def Bad (X : Option St) (Y : Option (St ⊕ St)) : Prop := ∃ w A' B', w < 2000 ∧ X = some A' ∧ Y = some (.inl B') ∧ A' 56 5 = Int32.ofNat w ∧ B' 84 0 = Int32.ofNat w
def labR (Z : Nat) (b3 : Int32) (I : St) : Option (St ⊕ St) := if inb (I Z 10) 2000 then if inb (I Z 10) 2000 then Lt (up2 (up2 I 174 (I Z 10).toNatClampNeg (I 82 13)) (Z + 34) (I Z 10).toNatClampNeg b3) fun J25 => (x201 Z J25).bind (Sum.elim (fun J => some (.inl J)) (fun q26 => if inb (I Z 10) 2000 then if inb (I Z 10) 2000 then Lt (up2 (up2 q26.2 (Z + 35) (I Z 10).toNatClampNeg q26.1) (Z + 36) (I Z 10).toNatClampNeg ((up2 q26.2 (Z + 35) (I Z 10).toNatClampNeg q26.1) Z 9)) fun J27 => x204 (up2 J27 Z 10 ((J27 Z 10) + 1)) 58 else none else none)) else none else none
theorem i32_p {a : Nat} : Int32.ofNat (a + 1) - 1 = Int32.ofNat a := by
  rw [show (1 : Int32) = Int32.ofNat 1 from rfl, i32_sb (by omega)]
  rfl
theorem wrC_5 {A : St} {w : Nat} : wrC A w 56 5 = Int32.ofNat w := up2_s _ _ _ _
theorem Wr_0 {B : St} {w : Nat} : Wr B w 84 0 = Int32.ofNat w := up2_s _ _ _ _
theorem wrC_er {A : St} {w : Nat} (hw : w < 2000) : Er (wrC A w) := er_of (by omega) wrC_5
theorem mono_le {F : Nat → Nat} {k : Nat} (h : ∀ m, m < k → F m ≤ F (m + 1)) : ∀ a b, a ≤ b → b ≤ k → F a ≤ F b := by
  intro a b
  induction b with
  | zero => intro h1 h2; rw [show a = 0 by omega]; exact Nat.le_refl _
  | succ b ih =>
    intro h1 h2
    rcases Nat.lt_or_ge a (b + 1) with z | z
    · exact Nat.le_trans (ih (by omega) (by omega)) (h b (by omega))
    · rw [show a = b + 1 by omega]; exact Nat.le_refl _
section
variable {T : Tp} {L M : List (List Nat)} {K P Z u p n m q s : Nat} {E F H G : Nat → Nat} {A B : St}
theorem label_l (hP : P = 3 ∨ P = 18) (hZ : Z = 85 ∨ Z = 126) (h : Bq T L M K P Z u p n (m + 1) m s E F H G A B) : (∃ M' u' p' A' B', x80 P A = some A' ∧ labR Z (Int32.ofNat m) B = some (.inr B') ∧ Bq T L M' K P Z u' p' n (m + 1) m s E F (updN H (m + 1) (H (m + 1) + 1)) G A' B' ∧ A' 56 4 = A 56 4 ∧ p < p') ∨ Bad (x80 P A) (labR Z (Int32.ofNat m) B) := by
  obtain ⟨hPa, hb, hf, hs, hc, hm, hz, hk, hl, ht, n1, n2, n3, n4, n5, n6, n7, n8⟩ := h
  have hp := hPa.le
  obtain ⟨m1, m2, m3, m4⟩ := hm
  obtain ⟨q1, q2, q3, q4, q5, q6, q7, q8, q9⟩ := m4 m (by omega)
  obtain ⟨l1, l2, l3, l4⟩ := hl
  obtain ⟨k1, k2, k3, k4, k5, k6⟩ := hk
  have l5 := (l4 m (by omega)).1
  have k7 := (k5 m (by omega)).1
  have hin : inb (Int32.ofNat (H (m + 1))) 2000 := (i32_inb (by omega)).mpr (by omega)
  have hcl : (Int32.ofNat (H (m + 1))).toNatClampNeg = H (m + 1) := i32_cl (by omega)
  generalize hB0 : up2 (up2 B 174 (H (m + 1)) (Int32.ofNat p)) (Z + 34) (H (m + 1)) (Int32.ofNat m) = B0
  have r0 : ∀ a b, (a ≠ 174 ∨ b ≠ H (m + 1)) → (a ≠ Z + 34 ∨ b ≠ H (m + 1)) → B0 a b = B a b := fun a b z1 z2 => by
    rw [← hB0, up2_o z2, up2_o z1]
  have hPa0 : Pa T L M K Z u p A B0 := hPa.of (fun _ _ _ => rfl) (fun a b z => r0 a b (by omega) (by omega))
  have hR : labR Z (Int32.ofNat m) B = (x201 Z B0).bind (Sum.elim (fun J => some (.inl J)) (fun q26 => x204 (up2 (up2 (up2 q26.2 (Z + 35) (H (m + 1)) q26.1) (Z + 36) (H (m + 1)) (q26.2 Z 9)) Z 10 (q26.2 Z 10 + 1)) 58)) := by
    unfold labR
    simp (disch := omega) only [l2, hPa.at, hcl, if_pos hin, Lt, hB0, up2_k]
  rcases name_l hZ hPa0 with ⟨i, r, sx, M', u', B1, a1, a2, a3, a4, a5, a6, a7, a8, a9, a10⟩ | ⟨w, w1, w2, w3⟩
  · have hne : NE L M' (Int32.ofNat i) (Int32.ofNat r) := ⟨i, r, sx, rfl, rfl, a6, a7⟩
    generalize hA4 : up2 (up2 (up2 (up2 (up2 (nmA A p) 50 3 (Int32.ofNat (H (m + 1) + 1))) 51 (3 * H (m + 1)) (Int32.ofNat i)) 51 (3 * H (m + 1) + 1) (Int32.ofNat p)) 51 (3 * H (m + 1) + 2) (Int32.ofNat (F (m + 1) - F m))) 49 (4 * m + 3) (Int32.ofNat (H (m + 1) - H m + 1)) = A4
    have hx : x80 P A = x62 A4 58 := by
      obtain ⟨t1, t2⟩ := tadd_n (I := nmA A p) (k := 50) (n := H (m + 1)) (by rw [nmA_r (by omega)]; exact l1) (by show H (m + 1) < 2000; omega) (by decide)
      unfold x80
      rw [a1, Option.bind_some]
      simp (disch := omega) only [Lt, t1, t2, t50, t48, tP7 hP, x72, up2_k, up2_j, up2_s, nmA_r, nmA_6, m1, i32_p, q5, q9, i32_s, hA4, Option.bind_some, Option.bind_fun_some]
    have hB1 : ∀ a b, (a ≠ Z ∨ (b ≠ 3 ∧ b ≠ 4)) → (a < Z + 1 ∨ Z + 3 < a) → (a ≠ 82 ∨ b < 11 ∨ 16 < b) → a ≠ 84 → B1 a b = B0 a b := a4
    generalize hB2 : up2 (up2 (up2 B1 (Z + 35) (H (m + 1)) (Int32.ofNat r)) (Z + 36) (H (m + 1)) (Int32.ofNat (F (m + 1)))) Z 10 (Int32.ofNat (H (m + 1) + 1)) = B2
    have hR2 : labR Z (Int32.ofNat m) B = x204 B2 58 := by
      rw [hR, a2, Option.bind_some, Sum.elim_inr, ← hB2]
      simp (disch := omega) only [hB1, r0, k3, l2, i32_s]
    have hPa4 : Pa T L M' K Z u' (nx T p) A4 B2 := a3.of (fun a b z => by rw [← hA4]; simp (disch := omega) only [up2_o]) (fun a b z => by
      rw [← hB2]
      simp (disch := omega) only [up2_o])
    rcases sign_l hZ hPa4 (s := 58) (x := 58) rfl (by decide) (by decide) with ⟨B3, b1, b2, b3, b4, b5⟩ | ⟨w, w1, w2, w3⟩
    · left
      have hB3 : ∀ a b, (a ≠ Z ∨ (b ≠ 3 ∧ b ≠ 4)) → (a < Z + 1 ∨ Z + 3 < a) → (a ≠ 82 ∨ b < 11 ∨ 16 < b) → a ≠ 84 → B3 a b = B2 a b := b4
      have rA : ∀ a b, (a ≠ 56 ∨ b = 4) → (a ≠ 50 ∨ b ≠ 3) → (a ≠ 51 ∨ b < 3 * H (m + 1)) → (a ≠ 49 ∨ b ≠ 4 * m + 3) → adv A4 a b = A a b := fun a b z1 z2 z3 z4 => by
        rw [adv_r (by omega), ← hA4]
        simp (disch := omega) only [up2_o, nmA_r]
      have rB : ∀ a b, (a ≠ Z ∨ (b ≠ 3 ∧ b ≠ 4 ∧ b ≠ 10)) → (a < Z + 1 ∨ Z + 3 < a) → (a ≠ 82 ∨ b < 11 ∨ 16 < b) → a ≠ 84 → (a ≠ 174 ∨ b < H (m + 1)) → (a < Z + 34 ∨ Z + 36 < a ∨ b < H (m + 1)) → B3 a b = B a b := fun a b z1 z2 z3 z4 z5 z6 => by
        rw [hB3 a b (by omega) z2 z3 z4, ← hB2]
        simp (disch := omega) only [up2_o, hB1, r0]
      have hgt : p < nx T (nx T p) := by omega
      refine ⟨M', u', _, adv A4, B3, by rw [hx, b1], by rw [hR2, b2], ⟨b3, ?_, ?_, ?_, ?_, ?_, ?_, ?_, ?_, ?_, n1, n2, n3, n4, n5, by omega, by rw [updN_s]; omega, n8.of (fun a b z => rB a b (by omega) (by omega) (by omega) (by omega) (by omega) (by omega))⟩, rA _ _ (by omega) (by omega) (by omega) (by omega), hgt⟩
      · exact hb.of a5 (fun a b z => rA a b (by omega) (by omega) (by omega) (by omega)) (fun a b z => rB a b (by omega) (by omega) (by omega) (by omega) (by omega) (by omega))
      · exact hf.of a5 (fun a b z => rA a b (by omega) (by omega) (by omega) (by omega)) (fun a b z => rB a b (by omega) (by omega) (by omega) (by omega) (by omega) (by omega))
      · exact hs.of a5 (fun a b z => rA a b (by omega) (by omega) (by omega) (by omega)) (fun a b z => rB a b (by omega) (by omega) (by omega) (by omega) (by omega) (by omega))
      · exact hc.of a5 (fun a b z => rA a b (by omega) (by omega) (by omega) (by omega)) (fun a b z => rB a b (by omega) (by omega) (by omega) (by omega) (by omega) (by omega))
      · refine ⟨by rw [rA _ _ (by omega) (by omega) (by omega) (by omega)]; exact m1, by rw [rA _ _ (by omega) (by omega) (by omega) (by omega)]; exact m2, by rw [rB _ _ (by omega) (by omega) (by omega) (by omega) (by omega) (by omega)]; exact m3, fun x hx' => ?_⟩
        obtain ⟨g1, ⟨c, rf, g2, g3⟩, g4, g5, g6, g7, g8, g9, g10⟩ := m4 x hx'
        refine ⟨g1.of a5 (fun a b z => rA a b (by omega) (by omega) (by omega) (by omega)) (fun a b z => rB a b (by omega) (by omega) (by omega) (by omega) (by omega) (by omega)), ⟨c, rf, by rw [rA _ _ (by omega) (by omega) (by omega) (by omega)]; exact g2, g3.of (fun a b z => rA a b (by omega) (by omega) (by omega) (by omega)) (fun a b z => rB a b (by omega) (by omega) (by omega) (by omega) (by omega) (by omega))⟩, ?_⟩
        rw [updN_n (show x ≠ m + 1 by omega)]
        rcases Nat.lt_or_ge x m with y | y
        · rw [updN_n (show x + 1 ≠ m + 1 by omega)]
          simp (disch := omega) only [rA, rB]
          exact ⟨g4, g5, g6, g7, g8, g9, g10⟩
        · obtain rfl : x = m := by omega
          refine ⟨by rw [rA _ _ (by omega) (by omega) (by omega) (by omega)]; exact g4, by rw [rB _ _ (by omega) (by omega) (by omega) (by omega) (by omega) (by omega)]; exact g5, by rw [rA _ _ (by omega) (by omega) (by omega) (by omega)]; exact g6, by rw [rA _ _ (by omega) (by omega) (by omega) (by omega)]; exact g7, by rw [rA _ _ (by omega) (by omega) (by omega) (by omega)]; exact g8, by rw [rA _ _ (by omega) (by omega) (by omega) (by omega)]; exact g9, ?_⟩
          rw [adv_r (by omega), ← hA4, up2_s, updN_s]
          congr 1
          omega
      · exact hz.of (fun _ _ => rfl) (fun a b z => rA a b (by omega) (by omega) (by omega) (by omega)) (fun a b z => rB a b (by omega) (by omega) (by omega) (by omega) (by omega) (by omega))
      · exact CK.of ⟨k1, k2, k3, k4, k5, k6⟩ a5 (fun a b z => rA a b (by omega) (by omega) (by omega) (by omega)) (fun a b z => rB a b (by omega) (by omega) (by omega) (by omega) (by omega) (by omega))
      · refine ⟨?_, ?_, by rw [updN_n (by omega)]; exact l3, fun x hx' => ?_⟩
        · rw [adv_r (by omega), ← hA4, updN_s]
          simp (disch := omega) only [up2_o, up2_s]
        · rw [hB3 _ _ (by omega) (by omega) (by omega) (by omega), ← hB2, updN_s, up2_s]
        · obtain ⟨g1, g2⟩ := l4 x hx'
          rw [updN_n (show x ≠ m + 1 by omega)]
          have old : ∀ l, H x ≤ l → l < H (x + 1) → l < H (m + 1) → NE L M' (adv A4 51 (3 * l)) (B3 (Z + 35) l) ∧ adv A4 51 (3 * l + 1) = B3 174 l ∧ Plc (B3 174 l) ∧ B3 (Z + 34) l = Int32.ofNat x ∧ ∃ t, F x + t ≤ F (x + 1) ∧ adv A4 51 (3 * l + 2) = Int32.ofNat t ∧ B3 (Z + 36) l = Int32.ofNat (F x + t) := fun l z1 z2 z3 => by
            obtain ⟨y1, y2, y3, y4, t, y5, y6, y7⟩ := g2 l z1 z2
            simp (disch := omega) only [rA, rB]
            exact ⟨y1.mono a5, y2, y3, y4, t, y5, y6, y7⟩
          rcases Nat.lt_or_ge x m with y | y
          · rw [updN_n (show x + 1 ≠ m + 1 by omega)]
            refine ⟨g1, fun l z1 z2 => old l z1 z2 ?_⟩
            have := mono_le (F := H) (k := m + 1) (fun a ha => (l4 a ha).1) (x + 1) (m + 1) (by omega) (by omega)
            omega
          · obtain rfl : x = m := by omega
            rw [updN_s]
            refine ⟨by omega, fun l z1 z2 => ?_⟩
            rcases Nat.lt_or_ge l (H (x + 1)) with z | z
            · exact old l z1 z z
            · obtain rfl : l = H (x + 1) := by omega
              rw [adv_r (by omega), adv_r (by omega), adv_r (by omega), hB3 _ _ (by omega) (by omega) (by omega) (by omega), hB3 _ _ (by omega) (by omega) (by omega) (by omega), hB3 _ _ (by omega) (by omega) (by omega) (by omega), hB3 _ _ (by omega) (by omega) (by omega) (by omega), ← hA4, ← hB2]
              simp (disch := omega) only [up2_o, up2_s, hB1]
              rw [← hB0]
              simp (disch := omega) only [up2_o, up2_s]
              exact ⟨hne, trivial, ⟨p, by omega, rfl⟩, trivial, _, by omega, rfl, by congr 1; omega⟩
      · exact ht.of a5 (fun a b z => rA a b (by omega) (by omega) (by omega) (by omega)) (fun a b z => rB a b (by omega) (by omega) (by omega) (by omega) (by omega) (by omega))
    · right
      exact ⟨w, _, _, w1, by rw [hx, w2], by rw [hR2, w3], wrC_5, Wr_0⟩
  · right
    obtain ⟨s1, s2, s3, s4, s5, s6, s7⟩ := sfP hP
    obtain ⟨A', hx, hs⟩ : ∃ A', x80 P A = x62 A' 58 ∧ Sw (wrC A w) A' := by
      refine ⟨_, by unfold x80; rw [w2, Option.bind_some]; simp only [Lt, Option.bind_fun_some]; rfl, ?_⟩
      exact ((((Sw.rf.ta (by decide)).ts (by decide)).ts (by decide)).ts (by decide)).ts (by decide)
    exact ⟨w, A', _, w1, by rw [hx, x62_e ((wrC_er w1).sw hs)], by rw [hR, w3]; rfl, hs.trans wrC_5, Wr_0⟩
end
