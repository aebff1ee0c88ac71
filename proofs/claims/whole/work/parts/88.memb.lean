/-! A MEMBER's name in lockstep; fields, statics -/
def memA (k C n b c i p1 : Nat) (x : Int32) (A : St) : St := up2 (up2 (up2 (up2 (up2 (up2 (up2 (up2 (nmA (adv A) p1) k 3 (Int32.ofNat (n + 1))) (k + 1) (C * n) (Int32.ofNat c)) (k + 1) (C * n + 1) (Int32.ofNat i)) (k + 1) (C * n + 2) x) 46 3 (Int32.ofNat (b + 1))) 47 (3 * b + 2) (Int32.ofNat c)) 47 (3 * b) (Int32.ofNat i)) 47 (3 * b + 1) (Int32.ofNat p1)
theorem sfk2 {P k R C : Nat} (hP : P = 3 ∨ P = 18) (hk : (k = P + 3 ∧ R = 96 ∧ C = 5) ∨ (k = P + 5 ∧ R = 16 ∧ C = 4) ∨ (k = P + 7 ∧ R = 24 ∧ C = 16)) : k < 200 ∧ shc k = 1 ∧ sf k 0 = R ∧ sf k 1 = C ∧ sf k 2 = k + 1 := by
  rcases hP with rfl | rfl <;> rcases hk with ⟨rfl, rfl, rfl⟩ | ⟨rfl, rfl, rfl⟩ | ⟨rfl, rfl, rfl⟩ <;> decide
section
variable {T : Tp} {L M : List (List Nat)} {K P Z u p n k R C b c : Nat} {A B : St}
theorem member_l (hP : P = 3 ∨ P = 18) (hZ : Z = 85 ∨ Z = 126) (hk : (k = P + 3 ∧ R = 96 ∧ C = 5) ∨ (k = P + 5 ∧ R = 16 ∧ C = 4) ∨ (k = P + 7 ∧ R = 24 ∧ C = 16)) (h : Pa T L M K Z u p A B) (h0 : cA T p ≠ 256) (hb : CB L M b A B) (hb2 : b < 136) (hn : A k 3 = Int32.ofNat n) (hn2 : n < R) (hc : A (P + 1) 3 = Int32.ofNat (c + 1)) (x : Int32) : (∃ i r M' u' B1 B2 B3, x66 k P A x = some (Int32.ofNat n, memA k C n b c i (nx T p) x A) ∧ x192 B = some B1 ∧ x201 Z B1 = some (.inr (Int32.ofNat r, B2)) ∧ x206 B2 (Int32.ofNat c) (Int32.ofNat r) (Int32.ofNat (nx T p)) = some B3 ∧ B1 82 13 = Int32.ofNat (nx T p) ∧ Pa T L M' K Z u' (nx T (nx T p)) (memA k C n b c i (nx T p) x A) B3 ∧ Mo M M' ∧ NE L M' (Int32.ofNat i) (Int32.ofNat r) ∧ CB L M' (b + 1) (memA k C n b c i (nx T p) x A) B3 ∧ (∀ a d, ((a ≠ Z ∨ (d ≠ 3 ∧ d ≠ 4)) ∧ (a < Z + 1 ∨ Z + 3 < a) ∧ (a ≠ 82 ∨ ((d < 11 ∨ 16 < d) ∧ d ≠ 20)) ∧ a ≠ 84 ∧ (a < 171 ∨ 173 < a)) → B3 a d = B a d) ∧ B1 Z 8 = B Z 8 ∧ p < nx T p ∧ nx T p < nx T (nx T p) ∧ nx T p ≤ 1280) ∨ (∃ w v J B1, w < 2000 ∧ x66 k P A x = some (v, J) ∧ J 56 5 = Int32.ofNat w ∧ x192 B = some B1 ∧ x201 Z B1 = some (.inl (Wr B1 w))) := by
  obtain ⟨k1, k2, k3, k4, k5⟩ := sfk2 hP hk
  obtain ⟨B1, a1, a2, a3, a4⟩ := next_l hZ h h0
  have hB1 : ∀ a b, (a ≠ Z ∨ (b ≠ 3 ∧ b ≠ 4)) → (a < Z + 1 ∨ Z + 3 < a) → (a ≠ 82 ∨ b < 11 ∨ 16 < b) → a ≠ 84 → B1 a b = B a b := a3
  rcases name_l hZ a2 with ⟨i, r, sx, M', u', B2, c1, c2, c3, c4, c5, c6, c7, c8, c9, c10⟩ | ⟨w, w1, w2, w3⟩
  · left
    have hB2 : ∀ a b, (a ≠ Z ∨ (b ≠ 3 ∧ b ≠ 4)) → (a < Z + 1 ∨ Z + 3 < a) → (a ≠ 82 ∨ b < 11 ∨ 16 < b) → a ≠ 84 → B2 a b = B1 a b := c4
    have hne : NE L M' (Int32.ofNat i) (Int32.ofNat r) := ⟨i, r, sx, rfl, rfl, c6, c7⟩
    have m82 : B2 82 20 = Int32.ofNat b := by
      rw [hB2 _ _ (by omega) (by omega) (by omega) (by omega), hB1 _ _ (by omega) (by omega) (by omega) (by omega)]
      exact hb.2.1
    have d1 := x206_n m82 (by omega) (Int32.ofNat c) (Int32.ofNat r) (Int32.ofNat (nx T p))
    have hpl := a2.le
    have rB : ∀ a d, ((a ≠ Z ∨ (d ≠ 3 ∧ d ≠ 4)) ∧ (a < Z + 1 ∨ Z + 3 < a) ∧ (a ≠ 82 ∨ ((d < 11 ∨ 16 < d) ∧ d ≠ 20)) ∧ a ≠ 84 ∧ (a < 171 ∨ 173 < a ∨ d < b)) → up2 (up2 (up2 (up2 B2 171 b (Int32.ofNat c)) 172 b (Int32.ofNat r)) 173 b (Int32.ofNat (nx T p))) 82 20 (Int32.ofNat (b + 1)) a d = B a d := fun a d z => by
      simp (disch := omega) only [up2_o, hB2, hB1]
    have rA : ∀ a d, ((a ≠ 56 ∨ (d ≠ 3 ∧ d ≠ 6)) ∧ (a ≠ k ∨ d ≠ 3) ∧ (a ≠ k + 1 ∨ d < C * n) ∧ (a ≠ 46 ∨ d ≠ 3) ∧ (a ≠ 47 ∨ d < 3 * b)) → memA k C n b c i (nx T p) x A a d = A a d := fun a d z => by
      unfold memA
      simp (disch := omega) only [up2_o, nmA_r, adv_r]
    refine ⟨i, r, M', u', B1, B2, _, ?_, a1, c2, d1, a2.at, ?_, c5, hne, ?_, fun a d z => rB a d (by omega), hB1 _ _ (by omega) (by omega) (by omega) (by omega), a4, c10, hpl⟩
    · obtain ⟨t1, t2⟩ := tadd_n (I := nmA (adv A) (nx T p)) (k := k) (n := n) (by rw [nmA_r (by omega), adv_r (by omega)]; exact hn) (by omega) (by omega)
      have hts : ∀ (I : St) (j : Nat) (y v : Int32), y = Int32.ofNat j → j < 4 → tset I k (Int32.ofNat n) y v = up2 I (k + 1) (C * n + j) v := fun I j y v hy hj => by
        have := ts_n (I := I) (v := v) k1 k2 (by omega : n < sf k 0) hy (by omega)
        rw [k4, k5] at this
        exact this
      have hx65 : ∀ I : St, I (P + 1) 3 = Int32.ofNat (c + 1) → x65 P I = Int32.ofNat c := fun I hI => by
        unfold x65
        rw [hI, i32_p]
      have e1 : x59 (up2 A 56 3 (A 56 3 + 1)) = some (Int32.ofNat i, nmA (adv A) (nx T p)) := c1
      unfold x66
      rw [e1, Option.bind_some]
      simp only [Lt]
      rw [t1, t2, hx65 (up2 (nmA (adv A) (nx T p)) k 3 (Int32.ofNat (n + 1))) (by rw [up2_o (by omega), nmA_r (by omega), adv_r (by omega)]; exact hc), hts _ 0 0 _ rfl (by omega), hts _ 1 1 _ rfl (by omega), hts _ 2 2 _ rfl (by omega)]
      obtain ⟨u1, u2⟩ := tadd_n (I := up2 (up2 (up2 (up2 (nmA (adv A) (nx T p)) k 3 (Int32.ofNat (n + 1))) (k + 1) (C * n + 0) (Int32.ofNat c)) (k + 1) (C * n + 1) (Int32.ofNat i)) (k + 1) (C * n + 2) x) (k := 46) (n := b) (by simp (disch := omega) only [up2_o, nmA_r, adv_r]; exact hb.1) (by show b < 136; omega) (by decide)
      rw [u1, u2, hx65 (up2 (up2 (up2 (up2 (up2 (nmA (adv A) (nx T p)) k 3 (Int32.ofNat (n + 1))) (k + 1) (C * n + 0) (Int32.ofNat c)) (k + 1) (C * n + 1) (Int32.ofNat i)) (k + 1) (C * n + 2) x) 46 3 (Int32.ofNat (b + 1))) (by simp (disch := omega) only [up2_o, nmA_r, adv_r]; exact hc)]
      simp (disch := omega) only [t46, up2_o, nmA_6]
      rfl
    · exact c3.of (fun a d z => by unfold memA; simp (disch := omega) only [up2_o]) (fun a d z => by simp (disch := omega) only [up2_o])
    · refine ⟨?_, up2_s _ _ _ _, fun j hj => ?_⟩
      · unfold memA
        simp (disch := omega) only [up2_o, up2_s]
      · rcases Nat.lt_or_ge j b with z | z
        · obtain ⟨g1, g2, g3, g4⟩ := hb.2.2 j z
          simp (disch := omega) only [rA, rB]
          exact ⟨g1.mono c5, g2, g3, g4⟩
        · obtain rfl : j = b := by omega
          unfold memA
          simp (disch := omega) only [up2_o, up2_s]
          exact ⟨hne, trivial, trivial, ⟨_, by omega, rfl⟩⟩
  · right
    obtain ⟨v, J, e1, e2⟩ : ∃ v J, x66 k P A x = some (v, J) ∧ Sw (wrC (adv A) w) J := by
      have sk : sf k 2 ≠ 56 := by rw [k5]; omega
      have nk : k ≠ 56 := by omega
      have s46 : sf 46 2 ≠ 56 := by decide
      have e1 : x59 (up2 A 56 3 (A 56 3 + 1)) = some (-1, wrC (adv A) w) := w2
      refine ⟨_, _, by unfold x66; rw [e1, Option.bind_some]; rfl, ?_⟩
      exact (((((((Sw.rf.ta nk).ts sk).ts sk).ts sk).ta (by decide)).ts s46).ts s46).ts s46
    exact ⟨w, v, J, B1, w1, e1, e2.trans wrC_5, a1, w3⟩
/-- a field or a static: both right, or both wrong; FK: where the reference keeps its kind -/
theorem kindsemi_l (hP : P = 3 ∨ P = 18) (hZ : Z = 85 ∨ Z = 126) (hk : (k = P + 3 ∧ R = 96 ∧ C = 5) ∨ (k = P + 5 ∧ R = 16 ∧ C = 4)) (h : Pa T L M K Z u p A B) (hn2 : n < R) {zk zn : Nat} (hz : (zk = Z + 11 ∧ zn = 7) ∨ (zk = Z + 14 ∧ zn = 6)) (hB : B Z zn = Int32.ofNat n) : (∃ d B' p', ((x67 A 0).bind fun q2 => (x62 (tset q2.2 k (Int32.ofNat n) 3 q2.1) 59)) = some (adv (up2 (adv A) (k + 1) (C * n + 3) (Int32.ofNat d))) ∧ ((x207 B 0).bind (elm fun q4 => x204 (up2 (up2 q4.2 zk n q4.1) Z zn (((up2 q4.2 zk n q4.1) Z zn) + 1)) 59)) = some (.inr B') ∧ Pa T L M K Z u p' (adv (up2 (adv A) (k + 1) (C * n + 3) (Int32.ofNat d))) B' ∧ p < p' ∧ (d = 1 ∨ d = 2) ∧ B' zk n = Int32.ofNat d ∧ B' Z zn = Int32.ofNat (n + 1) ∧ ∀ a e, ((a ≠ Z ∨ (e ≠ 3 ∧ e ≠ 4 ∧ e ≠ zn)) ∧ (a < Z + 1 ∨ Z + 3 < a) ∧ (a ≠ 82 ∨ e < 11 ∨ 16 < e) ∧ a ≠ 84 ∧ (a ≠ zk ∨ e ≠ n)) → B' a e = B a e) ∨ Bad ((x67 A 0).bind fun q2 => (x62 (tset q2.2 k (Int32.ofNat n) 3 q2.1) 59)) ((x207 B 0).bind (elm fun q4 => x204 (up2 (up2 q4.2 zk n q4.1) Z zn (((up2 q4.2 zk n q4.1) Z zn) + 1)) 59)) := by
  have hk' : (k = P + 3 ∧ R = 96 ∧ C = 5) ∨ (k = P + 5 ∧ R = 16 ∧ C = 4) ∨ (k = P + 7 ∧ R = 24 ∧ C = 16) := by omega
  obtain ⟨k1, k2, k3, k4, k5⟩ := sfk2 hP hk'
  have hts : ∀ (I : St) (v : Int32), tset I k (Int32.ofNat n) 3 v = up2 I (k + 1) (C * n + 3) v := fun I v => by
    have := ts_n (I := I) (v := v) (c := 3) (x := 3) k1 k2 (by omega : n < sf k 0) rfl (by omega)
    rw [k4, k5] at this
    exact this
  rcases kind_l hZ h false (x := 0) rfl with ⟨d, B1, a1, a2, a3, a4, a5, a6, a7⟩ | ⟨w, w1, w2, w3⟩
  · have hB1 : ∀ a b, (a ≠ Z ∨ (b ≠ 3 ∧ b ≠ 4)) → (a < Z + 1 ∨ Z + 3 < a) → (a ≠ 82 ∨ b < 11 ∨ 16 < b) → a ≠ 84 → B1 a b = B a b := a4
    have a6 := a6 rfl
    have hge := nx_ge' h.2.1.ge
    rw [a1, a2, Option.bind_some, Option.bind_some]
    simp only [elm, Sum.elim_inr]
    rw [hts, up2_o (show Z ≠ zk ∨ zn ≠ n by omega), hB1 _ _ (by omega) (by omega) (by omega) (by omega), hB, i32_s]
    have hPa : Pa T L M K Z u (nx T p) (up2 (adv A) (k + 1) (C * n + 3) (Int32.ofNat d)) (up2 (up2 B1 zk n (Int32.ofNat d)) Z zn (Int32.ofNat (n + 1))) := a3.of (fun a b z => up2_o (by omega)) (fun a b z => by rw [up2_o (by omega), up2_o (by omega)])
    rcases sign_l hZ hPa (s := 59) (x := 59) rfl (by decide) (by decide) with ⟨B2, b1, b2, b3, b4, b5⟩ | ⟨w, w1, w2, w3⟩
    · left
      have hB2 : ∀ a b, (a ≠ Z ∨ (b ≠ 3 ∧ b ≠ 4)) → (a < Z + 1 ∨ Z + 3 < a) → (a ≠ 82 ∨ b < 11 ∨ 16 < b) → a ≠ 84 → B2 a b = up2 (up2 B1 zk n (Int32.ofNat d)) Z zn (Int32.ofNat (n + 1)) a b := b4
      refine ⟨d, B2, _, b1, b2, b3, by omega, by omega, ?_, ?_, fun a e z => ?_⟩
      · rw [hB2 _ _ (by omega) (by omega) (by omega) (by omega), up2_o (by omega), up2_s]
      · rw [hB2 _ _ (by omega) (by omega) (by omega) (by omega), up2_s]
      · rw [hB2 _ _ (by omega) (by omega) (by omega) (by omega), up2_o (by omega), up2_o (by omega), hB1 _ _ (by omega) (by omega) (by omega) (by omega)]
    · right
      exact ⟨w, _, _, w1, w2, w3, wrC_5, Wr_0⟩
  · right
    rw [w2, w3, Option.bind_some, Option.bind_some]
    have sk : sf k 2 ≠ 56 := by rw [k5]; omega
    exact ⟨w, _, _, w1, x62_e ((wrC_er w1).sw (Sw.rf.ts sk)), rfl, (Sw.rf.ts sk : Sw (wrC A w) _).trans wrC_5, Wr_0⟩
end
