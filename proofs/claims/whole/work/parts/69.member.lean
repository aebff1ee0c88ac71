/-! startMember, where the name is right -/
theorem sfk {P k : Nat} (hP : P = 3 ∨ P = 18) (hk : k = P + 3 ∨ k = P + 5 ∨ k = P + 7) : sf k 2 = k + 1 ∧ sf k 0 < 100 ∧ 4 ≤ sf k 1 ∧ sf k 1 < 17 ∧ k < 200 ∧ shc k = 1 ∧ 6 ≤ k ∧ k ≤ 25 := by
  rcases hP with rfl | rfl <;> rcases hk with rfl | rfl | rfl <;> decide
theorem sf46 : sf 46 0 = 136 ∧ sf 46 1 = 3 ∧ sf 46 2 = 47 := by decide
theorem tok_i {k i : Nat} {b : Int32} (hi : i < sf k 0) (h9 : sf k 0 < 100000) (h0 : ¬ b < 0) (h1 : b < Int32.ofNat (sf k 1)) : tok k (Int32.ofNat i) b := by
  unfold tok
  rintro (h | h | h | h)
  · exact i32_nn (by omega) h
  · rw [i32_le (by omega) (by omega)] at h; omega
  · exact h0 h
  · exact absurd h (Int32.not_le.mpr h1)
theorem i32_lit {c n : Nat} {b : Int32} (hb : b = Int32.ofNat c) (h : c < n) (hn : n < 2147483648) : b < Int32.ofNat n := by
  rw [hb, i32_lt (by omega) hn]
  exact h
section
variable {T : Tp} {L : List (List Nat)} {K p P k n m c : Nat} {A : St}
theorem x66_y (hP : P = 3 ∨ P = 18) (hk : k = P + 3 ∨ k = P + 5 ∨ k = P + 7) (h : PS T L K p A) (h0 : cA T p ≠ 256) (h1 : rkd T (nx T p) = 1) (h2 : te T (nx T p) ≤ nx T p + 12) (hn : A k 3 = Int32.ofNat n) (hn2 : n < sf k 0) (hm : A 46 3 = Int32.ofNat m) (hm2 : m < 136) (hc : A (P + 1) 3 = Int32.ofNat (c + 1)) (x : Int32) : ∃ i J, x66 k P A x = some (Int32.ofNat n, J) ∧ L[i]? = some (str T (nx T p)) ∧ 68 ≤ i ∧ i < 1460 ∧ PS T L K (nx T (nx T p)) J ∧ J 56 6 = Int32.ofNat (nx T p) ∧ J k 3 = Int32.ofNat (n + 1) ∧ (∀ i' j, i' < n → tget J k (Int32.ofNat i') j = tget A k (Int32.ofNat i') j) ∧ tget J k (Int32.ofNat n) 0 = Int32.ofNat c ∧ tget J k (Int32.ofNat n) 1 = Int32.ofNat i ∧ tget J k (Int32.ofNat n) 2 = x ∧ J 46 3 = Int32.ofNat (m + 1) ∧ (∀ i' j, i' < m → tget J 46 (Int32.ofNat i') j = tget A 46 (Int32.ofNat i') j) ∧ tget J 46 (Int32.ofNat m) 0 = Int32.ofNat i ∧ tget J 46 (Int32.ofNat m) 1 = Int32.ofNat (nx T p) ∧ tget J 46 (Int32.ofNat m) 2 = Int32.ofNat c := by
  obtain ⟨k1, k2, k3, k4, k5, k6, k7, k8⟩ := sfk hP hk
  obtain ⟨m1, m2, m3⟩ := sf46
  have ha : PS T L K (nx T p) (adv A) := h.nx h0
  obtain ⟨i, e1, e2, e3, e4⟩ := x59_y ha h1 h2
  have hd : cA T (nx T p) ≠ 256 := fun z => by
    have := ((rkd_1 ha.le).mp h1).1
    rw [z] at this
    cases this
  generalize hB : up2 (up2 (adv A) 56 6 (Int32.ofNat (nx T p))) 56 3 ((adv A) 56 3 + 1) = B at e1
  have hBP : PS T L K (nx T (nx T p)) B := by
    have g := ha.nx hd
    have hsw : B = up2 (up2 (adv A) 56 3 ((adv A) 56 3 + 1)) 56 6 (Int32.ofNat (nx T p)) := by
      rw [← hB]
      funext a b
      unfold up2
      by_cases y : a = 56 <;> by_cases y1 : b = 3 <;> by_cases y2 : b = 6 <;> simp [y, y1, y2]
    rw [hsw]
    exact g.fr (M := [(56, some 6)]) (Frm.u2 Frm.refl rfl) rfl rfl rfl rfl
  have bf : ∀ a b, a ≠ 56 → B a b = A a b := fun a b hab => by
    rw [← hB, up2_k _ _ _ _ _ _ hab, up2_k _ _ _ _ _ _ hab]
    unfold adv
    rw [up2_k _ _ _ _ _ _ hab]
  have b6 : B 56 6 = Int32.ofNat (nx T p) := by rw [← hB, up2_j _ _ _ _ _ (by decide), up2_s]
  have bt : ∀ t a b, sf t 2 ≠ 56 → tget B t a b = tget A t a b := fun t a b ht => by
    unfold tget
    split
    · rfl
    · exact bf _ _ ht
  obtain ⟨t1, t2⟩ := tadd_n (I := B) (k := k) (n := n) (by rw [bf _ _ (by omega)]; exact hn) hn2 (by omega)
  have hx65 : ∀ I : St, I (P + 1) 3 = Int32.ofNat (c + 1) → x65 P I = Int32.ofNat c := fun I hI => by
    unfold x65
    rw [hI, show (1 : Int32) = Int32.ofNat 1 from rfl, i32_sb (by omega)]
    congr 1
  generalize hC : tset (tset (tset (up2 B k 3 (Int32.ofNat (n + 1))) k (Int32.ofNat n) 0 (Int32.ofNat c)) k (Int32.ofNat n) 1 (Int32.ofNat i)) k (Int32.ofNat n) 2 x = C
  have cf : ∀ a b, a ≠ k + 1 → ¬ (a = k ∧ b = 3) → C a b = B a b := fun a b h1 h2 => by
    rw [← hC, tset_fld (by rw [k1]; exact h1), tset_fld (by rw [k1]; exact h1), tset_fld (by rw [k1]; exact h1)]
    by_cases y : a = k
    · subst y
      exact up2_j _ _ _ _ _ (fun z => h2 ⟨rfl, z⟩)
    · exact up2_k _ _ _ _ _ _ y
  obtain ⟨u1, u2⟩ := tadd_n (I := C) (k := 46) (n := m) (by rw [cf _ _ (by omega) (by omega), bf _ _ (by decide)]; exact hm) (by rw [m1]; exact hm2) (by omega)
  have q6 : ∀ a b : Int32, tset (tset (up2 C 46 3 (Int32.ofNat (m + 1))) 46 (Int32.ofNat m) 2 a) 46 (Int32.ofNat m) 0 b 56 6 = Int32.ofNat (nx T p) := fun a b => by
    rw [tset_fld (by rw [m3]; decide), tset_fld (by rw [m3]; decide), up2_k _ _ _ _ _ _ (by decide), cf _ _ (by omega) (by omega)]
    exact b6
  have hx : x66 k P A x = some (Int32.ofNat n, tset (tset (tset (up2 C 46 3 (Int32.ofNat (m + 1))) 46 (Int32.ofNat m) 2 (Int32.ofNat c)) 46 (Int32.ofNat m) 0 (Int32.ofNat i)) 46 (Int32.ofNat m) 1 (Int32.ofNat (nx T p))) := by
    have e1' : x59 (up2 A 56 3 (A 56 3 + 1)) = some (Int32.ofNat i, B) := e1
    unfold x66
    rw [e1', Option.bind_some]
    dsimp only [Lt]
    rw [t1, t2, hx65 (up2 B k 3 (Int32.ofNat (n + 1))) (by rw [up2_k _ _ _ _ _ _ (by omega), bf _ _ (by omega)]; exact hc), hC, u1, u2, hx65 (up2 C 46 3 (Int32.ofNat (m + 1))) (by rw [up2_k _ _ _ _ _ _ (by omega), cf _ _ (by omega) (by omega), bf _ _ (by omega)]; exact hc), q6]
  have hf := x66_fr hP hk A A Frm.refl _ hx
  have lt0 : ∀ (b : Int32) (d : Nat), b = Int32.ofNat d → d < 3 → b < Int32.ofNat (sf k 1) := fun b d hb hd => i32_lit hb (by omega) (by omega)
  have kt : ∀ (I : St) (a b v : Int32) (r d : Int32), tget (tset I 46 a b v) k r d = tget I k r d := fun I a b v r d => tget_oth (by rw [m3, k1]; omega)
  have k46 : ∀ (I : St) (v : Int32) (r d : Int32), tget (up2 I 46 3 v) k r d = tget I k r d := fun I v r d => tget_up (by rw [k1]; omega)
  have tk : ∀ (I : St) (a b v : Int32) (r d : Int32), tget (tset I k a b v) 46 r d = tget I 46 r d := fun I a b v r d => tget_oth (by rw [m3, k1]; omega)
  refine ⟨i, _, hx, e2, e3, e4, ?_, ?_, ?_, ?_, ?_, ?_, ?_, ?_, ?_, ?_, ?_, ?_⟩
  · have f1 : Frm [(k + 1, none), (k, some 3)] B C := by
      rw [← hC]
      have y0 : mdb [(k + 1, none), (k, some 3)] k 3 = true := by simp [mdb]
      have y1 : ∀ j, mdb [(k + 1, none), (k, some 3)] (sf k 2) j = true := fun j => by rw [k1]; simp [mdb]
      exact Frm.ts (Frm.ts (Frm.ts (Frm.u2 Frm.refl y0) y1) y1) y1
    have f2 : Frm [(47, none), (46, some 3)] C (tset (tset (tset (up2 C 46 3 (Int32.ofNat (m + 1))) 46 (Int32.ofNat m) 2 (Int32.ofNat c)) 46 (Int32.ofNat m) 0 (Int32.ofNat i)) 46 (Int32.ofNat m) 1 (Int32.ofNat (nx T p))) := Frm.ts (Frm.ts (Frm.ts (Frm.u2 Frm.refl rfl) (fun _ => rfl)) (fun _ => rfl)) (fun _ => rfl)
    have g1 : PS T L K (nx T (nx T p)) C := by
      rcases hP with rfl | rfl <;> rcases hk with rfl | rfl | rfl <;> exact hBP.fr f1 rfl rfl rfl rfl
    exact g1.fr f2 rfl rfl rfl rfl
  · rw [tset_fld (by rw [m3]; decide)]
    exact q6 _ _
  · rw [tset_fld (by rw [m3]; omega), tset_fld (by rw [m3]; omega), tset_fld (by rw [m3]; omega), up2_k _ _ _ _ _ _ (by omega), ← hC, tset_fld (by rw [k1]; omega), tset_fld (by rw [k1]; omega), tset_fld (by rw [k1]; omega), up2_s]
  · intro i' j hi'
    have e : Int32.ofNat n ≠ Int32.ofNat i' := by rw [Ne, i32_eq (by omega) (by omega)]; omega
    rw [kt, kt, kt, k46, ← hC, tget_ne k5 k6 (Or.inl e), tget_ne k5 k6 (Or.inl e), tget_ne k5 k6 (Or.inl e), tget_up (by rw [k1]; omega), bt _ _ _ (by rw [k1]; omega)]
  · rw [kt, kt, kt, k46, ← hC, tget_ne k5 k6 (Or.inr (by decide)), tget_ne k5 k6 (Or.inr (by decide)), tget_same (tok_i (b := 0) hn2 (by omega) (by decide) (lt0 0 0 rfl (by decide)))]
  · rw [kt, kt, kt, k46, ← hC, tget_ne k5 k6 (Or.inr (by decide)), tget_same (tok_i (b := 1) hn2 (by omega) (by decide) (lt0 1 1 rfl (by decide)))]
  · rw [kt, kt, kt, k46, ← hC, tget_same (tok_i (b := 2) hn2 (by omega) (by decide) (lt0 2 2 rfl (by decide)))]
  · rw [tset_fld (by rw [m3]; decide), tset_fld (by rw [m3]; decide), tset_fld (by rw [m3]; decide), up2_s]
  · intro i' j hi'
    have e : Int32.ofNat m ≠ Int32.ofNat i' := by rw [Ne, i32_eq (by omega) (by omega)]; omega
    rw [tget_ne (by decide) (by decide) (Or.inl e), tget_ne (by decide) (by decide) (Or.inl e), tget_ne (by decide) (by decide) (Or.inl e), tget_up (by rw [m3]; decide), ← hC, tk, tk, tk, tget_up (by rw [m3]; omega), bt _ _ _ (by rw [m3]; decide)]
  · rw [tget_ne (by decide) (by decide) (Or.inr (by decide)), tget_same (tok_i (k := 46) (b := 0) (by omega) (by omega) (by decide) (by rw [m2]; decide))]
  · rw [tget_same (tok_i (k := 46) (b := 1) (by omega) (by omega) (by decide) (by rw [m2]; decide))]
  · rw [tget_ne (by decide) (by decide) (Or.inr (by decide)), tget_ne (by decide) (by decide) (Or.inr (by decide)), tget_same (tok_i (k := 46) (b := 2) (by omega) (by omega) (by decide) (by rw [m2]; decide))]
end
