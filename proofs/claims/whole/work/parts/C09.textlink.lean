/-! A TEXT linked and checked, in lockstep -/
section
variable {P Z p n k s : Nat} {E F H G : Nat → Nat} {A B : St} {L M : List (List Nat)} {u : Nat}
theorem lv_l (hP : P = 3 ∨ P = 18) (hZ : Z = 85 ∨ Z = 126) (h : Bz L M P Z p n k k s E F H G A B) (hN : NmR L u A) (h22 : B 82 22 = 0) (h5 : B 82 5 = 4001) : ∃ J I, x81 P A = some (J 57 3, J) ∧ x215 Z B = some I ∧ ((∃ kd q, 1 ≤ kd ∧ kd < 10 ∧ q < 2000 ∧ J 57 3 = Int32.ofNat kd ∧ J 57 4 = Int32.ofNat q ∧ I 82 22 = Int32.ofNat kd ∧ I 82 5 = Int32.ofNat q) ∨ (J 57 3 = 0 ∧ I 82 22 = 0 ∧ ∃ r J2 I2, x97 P J = some (r, J2) ∧ x225 Z I = some I2 ∧ ((∃ q, q < 2000 ∧ r = Int32.ofNat q ∧ I2 82 22 = 5 ∧ I2 82 5 = Int32.ofNat q) ∨ (r = -1 ∧ I2 82 22 = 0 ∧ ∃ pp, Lkd P Z n k s E F G pp J2 I2 ∧ TyA I2 Z k F G ∧ DpA P Z k J2 I2)))) := by
  have hP2 : 3 ≤ P ∧ P ≤ 18 := by omega
  have hZ2 : 85 ≤ Z ∧ Z ≤ 126 := by omega
  obtain ⟨J, a1, a2, a3, a4⟩ := x81_l hP h hN
  obtain ⟨I, b1, b2, b3⟩ := x215_w hZ h h22 h5
  obtain ⟨e1, e2⟩ := note_sm a2 b2
  refine ⟨J, I, a1, b1, ?_⟩
  rcases a2 with ⟨hno, h0⟩ | ⟨q, kd, k1, k2, k3, -, k5, k6⟩
  · right
    have hI0 : I 82 22 = 0 := by rw [← e1]; exact h0
    have hLk := lp_l hP hZ h hno a3 (a4 h0) b3
    have hPh : Hid (P = 3 ∨ P = 18) := hP
    have hZh : Hid (Z = 85 ∨ Z = 126) := hZ
    obtain ⟨⟨hp, -, -⟩, hb, hf, hs, hc, hm, hz, hk, hl, ht, n1, n2, n3, n4, n5, n6, n7, n8⟩ := h
    have fJ : ∀ a b, (a = 49 ∨ a = 53 ∨ a = P + 8) → J a b = A a b := fun a b y => a3.2.2.2.2.2.2 a b (by omega) (by omega) (by omega) (by omega) (by omega) (by omega) (by omega)
    have fI : ∀ a b, (a = Z + 23 ∨ a = Z + 28) → I a b = B a b := fun a b y => b3.2.2.2 a b (by omega) (by omega) (by omega) (by omega) (by omega)
    have hvd : ∀ m, m < k → VD Z m (F (m + 1) - F m) (F m) J I := by
      intro m hm'
      obtain ⟨-, z2, z3⟩ := hz m hm'
      have hFm := mono_le (F := F) (k := k) (fun a ha => (hk.2.2.2.2.1 a ha).1) (m + 1) k (by omega) (Nat.le_refl _)
      refine ⟨⟨by rw [fJ _ _ (by omega), fI _ _ (by omega)]; exact z2, by rw [fI _ _ (by omega)]; exact z3⟩, fun i hi => ?_⟩
      obtain ⟨o, o1, o2, o3, o4, o5, -⟩ := hk.2.2.2.2.2 (F m + i) (by omega)
      exact ⟨by rw [fJ _ _ (by omega), fI _ _ (by omega)]; exact o4, by rw [fI _ _ (by omega)]; exact o5⟩
    have h9 : ∀ m, m < k → J (P + 8) (16 * m + 9) = 0 := by
      intro m hm'
      obtain ⟨q1, -⟩ := hm.2.2.2 m hm'
      rw [fJ _ _ (by omega)]
      exact q1.2.2.2.2.2.2.2.2.2
    obtain ⟨r, J2, I2, c1, c2, c3, c4, c5⟩ := vrf_l hPh hZh hP2 hZ2 hLk hvd hI0 h9
    refine ⟨h0, hI0, r, J2, I2, c1, c2, ?_⟩
    rcases c5 with c5 | ⟨d1, d2, d3, d4⟩
    · exact Or.inl c5
    · refine Or.inr ⟨d1, d2, _, hLk.of (fun a b y1 y2 y3 => c3 a b (by omega) (by omega) (by omega)) (fun a b y => c4 a b (by omega) (by omega) (by omega)), fun m hm' => ?_, d3⟩
      obtain ⟨V, hV⟩ := d4 m hm'
      exact ⟨V, hV.of (fun a b y => c4 a b (by omega) (by omega) (by omega))⟩
  · left
    have n0 : J 57 3 ≠ 0 := by rw [k5]; intro y; rw [i32_e (x := 0) (b := 0) rfl (by omega) (by decide)] at y; omega
    exact ⟨kd, q, k1, k2, k3, k5, k6, by rw [← e1]; exact k5, by rw [← e2 n0]; exact k6⟩
end
