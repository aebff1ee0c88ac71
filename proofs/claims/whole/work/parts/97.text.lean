/-! THE TEXT's loop in lockstep -/
def l191 (Z : Nat) : Nat → St → Option (St ⊕ St)
  | 0, _ => none
  | n + 1, I => if (I 82 12) = 4 then some (.inr I) else (x198 Z I).bind (elm fun q => l191 Z n q)
/-- both right to the end, or both wrong at one place -/
def TxG (T : Tp) (L : List (List Nat)) (K P Z : Nat) (X : Option St) (Y : Option (St ⊕ St)) : Prop := (∃ M' u' p' n' k' s' E' F' H' G' A' B', X = some A' ∧ A' 56 5 = -1 ∧ Y = some (.inr B') ∧ Bq T L M' K P Z u' p' n' k' k' s' E' F' H' G' A' B') ∨ (∃ w A' B', w < 2000 ∧ X = some A' ∧ Y = some (.inl B') ∧ A' 56 5 = Int32.ofNat w ∧ B' 84 0 = Int32.ofNat w)
theorem l53_er {P n : Nat} {b2 : Int32} {A : St} (h : Er A) : l53_36 P (n + 1) b2 A = some A := by
  rw [l53_36]
  split
  · rfl
  · exact if_neg h
theorem l53_3 {P n : Nat} {b2 : Int32} {A : St} (h5 : A 56 5 = -1) (h : A 56 4 = 3) : l53_36 P (n + 1) b2 A = some A := by
  rw [l53_36]
  by_cases z : 4000 < b2
  · rw [if_pos z]
  · rw [if_neg z, if_pos h5, if_pos h]
section
variable {T : Tp} {L : List (List Nat)} {K P Z : Nat}
theorem bq_4 {M : List (List Nat)} {u p n k s : Nat} {E F H G : Nat → Nat} {A B : St} (h : Bq T L M K P Z u p n k k s E F H G A B) (hP2 : 3 ≤ P ∧ P ≤ 18) (v : Int32) : Bq T L M K P Z u p n k k s E F H G (up2 A 56 4 v) B := by
  obtain ⟨hPa, hb, hf, hs, hc, hm, hz, hk, hl, ht, n1, n2, n3, n4, n5, n6, n7, n8⟩ := h
  have rA : ∀ a b, a ≠ 56 → up2 A 56 4 v a b = A a b := fun a b z => up2_o (by omega)
  refine ⟨?_, ?_, ?_, ?_, ?_, ?_, ?_, ?_, ?_, ?_, n1, n2, n3, n4, n5, n6, n7, n8⟩
  · exact hPa.of (fun a b z => up2_o (by omega)) (fun _ _ _ => rfl)
  · exact hb.of Mo.rf (fun a b z => rA a b (by omega)) (fun _ _ _ => rfl)
  · exact hf.of Mo.rf (fun a b z => rA a b (by omega)) (fun _ _ _ => rfl)
  · exact hs.of Mo.rf (fun a b z => rA a b (by omega)) (fun _ _ _ => rfl)
  · exact hc.of Mo.rf (fun a b z => rA a b (by omega)) (fun _ _ _ => rfl)
  · exact hm.of Mo.rf (fun a b z => rA a b (by omega)) (fun _ _ _ => rfl)
  · exact hz.of (fun _ _ => rfl) (fun a b z => rA a b (by omega)) (fun _ _ _ => rfl)
  · exact hk.of Mo.rf (fun a b z => rA a b (by omega)) (fun _ _ _ => rfl)
  · exact hl.of Mo.rf (fun _ _ => ⟨rfl, Nat.le_refl _⟩) (fun a b z => rA a b (by omega)) (fun _ _ _ => rfl)
  · exact ht.of Mo.rf (fun a b z => rA a b (by omega)) (fun _ _ _ => rfl)
set_option maxHeartbeats 4000000 in
theorem text_l (hP : P = 3 ∨ P = 18) (hZ : Z = 85 ∨ Z = 126) : ∀ d p u (M : List (List Nat)) (n k s : Nat) (E F H G : Nat → Nat) (A B : St) (n' b f : Nat), T.1 < p + d → Bq T L M K P Z u p n k k s E F H G A B → A 56 4 = 0 → (8 ≤ n ∨ cA T p ≠ 256) → b ≤ p → 1290 ≤ b + f → TxG T L K P Z (l53_36 P f (Int32.ofNat b) A) (l191 Z (n' + d) B) := by
  intro d
  induction d with
  | zero =>
    intro p u M n k s E F H G A B n' b f hd h
    have := h.1.2.1.2.2
    omega
  | succ d ih =>
    intro p u M n k s E F H G A B n' b f hd h h4 h8 hb hf
    have hPa := h.1
    have hp := hPa.le
    have h5 : A 56 5 = -1 := hPa.1.2.2.2.2.2.2.1
    have k12 : B 82 12 = rkd T p := hPa.2.1.2.1.2.1
    rw [show n' + (d + 1) = (n' + d) + 1 by omega]
    by_cases z : cA T p = 256
    · left
      have r4 : B 82 12 = 4 := k12.trans ((rkd_4 hPa.1.le).mpr z)
      have n8 : 8 ≤ n := by
        rcases h8 with h8 | h8
        · exact h8
        · exact absurd z h8
      have n19 : n ≤ 19 := h.2.2.2.2.2.2.2.2.2.2.2.1
      have i1 := h.2.2.2.2.1.1
      have hx : x55 P A = some (up2 A 56 4 3) := by
        have k0 : x56 A = 0 := by
          rw [x56_n hPa.1]
          exact (ckd_0 hPa.1.le).mpr z
        unfold x55
        rw [if_pos k0, i1, if_neg (by show ¬ _ ≤ Int32.ofNat 7; rw [i32_le (by omega) (by decide)]; omega)]
      have g := go_c h5 h4 hx (f - 1) b (by omega)
      rw [show f - 1 + 1 = f by omega] at g
      refine ⟨M, u, p, n, k, s, E, F, H, G, up2 A 56 4 3, B, ?_, ?_, ?_, bq_4 h (by omega) 3⟩
      · rw [g, show f - 1 = f - 2 + 1 by omega]
        exact l53_3 (by rw [up2_o (by omega)]; exact h5) (up2_s _ _ _ _)
      · rw [up2_o (by omega)]
        exact h5
      · rw [l191, if_pos r4]
    · have r4 : ¬ B 82 12 = 4 := by
        rw [k12, rkd_4 hPa.1.le]
        exact z
      have hY : l191 Z (n' + d + 1) B = (x198 Z B).bind (elm fun q => l191 Z (n' + d) q) := by
        rw [l191, if_neg r4]
      rcases class_l hP hZ h z h4 with ⟨M', u', p', k', s', E', F', H', G', A', B', e, g1, g2, g3, g4, g5, g6⟩ | ⟨w, e, A', B', w1, w2, w3, w4, w5, w6⟩
      · have hp' := g4.1.le
        have n7 : 7 ≤ n := h.2.2.2.2.2.2.2.2.2.2.1
        have g := g1 (f - e) b (by omega)
        rw [show f - e + e = f by omega] at g
        rw [hY, g3, Option.bind_some, elm, Sum.elim_inr, g]
        exact ih p' u' M' (n + 1) k' s' E' F' H' G' A' B' n' (b + e) (f - e) (by omega) g4 g5 (Or.inl (by omega)) (by omega) (by omega)
      · right
        have g := w3 (f - e) b (by omega)
        rw [show f - e + e = f by omega, show f - e = f - e - 1 + 1 by omega] at g
        refine ⟨w, A', B', w1, ?_, by rw [hY, w4]; rfl, w5, w6⟩
        rw [show f = f - e - 1 + 1 + e by omega] 
        rw [w3 (f - e - 1 + 1) b (by omega)]
        exact l53_er (er_of (by omega) w5)
end
