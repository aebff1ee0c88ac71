/-! MEMBERS of a class in lockstep -/
def mbE (q20 : St) : Option (St ⊕ St) := (x192 q20).bind fun q23 => some (.inr q23)
def MbR (Z c f : Nat) (b2 : Int32) (B : St) : Option (St ⊕ St) := (l198_137 Z (Int32.ofNat c) f b2 B).bind (Sum.elim mbE (fun r => some r))
def MbG (T : Tp) (L : List (List Nat)) (K P Z c p : Nat) (A : St) (Y : Option (St ⊕ St)) : Prop := (∃ M' u' p' k' s' E' F' H' G' A' B' e, Go P A A' e ∧ e + p ≤ p' ∧ Y = some (.inr B') ∧ Bq T L M' K P Z u' p' (c + 1) k' k' s' E' F' H' G' A' B' ∧ A' 56 4 = 0 ∧ p < p') ∨ BadG P p A Y
theorem MbG.pre {T : Tp} {L : List (List Nat)} {K P Z c p p1 e1 : Nat} {A A1 : St} {Y : Option (St ⊕ St)} (g : Go P A A1 e1) (he : e1 + p ≤ p1) (h : MbG T L K P Z c p1 A1 Y) : MbG T L K P Z c p A Y := by
  rcases h with ⟨M', u', p', k', s', E', F', H', G', A', B', e, h1, h2, h3, h4, h5, h6⟩ | h
  · exact Or.inl ⟨M', u', p', k', s', E', F', H', G', A', B', e1 + e, g.tr h1, by omega, h3, h4, h5, by omega⟩
  · exact Or.inr (h.pre g he)
section
variable {T : Tp} {L : List (List Nat)} {K P Z c p : Nat} {A B : St}
theorem x63_n (h : PS T L K p A) : x63 P A = if cA T p = 125 then some (up2 (adv A) 56 4 0) else if owd T p = some 1 then x64 P A else if owd T p = some 2 then x68 P A else if owd T p = some 3 then x69 P A 0 else if owd T p = some 4 then x69 P A 1 else some (wrC A p) := by
  have e1 : x57 A 60 = if owd T p = some 1 then 1 else 0 := x57_n h (n := 1) rfl (by decide)
  have e2 : x57 A 61 = if owd T p = some 2 then 1 else 0 := x57_n h (n := 2) rfl (by decide)
  have e3 : x57 A 62 = if owd T p = some 3 then 1 else 0 := x57_n h (n := 3) rfl (by decide)
  have e4 : x57 A 63 = if owd T p = some 4 then 1 else 0 := x57_n h (n := 4) rfl (by decide)
  have i10 : ¬ ((1 : Int32) = 0) := by decide
  unfold x63
  rw [x61_n h (s := 125) (x := 125) rfl (by decide) (by decide), e1, e2, e3, e4, x58_n h]
  simp only [Option.bind_fun_some, Option.bind_some]
  by_cases z0 : cA T p = 125
  · rw [if_pos z0, if_pos z0, if_neg i10]
    rfl
  · rw [if_neg z0, if_neg z0, if_pos rfl]
    by_cases z1 : owd T p = some 1
    · rw [if_pos z1, if_pos z1, if_neg i10]
    · rw [if_neg z1, if_neg z1, if_pos rfl]
      by_cases z2 : owd T p = some 2
      · rw [if_pos z2, if_pos z2, if_neg i10]
      · rw [if_neg z2, if_neg z2, if_pos rfl]
        by_cases z3 : owd T p = some 3
        · rw [if_pos z3, if_pos z3, if_neg i10]
        · rw [if_neg z3, if_neg z3, if_pos rfl]
          by_cases z4 : owd T p = some 4
          · rw [if_pos z4, if_pos z4, if_neg i10]
          · rw [if_neg z4, if_neg z4, if_pos rfl]
theorem l198_n (h : RS T p B) {c1 b2 : Int32} {n : Nat} : l198_137 Z c1 (n + 1) b2 B = if cA T p = 125 then some (.inl B) else if owd T p = some 1 then (if b2 = 8 then some (.inr (.inl (Wr B p))) else (x205 Z B c1).bind (Sum.elim (fun J => some (.inr (.inl J))) (fun q => l198_137 Z c1 n (b2 + 1) q))) else if owd T p = some 2 then (if B Z 6 = 16 then some (.inr (.inl (Wr B p))) else (x208 Z B c1).bind (Sum.elim (fun J => some (.inr (.inl J))) (fun q => l198_137 Z c1 n b2 q))) else if owd T p = some 3 then (if B Z 8 = 24 then some (.inr (.inl (Wr B p))) else (x209 Z B c1 0).bind (Sum.elim (fun J => some (.inr (.inl J))) (fun q => l198_137 Z c1 n b2 q))) else if owd T p = some 4 then (if B Z 8 = 24 then some (.inr (.inl (Wr B p))) else (x209 Z B c1 1).bind (Sum.elim (fun J => some (.inr (.inl J))) (fun q => l198_137 Z c1 n b2 q))) else some (.inr (.inl (Wr B p))) := by
  have e1 : x199 B 1 = some (if owd T p = some 1 then 1 else 0, B) := x199_n h (n := 1) rfl (by decide)
  have e2 : x199 B 2 = some (if owd T p = some 2 then 1 else 0, B) := x199_n h (n := 2) rfl (by decide)
  have e3 : x199 B 3 = some (if owd T p = some 3 then 1 else 0, B) := x199_n h (n := 3) rfl (by decide)
  have e4 : x199 B 4 = some (if owd T p = some 4 then 1 else 0, B) := x199_n h (n := 4) rfl (by decide)
  have i10 : ¬ ((1 : Int32) = 0) := by decide
  have hw : up2 B 84 0 (B 82 13) = Wr B p := by
    unfold Wr
    rw [h.2.1.2.2.1]
  rw [l198_137, x203_n h (s := 125) (x := 125) rfl (by decide) (by decide), Option.bind_some]
  by_cases z0 : cA T p = 125
  · rw [if_pos z0, if_pos z0, if_neg i10]
  · rw [if_neg z0, if_neg z0, if_pos rfl, e1, Option.bind_some]
    dsimp only
    rw [hw]
    by_cases z1 : owd T p = some 1
    · rw [if_pos z1, if_pos z1, if_neg i10]
    · rw [if_neg z1, if_neg z1, if_pos rfl, e2, Option.bind_some]
      dsimp only
      rw [hw]
      by_cases z2 : owd T p = some 2
      · rw [if_pos z2, if_pos z2, if_neg i10]
      · rw [if_neg z2, if_neg z2, if_pos rfl, e3, Option.bind_some]
        dsimp only
        rw [hw, e4, Option.bind_some]
        by_cases z3 : owd T p = some 3
        · rw [if_pos z3, if_pos z3, if_neg i10, if_neg (show ¬ owd T p = some 4 by rw [z3]; decide)]
          rfl
        · rw [if_neg z3, if_neg z3, if_pos rfl]
          dsimp only
          rw [hw, e4]
          by_cases z4 : owd T p = some 4
          · rw [if_pos z4, if_pos z4, if_neg i10]
            rfl
          · rw [if_neg z4, if_neg z4, if_pos rfl]
theorem endm_l (hZ : Z = 85 ∨ Z = 126) {M : List (List Nat)} {u n k s : Nat} {E F H G : Nat → Nat} (h : Bq T L M K P Z u p n k k s E F H G A B) (hP2 : 3 ≤ P ∧ P ≤ 18) (h0 : cA T p ≠ 256) (v : Int32) : ∃ B', x192 B = some B' ∧ Bq T L M K P Z u (nx T p) n k k s E F H G (up2 (adv A) 56 4 v) B' ∧ p < nx T p := by
  obtain ⟨hPa, hb, hf, hs, hc, hm, hz, hk, hl, ht, n1, n2, n3, n4, n5, n6, n7, n8⟩ := h
  have hZ2 : 85 ≤ Z ∧ Z ≤ 126 := by omega
  obtain ⟨B3, a1, a2, a3, a4⟩ := next_l hZ hPa h0
  replace hZ : Hid (Z = 85 ∨ Z = 126) := hZ
  have rA : ∀ a b, a ≠ 56 → up2 (adv A) 56 4 v a b = A a b := fun a b z => by
    rw [up2_o (by omega), adv_r (by omega)]
  have rB : ∀ a b, ((a ≠ Z ∨ (b ≠ 3 ∧ b ≠ 4)) ∧ (a < Z + 1 ∨ Z + 3 < a) ∧ (a ≠ 82 ∨ b < 11 ∨ 16 < b) ∧ a ≠ 84) → B3 a b = B a b := fun a b z => a3 a b z.1 z.2.1 z.2.2.1 z.2.2.2
  refine ⟨B3, a1, ⟨?_, ?_, ?_, ?_, ?_, ?_, ?_, ?_, ?_, ?_, n1, n2, n3, n4, n5, by omega, by omega, n8.of (fun a b z => rB a b ⟨by omega, by omega, by omega, by omega⟩)⟩, a4⟩
  · exact a2.of (fun a b z => up2_o (by omega)) (fun _ _ _ => rfl)
  · exact hb.of Mo.rf (fun a b z => rA a b (by omega)) (fun a b z => rB a b ⟨by omega, by omega, by omega, by omega⟩)
  · exact hf.of Mo.rf (fun a b z => rA a b (by omega)) (fun a b z => rB a b ⟨by omega, by omega, by omega, by omega⟩)
  · exact hs.of Mo.rf (fun a b z => rA a b (by omega)) (fun a b z => rB a b ⟨by omega, by omega, by omega, by omega⟩)
  · exact hc.of Mo.rf (fun a b z => rA a b (by omega)) (fun a b z => rB a b ⟨by omega, by omega, by omega, by omega⟩)
  · exact hm.of Mo.rf (fun a b z => rA a b (by omega)) (fun a b z => rB a b ⟨by omega, by omega, by omega, by omega⟩)
  · exact hz.of (fun _ _ => rfl) (fun a b z => rA a b (by omega)) (fun a b z => rB a b ⟨by omega, by omega, by omega, by omega⟩)
  · exact hk.of Mo.rf (fun a b z => rA a b (by omega)) (fun a b z => rB a b ⟨by omega, by omega, by omega, by omega⟩)
  · exact hl.of Mo.rf (fun _ _ => ⟨rfl, Nat.le_refl _⟩) (fun a b z => rA a b (by omega)) (fun a b z => rB a b ⟨by omega, by omega, by omega, by omega⟩)
  · exact ht.of Mo.rf (fun a b z => rA a b (by omega)) (fun a b z => rB a b ⟨by omega, by omega, by omega, by omega⟩)
end
section
variable {T : Tp} {L : List (List Nat)} {K P Z c : Nat}
set_option maxHeartbeats 40000000 in
theorem members_l (hP : P = 3 ∨ P = 18) (hZ : Z = 85 ∨ Z = 126) (h7 : 7 ≤ c) : ∀ d p u (M : List (List Nat)) (k s : Nat) (E F H G : Nat → Nat) (A B : St) n', T.1 < p + d → Bq T L M K P Z u p (c + 1) k k s E F H G A B → A 56 4 = 1 → MbG T L K P Z c p A (MbR Z c (n' + d) (Int32.ofNat (E (c + 1) - E c)) B) := by
  intro d
  induction d with
  | zero =>
    intro p u M k s E F H G A B n' hd h h4
    have := h.1.2.1.2.2
    omega
  | succ d ih =>
    intro p u M k s E F H G A B n' hd h h4
    have hPa := h.1
    have hp := hPa.le
    have hT : T.1 ≤ 1280 := hPa.2.1.1.2.1
    have h5 : A 56 5 = -1 := hPa.1.2.2.2.2.2.2.1
    have hc := h.2.2.2.2.1
    obtain ⟨i1, i2, i3, i4⟩ := hc
    obtain ⟨g1, g2, g3, g4, g5, -⟩ := i4 c (by omega)
    have k24 : k ≤ 24 := h.2.2.2.2.2.2.2.2.2.2.2.2.1
    have s16 : s ≤ 16 := h.2.2.2.2.2.2.2.2.2.2.2.2.2.1
    have m1 := h.2.2.2.2.2.1.1
    have m3 := h.2.2.2.2.2.1.2.2.1
    have j1 := h.2.2.2.1.1
    have j2 := h.2.2.2.1.2.1
    rw [show n' + (d + 1) = (n' + d) + 1 by omega]
    have go1 : ∀ A', x63 P A = some A' → Go P A A' 1 := fun A' => go_m h5 h4
    have hX := x63_n (P := P) hPa.1
    have hY := l198_n (Z := Z) hPa.2.1 (c1 := Int32.ofNat c) (b2 := Int32.ofNat (E (c + 1) - E c)) (n := n' + d)
    have wrg : x63 P A = some (wrC A p) → l198_137 Z (Int32.ofNat c) (n' + d + 1) (Int32.ofNat (E (c + 1) - E c)) B = some (.inr (.inl (Wr B p))) → MbG T L K P Z c p A (MbR Z c (n' + d + 1) (Int32.ofNat (E (c + 1) - E c)) B) := fun e1 e2 => Or.inr ⟨p, 1, _, Wr B p, by omega, by omega, go1 _ e1, by unfold MbR; rw [e2]; rfl, wrC_5, Wr_0⟩
    have fin : ∀ (X : Option St) (Y : Option (St ⊕ St)) (E' : Nat → Nat) (s' : Nat) (b2 : Int32), x63 P A = X → l198_137 Z (Int32.ofNat c) (n' + d + 1) (Int32.ofNat (E (c + 1) - E c)) B = Y.bind (Sum.elim (fun J => some (.inr (.inl J))) (fun q => l198_137 Z (Int32.ofNat c) (n' + d) b2 q)) → b2 = Int32.ofNat (E' (c + 1) - E' c) → ((∃ M' u' p' A' B', X = some A' ∧ Y = some (.inr B') ∧ Bq T L M' K P Z u' p' (c + 1) k k s' E' F H G A' B' ∧ A' 56 4 = A 56 4 ∧ p < p') ∨ Bad X Y) → MbG T L K P Z c p A (MbR Z c (n' + d + 1) (Int32.ofNat (E (c + 1) - E c)) B) := by
      intro X Y E' s' b2 hX hY hb hh
      rcases hh with ⟨M', u', p', A', B', e1, e2, e3, e4, e5⟩ | ⟨w, A', B', w1, w2, w3, w4, w5⟩
      · have q1 := ih p' u' M' k s' E' F H G A' B' n' (by omega) e3 (e4.trans h4)
        unfold MbR at q1 ⊢
        rw [hY, e2, Option.bind_some, Sum.elim_inr, hb]
        exact q1.pre (go1 A' (hX.trans e1)) (by omega)
      · refine Or.inr ⟨w, 1, A', B', w1, by omega, go1 A' (hX.trans w2), ?_, w4, w5⟩
        unfold MbR
        rw [hY, w3]
        rfl
    have meth : ∀ v : Nat, (v = 0 ∨ v = 1) → k < 24 → cA T p ≠ 256 → x63 P A = x69 P A (Int32.ofNat v) → l198_137 Z (Int32.ofNat c) (n' + d + 1) (Int32.ofNat (E (c + 1) - E c)) B = (x209 Z B (Int32.ofNat c) (Int32.ofNat v)).bind (Sum.elim (fun J => some (.inr (.inl J))) (fun q => l198_137 Z (Int32.ofNat c) (n' + d) (Int32.ofNat (E (c + 1) - E c)) q)) → MbG T L K P Z c p A (MbR Z c (n' + d + 1) (Int32.ofNat (E (c + 1) - E c)) B) := by
      intro v hv hk h0 hX hY
      rcases method_l hP hZ h h7 hk h0 hv with ⟨M', u', p', A', B', e1, e2, e3, e4, e5⟩ | ⟨w, A', B', w1, w2, w3, w4, w5⟩
      · have g := go1 A' (hX.trans e1)
        have q1 := items_l hP hZ 1281 p' u' M' _ _ _ A' B' 98719 (by omega) e3 e4
        rw [updN_s, updN_n (show k ≠ k + 1 by omega), Nat.sub_self, show Int32.ofNat 0 = 0 from rfl, show 98719 + 1281 = 100000 from rfl, ← e2] at q1
        rcases q1 with ⟨M2, u2, p2, F2, H2, G2, A2, B2, e, f1, f2, f3, f4, f5, f6⟩ | ⟨w, e, A2, B2, w1, w2, w3, w4, w5, w6⟩
        · have q2 := ih p2 u2 M2 (k + 1) s E F2 H2 G2 A2 B2 n' (by omega) f4 f5
          unfold MbR at q2 ⊢
          rw [hY, f3, Option.bind_some, Sum.elim_inr]
          exact q2.pre (g.tr f1) (by omega)
        · refine Or.inr ⟨w, 1 + e, A2, B2, w1, by omega, g.tr w3, ?_, w5, w6⟩
          unfold MbR
          rw [hY, w4]
          rfl
      · refine Or.inr ⟨w, 1, A', B', w1, by omega, go1 A' (hX.trans w2), ?_, w4, w5⟩
        unfold MbR
        rw [hY, w3]
        rfl
    have x65c : x65 P A = Int32.ofNat c := by
      unfold x65
      rw [i1, i32_p]
    by_cases z0 : cA T p = 125
    · rw [if_pos z0] at hX hY
      obtain ⟨B', e1, e2, e3⟩ := endm_l hZ h (by omega) (by omega) 0
      refine Or.inl ⟨M, u, _, k, s, E, F, H, G, _, B', 1, go1 _ hX, by omega, ?_, e2, up2_s _ _ _ _, e3⟩
      unfold MbR
      rw [hY, Option.bind_some, Sum.elim_inl, mbE, e1]
      rfl
    · rw [if_neg z0] at hX hY
      by_cases z1 : owd T p = some 1
      · rw [if_pos z1] at hX hY
        by_cases y : E (c + 1) < E c + 8
        · rw [if_neg (by show ¬ _ = Int32.ofNat 8; rw [i32_eq (by omega) (by decide)]; omega)] at hY
          refine fin _ _ (updN E (c + 1) (E (c + 1) + 1)) s _ hX hY ?_ (field_l hP hZ h h7 y (owd_ne z1))
          rw [updN_s, updN_n (by omega), i32_s]
          congr 1
          omega
        · rw [if_pos (by show _ = Int32.ofNat 8; rw [i32_eq (by omega) (by decide)]; omega)] at hY
          refine wrg ?_ hY
          rw [hX]
          have e0 : tget A (P + 1) (Int32.ofNat c) 3 = Int32.ofNat (E (c + 1) - E c) := by
            have : c < 19 := by have := h.2.2.2.2.2.2.2.2.2.2.2.1; omega
            simp (disch := omega) only [tP1 hP]
            exact g3
          unfold x64
          rw [x65c, e0, if_neg (by show ¬ _ < Int32.ofNat 8; rw [i32_lt (by omega) (by decide)]; omega), x58_n hPa.1]
          rfl
      · rw [if_neg z1] at hX hY
        by_cases z2 : owd T p = some 2
        · rw [if_pos z2, j2] at hY
          rw [if_pos z2] at hX
          by_cases y : s < 16
          · rw [if_neg (by show ¬ _ = Int32.ofNat 16; rw [i32_eq (by omega) (by decide)]; omega)] at hY
            exact fin _ _ E (s + 1) _ hX hY rfl (static_l hP hZ h h7 y (owd_ne z2))
          · rw [if_pos (by show _ = Int32.ofNat 16; rw [i32_eq (by omega) (by decide)]; omega)] at hY
            refine wrg ?_ hY
            rw [hX]
            unfold x68
            rw [j1, if_neg (by show ¬ _ < Int32.ofNat 16; rw [i32_lt (by omega) (by decide)]; omega), x58_n hPa.1]
            rfl
        · rw [if_neg z2] at hX hY
          have many : ∀ v, ¬ k < 24 → x69 P A v = some (wrC A p) := fun v y => by
            unfold x69
            rw [m1, if_neg (by show ¬ _ < Int32.ofNat 24; rw [i32_lt (by omega) (by decide)]; omega), x58_n hPa.1]
            rfl
          by_cases z3 : owd T p = some 3
          · rw [if_pos z3, m3] at hY
            rw [if_pos z3] at hX
            by_cases y : k < 24
            · rw [if_neg (by show ¬ _ = Int32.ofNat 24; rw [i32_eq (by omega) (by decide)]; omega)] at hY
              exact meth 0 (Or.inl rfl) y (owd_ne z3) hX hY
            · rw [if_pos (by show _ = Int32.ofNat 24; rw [i32_eq (by omega) (by decide)]; omega)] at hY
              exact wrg (hX.trans (many _ y)) hY
          · rw [if_neg z3] at hX hY
            by_cases z4 : owd T p = some 4
            · rw [if_pos z4, m3] at hY
              rw [if_pos z4] at hX
              by_cases y : k < 24
              · rw [if_neg (by show ¬ _ = Int32.ofNat 24; rw [i32_eq (by omega) (by decide)]; omega)] at hY
                exact meth 1 (Or.inr rfl) y (owd_ne z4) hX hY
              · rw [if_pos (by show _ = Int32.ofNat 24; rw [i32_eq (by omega) (by decide)]; omega)] at hY
                exact wrg (hX.trans (many _ y)) hY
            · rw [if_neg z4] at hX hY
              exact wrg hX hY
end
