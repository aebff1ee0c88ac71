/-! FUNCTIONS OF METHODS, by program (wip/gen/all.py): 209 226 238 98 -/
/-- TaintHouseModel.readMethod(IZ)V -/
def l209_128 (Z : Nat) (b3 : Int32) : Nat → St → Option ((St) ⊕ (St ⊕ (St)))
  | 0, _ => none
  | n + 1, I => (x203 I 44).bind fun q10 => if q10 = 0 then some (.inl I) else if inb b3 24 then if (I (Z + 18) b3.toNatClampNeg) = 6 then some (.inr (.inl (up2 I 84 0 (I 82 13)))) else (x192 I).bind fun q11 => (x210 Z q11 b3).bind (Sum.elim (fun J => some (.inr (.inl J))) (fun q12 => l209_128 Z b3 n q12)) else none
set_option maxRecDepth 20000 in
set_option maxHeartbeats 30000000 in
theorem l209_128_ok {E : Xe} {R : Nat → Nat → Option Nat} {Z : Nat} {o : Outcome} {w : Wd} {T : ((St) ⊕ (St ⊕ (St))) → Prop} {b3 : Int32} (hZ : Z = 85 ∨ Z = 126) (h82_4 : R 82 4 = some Z) (hT : ∀ r, T (.inr (.inr r)) → o = .returned none ∧ w = wT r R) (hX : ∀ J, T (.inr (.inl J)) → o = .threw 84 ∧ w = wT J R) (K : ∀ (q : St) (e1 : Value) (_ : is1 e1 = true) (e2 : Value) (_ : is1 e2 = true) (e4 : Value) (_ : is1 e4 = true) (e5 : Value) (_ : is1 e5 = true) (e6 : Value) (_ : is1 e6 = true) (e7 : Value) (_ : is1 e7 = true), T (.inl q) → Rn E 209 (172, [.ref 82, e1, e2, .int b3, e4, e5, e6, e7], [], wT q R) o w) : ∀ (n : Nat) (d1 : Value) (d2 : Value) (d4 : Value) (d5 : Value) (d6 : Value) (d7 : Value) (I : St), is1 d1 = true → is1 d2 = true → is1 d4 = true → is1 d5 = true → is1 d6 = true → is1 d7 = true → Dq (l209_128 Z b3 n I) T → Rn E 209 (128, [.ref 82, d1, d2, .int b3, d4, d5, d6, d7], [], wT I R) o w := by
  rcases hZ with rfl | rfl
  · intro n
    induction n with
    | zero => intro d1 d2 d4 d5 d6 d7 I hd1 hd2 hd4 hd5 hd6 hd7; exact D.none
    | succ n ih =>
      intro d1 d2 d4 d5 d6 d7 I hd1 hd2 hd4 hd5 hd6 hd7
      rw [l209_128]
      refine D.run 2 rfl ?_
      refine D.call rfl rfl rfl rfl (fun q h => x203_ok h) (fun q10 => ?_)
      refine D.br rfl (by decide) rfl (fun hc => ?_) (fun hc => ?_)
      · exact fun h => D.to h (K _ _ (by first | rfl | assumption) _ (by first | rfl | assumption) _ (by first | rfl | assumption) _ (by first | rfl | assumption) _ (by first | rfl | assumption) _ (by first | rfl | assumption))
      · refine D.run 1 rfl ?_
        refine D.st rfl (by decide) (gf_1 h82_4) ?_
        refine D.run 2 rfl ?_
        refine D.gd fun hg => ?_
        refine D.st rfl (by decide) (al_i (by decide) (by first | rfl | decide) hg.1 hg.2) ?_
        show _ → Rn E 209 (146, [.ref 82, d1, d2, .int b3, d4, d5, d6, d7], [.int (I (85 + 18) b3.toNatClampNeg)], wT I R) o w
        refine D.run 1 rfl ?_
        refine D.br rfl (by decide) rfl (fun hc => ?_) (fun hc => ?_)
        · refine D.run 3 rfl ?_
          refine D.ce rfl rfl rfl rfl (fail_ok _) ?_
          exact fun h => by obtain ⟨rfl, rfl⟩ := hX _ (D.some h); exact Rn.thr rfl rfl rfl
        · refine D.run 1 rfl ?_
          refine D.call rfl rfl rfl rfl (fun q h => x192_ok h) (fun q11 => ?_)
          refine D.run 2 rfl ?_
          refine D.ct rfl rfl rfl rfl rfl (fun q h => x210_ok (by decide) h82_4 h) (fun J h => x210_thr (by decide) h82_4 h) (fun J h => hX _ (D.some h)) (fun q12 => ?_)
          refine D.run 1 rfl ?_
          exact ih _ _ _ _ _ _ _ (by first | rfl | assumption) (by first | rfl | assumption) (by first | rfl | assumption) (by first | rfl | assumption) (by first | rfl | assumption) (by first | rfl | assumption)
  · intro n
    induction n with
    | zero => intro d1 d2 d4 d5 d6 d7 I hd1 hd2 hd4 hd5 hd6 hd7; exact D.none
    | succ n ih =>
      intro d1 d2 d4 d5 d6 d7 I hd1 hd2 hd4 hd5 hd6 hd7
      rw [l209_128]
      refine D.run 2 rfl ?_
      refine D.call rfl rfl rfl rfl (fun q h => x203_ok h) (fun q10 => ?_)
      refine D.br rfl (by decide) rfl (fun hc => ?_) (fun hc => ?_)
      · exact fun h => D.to h (K _ _ (by first | rfl | assumption) _ (by first | rfl | assumption) _ (by first | rfl | assumption) _ (by first | rfl | assumption) _ (by first | rfl | assumption) _ (by first | rfl | assumption))
      · refine D.run 1 rfl ?_
        refine D.st rfl (by decide) (gf_1 h82_4) ?_
        refine D.run 2 rfl ?_
        refine D.gd fun hg => ?_
        refine D.st rfl (by decide) (al_i (by decide) (by first | rfl | decide) hg.1 hg.2) ?_
        show _ → Rn E 209 (146, [.ref 82, d1, d2, .int b3, d4, d5, d6, d7], [.int (I (126 + 18) b3.toNatClampNeg)], wT I R) o w
        refine D.run 1 rfl ?_
        refine D.br rfl (by decide) rfl (fun hc => ?_) (fun hc => ?_)
        · refine D.run 3 rfl ?_
          refine D.ce rfl rfl rfl rfl (fail_ok _) ?_
          exact fun h => by obtain ⟨rfl, rfl⟩ := hX _ (D.some h); exact Rn.thr rfl rfl rfl
        · refine D.run 1 rfl ?_
          refine D.call rfl rfl rfl rfl (fun q h => x192_ok h) (fun q11 => ?_)
          refine D.run 2 rfl ?_
          refine D.ct rfl rfl rfl rfl rfl (fun q h => x210_ok (by decide) h82_4 h) (fun J h => x210_thr (by decide) h82_4 h) (fun J h => hX _ (D.some h)) (fun q12 => ?_)
          refine D.run 1 rfl ?_
          exact ih _ _ _ _ _ _ _ (by first | rfl | assumption) (by first | rfl | assumption) (by first | rfl | assumption) (by first | rfl | assumption) (by first | rfl | assumption) (by first | rfl | assumption)
def l209_217 (Z : Nat) (b3 : Int32) : Nat → Int32 → St → Option ((St) ⊕ (St ⊕ (St)))
  | 0, _, _ => none
  | n + 1, b6, I => (x203 I 125).bind fun q23 => if q23 = 0 then (x199 I 8).bind fun q24 => if q24.1 = 0 then if (q24.2 82 12) = 1 then if inb (q24.2 Z 10) 2000 then if inb (q24.2 Z 10) 2000 then Lt (up2 (up2 q24.2 174 (q24.2 Z 10).toNatClampNeg (q24.2 82 13)) (Z + 34) (q24.2 Z 10).toNatClampNeg b3) fun J25 => (x201 Z J25).bind (Sum.elim (fun J => some (.inr (.inl J))) (fun q26 => if inb (q24.2 Z 10) 2000 then if inb (q24.2 Z 10) 2000 then Lt (up2 (up2 q26.2 (Z + 35) (q24.2 Z 10).toNatClampNeg q26.1) (Z + 36) (q24.2 Z 10).toNatClampNeg ((up2 q26.2 (Z + 35) (q24.2 Z 10).toNatClampNeg q26.1) Z 9)) fun J27 => (x204 (up2 J27 Z 10 ((J27 Z 10) + 1)) 58).bind (Sum.elim (fun J => some (.inr (.inl J))) (fun q28 => l209_217 Z b3 n b6 q28)) else none else none)) else none else none else (x212 Z q24.2 b3).bind (Sum.elim (fun J => some (.inr (.inl J))) (fun q29 => l209_217 Z b3 n b6 q29)) else if b6 = 8 then some (.inr (.inl (up2 q24.2 84 0 (q24.2 82 13)))) else (x211 Z q24.2 b3).bind (Sum.elim (fun J => some (.inr (.inl J))) (fun q30 => l209_217 Z b3 n (b6 + 1) q30)) else some (.inl I)
set_option maxRecDepth 20000 in
set_option maxHeartbeats 30000000 in
theorem l209_217_ok {E : Xe} {R : Nat → Nat → Option Nat} {Z : Nat} {o : Outcome} {w : Wd} {T : ((St) ⊕ (St ⊕ (St))) → Prop} {b3 : Int32} (hZ : Z = 85 ∨ Z = 126) (h82_4 : R 82 4 = some Z) (hT : ∀ r, T (.inr (.inr r)) → o = .returned none ∧ w = wT r R) (hX : ∀ J, T (.inr (.inl J)) → o = .threw 84 ∧ w = wT J R) (K : ∀ (q : St) (e1 : Value) (_ : is1 e1 = true) (e2 : Value) (_ : is1 e2 = true) (e4 : Value) (_ : is1 e4 = true) (e5 : Value) (_ : is1 e5 = true) (e6 : Value) (_ : is1 e6 = true) (e7 : Value) (_ : is1 e7 = true), T (.inl q) → Rn E 209 (362, [.ref 82, e1, e2, .int b3, e4, e5, e6, e7], [], wT q R) o w) : ∀ (n : Nat) (b6 : Int32) (d1 : Value) (d2 : Value) (d4 : Value) (d5 : Value) (d7 : Value) (I : St), is1 d1 = true → is1 d2 = true → is1 d4 = true → is1 d5 = true → is1 d7 = true → Dq (l209_217 Z b3 n b6 I) T → Rn E 209 (217, [.ref 82, d1, d2, .int b3, d4, d5, .int b6, d7], [], wT I R) o w := by
  rcases hZ with rfl | rfl
  · intro n
    induction n with
    | zero => intro b6 d1 d2 d4 d5 d7 I hd1 hd2 hd4 hd5 hd7; exact D.none
    | succ n ih =>
      intro b6 d1 d2 d4 d5 d7 I hd1 hd2 hd4 hd5 hd7
      rw [l209_217]
      refine D.run 2 rfl ?_
      refine D.call rfl rfl rfl rfl (fun q h => x203_ok h) (fun q23 => ?_)
      refine D.br rfl (by decide) rfl (fun hc => ?_) (fun hc => ?_)
      · refine D.run 2 rfl ?_
        refine D.call rfl rfl rfl rfl (fun q h => x199_ok h) (fun q24 => ?_)
        refine D.br rfl (by decide) rfl (fun hc => ?_) (fun hc => ?_)
        · refine D.run 3 rfl ?_
          refine D.br rfl (by decide) rfl (fun hc => ?_) (fun hc => ?_)
          · refine D.run 1 rfl ?_
            refine D.st rfl (by decide) (gf_1 h82_4) ?_
            refine D.run 7 rfl ?_
            refine D.gd fun hg => ?_
            refine D.st rfl (by decide) (as_i (by decide) (by first | rfl | decide) hg.1 hg.2) ?_
            show _ → Rn E 209 (290, [.ref 82, d1, d2, .int b3, d4, d5, .int b6, .int (q24.2 85 10)], [], wT (up2 q24.2 174 (q24.2 85 10).toNatClampNeg (q24.2 82 13)) R) o w
            refine D.run 1 rfl ?_
            refine D.st rfl (by decide) (gf_1 h82_4) ?_
            refine D.run 3 rfl ?_
            refine D.gd fun hg => ?_
            refine D.st rfl (by decide) (as_i (by decide) (by first | rfl | decide) hg.1 hg.2) ?_
            refine D.letS (fun J25 => ?_)
            show _ → Rn E 209 (301, [.ref 82, d1, d2, .int b3, d4, d5, .int b6, .int (q24.2 85 10)], [], wT J25 R) o w
            refine D.run 1 rfl ?_
            refine D.st rfl (by decide) (gf_1 h82_4) ?_
            refine D.run 3 rfl ?_
            refine D.ct rfl rfl rfl rfl rfl (fun q h => x201_ok (by decide) h82_4 h) (fun J h => x201_thr (by decide) h82_4 h) (fun J h => hX _ (D.some h)) (fun q26 => ?_)
            refine D.gd fun hg => ?_
            refine D.st rfl (by decide) (as_i (by decide) (by first | rfl | decide) hg.1 hg.2) ?_
            show _ → Rn E 209 (315, [.ref 82, d1, d2, .int b3, d4, d5, .int b6, .int (q24.2 85 10)], [], wT (up2 q26.2 (85 + 35) (q24.2 85 10).toNatClampNeg q26.1) R) o w
            refine D.run 1 rfl ?_
            refine D.st rfl (by decide) (gf_1 h82_4) ?_
            refine D.run 3 rfl ?_
            refine D.st rfl (by decide) (gf_1 h82_4) ?_
            refine D.run 1 rfl ?_
            refine D.gd fun hg => ?_
            refine D.st rfl (by decide) (as_i (by decide) (by first | rfl | decide) hg.1 hg.2) ?_
            refine D.letS (fun J27 => ?_)
            show _ → Rn E 209 (332, [.ref 82, d1, d2, .int b3, d4, d5, .int b6, .int (q24.2 85 10)], [], wT J27 R) o w
            refine D.run 1 rfl ?_
            refine D.st rfl (by decide) (gf_1 h82_4) ?_
            refine D.run 7 rfl ?_
            refine D.ct rfl rfl rfl rfl rfl (fun q h => x204_ok h) (fun J h => x204_thr h) (fun J h => hX _ (D.some h)) (fun q28 => ?_)
            refine D.run 1 rfl ?_
            exact ih _ _ _ _ _ _ _ (by first | rfl | assumption) (by first | rfl | assumption) (by first | rfl | assumption) (by first | rfl | assumption) (by first | rfl | assumption)
          · refine D.run 2 rfl ?_
            refine D.ct rfl rfl rfl rfl rfl (fun q h => x212_ok (by decide) h82_4 h) (fun J h => x212_thr (by decide) h82_4 h) (fun J h => hX _ (D.some h)) (fun q29 => ?_)
            refine D.run 1 rfl ?_
            exact ih _ _ _ _ _ _ _ (by first | rfl | assumption) (by first | rfl | assumption) (by first | rfl | assumption) (by first | rfl | assumption) (by first | rfl | assumption)
        · refine D.run 2 rfl ?_
          refine D.br rfl (by decide) rfl (fun hc => ?_) (fun hc => ?_)
          · refine D.run 3 rfl ?_
            refine D.ce rfl rfl rfl rfl (fail_ok _) ?_
            exact fun h => by obtain ⟨rfl, rfl⟩ := hX _ (D.some h); exact Rn.thr rfl rfl rfl
          · refine D.st rfl (by decide) (iinc_d rfl rfl (by first | rfl | assumption) rfl) ?_
            refine D.run 2 rfl ?_
            refine D.ct rfl rfl rfl rfl rfl (fun q h => x211_ok (by decide) h82_4 h) (fun J h => x211_thr (by decide) h82_4 h) (fun J h => hX _ (D.some h)) (fun q30 => ?_)
            refine D.run 1 rfl ?_
            exact ih _ _ _ _ _ _ _ (by first | rfl | assumption) (by first | rfl | assumption) (by first | rfl | assumption) (by first | rfl | assumption) (by first | rfl | assumption)
      · exact fun h => D.to h (K _ _ (by first | rfl | assumption) _ (by first | rfl | assumption) _ (by first | rfl | assumption) _ (by first | rfl | assumption) _ (by first | rfl | assumption) _ (by first | rfl | assumption))
  · intro n
    induction n with
    | zero => intro b6 d1 d2 d4 d5 d7 I hd1 hd2 hd4 hd5 hd7; exact D.none
    | succ n ih =>
      intro b6 d1 d2 d4 d5 d7 I hd1 hd2 hd4 hd5 hd7
      rw [l209_217]
      refine D.run 2 rfl ?_
      refine D.call rfl rfl rfl rfl (fun q h => x203_ok h) (fun q23 => ?_)
      refine D.br rfl (by decide) rfl (fun hc => ?_) (fun hc => ?_)
      · refine D.run 2 rfl ?_
        refine D.call rfl rfl rfl rfl (fun q h => x199_ok h) (fun q24 => ?_)
        refine D.br rfl (by decide) rfl (fun hc => ?_) (fun hc => ?_)
        · refine D.run 3 rfl ?_
          refine D.br rfl (by decide) rfl (fun hc => ?_) (fun hc => ?_)
          · refine D.run 1 rfl ?_
            refine D.st rfl (by decide) (gf_1 h82_4) ?_
            refine D.run 7 rfl ?_
            refine D.gd fun hg => ?_
            refine D.st rfl (by decide) (as_i (by decide) (by first | rfl | decide) hg.1 hg.2) ?_
            show _ → Rn E 209 (290, [.ref 82, d1, d2, .int b3, d4, d5, .int b6, .int (q24.2 126 10)], [], wT (up2 q24.2 174 (q24.2 126 10).toNatClampNeg (q24.2 82 13)) R) o w
            refine D.run 1 rfl ?_
            refine D.st rfl (by decide) (gf_1 h82_4) ?_
            refine D.run 3 rfl ?_
            refine D.gd fun hg => ?_
            refine D.st rfl (by decide) (as_i (by decide) (by first | rfl | decide) hg.1 hg.2) ?_
            refine D.letS (fun J25 => ?_)
            show _ → Rn E 209 (301, [.ref 82, d1, d2, .int b3, d4, d5, .int b6, .int (q24.2 126 10)], [], wT J25 R) o w
            refine D.run 1 rfl ?_
            refine D.st rfl (by decide) (gf_1 h82_4) ?_
            refine D.run 3 rfl ?_
            refine D.ct rfl rfl rfl rfl rfl (fun q h => x201_ok (by decide) h82_4 h) (fun J h => x201_thr (by decide) h82_4 h) (fun J h => hX _ (D.some h)) (fun q26 => ?_)
            refine D.gd fun hg => ?_
            refine D.st rfl (by decide) (as_i (by decide) (by first | rfl | decide) hg.1 hg.2) ?_
            show _ → Rn E 209 (315, [.ref 82, d1, d2, .int b3, d4, d5, .int b6, .int (q24.2 126 10)], [], wT (up2 q26.2 (126 + 35) (q24.2 126 10).toNatClampNeg q26.1) R) o w
            refine D.run 1 rfl ?_
            refine D.st rfl (by decide) (gf_1 h82_4) ?_
            refine D.run 3 rfl ?_
            refine D.st rfl (by decide) (gf_1 h82_4) ?_
            refine D.run 1 rfl ?_
            refine D.gd fun hg => ?_
            refine D.st rfl (by decide) (as_i (by decide) (by first | rfl | decide) hg.1 hg.2) ?_
            refine D.letS (fun J27 => ?_)
            show _ → Rn E 209 (332, [.ref 82, d1, d2, .int b3, d4, d5, .int b6, .int (q24.2 126 10)], [], wT J27 R) o w
            refine D.run 1 rfl ?_
            refine D.st rfl (by decide) (gf_1 h82_4) ?_
            refine D.run 7 rfl ?_
            refine D.ct rfl rfl rfl rfl rfl (fun q h => x204_ok h) (fun J h => x204_thr h) (fun J h => hX _ (D.some h)) (fun q28 => ?_)
            refine D.run 1 rfl ?_
            exact ih _ _ _ _ _ _ _ (by first | rfl | assumption) (by first | rfl | assumption) (by first | rfl | assumption) (by first | rfl | assumption) (by first | rfl | assumption)
          · refine D.run 2 rfl ?_
            refine D.ct rfl rfl rfl rfl rfl (fun q h => x212_ok (by decide) h82_4 h) (fun J h => x212_thr (by decide) h82_4 h) (fun J h => hX _ (D.some h)) (fun q29 => ?_)
            refine D.run 1 rfl ?_
            exact ih _ _ _ _ _ _ _ (by first | rfl | assumption) (by first | rfl | assumption) (by first | rfl | assumption) (by first | rfl | assumption) (by first | rfl | assumption)
        · refine D.run 2 rfl ?_
          refine D.br rfl (by decide) rfl (fun hc => ?_) (fun hc => ?_)
          · refine D.run 3 rfl ?_
            refine D.ce rfl rfl rfl rfl (fail_ok _) ?_
            exact fun h => by obtain ⟨rfl, rfl⟩ := hX _ (D.some h); exact Rn.thr rfl rfl rfl
          · refine D.st rfl (by decide) (iinc_d rfl rfl (by first | rfl | assumption) rfl) ?_
            refine D.run 2 rfl ?_
            refine D.ct rfl rfl rfl rfl rfl (fun q h => x211_ok (by decide) h82_4 h) (fun J h => x211_thr (by decide) h82_4 h) (fun J h => hX _ (D.some h)) (fun q30 => ?_)
            refine D.run 1 rfl ?_
            exact ih _ _ _ _ _ _ _ (by first | rfl | assumption) (by first | rfl | assumption) (by first | rfl | assumption) (by first | rfl | assumption) (by first | rfl | assumption)
      · exact fun h => D.to h (K _ _ (by first | rfl | assumption) _ (by first | rfl | assumption) _ (by first | rfl | assumption) _ (by first | rfl | assumption) _ (by first | rfl | assumption) _ (by first | rfl | assumption))
def x209 (Z : Nat) (I : St) (a1 a2 : Int32) : Option (St ⊕ (St)) := (x192 I).bind fun q1 => (x201 Z q1).bind (Sum.elim (fun J => some (.inl J)) (fun q2 => (x206 q2.2 a1 q2.1 (q1 82 13)).bind fun q3 => if inb (q1 Z 8) 24 then if inb (q1 Z 8) 24 then if inb (q1 Z 8) 24 then Lt (up2 (up2 (up2 q3 (Z + 15) (q1 Z 8).toNatClampNeg a1) (Z + 16) (q1 Z 8).toNatClampNeg q2.1) (Z + 17) (q1 Z 8).toNatClampNeg (q1 82 13)) fun J4 => if inb (q1 Z 8) 24 then if inb (q1 Z 8) 24 then Lt (up2 (up2 J4 (Z + 25) (q1 Z 8).toNatClampNeg (vp_nar .boolean a2)) (Z + 18) (q1 Z 8).toNatClampNeg 0) fun J5 => if inb (q1 Z 8) 24 then Lt (up2 (up2 J5 (Z + 19) (q1 Z 8).toNatClampNeg 0) Z 8 (((up2 J5 (Z + 19) (q1 Z 8).toNatClampNeg 0) Z 8) + 1)) fun J6 => (x204 J6 40).bind (Sum.elim (fun J => some (.inl J)) (fun q7 => (x203 q7 41).bind fun q8 => if q8 = 0 then (x210 Z q7 (q1 Z 8)).bind (Sum.elim (fun J => some (.inl J)) (fun q9 => (l209_128 Z (q1 Z 8) 100000 q9).bind (Sum.elim (fun q13 => (x204 q13 41).bind (Sum.elim (fun J => some (.inl J)) (fun q20 => (x207 q20 1).bind (Sum.elim (fun J => some (.inl J)) (fun q21 => if inb (q1 Z 8) 24 then (x204 (up2 q21.2 (Z + 20) (q1 Z 8).toNatClampNeg q21.1) 123).bind (Sum.elim (fun J => some (.inl J)) (fun q22 => if inb (q1 Z 8) 24 then (l209_217 Z (q1 Z 8) 100000 0 (up2 q22 (Z + 21) (q1 Z 8).toNatClampNeg (q22 Z 9))).bind (Sum.elim (fun q31 => if inb (q1 Z 8) 24 then if inb (q1 Z 8) 24 then Lt (up2 q31 (Z + 22) (q1 Z 8).toNatClampNeg ((q31 Z 9) - (q31 (Z + 21) (q1 Z 8).toNatClampNeg))) fun J38 => if inb (q1 Z 8) 24 then (x192 (up2 J38 (Z + 23) (q1 Z 8).toNatClampNeg (J38 82 13))).bind fun q39 => some (.inr q39) else none else none else none) (fun r => some r)) else none)) else none))))) (fun r => some r)))) else (x204 q7 41).bind (Sum.elim (fun J => some (.inl J)) (fun q40 => (x207 q40 1).bind (Sum.elim (fun J => some (.inl J)) (fun q41 => if inb (q1 Z 8) 24 then (x204 (up2 q41.2 (Z + 20) (q1 Z 8).toNatClampNeg q41.1) 123).bind (Sum.elim (fun J => some (.inl J)) (fun q42 => if inb (q1 Z 8) 24 then (l209_217 Z (q1 Z 8) 100000 0 (up2 q42 (Z + 21) (q1 Z 8).toNatClampNeg (q42 Z 9))).bind (Sum.elim (fun q43 => if inb (q1 Z 8) 24 then if inb (q1 Z 8) 24 then Lt (up2 q43 (Z + 22) (q1 Z 8).toNatClampNeg ((q43 Z 9) - (q43 (Z + 21) (q1 Z 8).toNatClampNeg))) fun J50 => if inb (q1 Z 8) 24 then (x192 (up2 J50 (Z + 23) (q1 Z 8).toNatClampNeg (J50 82 13))).bind fun q51 => some (.inr q51) else none else none else none) (fun r => some r)) else none)) else none)))))) else none else none else none else none else none else none))
set_option maxRecDepth 20000 in
set_option maxHeartbeats 30000000 in
theorem x209_D {E : Xe} {R : Nat → Nat → Option Nat} {Z : Nat} {o : Outcome} {w : Wd} {T : (St ⊕ (St)) → Prop} {I : St} (hZ : Z = 85 ∨ Z = 126) (h82_4 : R 82 4 = some Z) (a1 a2 : Int32) (hT : ∀ r, T (.inr r) → o = .returned none ∧ w = wT r R) (hX : ∀ J, T (.inl J) → o = .threw 84 ∧ w = wT J R) : Dq (x209 Z I a1 a2) T → Rn E 209 (0, loc0 209 [.ref 82, .int a1, .int a2], [], wT I R) o w := by
  unfold x209
  rcases hZ with rfl | rfl
  · refine D.run 1 rfl ?_
    refine D.call rfl rfl rfl rfl (fun q h => x192_ok h) (fun q1 => ?_)
    refine D.run 1 rfl ?_
    refine D.st rfl (by decide) (gf_1 h82_4) ?_
    refine D.run 6 rfl ?_
    refine D.ct rfl rfl rfl rfl rfl (fun q h => x201_ok (by decide) h82_4 h) (fun J h => x201_thr (by decide) h82_4 h) (fun J h => hX _ (D.some h)) (fun q2 => ?_)
    show _ → Rn E 209 (22, [.ref 82, .int a1, .int a2, .int (q1 85 8), .int (q1 82 13), us, us, us], [.int q2.1], wT q2.2 R) o w
    refine D.run 5 rfl ?_
    refine D.call rfl rfl rfl rfl (fun q h => x206_ok h) (fun q3 => ?_)
    refine D.run 1 rfl ?_
    refine D.st rfl (by decide) (gf_1 h82_4) ?_
    refine D.run 3 rfl ?_
    refine D.gd fun hg => ?_
    refine D.st rfl (by decide) (as_i (by decide) (by first | rfl | decide) hg.1 hg.2) ?_
    show _ → Rn E 209 (43, [.ref 82, .int a1, .int a2, .int (q1 85 8), .int (q1 82 13), .int q2.1, us, us], [], wT (up2 q3 (85 + 15) (q1 85 8).toNatClampNeg a1) R) o w
    refine D.run 1 rfl ?_
    refine D.st rfl (by decide) (gf_1 h82_4) ?_
    refine D.run 3 rfl ?_
    refine D.gd fun hg => ?_
    refine D.st rfl (by decide) (as_i (by decide) (by first | rfl | decide) hg.1 hg.2) ?_
    show _ → Rn E 209 (54, [.ref 82, .int a1, .int a2, .int (q1 85 8), .int (q1 82 13), .int q2.1, us, us], [], wT (up2 (up2 q3 (85 + 15) (q1 85 8).toNatClampNeg a1) (85 + 16) (q1 85 8).toNatClampNeg q2.1) R) o w
    refine D.run 1 rfl ?_
    refine D.st rfl (by decide) (gf_1 h82_4) ?_
    refine D.run 3 rfl ?_
    refine D.gd fun hg => ?_
    refine D.st rfl (by decide) (as_i (by decide) (by first | rfl | decide) hg.1 hg.2) ?_
    refine D.letS (fun J4 => ?_)
    show _ → Rn E 209 (65, [.ref 82, .int a1, .int a2, .int (q1 85 8), .int (q1 82 13), .int q2.1, us, us], [], wT J4 R) o w
    refine D.run 1 rfl ?_
    refine D.st rfl (by decide) (gf_1 h82_4) ?_
    refine D.run 3 rfl ?_
    refine D.gd fun hg => ?_
    refine D.st rfl (by decide) (as_z (by decide) (by first | rfl | decide) hg.1 hg.2) ?_
    show _ → Rn E 209 (75, [.ref 82, .int a1, .int a2, .int (q1 85 8), .int (q1 82 13), .int q2.1, us, us], [], wT (up2 J4 (85 + 25) (q1 85 8).toNatClampNeg (vp_nar .boolean a2)) R) o w
    refine D.run 1 rfl ?_
    refine D.st rfl (by decide) (gf_1 h82_4) ?_
    refine D.run 3 rfl ?_
    refine D.gd fun hg => ?_
    refine D.st rfl (by decide) (as_i (by decide) (by first | rfl | decide) hg.1 hg.2) ?_
    refine D.letS (fun J5 => ?_)
    show _ → Rn E 209 (85, [.ref 82, .int a1, .int a2, .int (q1 85 8), .int (q1 82 13), .int q2.1, us, us], [], wT J5 R) o w
    refine D.run 1 rfl ?_
    refine D.st rfl (by decide) (gf_1 h82_4) ?_
    refine D.run 3 rfl ?_
    refine D.gd fun hg => ?_
    refine D.st rfl (by decide) (as_i (by decide) (by first | rfl | decide) hg.1 hg.2) ?_
    show _ → Rn E 209 (95, [.ref 82, .int a1, .int a2, .int (q1 85 8), .int (q1 82 13), .int q2.1, us, us], [], wT (up2 J5 (85 + 19) (q1 85 8).toNatClampNeg 0) R) o w
    refine D.run 1 rfl ?_
    refine D.st rfl (by decide) (gf_1 h82_4) ?_
    refine D.run 5 rfl ?_
    refine D.letS (fun J6 => ?_)
    refine D.run 2 rfl ?_
    refine D.ct rfl rfl rfl rfl rfl (fun q h => x204_ok h) (fun J h => x204_thr h) (fun J h => hX _ (D.some h)) (fun q7 => ?_)
    show _ → Rn E 209 (114, [.ref 82, .int a1, .int a2, .int (q1 85 8), .int (q1 82 13), .int q2.1, us, us], [], wT q7 R) o w
    refine D.run 2 rfl ?_
    refine D.call rfl rfl rfl rfl (fun q h => x203_ok h) (fun q8 => ?_)
    refine D.br rfl (by decide) rfl (fun hc => ?_) (fun hc => ?_)
    · refine D.run 2 rfl ?_
      refine D.ct rfl rfl rfl rfl rfl (fun q h => x210_ok (by decide) h82_4 h) (fun J h => x210_thr (by decide) h82_4 h) (fun J h => hX _ (D.some h)) (fun q9 => ?_)
      refine D.bind (l209_128_ok (by decide) h82_4 (fun r h => hT _ (D.some h)) (fun r h => hX _ (D.some h)) (fun q13 e14 he14 e15 he15 e16 he16 e17 he17 e18 he18 e19 he19 => ?_) 100000  _ _ _ _ _ _ _ (by first | rfl | assumption) (by first | rfl | assumption) (by first | rfl | assumption) (by first | rfl | assumption) (by first | rfl | assumption) (by first | rfl | assumption))
      refine D.inl ?_
      refine D.run 2 rfl ?_
      refine D.ct rfl rfl rfl rfl rfl (fun q h => x204_ok h) (fun J h => x204_thr h) (fun J h => hX _ (D.some h)) (fun q20 => ?_)
      refine D.run 1 rfl ?_
      refine D.st rfl (by decide) (gf_1 h82_4) ?_
      refine D.run 4 rfl ?_
      refine D.ct rfl rfl rfl rfl rfl (fun q h => x207_ok h) (fun J h => x207_thr h) (fun J h => hX _ (D.some h)) (fun q21 => ?_)
      show _ → Rn E 209 (191, [.ref 82, e14, e15, .int (q1 85 8), e16, e17, e18, e19], [.int q21.1, .int (q1 85 8), .ref (85 + 20)], wT q21.2 R) o w
      refine D.gd fun hg => ?_
      refine D.st rfl (by decide) (as_i (by decide) (by first | rfl | decide) hg.1 hg.2) ?_
      refine D.run 2 rfl ?_
      refine D.ct rfl rfl rfl rfl rfl (fun q h => x204_ok h) (fun J h => x204_thr h) (fun J h => hX _ (D.some h)) (fun q22 => ?_)
      refine D.run 1 rfl ?_
      refine D.st rfl (by decide) (gf_1 h82_4) ?_
      show _ → Rn E 209 (202, [.ref 82, e14, e15, .int (q1 85 8), e16, e17, e18, e19], [.ref 85], wT q22 R) o w
      refine D.run 3 rfl ?_
      refine D.st rfl (by decide) (gf_1 h82_4) ?_
      refine D.run 1 rfl ?_
      refine D.gd fun hg => ?_
      refine D.st rfl (by decide) (as_i (by decide) (by first | rfl | decide) hg.1 hg.2) ?_
      show _ → Rn E 209 (214, [.ref 82, e14, e15, .int (q1 85 8), e16, e17, e18, e19], [], wT (up2 q22 (85 + 21) (q1 85 8).toNatClampNeg (q22 85 9)) R) o w
      refine D.run 1 rfl ?_
      refine D.st rfl (by decide) (ist_d rfl (by first | rfl | assumption) rfl) ?_
      refine D.bind (l209_217_ok (by decide) h82_4 (fun r h => hT _ (D.some h)) (fun r h => hX _ (D.some h)) (fun q31 e32 he32 e33 he33 e34 he34 e35 he35 e36 he36 e37 he37 => ?_) 100000 _ _ _ _ _ _ _ (by first | rfl | assumption) (by first | rfl | assumption) (by first | rfl | assumption) (by first | rfl | assumption) (by first | rfl | assumption))
      refine D.inl ?_
      refine D.run 1 rfl ?_
      refine D.st rfl (by decide) (gf_1 h82_4) ?_
      refine D.run 3 rfl ?_
      refine D.st rfl (by decide) (gf_1 h82_4) ?_
      refine D.run 2 rfl ?_
      refine D.st rfl (by decide) (gf_1 h82_4) ?_
      show _ → Rn E 209 (381, [.ref 82, e32, e33, .int (q1 85 8), e34, e35, e36, e37], [.ref 85, .int (q31 85 9), .int (q1 85 8), .ref (85 + 22)], wT q31 R) o w
      refine D.run 2 rfl ?_
      refine D.gd fun hg => ?_
      refine D.st rfl (by decide) (al_i (by decide) (by first | rfl | decide) hg.1 hg.2) ?_
      refine D.run 1 rfl ?_
      refine D.gd fun hg => ?_
      refine D.st rfl (by decide) (as_i (by decide) (by first | rfl | decide) hg.1 hg.2) ?_
      refine D.letS (fun J38 => ?_)
      show _ → Rn E 209 (388, [.ref 82, e32, e33, .int (q1 85 8), e34, e35, e36, e37], [], wT J38 R) o w
      refine D.run 1 rfl ?_
      refine D.st rfl (by decide) (gf_1 h82_4) ?_
      refine D.run 4 rfl ?_
      refine D.gd fun hg => ?_
      refine D.st rfl (by decide) (as_i (by decide) (by first | rfl | decide) hg.1 hg.2) ?_
      show _ → Rn E 209 (401, [.ref 82, e32, e33, .int (q1 85 8), e34, e35, e36, e37], [], wT (up2 J38 (85 + 23) (q1 85 8).toNatClampNeg (J38 82 13)) R) o w
      refine D.run 1 rfl ?_
      refine D.call rfl rfl rfl rfl (fun q h => x192_ok h) (fun q39 => ?_)
      exact fun h => by obtain ⟨rfl, rfl⟩ := hT _ (D.some h); exact Rn.ret rfl rfl rfl
    · refine D.run 2 rfl ?_
      refine D.ct rfl rfl rfl rfl rfl (fun q h => x204_ok h) (fun J h => x204_thr h) (fun J h => hX _ (D.some h)) (fun q40 => ?_)
      refine D.run 1 rfl ?_
      refine D.st rfl (by decide) (gf_1 h82_4) ?_
      refine D.run 4 rfl ?_
      refine D.ct rfl rfl rfl rfl rfl (fun q h => x207_ok h) (fun J h => x207_thr h) (fun J h => hX _ (D.some h)) (fun q41 => ?_)
      show _ → Rn E 209 (191, [.ref 82, .int a1, .int a2, .int (q1 85 8), .int (q1 82 13), .int q2.1, us, us], [.int q41.1, .int (q1 85 8), .ref (85 + 20)], wT q41.2 R) o w
      refine D.gd fun hg => ?_
      refine D.st rfl (by decide) (as_i (by decide) (by first | rfl | decide) hg.1 hg.2) ?_
      refine D.run 2 rfl ?_
      refine D.ct rfl rfl rfl rfl rfl (fun q h => x204_ok h) (fun J h => x204_thr h) (fun J h => hX _ (D.some h)) (fun q42 => ?_)
      refine D.run 1 rfl ?_
      refine D.st rfl (by decide) (gf_1 h82_4) ?_
      show _ → Rn E 209 (202, [.ref 82, .int a1, .int a2, .int (q1 85 8), .int (q1 82 13), .int q2.1, us, us], [.ref 85], wT q42 R) o w
      refine D.run 3 rfl ?_
      refine D.st rfl (by decide) (gf_1 h82_4) ?_
      refine D.run 1 rfl ?_
      refine D.gd fun hg => ?_
      refine D.st rfl (by decide) (as_i (by decide) (by first | rfl | decide) hg.1 hg.2) ?_
      show _ → Rn E 209 (214, [.ref 82, .int a1, .int a2, .int (q1 85 8), .int (q1 82 13), .int q2.1, us, us], [], wT (up2 q42 (85 + 21) (q1 85 8).toNatClampNeg (q42 85 9)) R) o w
      refine D.run 2 rfl ?_
      refine D.bind (l209_217_ok (by decide) h82_4 (fun r h => hT _ (D.some h)) (fun r h => hX _ (D.some h)) (fun q43 e44 he44 e45 he45 e46 he46 e47 he47 e48 he48 e49 he49 => ?_) 100000 _ _ _ _ _ _ _ (by first | rfl | assumption) (by first | rfl | assumption) (by first | rfl | assumption) (by first | rfl | assumption) (by first | rfl | assumption))
      refine D.inl ?_
      refine D.run 1 rfl ?_
      refine D.st rfl (by decide) (gf_1 h82_4) ?_
      refine D.run 3 rfl ?_
      refine D.st rfl (by decide) (gf_1 h82_4) ?_
      refine D.run 2 rfl ?_
      refine D.st rfl (by decide) (gf_1 h82_4) ?_
      show _ → Rn E 209 (381, [.ref 82, e44, e45, .int (q1 85 8), e46, e47, e48, e49], [.ref 85, .int (q43 85 9), .int (q1 85 8), .ref (85 + 22)], wT q43 R) o w
      refine D.run 2 rfl ?_
      refine D.gd fun hg => ?_
      refine D.st rfl (by decide) (al_i (by decide) (by first | rfl | decide) hg.1 hg.2) ?_
      refine D.run 1 rfl ?_
      refine D.gd fun hg => ?_
      refine D.st rfl (by decide) (as_i (by decide) (by first | rfl | decide) hg.1 hg.2) ?_
      refine D.letS (fun J50 => ?_)
      show _ → Rn E 209 (388, [.ref 82, e44, e45, .int (q1 85 8), e46, e47, e48, e49], [], wT J50 R) o w
      refine D.run 1 rfl ?_
      refine D.st rfl (by decide) (gf_1 h82_4) ?_
      refine D.run 4 rfl ?_
      refine D.gd fun hg => ?_
      refine D.st rfl (by decide) (as_i (by decide) (by first | rfl | decide) hg.1 hg.2) ?_
      show _ → Rn E 209 (401, [.ref 82, e44, e45, .int (q1 85 8), e46, e47, e48, e49], [], wT (up2 J50 (85 + 23) (q1 85 8).toNatClampNeg (J50 82 13)) R) o w
      refine D.run 1 rfl ?_
      refine D.call rfl rfl rfl rfl (fun q h => x192_ok h) (fun q51 => ?_)
      exact fun h => by obtain ⟨rfl, rfl⟩ := hT _ (D.some h); exact Rn.ret rfl rfl rfl
  · refine D.run 1 rfl ?_
    refine D.call rfl rfl rfl rfl (fun q h => x192_ok h) (fun q1 => ?_)
    refine D.run 1 rfl ?_
    refine D.st rfl (by decide) (gf_1 h82_4) ?_
    refine D.run 6 rfl ?_
    refine D.ct rfl rfl rfl rfl rfl (fun q h => x201_ok (by decide) h82_4 h) (fun J h => x201_thr (by decide) h82_4 h) (fun J h => hX _ (D.some h)) (fun q2 => ?_)
    show _ → Rn E 209 (22, [.ref 82, .int a1, .int a2, .int (q1 126 8), .int (q1 82 13), us, us, us], [.int q2.1], wT q2.2 R) o w
    refine D.run 5 rfl ?_
    refine D.call rfl rfl rfl rfl (fun q h => x206_ok h) (fun q3 => ?_)
    refine D.run 1 rfl ?_
    refine D.st rfl (by decide) (gf_1 h82_4) ?_
    refine D.run 3 rfl ?_
    refine D.gd fun hg => ?_
    refine D.st rfl (by decide) (as_i (by decide) (by first | rfl | decide) hg.1 hg.2) ?_
    show _ → Rn E 209 (43, [.ref 82, .int a1, .int a2, .int (q1 126 8), .int (q1 82 13), .int q2.1, us, us], [], wT (up2 q3 (126 + 15) (q1 126 8).toNatClampNeg a1) R) o w
    refine D.run 1 rfl ?_
    refine D.st rfl (by decide) (gf_1 h82_4) ?_
    refine D.run 3 rfl ?_
    refine D.gd fun hg => ?_
    refine D.st rfl (by decide) (as_i (by decide) (by first | rfl | decide) hg.1 hg.2) ?_
    show _ → Rn E 209 (54, [.ref 82, .int a1, .int a2, .int (q1 126 8), .int (q1 82 13), .int q2.1, us, us], [], wT (up2 (up2 q3 (126 + 15) (q1 126 8).toNatClampNeg a1) (126 + 16) (q1 126 8).toNatClampNeg q2.1) R) o w
    refine D.run 1 rfl ?_
    refine D.st rfl (by decide) (gf_1 h82_4) ?_
    refine D.run 3 rfl ?_
    refine D.gd fun hg => ?_
    refine D.st rfl (by decide) (as_i (by decide) (by first | rfl | decide) hg.1 hg.2) ?_
    refine D.letS (fun J4 => ?_)
    show _ → Rn E 209 (65, [.ref 82, .int a1, .int a2, .int (q1 126 8), .int (q1 82 13), .int q2.1, us, us], [], wT J4 R) o w
    refine D.run 1 rfl ?_
    refine D.st rfl (by decide) (gf_1 h82_4) ?_
    refine D.run 3 rfl ?_
    refine D.gd fun hg => ?_
    refine D.st rfl (by decide) (as_z (by decide) (by first | rfl | decide) hg.1 hg.2) ?_
    show _ → Rn E 209 (75, [.ref 82, .int a1, .int a2, .int (q1 126 8), .int (q1 82 13), .int q2.1, us, us], [], wT (up2 J4 (126 + 25) (q1 126 8).toNatClampNeg (vp_nar .boolean a2)) R) o w
    refine D.run 1 rfl ?_
    refine D.st rfl (by decide) (gf_1 h82_4) ?_
    refine D.run 3 rfl ?_
    refine D.gd fun hg => ?_
    refine D.st rfl (by decide) (as_i (by decide) (by first | rfl | decide) hg.1 hg.2) ?_
    refine D.letS (fun J5 => ?_)
    show _ → Rn E 209 (85, [.ref 82, .int a1, .int a2, .int (q1 126 8), .int (q1 82 13), .int q2.1, us, us], [], wT J5 R) o w
    refine D.run 1 rfl ?_
    refine D.st rfl (by decide) (gf_1 h82_4) ?_
    refine D.run 3 rfl ?_
    refine D.gd fun hg => ?_
    refine D.st rfl (by decide) (as_i (by decide) (by first | rfl | decide) hg.1 hg.2) ?_
    show _ → Rn E 209 (95, [.ref 82, .int a1, .int a2, .int (q1 126 8), .int (q1 82 13), .int q2.1, us, us], [], wT (up2 J5 (126 + 19) (q1 126 8).toNatClampNeg 0) R) o w
    refine D.run 1 rfl ?_
    refine D.st rfl (by decide) (gf_1 h82_4) ?_
    refine D.run 5 rfl ?_
    refine D.letS (fun J6 => ?_)
    refine D.run 2 rfl ?_
    refine D.ct rfl rfl rfl rfl rfl (fun q h => x204_ok h) (fun J h => x204_thr h) (fun J h => hX _ (D.some h)) (fun q7 => ?_)
    show _ → Rn E 209 (114, [.ref 82, .int a1, .int a2, .int (q1 126 8), .int (q1 82 13), .int q2.1, us, us], [], wT q7 R) o w
    refine D.run 2 rfl ?_
    refine D.call rfl rfl rfl rfl (fun q h => x203_ok h) (fun q8 => ?_)
    refine D.br rfl (by decide) rfl (fun hc => ?_) (fun hc => ?_)
    · refine D.run 2 rfl ?_
      refine D.ct rfl rfl rfl rfl rfl (fun q h => x210_ok (by decide) h82_4 h) (fun J h => x210_thr (by decide) h82_4 h) (fun J h => hX _ (D.some h)) (fun q9 => ?_)
      refine D.bind (l209_128_ok (by decide) h82_4 (fun r h => hT _ (D.some h)) (fun r h => hX _ (D.some h)) (fun q13 e14 he14 e15 he15 e16 he16 e17 he17 e18 he18 e19 he19 => ?_) 100000  _ _ _ _ _ _ _ (by first | rfl | assumption) (by first | rfl | assumption) (by first | rfl | assumption) (by first | rfl | assumption) (by first | rfl | assumption) (by first | rfl | assumption))
      refine D.inl ?_
      refine D.run 2 rfl ?_
      refine D.ct rfl rfl rfl rfl rfl (fun q h => x204_ok h) (fun J h => x204_thr h) (fun J h => hX _ (D.some h)) (fun q20 => ?_)
      refine D.run 1 rfl ?_
      refine D.st rfl (by decide) (gf_1 h82_4) ?_
      refine D.run 4 rfl ?_
      refine D.ct rfl rfl rfl rfl rfl (fun q h => x207_ok h) (fun J h => x207_thr h) (fun J h => hX _ (D.some h)) (fun q21 => ?_)
      show _ → Rn E 209 (191, [.ref 82, e14, e15, .int (q1 126 8), e16, e17, e18, e19], [.int q21.1, .int (q1 126 8), .ref (126 + 20)], wT q21.2 R) o w
      refine D.gd fun hg => ?_
      refine D.st rfl (by decide) (as_i (by decide) (by first | rfl | decide) hg.1 hg.2) ?_
      refine D.run 2 rfl ?_
      refine D.ct rfl rfl rfl rfl rfl (fun q h => x204_ok h) (fun J h => x204_thr h) (fun J h => hX _ (D.some h)) (fun q22 => ?_)
      refine D.run 1 rfl ?_
      refine D.st rfl (by decide) (gf_1 h82_4) ?_
      show _ → Rn E 209 (202, [.ref 82, e14, e15, .int (q1 126 8), e16, e17, e18, e19], [.ref 126], wT q22 R) o w
      refine D.run 3 rfl ?_
      refine D.st rfl (by decide) (gf_1 h82_4) ?_
      refine D.run 1 rfl ?_
      refine D.gd fun hg => ?_
      refine D.st rfl (by decide) (as_i (by decide) (by first | rfl | decide) hg.1 hg.2) ?_
      show _ → Rn E 209 (214, [.ref 82, e14, e15, .int (q1 126 8), e16, e17, e18, e19], [], wT (up2 q22 (126 + 21) (q1 126 8).toNatClampNeg (q22 126 9)) R) o w
      refine D.run 1 rfl ?_
      refine D.st rfl (by decide) (ist_d rfl (by first | rfl | assumption) rfl) ?_
      refine D.bind (l209_217_ok (by decide) h82_4 (fun r h => hT _ (D.some h)) (fun r h => hX _ (D.some h)) (fun q31 e32 he32 e33 he33 e34 he34 e35 he35 e36 he36 e37 he37 => ?_) 100000 _ _ _ _ _ _ _ (by first | rfl | assumption) (by first | rfl | assumption) (by first | rfl | assumption) (by first | rfl | assumption) (by first | rfl | assumption))
      refine D.inl ?_
      refine D.run 1 rfl ?_
      refine D.st rfl (by decide) (gf_1 h82_4) ?_
      refine D.run 3 rfl ?_
      refine D.st rfl (by decide) (gf_1 h82_4) ?_
      refine D.run 2 rfl ?_
      refine D.st rfl (by decide) (gf_1 h82_4) ?_
      show _ → Rn E 209 (381, [.ref 82, e32, e33, .int (q1 126 8), e34, e35, e36, e37], [.ref 126, .int (q31 126 9), .int (q1 126 8), .ref (126 + 22)], wT q31 R) o w
      refine D.run 2 rfl ?_
      refine D.gd fun hg => ?_
      refine D.st rfl (by decide) (al_i (by decide) (by first | rfl | decide) hg.1 hg.2) ?_
      refine D.run 1 rfl ?_
      refine D.gd fun hg => ?_
      refine D.st rfl (by decide) (as_i (by decide) (by first | rfl | decide) hg.1 hg.2) ?_
      refine D.letS (fun J38 => ?_)
      show _ → Rn E 209 (388, [.ref 82, e32, e33, .int (q1 126 8), e34, e35, e36, e37], [], wT J38 R) o w
      refine D.run 1 rfl ?_
      refine D.st rfl (by decide) (gf_1 h82_4) ?_
      refine D.run 4 rfl ?_
      refine D.gd fun hg => ?_
      refine D.st rfl (by decide) (as_i (by decide) (by first | rfl | decide) hg.1 hg.2) ?_
      show _ → Rn E 209 (401, [.ref 82, e32, e33, .int (q1 126 8), e34, e35, e36, e37], [], wT (up2 J38 (126 + 23) (q1 126 8).toNatClampNeg (J38 82 13)) R) o w
      refine D.run 1 rfl ?_
      refine D.call rfl rfl rfl rfl (fun q h => x192_ok h) (fun q39 => ?_)
      exact fun h => by obtain ⟨rfl, rfl⟩ := hT _ (D.some h); exact Rn.ret rfl rfl rfl
    · refine D.run 2 rfl ?_
      refine D.ct rfl rfl rfl rfl rfl (fun q h => x204_ok h) (fun J h => x204_thr h) (fun J h => hX _ (D.some h)) (fun q40 => ?_)
      refine D.run 1 rfl ?_
      refine D.st rfl (by decide) (gf_1 h82_4) ?_
      refine D.run 4 rfl ?_
      refine D.ct rfl rfl rfl rfl rfl (fun q h => x207_ok h) (fun J h => x207_thr h) (fun J h => hX _ (D.some h)) (fun q41 => ?_)
      show _ → Rn E 209 (191, [.ref 82, .int a1, .int a2, .int (q1 126 8), .int (q1 82 13), .int q2.1, us, us], [.int q41.1, .int (q1 126 8), .ref (126 + 20)], wT q41.2 R) o w
      refine D.gd fun hg => ?_
      refine D.st rfl (by decide) (as_i (by decide) (by first | rfl | decide) hg.1 hg.2) ?_
      refine D.run 2 rfl ?_
      refine D.ct rfl rfl rfl rfl rfl (fun q h => x204_ok h) (fun J h => x204_thr h) (fun J h => hX _ (D.some h)) (fun q42 => ?_)
      refine D.run 1 rfl ?_
      refine D.st rfl (by decide) (gf_1 h82_4) ?_
      show _ → Rn E 209 (202, [.ref 82, .int a1, .int a2, .int (q1 126 8), .int (q1 82 13), .int q2.1, us, us], [.ref 126], wT q42 R) o w
      refine D.run 3 rfl ?_
      refine D.st rfl (by decide) (gf_1 h82_4) ?_
      refine D.run 1 rfl ?_
      refine D.gd fun hg => ?_
      refine D.st rfl (by decide) (as_i (by decide) (by first | rfl | decide) hg.1 hg.2) ?_
      show _ → Rn E 209 (214, [.ref 82, .int a1, .int a2, .int (q1 126 8), .int (q1 82 13), .int q2.1, us, us], [], wT (up2 q42 (126 + 21) (q1 126 8).toNatClampNeg (q42 126 9)) R) o w
      refine D.run 2 rfl ?_
      refine D.bind (l209_217_ok (by decide) h82_4 (fun r h => hT _ (D.some h)) (fun r h => hX _ (D.some h)) (fun q43 e44 he44 e45 he45 e46 he46 e47 he47 e48 he48 e49 he49 => ?_) 100000 _ _ _ _ _ _ _ (by first | rfl | assumption) (by first | rfl | assumption) (by first | rfl | assumption) (by first | rfl | assumption) (by first | rfl | assumption))
      refine D.inl ?_
      refine D.run 1 rfl ?_
      refine D.st rfl (by decide) (gf_1 h82_4) ?_
      refine D.run 3 rfl ?_
      refine D.st rfl (by decide) (gf_1 h82_4) ?_
      refine D.run 2 rfl ?_
      refine D.st rfl (by decide) (gf_1 h82_4) ?_
      show _ → Rn E 209 (381, [.ref 82, e44, e45, .int (q1 126 8), e46, e47, e48, e49], [.ref 126, .int (q43 126 9), .int (q1 126 8), .ref (126 + 22)], wT q43 R) o w
      refine D.run 2 rfl ?_
      refine D.gd fun hg => ?_
      refine D.st rfl (by decide) (al_i (by decide) (by first | rfl | decide) hg.1 hg.2) ?_
      refine D.run 1 rfl ?_
      refine D.gd fun hg => ?_
      refine D.st rfl (by decide) (as_i (by decide) (by first | rfl | decide) hg.1 hg.2) ?_
      refine D.letS (fun J50 => ?_)
      show _ → Rn E 209 (388, [.ref 82, e44, e45, .int (q1 126 8), e46, e47, e48, e49], [], wT J50 R) o w
      refine D.run 1 rfl ?_
      refine D.st rfl (by decide) (gf_1 h82_4) ?_
      refine D.run 4 rfl ?_
      refine D.gd fun hg => ?_
      refine D.st rfl (by decide) (as_i (by decide) (by first | rfl | decide) hg.1 hg.2) ?_
      show _ → Rn E 209 (401, [.ref 82, e44, e45, .int (q1 126 8), e46, e47, e48, e49], [], wT (up2 J50 (126 + 23) (q1 126 8).toNatClampNeg (J50 82 13)) R) o w
      refine D.run 1 rfl ?_
      refine D.call rfl rfl rfl rfl (fun q h => x192_ok h) (fun q51 => ?_)
      exact fun h => by obtain ⟨rfl, rfl⟩ := hT _ (D.some h); exact Rn.ret rfl rfl rfl
set_option maxRecDepth 20000 in
set_option maxHeartbeats 30000000 in
theorem x209_ok {E : Xe} {R : Nat → Nat → Option Nat} {Z : Nat} {I : St} (hZ : Z = 85 ∨ Z = 126) (h82_4 : R 82 4 = some Z) {a1 a2 : Int32} {q : St} (h : x209 Z I a1 a2 = some (.inr q)) : Rn E 209 (0, loc0 209 [.ref 82, .int a1, .int a2], [], wT I R) (.returned none) (wT q R) := x209_D hZ h82_4 _ _ (T := fun r => r = .inr q) (by rintro r h; cases h; exact ⟨rfl, rfl⟩) (by rintro J h; cases h) ⟨_, h, rfl⟩
set_option maxRecDepth 20000 in
set_option maxHeartbeats 30000000 in
theorem x209_thr {E : Xe} {R : Nat → Nat → Option Nat} {Z : Nat} {I : St} (hZ : Z = 85 ∨ Z = 126) (h82_4 : R 82 4 = some Z) {a1 a2 : Int32} {J : St} (h : x209 Z I a1 a2 = some (.inl J)) : Rn E 209 (0, loc0 209 [.ref 82, .int a1, .int a2], [], wT I R) (.threw 84) (wT J R) := x209_D hZ h82_4 _ _ (T := fun r => r = .inl J) (by rintro r h; cases h) (by rintro K h; cases h; exact ⟨rfl, rfl⟩) ⟨_, h, rfl⟩
/-- TaintHouseModel.check(I)V -/
def l226_27 (Z : Nat) (b1 : Int32) (b2 : Int32) : Nat → Int32 → St → Option (St)
  | 0, _, _ => none
  | n + 1, b3, I => if b2 ≤ b3 then some I else if inb b3 100 then if inb b3 100 then Lt (up2 (up2 I 175 b3.toNatClampNeg (vp_nar .boolean 0)) 176 b3.toNatClampNeg (vp_nar .boolean 0)) fun J2 => l226_27 Z b1 b2 n (b3 + 1) J2 else none else none
set_option maxRecDepth 20000 in
set_option maxHeartbeats 30000000 in
theorem l226_27_ok {E : Xe} {R : Nat → Nat → Option Nat} {Z : Nat} {o : Outcome} {w : Wd} {T : (St) → Prop} {b1 : Int32} {b2 : Int32} (hZ : Z = 85 ∨ Z = 126) (h82_4 : R 82 4 = some Z) (K : ∀ (q : St) (e3 : Value) (_ : is1 e3 = true) (e4 : Value) (_ : is1 e4 = true), T q → Rn E 226 (52, [.ref 82, .int b1, .int b2, e3, e4], [], wT q R) o w) : ∀ (n : Nat) (b3 : Int32) (d4 : Value) (I : St), is1 d4 = true → Dq (l226_27 Z b1 b2 n b3 I) T → Rn E 226 (27, [.ref 82, .int b1, .int b2, .int b3, d4], [], wT I R) o w := by
  rcases hZ with rfl | rfl
  all_goals
    intro n
    induction n with
    | zero => intro b3 d4 I hd4; exact D.none
    | succ n ih =>
      intro b3 d4 I hd4
      rw [l226_27]
      refine D.run 2 rfl ?_
      refine D.br rfl (by decide) rfl (fun hc => ?_) (fun hc => ?_)
      · exact fun h => D.to h (K _ _ (by first | rfl | assumption) _ (by first | rfl | assumption))
      · refine D.run 4 rfl ?_
        refine D.gd fun hg => ?_
        refine D.st rfl (by decide) (as_z (by decide) (by first | rfl | decide) hg.1 hg.2) ?_
        refine D.run 4 rfl ?_
        refine D.gd fun hg => ?_
        refine D.st rfl (by decide) (as_z (by decide) (by first | rfl | decide) hg.1 hg.2) ?_
        refine D.letS (fun J2 => ?_)
        show _ → Rn E 226 (46, [.ref 82, .int b1, .int b2, .int b3, d4], [], wT J2 R) o w
        refine D.run 2 rfl ?_
        exact ih _ _ _ (by first | rfl | assumption)
def l226_73 (Z : Nat) (b1 : Int32) (b2 : Int32) (b3 : Int32) : Nat → Int32 → St → Option (St)
  | 0, _, _ => none
  | n + 1, b4, I => if 16 ≤ b4 then some I else if inb b4 16 then l226_73 Z b1 b2 b3 n (b4 + 1) (up2 I 180 b4.toNatClampNeg 4) else none
set_option maxRecDepth 20000 in
set_option maxHeartbeats 30000000 in
theorem l226_73_ok {E : Xe} {R : Nat → Nat → Option Nat} {Z : Nat} {o : Outcome} {w : Wd} {T : (St) → Prop} {b1 : Int32} {b2 : Int32} {b3 : Int32} (hZ : Z = 85 ∨ Z = 126) (h82_4 : R 82 4 = some Z) (K : ∀ (q : St) (e4 : Value) (_ : is1 e4 = true), T q → Rn E 226 (94, [.ref 82, .int b1, .int b2, .int b3, e4], [], wT q R) o w) : ∀ (n : Nat) (b4 : Int32) (I : St), Dq (l226_73 Z b1 b2 b3 n b4 I) T → Rn E 226 (73, [.ref 82, .int b1, .int b2, .int b3, .int b4], [], wT I R) o w := by
  rcases hZ with rfl | rfl
  all_goals
    intro n
    induction n with
    | zero => intro b4 I; exact D.none
    | succ n ih =>
      intro b4 I
      rw [l226_73]
      refine D.run 2 rfl ?_
      refine D.br rfl (by decide) rfl (fun hc => ?_) (fun hc => ?_)
      · exact fun h => D.to h (K _ _ (by first | rfl | assumption))
      · refine D.run 4 rfl ?_
        refine D.gd fun hg => ?_
        refine D.st rfl (by decide) (as_i (by decide) (by first | rfl | decide) hg.1 hg.2) ?_
        refine D.run 2 rfl ?_
        exact ih _ _ 
def l226_109 (Z : Nat) (b1 : Int32) (b2 : Int32) (b3 : Int32) : Nat → Int32 → St → Option (St)
  | 0, _, _ => none
  | n + 1, b4, I => if inb b1 24 then if (I (Z + 18) b1.toNatClampNeg) ≤ b4 then some I else if inb b1 24 then if (((I (Z + 19) b1.toNatClampNeg) >>> (b4 &&& 31)) &&& 1) = 1 then if inb (b4 + b3) 16 then l226_109 Z b1 b2 b3 n (b4 + 1) (up2 I 180 (b4 + b3).toNatClampNeg 2) else none else if inb (b4 + b3) 16 then l226_109 Z b1 b2 b3 n (b4 + 1) (up2 I 180 (b4 + b3).toNatClampNeg 1) else none else none else none
set_option maxRecDepth 20000 in
set_option maxHeartbeats 30000000 in
theorem l226_109_ok {E : Xe} {R : Nat → Nat → Option Nat} {Z : Nat} {o : Outcome} {w : Wd} {T : (St) → Prop} {b1 : Int32} {b2 : Int32} {b3 : Int32} (hZ : Z = 85 ∨ Z = 126) (h82_4 : R 82 4 = some Z) (K : ∀ (q : St) (e1 : Value) (_ : is1 e1 = true) (e3 : Value) (_ : is1 e3 = true) (e4 : Value) (_ : is1 e4 = true), T q → Rn E 226 (161, [.ref 82, e1, .int b2, e3, e4], [], wT q R) o w) : ∀ (n : Nat) (b4 : Int32) (I : St), Dq (l226_109 Z b1 b2 b3 n b4 I) T → Rn E 226 (109, [.ref 82, .int b1, .int b2, .int b3, .int b4], [], wT I R) o w := by
  rcases hZ with rfl | rfl
  · intro n
    induction n with
    | zero => intro b4 I; exact D.none
    | succ n ih =>
      intro b4 I
      rw [l226_109]
      refine D.run 2 rfl ?_
      refine D.st rfl (by decide) (gf_1 h82_4) ?_
      refine D.run 2 rfl ?_
      refine D.gd fun hg => ?_
      refine D.st rfl (by decide) (al_i (by decide) (by first | rfl | decide) hg.1 hg.2) ?_
      show _ → Rn E 226 (120, [.ref 82, .int b1, .int b2, .int b3, .int b4], [.int (I (85 + 18) b1.toNatClampNeg), .int b4], wT I R) o w
      refine D.br rfl (by decide) rfl (fun hc => ?_) (fun hc => ?_)
      · exact fun h => D.to h (K _ _ (by first | rfl | assumption) _ (by first | rfl | assumption) _ (by first | rfl | assumption))
      · refine D.run 6 rfl ?_
        refine D.st rfl (by decide) (gf_1 h82_4) ?_
        refine D.run 2 rfl ?_
        refine D.gd fun hg => ?_
        refine D.st rfl (by decide) (al_i (by decide) (by first | rfl | decide) hg.1 hg.2) ?_
        show _ → Rn E 226 (140, [.ref 82, .int b1, .int b2, .int b3, .int b4], [.int (I (85 + 19) b1.toNatClampNeg), .int (b4 + b3), .ref 180], wT I R) o w
        refine D.run 5 rfl ?_
        refine D.br rfl (by decide) rfl (fun hc => ?_) (fun hc => ?_)
        · refine D.run 2 rfl ?_
          refine D.gd fun hg => ?_
          refine D.st rfl (by decide) (as_i (by decide) (by first | rfl | decide) hg.1 hg.2) ?_
          refine D.run 2 rfl ?_
          exact ih _ _ 
        · refine D.run 1 rfl ?_
          refine D.gd fun hg => ?_
          refine D.st rfl (by decide) (as_i (by decide) (by first | rfl | decide) hg.1 hg.2) ?_
          refine D.run 2 rfl ?_
          exact ih _ _ 
  · intro n
    induction n with
    | zero => intro b4 I; exact D.none
    | succ n ih =>
      intro b4 I
      rw [l226_109]
      refine D.run 2 rfl ?_
      refine D.st rfl (by decide) (gf_1 h82_4) ?_
      refine D.run 2 rfl ?_
      refine D.gd fun hg => ?_
      refine D.st rfl (by decide) (al_i (by decide) (by first | rfl | decide) hg.1 hg.2) ?_
      show _ → Rn E 226 (120, [.ref 82, .int b1, .int b2, .int b3, .int b4], [.int (I (126 + 18) b1.toNatClampNeg), .int b4], wT I R) o w
      refine D.br rfl (by decide) rfl (fun hc => ?_) (fun hc => ?_)
      · exact fun h => D.to h (K _ _ (by first | rfl | assumption) _ (by first | rfl | assumption) _ (by first | rfl | assumption))
      · refine D.run 6 rfl ?_
        refine D.st rfl (by decide) (gf_1 h82_4) ?_
        refine D.run 2 rfl ?_
        refine D.gd fun hg => ?_
        refine D.st rfl (by decide) (al_i (by decide) (by first | rfl | decide) hg.1 hg.2) ?_
        show _ → Rn E 226 (140, [.ref 82, .int b1, .int b2, .int b3, .int b4], [.int (I (126 + 19) b1.toNatClampNeg), .int (b4 + b3), .ref 180], wT I R) o w
        refine D.run 5 rfl ?_
        refine D.br rfl (by decide) rfl (fun hc => ?_) (fun hc => ?_)
        · refine D.run 2 rfl ?_
          refine D.gd fun hg => ?_
          refine D.st rfl (by decide) (as_i (by decide) (by first | rfl | decide) hg.1 hg.2) ?_
          refine D.run 2 rfl ?_
          exact ih _ _ 
        · refine D.run 1 rfl ?_
          refine D.gd fun hg => ?_
          refine D.st rfl (by decide) (as_i (by decide) (by first | rfl | decide) hg.1 hg.2) ?_
          refine D.run 2 rfl ?_
          exact ih _ _ 
def l226_175 (Z : Nat) (b2 : Int32) : Nat → Int32 → St → Option (St)
  | 0, _, _ => none
  | n + 1, b4, I => if b4 = (-1) then some I else if (I 82 22) = 0 then if inb b4 100 then (x230 Z (up2 I 176 b4.toNatClampNeg (vp_nar .boolean 0)) b4).bind fun q16 => (x229 q16 b2).bind fun q17 => l226_175 Z b2 n q17 q16 else none else some I
set_option maxRecDepth 20000 in
set_option maxHeartbeats 30000000 in
theorem l226_175_ok {E : Xe} {R : Nat → Nat → Option Nat} {Z : Nat} {o : Outcome} {w : Wd} {T : (St) → Prop} {b2 : Int32} (hZ : Z = 85 ∨ Z = 126) (h82_4 : R 82 4 = some Z) (K : ∀ (q : St) (e1 : Value) (_ : is1 e1 = true) (e2 : Value) (_ : is1 e2 = true) (e3 : Value) (_ : is1 e3 = true) (e4 : Value) (_ : is1 e4 = true), T q → Rn E 226 (212, [.ref 82, e1, e2, e3, e4], [], wT q R) o w) : ∀ (n : Nat) (b4 : Int32) (d1 : Value) (d3 : Value) (I : St), is1 d1 = true → is1 d3 = true → Dq (l226_175 Z b2 n b4 I) T → Rn E 226 (175, [.ref 82, d1, .int b2, d3, .int b4], [], wT I R) o w := by
  rcases hZ with rfl | rfl
  all_goals
    intro n
    induction n with
    | zero => intro b4 d1 d3 I hd1 hd3; exact D.none
    | succ n ih =>
      intro b4 d1 d3 I hd1 hd3
      rw [l226_175]
      refine D.run 2 rfl ?_
      refine D.br rfl (by decide) rfl (fun hc => ?_) (fun hc => ?_)
      · exact fun h => D.to h (K _ _ (by first | rfl | assumption) _ (by first | rfl | assumption) _ (by first | rfl | assumption) _ (by first | rfl | assumption))
      · refine D.run 2 rfl ?_
        refine D.br rfl (by decide) rfl (fun hc => ?_) (fun hc => ?_)
        · refine D.run 4 rfl ?_
          refine D.gd fun hg => ?_
          refine D.st rfl (by decide) (as_z (by decide) (by first | rfl | decide) hg.1 hg.2) ?_
          refine D.run 2 rfl ?_
          refine D.call rfl rfl rfl rfl (fun q h => x230_ok (by decide) h82_4 h) (fun q16 => ?_)
          show _ → Rn E 226 (202, [.ref 82, d1, .int b2, d3, .int b4], [], wT q16 R) o w
          refine D.run 2 rfl ?_
          refine D.call rfl rfl rfl rfl (fun q h => x229_ok h) (fun q17 => ?_)
          refine D.st rfl (by decide) (ist_d rfl (by first | rfl | assumption) rfl) ?_
          refine D.run 1 rfl ?_
          exact ih _ _ _ _ (by first | rfl | assumption) (by first | rfl | assumption)
        · exact fun h => D.to h (K _ _ (by first | rfl | assumption) _ (by first | rfl | assumption) _ (by first | rfl | assumption) _ (by first | rfl | assumption))
def x226 (Z : Nat) (I : St) (a1 : Int32) : Option (St) := if inb a1 24 then if inb a1 24 then Lt ((up2 (up2 I 82 32 a1) (Z + 24) a1.toNatClampNeg 0) (Z + 22) a1.toNatClampNeg) fun v1 => (l226_27 Z a1 v1 100000 0 (up2 (up2 I 82 32 a1) (Z + 24) a1.toNatClampNeg 0)).bind fun q3 => if inb a1 24 then (if (q3 (Z + 25) a1.toNatClampNeg) = 0 then some 0 else some 1).bind fun (q6 : Int32) => (l226_73 Z a1 v1 q6 100000 0 q3).bind fun q7 => (if q6 = 1 then if inb 0 16 then some (up2 q7 180 0 2) else none else some q7).bind fun (q9 : St) => (l226_109 Z a1 v1 q6 100000 0 q9).bind fun q10 => (x227 Z q10 0 0 0).bind fun q14 => (x229 q14 v1).bind fun q15 => (l226_175 Z v1 100000 q15 q14).bind fun q18 => some q18 else none else none else none
set_option maxRecDepth 20000 in
set_option maxHeartbeats 30000000 in
theorem x226_D {E : Xe} {R : Nat → Nat → Option Nat} {Z : Nat} {o : Outcome} {w : Wd} {T : (St) → Prop} {I : St} (hZ : Z = 85 ∨ Z = 126) (h82_4 : R 82 4 = some Z) (a1 : Int32) (hT : ∀ r, T r → o = .returned none ∧ w = wT r R) : Dq (x226 Z I a1) T → Rn E 226 (0, loc0 226 [.ref 82, .int a1], [], wT I R) o w := by
  unfold x226
  rcases hZ with rfl | rfl
  · refine D.run 4 rfl ?_
    refine D.st rfl (by decide) (gf_1 h82_4) ?_
    refine D.run 3 rfl ?_
    refine D.gd fun hg => ?_
    refine D.st rfl (by decide) (as_i (by decide) (by first | rfl | decide) hg.1 hg.2) ?_
    show _ → Rn E 226 (15, [.ref 82, .int a1, us, us, us], [], wT (up2 (up2 I 82 32 a1) (85 + 24) a1.toNatClampNeg 0) R) o w
    refine D.run 1 rfl ?_
    refine D.st rfl (by decide) (gf_1 h82_4) ?_
    refine D.run 2 rfl ?_
    refine D.gd fun hg => ?_
    refine D.st rfl (by decide) (al_i (by decide) (by first | rfl | decide) hg.1 hg.2) ?_
    show _ → Rn E 226 (24, [.ref 82, .int a1, us, us, us], [.int ((up2 (up2 I 82 32 a1) (85 + 24) a1.toNatClampNeg 0) (85 + 22) a1.toNatClampNeg)], wT (up2 (up2 I 82 32 a1) (85 + 24) a1.toNatClampNeg 0) R) o w
    refine D.run 1 rfl ?_
    refine D.letV (frame := fun v1 => (25, [.ref 82, .int a1, .int v1, us, us], [], wT (up2 (up2 I 82 32 a1) (85 + 24) a1.toNatClampNeg 0) R)) (fun v1 => ?_)
    refine D.run 2 rfl ?_
    refine D.bind (l226_27_ok (by decide) h82_4 (fun q3 e4 he4 e5 he5 => ?_) 100000 _ _ _ (by first | rfl | assumption))
    refine D.run 1 rfl ?_
    refine D.st rfl (by decide) (gf_1 h82_4) ?_
    refine D.run 2 rfl ?_
    refine D.gd fun hg => ?_
    refine D.st rfl (by decide) (al_b (by decide) (by first | rfl | decide) hg.1 hg.2) ?_
    show _ → Rn E 226 (61, [.ref 82, .int a1, .int v1, e4, e5], [.int (q3 (85 + 25) a1.toNatClampNeg)], wT q3 R) o w
    have Kj69 : ∀ (q6 : Int32), Dq ((l226_73 85 a1 v1 q6 100000 0 q3).bind fun q7 => (if q6 = 1 then if inb 0 16 then some (up2 q7 180 0 2) else none else some q7).bind fun (q9 : St) => (l226_109 85 a1 v1 q6 100000 0 q9).bind fun q10 => (x227 85 q10 0 0 0).bind fun q14 => (x229 q14 v1).bind fun q15 => (l226_175 85 v1 100000 q15 q14).bind fun q18 => some q18) T → Rn E 226 (69, [.ref 82, .int a1, .int v1, e4, e5], [.int q6], wT q3 R) o w := by
      intro q6
      refine D.run 3 rfl ?_
      refine D.bind (l226_73_ok (by decide) h82_4 (fun q7 e8 he8 => ?_) 100000 _  _ )
      refine D.run 2 rfl ?_
      have Kj106 : ∀ (q9 : St), Dq ((l226_109 85 a1 v1 q6 100000 0 q9).bind fun q10 => (x227 85 q10 0 0 0).bind fun q14 => (x229 q14 v1).bind fun q15 => (l226_175 85 v1 100000 q15 q14).bind fun q18 => some q18) T → Rn E 226 (106, [.ref 82, .int a1, .int v1, .int q6, e8], [], wT q9 R) o w := by
        intro q9
        refine D.run 2 rfl ?_
        refine D.bind (l226_109_ok (by decide) h82_4 (fun q10 e11 he11 e12 he12 e13 he13 => ?_) 100000 _  _ )
        refine D.run 4 rfl ?_
        refine D.call rfl rfl rfl rfl (fun q h => x227_ok (by decide) h82_4 h) (fun q14 => ?_)
        refine D.run 2 rfl ?_
        refine D.call rfl rfl rfl rfl (fun q h => x229_ok h) (fun q15 => ?_)
        refine D.st rfl (by decide) (ist_d rfl (by first | rfl | assumption) rfl) ?_
        refine D.bind (l226_175_ok (by decide) h82_4 (fun q18 e19 he19 e20 he20 e21 he21 e22 he22 => ?_) 100000 _ _ _ _ (by first | rfl | assumption) (by first | rfl | assumption))
        exact fun h => by obtain ⟨rfl, rfl⟩ := hT _ (D.some h); exact Rn.ret rfl rfl rfl
      refine D.jn (fun T106 c106 => ?_)
      refine D.br rfl (by decide) rfl (fun hc => ?_) (fun hc => ?_)
      · refine D.run 4 rfl ?_
        refine D.gd fun hg => ?_
        refine D.st rfl (by decide) (as_i (by decide) (by first | rfl | decide) hg.1 hg.2) ?_
        exact fun h => Kj106 _   (c106 _ (D.some h))
      · exact fun h => Kj106 _   (c106 _ (D.some h))
    refine D.jn (fun T69 c69 => ?_)
    refine D.br rfl (by decide) rfl (fun hc => ?_) (fun hc => ?_)
    · refine D.run 1 rfl ?_
      exact fun h => Kj69 _   (c69 _ (D.some h))
    · refine D.run 2 rfl ?_
      exact fun h => Kj69 _   (c69 _ (D.some h))
  · refine D.run 4 rfl ?_
    refine D.st rfl (by decide) (gf_1 h82_4) ?_
    refine D.run 3 rfl ?_
    refine D.gd fun hg => ?_
    refine D.st rfl (by decide) (as_i (by decide) (by first | rfl | decide) hg.1 hg.2) ?_
    show _ → Rn E 226 (15, [.ref 82, .int a1, us, us, us], [], wT (up2 (up2 I 82 32 a1) (126 + 24) a1.toNatClampNeg 0) R) o w
    refine D.run 1 rfl ?_
    refine D.st rfl (by decide) (gf_1 h82_4) ?_
    refine D.run 2 rfl ?_
    refine D.gd fun hg => ?_
    refine D.st rfl (by decide) (al_i (by decide) (by first | rfl | decide) hg.1 hg.2) ?_
    show _ → Rn E 226 (24, [.ref 82, .int a1, us, us, us], [.int ((up2 (up2 I 82 32 a1) (126 + 24) a1.toNatClampNeg 0) (126 + 22) a1.toNatClampNeg)], wT (up2 (up2 I 82 32 a1) (126 + 24) a1.toNatClampNeg 0) R) o w
    refine D.run 1 rfl ?_
    refine D.letV (frame := fun v1 => (25, [.ref 82, .int a1, .int v1, us, us], [], wT (up2 (up2 I 82 32 a1) (126 + 24) a1.toNatClampNeg 0) R)) (fun v1 => ?_)
    refine D.run 2 rfl ?_
    refine D.bind (l226_27_ok (by decide) h82_4 (fun q3 e4 he4 e5 he5 => ?_) 100000 _ _ _ (by first | rfl | assumption))
    refine D.run 1 rfl ?_
    refine D.st rfl (by decide) (gf_1 h82_4) ?_
    refine D.run 2 rfl ?_
    refine D.gd fun hg => ?_
    refine D.st rfl (by decide) (al_b (by decide) (by first | rfl | decide) hg.1 hg.2) ?_
    show _ → Rn E 226 (61, [.ref 82, .int a1, .int v1, e4, e5], [.int (q3 (126 + 25) a1.toNatClampNeg)], wT q3 R) o w
    have Kj69 : ∀ (q6 : Int32), Dq ((l226_73 126 a1 v1 q6 100000 0 q3).bind fun q7 => (if q6 = 1 then if inb 0 16 then some (up2 q7 180 0 2) else none else some q7).bind fun (q9 : St) => (l226_109 126 a1 v1 q6 100000 0 q9).bind fun q10 => (x227 126 q10 0 0 0).bind fun q14 => (x229 q14 v1).bind fun q15 => (l226_175 126 v1 100000 q15 q14).bind fun q18 => some q18) T → Rn E 226 (69, [.ref 82, .int a1, .int v1, e4, e5], [.int q6], wT q3 R) o w := by
      intro q6
      refine D.run 3 rfl ?_
      refine D.bind (l226_73_ok (by decide) h82_4 (fun q7 e8 he8 => ?_) 100000 _  _ )
      refine D.run 2 rfl ?_
      have Kj106 : ∀ (q9 : St), Dq ((l226_109 126 a1 v1 q6 100000 0 q9).bind fun q10 => (x227 126 q10 0 0 0).bind fun q14 => (x229 q14 v1).bind fun q15 => (l226_175 126 v1 100000 q15 q14).bind fun q18 => some q18) T → Rn E 226 (106, [.ref 82, .int a1, .int v1, .int q6, e8], [], wT q9 R) o w := by
        intro q9
        refine D.run 2 rfl ?_
        refine D.bind (l226_109_ok (by decide) h82_4 (fun q10 e11 he11 e12 he12 e13 he13 => ?_) 100000 _  _ )
        refine D.run 4 rfl ?_
        refine D.call rfl rfl rfl rfl (fun q h => x227_ok (by decide) h82_4 h) (fun q14 => ?_)
        refine D.run 2 rfl ?_
        refine D.call rfl rfl rfl rfl (fun q h => x229_ok h) (fun q15 => ?_)
        refine D.st rfl (by decide) (ist_d rfl (by first | rfl | assumption) rfl) ?_
        refine D.bind (l226_175_ok (by decide) h82_4 (fun q18 e19 he19 e20 he20 e21 he21 e22 he22 => ?_) 100000 _ _ _ _ (by first | rfl | assumption) (by first | rfl | assumption))
        exact fun h => by obtain ⟨rfl, rfl⟩ := hT _ (D.some h); exact Rn.ret rfl rfl rfl
      refine D.jn (fun T106 c106 => ?_)
      refine D.br rfl (by decide) rfl (fun hc => ?_) (fun hc => ?_)
      · refine D.run 4 rfl ?_
        refine D.gd fun hg => ?_
        refine D.st rfl (by decide) (as_i (by decide) (by first | rfl | decide) hg.1 hg.2) ?_
        exact fun h => Kj106 _   (c106 _ (D.some h))
      · exact fun h => Kj106 _   (c106 _ (D.some h))
    refine D.jn (fun T69 c69 => ?_)
    refine D.br rfl (by decide) rfl (fun hc => ?_) (fun hc => ?_)
    · refine D.run 1 rfl ?_
      exact fun h => Kj69 _   (c69 _ (D.some h))
    · refine D.run 2 rfl ?_
      exact fun h => Kj69 _   (c69 _ (D.some h))
set_option maxRecDepth 20000 in
set_option maxHeartbeats 30000000 in
theorem x226_ok {E : Xe} {R : Nat → Nat → Option Nat} {Z : Nat} {I : St} (hZ : Z = 85 ∨ Z = 126) (h82_4 : R 82 4 = some Z) {a1 : Int32} {q : St} (h : x226 Z I a1 = some q) : Rn E 226 (0, loc0 226 [.ref 82, .int a1], [], wT I R) (.returned none) (wT q R) := x226_D hZ h82_4 _ (T := fun r => r = q) (by rintro r rfl; exact ⟨rfl, rfl⟩) ⟨_, h, rfl⟩
/-- TaintHouseModel.act()V -/
def x238 (Q : Nat) (I : St) : Option (St) := if inb (I 82 64) 2400 then if (I (Q + 26) (I 82 64).toNatClampNeg) = 0 then if inb (I 82 64) 2400 then (x239 I (I (Q + 27) (I 82 64).toNatClampNeg) 0).bind fun q1 => some (up2 q1 82 64 ((I 82 64) + 1)) else none else if (I (Q + 26) (I 82 64).toNatClampNeg) = 1 then (x239 I 0 0).bind fun q2 => some (up2 q2 82 64 ((I 82 64) + 1)) else if (I (Q + 26) (I 82 64).toNatClampNeg) = 2 then if inb (I 82 64) 2400 then if inb ((16 * (I 82 55)) + (I (Q + 27) (I 82 64).toNatClampNeg)) 384 then if inb (I 82 64) 2400 then if inb ((16 * (I 82 55)) + (I (Q + 27) (I 82 64).toNatClampNeg)) 384 then (x239 I (I 196 ((16 * (I 82 55)) + (I (Q + 27) (I 82 64).toNatClampNeg)).toNatClampNeg) (I 197 ((16 * (I 82 55)) + (I (Q + 27) (I 82 64).toNatClampNeg)).toNatClampNeg)).bind fun q3 => some (up2 q3 82 64 ((I 82 64) + 1)) else none else none else none else none else if (I (Q + 26) (I 82 64).toNatClampNeg) = 3 then (x240 I).bind fun q4 => if inb (I 82 64) 2400 then if inb ((16 * (q4.2 82 55)) + (q4.2 (Q + 27) (I 82 64).toNatClampNeg)) 384 then Lt (up2 q4.2 196 ((16 * (q4.2 82 55)) + (q4.2 (Q + 27) (I 82 64).toNatClampNeg)).toNatClampNeg q4.1) fun J5 => if inb (I 82 64) 2400 then if inb ((16 * (J5 82 55)) + (J5 (Q + 27) (I 82 64).toNatClampNeg)) 384 then Lt (up2 J5 197 ((16 * (J5 82 55)) + (J5 (Q + 27) (I 82 64).toNatClampNeg)).toNatClampNeg (J5 82 66)) fun J6 => some (up2 J6 82 64 ((I 82 64) + 1)) else none else none else none else none else if (I (Q + 26) (I 82 64).toNatClampNeg) = 4 then if inb (I 82 64) 2400 then if inb ((16 * (I 82 55)) + (I (Q + 27) (I 82 64).toNatClampNeg)) 384 then if inb (I 82 64) 2400 then if inb ((16 * (I 82 55)) + (I (Q + 27) (I 82 64).toNatClampNeg)) 384 then Lt (up2 I 196 ((16 * (I 82 55)) + (I (Q + 27) (I 82 64).toNatClampNeg)).toNatClampNeg ((I 196 ((16 * (I 82 55)) + (I (Q + 27) (I 82 64).toNatClampNeg)).toNatClampNeg) + (I (Q + 31) (I 82 64).toNatClampNeg))) fun J7 => some (up2 J7 82 64 ((I 82 64) + 1)) else none else none else none else none else if (I (Q + 26) (I 82 64).toNatClampNeg) = 5 then (x240 I).bind fun q8 => (x239 q8.2 q8.1 (q8.2 82 66)).bind fun q9 => (x239 q9 q8.1 (q8.2 82 66)).bind fun q10 => some (up2 q10 82 64 ((I 82 64) + 1)) else if (I (Q + 26) (I 82 64).toNatClampNeg) = 6 then (x240 I).bind fun q11 => some (up2 q11.2 82 64 ((I 82 64) + 1)) else if (I (Q + 26) (I 82 64).toNatClampNeg) = 7 then (x240 I).bind fun q12 => (x240 q12.2).bind fun q13 => (x239 q13.2 q12.1 (q12.2 82 66)).bind fun q14 => (x239 q14 q13.1 (q13.2 82 66)).bind fun q15 => some (up2 q15 82 64 ((I 82 64) + 1)) else if (I (Q + 26) (I 82 64).toNatClampNeg) = 19 then (x240 I).bind fun q16 => (x239 q16.2 (-q16.1) (q16.2 82 66)).bind fun q17 => some (up2 q17 82 64 ((I 82 64) + 1)) else if (I (Q + 26) (I 82 64).toNatClampNeg) = 55 then if inb (I 82 64) 2400 then if inb (I (Q + 27) (I 82 64).toNatClampNeg) 16 then if inb (I 82 64) 2400 then (x239 I (I 168 (I (Q + 27) (I 82 64).toNatClampNeg).toNatClampNeg) (1 <<< ((I (Q + 27) (I 82 64).toNatClampNeg) &&& 31))).bind fun q18 => some (up2 q18 82 64 ((I 82 64) + 1)) else none else none else none else if (I (Q + 26) (I 82 64).toNatClampNeg) = 56 then if inb (I 82 64) 2400 then (x241 I (I (Q + 27) (I 82 64).toNatClampNeg)).bind fun q19 => some (up2 q19 82 64 ((I 82 64) + 1)) else none else if (I (Q + 26) (I 82 64).toNatClampNeg) = 57 then (x240 I).bind fun q20 => if inb (I 82 64) 2400 then (x239 q20.2 q20.1 ((q20.2 82 66) &&& ((q20.2 (Q + 27) (I 82 64).toNatClampNeg) ^^^ (-1)))).bind fun q21 => some (up2 q21 82 64 ((I 82 64) + 1)) else none else if (I (Q + 26) (I 82 64).toNatClampNeg) = 58 then (x240 I).bind fun q22 => if inb (I 82 64) 2400 then (x239 q22.2 q22.1 ((q22.2 82 66) ||| (q22.2 (Q + 27) (I 82 64).toNatClampNeg))).bind fun q23 => some (up2 q23 82 64 ((I 82 64) + 1)) else none else if (I (Q + 26) (I 82 64).toNatClampNeg) < 8 then if (I (Q + 26) (I 82 64).toNatClampNeg) < 20 then (x251 Q I (I 82 64) (I (Q + 26) (I 82 64).toNatClampNeg)).bind fun q24 => some q24 else if 36 < (I (Q + 26) (I 82 64).toNatClampNeg) then (x251 Q I (I 82 64) (I (Q + 26) (I 82 64).toNatClampNeg)).bind fun q25 => some q25 else (x249 Q I (I 82 64) (I (Q + 26) (I 82 64).toNatClampNeg)).bind fun q26 => some q26 else if 18 < (I (Q + 26) (I 82 64).toNatClampNeg) then if (I (Q + 26) (I 82 64).toNatClampNeg) < 20 then (x251 Q I (I 82 64) (I (Q + 26) (I 82 64).toNatClampNeg)).bind fun q27 => some q27 else if 36 < (I (Q + 26) (I 82 64).toNatClampNeg) then (x251 Q I (I 82 64) (I (Q + 26) (I 82 64).toNatClampNeg)).bind fun q28 => some q28 else (x249 Q I (I 82 64) (I (Q + 26) (I 82 64).toNatClampNeg)).bind fun q29 => some q29 else (x242 Q I (I 82 64) (I (Q + 26) (I 82 64).toNatClampNeg)).bind fun q30 => some q30 else none
set_option maxRecDepth 20000 in
set_option maxHeartbeats 30000000 in
theorem x238_D {E : Xe} {R : Nat → Nat → Option Nat} {Q : Nat} {o : Outcome} {w : Wd} {T : (St) → Prop} {I : St} (hQ : Q = 85 ∨ Q = 126) (h82_3 : R 82 3 = some Q) (hT : ∀ r, T r → o = .returned none ∧ w = wT r R) : Dq (x238 Q I) T → Rn E 238 (0, loc0 238 [.ref 82], [], wT I R) o w := by
  unfold x238
  rcases hQ with rfl | rfl
  · refine D.run 4 rfl ?_
    refine D.st rfl (by decide) (gf_1 h82_3) ?_
    refine D.run 2 rfl ?_
    refine D.gd fun hg => ?_
    refine D.st rfl (by decide) (al_i (by decide) (by first | rfl | decide) hg.1 hg.2) ?_
    show _ → Rn E 238 (14, [.ref 82, .int (I 82 64), us, us, us, us, us], [.int (I (85 + 26) (I 82 64).toNatClampNeg)], wT I R) o w
    refine D.run 2 rfl ?_
    refine D.sw rfl (by decide) rfl ?_
    show _ → Rn E 238 (swT [(0, 132), (1, 149), (2, 158), (3, 209), (4, 266), (5, 303), (6, 331), (7, 339), (19, 380), (55, 454), (56, 486), (57, 398), (58, 427)] 502 _, _, _, _) _ _
    refine D.swc (fun hc => ?_) (fun hc => ?_)
    · refine D.run 2 rfl ?_
      refine D.st rfl (by decide) (gf_1 h82_3) ?_
      refine D.run 2 rfl ?_
      refine D.gd fun hg => ?_
      refine D.st rfl (by decide) (al_i (by decide) (by first | rfl | decide) hg.1 hg.2) ?_
      show _ → Rn E 238 (142, [.ref 82, .int (I 82 64), .int (I (85 + 26) (I 82 64).toNatClampNeg), us, us, us, us], [.int (I (85 + 27) (I 82 64).toNatClampNeg), .ref 82], wT I R) o w
      refine D.run 1 rfl ?_
      refine D.call rfl rfl rfl rfl (fun q h => x239_ok h) (fun q1 => ?_)
      refine D.run 6 rfl ?_
      exact fun h => by obtain ⟨rfl, rfl⟩ := hT _ (D.some h); exact Rn.ret rfl rfl rfl
    · refine D.swc (fun hc => ?_) (fun hc => ?_)
      · refine D.run 3 rfl ?_
        refine D.call rfl rfl rfl rfl (fun q h => x239_ok h) (fun q2 => ?_)
        refine D.run 6 rfl ?_
        exact fun h => by obtain ⟨rfl, rfl⟩ := hT _ (D.some h); exact Rn.ret rfl rfl rfl
      · refine D.swc (fun hc => ?_) (fun hc => ?_)
        · refine D.run 8 rfl ?_
          refine D.st rfl (by decide) (gf_1 h82_3) ?_
          refine D.run 2 rfl ?_
          refine D.gd fun hg => ?_
          refine D.st rfl (by decide) (al_i (by decide) (by first | rfl | decide) hg.1 hg.2) ?_
          show _ → Rn E 238 (179, [.ref 82, .int (I 82 64), .int (I (85 + 26) (I 82 64).toNatClampNeg), us, us, us, us], [.int (I (85 + 27) (I 82 64).toNatClampNeg), .int (16 * (I 82 55)), .ref 196, .ref 82], wT I R) o w
          refine D.run 1 rfl ?_
          refine D.gd fun hg => ?_
          refine D.st rfl (by decide) (al_i (by decide) (by first | rfl | decide) hg.1 hg.2) ?_
          refine D.run 7 rfl ?_
          refine D.st rfl (by decide) (gf_1 h82_3) ?_
          show _ → Rn E 238 (196, [.ref 82, .int (I 82 64), .int (I (85 + 26) (I 82 64).toNatClampNeg), us, us, us, us], [.ref 85, .int (16 * (I 82 55)), .ref 197, .int (I 196 ((16 * (I 82 55)) + (I (85 + 27) (I 82 64).toNatClampNeg)).toNatClampNeg), .ref 82], wT I R) o w
          refine D.run 2 rfl ?_
          refine D.gd fun hg => ?_
          refine D.st rfl (by decide) (al_i (by decide) (by first | rfl | decide) hg.1 hg.2) ?_
          refine D.run 1 rfl ?_
          refine D.gd fun hg => ?_
          refine D.st rfl (by decide) (al_i (by decide) (by first | rfl | decide) hg.1 hg.2) ?_
          show _ → Rn E 238 (203, [.ref 82, .int (I 82 64), .int (I (85 + 26) (I 82 64).toNatClampNeg), us, us, us, us], [.int (I 197 ((16 * (I 82 55)) + (I (85 + 27) (I 82 64).toNatClampNeg)).toNatClampNeg), .int (I 196 ((16 * (I 82 55)) + (I (85 + 27) (I 82 64).toNatClampNeg)).toNatClampNeg), .ref 82], wT I R) o w
          refine D.call rfl rfl rfl rfl (fun q h => x239_ok h) (fun q3 => ?_)
          refine D.run 6 rfl ?_
          exact fun h => by obtain ⟨rfl, rfl⟩ := hT _ (D.some h); exact Rn.ret rfl rfl rfl
        · refine D.swc (fun hc => ?_) (fun hc => ?_)
          · refine D.run 1 rfl ?_
            refine D.call rfl rfl rfl rfl (fun q h => x240_ok h) (fun q4 => ?_)
            refine D.run 8 rfl ?_
            refine D.st rfl (by decide) (gf_1 h82_3) ?_
            refine D.run 2 rfl ?_
            refine D.gd fun hg => ?_
            refine D.st rfl (by decide) (al_i (by decide) (by first | rfl | decide) hg.1 hg.2) ?_
            show _ → Rn E 238 (234, [.ref 82, .int (I 82 64), .int (I (85 + 26) (I 82 64).toNatClampNeg), .int q4.1, us, us, us], [.int (q4.2 (85 + 27) (I 82 64).toNatClampNeg), .int (16 * (q4.2 82 55)), .ref 196], wT q4.2 R) o w
            refine D.run 2 rfl ?_
            refine D.gd fun hg => ?_
            refine D.st rfl (by decide) (as_i (by decide) (by first | rfl | decide) hg.1 hg.2) ?_
            refine D.letS (fun J5 => ?_)
            refine D.run 7 rfl ?_
            refine D.st rfl (by decide) (gf_1 h82_3) ?_
            show _ → Rn E 238 (252, [.ref 82, .int (I 82 64), .int (I (85 + 26) (I 82 64).toNatClampNeg), .int q4.1, us, us, us], [.ref 85, .int (16 * (J5 82 55)), .ref 197], wT J5 R) o w
            refine D.run 2 rfl ?_
            refine D.gd fun hg => ?_
            refine D.st rfl (by decide) (al_i (by decide) (by first | rfl | decide) hg.1 hg.2) ?_
            refine D.run 3 rfl ?_
            refine D.gd fun hg => ?_
            refine D.st rfl (by decide) (as_i (by decide) (by first | rfl | decide) hg.1 hg.2) ?_
            refine D.letS (fun J6 => ?_)
            show _ → Rn E 238 (263, [.ref 82, .int (I 82 64), .int (I (85 + 26) (I 82 64).toNatClampNeg), .int q4.1, us, us, us], [], wT J6 R) o w
            refine D.run 6 rfl ?_
            exact fun h => by obtain ⟨rfl, rfl⟩ := hT _ (D.some h); exact Rn.ret rfl rfl rfl
          · refine D.swc (fun hc => ?_) (fun hc => ?_)
            · refine D.run 7 rfl ?_
              refine D.st rfl (by decide) (gf_1 h82_3) ?_
              refine D.run 2 rfl ?_
              refine D.gd fun hg => ?_
              refine D.st rfl (by decide) (al_i (by decide) (by first | rfl | decide) hg.1 hg.2) ?_
              show _ → Rn E 238 (286, [.ref 82, .int (I 82 64), .int (I (85 + 26) (I 82 64).toNatClampNeg), us, us, us, us], [.int (I (85 + 27) (I 82 64).toNatClampNeg), .int (16 * (I 82 55)), .ref 196], wT I R) o w
              refine D.run 2 rfl ?_
              refine D.gd fun hg => ?_
              refine D.st rfl (by decide) (al_i (by decide) (by first | rfl | decide) hg.1 hg.2) ?_
              refine D.run 1 rfl ?_
              refine D.st rfl (by decide) (gf_1 h82_3) ?_
              show _ → Rn E 238 (293, [.ref 82, .int (I 82 64), .int (I (85 + 26) (I 82 64).toNatClampNeg), us, us, us, us], [.ref 85, .int (I 196 ((16 * (I 82 55)) + (I (85 + 27) (I 82 64).toNatClampNeg)).toNatClampNeg), .int ((16 * (I 82 55)) + (I (85 + 27) (I 82 64).toNatClampNeg)), .ref 196], wT I R) o w
              refine D.run 2 rfl ?_
              refine D.gd fun hg => ?_
              refine D.st rfl (by decide) (al_i (by decide) (by first | rfl | decide) hg.1 hg.2) ?_
              refine D.run 1 rfl ?_
              refine D.gd fun hg => ?_
              refine D.st rfl (by decide) (as_i (by decide) (by first | rfl | decide) hg.1 hg.2) ?_
              refine D.letS (fun J7 => ?_)
              show _ → Rn E 238 (300, [.ref 82, .int (I 82 64), .int (I (85 + 26) (I 82 64).toNatClampNeg), us, us, us, us], [], wT J7 R) o w
              refine D.run 6 rfl ?_
              exact fun h => by obtain ⟨rfl, rfl⟩ := hT _ (D.some h); exact Rn.ret rfl rfl rfl
            · refine D.swc (fun hc => ?_) (fun hc => ?_)
              · refine D.run 1 rfl ?_
                refine D.call rfl rfl rfl rfl (fun q h => x240_ok h) (fun q8 => ?_)
                refine D.run 7 rfl ?_
                refine D.call rfl rfl rfl rfl (fun q h => x239_ok h) (fun q9 => ?_)
                refine D.run 3 rfl ?_
                refine D.call rfl rfl rfl rfl (fun q h => x239_ok h) (fun q10 => ?_)
                show _ → Rn E 238 (328, [.ref 82, .int (I 82 64), .int (I (85 + 26) (I 82 64).toNatClampNeg), .int q8.1, .int (q8.2 82 66), us, us], [], wT q10 R) o w
                refine D.run 6 rfl ?_
                exact fun h => by obtain ⟨rfl, rfl⟩ := hT _ (D.some h); exact Rn.ret rfl rfl rfl
              · refine D.swc (fun hc => ?_) (fun hc => ?_)
                · refine D.run 1 rfl ?_
                  refine D.call rfl rfl rfl rfl (fun q h => x240_ok h) (fun q11 => ?_)
                  refine D.run 7 rfl ?_
                  exact fun h => by obtain ⟨rfl, rfl⟩ := hT _ (D.some h); exact Rn.ret rfl rfl rfl
                · refine D.swc (fun hc => ?_) (fun hc => ?_)
                  · refine D.run 1 rfl ?_
                    refine D.call rfl rfl rfl rfl (fun q h => x240_ok h) (fun q12 => ?_)
                    refine D.run 5 rfl ?_
                    refine D.call rfl rfl rfl rfl (fun q h => x240_ok h) (fun q13 => ?_)
                    refine D.run 7 rfl ?_
                    refine D.call rfl rfl rfl rfl (fun q h => x239_ok h) (fun q14 => ?_)
                    show _ → Rn E 238 (369, [.ref 82, .int (I 82 64), .int (I (85 + 26) (I 82 64).toNatClampNeg), .int q12.1, .int (q12.2 82 66), .int q13.1, .int (q13.2 82 66)], [], wT q14 R) o w
                    refine D.run 3 rfl ?_
                    refine D.call rfl rfl rfl rfl (fun q h => x239_ok h) (fun q15 => ?_)
                    refine D.run 6 rfl ?_
                    exact fun h => by obtain ⟨rfl, rfl⟩ := hT _ (D.some h); exact Rn.ret rfl rfl rfl
                  · refine D.swc (fun hc => ?_) (fun hc => ?_)
                    · refine D.run 1 rfl ?_
                      refine D.call rfl rfl rfl rfl (fun q h => x240_ok h) (fun q16 => ?_)
                      refine D.run 6 rfl ?_
                      refine D.call rfl rfl rfl rfl (fun q h => x239_ok h) (fun q17 => ?_)
                      refine D.run 6 rfl ?_
                      exact fun h => by obtain ⟨rfl, rfl⟩ := hT _ (D.some h); exact Rn.ret rfl rfl rfl
                    · refine D.swc (fun hc => ?_) (fun hc => ?_)
                      · refine D.run 4 rfl ?_
                        refine D.st rfl (by decide) (gf_1 h82_3) ?_
                        refine D.run 2 rfl ?_
                        refine D.gd fun hg => ?_
                        refine D.st rfl (by decide) (al_i (by decide) (by first | rfl | decide) hg.1 hg.2) ?_
                        show _ → Rn E 238 (468, [.ref 82, .int (I 82 64), .int (I (85 + 26) (I 82 64).toNatClampNeg), us, us, us, us], [.int (I (85 + 27) (I 82 64).toNatClampNeg), .ref 168, .ref 82], wT I R) o w
                        refine D.gd fun hg => ?_
                        refine D.st rfl (by decide) (al_i (by decide) (by first | rfl | decide) hg.1 hg.2) ?_
                        refine D.run 2 rfl ?_
                        refine D.st rfl (by decide) (gf_1 h82_3) ?_
                        refine D.run 2 rfl ?_
                        refine D.gd fun hg => ?_
                        refine D.st rfl (by decide) (al_i (by decide) (by first | rfl | decide) hg.1 hg.2) ?_
                        show _ → Rn E 238 (479, [.ref 82, .int (I 82 64), .int (I (85 + 26) (I 82 64).toNatClampNeg), us, us, us, us], [.int (I (85 + 27) (I 82 64).toNatClampNeg), .int 1, .int (I 168 (I (85 + 27) (I 82 64).toNatClampNeg).toNatClampNeg), .ref 82], wT I R) o w
                        refine D.run 1 rfl ?_
                        refine D.call rfl rfl rfl rfl (fun q h => x239_ok h) (fun q18 => ?_)
                        refine D.run 6 rfl ?_
                        exact fun h => by obtain ⟨rfl, rfl⟩ := hT _ (D.some h); exact Rn.ret rfl rfl rfl
                      · refine D.swc (fun hc => ?_) (fun hc => ?_)
                        · refine D.run 2 rfl ?_
                          refine D.st rfl (by decide) (gf_1 h82_3) ?_
                          refine D.run 2 rfl ?_
                          refine D.gd fun hg => ?_
                          refine D.st rfl (by decide) (al_i (by decide) (by first | rfl | decide) hg.1 hg.2) ?_
                          show _ → Rn E 238 (496, [.ref 82, .int (I 82 64), .int (I (85 + 26) (I 82 64).toNatClampNeg), us, us, us, us], [.int (I (85 + 27) (I 82 64).toNatClampNeg), .ref 82], wT I R) o w
                          refine D.call rfl rfl rfl rfl (fun q h => x241_ok h) (fun q19 => ?_)
                          refine D.run 6 rfl ?_
                          exact fun h => by obtain ⟨rfl, rfl⟩ := hT _ (D.some h); exact Rn.ret rfl rfl rfl
                        · refine D.swc (fun hc => ?_) (fun hc => ?_)
                          · refine D.run 1 rfl ?_
                            refine D.call rfl rfl rfl rfl (fun q h => x240_ok h) (fun q20 => ?_)
                            refine D.run 6 rfl ?_
                            refine D.st rfl (by decide) (gf_1 h82_3) ?_
                            refine D.run 2 rfl ?_
                            refine D.gd fun hg => ?_
                            refine D.st rfl (by decide) (al_i (by decide) (by first | rfl | decide) hg.1 hg.2) ?_
                            show _ → Rn E 238 (418, [.ref 82, .int (I 82 64), .int (I (85 + 26) (I 82 64).toNatClampNeg), .int q20.1, us, us, us], [.int (q20.2 (85 + 27) (I 82 64).toNatClampNeg), .int (q20.2 82 66), .int q20.1, .ref 82], wT q20.2 R) o w
                            refine D.run 3 rfl ?_
                            refine D.call rfl rfl rfl rfl (fun q h => x239_ok h) (fun q21 => ?_)
                            refine D.run 6 rfl ?_
                            exact fun h => by obtain ⟨rfl, rfl⟩ := hT _ (D.some h); exact Rn.ret rfl rfl rfl
                          · refine D.swc (fun hc => ?_) (fun hc => ?_)
                            · refine D.run 1 rfl ?_
                              refine D.call rfl rfl rfl rfl (fun q h => x240_ok h) (fun q22 => ?_)
                              refine D.run 6 rfl ?_
                              refine D.st rfl (by decide) (gf_1 h82_3) ?_
                              refine D.run 2 rfl ?_
                              refine D.gd fun hg => ?_
                              refine D.st rfl (by decide) (al_i (by decide) (by first | rfl | decide) hg.1 hg.2) ?_
                              show _ → Rn E 238 (447, [.ref 82, .int (I 82 64), .int (I (85 + 26) (I 82 64).toNatClampNeg), .int q22.1, us, us, us], [.int (q22.2 (85 + 27) (I 82 64).toNatClampNeg), .int (q22.2 82 66), .int q22.1, .ref 82], wT q22.2 R) o w
                              refine D.run 1 rfl ?_
                              refine D.call rfl rfl rfl rfl (fun q h => x239_ok h) (fun q23 => ?_)
                              refine D.run 6 rfl ?_
                              exact fun h => by obtain ⟨rfl, rfl⟩ := hT _ (D.some h); exact Rn.ret rfl rfl rfl
                            · refine D.run 2 rfl ?_
                              refine D.br rfl (by decide) rfl (fun hc => ?_) (fun hc => ?_)
                              · refine D.run 2 rfl ?_
                                refine D.br rfl (by decide) rfl (fun hc => ?_) (fun hc => ?_)
                                · refine D.run 3 rfl ?_
                                  refine D.call rfl rfl rfl rfl (fun q h => x251_ok (by decide) h82_3 h) (fun q24 => ?_)
                                  exact fun h => by obtain ⟨rfl, rfl⟩ := hT _ (D.some h); exact Rn.ret rfl rfl rfl
                                · refine D.run 2 rfl ?_
                                  refine D.br rfl (by decide) rfl (fun hc => ?_) (fun hc => ?_)
                                  · refine D.run 3 rfl ?_
                                    refine D.call rfl rfl rfl rfl (fun q h => x251_ok (by decide) h82_3 h) (fun q25 => ?_)
                                    exact fun h => by obtain ⟨rfl, rfl⟩ := hT _ (D.some h); exact Rn.ret rfl rfl rfl
                                  · refine D.run 3 rfl ?_
                                    refine D.call rfl rfl rfl rfl (fun q h => x249_ok (by decide) h82_3 h) (fun q26 => ?_)
                                    refine D.run 1 rfl ?_
                                    exact fun h => by obtain ⟨rfl, rfl⟩ := hT _ (D.some h); exact Rn.ret rfl rfl rfl
                              · refine D.run 2 rfl ?_
                                refine D.br rfl (by decide) rfl (fun hc => ?_) (fun hc => ?_)
                                · refine D.run 2 rfl ?_
                                  refine D.br rfl (by decide) rfl (fun hc => ?_) (fun hc => ?_)
                                  · refine D.run 3 rfl ?_
                                    refine D.call rfl rfl rfl rfl (fun q h => x251_ok (by decide) h82_3 h) (fun q27 => ?_)
                                    exact fun h => by obtain ⟨rfl, rfl⟩ := hT _ (D.some h); exact Rn.ret rfl rfl rfl
                                  · refine D.run 2 rfl ?_
                                    refine D.br rfl (by decide) rfl (fun hc => ?_) (fun hc => ?_)
                                    · refine D.run 3 rfl ?_
                                      refine D.call rfl rfl rfl rfl (fun q h => x251_ok (by decide) h82_3 h) (fun q28 => ?_)
                                      exact fun h => by obtain ⟨rfl, rfl⟩ := hT _ (D.some h); exact Rn.ret rfl rfl rfl
                                    · refine D.run 3 rfl ?_
                                      refine D.call rfl rfl rfl rfl (fun q h => x249_ok (by decide) h82_3 h) (fun q29 => ?_)
                                      refine D.run 1 rfl ?_
                                      exact fun h => by obtain ⟨rfl, rfl⟩ := hT _ (D.some h); exact Rn.ret rfl rfl rfl
                                · refine D.run 3 rfl ?_
                                  refine D.call rfl rfl rfl rfl (fun q h => x242_ok (by decide) h82_3 h) (fun q30 => ?_)
                                  refine D.run 1 rfl ?_
                                  exact fun h => by obtain ⟨rfl, rfl⟩ := hT _ (D.some h); exact Rn.ret rfl rfl rfl
  · refine D.run 4 rfl ?_
    refine D.st rfl (by decide) (gf_1 h82_3) ?_
    refine D.run 2 rfl ?_
    refine D.gd fun hg => ?_
    refine D.st rfl (by decide) (al_i (by decide) (by first | rfl | decide) hg.1 hg.2) ?_
    show _ → Rn E 238 (14, [.ref 82, .int (I 82 64), us, us, us, us, us], [.int (I (126 + 26) (I 82 64).toNatClampNeg)], wT I R) o w
    refine D.run 2 rfl ?_
    refine D.sw rfl (by decide) rfl ?_
    show _ → Rn E 238 (swT [(0, 132), (1, 149), (2, 158), (3, 209), (4, 266), (5, 303), (6, 331), (7, 339), (19, 380), (55, 454), (56, 486), (57, 398), (58, 427)] 502 _, _, _, _) _ _
    refine D.swc (fun hc => ?_) (fun hc => ?_)
    · refine D.run 2 rfl ?_
      refine D.st rfl (by decide) (gf_1 h82_3) ?_
      refine D.run 2 rfl ?_
      refine D.gd fun hg => ?_
      refine D.st rfl (by decide) (al_i (by decide) (by first | rfl | decide) hg.1 hg.2) ?_
      show _ → Rn E 238 (142, [.ref 82, .int (I 82 64), .int (I (126 + 26) (I 82 64).toNatClampNeg), us, us, us, us], [.int (I (126 + 27) (I 82 64).toNatClampNeg), .ref 82], wT I R) o w
      refine D.run 1 rfl ?_
      refine D.call rfl rfl rfl rfl (fun q h => x239_ok h) (fun q1 => ?_)
      refine D.run 6 rfl ?_
      exact fun h => by obtain ⟨rfl, rfl⟩ := hT _ (D.some h); exact Rn.ret rfl rfl rfl
    · refine D.swc (fun hc => ?_) (fun hc => ?_)
      · refine D.run 3 rfl ?_
        refine D.call rfl rfl rfl rfl (fun q h => x239_ok h) (fun q2 => ?_)
        refine D.run 6 rfl ?_
        exact fun h => by obtain ⟨rfl, rfl⟩ := hT _ (D.some h); exact Rn.ret rfl rfl rfl
      · refine D.swc (fun hc => ?_) (fun hc => ?_)
        · refine D.run 8 rfl ?_
          refine D.st rfl (by decide) (gf_1 h82_3) ?_
          refine D.run 2 rfl ?_
          refine D.gd fun hg => ?_
          refine D.st rfl (by decide) (al_i (by decide) (by first | rfl | decide) hg.1 hg.2) ?_
          show _ → Rn E 238 (179, [.ref 82, .int (I 82 64), .int (I (126 + 26) (I 82 64).toNatClampNeg), us, us, us, us], [.int (I (126 + 27) (I 82 64).toNatClampNeg), .int (16 * (I 82 55)), .ref 196, .ref 82], wT I R) o w
          refine D.run 1 rfl ?_
          refine D.gd fun hg => ?_
          refine D.st rfl (by decide) (al_i (by decide) (by first | rfl | decide) hg.1 hg.2) ?_
          refine D.run 7 rfl ?_
          refine D.st rfl (by decide) (gf_1 h82_3) ?_
          show _ → Rn E 238 (196, [.ref 82, .int (I 82 64), .int (I (126 + 26) (I 82 64).toNatClampNeg), us, us, us, us], [.ref 126, .int (16 * (I 82 55)), .ref 197, .int (I 196 ((16 * (I 82 55)) + (I (126 + 27) (I 82 64).toNatClampNeg)).toNatClampNeg), .ref 82], wT I R) o w
          refine D.run 2 rfl ?_
          refine D.gd fun hg => ?_
          refine D.st rfl (by decide) (al_i (by decide) (by first | rfl | decide) hg.1 hg.2) ?_
          refine D.run 1 rfl ?_
          refine D.gd fun hg => ?_
          refine D.st rfl (by decide) (al_i (by decide) (by first | rfl | decide) hg.1 hg.2) ?_
          show _ → Rn E 238 (203, [.ref 82, .int (I 82 64), .int (I (126 + 26) (I 82 64).toNatClampNeg), us, us, us, us], [.int (I 197 ((16 * (I 82 55)) + (I (126 + 27) (I 82 64).toNatClampNeg)).toNatClampNeg), .int (I 196 ((16 * (I 82 55)) + (I (126 + 27) (I 82 64).toNatClampNeg)).toNatClampNeg), .ref 82], wT I R) o w
          refine D.call rfl rfl rfl rfl (fun q h => x239_ok h) (fun q3 => ?_)
          refine D.run 6 rfl ?_
          exact fun h => by obtain ⟨rfl, rfl⟩ := hT _ (D.some h); exact Rn.ret rfl rfl rfl
        · refine D.swc (fun hc => ?_) (fun hc => ?_)
          · refine D.run 1 rfl ?_
            refine D.call rfl rfl rfl rfl (fun q h => x240_ok h) (fun q4 => ?_)
            refine D.run 8 rfl ?_
            refine D.st rfl (by decide) (gf_1 h82_3) ?_
            refine D.run 2 rfl ?_
            refine D.gd fun hg => ?_
            refine D.st rfl (by decide) (al_i (by decide) (by first | rfl | decide) hg.1 hg.2) ?_
            show _ → Rn E 238 (234, [.ref 82, .int (I 82 64), .int (I (126 + 26) (I 82 64).toNatClampNeg), .int q4.1, us, us, us], [.int (q4.2 (126 + 27) (I 82 64).toNatClampNeg), .int (16 * (q4.2 82 55)), .ref 196], wT q4.2 R) o w
            refine D.run 2 rfl ?_
            refine D.gd fun hg => ?_
            refine D.st rfl (by decide) (as_i (by decide) (by first | rfl | decide) hg.1 hg.2) ?_
            refine D.letS (fun J5 => ?_)
            refine D.run 7 rfl ?_
            refine D.st rfl (by decide) (gf_1 h82_3) ?_
            show _ → Rn E 238 (252, [.ref 82, .int (I 82 64), .int (I (126 + 26) (I 82 64).toNatClampNeg), .int q4.1, us, us, us], [.ref 126, .int (16 * (J5 82 55)), .ref 197], wT J5 R) o w
            refine D.run 2 rfl ?_
            refine D.gd fun hg => ?_
            refine D.st rfl (by decide) (al_i (by decide) (by first | rfl | decide) hg.1 hg.2) ?_
            refine D.run 3 rfl ?_
            refine D.gd fun hg => ?_
            refine D.st rfl (by decide) (as_i (by decide) (by first | rfl | decide) hg.1 hg.2) ?_
            refine D.letS (fun J6 => ?_)
            show _ → Rn E 238 (263, [.ref 82, .int (I 82 64), .int (I (126 + 26) (I 82 64).toNatClampNeg), .int q4.1, us, us, us], [], wT J6 R) o w
            refine D.run 6 rfl ?_
            exact fun h => by obtain ⟨rfl, rfl⟩ := hT _ (D.some h); exact Rn.ret rfl rfl rfl
          · refine D.swc (fun hc => ?_) (fun hc => ?_)
            · refine D.run 7 rfl ?_
              refine D.st rfl (by decide) (gf_1 h82_3) ?_
              refine D.run 2 rfl ?_
              refine D.gd fun hg => ?_
              refine D.st rfl (by decide) (al_i (by decide) (by first | rfl | decide) hg.1 hg.2) ?_
              show _ → Rn E 238 (286, [.ref 82, .int (I 82 64), .int (I (126 + 26) (I 82 64).toNatClampNeg), us, us, us, us], [.int (I (126 + 27) (I 82 64).toNatClampNeg), .int (16 * (I 82 55)), .ref 196], wT I R) o w
              refine D.run 2 rfl ?_
              refine D.gd fun hg => ?_
              refine D.st rfl (by decide) (al_i (by decide) (by first | rfl | decide) hg.1 hg.2) ?_
              refine D.run 1 rfl ?_
              refine D.st rfl (by decide) (gf_1 h82_3) ?_
              show _ → Rn E 238 (293, [.ref 82, .int (I 82 64), .int (I (126 + 26) (I 82 64).toNatClampNeg), us, us, us, us], [.ref 126, .int (I 196 ((16 * (I 82 55)) + (I (126 + 27) (I 82 64).toNatClampNeg)).toNatClampNeg), .int ((16 * (I 82 55)) + (I (126 + 27) (I 82 64).toNatClampNeg)), .ref 196], wT I R) o w
              refine D.run 2 rfl ?_
              refine D.gd fun hg => ?_
              refine D.st rfl (by decide) (al_i (by decide) (by first | rfl | decide) hg.1 hg.2) ?_
              refine D.run 1 rfl ?_
              refine D.gd fun hg => ?_
              refine D.st rfl (by decide) (as_i (by decide) (by first | rfl | decide) hg.1 hg.2) ?_
              refine D.letS (fun J7 => ?_)
              show _ → Rn E 238 (300, [.ref 82, .int (I 82 64), .int (I (126 + 26) (I 82 64).toNatClampNeg), us, us, us, us], [], wT J7 R) o w
              refine D.run 6 rfl ?_
              exact fun h => by obtain ⟨rfl, rfl⟩ := hT _ (D.some h); exact Rn.ret rfl rfl rfl
            · refine D.swc (fun hc => ?_) (fun hc => ?_)
              · refine D.run 1 rfl ?_
                refine D.call rfl rfl rfl rfl (fun q h => x240_ok h) (fun q8 => ?_)
                refine D.run 7 rfl ?_
                refine D.call rfl rfl rfl rfl (fun q h => x239_ok h) (fun q9 => ?_)
                refine D.run 3 rfl ?_
                refine D.call rfl rfl rfl rfl (fun q h => x239_ok h) (fun q10 => ?_)
                show _ → Rn E 238 (328, [.ref 82, .int (I 82 64), .int (I (126 + 26) (I 82 64).toNatClampNeg), .int q8.1, .int (q8.2 82 66), us, us], [], wT q10 R) o w
                refine D.run 6 rfl ?_
                exact fun h => by obtain ⟨rfl, rfl⟩ := hT _ (D.some h); exact Rn.ret rfl rfl rfl
              · refine D.swc (fun hc => ?_) (fun hc => ?_)
                · refine D.run 1 rfl ?_
                  refine D.call rfl rfl rfl rfl (fun q h => x240_ok h) (fun q11 => ?_)
                  refine D.run 7 rfl ?_
                  exact fun h => by obtain ⟨rfl, rfl⟩ := hT _ (D.some h); exact Rn.ret rfl rfl rfl
                · refine D.swc (fun hc => ?_) (fun hc => ?_)
                  · refine D.run 1 rfl ?_
                    refine D.call rfl rfl rfl rfl (fun q h => x240_ok h) (fun q12 => ?_)
                    refine D.run 5 rfl ?_
                    refine D.call rfl rfl rfl rfl (fun q h => x240_ok h) (fun q13 => ?_)
                    refine D.run 7 rfl ?_
                    refine D.call rfl rfl rfl rfl (fun q h => x239_ok h) (fun q14 => ?_)
                    show _ → Rn E 238 (369, [.ref 82, .int (I 82 64), .int (I (126 + 26) (I 82 64).toNatClampNeg), .int q12.1, .int (q12.2 82 66), .int q13.1, .int (q13.2 82 66)], [], wT q14 R) o w
                    refine D.run 3 rfl ?_
                    refine D.call rfl rfl rfl rfl (fun q h => x239_ok h) (fun q15 => ?_)
                    refine D.run 6 rfl ?_
                    exact fun h => by obtain ⟨rfl, rfl⟩ := hT _ (D.some h); exact Rn.ret rfl rfl rfl
                  · refine D.swc (fun hc => ?_) (fun hc => ?_)
                    · refine D.run 1 rfl ?_
                      refine D.call rfl rfl rfl rfl (fun q h => x240_ok h) (fun q16 => ?_)
                      refine D.run 6 rfl ?_
                      refine D.call rfl rfl rfl rfl (fun q h => x239_ok h) (fun q17 => ?_)
                      refine D.run 6 rfl ?_
                      exact fun h => by obtain ⟨rfl, rfl⟩ := hT _ (D.some h); exact Rn.ret rfl rfl rfl
                    · refine D.swc (fun hc => ?_) (fun hc => ?_)
                      · refine D.run 4 rfl ?_
                        refine D.st rfl (by decide) (gf_1 h82_3) ?_
                        refine D.run 2 rfl ?_
                        refine D.gd fun hg => ?_
                        refine D.st rfl (by decide) (al_i (by decide) (by first | rfl | decide) hg.1 hg.2) ?_
                        show _ → Rn E 238 (468, [.ref 82, .int (I 82 64), .int (I (126 + 26) (I 82 64).toNatClampNeg), us, us, us, us], [.int (I (126 + 27) (I 82 64).toNatClampNeg), .ref 168, .ref 82], wT I R) o w
                        refine D.gd fun hg => ?_
                        refine D.st rfl (by decide) (al_i (by decide) (by first | rfl | decide) hg.1 hg.2) ?_
                        refine D.run 2 rfl ?_
                        refine D.st rfl (by decide) (gf_1 h82_3) ?_
                        refine D.run 2 rfl ?_
                        refine D.gd fun hg => ?_
                        refine D.st rfl (by decide) (al_i (by decide) (by first | rfl | decide) hg.1 hg.2) ?_
                        show _ → Rn E 238 (479, [.ref 82, .int (I 82 64), .int (I (126 + 26) (I 82 64).toNatClampNeg), us, us, us, us], [.int (I (126 + 27) (I 82 64).toNatClampNeg), .int 1, .int (I 168 (I (126 + 27) (I 82 64).toNatClampNeg).toNatClampNeg), .ref 82], wT I R) o w
                        refine D.run 1 rfl ?_
                        refine D.call rfl rfl rfl rfl (fun q h => x239_ok h) (fun q18 => ?_)
                        refine D.run 6 rfl ?_
                        exact fun h => by obtain ⟨rfl, rfl⟩ := hT _ (D.some h); exact Rn.ret rfl rfl rfl
                      · refine D.swc (fun hc => ?_) (fun hc => ?_)
                        · refine D.run 2 rfl ?_
                          refine D.st rfl (by decide) (gf_1 h82_3) ?_
                          refine D.run 2 rfl ?_
                          refine D.gd fun hg => ?_
                          refine D.st rfl (by decide) (al_i (by decide) (by first | rfl | decide) hg.1 hg.2) ?_
                          show _ → Rn E 238 (496, [.ref 82, .int (I 82 64), .int (I (126 + 26) (I 82 64).toNatClampNeg), us, us, us, us], [.int (I (126 + 27) (I 82 64).toNatClampNeg), .ref 82], wT I R) o w
                          refine D.call rfl rfl rfl rfl (fun q h => x241_ok h) (fun q19 => ?_)
                          refine D.run 6 rfl ?_
                          exact fun h => by obtain ⟨rfl, rfl⟩ := hT _ (D.some h); exact Rn.ret rfl rfl rfl
                        · refine D.swc (fun hc => ?_) (fun hc => ?_)
                          · refine D.run 1 rfl ?_
                            refine D.call rfl rfl rfl rfl (fun q h => x240_ok h) (fun q20 => ?_)
                            refine D.run 6 rfl ?_
                            refine D.st rfl (by decide) (gf_1 h82_3) ?_
                            refine D.run 2 rfl ?_
                            refine D.gd fun hg => ?_
                            refine D.st rfl (by decide) (al_i (by decide) (by first | rfl | decide) hg.1 hg.2) ?_
                            show _ → Rn E 238 (418, [.ref 82, .int (I 82 64), .int (I (126 + 26) (I 82 64).toNatClampNeg), .int q20.1, us, us, us], [.int (q20.2 (126 + 27) (I 82 64).toNatClampNeg), .int (q20.2 82 66), .int q20.1, .ref 82], wT q20.2 R) o w
                            refine D.run 3 rfl ?_
                            refine D.call rfl rfl rfl rfl (fun q h => x239_ok h) (fun q21 => ?_)
                            refine D.run 6 rfl ?_
                            exact fun h => by obtain ⟨rfl, rfl⟩ := hT _ (D.some h); exact Rn.ret rfl rfl rfl
                          · refine D.swc (fun hc => ?_) (fun hc => ?_)
                            · refine D.run 1 rfl ?_
                              refine D.call rfl rfl rfl rfl (fun q h => x240_ok h) (fun q22 => ?_)
                              refine D.run 6 rfl ?_
                              refine D.st rfl (by decide) (gf_1 h82_3) ?_
                              refine D.run 2 rfl ?_
                              refine D.gd fun hg => ?_
                              refine D.st rfl (by decide) (al_i (by decide) (by first | rfl | decide) hg.1 hg.2) ?_
                              show _ → Rn E 238 (447, [.ref 82, .int (I 82 64), .int (I (126 + 26) (I 82 64).toNatClampNeg), .int q22.1, us, us, us], [.int (q22.2 (126 + 27) (I 82 64).toNatClampNeg), .int (q22.2 82 66), .int q22.1, .ref 82], wT q22.2 R) o w
                              refine D.run 1 rfl ?_
                              refine D.call rfl rfl rfl rfl (fun q h => x239_ok h) (fun q23 => ?_)
                              refine D.run 6 rfl ?_
                              exact fun h => by obtain ⟨rfl, rfl⟩ := hT _ (D.some h); exact Rn.ret rfl rfl rfl
                            · refine D.run 2 rfl ?_
                              refine D.br rfl (by decide) rfl (fun hc => ?_) (fun hc => ?_)
                              · refine D.run 2 rfl ?_
                                refine D.br rfl (by decide) rfl (fun hc => ?_) (fun hc => ?_)
                                · refine D.run 3 rfl ?_
                                  refine D.call rfl rfl rfl rfl (fun q h => x251_ok (by decide) h82_3 h) (fun q24 => ?_)
                                  exact fun h => by obtain ⟨rfl, rfl⟩ := hT _ (D.some h); exact Rn.ret rfl rfl rfl
                                · refine D.run 2 rfl ?_
                                  refine D.br rfl (by decide) rfl (fun hc => ?_) (fun hc => ?_)
                                  · refine D.run 3 rfl ?_
                                    refine D.call rfl rfl rfl rfl (fun q h => x251_ok (by decide) h82_3 h) (fun q25 => ?_)
                                    exact fun h => by obtain ⟨rfl, rfl⟩ := hT _ (D.some h); exact Rn.ret rfl rfl rfl
                                  · refine D.run 3 rfl ?_
                                    refine D.call rfl rfl rfl rfl (fun q h => x249_ok (by decide) h82_3 h) (fun q26 => ?_)
                                    refine D.run 1 rfl ?_
                                    exact fun h => by obtain ⟨rfl, rfl⟩ := hT _ (D.some h); exact Rn.ret rfl rfl rfl
                              · refine D.run 2 rfl ?_
                                refine D.br rfl (by decide) rfl (fun hc => ?_) (fun hc => ?_)
                                · refine D.run 2 rfl ?_
                                  refine D.br rfl (by decide) rfl (fun hc => ?_) (fun hc => ?_)
                                  · refine D.run 3 rfl ?_
                                    refine D.call rfl rfl rfl rfl (fun q h => x251_ok (by decide) h82_3 h) (fun q27 => ?_)
                                    exact fun h => by obtain ⟨rfl, rfl⟩ := hT _ (D.some h); exact Rn.ret rfl rfl rfl
                                  · refine D.run 2 rfl ?_
                                    refine D.br rfl (by decide) rfl (fun hc => ?_) (fun hc => ?_)
                                    · refine D.run 3 rfl ?_
                                      refine D.call rfl rfl rfl rfl (fun q h => x251_ok (by decide) h82_3 h) (fun q28 => ?_)
                                      exact fun h => by obtain ⟨rfl, rfl⟩ := hT _ (D.some h); exact Rn.ret rfl rfl rfl
                                    · refine D.run 3 rfl ?_
                                      refine D.call rfl rfl rfl rfl (fun q h => x249_ok (by decide) h82_3 h) (fun q29 => ?_)
                                      refine D.run 1 rfl ?_
                                      exact fun h => by obtain ⟨rfl, rfl⟩ := hT _ (D.some h); exact Rn.ret rfl rfl rfl
                                · refine D.run 3 rfl ?_
                                  refine D.call rfl rfl rfl rfl (fun q h => x242_ok (by decide) h82_3 h) (fun q30 => ?_)
                                  refine D.run 1 rfl ?_
                                  exact fun h => by obtain ⟨rfl, rfl⟩ := hT _ (D.some h); exact Rn.ret rfl rfl rfl
set_option maxRecDepth 20000 in
set_option maxHeartbeats 30000000 in
theorem x238_ok {E : Xe} {R : Nat → Nat → Option Nat} {Q : Nat} {I : St} (hQ : Q = 85 ∨ Q = 126) (h82_3 : R 82 3 = some Q) {q : St} (h : x238 Q I = some q) : Rn E 238 (0, loc0 238 [.ref 82], [], wT I R) (.returned none) (wT q R) := x238_D hQ h82_3 (T := fun r => r = q) (by rintro r rfl; exact ⟨rfl, rfl⟩) ⟨_, h, rfl⟩
/-- TaintHouse$Verifier.checkMethod(I)V -/
def l98_57 (P : Nat) : Nat → Int32 → St → Option (St)
  | 0, _, _ => none
  | n + 1, b2, I => if 3300 ≤ b2 then some I else if (I 58 6) = (-1) then (x105 I).bind fun q4 => if q4 = (-1) then some I else (x106 P I q4).bind fun q5 => l98_57 P n (b2 + 1) q5 else some I
set_option maxRecDepth 20000 in
set_option maxHeartbeats 30000000 in
theorem l98_57_ok {E : Xe} {R : Nat → Nat → Option Nat} {P : Nat} {o : Outcome} {w : Wd} {T : (St) → Prop} (hP : P = 3 ∨ P = 18) (h58_2 : R 58 2 = some P) (K : ∀ (q : St) (e1 : Value) (_ : is1 e1 = true) (e2 : Value) (_ : is1 e2 = true) (e3 : Value) (_ : is1 e3 = true), T q → Rn E 98 (96, [.ref 58, e1, e2, e3], [], wT q R) o w) : ∀ (n : Nat) (b2 : Int32) (d1 : Value) (d3 : Value) (I : St), is1 d1 = true → is1 d3 = true → Dq (l98_57 P n b2 I) T → Rn E 98 (57, [.ref 58, d1, .int b2, d3], [], wT I R) o w := by
  rcases hP with rfl | rfl
  all_goals
    intro n
    induction n with
    | zero => intro b2 d1 d3 I hd1 hd3; exact D.none
    | succ n ih =>
      intro b2 d1 d3 I hd1 hd3
      rw [l98_57]
      refine D.run 2 rfl ?_
      refine D.br rfl (by decide) rfl (fun hc => ?_) (fun hc => ?_)
      · exact fun h => D.to h (K _ _ (by first | rfl | assumption) _ (by first | rfl | assumption) _ (by first | rfl | assumption))
      · refine D.run 3 rfl ?_
        refine D.br rfl (by decide) rfl (fun hc => ?_) (fun hc => ?_)
        · refine D.run 1 rfl ?_
          refine D.call rfl rfl rfl rfl (fun q h => x105_ok h) (fun q4 => ?_)
          refine D.run 3 rfl ?_
          refine D.br rfl (by decide) rfl (fun hc => ?_) (fun hc => ?_)
          · refine D.run 1 rfl ?_
            exact fun h => D.to h (K _ _ (by first | rfl | assumption) _ (by first | rfl | assumption) _ (by first | rfl | assumption))
          · refine D.run 2 rfl ?_
            refine D.call rfl rfl rfl rfl (fun q h => x106_ok (by decide) h58_2 h) (fun q5 => ?_)
            refine D.st rfl (by decide) (iinc_d rfl rfl (by first | rfl | assumption) rfl) ?_
            refine D.run 1 rfl ?_
            exact ih _ _ _ _ (by first | rfl | assumption) (by first | rfl | assumption)
        · exact fun h => D.to h (K _ _ (by first | rfl | assumption) _ (by first | rfl | assumption) _ (by first | rfl | assumption))
def x98 (P : Nat) (I : St) (a1 : Int32) : Option (St) := Lt (up2 (up2 (up2 I 58 3 a1) 58 4 (tget (up2 I 58 3 a1) (P + 7) a1 5)) 58 5 (tget (up2 (up2 I 58 3 a1) 58 4 (tget (up2 I 58 3 a1) (P + 7) a1 5)) (P + 7) a1 6)) fun J1 => (x99 P (fillF J1 (sf 59 2) 0 0)).bind fun q2 => (x101 P q2 0).bind fun q3 => (l98_57 P 100000 0 q3).bind fun q6 => some q6
set_option maxRecDepth 20000 in
set_option maxHeartbeats 30000000 in
theorem x98_D {E : Xe} {R : Nat → Nat → Option Nat} {P : Nat} {o : Outcome} {w : Wd} {T : (St) → Prop} {I : St} (hP : P = 3 ∨ P = 18) (h58_2 : R 58 2 = some P) (a1 : Int32) (hT : ∀ r, T r → o = .returned none ∧ w = wT r R) : Dq (x98 P I a1) T → Rn E 98 (0, loc0 98 [.ref 58, .int a1], [], wT I R) o w := by
  unfold x98
  rcases hP with rfl | rfl
  · refine D.run 5 rfl ?_
    refine D.st rfl (by decide) (gf_1 h58_2) ?_
    refine D.run 3 rfl ?_
    refine D.ce rfl rfl rfl rfl (tget_ok (by decide) (by first | rfl | decide) _ _) ?_
    refine D.run 3 rfl ?_
    refine D.st rfl (by decide) (gf_1 h58_2) ?_
    show _ → Rn E 98 (26, [.ref 58, .int a1, us, us], [.ref 3, .ref 58], wT (up2 (up2 I 58 3 a1) 58 4 (tget (up2 I 58 3 a1) (3 + 7) a1 5)) R) o w
    refine D.run 3 rfl ?_
    refine D.ce rfl rfl rfl rfl (tget_ok (by decide) (by first | rfl | decide) _ _) ?_
    refine D.run 1 rfl ?_
    refine D.letS (fun J1 => ?_)
    refine D.run 3 rfl ?_
    refine D.ce rfl rfl rfl rfl (tfill_ok (by decide) (by first | rfl | decide) _) ?_
    show _ → Rn E 98 (46, [.ref 58, .int a1, us, us], [], wT (fillF J1 (sf 59 2) 0 0) R) o w
    refine D.run 1 rfl ?_
    refine D.call rfl rfl rfl rfl (fun q h => x99_ok (by decide) h58_2 h) (fun q2 => ?_)
    refine D.run 2 rfl ?_
    refine D.call rfl rfl rfl rfl (fun q h => x101_ok (by decide) h58_2 h) (fun q3 => ?_)
    refine D.run 2 rfl ?_
    refine D.bind (l98_57_ok (by decide) h58_2 (fun q6 e7 he7 e8 he8 e9 he9 => ?_) 100000 _ _ _ _ (by first | rfl | assumption) (by first | rfl | assumption))
    exact fun h => by obtain ⟨rfl, rfl⟩ := hT _ (D.some h); exact Rn.ret rfl rfl rfl
  · refine D.run 5 rfl ?_
    refine D.st rfl (by decide) (gf_1 h58_2) ?_
    refine D.run 3 rfl ?_
    refine D.ce rfl rfl rfl rfl (tget_ok (by decide) (by first | rfl | decide) _ _) ?_
    refine D.run 3 rfl ?_
    refine D.st rfl (by decide) (gf_1 h58_2) ?_
    show _ → Rn E 98 (26, [.ref 58, .int a1, us, us], [.ref 18, .ref 58], wT (up2 (up2 I 58 3 a1) 58 4 (tget (up2 I 58 3 a1) (18 + 7) a1 5)) R) o w
    refine D.run 3 rfl ?_
    refine D.ce rfl rfl rfl rfl (tget_ok (by decide) (by first | rfl | decide) _ _) ?_
    refine D.run 1 rfl ?_
    refine D.letS (fun J1 => ?_)
    refine D.run 3 rfl ?_
    refine D.ce rfl rfl rfl rfl (tfill_ok (by decide) (by first | rfl | decide) _) ?_
    show _ → Rn E 98 (46, [.ref 58, .int a1, us, us], [], wT (fillF J1 (sf 59 2) 0 0) R) o w
    refine D.run 1 rfl ?_
    refine D.call rfl rfl rfl rfl (fun q h => x99_ok (by decide) h58_2 h) (fun q2 => ?_)
    refine D.run 2 rfl ?_
    refine D.call rfl rfl rfl rfl (fun q h => x101_ok (by decide) h58_2 h) (fun q3 => ?_)
    refine D.run 2 rfl ?_
    refine D.bind (l98_57_ok (by decide) h58_2 (fun q6 e7 he7 e8 he8 e9 he9 => ?_) 100000 _ _ _ _ (by first | rfl | assumption) (by first | rfl | assumption))
    exact fun h => by obtain ⟨rfl, rfl⟩ := hT _ (D.some h); exact Rn.ret rfl rfl rfl
set_option maxRecDepth 20000 in
set_option maxHeartbeats 30000000 in
theorem x98_ok {E : Xe} {R : Nat → Nat → Option Nat} {P : Nat} {I : St} (hP : P = 3 ∨ P = 18) (h58_2 : R 58 2 = some P) {a1 : Int32} {q : St} (h : x98 P I a1 = some q) : Rn E 98 (0, loc0 98 [.ref 58, .int a1], [], wT I R) (.returned none) (wT q R) := x98_D hP h58_2 _ (T := fun r => r = q) (by rintro r rfl; exact ⟨rfl, rfl⟩) ⟨_, h, rfl⟩
