/-! FUNCTIONS OF METHODS, by program (wip/gen/all.py): 171 173 174 175 177 178 179 180 181 186 187 189 190 193 194 195 196 200 202 203 206 216 217 219 221 222 223 -/
/-- TaintHouse$Machine.tryFor(I)I -/
def l171_48 (P : Nat) (b1 : Int32) (b4 : Int32) : Nat → Int32 → St → Option ((Unit) ⊕ (Int32))
  | 0, _, _ => none
  | n + 1, b5, I => if b4 ≤ b5 then some (.inl ()) else if (I 68 9) < (tget I (P + 11) b5 0) then l171_48 P b1 b4 n (b5 + 1) I else if (tget I (P + 11) b5 1) ≤ (I 68 9) then l171_48 P b1 b4 n (b5 + 1) I else (x150 P I b1 (tget I (P + 11) b5 3)).bind fun q1 => if q1 = 0 then l171_48 P b1 b4 n (b5 + 1) I else some (.inr b5)
set_option maxRecDepth 20000 in
theorem l171_48_ok {E : Xe} {R : Nat → Nat → Option Nat} {P : Nat} {I0 : St} {o : Outcome} {w : Wd} {T : ((Unit) ⊕ (Int32)) → Prop} {b1 : Int32} {b4 : Int32} (hP : P = 3 ∨ P = 18) (h68_6 : R 68 6 = some P) (hT : ∀ r, T (.inr r) → o = .returned (some (.int r)) ∧ w = wT I0 R) (K : ∀ (q : Unit) (e1 : Value) (_ : is1 e1 = true) (e3 : Value) (_ : is1 e3 = true) (e4 : Value) (_ : is1 e4 = true) (e5 : Value) (_ : is1 e5 = true), T (.inl q) → Rn E 171 (110, [.ref 68, e1, .ref (P + 11), e3, e4, e5], [], wT I0 R) o w) : ∀ (n : Nat) (b5 : Int32) (d3 : Value), is1 d3 = true → Dq (l171_48 P b1 b4 n b5 I0) T → Rn E 171 (48, [.ref 68, .int b1, .ref (P + 11), d3, .int b4, .int b5], [], wT I0 R) o w := by
  rcases hP with rfl | rfl
  · intro n
    induction n with
    | zero => intro b5 d3 hd3; exact D.none
    | succ n ih =>
      intro b5 d3 hd3
      rw [l171_48]
      refine D.run 2 rfl ?_
      refine D.br rfl (by decide) rfl (fun hc => ?_) (fun hc => ?_)
      · exact fun h => D.to h (K _ _ (by first | rfl | assumption) _ (by first | rfl | assumption) _ (by first | rfl | assumption) _ (by first | rfl | assumption))
      · refine D.run 5 rfl ?_
        refine D.ce rfl rfl rfl rfl (tget_ok (by decide) (by first | rfl | decide) _ _) ?_
        refine D.br rfl (by decide) rfl (fun hc => ?_) (fun hc => ?_)
        · refine D.run 2 rfl ?_
          exact ih _ _  (by first | rfl | assumption)
        · refine D.run 5 rfl ?_
          refine D.ce rfl rfl rfl rfl (tget_ok (by decide) (by first | rfl | decide) _ _) ?_
          refine D.br rfl (by decide) rfl (fun hc => ?_) (fun hc => ?_)
          · refine D.run 2 rfl ?_
            exact ih _ _  (by first | rfl | assumption)
          · refine D.run 1 rfl ?_
            refine D.st rfl (by decide) (gf_1 h68_6) ?_
            refine D.run 4 rfl ?_
            refine D.ce rfl rfl rfl rfl (tget_ok (by decide) (by first | rfl | decide) _ _) ?_
            refine D.call rfl rfl rfl rfl (fun q h => x150_ok (by decide) h) (fun q1 => ?_)
            show _ → Rn E 171 (98, [.ref 68, .int b1, .ref (3 + 11), d3, .int b4, .int b5], [.int q1], wT I0 R) o w
            refine D.br rfl (by decide) rfl (fun hc => ?_) (fun hc => ?_)
            · refine D.run 2 rfl ?_
              exact ih _ _  (by first | rfl | assumption)
            · refine D.run 1 rfl ?_
              exact fun h => by obtain ⟨rfl, rfl⟩ := hT _ (D.some h); exact Rn.ret rfl rfl rfl
  · intro n
    induction n with
    | zero => intro b5 d3 hd3; exact D.none
    | succ n ih =>
      intro b5 d3 hd3
      rw [l171_48]
      refine D.run 2 rfl ?_
      refine D.br rfl (by decide) rfl (fun hc => ?_) (fun hc => ?_)
      · exact fun h => D.to h (K _ _ (by first | rfl | assumption) _ (by first | rfl | assumption) _ (by first | rfl | assumption) _ (by first | rfl | assumption))
      · refine D.run 5 rfl ?_
        refine D.ce rfl rfl rfl rfl (tget_ok (by decide) (by first | rfl | decide) _ _) ?_
        refine D.br rfl (by decide) rfl (fun hc => ?_) (fun hc => ?_)
        · refine D.run 2 rfl ?_
          exact ih _ _  (by first | rfl | assumption)
        · refine D.run 5 rfl ?_
          refine D.ce rfl rfl rfl rfl (tget_ok (by decide) (by first | rfl | decide) _ _) ?_
          refine D.br rfl (by decide) rfl (fun hc => ?_) (fun hc => ?_)
          · refine D.run 2 rfl ?_
            exact ih _ _  (by first | rfl | assumption)
          · refine D.run 1 rfl ?_
            refine D.st rfl (by decide) (gf_1 h68_6) ?_
            refine D.run 4 rfl ?_
            refine D.ce rfl rfl rfl rfl (tget_ok (by decide) (by first | rfl | decide) _ _) ?_
            refine D.call rfl rfl rfl rfl (fun q h => x150_ok (by decide) h) (fun q1 => ?_)
            show _ → Rn E 171 (98, [.ref 68, .int b1, .ref (18 + 11), d3, .int b4, .int b5], [.int q1], wT I0 R) o w
            refine D.br rfl (by decide) rfl (fun hc => ?_) (fun hc => ?_)
            · refine D.run 2 rfl ?_
              exact ih _ _  (by first | rfl | assumption)
            · refine D.run 1 rfl ?_
              exact fun h => by obtain ⟨rfl, rfl⟩ := hT _ (D.some h); exact Rn.ret rfl rfl rfl
def x171 (P : Nat) (I : St) (a1 : Int32) : Option (Int32) := (l171_48 P a1 ((tget I (P + 7) (I 68 8) 7) + (tget I (P + 7) (I 68 8) 8)) 100000 (tget I (P + 7) (I 68 8) 7) I).bind (Sum.elim (fun q2 => some (-1)) (fun r => some r))
set_option maxRecDepth 20000 in
theorem x171_D {E : Xe} {R : Nat → Nat → Option Nat} {P : Nat} {o : Outcome} {w : Wd} {T : (Int32) → Prop} {I : St} (hP : P = 3 ∨ P = 18) (h68_6 : R 68 6 = some P) (a1 : Int32) (hT : ∀ r, T r → o = .returned (some (.int r)) ∧ w = wT I R) : Dq (x171 P I a1) T → Rn E 171 (0, loc0 171 [.ref 68, .int a1], [], wT I R) o w := by
  unfold x171
  rcases hP with rfl | rfl
  · refine D.run 1 rfl ?_
    refine D.st rfl (by decide) (gf_1 h68_6) ?_
    refine D.run 3 rfl ?_
    refine D.st rfl (by decide) (gf_1 h68_6) ?_
    refine D.run 4 rfl ?_
    refine D.ce rfl rfl rfl rfl (tget_ok (by decide) (by first | rfl | decide) _ _) ?_
    show _ → Rn E 171 (24, [.ref 68, .int a1, .ref (3 + 11), us, us, us], [.int (tget I (3 + 7) (I 68 8) 7)], wT I R) o w
    refine D.run 3 rfl ?_
    refine D.st rfl (by decide) (gf_1 h68_6) ?_
    refine D.run 4 rfl ?_
    refine D.ce rfl rfl rfl rfl (tget_ok (by decide) (by first | rfl | decide) _ _) ?_
    refine D.run 4 rfl ?_
    refine D.bind (l171_48_ok (by decide) h68_6 (fun r h => hT _ (D.some h)) (fun q2 e3 he3 e4 he4 e5 he5 e6 he6 => ?_) 100000 _ _  (by first | rfl | assumption))
    refine D.inl ?_
    refine D.run 1 rfl ?_
    exact fun h => by obtain ⟨rfl, rfl⟩ := hT _ (D.some h); exact Rn.ret rfl rfl rfl
  · refine D.run 1 rfl ?_
    refine D.st rfl (by decide) (gf_1 h68_6) ?_
    refine D.run 3 rfl ?_
    refine D.st rfl (by decide) (gf_1 h68_6) ?_
    refine D.run 4 rfl ?_
    refine D.ce rfl rfl rfl rfl (tget_ok (by decide) (by first | rfl | decide) _ _) ?_
    show _ → Rn E 171 (24, [.ref 68, .int a1, .ref (18 + 11), us, us, us], [.int (tget I (18 + 7) (I 68 8) 7)], wT I R) o w
    refine D.run 3 rfl ?_
    refine D.st rfl (by decide) (gf_1 h68_6) ?_
    refine D.run 4 rfl ?_
    refine D.ce rfl rfl rfl rfl (tget_ok (by decide) (by first | rfl | decide) _ _) ?_
    refine D.run 4 rfl ?_
    refine D.bind (l171_48_ok (by decide) h68_6 (fun r h => hT _ (D.some h)) (fun q2 e3 he3 e4 he4 e5 he5 e6 he6 => ?_) 100000 _ _  (by first | rfl | assumption))
    refine D.inl ?_
    refine D.run 1 rfl ?_
    exact fun h => by obtain ⟨rfl, rfl⟩ := hT _ (D.some h); exact Rn.ret rfl rfl rfl
set_option maxRecDepth 20000 in
theorem x171_ok {E : Xe} {R : Nat → Nat → Option Nat} {P : Nat} {I : St} (hP : P = 3 ∨ P = 18) (h68_6 : R 68 6 = some P) {a1 : Int32} {q : Int32} (h : x171 P I a1 = some q) : Rn E 171 (0, loc0 171 [.ref 68, .int a1], [], wT I R) (.returned (some (.int q))) (wT I R) := x171_D hP h68_6 _ (T := fun r => r = q) (by rintro r rfl; exact ⟨rfl, rfl⟩) ⟨_, h, rfl⟩
/-- TaintHouse$Heap.cellsTaken()I -/
def x173 (I : St) : Int32 := ((I 70 3) + (I 72 3))
set_option maxRecDepth 20000 in
theorem x173_ok {E : Xe} {R : Nat → Nat → Option Nat} {I : St} : Rn E 173 (0, loc0 173 [.ref 69], [], wT I R) (.returned (some (.int (x173 I)))) (wT I R) := by
  have H : ∀ (o : Outcome) (w : Wd) (T : Int32 → Prop), (∀ r, T r → o = .returned (some (.int r)) ∧ w = wT I R) → Dq (some (x173 I)) T → Rn E 173 (0, loc0 173 [.ref 69], [], wT I R) o w := by
    intro o w T hT
    unfold x173
    refine D.run 2 rfl ?_
    refine D.ce rfl rfl rfl rfl (tsize_ok (by decide) (by first | rfl | decide)) ?_
    refine D.run 2 rfl ?_
    refine D.ce rfl rfl rfl rfl (tsize_ok (by decide) (by first | rfl | decide)) ?_
    refine D.run 1 rfl ?_
    exact fun h => by obtain ⟨rfl, rfl⟩ := hT _ (D.some h); exact Rn.ret rfl rfl rfl
  exact H _ _ (fun r => r = x173 I) (by rintro r rfl; exact ⟨rfl, rfl⟩) ⟨_, rfl, rfl⟩
/-- TaintHouse.event(II)I -/
def x174 (I : St) (a1 a2 : Int32) : Int32 := if (I 68 13) = 0 then (-1) else if (thol I 76 a1) = 0 then (-1) else if a2 < 0 then (-1) else if a2 ≤ 3 then (tget I 76 a1 a2) else (-1)
set_option maxRecDepth 20000 in
theorem x174_ok {E : Xe} {R : Nat → Nat → Option Nat} {I : St} (a1 a2 : Int32) : Rn E 174 (0, loc0 174 [.ref 0, .int a1, .int a2], [], wT I R) (.returned (some (.int (x174 I a1 a2)))) (wT I R) := by
  have H : ∀ (o : Outcome) (w : Wd) (T : Int32 → Prop), (∀ r, T r → o = .returned (some (.int r)) ∧ w = wT I R) → Dq (some (x174 I a1 a2)) T → Rn E 174 (0, loc0 174 [.ref 0, .int a1, .int a2], [], wT I R) o w := by
    intro o w T hT
    unfold x174
    refine D.run 3 rfl ?_
    refine D.brp rfl (by decide) rfl (fun hc => ?_) (fun hc => ?_)
    · refine D.run 1 rfl ?_
      exact fun h => by obtain ⟨rfl, rfl⟩ := hT _ (D.some h); exact Rn.ret rfl rfl rfl
    · refine D.run 4 rfl ?_
      refine D.ce rfl rfl rfl rfl (tholds_ok (by decide) (by first | rfl | decide) _) ?_
      refine D.brp rfl (by decide) rfl (fun hc => ?_) (fun hc => ?_)
      · refine D.run 1 rfl ?_
        exact fun h => by obtain ⟨rfl, rfl⟩ := hT _ (D.some h); exact Rn.ret rfl rfl rfl
      · refine D.run 1 rfl ?_
        refine D.brp rfl (by decide) rfl (fun hc => ?_) (fun hc => ?_)
        · refine D.run 1 rfl ?_
          exact fun h => by obtain ⟨rfl, rfl⟩ := hT _ (D.some h); exact Rn.ret rfl rfl rfl
        · refine D.run 2 rfl ?_
          refine D.brp rfl (by decide) rfl (fun hc => ?_) (fun hc => ?_)
          · refine D.run 5 rfl ?_
            refine D.ce rfl rfl rfl rfl (tget_ok (by decide) (by first | rfl | decide) _ _) ?_
            exact fun h => by obtain ⟨rfl, rfl⟩ := hT _ (D.some h); exact Rn.ret rfl rfl rfl
          · refine D.run 1 rfl ?_
            exact fun h => by obtain ⟨rfl, rfl⟩ := hT _ (D.some h); exact Rn.ret rfl rfl rfl
  exact H _ _ (fun r => r = x174 I a1 a2) (by rintro r rfl; exact ⟨rfl, rfl⟩) ⟨_, rfl, rfl⟩
/-- TaintHouse.object(II)I -/
def x175 (I : St) (a1 a2 : Int32) : Int32 := if (I 68 13) = 0 then (-1) else if (thol I 70 a1) = 0 then (-1) else if a2 = 0 then (x149 I a1) else if a2 = 1 then (x159 I a1) else if a2 = 2 then (x162 I a1) else (-1)
set_option maxRecDepth 20000 in
theorem x175_ok {E : Xe} {R : Nat → Nat → Option Nat} {I : St} (a1 a2 : Int32) : Rn E 175 (0, loc0 175 [.ref 0, .int a1, .int a2], [], wT I R) (.returned (some (.int (x175 I a1 a2)))) (wT I R) := by
  have H : ∀ (o : Outcome) (w : Wd) (T : Int32 → Prop), (∀ r, T r → o = .returned (some (.int r)) ∧ w = wT I R) → Dq (some (x175 I a1 a2)) T → Rn E 175 (0, loc0 175 [.ref 0, .int a1, .int a2], [], wT I R) o w := by
    intro o w T hT
    unfold x175
    refine D.run 3 rfl ?_
    refine D.brp rfl (by decide) rfl (fun hc => ?_) (fun hc => ?_)
    · refine D.run 1 rfl ?_
      exact fun h => by obtain ⟨rfl, rfl⟩ := hT _ (D.some h); exact Rn.ret rfl rfl rfl
    · refine D.run 5 rfl ?_
      refine D.ce rfl rfl rfl rfl (tholds_ok (by decide) (by first | rfl | decide) _) ?_
      refine D.brp rfl (by decide) rfl (fun hc => ?_) (fun hc => ?_)
      · refine D.run 1 rfl ?_
        exact fun h => by obtain ⟨rfl, rfl⟩ := hT _ (D.some h); exact Rn.ret rfl rfl rfl
      · refine D.run 1 rfl ?_
        refine D.sw rfl (by decide) rfl ?_
        show _ → Rn E 175 (swT [(0, 56), (1, 68), (2, 80)] 92 _, _, _, _) _ _
        refine D.swcp (fun hc => ?_) (fun hc => ?_)
        · refine D.run 4 rfl ?_
          refine D.ce rfl rfl rfl rfl (x149_ok _) ?_
          exact fun h => by obtain ⟨rfl, rfl⟩ := hT _ (D.some h); exact Rn.ret rfl rfl rfl
        · refine D.swcp (fun hc => ?_) (fun hc => ?_)
          · refine D.run 4 rfl ?_
            refine D.ce rfl rfl rfl rfl (x159_ok _) ?_
            exact fun h => by obtain ⟨rfl, rfl⟩ := hT _ (D.some h); exact Rn.ret rfl rfl rfl
          · refine D.swcp (fun hc => ?_) (fun hc => ?_)
            · refine D.run 4 rfl ?_
              refine D.ce rfl rfl rfl rfl (x162_ok _) ?_
              exact fun h => by obtain ⟨rfl, rfl⟩ := hT _ (D.some h); exact Rn.ret rfl rfl rfl
            · refine D.run 1 rfl ?_
              exact fun h => by obtain ⟨rfl, rfl⟩ := hT _ (D.some h); exact Rn.ret rfl rfl rfl
  exact H _ _ (fun r => r = x175 I a1 a2) (by rintro r rfl; exact ⟨rfl, rfl⟩) ⟨_, rfl, rfl⟩
/-- TaintHouse$Heap.hasSlot(II)Z -/
def x177 (I : St) (a1 a2 : Int32) : Int32 := if (thol I 70 a1) = 0 then 0 else if a2 < 0 then 0 else if (x159 I a1) ≤ a2 then 0 else 1
set_option maxRecDepth 20000 in
theorem x177_ok {E : Xe} {R : Nat → Nat → Option Nat} {I : St} (a1 a2 : Int32) : Rn E 177 (0, loc0 177 [.ref 69, .int a1, .int a2], [], wT I R) (.returned (some (.int (x177 I a1 a2)))) (wT I R) := by
  have H : ∀ (o : Outcome) (w : Wd) (T : Int32 → Prop), (∀ r, T r → o = .returned (some (.int r)) ∧ w = wT I R) → Dq (some (x177 I a1 a2)) T → Rn E 177 (0, loc0 177 [.ref 69, .int a1, .int a2], [], wT I R) o w := by
    intro o w T hT
    unfold x177
    refine D.run 3 rfl ?_
    refine D.ce rfl rfl rfl rfl (tholds_ok (by decide) (by first | rfl | decide) _) ?_
    refine D.brp rfl (by decide) rfl (fun hc => ?_) (fun hc => ?_)
    · refine D.run 1 rfl ?_
      exact fun h => by obtain ⟨rfl, rfl⟩ := hT _ (D.some h); exact Rn.ret rfl rfl (by first | rfl | (simp [rt1, rt]; done) | decide)
    · refine D.run 1 rfl ?_
      refine D.brp rfl (by decide) rfl (fun hc => ?_) (fun hc => ?_)
      · refine D.run 1 rfl ?_
        exact fun h => by obtain ⟨rfl, rfl⟩ := hT _ (D.some h); exact Rn.ret rfl rfl (by first | rfl | (simp [rt1, rt]; done) | decide)
      · refine D.run 3 rfl ?_
        refine D.ce rfl rfl rfl rfl (x159_ok _) ?_
        refine D.brp rfl (by decide) rfl (fun hc => ?_) (fun hc => ?_)
        · refine D.run 1 rfl ?_
          exact fun h => by obtain ⟨rfl, rfl⟩ := hT _ (D.some h); exact Rn.ret rfl rfl (by first | rfl | (simp [rt1, rt]; done) | decide)
        · refine D.run 2 rfl ?_
          exact fun h => by obtain ⟨rfl, rfl⟩ := hT _ (D.some h); exact Rn.ret rfl rfl (by first | rfl | (simp [rt1, rt]; done) | decide)
  exact H _ _ (fun r => r = x177 I a1 a2) (by rintro r rfl; exact ⟨rfl, rfl⟩) ⟨_, rfl, rfl⟩
/-- TaintHouse.stat(II)I -/
def x178 (P : Nat) (I : St) (a1 a2 : Int32) : Int32 := if (I 68 13) = 0 then (-1) else if (thol I (P + 5) a1) = 0 then (-1) else if a2 = 0 then (tget I 74 a1 0) else if a2 = 1 then (tget I 74 a1 1) else (-1)
set_option maxRecDepth 20000 in
theorem x178_ok {E : Xe} {R : Nat → Nat → Option Nat} {P : Nat} {I : St} (hP : P = 3 ∨ P = 18) (h0_8 : R 0 8 = some P) (a1 a2 : Int32) : Rn E 178 (0, loc0 178 [.ref 0, .int a1, .int a2], [], wT I R) (.returned (some (.int (x178 P I a1 a2)))) (wT I R) := by
  have H : ∀ (o : Outcome) (w : Wd) (T : Int32 → Prop), (∀ r, T r → o = .returned (some (.int r)) ∧ w = wT I R) → Dq (some (x178 P I a1 a2)) T → Rn E 178 (0, loc0 178 [.ref 0, .int a1, .int a2], [], wT I R) o w := by
    intro o w T hT
    unfold x178
    rcases hP with rfl | rfl
    all_goals
      refine D.run 3 rfl ?_
      refine D.brp rfl (by decide) rfl (fun hc => ?_) (fun hc => ?_)
      · refine D.run 1 rfl ?_
        exact fun h => by obtain ⟨rfl, rfl⟩ := hT _ (D.some h); exact Rn.ret rfl rfl rfl
      · refine D.run 1 rfl ?_
        refine D.st rfl (by decide) (gf_1 h0_8) ?_
        refine D.run 2 rfl ?_
        refine D.ce rfl rfl rfl rfl (tholds_ok (by decide) (by first | rfl | decide) _) ?_
        refine D.brp rfl (by decide) rfl (fun hc => ?_) (fun hc => ?_)
        · refine D.run 1 rfl ?_
          exact fun h => by obtain ⟨rfl, rfl⟩ := hT _ (D.some h); exact Rn.ret rfl rfl rfl
        · refine D.run 1 rfl ?_
          refine D.sw rfl (by decide) rfl ?_
          show _ → Rn E 178 (swT [(0, 52), (1, 65)] 78 _, _, _, _) _ _
          refine D.swcp (fun hc => ?_) (fun hc => ?_)
          · refine D.run 5 rfl ?_
            refine D.ce rfl rfl rfl rfl (tget_ok (by decide) (by first | rfl | decide) _ _) ?_
            exact fun h => by obtain ⟨rfl, rfl⟩ := hT _ (D.some h); exact Rn.ret rfl rfl rfl
          · refine D.swcp (fun hc => ?_) (fun hc => ?_)
            · refine D.run 5 rfl ?_
              refine D.ce rfl rfl rfl rfl (tget_ok (by decide) (by first | rfl | decide) _ _) ?_
              exact fun h => by obtain ⟨rfl, rfl⟩ := hT _ (D.some h); exact Rn.ret rfl rfl rfl
            · refine D.run 1 rfl ?_
              exact fun h => by obtain ⟨rfl, rfl⟩ := hT _ (D.some h); exact Rn.ret rfl rfl rfl
  exact H _ _ (fun r => r = x178 P I a1 a2) (by rintro r rfl; exact ⟨rfl, rfl⟩) ⟨_, rfl, rfl⟩
/-- TaintHouse.type(II)I -/
def x179 (P : Nat) (I : St) (a1 a2 : Int32) : Int32 := if (thol I (P + 1) a1) = 0 then (-1) else if a2 = 0 then (tget I (P + 1) a1 0) else if a2 = 1 then (tget I (P + 1) a1 4) else if a2 = 2 then (tget I (P + 1) a1 5) else (-1)
set_option maxRecDepth 20000 in
theorem x179_ok {E : Xe} {R : Nat → Nat → Option Nat} {P : Nat} {I : St} (hP : P = 3 ∨ P = 18) (h0_8 : R 0 8 = some P) (a1 a2 : Int32) : Rn E 179 (0, loc0 179 [.ref 0, .int a1, .int a2], [], wT I R) (.returned (some (.int (x179 P I a1 a2)))) (wT I R) := by
  have H : ∀ (o : Outcome) (w : Wd) (T : Int32 → Prop), (∀ r, T r → o = .returned (some (.int r)) ∧ w = wT I R) → Dq (some (x179 P I a1 a2)) T → Rn E 179 (0, loc0 179 [.ref 0, .int a1, .int a2], [], wT I R) o w := by
    intro o w T hT
    unfold x179
    rcases hP with rfl | rfl
    all_goals
      refine D.run 1 rfl ?_
      refine D.st rfl (by decide) (gf_1 h0_8) ?_
      refine D.run 2 rfl ?_
      refine D.ce rfl rfl rfl rfl (tholds_ok (by decide) (by first | rfl | decide) _) ?_
      refine D.brp rfl (by decide) rfl (fun hc => ?_) (fun hc => ?_)
      · refine D.run 1 rfl ?_
        exact fun h => by obtain ⟨rfl, rfl⟩ := hT _ (D.some h); exact Rn.ret rfl rfl rfl
      · refine D.run 1 rfl ?_
        refine D.sw rfl (by decide) rfl ?_
        show _ → Rn E 179 (swT [(0, 44), (1, 57), (2, 70)] 83 _, _, _, _) _ _
        refine D.swcp (fun hc => ?_) (fun hc => ?_)
        · refine D.run 1 rfl ?_
          refine D.st rfl (by decide) (gf_1 h0_8) ?_
          refine D.run 3 rfl ?_
          refine D.ce rfl rfl rfl rfl (tget_ok (by decide) (by first | rfl | decide) _ _) ?_
          exact fun h => by obtain ⟨rfl, rfl⟩ := hT _ (D.some h); exact Rn.ret rfl rfl rfl
        · refine D.swcp (fun hc => ?_) (fun hc => ?_)
          · refine D.run 1 rfl ?_
            refine D.st rfl (by decide) (gf_1 h0_8) ?_
            refine D.run 3 rfl ?_
            refine D.ce rfl rfl rfl rfl (tget_ok (by decide) (by first | rfl | decide) _ _) ?_
            exact fun h => by obtain ⟨rfl, rfl⟩ := hT _ (D.some h); exact Rn.ret rfl rfl rfl
          · refine D.swcp (fun hc => ?_) (fun hc => ?_)
            · refine D.run 1 rfl ?_
              refine D.st rfl (by decide) (gf_1 h0_8) ?_
              refine D.run 3 rfl ?_
              refine D.ce rfl rfl rfl rfl (tget_ok (by decide) (by first | rfl | decide) _ _) ?_
              exact fun h => by obtain ⟨rfl, rfl⟩ := hT _ (D.some h); exact Rn.ret rfl rfl rfl
            · refine D.run 1 rfl ?_
              exact fun h => by obtain ⟨rfl, rfl⟩ := hT _ (D.some h); exact Rn.ret rfl rfl rfl
  exact H _ _ (fun r => r = x179 P I a1 a2) (by rintro r rfl; exact ⟨rfl, rfl⟩) ⟨_, rfl, rfl⟩
/-- TaintHouse.method(II)I -/
def x180 (P : Nat) (I : St) (a1 a2 : Int32) : Int32 := if (thol I (P + 7) a1) = 0 then (-1) else if a2 = 0 then (tget I (P + 7) a1 0) else if a2 = 1 then (tget I (P + 7) a1 4) else if a2 = 2 then (tget I (P + 7) a1 3) else if a2 = 3 then (tget I (P + 7) a1 2) else if a2 = 4 then (tget I (P + 7) a1 6) else if a2 = 5 then (tget I (P + 7) a1 9) else (-1)
set_option maxRecDepth 20000 in
theorem x180_ok {E : Xe} {R : Nat → Nat → Option Nat} {P : Nat} {I : St} (hP : P = 3 ∨ P = 18) (h0_8 : R 0 8 = some P) (a1 a2 : Int32) : Rn E 180 (0, loc0 180 [.ref 0, .int a1, .int a2], [], wT I R) (.returned (some (.int (x180 P I a1 a2)))) (wT I R) := by
  have H : ∀ (o : Outcome) (w : Wd) (T : Int32 → Prop), (∀ r, T r → o = .returned (some (.int r)) ∧ w = wT I R) → Dq (some (x180 P I a1 a2)) T → Rn E 180 (0, loc0 180 [.ref 0, .int a1, .int a2], [], wT I R) o w := by
    intro o w T hT
    unfold x180
    rcases hP with rfl | rfl
    all_goals
      refine D.run 1 rfl ?_
      refine D.st rfl (by decide) (gf_1 h0_8) ?_
      refine D.run 2 rfl ?_
      refine D.ce rfl rfl rfl rfl (tholds_ok (by decide) (by first | rfl | decide) _) ?_
      refine D.brp rfl (by decide) rfl (fun hc => ?_) (fun hc => ?_)
      · refine D.run 1 rfl ?_
        exact fun h => by obtain ⟨rfl, rfl⟩ := hT _ (D.some h); exact Rn.ret rfl rfl rfl
      · refine D.run 1 rfl ?_
        refine D.sw rfl (by decide) rfl ?_
        show _ → Rn E 180 (swT [(0, 56), (1, 69), (2, 82), (3, 95), (4, 108), (5, 122)] 136 _, _, _, _) _ _
        refine D.swcp (fun hc => ?_) (fun hc => ?_)
        · refine D.run 1 rfl ?_
          refine D.st rfl (by decide) (gf_1 h0_8) ?_
          refine D.run 3 rfl ?_
          refine D.ce rfl rfl rfl rfl (tget_ok (by decide) (by first | rfl | decide) _ _) ?_
          exact fun h => by obtain ⟨rfl, rfl⟩ := hT _ (D.some h); exact Rn.ret rfl rfl rfl
        · refine D.swcp (fun hc => ?_) (fun hc => ?_)
          · refine D.run 1 rfl ?_
            refine D.st rfl (by decide) (gf_1 h0_8) ?_
            refine D.run 3 rfl ?_
            refine D.ce rfl rfl rfl rfl (tget_ok (by decide) (by first | rfl | decide) _ _) ?_
            exact fun h => by obtain ⟨rfl, rfl⟩ := hT _ (D.some h); exact Rn.ret rfl rfl rfl
          · refine D.swcp (fun hc => ?_) (fun hc => ?_)
            · refine D.run 1 rfl ?_
              refine D.st rfl (by decide) (gf_1 h0_8) ?_
              refine D.run 3 rfl ?_
              refine D.ce rfl rfl rfl rfl (tget_ok (by decide) (by first | rfl | decide) _ _) ?_
              exact fun h => by obtain ⟨rfl, rfl⟩ := hT _ (D.some h); exact Rn.ret rfl rfl rfl
            · refine D.swcp (fun hc => ?_) (fun hc => ?_)
              · refine D.run 1 rfl ?_
                refine D.st rfl (by decide) (gf_1 h0_8) ?_
                refine D.run 3 rfl ?_
                refine D.ce rfl rfl rfl rfl (tget_ok (by decide) (by first | rfl | decide) _ _) ?_
                exact fun h => by obtain ⟨rfl, rfl⟩ := hT _ (D.some h); exact Rn.ret rfl rfl rfl
              · refine D.swcp (fun hc => ?_) (fun hc => ?_)
                · refine D.run 1 rfl ?_
                  refine D.st rfl (by decide) (gf_1 h0_8) ?_
                  refine D.run 3 rfl ?_
                  refine D.ce rfl rfl rfl rfl (tget_ok (by decide) (by first | rfl | decide) _ _) ?_
                  exact fun h => by obtain ⟨rfl, rfl⟩ := hT _ (D.some h); exact Rn.ret rfl rfl rfl
                · refine D.swcp (fun hc => ?_) (fun hc => ?_)
                  · refine D.run 1 rfl ?_
                    refine D.st rfl (by decide) (gf_1 h0_8) ?_
                    refine D.run 3 rfl ?_
                    refine D.ce rfl rfl rfl rfl (tget_ok (by decide) (by first | rfl | decide) _ _) ?_
                    exact fun h => by obtain ⟨rfl, rfl⟩ := hT _ (D.some h); exact Rn.ret rfl rfl rfl
                  · refine D.run 1 rfl ?_
                    exact fun h => by obtain ⟨rfl, rfl⟩ := hT _ (D.some h); exact Rn.ret rfl rfl rfl
  exact H _ _ (fun r => r = x180 P I a1 a2) (by rintro r rfl; exact ⟨rfl, rfl⟩) ⟨_, rfl, rfl⟩
/-- TaintHouse.count(I)I -/
def x181 (P : Nat) (I : St) (a1 : Int32) : Int32 := if a1 = 0 then (I (P + 1) 3) else if a1 = 1 then (I (P + 7) 3) else if a1 = 2 then (I (P + 5) 3) else if a1 = 3 then (I 61 0) else if a1 = 4 then (I 1 3) else (-1)
set_option maxRecDepth 20000 in
theorem x181_ok {E : Xe} {R : Nat → Nat → Option Nat} {P : Nat} {I : St} (hP : P = 3 ∨ P = 18) (h0_8 : R 0 8 = some P) (a1 : Int32) : Rn E 181 (0, loc0 181 [.ref 0, .int a1], [], wT I R) (.returned (some (.int (x181 P I a1)))) (wT I R) := by
  have H : ∀ (o : Outcome) (w : Wd) (T : Int32 → Prop), (∀ r, T r → o = .returned (some (.int r)) ∧ w = wT I R) → Dq (some (x181 P I a1)) T → Rn E 181 (0, loc0 181 [.ref 0, .int a1], [], wT I R) o w := by
    intro o w T hT
    unfold x181
    rcases hP with rfl | rfl
    all_goals
      refine D.run 1 rfl ?_
      refine D.sw rfl (by decide) rfl ?_
      show _ → Rn E 181 (swT [(0, 36), (1, 47), (2, 58), (3, 69), (4, 77)] 85 _, _, _, _) _ _
      refine D.swcp (fun hc => ?_) (fun hc => ?_)
      · refine D.run 1 rfl ?_
        refine D.st rfl (by decide) (gf_1 h0_8) ?_
        refine D.run 1 rfl ?_
        refine D.ce rfl rfl rfl rfl (tsize_ok (by decide) (by first | rfl | decide)) ?_
        exact fun h => by obtain ⟨rfl, rfl⟩ := hT _ (D.some h); exact Rn.ret rfl rfl rfl
      · refine D.swcp (fun hc => ?_) (fun hc => ?_)
        · refine D.run 1 rfl ?_
          refine D.st rfl (by decide) (gf_1 h0_8) ?_
          refine D.run 1 rfl ?_
          refine D.ce rfl rfl rfl rfl (tsize_ok (by decide) (by first | rfl | decide)) ?_
          exact fun h => by obtain ⟨rfl, rfl⟩ := hT _ (D.some h); exact Rn.ret rfl rfl rfl
        · refine D.swcp (fun hc => ?_) (fun hc => ?_)
          · refine D.run 1 rfl ?_
            refine D.st rfl (by decide) (gf_1 h0_8) ?_
            refine D.run 1 rfl ?_
            refine D.ce rfl rfl rfl rfl (tsize_ok (by decide) (by first | rfl | decide)) ?_
            exact fun h => by obtain ⟨rfl, rfl⟩ := hT _ (D.some h); exact Rn.ret rfl rfl rfl
          · refine D.swcp (fun hc => ?_) (fun hc => ?_)
            · refine D.run 3 rfl ?_
              exact fun h => by obtain ⟨rfl, rfl⟩ := hT _ (D.some h); exact Rn.ret rfl rfl rfl
            · refine D.swcp (fun hc => ?_) (fun hc => ?_)
              · refine D.run 2 rfl ?_
                refine D.ce rfl rfl rfl rfl (tsize_ok (by decide) (by first | rfl | decide)) ?_
                exact fun h => by obtain ⟨rfl, rfl⟩ := hT _ (D.some h); exact Rn.ret rfl rfl rfl
              · refine D.run 1 rfl ?_
                exact fun h => by obtain ⟨rfl, rfl⟩ := hT _ (D.some h); exact Rn.ret rfl rfl rfl
  exact H _ _ (fun r => r = x181 P I a1) (by rintro r rfl; exact ⟨rfl, rfl⟩) ⟨_, rfl, rfl⟩
/-- TaintHouseModel$Program.clear()V -/
def x186 (Z : Nat) (I : St) : Option (St) := Lt (up2 (up2 (up2 (up2 (up2 (up2 (up2 (up2 I Z 3 0) Z 4 0) Z 5 0) Z 6 0) Z 7 0) Z 8 0) Z 9 0) Z 10 0) fun J1 => some (up2 J1 Z 11 0)
set_option maxRecDepth 20000 in
theorem x186_D {E : Xe} {R : Nat → Nat → Option Nat} {Z : Nat} {o : Outcome} {w : Wd} {T : (St) → Prop} {I : St} (hZ : Z = 85 ∨ Z = 126) (hT : ∀ r, T r → o = .returned none ∧ w = wT r R) : Dq (x186 Z I) T → Rn E 186 (0, loc0 186 [.ref Z], [], wT I R) o w := by
  unfold x186
  rcases hZ with rfl | rfl
  all_goals
    refine D.run 24 rfl ?_
    refine D.letS (fun J1 => ?_)
    refine D.run 3 rfl ?_
    exact fun h => by obtain ⟨rfl, rfl⟩ := hT _ (D.some h); exact Rn.ret rfl rfl rfl
set_option maxRecDepth 20000 in
theorem x186_ok {E : Xe} {R : Nat → Nat → Option Nat} {Z : Nat} {I : St} (hZ : Z = 85 ∨ Z = 126) {q : St} (h : x186 Z I = some q) : Rn E 186 (0, loc0 186 [.ref Z], [], wT I R) (.returned none) (wT q R) := x186_D hZ (T := fun r => r = q) (by rintro r rfl; exact ⟨rfl, rfl⟩) ⟨_, h, rfl⟩
/-- TaintHouseModel.swap()V -/
def x187 (Q : Nat) (Z : Nat) (I : St) : Option (St) := some I
set_option maxRecDepth 20000 in
theorem x187_D {E : Xe} {R : Nat → Nat → Option Nat} {Q : Nat} {Z : Nat} {o : Outcome} {w : Wd} {T : (St) → Prop} {I : St} (hQ : Q = 85 ∨ Q = 126) (hZ : Z = 85 ∨ Z = 126) (h82_3 : R 82 3 = some Q) (h82_4 : R 82 4 = some Z) (hT : ∀ r, T r → o = .returned none ∧ w = wT r (up2 (up2 R 82 3 (some Z)) 82 4 (some Q))) : Dq (x187 Q Z I) T → Rn E 187 (0, loc0 187 [.ref 82], [], wT I R) o w := by
  unfold x187
  rcases hQ with rfl | rfl <;> rcases hZ with rfl | rfl
  all_goals
    refine D.run 1 rfl ?_
    refine D.st rfl (by decide) (gf_1 h82_3) ?_
    refine D.run 3 rfl ?_
    refine D.st rfl (by decide) (gf_1 h82_4) ?_
    refine D.run 4 rfl ?_
    exact fun h => by obtain ⟨rfl, rfl⟩ := hT _ (D.some h); exact Rn.ret rfl rfl rfl
set_option maxRecDepth 20000 in
theorem x187_ok {E : Xe} {R : Nat → Nat → Option Nat} {Q : Nat} {Z : Nat} {I : St} (hQ : Q = 85 ∨ Q = 126) (hZ : Z = 85 ∨ Z = 126) (h82_3 : R 82 3 = some Q) (h82_4 : R 82 4 = some Z) {q : St} (h : x187 Q Z I = some q) : Rn E 187 (0, loc0 187 [.ref 82], [], wT I R) (.returned none) (wT q (up2 (up2 R 82 3 (some Z)) 82 4 (some Q))) := x187_D hQ hZ h82_3 h82_4 (T := fun r => r = q) (by rintro r rfl; exact ⟨rfl, rfl⟩) ⟨_, h, rfl⟩
/-- TaintHouseModel.typed(I)V -/
def l189_3 (b1 : Int32) : Nat → Int32 → St → Option (St)
  | 0, _, _ => none
  | n + 1, b2, I => if b2 < 0 then some I else if inb (I 82 1) 4000 then Lt (up2 (up2 I 83 (I 82 1).toNatClampNeg (vp_nar .byte (i2b (b1 >>> (b2 &&& 31))))) 82 1 ((I 82 1) + 1)) fun J1 => l189_3 b1 n (b2 + (-8)) J1 else none
set_option maxRecDepth 20000 in
theorem l189_3_ok {E : Xe} {R : Nat → Nat → Option Nat} {o : Outcome} {w : Wd} {T : (St) → Prop} {b1 : Int32} (K : ∀ (q : St) (e1 : Value) (_ : is1 e1 = true) (e2 : Value) (_ : is1 e2 = true), T q → Rn E 189 (36, [.ref 82, e1, e2], [], wT q R) o w) : ∀ (n : Nat) (b2 : Int32) (I : St), Dq (l189_3 b1 n b2 I) T → Rn E 189 (3, [.ref 82, .int b1, .int b2], [], wT I R) o w := by
  intro n
  induction n with
  | zero => intro b2 I; exact D.none
  | succ n ih =>
    intro b2 I
    rw [l189_3]
    refine D.run 1 rfl ?_
    refine D.br rfl (by decide) rfl (fun hc => ?_) (fun hc => ?_)
    · exact fun h => D.to h (K _ _ (by first | rfl | assumption) _ (by first | rfl | assumption))
    · refine D.run 8 rfl ?_
      refine D.gd fun hg => ?_
      refine D.st rfl (by decide) (as_b (by decide) (by first | rfl | decide) hg.1 hg.2) ?_
      refine D.run 6 rfl ?_
      refine D.letS (fun J1 => ?_)
      show _ → Rn E 189 (30, [.ref 82, .int b1, .int b2], [], wT J1 R) o w
      refine D.run 2 rfl ?_
      exact ih _ _ 
def x189 (I : St) (a1 : Int32) : Option (St) := (l189_3 a1 100000 24 I).bind fun q2 => some q2
set_option maxRecDepth 20000 in
theorem x189_D {E : Xe} {R : Nat → Nat → Option Nat} {o : Outcome} {w : Wd} {T : (St) → Prop} {I : St} (a1 : Int32) (hT : ∀ r, T r → o = .returned none ∧ w = wT r R) : Dq (x189 I a1) T → Rn E 189 (0, loc0 189 [.ref 82, .int a1], [], wT I R) o w := by
  unfold x189
  refine D.run 2 rfl ?_
  refine D.bind (l189_3_ok  (fun q2 e3 he3 e4 he4 => ?_) 100000 _  _ )
  exact fun h => by obtain ⟨rfl, rfl⟩ := hT _ (D.some h); exact Rn.ret rfl rfl rfl
set_option maxRecDepth 20000 in
theorem x189_ok {E : Xe} {R : Nat → Nat → Option Nat} {I : St} {a1 : Int32} {q : St} (h : x189 I a1 = some q) : Rn E 189 (0, loc0 189 [.ref 82, .int a1], [], wT I R) (.returned none) (wT q R) := x189_D  _ (T := fun r => r = q) (by rintro r rfl; exact ⟨rfl, rfl⟩) ⟨_, h, rfl⟩
/-- TaintHouseModel.end(I)Z -/
def x190 (I : St) (a1 : Int32) : Option (Int32 × St) := if a1 < 0 then some (0, I) else if a1 ≤ (I 82 1) then some (1, (up2 I 82 1 a1)) else some (0, I)
set_option maxRecDepth 20000 in
theorem x190_D {E : Xe} {R : Nat → Nat → Option Nat} {o : Outcome} {w : Wd} {T : (Int32 × St) → Prop} {I : St} (a1 : Int32) (hT : ∀ r, T r → o = .returned (some (.int r.1)) ∧ w = wT r.2 R) : Dq (x190 I a1) T → Rn E 190 (0, loc0 190 [.ref 82, .int a1], [], wT I R) o w := by
  unfold x190
  refine D.run 1 rfl ?_
  refine D.br rfl (by decide) rfl (fun hc => ?_) (fun hc => ?_)
  · refine D.run 1 rfl ?_
    exact fun h => by obtain ⟨rfl, rfl⟩ := hT _ (D.some h); exact Rn.ret rfl rfl (by first | rfl | (simp [rt1, rt]; done) | decide)
  · refine D.run 3 rfl ?_
    refine D.br rfl (by decide) rfl (fun hc => ?_) (fun hc => ?_)
    · refine D.run 4 rfl ?_
      exact fun h => by obtain ⟨rfl, rfl⟩ := hT _ (D.some h); exact Rn.ret rfl rfl (by first | rfl | (simp [rt1, rt]; done) | decide)
    · refine D.run 1 rfl ?_
      exact fun h => by obtain ⟨rfl, rfl⟩ := hT _ (D.some h); exact Rn.ret rfl rfl (by first | rfl | (simp [rt1, rt]; done) | decide)
set_option maxRecDepth 20000 in
theorem x190_ok {E : Xe} {R : Nat → Nat → Option Nat} {I : St} {a1 : Int32} {q : Int32 × St} (h : x190 I a1 = some q) : Rn E 190 (0, loc0 190 [.ref 82, .int a1], [], wT I R) (.returned (some (.int q.1))) (wT q.2 R) := x190_D  _ (T := fun r => r = q) (by rintro r rfl; exact ⟨rfl, rfl⟩) ⟨_, h, rfl⟩
/-- TaintHouseModel.look(I)I -/
def x193 (I : St) (a1 : Int32) : Option (Int32) := if (I 82 1) ≤ a1 then some (-1) else if inb a1 4000 then some ((I 83 a1.toNatClampNeg) &&& 255) else none
set_option maxRecDepth 20000 in
theorem x193_D {E : Xe} {R : Nat → Nat → Option Nat} {o : Outcome} {w : Wd} {T : (Int32) → Prop} {I : St} (a1 : Int32) (hT : ∀ r, T r → o = .returned (some (.int r)) ∧ w = wT I R) : Dq (x193 I a1) T → Rn E 193 (0, loc0 193 [.ref 82, .int a1], [], wT I R) o w := by
  unfold x193
  refine D.run 3 rfl ?_
  refine D.br rfl (by decide) rfl (fun hc => ?_) (fun hc => ?_)
  · refine D.run 1 rfl ?_
    exact fun h => by obtain ⟨rfl, rfl⟩ := hT _ (D.some h); exact Rn.ret rfl rfl rfl
  · refine D.run 3 rfl ?_
    refine D.gd fun hg => ?_
    refine D.st rfl (by decide) (al_b (by decide) (by first | rfl | decide) hg.1 hg.2) ?_
    refine D.run 3 rfl ?_
    exact fun h => by obtain ⟨rfl, rfl⟩ := hT _ (D.some h); exact Rn.ret rfl rfl rfl
set_option maxRecDepth 20000 in
theorem x193_ok {E : Xe} {R : Nat → Nat → Option Nat} {I : St} {a1 : Int32} {q : Int32} (h : x193 I a1 = some q) : Rn E 193 (0, loc0 193 [.ref 82, .int a1], [], wT I R) (.returned (some (.int q))) (wT I R) := x193_D  _ (T := fun r => r = q) (by rintro r rfl; exact ⟨rfl, rfl⟩) ⟨_, h, rfl⟩
/-- TaintHouseModel.isLetter(I)Z -/
def x194 (I : St) (a0 : Int32) : Int32 := if a0 < 97 then if a0 < 65 then 0 else if 90 < a0 then 0 else 1 else if a0 ≤ 122 then 1 else if a0 < 65 then 0 else if 90 < a0 then 0 else 1
set_option maxRecDepth 20000 in
theorem x194_ok {E : Xe} {R : Nat → Nat → Option Nat} {I : St} (a0 : Int32) : Rn E 194 (0, loc0 194 [.int a0], [], wT I R) (.returned (some (.int (x194 I a0)))) (wT I R) := by
  have H : ∀ (o : Outcome) (w : Wd) (T : Int32 → Prop), (∀ r, T r → o = .returned (some (.int r)) ∧ w = wT I R) → Dq (some (x194 I a0)) T → Rn E 194 (0, loc0 194 [.int a0], [], wT I R) o w := by
    intro o w T hT
    unfold x194
    refine D.run 2 rfl ?_
    refine D.brp rfl (by decide) rfl (fun hc => ?_) (fun hc => ?_)
    · refine D.run 2 rfl ?_
      refine D.brp rfl (by decide) rfl (fun hc => ?_) (fun hc => ?_)
      · refine D.run 1 rfl ?_
        exact fun h => by obtain ⟨rfl, rfl⟩ := hT _ (D.some h); exact Rn.ret rfl rfl (by first | rfl | (simp [rt1, rt]; done) | decide)
      · refine D.run 2 rfl ?_
        refine D.brp rfl (by decide) rfl (fun hc => ?_) (fun hc => ?_)
        · refine D.run 1 rfl ?_
          exact fun h => by obtain ⟨rfl, rfl⟩ := hT _ (D.some h); exact Rn.ret rfl rfl (by first | rfl | (simp [rt1, rt]; done) | decide)
        · refine D.run 2 rfl ?_
          exact fun h => by obtain ⟨rfl, rfl⟩ := hT _ (D.some h); exact Rn.ret rfl rfl (by first | rfl | (simp [rt1, rt]; done) | decide)
    · refine D.run 2 rfl ?_
      refine D.brp rfl (by decide) rfl (fun hc => ?_) (fun hc => ?_)
      · refine D.run 2 rfl ?_
        exact fun h => by obtain ⟨rfl, rfl⟩ := hT _ (D.some h); exact Rn.ret rfl rfl (by first | rfl | (simp [rt1, rt]; done) | decide)
      · refine D.run 2 rfl ?_
        refine D.brp rfl (by decide) rfl (fun hc => ?_) (fun hc => ?_)
        · refine D.run 1 rfl ?_
          exact fun h => by obtain ⟨rfl, rfl⟩ := hT _ (D.some h); exact Rn.ret rfl rfl (by first | rfl | (simp [rt1, rt]; done) | decide)
        · refine D.run 2 rfl ?_
          refine D.brp rfl (by decide) rfl (fun hc => ?_) (fun hc => ?_)
          · refine D.run 1 rfl ?_
            exact fun h => by obtain ⟨rfl, rfl⟩ := hT _ (D.some h); exact Rn.ret rfl rfl (by first | rfl | (simp [rt1, rt]; done) | decide)
          · refine D.run 2 rfl ?_
            exact fun h => by obtain ⟨rfl, rfl⟩ := hT _ (D.some h); exact Rn.ret rfl rfl (by first | rfl | (simp [rt1, rt]; done) | decide)
  exact H _ _ (fun r => r = x194 I a0) (by rintro r rfl; exact ⟨rfl, rfl⟩) ⟨_, rfl, rfl⟩
/-- TaintHouseModel.isDigit(I)Z -/
def x195 (I : St) (a0 : Int32) : Int32 := if a0 < 48 then 0 else if 57 < a0 then 0 else 1
set_option maxRecDepth 20000 in
theorem x195_ok {E : Xe} {R : Nat → Nat → Option Nat} {I : St} (a0 : Int32) : Rn E 195 (0, loc0 195 [.int a0], [], wT I R) (.returned (some (.int (x195 I a0)))) (wT I R) := by
  have H : ∀ (o : Outcome) (w : Wd) (T : Int32 → Prop), (∀ r, T r → o = .returned (some (.int r)) ∧ w = wT I R) → Dq (some (x195 I a0)) T → Rn E 195 (0, loc0 195 [.int a0], [], wT I R) o w := by
    intro o w T hT
    unfold x195
    refine D.run 2 rfl ?_
    refine D.brp rfl (by decide) rfl (fun hc => ?_) (fun hc => ?_)
    · refine D.run 1 rfl ?_
      exact fun h => by obtain ⟨rfl, rfl⟩ := hT _ (D.some h); exact Rn.ret rfl rfl (by first | rfl | (simp [rt1, rt]; done) | decide)
    · refine D.run 2 rfl ?_
      refine D.brp rfl (by decide) rfl (fun hc => ?_) (fun hc => ?_)
      · refine D.run 1 rfl ?_
        exact fun h => by obtain ⟨rfl, rfl⟩ := hT _ (D.some h); exact Rn.ret rfl rfl (by first | rfl | (simp [rt1, rt]; done) | decide)
      · refine D.run 2 rfl ?_
        exact fun h => by obtain ⟨rfl, rfl⟩ := hT _ (D.some h); exact Rn.ret rfl rfl (by first | rfl | (simp [rt1, rt]; done) | decide)
  exact H _ _ (fun r => r = x195 I a0) (by rintro r rfl; exact ⟨rfl, rfl⟩) ⟨_, rfl, rfl⟩
/-- TaintHouseModel.wordOf(Ljava/lang/String;)I -/
def l196_15 (t : Nat) (b2 : Int32) (b3 : Int32) : Nat → Int32 → St → Option (Int32)
  | 0, _, _ => none
  | n + 1, b4, I => if inb (b3 + b4) (xTL.getD t []).length then if ((xTL.getD t []).getD (b3 + b4).toNatClampNeg 0) = 32 then some b4 else l196_15 t b2 b3 n (b4 + 1) I else none
set_option maxRecDepth 20000 in
theorem l196_15_ok {E : Xe} {R : Nat → Nat → Option Nat} {t : Nat} {I0 : St} {o : Outcome} {w : Wd} {T : (Int32) → Prop} {b2 : Int32} {b3 : Int32} (ht : t = 3 ∨ t = 4) (K : ∀ (q : Int32) (e5 : Value) (_ : is1 e5 = true) (e6 : Value) (_ : is1 e6 = true), T q → Rn E 196 (34, [.ref 82, .retAddr (10 + t), .int b2, .int b3, .int q, e5, e6], [], wT I0 R) o w) : ∀ (n : Nat) (b4 : Int32) (d5 : Value) (d6 : Value), is1 d5 = true → is1 d6 = true → Dq (l196_15 t b2 b3 n b4 I0) T → Rn E 196 (15, [.ref 82, .retAddr (10 + t), .int b2, .int b3, .int b4, d5, d6], [], wT I0 R) o w := by
  rcases ht with rfl | rfl
  · intro n
    induction n with
    | zero => intro b4 d5 d6 hd5 hd6; exact D.none
    | succ n ih =>
      intro b4 d5 d6 hd5 hd6
      rw [l196_15]
      refine D.run 4 rfl ?_
      refine D.gd fun hg => ?_
      refine D.ce rfl rfl rfl rfl (scharI (tx := 3) (by decide) hg) ?_
      refine D.run 1 rfl ?_
      refine D.br rfl (by decide) rfl (fun hc => ?_) (fun hc => ?_)
      · exact fun h => D.to h (K _ _ (by first | rfl | assumption) _ (by first | rfl | assumption))
      · refine D.run 2 rfl ?_
        exact ih _ _ _  (by first | rfl | assumption) (by first | rfl | assumption)
  · intro n
    induction n with
    | zero => intro b4 d5 d6 hd5 hd6; exact D.none
    | succ n ih =>
      intro b4 d5 d6 hd5 hd6
      rw [l196_15]
      refine D.run 4 rfl ?_
      refine D.gd fun hg => ?_
      refine D.ce rfl rfl rfl rfl (scharI (tx := 4) (by decide) hg) ?_
      refine D.run 1 rfl ?_
      refine D.br rfl (by decide) rfl (fun hc => ?_) (fun hc => ?_)
      · exact fun h => D.to h (K _ _ (by first | rfl | assumption) _ (by first | rfl | assumption))
      · refine D.run 2 rfl ?_
        exact ih _ _ _  (by first | rfl | assumption) (by first | rfl | assumption)
def l196_58 (t : Nat) (b2 : Int32) (b3 : Int32) (b4 : Int32) : Nat → Int32 → Int32 → St → Option (Int32)
  | 0, _, _, _ => none
  | n + 1, b5, b6, I => if b4 ≤ b6 then some b5 else if b5 = 0 then some b5 else if inb (b3 + b6) (xTL.getD t []).length then (x193 I ((I 82 13) + b6)).bind fun q5 => if ((xTL.getD t []).getD (b3 + b6).toNatClampNeg 0) = q5 then l196_58 t b2 b3 b4 n 1 (b6 + 1) I else l196_58 t b2 b3 b4 n 0 (b6 + 1) I else none
set_option maxRecDepth 20000 in
theorem l196_58_ok {E : Xe} {R : Nat → Nat → Option Nat} {t : Nat} {I0 : St} {o : Outcome} {w : Wd} {T : (Int32) → Prop} {b2 : Int32} {b3 : Int32} {b4 : Int32} (ht : t = 3 ∨ t = 4) (K : ∀ (q : Int32) (e6 : Value) (_ : is1 e6 = true), T q → Rn E 196 (105, [.ref 82, .retAddr (10 + t), .int b2, .int b3, .int b4, .int q, e6], [], wT I0 R) o w) : ∀ (n : Nat) (b5 : Int32) (b6 : Int32), Dq (l196_58 t b2 b3 b4 n b5 b6 I0) T → Rn E 196 (58, [.ref 82, .retAddr (10 + t), .int b2, .int b3, .int b4, .int b5, .int b6], [], wT I0 R) o w := by
  rcases ht with rfl | rfl
  · intro n
    induction n with
    | zero => intro b5 b6; exact D.none
    | succ n ih =>
      intro b5 b6
      rw [l196_58]
      refine D.run 2 rfl ?_
      refine D.br rfl (by decide) rfl (fun hc => ?_) (fun hc => ?_)
      · exact fun h => D.to h (K _ _ (by first | rfl | assumption))
      · refine D.run 1 rfl ?_
        refine D.br rfl (by decide) rfl (fun hc => ?_) (fun hc => ?_)
        · exact fun h => D.to h (K _ _ (by first | rfl | assumption))
        · refine D.run 4 rfl ?_
          refine D.gd fun hg => ?_
          refine D.ce rfl rfl rfl rfl (scharI (tx := 3) (by decide) hg) ?_
          refine D.run 5 rfl ?_
          refine D.call rfl rfl rfl rfl (fun q h => x193_ok h) (fun q5 => ?_)
          show _ → Rn E 196 (89, [.ref 82, .retAddr (10 + 3), .int b2, .int b3, .int b4, .int b5, .int b6], [.int q5, .int ((xTL.getD 3 []).getD (b3 + b6).toNatClampNeg 0)], wT I0 R) o w
          refine D.br rfl (by decide) rfl (fun hc => ?_) (fun hc => ?_)
          · refine D.run 5 rfl ?_
            exact ih _ _  
          · refine D.run 4 rfl ?_
            exact ih _ _  
  · intro n
    induction n with
    | zero => intro b5 b6; exact D.none
    | succ n ih =>
      intro b5 b6
      rw [l196_58]
      refine D.run 2 rfl ?_
      refine D.br rfl (by decide) rfl (fun hc => ?_) (fun hc => ?_)
      · exact fun h => D.to h (K _ _ (by first | rfl | assumption))
      · refine D.run 1 rfl ?_
        refine D.br rfl (by decide) rfl (fun hc => ?_) (fun hc => ?_)
        · exact fun h => D.to h (K _ _ (by first | rfl | assumption))
        · refine D.run 4 rfl ?_
          refine D.gd fun hg => ?_
          refine D.ce rfl rfl rfl rfl (scharI (tx := 4) (by decide) hg) ?_
          refine D.run 5 rfl ?_
          refine D.call rfl rfl rfl rfl (fun q h => x193_ok h) (fun q5 => ?_)
          show _ → Rn E 196 (89, [.ref 82, .retAddr (10 + 4), .int b2, .int b3, .int b4, .int b5, .int b6], [.int q5, .int ((xTL.getD 4 []).getD (b3 + b6).toNatClampNeg 0)], wT I0 R) o w
          refine D.br rfl (by decide) rfl (fun hc => ?_) (fun hc => ?_)
          · refine D.run 5 rfl ?_
            exact ih _ _  
          · refine D.run 4 rfl ?_
            exact ih _ _  
def l196_4 (t : Nat) : Nat → Int32 → Int32 → St → Option ((Unit) ⊕ (Int32))
  | 0, _, _, _ => none
  | n + 1, b2, b3, I => if (tlen t) ≤ b3 then some (.inl ()) else (l196_15 t b2 b3 100000 0 I).bind fun q1 => (if q1 = ((I 82 11) - (I 82 13)) then some 1 else some 0).bind fun (q4 : Int32) => (l196_58 t b2 b3 q1 100000 q4 0 I).bind fun q6 => if q6 = 0 then l196_4 t n (b2 + 1) (b3 + (q1 + 1)) I else some (.inr b2)
set_option maxRecDepth 20000 in
theorem l196_4_ok {E : Xe} {R : Nat → Nat → Option Nat} {t : Nat} {I0 : St} {o : Outcome} {w : Wd} {T : ((Unit) ⊕ (Int32)) → Prop} (ht : t = 3 ∨ t = 4) (hT : ∀ r, T (.inr r) → o = .returned (some (.int r)) ∧ w = wT I0 R) (K : ∀ (q : Unit) (e2 : Value) (_ : is1 e2 = true) (e3 : Value) (_ : is1 e3 = true) (e4 : Value) (_ : is1 e4 = true) (e5 : Value) (_ : is1 e5 = true) (e6 : Value) (_ : is1 e6 = true), T (.inl q) → Rn E 196 (125, [.ref 82, .retAddr (10 + t), e2, e3, e4, e5, e6], [], wT I0 R) o w) : ∀ (n : Nat) (b2 : Int32) (b3 : Int32) (d4 : Value) (d5 : Value) (d6 : Value), is1 d4 = true → is1 d5 = true → is1 d6 = true → Dq (l196_4 t n b2 b3 I0) T → Rn E 196 (4, [.ref 82, .retAddr (10 + t), .int b2, .int b3, d4, d5, d6], [], wT I0 R) o w := by
  rcases ht with rfl | rfl
  · intro n
    induction n with
    | zero => intro b2 b3 d4 d5 d6 hd4 hd5 hd6; exact D.none
    | succ n ih =>
      intro b2 b3 d4 d5 d6 hd4 hd5 hd6
      rw [l196_4]
      refine D.run 2 rfl ?_
      refine D.ce rfl rfl rfl rfl (slen_ok (by decide)) ?_
      refine D.br rfl (by decide) rfl (fun hc => ?_) (fun hc => ?_)
      · exact fun h => D.to h (K _ _ (by first | rfl | assumption) _ (by first | rfl | assumption) _ (by first | rfl | assumption) _ (by first | rfl | assumption) _ (by first | rfl | assumption))
      · refine D.run 2 rfl ?_
        refine D.bind (l196_15_ok (by decide) (fun q1 e2 he2 e3 he3 => ?_) 100000 _ _ _  (by first | rfl | assumption) (by first | rfl | assumption))
        refine D.run 6 rfl ?_
        have Kj53 : ∀ (q4 : Int32), Dq ((l196_58 3 b2 b3 q1 100000 q4 0 I0).bind fun q6 => if q6 = 0 then l196_4 3 n (b2 + 1) (b3 + (q1 + 1)) I0 else some (.inr b2)) T → Rn E 196 (53, [.ref 82, .retAddr (10 + 3), .int b2, .int b3, .int q1, e2, e3], [.int q4], wT I0 R) o w := by
          intro q4
          refine D.run 3 rfl ?_
          refine D.bind (l196_58_ok (by decide) (fun q6 e7 he7 => ?_) 100000 _ _   )
          refine D.run 1 rfl ?_
          refine D.br rfl (by decide) rfl (fun hc => ?_) (fun hc => ?_)
          · refine D.run 8 rfl ?_
            exact ih _ _ _ _ _  (by first | rfl | assumption) (by first | rfl | assumption) (by first | rfl | assumption)
          · refine D.run 1 rfl ?_
            exact fun h => by obtain ⟨rfl, rfl⟩ := hT _ (D.some h); exact Rn.ret rfl rfl rfl
        refine D.jn (fun T53 c53 => ?_)
        refine D.br rfl (by decide) rfl (fun hc => ?_) (fun hc => ?_)
        · refine D.run 2 rfl ?_
          exact fun h => Kj53 _   (c53 _ (D.some h))
        · refine D.run 1 rfl ?_
          exact fun h => Kj53 _   (c53 _ (D.some h))
  · intro n
    induction n with
    | zero => intro b2 b3 d4 d5 d6 hd4 hd5 hd6; exact D.none
    | succ n ih =>
      intro b2 b3 d4 d5 d6 hd4 hd5 hd6
      rw [l196_4]
      refine D.run 2 rfl ?_
      refine D.ce rfl rfl rfl rfl (slen_ok (by decide)) ?_
      refine D.br rfl (by decide) rfl (fun hc => ?_) (fun hc => ?_)
      · exact fun h => D.to h (K _ _ (by first | rfl | assumption) _ (by first | rfl | assumption) _ (by first | rfl | assumption) _ (by first | rfl | assumption) _ (by first | rfl | assumption))
      · refine D.run 2 rfl ?_
        refine D.bind (l196_15_ok (by decide) (fun q1 e2 he2 e3 he3 => ?_) 100000 _ _ _  (by first | rfl | assumption) (by first | rfl | assumption))
        refine D.run 6 rfl ?_
        have Kj53 : ∀ (q4 : Int32), Dq ((l196_58 4 b2 b3 q1 100000 q4 0 I0).bind fun q6 => if q6 = 0 then l196_4 4 n (b2 + 1) (b3 + (q1 + 1)) I0 else some (.inr b2)) T → Rn E 196 (53, [.ref 82, .retAddr (10 + 4), .int b2, .int b3, .int q1, e2, e3], [.int q4], wT I0 R) o w := by
          intro q4
          refine D.run 3 rfl ?_
          refine D.bind (l196_58_ok (by decide) (fun q6 e7 he7 => ?_) 100000 _ _   )
          refine D.run 1 rfl ?_
          refine D.br rfl (by decide) rfl (fun hc => ?_) (fun hc => ?_)
          · refine D.run 8 rfl ?_
            exact ih _ _ _ _ _  (by first | rfl | assumption) (by first | rfl | assumption) (by first | rfl | assumption)
          · refine D.run 1 rfl ?_
            exact fun h => by obtain ⟨rfl, rfl⟩ := hT _ (D.some h); exact Rn.ret rfl rfl rfl
        refine D.jn (fun T53 c53 => ?_)
        refine D.br rfl (by decide) rfl (fun hc => ?_) (fun hc => ?_)
        · refine D.run 2 rfl ?_
          exact fun h => Kj53 _   (c53 _ (D.some h))
        · refine D.run 1 rfl ?_
          exact fun h => Kj53 _   (c53 _ (D.some h))
def x196 (t : Nat) (I : St) : Option (Int32) := (l196_4 t 100000 0 0 I).bind (Sum.elim (fun q8 => some (-1)) (fun r => some r))
set_option maxRecDepth 20000 in
theorem x196_D {E : Xe} {R : Nat → Nat → Option Nat} {t : Nat} {o : Outcome} {w : Wd} {T : (Int32) → Prop} {I : St} (ht : t = 3 ∨ t = 4) (hT : ∀ r, T r → o = .returned (some (.int r)) ∧ w = wT I R) : Dq (x196 t I) T → Rn E 196 (0, loc0 196 [.ref 82, .retAddr (10 + t)], [], wT I R) o w := by
  unfold x196
  rcases ht with rfl | rfl
  all_goals
    refine D.run 4 rfl ?_
    refine D.bind (l196_4_ok (by decide) (fun r h => hT _ (D.some h)) (fun q8 e9 he9 e10 he10 e11 he11 e12 he12 e13 he13 => ?_) 100000 _ _ _ _ _  (by first | rfl | assumption) (by first | rfl | assumption) (by first | rfl | assumption))
    refine D.inl ?_
    refine D.run 1 rfl ?_
    exact fun h => by obtain ⟨rfl, rfl⟩ := hT _ (D.some h); exact Rn.ret rfl rfl rfl
set_option maxRecDepth 20000 in
theorem x196_ok {E : Xe} {R : Nat → Nat → Option Nat} {t : Nat} {I : St} (ht : t = 3 ∨ t = 4) {q : Int32} (h : x196 t I = some q) : Rn E 196 (0, loc0 196 [.ref 82, .retAddr (10 + t)], [], wT I R) (.returned (some (.int q))) (wT I R) := x196_D ht (T := fun r => r = q) (by rintro r rfl; exact ⟨rfl, rfl⟩) ⟨_, h, rfl⟩
/-- TaintHouseModel.wordIn(Ljava/lang/String;)I -/
def x200 (t : Nat) (I : St) : Option (Int32 × St) := (x196 t (up2 I 82 11 (I 82 14))).bind fun q1 => some (q1, (up2 (up2 I 82 11 (I 82 14)) 82 11 (I 82 11)))
set_option maxRecDepth 20000 in
theorem x200_D {E : Xe} {R : Nat → Nat → Option Nat} {t : Nat} {o : Outcome} {w : Wd} {T : (Int32 × St) → Prop} {I : St} (ht : t = 3 ∨ t = 4) (hT : ∀ r, T r → o = .returned (some (.int r.1)) ∧ w = wT r.2 R) : Dq (x200 t I) T → Rn E 200 (0, loc0 200 [.ref 82, .retAddr (10 + t)], [], wT I R) o w := by
  unfold x200
  rcases ht with rfl | rfl
  all_goals
    refine D.run 9 rfl ?_
    refine D.call rfl rfl rfl rfl (fun q h => x196_ok (by decide) h) (fun q1 => ?_)
    refine D.run 5 rfl ?_
    exact fun h => by obtain ⟨rfl, rfl⟩ := hT _ (D.some h); exact Rn.ret rfl rfl rfl
set_option maxRecDepth 20000 in
theorem x200_ok {E : Xe} {R : Nat → Nat → Option Nat} {t : Nat} {I : St} (ht : t = 3 ∨ t = 4) {q : Int32 × St} (h : x200 t I = some q) : Rn E 200 (0, loc0 200 [.ref 82, .retAddr (10 + t)], [], wT I R) (.returned (some (.int q.1))) (wT q.2 R) := x200_D ht (T := fun r => r = q) (by rintro r rfl; exact ⟨rfl, rfl⟩) ⟨_, h, rfl⟩
/-- TaintHouseModel.nameOf()I -/
def l202_42 (Z : Nat) (b1 : Int32) : Nat → Int32 → Int32 → St → Option (Int32)
  | 0, _, _, _ => none
  | n + 1, b2, b3, I => if ((I 82 14) - (I 82 13)) ≤ b3 then some b2 else if b2 = 0 then some b2 else if inb b1 2000 then if inb ((I (Z + 2) b1.toNatClampNeg) + b3) 4100 then if inb ((I 82 13) + b3) 4000 then if (I (Z + 1) ((I (Z + 2) b1.toNatClampNeg) + b3).toNatClampNeg) = (I 83 ((I 82 13) + b3).toNatClampNeg) then l202_42 Z b1 n 1 (b3 + 1) I else l202_42 Z b1 n 0 (b3 + 1) I else none else none else none
set_option maxRecDepth 20000 in
theorem l202_42_ok {E : Xe} {R : Nat → Nat → Option Nat} {Z : Nat} {I0 : St} {o : Outcome} {w : Wd} {T : (Int32) → Prop} {b1 : Int32} (hZ : Z = 85 ∨ Z = 126) (h82_4 : R 82 4 = some Z) (K : ∀ (q : Int32) (e3 : Value) (_ : is1 e3 = true), T q → Rn E 202 (104, [.ref 82, .int b1, .int q, e3], [], wT I0 R) o w) : ∀ (n : Nat) (b2 : Int32) (b3 : Int32), Dq (l202_42 Z b1 n b2 b3 I0) T → Rn E 202 (42, [.ref 82, .int b1, .int b2, .int b3], [], wT I0 R) o w := by
  rcases hZ with rfl | rfl
  · intro n
    induction n with
    | zero => intro b2 b3; exact D.none
    | succ n ih =>
      intro b2 b3
      rw [l202_42]
      refine D.run 6 rfl ?_
      refine D.br rfl (by decide) rfl (fun hc => ?_) (fun hc => ?_)
      · exact fun h => D.to h (K _ _ (by first | rfl | assumption))
      · refine D.run 1 rfl ?_
        refine D.br rfl (by decide) rfl (fun hc => ?_) (fun hc => ?_)
        · exact fun h => D.to h (K _ _ (by first | rfl | assumption))
        · refine D.run 1 rfl ?_
          refine D.st rfl (by decide) (gf_1 h82_4) ?_
          refine D.run 2 rfl ?_
          refine D.st rfl (by decide) (gf_1 h82_4) ?_
          refine D.run 2 rfl ?_
          refine D.gd fun hg => ?_
          refine D.st rfl (by decide) (al_i (by decide) (by first | rfl | decide) hg.1 hg.2) ?_
          show _ → Rn E 202 (75, [.ref 82, .int b1, .int b2, .int b3], [.int (I0 (85 + 2) b1.toNatClampNeg), .ref (85 + 1)], wT I0 R) o w
          refine D.run 2 rfl ?_
          refine D.gd fun hg => ?_
          refine D.st rfl (by decide) (al_b (by decide) (by first | rfl | decide) hg.1 hg.2) ?_
          refine D.run 6 rfl ?_
          refine D.gd fun hg => ?_
          refine D.st rfl (by decide) (al_b (by decide) (by first | rfl | decide) hg.1 hg.2) ?_
          show _ → Rn E 202 (89, [.ref 82, .int b1, .int b2, .int b3], [.int (I0 83 ((I0 82 13) + b3).toNatClampNeg), .int (I0 (85 + 1) ((I0 (85 + 2) b1.toNatClampNeg) + b3).toNatClampNeg)], wT I0 R) o w
          refine D.br rfl (by decide) rfl (fun hc => ?_) (fun hc => ?_)
          · refine D.run 5 rfl ?_
            exact ih _ _  
          · refine D.run 4 rfl ?_
            exact ih _ _  
  · intro n
    induction n with
    | zero => intro b2 b3; exact D.none
    | succ n ih =>
      intro b2 b3
      rw [l202_42]
      refine D.run 6 rfl ?_
      refine D.br rfl (by decide) rfl (fun hc => ?_) (fun hc => ?_)
      · exact fun h => D.to h (K _ _ (by first | rfl | assumption))
      · refine D.run 1 rfl ?_
        refine D.br rfl (by decide) rfl (fun hc => ?_) (fun hc => ?_)
        · exact fun h => D.to h (K _ _ (by first | rfl | assumption))
        · refine D.run 1 rfl ?_
          refine D.st rfl (by decide) (gf_1 h82_4) ?_
          refine D.run 2 rfl ?_
          refine D.st rfl (by decide) (gf_1 h82_4) ?_
          refine D.run 2 rfl ?_
          refine D.gd fun hg => ?_
          refine D.st rfl (by decide) (al_i (by decide) (by first | rfl | decide) hg.1 hg.2) ?_
          show _ → Rn E 202 (75, [.ref 82, .int b1, .int b2, .int b3], [.int (I0 (126 + 2) b1.toNatClampNeg), .ref (126 + 1)], wT I0 R) o w
          refine D.run 2 rfl ?_
          refine D.gd fun hg => ?_
          refine D.st rfl (by decide) (al_b (by decide) (by first | rfl | decide) hg.1 hg.2) ?_
          refine D.run 6 rfl ?_
          refine D.gd fun hg => ?_
          refine D.st rfl (by decide) (al_b (by decide) (by first | rfl | decide) hg.1 hg.2) ?_
          show _ → Rn E 202 (89, [.ref 82, .int b1, .int b2, .int b3], [.int (I0 83 ((I0 82 13) + b3).toNatClampNeg), .int (I0 (126 + 1) ((I0 (126 + 2) b1.toNatClampNeg) + b3).toNatClampNeg)], wT I0 R) o w
          refine D.br rfl (by decide) rfl (fun hc => ?_) (fun hc => ?_)
          · refine D.run 5 rfl ?_
            exact ih _ _  
          · refine D.run 4 rfl ?_
            exact ih _ _  
def l202_2 (Z : Nat) : Nat → Int32 → St → Option ((Unit) ⊕ (Int32 × St))
  | 0, _, _ => none
  | n + 1, b1, I => if (I Z 3) ≤ b1 then some (.inl ()) else if inb b1 2000 then (if (I (Z + 3) b1.toNatClampNeg) = ((I 82 14) - (I 82 13)) then some 1 else some 0).bind fun (q1 : Int32) => (l202_42 Z b1 100000 q1 0 I).bind fun q2 => if q2 = 0 then l202_2 Z n (b1 + 1) I else some (.inr (b1, I)) else none
set_option maxRecDepth 20000 in
theorem l202_2_ok {E : Xe} {R : Nat → Nat → Option Nat} {Z : Nat} {I0 : St} {o : Outcome} {w : Wd} {T : ((Unit) ⊕ (Int32 × St)) → Prop} (hZ : Z = 85 ∨ Z = 126) (h82_4 : R 82 4 = some Z) (hT : ∀ r, T (.inr r) → o = .returned (some (.int r.1)) ∧ w = wT r.2 R) (K : ∀ (q : Unit) (e1 : Value) (_ : is1 e1 = true) (e2 : Value) (_ : is1 e2 = true) (e3 : Value) (_ : is1 e3 = true), T (.inl q) → Rn E 202 (116, [.ref 82, e1, e2, e3], [], wT I0 R) o w) : ∀ (n : Nat) (b1 : Int32) (d2 : Value) (d3 : Value), is1 d2 = true → is1 d3 = true → Dq (l202_2 Z n b1 I0) T → Rn E 202 (2, [.ref 82, .int b1, d2, d3], [], wT I0 R) o w := by
  rcases hZ with rfl | rfl
  · intro n
    induction n with
    | zero => intro b1 d2 d3 hd2 hd3; exact D.none
    | succ n ih =>
      intro b1 d2 d3 hd2 hd3
      rw [l202_2]
      refine D.run 2 rfl ?_
      refine D.st rfl (by decide) (gf_1 h82_4) ?_
      refine D.run 1 rfl ?_
      refine D.br rfl (by decide) rfl (fun hc => ?_) (fun hc => ?_)
      · exact fun h => D.to h (K _ _ (by first | rfl | assumption) _ (by first | rfl | assumption) _ (by first | rfl | assumption))
      · refine D.run 1 rfl ?_
        refine D.st rfl (by decide) (gf_1 h82_4) ?_
        refine D.run 2 rfl ?_
        refine D.gd fun hg => ?_
        refine D.st rfl (by decide) (al_i (by decide) (by first | rfl | decide) hg.1 hg.2) ?_
        show _ → Rn E 202 (22, [.ref 82, .int b1, d2, d3], [.int (I0 (85 + 3) b1.toNatClampNeg)], wT I0 R) o w
        refine D.run 5 rfl ?_
        have Kj39 : ∀ (q1 : Int32), Dq ((l202_42 85 b1 100000 q1 0 I0).bind fun q2 => if q2 = 0 then l202_2 85 n (b1 + 1) I0 else some (.inr (b1, I0))) T → Rn E 202 (39, [.ref 82, .int b1, d2, d3], [.int q1], wT I0 R) o w := by
          intro q1
          refine D.run 3 rfl ?_
          refine D.bind (l202_42_ok (by decide) h82_4 (fun q2 e3 he3 => ?_) 100000 _ _   )
          refine D.run 1 rfl ?_
          refine D.br rfl (by decide) rfl (fun hc => ?_) (fun hc => ?_)
          · refine D.run 2 rfl ?_
            exact ih _ _ _  (by first | rfl | assumption) (by first | rfl | assumption)
          · refine D.run 1 rfl ?_
            exact fun h => by obtain ⟨rfl, rfl⟩ := hT _ (D.some h); exact Rn.ret rfl rfl rfl
        refine D.jn (fun T39 c39 => ?_)
        refine D.br rfl (by decide) rfl (fun hc => ?_) (fun hc => ?_)
        · refine D.run 2 rfl ?_
          exact fun h => Kj39 _   (c39 _ (D.some h))
        · refine D.run 1 rfl ?_
          exact fun h => Kj39 _   (c39 _ (D.some h))
  · intro n
    induction n with
    | zero => intro b1 d2 d3 hd2 hd3; exact D.none
    | succ n ih =>
      intro b1 d2 d3 hd2 hd3
      rw [l202_2]
      refine D.run 2 rfl ?_
      refine D.st rfl (by decide) (gf_1 h82_4) ?_
      refine D.run 1 rfl ?_
      refine D.br rfl (by decide) rfl (fun hc => ?_) (fun hc => ?_)
      · exact fun h => D.to h (K _ _ (by first | rfl | assumption) _ (by first | rfl | assumption) _ (by first | rfl | assumption))
      · refine D.run 1 rfl ?_
        refine D.st rfl (by decide) (gf_1 h82_4) ?_
        refine D.run 2 rfl ?_
        refine D.gd fun hg => ?_
        refine D.st rfl (by decide) (al_i (by decide) (by first | rfl | decide) hg.1 hg.2) ?_
        show _ → Rn E 202 (22, [.ref 82, .int b1, d2, d3], [.int (I0 (126 + 3) b1.toNatClampNeg)], wT I0 R) o w
        refine D.run 5 rfl ?_
        have Kj39 : ∀ (q1 : Int32), Dq ((l202_42 126 b1 100000 q1 0 I0).bind fun q2 => if q2 = 0 then l202_2 126 n (b1 + 1) I0 else some (.inr (b1, I0))) T → Rn E 202 (39, [.ref 82, .int b1, d2, d3], [.int q1], wT I0 R) o w := by
          intro q1
          refine D.run 3 rfl ?_
          refine D.bind (l202_42_ok (by decide) h82_4 (fun q2 e3 he3 => ?_) 100000 _ _   )
          refine D.run 1 rfl ?_
          refine D.br rfl (by decide) rfl (fun hc => ?_) (fun hc => ?_)
          · refine D.run 2 rfl ?_
            exact ih _ _ _  (by first | rfl | assumption) (by first | rfl | assumption)
          · refine D.run 1 rfl ?_
            exact fun h => by obtain ⟨rfl, rfl⟩ := hT _ (D.some h); exact Rn.ret rfl rfl rfl
        refine D.jn (fun T39 c39 => ?_)
        refine D.br rfl (by decide) rfl (fun hc => ?_) (fun hc => ?_)
        · refine D.run 2 rfl ?_
          exact fun h => Kj39 _   (c39 _ (D.some h))
        · refine D.run 1 rfl ?_
          exact fun h => Kj39 _   (c39 _ (D.some h))
def l202_176 (Z : Nat) (b1 : Int32) : Nat → Int32 → St → Option (St)
  | 0, _, _ => none
  | n + 1, b2, I => if (I 82 14) ≤ b2 then some I else if inb b2 4000 then if inb (I Z 4) 4100 then Lt (up2 (up2 I (Z + 1) (I Z 4).toNatClampNeg (vp_nar .byte (I 83 b2.toNatClampNeg))) Z 4 (((up2 I (Z + 1) (I Z 4).toNatClampNeg (vp_nar .byte (I 83 b2.toNatClampNeg))) Z 4) + 1)) fun J10 => l202_176 Z b1 n (b2 + 1) J10 else none else none
set_option maxRecDepth 20000 in
theorem l202_176_ok {E : Xe} {R : Nat → Nat → Option Nat} {Z : Nat} {o : Outcome} {w : Wd} {T : (St) → Prop} {b1 : Int32} (hZ : Z = 85 ∨ Z = 126) (h82_4 : R 82 4 = some Z) (K : ∀ (q : St) (e2 : Value) (_ : is1 e2 = true) (e3 : Value) (_ : is1 e3 = true), T q → Rn E 202 (224, [.ref 82, .int b1, e2, e3], [], wT q R) o w) : ∀ (n : Nat) (b2 : Int32) (d3 : Value) (I : St), is1 d3 = true → Dq (l202_176 Z b1 n b2 I) T → Rn E 202 (176, [.ref 82, .int b1, .int b2, d3], [], wT I R) o w := by
  rcases hZ with rfl | rfl
  · intro n
    induction n with
    | zero => intro b2 d3 I hd3; exact D.none
    | succ n ih =>
      intro b2 d3 I hd3
      rw [l202_176]
      refine D.run 3 rfl ?_
      refine D.br rfl (by decide) rfl (fun hc => ?_) (fun hc => ?_)
      · exact fun h => D.to h (K _ _ (by first | rfl | assumption) _ (by first | rfl | assumption))
      · refine D.run 1 rfl ?_
        refine D.st rfl (by decide) (gf_1 h82_4) ?_
        refine D.run 2 rfl ?_
        refine D.st rfl (by decide) (gf_1 h82_4) ?_
        refine D.run 4 rfl ?_
        refine D.gd fun hg => ?_
        refine D.st rfl (by decide) (al_b (by decide) (by first | rfl | decide) hg.1 hg.2) ?_
        show _ → Rn E 202 (204, [.ref 82, .int b1, .int b2, d3], [.int (I 83 b2.toNatClampNeg), .int (I 85 4), .ref (85 + 1)], wT I R) o w
        refine D.gd fun hg => ?_
        refine D.st rfl (by decide) (as_b (by decide) (by first | rfl | decide) hg.1 hg.2) ?_
        refine D.run 1 rfl ?_
        refine D.st rfl (by decide) (gf_1 h82_4) ?_
        refine D.run 5 rfl ?_
        refine D.letS (fun J10 => ?_)
        show _ → Rn E 202 (218, [.ref 82, .int b1, .int b2, d3], [], wT J10 R) o w
        refine D.run 2 rfl ?_
        exact ih _ _ _ (by first | rfl | assumption)
  · intro n
    induction n with
    | zero => intro b2 d3 I hd3; exact D.none
    | succ n ih =>
      intro b2 d3 I hd3
      rw [l202_176]
      refine D.run 3 rfl ?_
      refine D.br rfl (by decide) rfl (fun hc => ?_) (fun hc => ?_)
      · exact fun h => D.to h (K _ _ (by first | rfl | assumption) _ (by first | rfl | assumption))
      · refine D.run 1 rfl ?_
        refine D.st rfl (by decide) (gf_1 h82_4) ?_
        refine D.run 2 rfl ?_
        refine D.st rfl (by decide) (gf_1 h82_4) ?_
        refine D.run 4 rfl ?_
        refine D.gd fun hg => ?_
        refine D.st rfl (by decide) (al_b (by decide) (by first | rfl | decide) hg.1 hg.2) ?_
        show _ → Rn E 202 (204, [.ref 82, .int b1, .int b2, d3], [.int (I 83 b2.toNatClampNeg), .int (I 126 4), .ref (126 + 1)], wT I R) o w
        refine D.gd fun hg => ?_
        refine D.st rfl (by decide) (as_b (by decide) (by first | rfl | decide) hg.1 hg.2) ?_
        refine D.run 1 rfl ?_
        refine D.st rfl (by decide) (gf_1 h82_4) ?_
        refine D.run 5 rfl ?_
        refine D.letS (fun J10 => ?_)
        show _ → Rn E 202 (218, [.ref 82, .int b1, .int b2, d3], [], wT J10 R) o w
        refine D.run 2 rfl ?_
        exact ih _ _ _ (by first | rfl | assumption)
def x202 (Z : Nat) (I : St) : Option (Int32 × St) := (l202_2 Z 100000 0 I).bind (Sum.elim (fun q4 => if inb (I Z 3) 2000 then Lt (up2 (up2 I Z 3 ((I Z 3) + 1)) (Z + 2) (I Z 3).toNatClampNeg ((up2 I Z 3 ((I Z 3) + 1)) Z 4)) fun J8 => if inb (I Z 3) 2000 then Lt ((up2 J8 (Z + 3) (I Z 3).toNatClampNeg ((J8 82 14) - (J8 82 13))) 82 13) fun v9 => (l202_176 Z (I Z 3) 100000 v9 (up2 J8 (Z + 3) (I Z 3).toNatClampNeg ((J8 82 14) - (J8 82 13)))).bind fun q11 => some ((I Z 3), q11) else none else none) (fun r => some r))
set_option maxRecDepth 20000 in
theorem x202_D {E : Xe} {R : Nat → Nat → Option Nat} {Z : Nat} {o : Outcome} {w : Wd} {T : (Int32 × St) → Prop} {I : St} (hZ : Z = 85 ∨ Z = 126) (h82_4 : R 82 4 = some Z) (hT : ∀ r, T r → o = .returned (some (.int r.1)) ∧ w = wT r.2 R) : Dq (x202 Z I) T → Rn E 202 (0, loc0 202 [.ref 82], [], wT I R) o w := by
  unfold x202
  rcases hZ with rfl | rfl
  · refine D.run 2 rfl ?_
    refine D.bind (l202_2_ok (by decide) h82_4 (fun r h => hT _ (D.some h)) (fun q4 e5 he5 e6 he6 e7 he7 => ?_) 100000 _ _ _  (by first | rfl | assumption) (by first | rfl | assumption))
    refine D.inl ?_
    refine D.run 1 rfl ?_
    refine D.st rfl (by decide) (gf_1 h82_4) ?_
    refine D.run 3 rfl ?_
    refine D.st rfl (by decide) (gf_1 h82_4) ?_
    refine D.run 6 rfl ?_
    refine D.st rfl (by decide) (gf_1 h82_4) ?_
    show _ → Rn E 202 (141, [.ref 82, .int (I 85 3), e6, e7], [.ref 85], wT (up2 I 85 3 ((I 85 3) + 1)) R) o w
    refine D.run 3 rfl ?_
    refine D.st rfl (by decide) (gf_1 h82_4) ?_
    refine D.run 1 rfl ?_
    refine D.gd fun hg => ?_
    refine D.st rfl (by decide) (as_i (by decide) (by first | rfl | decide) hg.1 hg.2) ?_
    refine D.letS (fun J8 => ?_)
    show _ → Rn E 202 (153, [.ref 82, .int (I 85 3), e6, e7], [], wT J8 R) o w
    refine D.run 1 rfl ?_
    refine D.st rfl (by decide) (gf_1 h82_4) ?_
    refine D.run 7 rfl ?_
    refine D.gd fun hg => ?_
    refine D.st rfl (by decide) (as_i (by decide) (by first | rfl | decide) hg.1 hg.2) ?_
    show _ → Rn E 202 (171, [.ref 82, .int (I 85 3), e6, e7], [], wT (up2 J8 (85 + 3) (I 85 3).toNatClampNeg ((J8 82 14) - (J8 82 13))) R) o w
    refine D.run 3 rfl ?_
    refine D.letV (frame := fun v9 => (176, [.ref 82, .int (I 85 3), .int v9, e7], [], wT (up2 J8 (85 + 3) (I 85 3).toNatClampNeg ((J8 82 14) - (J8 82 13))) R)) (fun v9 => ?_)
    refine D.bind (l202_176_ok (by decide) h82_4 (fun q11 e12 he12 e13 he13 => ?_) 100000 _ _ _ (by first | rfl | assumption))
    refine D.run 1 rfl ?_
    exact fun h => by obtain ⟨rfl, rfl⟩ := hT _ (D.some h); exact Rn.ret rfl rfl rfl
  · refine D.run 2 rfl ?_
    refine D.bind (l202_2_ok (by decide) h82_4 (fun r h => hT _ (D.some h)) (fun q4 e5 he5 e6 he6 e7 he7 => ?_) 100000 _ _ _  (by first | rfl | assumption) (by first | rfl | assumption))
    refine D.inl ?_
    refine D.run 1 rfl ?_
    refine D.st rfl (by decide) (gf_1 h82_4) ?_
    refine D.run 3 rfl ?_
    refine D.st rfl (by decide) (gf_1 h82_4) ?_
    refine D.run 6 rfl ?_
    refine D.st rfl (by decide) (gf_1 h82_4) ?_
    show _ → Rn E 202 (141, [.ref 82, .int (I 126 3), e6, e7], [.ref 126], wT (up2 I 126 3 ((I 126 3) + 1)) R) o w
    refine D.run 3 rfl ?_
    refine D.st rfl (by decide) (gf_1 h82_4) ?_
    refine D.run 1 rfl ?_
    refine D.gd fun hg => ?_
    refine D.st rfl (by decide) (as_i (by decide) (by first | rfl | decide) hg.1 hg.2) ?_
    refine D.letS (fun J8 => ?_)
    show _ → Rn E 202 (153, [.ref 82, .int (I 126 3), e6, e7], [], wT J8 R) o w
    refine D.run 1 rfl ?_
    refine D.st rfl (by decide) (gf_1 h82_4) ?_
    refine D.run 7 rfl ?_
    refine D.gd fun hg => ?_
    refine D.st rfl (by decide) (as_i (by decide) (by first | rfl | decide) hg.1 hg.2) ?_
    show _ → Rn E 202 (171, [.ref 82, .int (I 126 3), e6, e7], [], wT (up2 J8 (126 + 3) (I 126 3).toNatClampNeg ((J8 82 14) - (J8 82 13))) R) o w
    refine D.run 3 rfl ?_
    refine D.letV (frame := fun v9 => (176, [.ref 82, .int (I 126 3), .int v9, e7], [], wT (up2 J8 (126 + 3) (I 126 3).toNatClampNeg ((J8 82 14) - (J8 82 13))) R)) (fun v9 => ?_)
    refine D.bind (l202_176_ok (by decide) h82_4 (fun q11 e12 he12 e13 he13 => ?_) 100000 _ _ _ (by first | rfl | assumption))
    refine D.run 1 rfl ?_
    exact fun h => by obtain ⟨rfl, rfl⟩ := hT _ (D.some h); exact Rn.ret rfl rfl rfl
set_option maxRecDepth 20000 in
theorem x202_ok {E : Xe} {R : Nat → Nat → Option Nat} {Z : Nat} {I : St} (hZ : Z = 85 ∨ Z = 126) (h82_4 : R 82 4 = some Z) {q : Int32 × St} (h : x202 Z I = some q) : Rn E 202 (0, loc0 202 [.ref 82], [], wT I R) (.returned (some (.int q.1))) (wT q.2 R) := x202_D hZ h82_4 (T := fun r => r = q) (by rintro r rfl; exact ⟨rfl, rfl⟩) ⟨_, h, rfl⟩
/-- TaintHouseModel.is(I)Z -/
def x203 (I : St) (a1 : Int32) : Option (Int32) := if (I 82 12) = 3 then (x193 I (I 82 13)).bind fun q1 => if q1 = a1 then some 1 else some 0 else some 0
set_option maxRecDepth 20000 in
theorem x203_D {E : Xe} {R : Nat → Nat → Option Nat} {o : Outcome} {w : Wd} {T : (Int32) → Prop} {I : St} (a1 : Int32) (hT : ∀ r, T r → o = .returned (some (.int r)) ∧ w = wT I R) : Dq (x203 I a1) T → Rn E 203 (0, loc0 203 [.ref 82, .int a1], [], wT I R) o w := by
  unfold x203
  refine D.run 3 rfl ?_
  refine D.br rfl (by decide) rfl (fun hc => ?_) (fun hc => ?_)
  · refine D.run 3 rfl ?_
    refine D.call rfl rfl rfl rfl (fun q h => x193_ok h) (fun q1 => ?_)
    refine D.run 1 rfl ?_
    refine D.br rfl (by decide) rfl (fun hc => ?_) (fun hc => ?_)
    · refine D.run 2 rfl ?_
      exact fun h => by obtain ⟨rfl, rfl⟩ := hT _ (D.some h); exact Rn.ret rfl rfl (by first | rfl | (simp [rt1, rt]; done) | decide)
    · refine D.run 1 rfl ?_
      exact fun h => by obtain ⟨rfl, rfl⟩ := hT _ (D.some h); exact Rn.ret rfl rfl (by first | rfl | (simp [rt1, rt]; done) | decide)
  · refine D.run 1 rfl ?_
    exact fun h => by obtain ⟨rfl, rfl⟩ := hT _ (D.some h); exact Rn.ret rfl rfl (by first | rfl | (simp [rt1, rt]; done) | decide)
set_option maxRecDepth 20000 in
theorem x203_ok {E : Xe} {R : Nat → Nat → Option Nat} {I : St} {a1 : Int32} {q : Int32} (h : x203 I a1 = some q) : Rn E 203 (0, loc0 203 [.ref 82, .int a1], [], wT I R) (.returned (some (.int q))) (wT I R) := x203_D  _ (T := fun r => r = q) (by rintro r rfl; exact ⟨rfl, rfl⟩) ⟨_, h, rfl⟩
/-- TaintHouseModel.member(III)V -/
def x206 (I : St) (a1 a2 a3 : Int32) : Option (St) := if inb (I 82 20) 1300 then if inb (I 82 20) 1300 then if inb (I 82 20) 1300 then Lt (up2 (up2 (up2 I 171 (I 82 20).toNatClampNeg a1) 172 (I 82 20).toNatClampNeg a2) 173 (I 82 20).toNatClampNeg a3) fun J1 => some (up2 J1 82 20 ((J1 82 20) + 1)) else none else none else none
set_option maxRecDepth 20000 in
theorem x206_D {E : Xe} {R : Nat → Nat → Option Nat} {o : Outcome} {w : Wd} {T : (St) → Prop} {I : St} (a1 a2 a3 : Int32) (hT : ∀ r, T r → o = .returned none ∧ w = wT r R) : Dq (x206 I a1 a2 a3) T → Rn E 206 (0, loc0 206 [.ref 82, .int a1, .int a2, .int a3], [], wT I R) o w := by
  unfold x206
  refine D.run 5 rfl ?_
  refine D.gd fun hg => ?_
  refine D.st rfl (by decide) (as_i (by decide) (by first | rfl | decide) hg.1 hg.2) ?_
  refine D.run 5 rfl ?_
  refine D.gd fun hg => ?_
  refine D.st rfl (by decide) (as_i (by decide) (by first | rfl | decide) hg.1 hg.2) ?_
  show _ → Rn E 206 (20, [.ref 82, .int a1, .int a2, .int a3], [], wT (up2 (up2 I 171 (I 82 20).toNatClampNeg a1) 172 (I 82 20).toNatClampNeg a2) R) o w
  refine D.run 5 rfl ?_
  refine D.gd fun hg => ?_
  refine D.st rfl (by decide) (as_i (by decide) (by first | rfl | decide) hg.1 hg.2) ?_
  refine D.letS (fun J1 => ?_)
  refine D.run 6 rfl ?_
  exact fun h => by obtain ⟨rfl, rfl⟩ := hT _ (D.some h); exact Rn.ret rfl rfl rfl
set_option maxRecDepth 20000 in
theorem x206_ok {E : Xe} {R : Nat → Nat → Option Nat} {I : St} {a1 a2 a3 : Int32} {q : St} (h : x206 I a1 a2 a3 = some q) : Rn E 206 (0, loc0 206 [.ref 82, .int a1, .int a2, .int a3], [], wT I R) (.returned none) (wT q R) := x206_D  _ _ _ (T := fun r => r = q) (by rintro r rfl; exact ⟨rfl, rfl⟩) ⟨_, h, rfl⟩
/-- TaintHouseModel.classOf(II)I -/
def l216_2 (Z : Nat) (b1 : Int32) (b2 : Int32) : Nat → Int32 → St → Option ((Unit) ⊕ (Int32))
  | 0, _, _ => none
  | n + 1, b3, I => if b2 ≤ b3 then some (.inl ()) else if inb b3 19 then if (I (Z + 4) b3.toNatClampNeg) = b1 then some (.inr b3) else l216_2 Z b1 b2 n (b3 + 1) I else none
set_option maxRecDepth 20000 in
theorem l216_2_ok {E : Xe} {R : Nat → Nat → Option Nat} {Z : Nat} {I0 : St} {o : Outcome} {w : Wd} {T : ((Unit) ⊕ (Int32)) → Prop} {b1 : Int32} {b2 : Int32} (hZ : Z = 85 ∨ Z = 126) (h82_4 : R 82 4 = some Z) (hT : ∀ r, T (.inr r) → o = .returned (some (.int r)) ∧ w = wT I0 R) (K : ∀ (q : Unit) (e1 : Value) (_ : is1 e1 = true) (e2 : Value) (_ : is1 e2 = true) (e3 : Value) (_ : is1 e3 = true), T (.inl q) → Rn E 216 (28, [.ref 82, e1, e2, e3], [], wT I0 R) o w) : ∀ (n : Nat) (b3 : Int32), Dq (l216_2 Z b1 b2 n b3 I0) T → Rn E 216 (2, [.ref 82, .int b1, .int b2, .int b3], [], wT I0 R) o w := by
  rcases hZ with rfl | rfl
  · intro n
    induction n with
    | zero => intro b3; exact D.none
    | succ n ih =>
      intro b3
      rw [l216_2]
      refine D.run 2 rfl ?_
      refine D.br rfl (by decide) rfl (fun hc => ?_) (fun hc => ?_)
      · exact fun h => D.to h (K _ _ (by first | rfl | assumption) _ (by first | rfl | assumption) _ (by first | rfl | assumption))
      · refine D.run 1 rfl ?_
        refine D.st rfl (by decide) (gf_1 h82_4) ?_
        refine D.run 2 rfl ?_
        refine D.gd fun hg => ?_
        refine D.st rfl (by decide) (al_i (by decide) (by first | rfl | decide) hg.1 hg.2) ?_
        show _ → Rn E 216 (16, [.ref 82, .int b1, .int b2, .int b3], [.int (I0 (85 + 4) b3.toNatClampNeg)], wT I0 R) o w
        refine D.run 1 rfl ?_
        refine D.br rfl (by decide) rfl (fun hc => ?_) (fun hc => ?_)
        · refine D.run 1 rfl ?_
          exact fun h => by obtain ⟨rfl, rfl⟩ := hT _ (D.some h); exact Rn.ret rfl rfl rfl
        · refine D.run 2 rfl ?_
          exact ih _  
  · intro n
    induction n with
    | zero => intro b3; exact D.none
    | succ n ih =>
      intro b3
      rw [l216_2]
      refine D.run 2 rfl ?_
      refine D.br rfl (by decide) rfl (fun hc => ?_) (fun hc => ?_)
      · exact fun h => D.to h (K _ _ (by first | rfl | assumption) _ (by first | rfl | assumption) _ (by first | rfl | assumption))
      · refine D.run 1 rfl ?_
        refine D.st rfl (by decide) (gf_1 h82_4) ?_
        refine D.run 2 rfl ?_
        refine D.gd fun hg => ?_
        refine D.st rfl (by decide) (al_i (by decide) (by first | rfl | decide) hg.1 hg.2) ?_
        show _ → Rn E 216 (16, [.ref 82, .int b1, .int b2, .int b3], [.int (I0 (126 + 4) b3.toNatClampNeg)], wT I0 R) o w
        refine D.run 1 rfl ?_
        refine D.br rfl (by decide) rfl (fun hc => ?_) (fun hc => ?_)
        · refine D.run 1 rfl ?_
          exact fun h => by obtain ⟨rfl, rfl⟩ := hT _ (D.some h); exact Rn.ret rfl rfl rfl
        · refine D.run 2 rfl ?_
          exact ih _  
def x216 (Z : Nat) (I : St) (a1 a2 : Int32) : Option (Int32) := (l216_2 Z a1 a2 100000 0 I).bind (Sum.elim (fun q1 => some (-1)) (fun r => some r))
set_option maxRecDepth 20000 in
theorem x216_D {E : Xe} {R : Nat → Nat → Option Nat} {Z : Nat} {o : Outcome} {w : Wd} {T : (Int32) → Prop} {I : St} (hZ : Z = 85 ∨ Z = 126) (h82_4 : R 82 4 = some Z) (a1 a2 : Int32) (hT : ∀ r, T r → o = .returned (some (.int r)) ∧ w = wT I R) : Dq (x216 Z I a1 a2) T → Rn E 216 (0, loc0 216 [.ref 82, .int a1, .int a2], [], wT I R) o w := by
  unfold x216
  rcases hZ with rfl | rfl
  all_goals
    refine D.run 2 rfl ?_
    refine D.bind (l216_2_ok (by decide) h82_4 (fun r h => hT _ (D.some h)) (fun q1 e2 he2 e3 he3 e4 he4 => ?_) 100000 _   )
    refine D.inl ?_
    refine D.run 1 rfl ?_
    exact fun h => by obtain ⟨rfl, rfl⟩ := hT _ (D.some h); exact Rn.ret rfl rfl rfl
set_option maxRecDepth 20000 in
theorem x216_ok {E : Xe} {R : Nat → Nat → Option Nat} {Z : Nat} {I : St} (hZ : Z = 85 ∨ Z = 126) (h82_4 : R 82 4 = some Z) {a1 a2 : Int32} {q : Int32} (h : x216 Z I a1 a2 = some q) : Rn E 216 (0, loc0 216 [.ref 82, .int a1, .int a2], [], wT I R) (.returned (some (.int q))) (wT I R) := x216_D hZ h82_4 _ _ (T := fun r => r = q) (by rintro r rfl; exact ⟨rfl, rfl⟩) ⟨_, h, rfl⟩
/-- TaintHouseModel.note(II)V -/
def x217 (I : St) (a1 a2 : Int32) : Option (St) := if a2 < (I 82 5) then some (up2 (up2 I 82 22 a1) 82 5 a2) else if a2 = (I 82 5) then if (I 82 22) ≤ a1 then some I else some (up2 (up2 I 82 22 a1) 82 5 a2) else some I
set_option maxRecDepth 20000 in
theorem x217_D {E : Xe} {R : Nat → Nat → Option Nat} {o : Outcome} {w : Wd} {T : (St) → Prop} {I : St} (a1 a2 : Int32) (hT : ∀ r, T r → o = .returned none ∧ w = wT r R) : Dq (x217 I a1 a2) T → Rn E 217 (0, loc0 217 [.ref 82, .int a1, .int a2], [], wT I R) o w := by
  unfold x217
  refine D.run 3 rfl ?_
  refine D.br rfl (by decide) rfl (fun hc => ?_) (fun hc => ?_)
  · refine D.run 6 rfl ?_
    exact fun h => by obtain ⟨rfl, rfl⟩ := hT _ (D.some h); exact Rn.ret rfl rfl rfl
  · refine D.run 3 rfl ?_
    refine D.br rfl (by decide) rfl (fun hc => ?_) (fun hc => ?_)
    · refine D.run 3 rfl ?_
      refine D.br rfl (by decide) rfl (fun hc => ?_) (fun hc => ?_)
      · exact fun h => by obtain ⟨rfl, rfl⟩ := hT _ (D.some h); exact Rn.ret rfl rfl rfl
      · refine D.run 6 rfl ?_
        exact fun h => by obtain ⟨rfl, rfl⟩ := hT _ (D.some h); exact Rn.ret rfl rfl rfl
    · exact fun h => by obtain ⟨rfl, rfl⟩ := hT _ (D.some h); exact Rn.ret rfl rfl rfl
set_option maxRecDepth 20000 in
theorem x217_ok {E : Xe} {R : Nat → Nat → Option Nat} {I : St} {a1 a2 : Int32} {q : St} (h : x217 I a1 a2 = some q) : Rn E 217 (0, loc0 217 [.ref 82, .int a1, .int a2], [], wT I R) (.returned none) (wT q R) := x217_D  _ _ (T := fun r => r = q) (by rintro r rfl; exact ⟨rfl, rfl⟩) ⟨_, h, rfl⟩
/-- TaintHouseModel.methodOf(LTaintHouseModel$Program;IIZ)I -/
def l219_12 (Q : Nat) (b2 : Int32) (b3 : Int32) (b4 : Int32) : Nat → Int32 → St → Option ((Unit) ⊕ (Int32))
  | 0, _, _ => none
  | n + 1, b5, I => if (I Q 8) ≤ b5 then some (.inl ()) else if inb b5 24 then if (I (Q + 15) b5.toNatClampNeg) = b4 then if inb b5 24 then if (I (Q + 16) b5.toNatClampNeg) = b2 then if inb b5 24 then if (I (Q + 25) b5.toNatClampNeg) = b3 then some (.inr b5) else l219_12 Q b2 b3 b4 n (b5 + 1) I else none else l219_12 Q b2 b3 b4 n (b5 + 1) I else none else l219_12 Q b2 b3 b4 n (b5 + 1) I else none
set_option maxRecDepth 20000 in
theorem l219_12_ok {E : Xe} {R : Nat → Nat → Option Nat} {Q : Nat} {I0 : St} {o : Outcome} {w : Wd} {T : ((Unit) ⊕ (Int32)) → Prop} {b2 : Int32} {b3 : Int32} {b4 : Int32} (hQ : Q = 85 ∨ Q = 126) (hT : ∀ r, T (.inr r) → o = .returned (some (.int r)) ∧ w = wT I0 R) (K : ∀ (q : Unit) (e1 : Value) (_ : is1 e1 = true) (e5 : Value) (_ : is1 e5 = true), T (.inl q) → Rn E 219 (64, [.ref Q, e1, .int b2, .int b3, .int b4, e5], [], wT I0 R) o w) : ∀ (n : Nat) (b5 : Int32) (d1 : Value), is1 d1 = true → Dq (l219_12 Q b2 b3 b4 n b5 I0) T → Rn E 219 (12, [.ref Q, d1, .int b2, .int b3, .int b4, .int b5], [], wT I0 R) o w := by
  rcases hQ with rfl | rfl
  all_goals
    intro n
    induction n with
    | zero => intro b5 d1 hd1; exact D.none
    | succ n ih =>
      intro b5 d1 hd1
      rw [l219_12]
      refine D.run 3 rfl ?_
      refine D.br rfl (by decide) rfl (fun hc => ?_) (fun hc => ?_)
      · exact fun h => D.to h (K _ _ (by first | rfl | assumption) _ (by first | rfl | assumption))
      · refine D.run 3 rfl ?_
        refine D.gd fun hg => ?_
        refine D.st rfl (by decide) (al_i (by decide) (by first | rfl | decide) hg.1 hg.2) ?_
        refine D.run 1 rfl ?_
        refine D.br rfl (by decide) rfl (fun hc => ?_) (fun hc => ?_)
        · refine D.run 3 rfl ?_
          refine D.gd fun hg => ?_
          refine D.st rfl (by decide) (al_i (by decide) (by first | rfl | decide) hg.1 hg.2) ?_
          refine D.run 1 rfl ?_
          refine D.br rfl (by decide) rfl (fun hc => ?_) (fun hc => ?_)
          · refine D.run 3 rfl ?_
            refine D.gd fun hg => ?_
            refine D.st rfl (by decide) (al_b (by decide) (by first | rfl | decide) hg.1 hg.2) ?_
            refine D.run 1 rfl ?_
            refine D.br rfl (by decide) rfl (fun hc => ?_) (fun hc => ?_)
            · refine D.run 1 rfl ?_
              exact fun h => by obtain ⟨rfl, rfl⟩ := hT _ (D.some h); exact Rn.ret rfl rfl rfl
            · refine D.run 2 rfl ?_
              exact ih _ _  (by first | rfl | assumption)
          · refine D.run 2 rfl ?_
            exact ih _ _  (by first | rfl | assumption)
        · refine D.run 2 rfl ?_
          exact ih _ _  (by first | rfl | assumption)
def l219_3 (Q : Nat) (b2 : Int32) (b3 : Int32) : Nat → Int32 → St → Option ((Unit) ⊕ (Int32))
  | 0, _, _ => none
  | n + 1, b4, I => if b4 = (-1) then some (.inl ()) else (l219_12 Q b2 b3 b4 100000 0 I).bind (Sum.elim (fun q1 => if inb b4 19 then l219_3 Q b2 b3 n (I (Q + 8) b4.toNatClampNeg) I else none) (fun r => some (.inr r)))
set_option maxRecDepth 20000 in
theorem l219_3_ok {E : Xe} {R : Nat → Nat → Option Nat} {Q : Nat} {I0 : St} {o : Outcome} {w : Wd} {T : ((Unit) ⊕ (Int32)) → Prop} {b2 : Int32} {b3 : Int32} (hQ : Q = 85 ∨ Q = 126) (hT : ∀ r, T (.inr r) → o = .returned (some (.int r)) ∧ w = wT I0 R) (K : ∀ (q : Unit) (e1 : Value) (_ : is1 e1 = true) (e2 : Value) (_ : is1 e2 = true) (e3 : Value) (_ : is1 e3 = true) (e4 : Value) (_ : is1 e4 = true) (e5 : Value) (_ : is1 e5 = true), T (.inl q) → Rn E 219 (76, [.ref Q, e1, e2, e3, e4, e5], [], wT I0 R) o w) : ∀ (n : Nat) (b4 : Int32) (d1 : Value) (d5 : Value), is1 d1 = true → is1 d5 = true → Dq (l219_3 Q b2 b3 n b4 I0) T → Rn E 219 (3, [.ref Q, d1, .int b2, .int b3, .int b4, d5], [], wT I0 R) o w := by
  rcases hQ with rfl | rfl
  all_goals
    intro n
    induction n with
    | zero => intro b4 d1 d5 hd1 hd5; exact D.none
    | succ n ih =>
      intro b4 d1 d5 hd1 hd5
      rw [l219_3]
      refine D.run 2 rfl ?_
      refine D.br rfl (by decide) rfl (fun hc => ?_) (fun hc => ?_)
      · exact fun h => D.to h (K _ _ (by first | rfl | assumption) _ (by first | rfl | assumption) _ (by first | rfl | assumption) _ (by first | rfl | assumption) _ (by first | rfl | assumption))
      · refine D.run 2 rfl ?_
        refine D.bind (l219_12_ok (by decide) (fun r h => hT _ (D.some h)) (fun q1 e2 he2 e3 he3 => ?_) 100000 _ _  (by first | rfl | assumption))
        refine D.inl ?_
        refine D.run 3 rfl ?_
        refine D.gd fun hg => ?_
        refine D.st rfl (by decide) (al_i (by decide) (by first | rfl | decide) hg.1 hg.2) ?_
        refine D.run 2 rfl ?_
        exact ih _ _ _  (by first | rfl | assumption) (by first | rfl | assumption)
def x219 (Q : Nat) (I : St) (a1 a2 a3 : Int32) : Option (Int32) := (l219_3 Q a2 a3 100000 a1 I).bind (Sum.elim (fun q4 => some (-1)) (fun r => some r))
set_option maxRecDepth 20000 in
theorem x219_D {E : Xe} {R : Nat → Nat → Option Nat} {Q : Nat} {o : Outcome} {w : Wd} {T : (Int32) → Prop} {I : St} (hQ : Q = 85 ∨ Q = 126) (a1 a2 a3 : Int32) (hT : ∀ r, T r → o = .returned (some (.int r)) ∧ w = wT I R) : Dq (x219 Q I a1 a2 a3) T → Rn E 219 (0, loc0 219 [.ref Q, .int a1, .int a2, .int a3], [], wT I R) o w := by
  unfold x219
  rcases hQ with rfl | rfl
  all_goals
    refine D.run 2 rfl ?_
    refine D.bind (l219_3_ok (by decide) (fun r h => hT _ (D.some h)) (fun q4 e5 he5 e6 he6 e7 he7 e8 he8 e9 he9 => ?_) 100000 _ _ _  (by first | rfl | assumption) (by first | rfl | assumption))
    refine D.inl ?_
    refine D.run 1 rfl ?_
    exact fun h => by obtain ⟨rfl, rfl⟩ := hT _ (D.some h); exact Rn.ret rfl rfl rfl
set_option maxRecDepth 20000 in
theorem x219_ok {E : Xe} {R : Nat → Nat → Option Nat} {Q : Nat} {I : St} (hQ : Q = 85 ∨ Q = 126) {a1 a2 a3 : Int32} {q : Int32} (h : x219 Q I a1 a2 a3 = some q) : Rn E 219 (0, loc0 219 [.ref Q, .int a1, .int a2, .int a3], [], wT I R) (.returned (some (.int q))) (wT I R) := x219_D hQ _ _ _ (T := fun r => r = q) (by rintro r rfl; exact ⟨rfl, rfl⟩) ⟨_, h, rfl⟩
/-- TaintHouseModel.labelOf(II)I -/
def l221_2 (Z : Nat) (b1 : Int32) (b2 : Int32) : Nat → Int32 → St → Option ((Unit) ⊕ (Int32))
  | 0, _, _ => none
  | n + 1, b3, I => if (I Z 10) ≤ b3 then some (.inl ()) else if inb b3 2000 then if (I (Z + 34) b3.toNatClampNeg) = b1 then if inb b3 2000 then if (I (Z + 35) b3.toNatClampNeg) = b2 then if inb b3 2000 then some (.inr (I (Z + 36) b3.toNatClampNeg)) else none else l221_2 Z b1 b2 n (b3 + 1) I else none else l221_2 Z b1 b2 n (b3 + 1) I else none
set_option maxRecDepth 20000 in
theorem l221_2_ok {E : Xe} {R : Nat → Nat → Option Nat} {Z : Nat} {I0 : St} {o : Outcome} {w : Wd} {T : ((Unit) ⊕ (Int32)) → Prop} {b1 : Int32} {b2 : Int32} (hZ : Z = 85 ∨ Z = 126) (h82_4 : R 82 4 = some Z) (hT : ∀ r, T (.inr r) → o = .returned (some (.int r)) ∧ w = wT I0 R) (K : ∀ (q : Unit) (e1 : Value) (_ : is1 e1 = true) (e2 : Value) (_ : is1 e2 = true) (e3 : Value) (_ : is1 e3 = true), T (.inl q) → Rn E 221 (55, [.ref 82, e1, e2, e3], [], wT I0 R) o w) : ∀ (n : Nat) (b3 : Int32), Dq (l221_2 Z b1 b2 n b3 I0) T → Rn E 221 (2, [.ref 82, .int b1, .int b2, .int b3], [], wT I0 R) o w := by
  rcases hZ with rfl | rfl
  · intro n
    induction n with
    | zero => intro b3; exact D.none
    | succ n ih =>
      intro b3
      rw [l221_2]
      refine D.run 2 rfl ?_
      refine D.st rfl (by decide) (gf_1 h82_4) ?_
      refine D.run 1 rfl ?_
      refine D.br rfl (by decide) rfl (fun hc => ?_) (fun hc => ?_)
      · exact fun h => D.to h (K _ _ (by first | rfl | assumption) _ (by first | rfl | assumption) _ (by first | rfl | assumption))
      · refine D.run 1 rfl ?_
        refine D.st rfl (by decide) (gf_1 h82_4) ?_
        refine D.run 2 rfl ?_
        refine D.gd fun hg => ?_
        refine D.st rfl (by decide) (al_i (by decide) (by first | rfl | decide) hg.1 hg.2) ?_
        show _ → Rn E 221 (22, [.ref 82, .int b1, .int b2, .int b3], [.int (I0 (85 + 34) b3.toNatClampNeg)], wT I0 R) o w
        refine D.run 1 rfl ?_
        refine D.br rfl (by decide) rfl (fun hc => ?_) (fun hc => ?_)
        · refine D.run 1 rfl ?_
          refine D.st rfl (by decide) (gf_1 h82_4) ?_
          refine D.run 2 rfl ?_
          refine D.gd fun hg => ?_
          refine D.st rfl (by decide) (al_i (by decide) (by first | rfl | decide) hg.1 hg.2) ?_
          show _ → Rn E 221 (35, [.ref 82, .int b1, .int b2, .int b3], [.int (I0 (85 + 35) b3.toNatClampNeg)], wT I0 R) o w
          refine D.run 1 rfl ?_
          refine D.br rfl (by decide) rfl (fun hc => ?_) (fun hc => ?_)
          · refine D.run 1 rfl ?_
            refine D.st rfl (by decide) (gf_1 h82_4) ?_
            refine D.run 2 rfl ?_
            refine D.gd fun hg => ?_
            refine D.st rfl (by decide) (al_i (by decide) (by first | rfl | decide) hg.1 hg.2) ?_
            show _ → Rn E 221 (48, [.ref 82, .int b1, .int b2, .int b3], [.int (I0 (85 + 36) b3.toNatClampNeg)], wT I0 R) o w
            exact fun h => by obtain ⟨rfl, rfl⟩ := hT _ (D.some h); exact Rn.ret rfl rfl rfl
          · refine D.run 2 rfl ?_
            exact ih _  
        · refine D.run 2 rfl ?_
          exact ih _  
  · intro n
    induction n with
    | zero => intro b3; exact D.none
    | succ n ih =>
      intro b3
      rw [l221_2]
      refine D.run 2 rfl ?_
      refine D.st rfl (by decide) (gf_1 h82_4) ?_
      refine D.run 1 rfl ?_
      refine D.br rfl (by decide) rfl (fun hc => ?_) (fun hc => ?_)
      · exact fun h => D.to h (K _ _ (by first | rfl | assumption) _ (by first | rfl | assumption) _ (by first | rfl | assumption))
      · refine D.run 1 rfl ?_
        refine D.st rfl (by decide) (gf_1 h82_4) ?_
        refine D.run 2 rfl ?_
        refine D.gd fun hg => ?_
        refine D.st rfl (by decide) (al_i (by decide) (by first | rfl | decide) hg.1 hg.2) ?_
        show _ → Rn E 221 (22, [.ref 82, .int b1, .int b2, .int b3], [.int (I0 (126 + 34) b3.toNatClampNeg)], wT I0 R) o w
        refine D.run 1 rfl ?_
        refine D.br rfl (by decide) rfl (fun hc => ?_) (fun hc => ?_)
        · refine D.run 1 rfl ?_
          refine D.st rfl (by decide) (gf_1 h82_4) ?_
          refine D.run 2 rfl ?_
          refine D.gd fun hg => ?_
          refine D.st rfl (by decide) (al_i (by decide) (by first | rfl | decide) hg.1 hg.2) ?_
          show _ → Rn E 221 (35, [.ref 82, .int b1, .int b2, .int b3], [.int (I0 (126 + 35) b3.toNatClampNeg)], wT I0 R) o w
          refine D.run 1 rfl ?_
          refine D.br rfl (by decide) rfl (fun hc => ?_) (fun hc => ?_)
          · refine D.run 1 rfl ?_
            refine D.st rfl (by decide) (gf_1 h82_4) ?_
            refine D.run 2 rfl ?_
            refine D.gd fun hg => ?_
            refine D.st rfl (by decide) (al_i (by decide) (by first | rfl | decide) hg.1 hg.2) ?_
            show _ → Rn E 221 (48, [.ref 82, .int b1, .int b2, .int b3], [.int (I0 (126 + 36) b3.toNatClampNeg)], wT I0 R) o w
            exact fun h => by obtain ⟨rfl, rfl⟩ := hT _ (D.some h); exact Rn.ret rfl rfl rfl
          · refine D.run 2 rfl ?_
            exact ih _  
        · refine D.run 2 rfl ?_
          exact ih _  
def x221 (Z : Nat) (I : St) (a1 a2 : Int32) : Option (Int32) := (l221_2 Z a1 a2 100000 0 I).bind (Sum.elim (fun q1 => some (-1)) (fun r => some r))
set_option maxRecDepth 20000 in
theorem x221_D {E : Xe} {R : Nat → Nat → Option Nat} {Z : Nat} {o : Outcome} {w : Wd} {T : (Int32) → Prop} {I : St} (hZ : Z = 85 ∨ Z = 126) (h82_4 : R 82 4 = some Z) (a1 a2 : Int32) (hT : ∀ r, T r → o = .returned (some (.int r)) ∧ w = wT I R) : Dq (x221 Z I a1 a2) T → Rn E 221 (0, loc0 221 [.ref 82, .int a1, .int a2], [], wT I R) o w := by
  unfold x221
  rcases hZ with rfl | rfl
  all_goals
    refine D.run 2 rfl ?_
    refine D.bind (l221_2_ok (by decide) h82_4 (fun r h => hT _ (D.some h)) (fun q1 e2 he2 e3 he3 e4 he4 => ?_) 100000 _   )
    refine D.inl ?_
    refine D.run 1 rfl ?_
    exact fun h => by obtain ⟨rfl, rfl⟩ := hT _ (D.some h); exact Rn.ret rfl rfl rfl
set_option maxRecDepth 20000 in
theorem x221_ok {E : Xe} {R : Nat → Nat → Option Nat} {Z : Nat} {I : St} (hZ : Z = 85 ∨ Z = 126) (h82_4 : R 82 4 = some Z) {a1 a2 : Int32} {q : Int32} (h : x221 Z I a1 a2 = some q) : Rn E 221 (0, loc0 221 [.ref 82, .int a1, .int a2], [], wT I R) (.returned (some (.int q))) (wT I R) := x221_D hZ h82_4 _ _ (T := fun r => r = q) (by rintro r rfl; exact ⟨rfl, rfl⟩) ⟨_, h, rfl⟩
/-- TaintHouseModel.fieldOf(II)I -/
def l222_10 (Z : Nat) (b2 : Int32) (b3 : Int32) : Nat → Int32 → St → Option ((Unit) ⊕ (Int32))
  | 0, _, _ => none
  | n + 1, b4, I => if (I Z 7) ≤ b4 then some (.inl ()) else if inb b4 100 then if (I (Z + 9) b4.toNatClampNeg) = b3 then if inb b4 100 then if (I (Z + 10) b4.toNatClampNeg) = b2 then some (.inr b4) else l222_10 Z b2 b3 n (b4 + 1) I else none else l222_10 Z b2 b3 n (b4 + 1) I else none
set_option maxRecDepth 20000 in
theorem l222_10_ok {E : Xe} {R : Nat → Nat → Option Nat} {Z : Nat} {I0 : St} {o : Outcome} {w : Wd} {T : ((Unit) ⊕ (Int32)) → Prop} {b2 : Int32} {b3 : Int32} (hZ : Z = 85 ∨ Z = 126) (h82_4 : R 82 4 = some Z) (hT : ∀ r, T (.inr r) → o = .returned (some (.int r)) ∧ w = wT I0 R) (K : ∀ (q : Unit) (e1 : Value) (_ : is1 e1 = true) (e4 : Value) (_ : is1 e4 = true), T (.inl q) → Rn E 222 (59, [.ref 82, e1, .int b2, .int b3, e4], [], wT I0 R) o w) : ∀ (n : Nat) (b4 : Int32) (d1 : Value), is1 d1 = true → Dq (l222_10 Z b2 b3 n b4 I0) T → Rn E 222 (10, [.ref 82, d1, .int b2, .int b3, .int b4], [], wT I0 R) o w := by
  rcases hZ with rfl | rfl
  · intro n
    induction n with
    | zero => intro b4 d1 hd1; exact D.none
    | succ n ih =>
      intro b4 d1 hd1
      rw [l222_10]
      refine D.run 2 rfl ?_
      refine D.st rfl (by decide) (gf_1 h82_4) ?_
      refine D.run 1 rfl ?_
      refine D.br rfl (by decide) rfl (fun hc => ?_) (fun hc => ?_)
      · exact fun h => D.to h (K _ _ (by first | rfl | assumption) _ (by first | rfl | assumption))
      · refine D.run 1 rfl ?_
        refine D.st rfl (by decide) (gf_1 h82_4) ?_
        refine D.run 2 rfl ?_
        refine D.gd fun hg => ?_
        refine D.st rfl (by decide) (al_i (by decide) (by first | rfl | decide) hg.1 hg.2) ?_
        show _ → Rn E 222 (32, [.ref 82, d1, .int b2, .int b3, .int b4], [.int (I0 (85 + 9) b4.toNatClampNeg)], wT I0 R) o w
        refine D.run 1 rfl ?_
        refine D.br rfl (by decide) rfl (fun hc => ?_) (fun hc => ?_)
        · refine D.run 1 rfl ?_
          refine D.st rfl (by decide) (gf_1 h82_4) ?_
          refine D.run 2 rfl ?_
          refine D.gd fun hg => ?_
          refine D.st rfl (by decide) (al_i (by decide) (by first | rfl | decide) hg.1 hg.2) ?_
          show _ → Rn E 222 (46, [.ref 82, d1, .int b2, .int b3, .int b4], [.int (I0 (85 + 10) b4.toNatClampNeg)], wT I0 R) o w
          refine D.run 1 rfl ?_
          refine D.br rfl (by decide) rfl (fun hc => ?_) (fun hc => ?_)
          · refine D.run 1 rfl ?_
            exact fun h => by obtain ⟨rfl, rfl⟩ := hT _ (D.some h); exact Rn.ret rfl rfl rfl
          · refine D.run 2 rfl ?_
            exact ih _ _  (by first | rfl | assumption)
        · refine D.run 2 rfl ?_
          exact ih _ _  (by first | rfl | assumption)
  · intro n
    induction n with
    | zero => intro b4 d1 hd1; exact D.none
    | succ n ih =>
      intro b4 d1 hd1
      rw [l222_10]
      refine D.run 2 rfl ?_
      refine D.st rfl (by decide) (gf_1 h82_4) ?_
      refine D.run 1 rfl ?_
      refine D.br rfl (by decide) rfl (fun hc => ?_) (fun hc => ?_)
      · exact fun h => D.to h (K _ _ (by first | rfl | assumption) _ (by first | rfl | assumption))
      · refine D.run 1 rfl ?_
        refine D.st rfl (by decide) (gf_1 h82_4) ?_
        refine D.run 2 rfl ?_
        refine D.gd fun hg => ?_
        refine D.st rfl (by decide) (al_i (by decide) (by first | rfl | decide) hg.1 hg.2) ?_
        show _ → Rn E 222 (32, [.ref 82, d1, .int b2, .int b3, .int b4], [.int (I0 (126 + 9) b4.toNatClampNeg)], wT I0 R) o w
        refine D.run 1 rfl ?_
        refine D.br rfl (by decide) rfl (fun hc => ?_) (fun hc => ?_)
        · refine D.run 1 rfl ?_
          refine D.st rfl (by decide) (gf_1 h82_4) ?_
          refine D.run 2 rfl ?_
          refine D.gd fun hg => ?_
          refine D.st rfl (by decide) (al_i (by decide) (by first | rfl | decide) hg.1 hg.2) ?_
          show _ → Rn E 222 (46, [.ref 82, d1, .int b2, .int b3, .int b4], [.int (I0 (126 + 10) b4.toNatClampNeg)], wT I0 R) o w
          refine D.run 1 rfl ?_
          refine D.br rfl (by decide) rfl (fun hc => ?_) (fun hc => ?_)
          · refine D.run 1 rfl ?_
            exact fun h => by obtain ⟨rfl, rfl⟩ := hT _ (D.some h); exact Rn.ret rfl rfl rfl
          · refine D.run 2 rfl ?_
            exact ih _ _  (by first | rfl | assumption)
        · refine D.run 2 rfl ?_
          exact ih _ _  (by first | rfl | assumption)
def l222_2 (Z : Nat) (b2 : Int32) : Nat → Int32 → St → Option ((Unit) ⊕ (Int32))
  | 0, _, _ => none
  | n + 1, b3, I => if b3 = (-1) then some (.inl ()) else (l222_10 Z b2 b3 100000 0 I).bind (Sum.elim (fun q1 => if inb b3 19 then l222_2 Z b2 n (I (Z + 8) b3.toNatClampNeg) I else none) (fun r => some (.inr r)))
set_option maxRecDepth 20000 in
theorem l222_2_ok {E : Xe} {R : Nat → Nat → Option Nat} {Z : Nat} {I0 : St} {o : Outcome} {w : Wd} {T : ((Unit) ⊕ (Int32)) → Prop} {b2 : Int32} (hZ : Z = 85 ∨ Z = 126) (h82_4 : R 82 4 = some Z) (hT : ∀ r, T (.inr r) → o = .returned (some (.int r)) ∧ w = wT I0 R) (K : ∀ (q : Unit) (e1 : Value) (_ : is1 e1 = true) (e2 : Value) (_ : is1 e2 = true) (e3 : Value) (_ : is1 e3 = true) (e4 : Value) (_ : is1 e4 = true), T (.inl q) → Rn E 222 (72, [.ref 82, e1, e2, e3, e4], [], wT I0 R) o w) : ∀ (n : Nat) (b3 : Int32) (d1 : Value) (d4 : Value), is1 d1 = true → is1 d4 = true → Dq (l222_2 Z b2 n b3 I0) T → Rn E 222 (2, [.ref 82, d1, .int b2, .int b3, d4], [], wT I0 R) o w := by
  rcases hZ with rfl | rfl
  · intro n
    induction n with
    | zero => intro b3 d1 d4 hd1 hd4; exact D.none
    | succ n ih =>
      intro b3 d1 d4 hd1 hd4
      rw [l222_2]
      refine D.run 2 rfl ?_
      refine D.br rfl (by decide) rfl (fun hc => ?_) (fun hc => ?_)
      · exact fun h => D.to h (K _ _ (by first | rfl | assumption) _ (by first | rfl | assumption) _ (by first | rfl | assumption) _ (by first | rfl | assumption))
      · refine D.run 2 rfl ?_
        refine D.bind (l222_10_ok (by decide) h82_4 (fun r h => hT _ (D.some h)) (fun q1 e2 he2 e3 he3 => ?_) 100000 _ _  (by first | rfl | assumption))
        refine D.inl ?_
        refine D.run 1 rfl ?_
        refine D.st rfl (by decide) (gf_1 h82_4) ?_
        refine D.run 2 rfl ?_
        refine D.gd fun hg => ?_
        refine D.st rfl (by decide) (al_i (by decide) (by first | rfl | decide) hg.1 hg.2) ?_
        show _ → Rn E 222 (68, [.ref 82, e2, .int b2, .int b3, e3], [.int (I0 (85 + 8) b3.toNatClampNeg)], wT I0 R) o w
        refine D.run 2 rfl ?_
        exact ih _ _ _  (by first | rfl | assumption) (by first | rfl | assumption)
  · intro n
    induction n with
    | zero => intro b3 d1 d4 hd1 hd4; exact D.none
    | succ n ih =>
      intro b3 d1 d4 hd1 hd4
      rw [l222_2]
      refine D.run 2 rfl ?_
      refine D.br rfl (by decide) rfl (fun hc => ?_) (fun hc => ?_)
      · exact fun h => D.to h (K _ _ (by first | rfl | assumption) _ (by first | rfl | assumption) _ (by first | rfl | assumption) _ (by first | rfl | assumption))
      · refine D.run 2 rfl ?_
        refine D.bind (l222_10_ok (by decide) h82_4 (fun r h => hT _ (D.some h)) (fun q1 e2 he2 e3 he3 => ?_) 100000 _ _  (by first | rfl | assumption))
        refine D.inl ?_
        refine D.run 1 rfl ?_
        refine D.st rfl (by decide) (gf_1 h82_4) ?_
        refine D.run 2 rfl ?_
        refine D.gd fun hg => ?_
        refine D.st rfl (by decide) (al_i (by decide) (by first | rfl | decide) hg.1 hg.2) ?_
        show _ → Rn E 222 (68, [.ref 82, e2, .int b2, .int b3, e3], [.int (I0 (126 + 8) b3.toNatClampNeg)], wT I0 R) o w
        refine D.run 2 rfl ?_
        exact ih _ _ _  (by first | rfl | assumption) (by first | rfl | assumption)
def x222 (Z : Nat) (I : St) (a1 a2 : Int32) : Option (Int32) := (l222_2 Z a2 100000 a1 I).bind (Sum.elim (fun q4 => some (-1)) (fun r => some r))
set_option maxRecDepth 20000 in
theorem x222_D {E : Xe} {R : Nat → Nat → Option Nat} {Z : Nat} {o : Outcome} {w : Wd} {T : (Int32) → Prop} {I : St} (hZ : Z = 85 ∨ Z = 126) (h82_4 : R 82 4 = some Z) (a1 a2 : Int32) (hT : ∀ r, T r → o = .returned (some (.int r)) ∧ w = wT I R) : Dq (x222 Z I a1 a2) T → Rn E 222 (0, loc0 222 [.ref 82, .int a1, .int a2], [], wT I R) o w := by
  unfold x222
  rcases hZ with rfl | rfl
  all_goals
    refine D.run 2 rfl ?_
    refine D.bind (l222_2_ok (by decide) h82_4 (fun r h => hT _ (D.some h)) (fun q4 e5 he5 e6 he6 e7 he7 e8 he8 => ?_) 100000 _ _ _  (by first | rfl | assumption) (by first | rfl | assumption))
    refine D.inl ?_
    refine D.run 1 rfl ?_
    exact fun h => by obtain ⟨rfl, rfl⟩ := hT _ (D.some h); exact Rn.ret rfl rfl rfl
set_option maxRecDepth 20000 in
theorem x222_ok {E : Xe} {R : Nat → Nat → Option Nat} {Z : Nat} {I : St} (hZ : Z = 85 ∨ Z = 126) (h82_4 : R 82 4 = some Z) {a1 a2 : Int32} {q : Int32} (h : x222 Z I a1 a2 = some q) : Rn E 222 (0, loc0 222 [.ref 82, .int a1, .int a2], [], wT I R) (.returned (some (.int q))) (wT I R) := x222_D hZ h82_4 _ _ (T := fun r => r = q) (by rintro r rfl; exact ⟨rfl, rfl⟩) ⟨_, h, rfl⟩
/-- TaintHouseModel.staticOf(II)I -/
def l223_10 (Z : Nat) (b2 : Int32) (b3 : Int32) : Nat → Int32 → St → Option ((Unit) ⊕ (Int32))
  | 0, _, _ => none
  | n + 1, b4, I => if (I Z 6) ≤ b4 then some (.inl ()) else if inb b4 16 then if (I (Z + 12) b4.toNatClampNeg) = b3 then if inb b4 16 then if (I (Z + 13) b4.toNatClampNeg) = b2 then some (.inr b4) else l223_10 Z b2 b3 n (b4 + 1) I else none else l223_10 Z b2 b3 n (b4 + 1) I else none
set_option maxRecDepth 20000 in
theorem l223_10_ok {E : Xe} {R : Nat → Nat → Option Nat} {Z : Nat} {I0 : St} {o : Outcome} {w : Wd} {T : ((Unit) ⊕ (Int32)) → Prop} {b2 : Int32} {b3 : Int32} (hZ : Z = 85 ∨ Z = 126) (h82_4 : R 82 4 = some Z) (hT : ∀ r, T (.inr r) → o = .returned (some (.int r)) ∧ w = wT I0 R) (K : ∀ (q : Unit) (e1 : Value) (_ : is1 e1 = true) (e4 : Value) (_ : is1 e4 = true), T (.inl q) → Rn E 223 (59, [.ref 82, e1, .int b2, .int b3, e4], [], wT I0 R) o w) : ∀ (n : Nat) (b4 : Int32) (d1 : Value), is1 d1 = true → Dq (l223_10 Z b2 b3 n b4 I0) T → Rn E 223 (10, [.ref 82, d1, .int b2, .int b3, .int b4], [], wT I0 R) o w := by
  rcases hZ with rfl | rfl
  · intro n
    induction n with
    | zero => intro b4 d1 hd1; exact D.none
    | succ n ih =>
      intro b4 d1 hd1
      rw [l223_10]
      refine D.run 2 rfl ?_
      refine D.st rfl (by decide) (gf_1 h82_4) ?_
      refine D.run 1 rfl ?_
      refine D.br rfl (by decide) rfl (fun hc => ?_) (fun hc => ?_)
      · exact fun h => D.to h (K _ _ (by first | rfl | assumption) _ (by first | rfl | assumption))
      · refine D.run 1 rfl ?_
        refine D.st rfl (by decide) (gf_1 h82_4) ?_
        refine D.run 2 rfl ?_
        refine D.gd fun hg => ?_
        refine D.st rfl (by decide) (al_i (by decide) (by first | rfl | decide) hg.1 hg.2) ?_
        show _ → Rn E 223 (32, [.ref 82, d1, .int b2, .int b3, .int b4], [.int (I0 (85 + 12) b4.toNatClampNeg)], wT I0 R) o w
        refine D.run 1 rfl ?_
        refine D.br rfl (by decide) rfl (fun hc => ?_) (fun hc => ?_)
        · refine D.run 1 rfl ?_
          refine D.st rfl (by decide) (gf_1 h82_4) ?_
          refine D.run 2 rfl ?_
          refine D.gd fun hg => ?_
          refine D.st rfl (by decide) (al_i (by decide) (by first | rfl | decide) hg.1 hg.2) ?_
          show _ → Rn E 223 (46, [.ref 82, d1, .int b2, .int b3, .int b4], [.int (I0 (85 + 13) b4.toNatClampNeg)], wT I0 R) o w
          refine D.run 1 rfl ?_
          refine D.br rfl (by decide) rfl (fun hc => ?_) (fun hc => ?_)
          · refine D.run 1 rfl ?_
            exact fun h => by obtain ⟨rfl, rfl⟩ := hT _ (D.some h); exact Rn.ret rfl rfl rfl
          · refine D.run 2 rfl ?_
            exact ih _ _  (by first | rfl | assumption)
        · refine D.run 2 rfl ?_
          exact ih _ _  (by first | rfl | assumption)
  · intro n
    induction n with
    | zero => intro b4 d1 hd1; exact D.none
    | succ n ih =>
      intro b4 d1 hd1
      rw [l223_10]
      refine D.run 2 rfl ?_
      refine D.st rfl (by decide) (gf_1 h82_4) ?_
      refine D.run 1 rfl ?_
      refine D.br rfl (by decide) rfl (fun hc => ?_) (fun hc => ?_)
      · exact fun h => D.to h (K _ _ (by first | rfl | assumption) _ (by first | rfl | assumption))
      · refine D.run 1 rfl ?_
        refine D.st rfl (by decide) (gf_1 h82_4) ?_
        refine D.run 2 rfl ?_
        refine D.gd fun hg => ?_
        refine D.st rfl (by decide) (al_i (by decide) (by first | rfl | decide) hg.1 hg.2) ?_
        show _ → Rn E 223 (32, [.ref 82, d1, .int b2, .int b3, .int b4], [.int (I0 (126 + 12) b4.toNatClampNeg)], wT I0 R) o w
        refine D.run 1 rfl ?_
        refine D.br rfl (by decide) rfl (fun hc => ?_) (fun hc => ?_)
        · refine D.run 1 rfl ?_
          refine D.st rfl (by decide) (gf_1 h82_4) ?_
          refine D.run 2 rfl ?_
          refine D.gd fun hg => ?_
          refine D.st rfl (by decide) (al_i (by decide) (by first | rfl | decide) hg.1 hg.2) ?_
          show _ → Rn E 223 (46, [.ref 82, d1, .int b2, .int b3, .int b4], [.int (I0 (126 + 13) b4.toNatClampNeg)], wT I0 R) o w
          refine D.run 1 rfl ?_
          refine D.br rfl (by decide) rfl (fun hc => ?_) (fun hc => ?_)
          · refine D.run 1 rfl ?_
            exact fun h => by obtain ⟨rfl, rfl⟩ := hT _ (D.some h); exact Rn.ret rfl rfl rfl
          · refine D.run 2 rfl ?_
            exact ih _ _  (by first | rfl | assumption)
        · refine D.run 2 rfl ?_
          exact ih _ _  (by first | rfl | assumption)
def l223_2 (Z : Nat) (b2 : Int32) : Nat → Int32 → St → Option ((Unit) ⊕ (Int32))
  | 0, _, _ => none
  | n + 1, b3, I => if b3 = (-1) then some (.inl ()) else (l223_10 Z b2 b3 100000 0 I).bind (Sum.elim (fun q1 => if inb b3 19 then l223_2 Z b2 n (I (Z + 8) b3.toNatClampNeg) I else none) (fun r => some (.inr r)))
set_option maxRecDepth 20000 in
theorem l223_2_ok {E : Xe} {R : Nat → Nat → Option Nat} {Z : Nat} {I0 : St} {o : Outcome} {w : Wd} {T : ((Unit) ⊕ (Int32)) → Prop} {b2 : Int32} (hZ : Z = 85 ∨ Z = 126) (h82_4 : R 82 4 = some Z) (hT : ∀ r, T (.inr r) → o = .returned (some (.int r)) ∧ w = wT I0 R) (K : ∀ (q : Unit) (e1 : Value) (_ : is1 e1 = true) (e2 : Value) (_ : is1 e2 = true) (e3 : Value) (_ : is1 e3 = true) (e4 : Value) (_ : is1 e4 = true), T (.inl q) → Rn E 223 (72, [.ref 82, e1, e2, e3, e4], [], wT I0 R) o w) : ∀ (n : Nat) (b3 : Int32) (d1 : Value) (d4 : Value), is1 d1 = true → is1 d4 = true → Dq (l223_2 Z b2 n b3 I0) T → Rn E 223 (2, [.ref 82, d1, .int b2, .int b3, d4], [], wT I0 R) o w := by
  rcases hZ with rfl | rfl
  · intro n
    induction n with
    | zero => intro b3 d1 d4 hd1 hd4; exact D.none
    | succ n ih =>
      intro b3 d1 d4 hd1 hd4
      rw [l223_2]
      refine D.run 2 rfl ?_
      refine D.br rfl (by decide) rfl (fun hc => ?_) (fun hc => ?_)
      · exact fun h => D.to h (K _ _ (by first | rfl | assumption) _ (by first | rfl | assumption) _ (by first | rfl | assumption) _ (by first | rfl | assumption))
      · refine D.run 2 rfl ?_
        refine D.bind (l223_10_ok (by decide) h82_4 (fun r h => hT _ (D.some h)) (fun q1 e2 he2 e3 he3 => ?_) 100000 _ _  (by first | rfl | assumption))
        refine D.inl ?_
        refine D.run 1 rfl ?_
        refine D.st rfl (by decide) (gf_1 h82_4) ?_
        refine D.run 2 rfl ?_
        refine D.gd fun hg => ?_
        refine D.st rfl (by decide) (al_i (by decide) (by first | rfl | decide) hg.1 hg.2) ?_
        show _ → Rn E 223 (68, [.ref 82, e2, .int b2, .int b3, e3], [.int (I0 (85 + 8) b3.toNatClampNeg)], wT I0 R) o w
        refine D.run 2 rfl ?_
        exact ih _ _ _  (by first | rfl | assumption) (by first | rfl | assumption)
  · intro n
    induction n with
    | zero => intro b3 d1 d4 hd1 hd4; exact D.none
    | succ n ih =>
      intro b3 d1 d4 hd1 hd4
      rw [l223_2]
      refine D.run 2 rfl ?_
      refine D.br rfl (by decide) rfl (fun hc => ?_) (fun hc => ?_)
      · exact fun h => D.to h (K _ _ (by first | rfl | assumption) _ (by first | rfl | assumption) _ (by first | rfl | assumption) _ (by first | rfl | assumption))
      · refine D.run 2 rfl ?_
        refine D.bind (l223_10_ok (by decide) h82_4 (fun r h => hT _ (D.some h)) (fun q1 e2 he2 e3 he3 => ?_) 100000 _ _  (by first | rfl | assumption))
        refine D.inl ?_
        refine D.run 1 rfl ?_
        refine D.st rfl (by decide) (gf_1 h82_4) ?_
        refine D.run 2 rfl ?_
        refine D.gd fun hg => ?_
        refine D.st rfl (by decide) (al_i (by decide) (by first | rfl | decide) hg.1 hg.2) ?_
        show _ → Rn E 223 (68, [.ref 82, e2, .int b2, .int b3, e3], [.int (I0 (126 + 8) b3.toNatClampNeg)], wT I0 R) o w
        refine D.run 2 rfl ?_
        exact ih _ _ _  (by first | rfl | assumption) (by first | rfl | assumption)
def x223 (Z : Nat) (I : St) (a1 a2 : Int32) : Option (Int32) := (l223_2 Z a2 100000 a1 I).bind (Sum.elim (fun q4 => some (-1)) (fun r => some r))
set_option maxRecDepth 20000 in
theorem x223_D {E : Xe} {R : Nat → Nat → Option Nat} {Z : Nat} {o : Outcome} {w : Wd} {T : (Int32) → Prop} {I : St} (hZ : Z = 85 ∨ Z = 126) (h82_4 : R 82 4 = some Z) (a1 a2 : Int32) (hT : ∀ r, T r → o = .returned (some (.int r)) ∧ w = wT I R) : Dq (x223 Z I a1 a2) T → Rn E 223 (0, loc0 223 [.ref 82, .int a1, .int a2], [], wT I R) o w := by
  unfold x223
  rcases hZ with rfl | rfl
  all_goals
    refine D.run 2 rfl ?_
    refine D.bind (l223_2_ok (by decide) h82_4 (fun r h => hT _ (D.some h)) (fun q4 e5 he5 e6 he6 e7 he7 e8 he8 => ?_) 100000 _ _ _  (by first | rfl | assumption) (by first | rfl | assumption))
    refine D.inl ?_
    refine D.run 1 rfl ?_
    exact fun h => by obtain ⟨rfl, rfl⟩ := hT _ (D.some h); exact Rn.ret rfl rfl rfl
set_option maxRecDepth 20000 in
theorem x223_ok {E : Xe} {R : Nat → Nat → Option Nat} {Z : Nat} {I : St} (hZ : Z = 85 ∨ Z = 126) (h82_4 : R 82 4 = some Z) {a1 a2 : Int32} {q : Int32} (h : x223 Z I a1 a2 = some q) : Rn E 223 (0, loc0 223 [.ref 82, .int a1, .int a2], [], wT I R) (.returned (some (.int q))) (wT I R) := x223_D hZ h82_4 _ _ (T := fun r => r = q) (by rintro r rfl; exact ⟨rfl, rfl⟩) ⟨_, h, rfl⟩
