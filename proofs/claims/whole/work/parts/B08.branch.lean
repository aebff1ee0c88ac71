/-! BRANCHES -/
section
variable {P Z n k s : Nat} {E F G p oa os hk : Nat → Nat} {A0 B0 A B A' B' : St} {VV : Nat → Nat → Option VEn} {NO U EV dp m i c x o : Nat} {fr : Nat → FrT} {t : Nat × Nat} {l : Nat × Nat × Nat}
/-- where a branch goes -/
def bEnd (Z x : Nat) (q : Int32 × St) : Option St := if q.1 = 0 then some (up2 q.2 82 64 (Int32.ofNat (x + 1))) else some (up2 q.2 82 64 (q.2 (Z + 33) x))
theorem x249_d (hx : x < 1333) (ho : 20 ≤ o ∧ o ≤ 36) : x249 Z B (Int32.ofNat x) (Int32.ofNat o) = (if o = 20 then some (1, B) else if o ≤ 26 then (x240 B).bind fun q45 => some ((x250 q45.2 (Int32.ofNat o - 21) q45.1 0), q45.2) else if o ≤ 32 then (x240 B).bind fun q43 => (x240 q43.2).bind fun q44 => some ((x250 q44.2 (Int32.ofNat o - 27) q44.1 q43.1), q44.2) else if o ≤ 34 then (x240 B).bind fun q1 => some ((if (if q1.1 = 0 then (1 : Int32) else 0) = (if o = 33 then 1 else 0) then 1 else 0), q1.2) else (x240 B).bind fun q7 => (x240 q7.2).bind fun q8 => some ((if (if q8.1 = q7.1 then (1 : Int32) else 0) = (if o = 35 then 1 else 0) then 1 else 0), q8.2)).bind (bEnd Z x) := by
  have hin : inb (Int32.ofNat x) 2400 := (i32_inb (by omega)).mpr (by omega)
  have hcl : (Int32.ofNat x).toNatClampNeg = x := i32_cl (by omega)
  have hb : (fun (q46 : Int32 × St) => if q46.1 = 0 then some (up2 q46.2 82 64 (Int32.ofNat x + 1)) else if inb (Int32.ofNat x) 2400 then some (up2 q46.2 82 64 (q46.2 (Z + 33) (Int32.ofNat x).toNatClampNeg)) else none) = bEnd Z x := by
    funext q
    unfold bEnd
    simp only [if_pos hin, hcl, i32_s]
  have hc : o = 20 ∨ o = 21 ∨ o = 22 ∨ o = 23 ∨ o = 24 ∨ o = 25 ∨ o = 26 ∨ o = 27 ∨ o = 28 ∨ o = 29 ∨ o = 30 ∨ o = 31 ∨ o = 32 ∨ o = 33 ∨ o = 34 ∨ o = 35 ∨ o = 36 := by omega
  unfold x249
  rw [hb]
  refine congrArg (fun X => Option.bind X (bEnd Z x)) ?_
  rcases hc with rfl | rfl | rfl | rfl | rfl | rfl | rfl | rfl | rfl | rfl | rfl | rfl | rfl | rfl | rfl | rfl | rfl
  all_goals
    simp (decide := true) only [if_true, if_false, Option.bind_some]
  all_goals
    first
    | rfl
    | (refine congrArg _ (funext fun q => ?_)
       first
       | (by_cases y : q.1 = 0 <;> simp (decide := true) only [y, if_true, if_false, Option.bind_some])
       | (refine congrArg _ (funext fun q' => ?_)
          by_cases y : q'.1 = q.1 <;> simp (decide := true) only [y, if_true, if_false, Option.bind_some]))
theorem x142_d {a : Int32} (ho : 20 ≤ o ∧ o ≤ 36) : x142 A (Int32.ofNat o) a = (if o = 20 then some ((1 : Int32), (0 : Int32)) else if o ≤ 26 then some ((x143 A (Int32.ofNat o - 21) (x133 A 0) 0), 1) else if o ≤ 32 then some ((x143 A (Int32.ofNat o - 27) (x133 A 1) (x133 A 0)), 2) else if o ≤ 34 then some ((if (if x133 A 0 = -1 then (1 : Int32) else 0) = (if o = 33 then 1 else 0) then 1 else 0), 1) else some ((if (if x133 A 1 = x133 A 0 then (1 : Int32) else 0) = (if o = 35 then 1 else 0) then 1 else 0), 2)).bind fun (q5 : Int32 × Int32) => (x135 A q5.2).bind fun q6 => if q5.1 = 0 then some q6 else some (up2 q6 68 10 a) := by
  have hc : o = 20 ∨ o = 21 ∨ o = 22 ∨ o = 23 ∨ o = 24 ∨ o = 25 ∨ o = 26 ∨ o = 27 ∨ o = 28 ∨ o = 29 ∨ o = 30 ∨ o = 31 ∨ o = 32 ∨ o = 33 ∨ o = 34 ∨ o = 35 ∨ o = 36 := by omega
  unfold x142
  refine congrArg (fun X => Option.bind X _) ?_
  rcases hc with rfl | rfl | rfl | rfl | rfl | rfl | rfl | rfl | rfl | rfl | rfl | rfl | rfl | rfl | rfl | rfl | rfl
  all_goals
    simp (decide := true) only [if_true, if_false, Option.bind_some]
  · by_cases y : x133 A 0 = -1 <;> simp (decide := true) only [y, if_true, if_false, Option.bind_some]
  · by_cases y : x133 A 0 = -1 <;> simp (decide := true) only [y, if_true, if_false, Option.bind_some]
  · by_cases y : x133 A 1 = x133 A 0 <;> simp (decide := true) only [y, if_true, if_false, Option.bind_some]
  · by_cases y : x133 A 1 = x133 A 0 <;> simp (decide := true) only [y, if_true, if_false, Option.bind_some]
/-- a branch, popped to h0, g: whether it goes -/
theorem nx_br {h0 r0 tk : Nat} {g : Int32} {B1 : St} (hP : Hid (P = 3 ∨ P = 18)) (hP2 : 3 ≤ P ∧ P ≤ 18) (hZ2 : 85 ≤ Z ∧ Z ≤ 126) (hL : Lkd P Z n k s E F G p A0 B0) (hT : ∀ m, m < k → TyM B0 Z m (F (m + 1) - F m) (F m) G (VV m)) (h : MC P Z n k s E F p A0 B0 VV oa os hk NO U EV dp m i c fr t l A B) (hc : c < 20000) (ho : 20 ≤ opn B0 Z (F m + i) ∧ opn B0 Z (F m + i) ≤ 36) (hh : h0 + tk = t.1) (hr : ∀ j, j < h0 → kbt r0 j = kbt t.2 j) (hef0 : efB B0 Z m (F m + i) t l = some (h0, r0)) (hg : opn B0 Z (F m + i) = 20 → g ≠ 0) (hB1 : ∀ a b, (a ≠ 82 ∨ (b ≠ 65 ∧ b ≠ 66)) → B1 a b = B a b) (hB65 : B1 82 65 = Int32.ofNat h0) (eA : x142 (up2 A 68 10 (Int32.ofNat (i + 1))) (Int32.ofNat (opn B0 Z (F m + i))) (A (P + 10) (3 * (F m + i) + 1)) = (x135 (up2 A 68 10 (Int32.ofNat (i + 1))) (Int32.ofNat tk)).bind fun q6 => if g = 0 then some q6 else some (up2 q6 68 10 (A (P + 10) (3 * (F m + i) + 1)))) (eB : x249 Z B (Int32.ofNat (F m + i)) (Int32.ofNat (opn B0 Z (F m + i))) = bEnd Z (F m + i) (g, B1)) : StepOK P Z n k s E F p A0 B0 VV c A B := by
  have hkn := kno hP hZ2 hL hT h
  obtain ⟨hLk, kx, ko, kt, k16, klo, kfu, klp, kvis, ka, kb1, kF, kF2, kk, k27⟩ := hkn
  have h' := h
  obtain ⟨c1, c2, c3, ⟨r1, r2, r3, r4, r5, r6, r7, r8, r9, r10, r11, r12⟩, c5, c6, c7⟩ := h'
  obtain ⟨t', hef, hnx, hlb, htr⟩ := kvis
  have hpt : PT dp t.1 (up2 A 68 10 (Int32.ofNat (i + 1))) B := ⟨by rw [up2_o (by omega)]; exact c6.1, c6.2.1, c6.2.2.1, by rw [up2_o (by omega)]; exact c6.2.2.2.1, c6.2.2.2.2⟩
  have hA1 : ∀ a b, (a ≠ 68 ∨ (b ≠ 10 ∧ b ≠ 11)) → up2 A 68 10 (Int32.ofNat (i + 1)) a b = A a b := fun a b y => up2_o (by omega)
  have dp24 := c6.2.2.1
  have haft : aft B0 Z (F m + i) t l = l := by unfold aft; rw [if_neg (by omega)]
  rw [hef0] at hef
  cases hef
  have hsh : ∀ o, o < 59 → (20 ≤ o ∧ o ≤ 36) → shp o = 4 := by decide
  have s4 := hsh _ ko ho
  obtain ⟨o, o1, o2, o3, -, -, -, o7, -⟩ := klp
  have eo : o = opn B0 Z (F m + i) := by rw [kb1, i32_eq (Nat.lt_trans ko (by decide)) (Nat.lt_trans o1 (by decide))] at o3; exact o3.symm
  subst eo
  obtain ⟨tg, y1, y2, y3⟩ := o7 s4
  clear o7
  have eitg : itg B0 Z (F m + i) = F m + tg := by unfold itg; rw [← c1.2 (Z + 33) _ (by omega), y3, i32_cl (by omega)]
  rw [drp_n hpt (j := tk) (by omega) rfl, Option.bind_some, show t.1 - tk = h0 by omega, y2] at eA
  have eX : x129 P (up2 A 68 10 (Int32.ofNat (i + 1))) (A (P + 10) (3 * (F m + i))) (A (P + 10) (3 * (F m + i) + 1)) (A (P + 10) (3 * (F m + i) + 2)) = x142 (up2 A 68 10 (Int32.ofNat (i + 1))) (Int32.ofNat (opn B0 Z (F m + i))) (A (P + 10) (3 * (F m + i) + 1)) := by
    rw [ka, x129_h (by omega) (by omega), if_neg (by omega), if_pos (by omega)]
  have eR : x238 Z B = x249 Z B (Int32.ofNat (F m + i)) (Int32.ofNat (opn B0 Z (F m + i))) := by
    rw [x238_d kx r4 kb1 ko (by omega)]
    unfold actR
    rw [if_neg (by omega), if_neg (by omega), if_neg (by omega), if_neg (by omega), if_neg (by omega), if_neg (by omega), if_neg (by omega), if_neg (by omega), if_neg (by omega), if_neg (by omega), if_pos (by omega)]
  unfold bEnd at eB
  by_cases hg0 : g = 0
  · rw [if_pos hg0] at eA eB
    obtain ⟨hi3, hinc⟩ := hnx (fun y => y.elim (fun y => hg y hg0) (by omega))
    rw [haft] at hinc
    exact nx_pop (A1 := up2 (up2 A 68 10 (Int32.ofNat (i + 1))) 68 11 (Int32.ofNat h0)) (B1 := up2 B1 82 64 (Int32.ofNat (F m + i + 1))) (h0 := h0) (r0 := r0) (i' := i + 1) hP hP2 hZ2 hL hT h hc (fun a b y => by rw [up2_o (by omega), up2_o (by omega)]) (by rw [up2_o (by omega), up2_s]) (fun a b y => by rw [up2_o (by omega), hB1 a b (by omega)]) (by rw [up2_s]; rfl) ⟨by rw [up2_o (by omega)]; exact hpt.1, by rw [up2_o (by omega), hB1 _ _ (by omega)]; exact c6.2.1, dp24, up2_s _ _ _ _, by rw [up2_o (by omega)]; exact hB65, by omega⟩ (by omega) hr hi3 hinc kfu (by rw [eX, y2, eA]) (by rw [eR, eB])
  · rw [if_neg hg0] at eA eB
    obtain ⟨hi3, hinc⟩ := hlb s4
    rw [haft, eitg, show F m + tg - F m = tg by omega] at hinc
    rw [eitg, show F m + tg - F m = tg by omega] at hi3
    exact nx_pop (A1 := up2 (up2 (up2 A 68 10 (Int32.ofNat (i + 1))) 68 11 (Int32.ofNat h0)) 68 10 (Int32.ofNat tg)) (B1 := up2 B1 82 64 (Int32.ofNat (F m + tg))) (h0 := h0) (r0 := r0) (i' := tg) hP hP2 hZ2 hL hT h hc (fun a b y => by rw [up2_o (by omega), up2_o (by omega), up2_o (by omega)]) (up2_s _ _ _ _) (fun a b y => by rw [up2_o (by omega), hB1 a b (by omega)]) (up2_s _ _ _ _) ⟨by rw [up2_o (by omega), up2_o (by omega)]; exact hpt.1, by rw [up2_o (by omega), hB1 _ _ (by omega)]; exact c6.2.1, dp24, by rw [up2_o (by omega), up2_s], by rw [up2_o (by omega)]; exact hB65, by omega⟩ (by omega) hr hi3 hinc kfu (by rw [eX, y2, eA]) (by rw [eR, eB]; dsimp only; rw [hB1 (Z + 33) _ (by omega), y3])
theorem x143_50 {I J : St} {a b c : Int32} : x143 I a b c = x250 J a b c := rfl
theorem pop2 (h0 : PT dp t.1 A B) (hh : 1 < t.1) : ∃ B1 B2, x240 B = some (B 198 (16 * dp + (t.1 - 1)), B1) ∧ x240 B1 = some (B 198 (16 * dp + (t.1 - 2)), B2) ∧ B1 82 66 = B 199 (16 * dp + (t.1 - 1)) ∧ B2 82 66 = B 199 (16 * dp + (t.1 - 2)) ∧ B2 82 65 = Int32.ofNat (t.1 - 2) ∧ ∀ a b, (a ≠ 82 ∨ (b ≠ 65 ∧ b ≠ 66)) → B2 a b = B a b := by
  obtain ⟨B1, b1, b2, b3, b4⟩ := pop1 h0 (by omega)
  have hp : PT dp (t.1 - 1) (up2 A 68 11 (Int32.ofNat (t.1 - 1))) B1 := ⟨by rw [up2_o (by omega)]; exact h0.1, by rw [b4 _ _ (by omega)]; exact h0.2.1, h0.2.2.1, up2_s _ _ _ _, b3, by have := h0.2.2.2.2.2; omega⟩
  have e := pop_n hp (by omega)
  rw [show t.1 - 1 - 1 = t.1 - 2 by omega, b4 _ _ (by omega), b4 _ _ (by omega)] at e
  exact ⟨B1, _, b1, e, b2, up2_s _ _ _ _, by rw [up2_o (by omega), up2_s], fun a b y => by rw [up2_o (by omega), up2_o (by omega), b4 a b y]⟩
theorem tk1 {kd : Nat} {t t' : Nat × Nat} (h : ((tkk kd t).bind (tkz [])).bind (pso 0) = some t') : tkk kd t = some t' := by
  cases z : tkk kd t with
  | none => rw [z] at h; cases h
  | some u => rw [z] at h; exact h
theorem tk2 {kd kd' : Nat} {t t' : Nat × Nat} (h : ((tkk kd t).bind (tkz [kd'])).bind (pso 0) = some t') : ∃ u, tkk kd t = some u ∧ tkk kd' u = some t' := by
  cases z : tkk kd t with
  | none => rw [z] at h; cases h
  | some u =>
    rw [z, Option.bind_some, tkz] at h
    cases y : tkk kd' u with
    | none => rw [y] at h; cases h
    | some w =>
      rw [y] at h
      have h : some w = some t' := h
      rw [← h]
      exact ⟨u, rfl, y⟩
theorem op_br (hP : Hid (P = 3 ∨ P = 18)) (hP2 : 3 ≤ P ∧ P ≤ 18) (hZ2 : 85 ≤ Z ∧ Z ≤ 126) (hL : Lkd P Z n k s E F G p A0 B0) (hT : ∀ m, m < k → TyM B0 Z m (F (m + 1) - F m) (F m) G (VV m)) (h : MC P Z n k s E F p A0 B0 VV oa os hk NO U EV dp m i c fr t l A B) (hc : c < 20000) (ho : 20 ≤ opn B0 Z (F m + i) ∧ opn B0 Z (F m + i) ≤ 36) : StepOK P Z n k s E F p A0 B0 VV c A B := by
  have hkn := kno hP hZ2 hL hT h
  obtain ⟨hLk, kx, ko, kt, k16, klo, kfu, klp, kvis, ka, kb1, kF, kF2, kk, k27⟩ := hkn
  have h' := h
  obtain ⟨c1, c2, c3, ⟨r1, r2, r3, r4, r5, r6, r7, r8, r9, r10, r11, r12⟩, c5, c6, c7⟩ := h'
  obtain ⟨t', hef, hnx, hlb, htr⟩ := kvis
  have hpt : PT dp t.1 (up2 A 68 10 (Int32.ofNat (i + 1))) B := ⟨by rw [up2_o (by omega)]; exact c6.1, c6.2.1, c6.2.2.1, by rw [up2_o (by omega)]; exact c6.2.2.2.1, c6.2.2.2.2⟩
  have hA1 : ∀ a b, (a ≠ 68 ∨ (b ≠ 10 ∧ b ≠ 11)) → up2 A 68 10 (Int32.ofNat (i + 1)) a b = A a b := fun a b y => up2_o (by omega)
  have dp24 := c6.2.2.1
  have x1 := x142_d (A := up2 A 68 10 (Int32.ofNat (i + 1))) (a := A (P + 10) (3 * (F m + i) + 1)) ho
  have x2 := x249_d (Z := Z) (B := B) kx ho
  clear klp hlb htr hnx
  by_cases y20 : opn B0 Z (F m + i) = 20
  · rw [if_pos y20, Option.bind_some] at x1 x2
    have e0 : efB B0 Z m (F m + i) t l = some (t.1, t.2) := by unfold efB; rw [y20]; rfl
    exact nx_br (h0 := t.1) (r0 := t.2) (tk := 0) (g := 1) (B1 := B) hP hP2 hZ2 hL hT h hc ho (by omega) (fun _ _ => rfl) e0 (fun _ => by decide) (fun _ _ _ => rfl) c6.2.2.2.2.1 (by rw [x1]; rfl) x2
  rw [if_neg y20] at x1 x2
  by_cases y26 : opn B0 Z (F m + i) ≤ 26
  · rw [if_pos y26] at x1 x2
    have hk : ∀ o, o < 59 → (21 ≤ o ∧ o ≤ 26) → (tkl o = [1] ∧ gvk o = 0 ∧ ∀ a b c d e f, eff o a b c d e f = (tkz (tkl o) f).bind (pso (gvk o))) := by
      intro o ho ⟨p1, p2⟩
      have : o = 21 ∨ o = 22 ∨ o = 23 ∨ o = 24 ∨ o = 25 ∨ o = 26 := by omega
      rcases this with rfl | rfl | rfl | rfl | rfl | rfl <;> exact ⟨rfl, rfl, fun _ _ _ _ _ _ => rfl⟩
    obtain ⟨k1, k2, k3⟩ := hk _ ko (by omega)
    have hef' : ((tkk 1 t).bind (tkz [])).bind (pso 0) = some t' := by
      unfold efB at hef
      rw [k3, k1, k2] at hef
      exact hef
    have hef1 := tk1 hef'
    obtain ⟨q1, q2, rfl⟩ := tkk_y hef1
    have q2 : kbt t.2 (t.1 - 1) = 1 := q2.resolve_left (by decide)
    obtain ⟨B1, b1, b2, b3, b4⟩ := pop1 c6 q1
    obtain ⟨v1, v2⟩ := top_r (j := t.1 - 1) c7 (by omega)
    rw [q2] at v1
    have v1 := v1.i
    obtain ⟨w1, w2⟩ := val_n hpt (j := 0) (x := 0) q1 rfl
    rw [Nat.sub_zero, hA1 _ _ (by omega)] at w1
    rw [b1, Option.bind_some, Option.bind_some] at x2
    rw [Option.bind_some, w1, v1] at x1
    exact nx_br (h0 := t.1 - 1) (r0 := (spp t).2) (tk := 1) (B1 := B1) hP hP2 hZ2 hL hT h hc ho (by omega) (fun j hj => spp_k hj) hef (fun y => absurd y y20) b4 b3 x1 x2
  rw [if_neg y26] at x1 x2
  by_cases y32 : opn B0 Z (F m + i) ≤ 32
  · rw [if_pos y32] at x1 x2
    have hk : ∀ o, o < 59 → (27 ≤ o ∧ o ≤ 32) → (tkl o = [1, 1] ∧ gvk o = 0 ∧ ∀ a b c d e f, eff o a b c d e f = (tkz (tkl o) f).bind (pso (gvk o))) := by
      intro o ho ⟨p1, p2⟩
      have : o = 27 ∨ o = 28 ∨ o = 29 ∨ o = 30 ∨ o = 31 ∨ o = 32 := by omega
      rcases this with rfl | rfl | rfl | rfl | rfl | rfl <;> exact ⟨rfl, rfl, fun _ _ _ _ _ _ => rfl⟩
    obtain ⟨k1, k2, k3⟩ := hk _ ko (by omega)
    have hef' : ((tkk 1 t).bind (tkz [1])).bind (pso 0) = some t' := by
      unfold efB at hef
      rw [k3, k1, k2] at hef
      exact hef
    obtain ⟨u, g1, g2⟩ := tk2 hef'
    obtain ⟨q1, q2, rfl⟩ := tkk_y g1
    obtain ⟨q3, q4, rfl⟩ := tkk_y g2
    have q3 : 0 < t.1 - 1 := q3
    have q2 : kbt t.2 (t.1 - 1) = 1 := q2.resolve_left (by decide)
    have q4 : kbt (spp t).2 (t.1 - 1 - 1) = 1 := q4.resolve_left (by decide)
    rw [spp_k (by omega)] at q4
    obtain ⟨B1, B2, b1, b2, b3, b4, b5, b6⟩ := pop2 c6 (by omega)
    obtain ⟨v1, v2⟩ := top_r (j := t.1 - 1) c7 (by omega)
    obtain ⟨v3, v4⟩ := top_r (j := t.1 - 1 - 1) c7 (by omega)
    rw [q2] at v1
    rw [q4] at v3
    have v1 := v1.i
    have v3 := v3.i
    obtain ⟨w1, w2⟩ := val_n hpt (j := 0) (x := 0) (by omega) rfl
    obtain ⟨w3, w4⟩ := val_n hpt (j := 1) (x := 1) (by omega) rfl
    rw [Nat.sub_zero, hA1 _ _ (by omega)] at w1
    rw [hA1 _ _ (by omega)] at w3
    rw [b1, Option.bind_some] at x2
    dsimp only at x2
    rw [b2, Option.bind_some, Option.bind_some] at x2
    rw [Option.bind_some, w1, w3, v1, v3] at x1
    rw [show t.1 - 2 = t.1 - 1 - 1 by omega] at x2
    exact nx_br (h0 := t.1 - 1 - 1) (r0 := (spp (spp t)).2) (tk := 2) (B1 := B2) hP hP2 hZ2 hL hT h hc ho (by omega) (fun j hj => by rw [spp_k (t := spp t) hj, spp_k (by omega)]) hef (fun y => absurd y y20) b6 (by rw [b5]; congr 1) x1 x2
  rw [if_neg y32] at x1 x2
  by_cases y34 : opn B0 Z (F m + i) ≤ 34
  · rw [if_pos y34] at x1 x2
    have hk : ∀ o, o < 59 → (33 ≤ o ∧ o ≤ 34) → (tkl o = [2] ∧ gvk o = 0 ∧ ∀ a b c d e f, eff o a b c d e f = (tkz (tkl o) f).bind (pso (gvk o))) := by
      intro o ho ⟨p1, p2⟩
      have : o = 33 ∨ o = 34 := by omega
      rcases this with rfl | rfl <;> exact ⟨rfl, rfl, fun _ _ _ _ _ _ => rfl⟩
    obtain ⟨k1, k2, k3⟩ := hk _ ko (by omega)
    have hef' : ((tkk 2 t).bind (tkz [])).bind (pso 0) = some t' := by
      unfold efB at hef
      rw [k3, k1, k2] at hef
      exact hef
    have hef1 := tk1 hef'
    obtain ⟨q1, q2, rfl⟩ := tkk_y hef1
    have q2 : kbt t.2 (t.1 - 1) = 2 := q2.resolve_left (by decide)
    obtain ⟨B1, b1, b2, b3, b4⟩ := pop1 c6 q1
    obtain ⟨v1, v2⟩ := top_r (j := t.1 - 1) c7 (by omega)
    rw [q2] at v1
    have NOb : NO ≤ 3000 := by have := c2.1.2.2.2.2.2.1; omega
    have hn : A 81 (2 * (32 * dp + 16 + (t.1 - 1))) = -1 ↔ B 198 (16 * dp + (t.1 - 1)) = 0 := by
      rcases v1.r with ⟨y1, y2⟩ | ⟨r, y1, y2, y3⟩
      · rw [y1, y2]; exact ⟨fun _ => rfl, fun _ => rfl⟩
      · rw [y2, y3]
        exact ⟨fun z => absurd z (i32_m1 (by omega)), fun z => by rw [i32_e (x := 0) (b := 0) rfl (by omega) (by decide)] at z; omega⟩
    obtain ⟨w1, w2⟩ := val_n hpt (j := 0) (x := 0) q1 rfl
    rw [Nat.sub_zero, hA1 _ _ (by omega)] at w1
    rw [b1, Option.bind_some, Option.bind_some] at x2
    rw [Option.bind_some, w1] at x1
    simp only [hn] at x1
    exact nx_br (h0 := t.1 - 1) (r0 := (spp t).2) (tk := 1) (B1 := B1) hP hP2 hZ2 hL hT h hc ho (by omega) (fun j hj => spp_k hj) hef (fun y => absurd y y20) b4 b3 x1 x2
  rw [if_neg y34] at x1 x2
  have hk : ∀ o, o < 59 → (35 ≤ o ∧ o ≤ 36) → (tkl o = [2, 2] ∧ gvk o = 0 ∧ ∀ a b c d e f, eff o a b c d e f = (tkz (tkl o) f).bind (pso (gvk o))) := by
    intro o ho ⟨p1, p2⟩
    have : o = 35 ∨ o = 36 := by omega
    rcases this with rfl | rfl <;> exact ⟨rfl, rfl, fun _ _ _ _ _ _ => rfl⟩
  obtain ⟨k1, k2, k3⟩ := hk _ ko (by omega)
  have hef' : ((tkk 2 t).bind (tkz [2])).bind (pso 0) = some t' := by
    unfold efB at hef
    rw [k3, k1, k2] at hef
    exact hef
  obtain ⟨u, g1, g2⟩ := tk2 hef'
  obtain ⟨q1, q2, rfl⟩ := tkk_y g1
  obtain ⟨q3, q4, rfl⟩ := tkk_y g2
  have q3 : 0 < t.1 - 1 := q3
  have q2 : kbt t.2 (t.1 - 1) = 2 := q2.resolve_left (by decide)
  have q4 : kbt (spp t).2 (t.1 - 1 - 1) = 2 := q4.resolve_left (by decide)
  rw [spp_k (by omega)] at q4
  obtain ⟨B1, B2, b1, b2, b3, b4, b5, b6⟩ := pop2 c6 (by omega)
  obtain ⟨v1, v2⟩ := top_r (j := t.1 - 1) c7 (by omega)
  obtain ⟨v3, v4⟩ := top_r (j := t.1 - 1 - 1) c7 (by omega)
  rw [q2] at v1
  rw [q4] at v3
  have NOb : NO ≤ 3000 := by have := c2.1.2.2.2.2.2.1; omega
  have hn : A 81 (2 * (32 * dp + 16 + (t.1 - 1 - 1))) = A 81 (2 * (32 * dp + 16 + (t.1 - 1))) ↔ B 198 (16 * dp + (t.1 - 1 - 1)) = B 198 (16 * dp + (t.1 - 1)) := by
    rcases v1.r with ⟨y1, y2⟩ | ⟨r, y1, y2, y3⟩ <;> rcases v3.r with ⟨y4, y5⟩ | ⟨r', y4, y5, y6⟩
    · rw [y1, y2, y4, y5]; exact ⟨fun _ => rfl, fun _ => rfl⟩
    · rw [y1, y2, y5, y6]
      exact ⟨fun z => absurd z (i32_m1 (by omega)), fun z => by rw [i32_e (x := 0) (b := 0) rfl (by omega) (by decide)] at z; omega⟩
    · rw [y2, y3, y4, y5]
      exact ⟨fun z => absurd z.symm (i32_m1 (by omega)), fun z => by have z := z.symm; rw [i32_e (x := 0) (b := 0) rfl (by omega) (by decide)] at z; omega⟩
    · rw [y2, y3, y5, y6, i32_eq (by omega) (by omega), i32_eq (by omega) (by omega)]; omega
  obtain ⟨w1, w2⟩ := val_n hpt (j := 0) (x := 0) (by omega) rfl
  obtain ⟨w3, w4⟩ := val_n hpt (j := 1) (x := 1) (by omega) rfl
  rw [Nat.sub_zero, hA1 _ _ (by omega)] at w1
  rw [hA1 _ _ (by omega)] at w3
  rw [b1, Option.bind_some] at x2
  dsimp only at x2
  rw [b2, Option.bind_some, Option.bind_some] at x2
  rw [Option.bind_some, w1, w3] at x1
  simp only [hn] at x1
  rw [show t.1 - 2 = t.1 - 1 - 1 by omega] at x2
  exact nx_br (h0 := t.1 - 1 - 1) (r0 := (spp (spp t)).2) (tk := 2) (B1 := B2) hP hP2 hZ2 hL hT h hc ho (by omega) (fun j hj => by rw [spp_k (t := spp t) hj, spp_k (by omega)]) hef (fun y => absurd y y20) b6 (by rw [b5]; congr 1) x1 x2
end
