/-! INSTRUCTIONS looked at by the reference -/
section
variable {L M : List (List Nat)} {P Z k m n nf s N i : Nat} {A B I : St} {S : Nat → Nat → Prop}
/-- what the reference's linked instruction has -/
def CdR (B : St) (Z n nf s k N m i : Nat) (I : St) : Prop := (shp (opn B Z i) = 4 → I (Z + 33) i = lbv B Z (lbf B Z N m (B (Z + 29) i))) ∧ ((shp (opn B Z i) = 5 ∨ shp (opn B Z i) = 6) → I (Z + 33) i = oI (cls B Z (B (Z + 29) i) n)) ∧ (shp (opn B Z i) = 6 → ∀ c, cls B Z (B (Z + 29) i) n = some c → I (Z + 27) i = oI (lkm B Z nf s k (opn B Z i) (B (Z + 31) i) c)) ∧ (shp (opn B Z i) ≠ 6 → I (Z + 27) i = B (Z + 27) i)
theorem x220_l (hZ2 : 85 ≤ Z) (hN : B Z 10 = Int32.ofNat N) (hNb : N ≤ 1280) (hn0 : B Z 5 = Int32.ofNat n) (hn : n ≤ 19) (hnf : nf ≤ 96) (hs : s ≤ 16) (hk : k ≤ 24) (h7 : B Z 7 = Int32.ofNat nf) (h6 : B Z 6 = Int32.ofNat s) (h8 : B Z 8 = Int32.ofNat k) (hi : i < 1333) (hK : K1 L M P Z i A B) (h36 : ∀ l, l < N → ∃ x, x < 3000 ∧ B (Z + 36) l = Int32.ofNat x) (hI : NoR S I) (hf : FrR Z B I) (hpar : PAR (I (Z + 8)) (prn B Z) n) (h27 : I (Z + 27) i = B (Z + 27) i) : ∃ J, x220 Z I (Int32.ofNat m) (Int32.ofNat i) = some J ∧ NoR (UnS S (SIn B Z n nf s k N m i)) J ∧ FrR Z B J ∧ CdR B Z n nf s k N m i J ∧ ∀ a b, (a ≠ 82 ∨ (b ≠ 5 ∧ b ≠ 22)) → ((a ≠ Z + 33 ∧ a ≠ Z + 27) ∨ b ≠ i) → J a b = I a b := by
  obtain ⟨o1, o2, o3⟩ := hK.op
  obtain ⟨o, y1, y2, y3, -, -, -, -, -, y9, y10⟩ := hK
  obtain rfl : o = opn B Z i := by
    unfold opn
    rw [y3, i32_cl (by omega)]
  generalize ho : opn B Z i = o at *
  have hin : inb (Int32.ofNat i) 2400 := (i32_inb (by omega)).mpr (by omega)
  have hcl : (Int32.ofNat i).toNatClampNeg = i := i32_cl (by omega)
  have f26 : I (Z + 26) i = Int32.ofNat o := by rw [hf _ _ (by omega) (by omega) (by omega) (by omega) (by omega)]; exact o2
  have f29 : I (Z + 29) i = B (Z + 29) i := hf _ _ (by omega) (by omega) (by omega) (by omega) (by omega)
  have f30 : I (Z + 30) i = B (Z + 30) i := hf _ _ (by omega) (by omega) (by omega) (by omega) (by omega)
  have f31 : I (Z + 31) i = B (Z + 31) i := hf _ _ (by omega) (by omega) (by omega) (by omega) (by omega)
  have f32 : I (Z + 32) i = B (Z + 32) i := hf _ _ (by omega) (by omega) (by omega) (by omega) (by omega)
  have f5 : I Z 5 = Int32.ofNat n := by rw [hf _ _ (by omega) (by omega) (by omega) (by omega) (by omega)]; exact hn0
  have hcls : ∀ y, x216 Z I y (Int32.ofNat n) = some (oI (cls B Z y n)) := fun y => by
    rw [x216_f hn]
    unfold cls
    rw [fdn_ext (fun c hc => by rw [hf (Z + 4) _ (by omega) (by omega) (by omega) (by omega) (by omega)])]
  have l20 : (Int32.ofNat o < 20) = (o < 20) := propext (i32_l1 rfl (by omega) (by decide))
  have l36 : (Int32.ofNat o ≤ 36) = (o ≤ 36) := propext (i32_l3 rfl (by omega) (by decide))
  have g36 : (36 < Int32.ofNat o) = (36 < o) := propext (i32_l4 rfl (by omega) (by decide))
  have l38 : (Int32.ofNat o < 38) = (o < 38) := propext (i32_l1 rfl (by omega) (by decide))
  have l41 : (Int32.ofNat o ≤ 41) = (o ≤ 41) := propext (i32_l3 rfl (by omega) (by decide))
  have e37 : (Int32.ofNat o = 37) = (o = 37) := propext (i32_e rfl (by omega) (by decide))
  have e38 : (Int32.ofNat o = 38) = (o = 38) := propext (i32_e rfl (by omega) (by decide))
  have e39 : (Int32.ofNat o = 39) = (o = 39) := propext (i32_e rfl (by omega) (by decide))
  have e40 : (Int32.ofNat o = 40) = (o = 40) := propext (i32_e rfl (by omega) (by decide))
  have e41 : (Int32.ofNat o = 41) = (o = 41) := propext (i32_e rfl (by omega) (by decide))
  have e49 : (Int32.ofNat o = 49) = (o = 49) := propext (i32_e rfl (by omega) (by decide))
  have e50 : (Int32.ofNat o = 50) = (o = 50) := propext (i32_e rfl (by omega) (by decide))
  have e53 : (Int32.ofNat o = 53) = (o = 53) := propext (i32_e rfl (by omega) (by decide))
  have e54 : (Int32.ofNat o = 54) = (o = 54) := propext (i32_e rfl (by omega) (by decide))
  have hsh : ∀ o, o < 59 → (shp o = 4 ↔ (20 ≤ o ∧ o ≤ 36)) ∧ (shp o = 5 ↔ (o = 37 ∨ o = 53 ∨ o = 54)) ∧ (shp o = 6 ↔ ((38 ≤ o ∧ o ≤ 41) ∨ o = 49 ∨ o = 50)) := by decide
  obtain ⟨sh4, sh5, sh6⟩ := hsh o y1
  by_cases s4 : shp o = 4
  · have r := sh4.mp s4
    obtain ⟨n1, n2, n3⟩ := y9 (Or.inl s4)
    have hv : lbv B Z (lbf B Z N m (B (Z + 29) i)) = -1 ↔ lbf B Z N m (B (Z + 29) i) = none := by
      cases w : lbf B Z N m (B (Z + 29) i) with
      | none => exact ⟨fun _ => rfl, fun _ => rfl⟩
      | some l =>
        obtain ⟨x, x1, x2⟩ := h36 l (fdn_lt w)
        refine ⟨fun y => ?_, fun y => (nomatch y)⟩
        rw [lbv, x2] at y
        exact absurd y (i32_m1 (by omega))
    have eq : x220 Z I (Int32.ofNat m) (Int32.ofNat i) = if lbv B Z (lbf B Z N m (B (Z + 29) i)) = -1 then x217 (up2 I (Z + 33) i (lbv B Z (lbf B Z N m (B (Z + 29) i)))) 2 (B (Z + 30) i) else some (up2 I (Z + 33) i (lbv B Z (lbf B Z N m (B (Z + 29) i)))) := by
      unfold x220
      simp only [if_pos hin, hcl, f26, l20, l36, g36, show ¬ o < 20 by omega, show o ≤ 36 by omega, show ¬ 36 < o by omega, if_true, if_false]
      rw [f29, x221_f hZ2 hN hNb (fun a b z => hf a b (by omega) (by omega) (by omega) (by omega) (by omega)), Option.bind_some]
      simp (disch := omega) only [up2_s, up2_o, f30, Option.bind_fun_some]
    obtain ⟨J, j1, j2, j3⟩ := x217_c (c := lbv B Z (lbf B Z N m (B (Z + 29) i)) = -1) (hI.of (B' := up2 I (Z + 33) i (lbv B Z (lbf B Z N m (B (Z + 29) i)))) (up2_o (by omega)) (up2_o (by omega))) (fun _ => n3) (show (2 : Int32) = Int32.ofNat 2 from rfl) (by decide) (by decide)
    refine ⟨J, by rw [eq, j1], j2.ext (fun q k' => ?_), fun a b z1 z2 z3 z4 z5 => by rw [j3 a b z1, up2_o (by omega), hf a b z1 z2 z3 z4 z5], ?_, fun a b z1 z2 => by rw [j3 a b z1, up2_o (by omega)]⟩
    · unfold UnS SIn PtS
      rw [ho, s4, hv]
      simp
    · unfold CdR
      rw [ho, s4]
      refine ⟨fun _ => by rw [j3 _ _ (by omega), up2_s], fun z => by omega, fun z => by omega, fun _ => by rw [j3 _ _ (by omega), up2_o (by omega)]; exact h27⟩
  · by_cases s5 : shp o = 5
    · have r := sh5.mp s5
      obtain ⟨n1, n2, n3⟩ := y9 (Or.inr (Or.inl s5))
      have eq : x220 Z I (Int32.ofNat m) (Int32.ofNat i) = if oI (cls B Z (B (Z + 29) i) n) = -1 then x217 (up2 I (Z + 33) i (oI (cls B Z (B (Z + 29) i) n))) 2 (B (Z + 30) i) else some (up2 I (Z + 33) i (oI (cls B Z (B (Z + 29) i) n))) := by
        unfold x220
        rcases r with rfl | rfl | rfl
        all_goals
          simp (decide := true) only [if_pos hin, hcl, f26, l20, l36, g36, l38, l41, e37, e38, e39, e40, e41, e49, e50, e53, e54, if_true, if_false, Option.bind_some]
          rw [f29, f5, hcls, Option.bind_some]
          simp (disch := omega) only [up2_s, up2_o, f30, Option.bind_fun_some]
      obtain ⟨J, j1, j2, j3⟩ := x217_c (c := oI (cls B Z (B (Z + 29) i) n) = -1) (hI.of (B' := up2 I (Z + 33) i (oI (cls B Z (B (Z + 29) i) n))) (up2_o (by omega)) (up2_o (by omega))) (fun _ => n3) (show (2 : Int32) = Int32.ofNat 2 from rfl) (by decide) (by decide)
      refine ⟨J, by rw [eq, j1], j2.ext (fun q k' => ?_), fun a b z1 z2 z3 z4 z5 => by rw [j3 a b z1, up2_o (by omega), hf a b z1 z2 z3 z4 z5], ?_, fun a b z1 z2 => by rw [j3 a b z1, up2_o (by omega)]⟩
      · unfold UnS SIn PtS
        rw [ho, s5, cls_m1 hn]
        simp
      · unfold CdR
        rw [ho, s5]
        refine ⟨fun z => by omega, fun _ => by rw [j3 _ _ (by omega), up2_s], fun z => by omega, fun _ => by rw [j3 _ _ (by omega), up2_o (by omega)]; exact h27⟩
    · by_cases s6 : shp o = 6
      · have r := sh6.mp s6
        have r : o = 38 ∨ o = 39 ∨ o = 40 ∨ o = 41 ∨ o = 49 ∨ o = 50 := by omega
        obtain ⟨n1, n2, n3⟩ := y9 (Or.inr (Or.inr s6))
        obtain ⟨n4, n5, n6⟩ := y10 s6
        generalize hI1 : up2 I (Z + 33) i (oI (cls B Z (B (Z + 29) i) n)) = I1
        have fI1 : ∀ a b, (a ≠ Z + 33 ∨ b ≠ i) → I1 a b = I a b := fun a b z => by rw [← hI1, up2_o z]
        have gI1 : ∀ a b, (a ≠ 82 ∨ (b ≠ 5 ∧ b ≠ 22)) → a ≠ Z + 40 → a ≠ Z + 33 → a ≠ Z + 27 → a ≠ Z + 8 → I1 a b = B a b := fun a b z1 z2 z3 z4 z5 => by rw [fI1 a b (by omega), hf a b z1 z2 z3 z4 z5]
        have p1 : PAR (I1 (Z + 8)) (prn B Z) n := ⟨by rw [fI1 _ _ (by omega)]; exact hpar.1, fun c z1 z2 => by rw [fI1 _ _ (by omega)]; exact hpar.2 c z1 z2⟩
        have q7 : I1 Z 7 = Int32.ofNat nf := by rw [gI1 _ _ (by omega) (by omega) (by omega) (by omega) (by omega)]; exact h7
        have q6 : I1 Z 6 = Int32.ofNat s := by rw [gI1 _ _ (by omega) (by omega) (by omega) (by omega) (by omega)]; exact h6
        have q8 : I1 Z 8 = Int32.ofNat k := by rw [gI1 _ _ (by omega) (by omega) (by omega) (by omega) (by omega)]; exact h8
        have q31 : I1 (Z + 31) i = B (Z + 31) i := gI1 _ _ (by omega) (by omega) (by omega) (by omega) (by omega)
        have ef : flf Z I1 (B (Z + 31) i) nf = flf Z B (B (Z + 31) i) nf := by
          funext c
          exact fdn_ext (fun f hf' => by rw [gI1 (Z + 9) _ (by omega) (by omega) (by omega) (by omega) (by omega), gI1 (Z + 10) _ (by omega) (by omega) (by omega) (by omega) (by omega)])
        have es : stf Z I1 (B (Z + 31) i) s = stf Z B (B (Z + 31) i) s := by
          funext c
          exact fdn_ext (fun f hf' => by rw [gI1 (Z + 12) _ (by omega) (by omega) (by omega) (by omega) (by omega), gI1 (Z + 13) _ (by omega) (by omega) (by omega) (by omega) (by omega)])
        have em : ∀ v, mtf Z I1 (B (Z + 31) i) v k = mtf Z B (B (Z + 31) i) v k := fun v => by
          funext c
          exact fdn_ext (fun f hf' => by rw [gI1 (Z + 15) _ (by omega) (by omega) (by omega) (by omega) (by omega), gI1 (Z + 16) _ (by omega) (by omega) (by omega) (by omega) (by omega), gI1 (Z + 25) _ (by omega) (by omega) (by omega) (by omega) (by omega)])
        have eq : x220 Z I (Int32.ofNat m) (Int32.ofNat i) = if oI (cls B Z (B (Z + 29) i) n) = -1 then x217 I1 2 (B (Z + 30) i) else (if (o = 38 ∨ o = 39) then x222 Z I1 (oI (cls B Z (B (Z + 29) i) n)) (B (Z + 31) i) else if (o = 40 ∨ o = 41) then x223 Z I1 (oI (cls B Z (B (Z + 29) i) n)) (B (Z + 31) i) else x219 Z I1 (oI (cls B Z (B (Z + 29) i) n)) (B (Z + 31) i) (if o = 50 then 1 else 0)).bind fun (q10 : Int32) => if q10 = -1 then x217 (up2 I1 (Z + 27) i q10) 2 (B (Z + 32) i) else some (up2 I1 (Z + 27) i q10) := by
          have q30 : I1 (Z + 30) i = B (Z + 30) i := gI1 _ _ (by omega) (by omega) (by omega) (by omega) (by omega)
          have q32 : I1 (Z + 32) i = B (Z + 32) i := gI1 _ _ (by omega) (by omega) (by omega) (by omega) (by omega)
          unfold x220
          rcases r with rfl | rfl | rfl | rfl | rfl | rfl
          all_goals
            simp (decide := true) only [if_pos hin, hcl, f26, l20, l36, g36, l38, l41, e37, e38, e39, e40, e41, e49, e50, e53, e54, if_true, if_false, Option.bind_some]
            rw [f29, f5, hcls, Option.bind_some, hI1]
            simp (decide := true) (disch := omega) only [up2_s, up2_o, q30, q31, q32, Option.bind_fun_some, Option.bind_some, if_true, if_false]
        cases w : cls B Z (B (Z + 29) i) n with
        | none =>
          rw [w, if_pos (show oI none = -1 from rfl)] at eq
          obtain ⟨J, j1, j2, j3⟩ := x217_y (hI.of (B' := I1) (fI1 _ _ (by omega)) (fI1 _ _ (by omega))) n3 (show (2 : Int32) = Int32.ofNat 2 from rfl) (by decide) (by decide)
          refine ⟨J, by rw [eq, j1], j2.ext (fun q k' => ?_), fun a b z1 z2 z3 z4 z5 => by rw [j3 a b z1, gI1 a b z1 z2 z3 z4 z5], ?_, fun a b z1 z2 => by rw [j3 a b z1, fI1 a b (by omega)]⟩
          · unfold UnS SIn PtS
            rw [ho, s6, w]
            simp
          · unfold CdR
            rw [ho, s6, w]
            rw [w] at hI1
            refine ⟨fun z => by omega, fun _ => by rw [j3 _ _ (by omega), ← hI1, up2_s], fun _ c hc => (nomatch hc), fun z => by omega⟩
        | some c =>
          have hc := cls_lt w
          have hlk : (if (o = 38 ∨ o = 39) then x222 Z I1 (oI (cls B Z (B (Z + 29) i) n)) (B (Z + 31) i) else if (o = 40 ∨ o = 41) then x223 Z I1 (oI (cls B Z (B (Z + 29) i) n)) (B (Z + 31) i) else x219 Z I1 (oI (cls B Z (B (Z + 29) i) n)) (B (Z + 31) i) (if o = 50 then 1 else 0)) = some (oI (lkm B Z nf s k o (B (Z + 31) i) c)) := by
            rw [w]
            show (if (o = 38 ∨ o = 39) then x222 Z I1 (Int32.ofNat c) (B (Z + 31) i) else if (o = 40 ∨ o = 41) then x223 Z I1 (Int32.ofNat c) (B (Z + 31) i) else x219 Z I1 (Int32.ofNat c) (B (Z + 31) i) (if o = 50 then 1 else 0)) = _
            rw [x222_f p1 hn q7 (by omega) hc, x223_f p1 hn q6 hs hc, x219_f p1 hn q8 hk hc, ef, es, em]
            unfold lkm
            split
            · rfl
            · split <;> rfl
          have hr : ∀ x, lkm B Z nf s k o (B (Z + 31) i) c = some x → x < 2147483648 := fun x hx => by
            have := lkm_b hx
            omega
          rw [hlk, Option.bind_some, w, if_neg (show ¬ oI (some c) = -1 from i32_m1 (by omega))] at eq
          obtain ⟨J, j1, j2, j3⟩ := x217_c (c := oI (lkm B Z nf s k o (B (Z + 31) i) c) = -1) (hI.of (B' := up2 I1 (Z + 27) i (oI (lkm B Z nf s k o (B (Z + 31) i) c))) (by rw [up2_o (by omega), fI1 _ _ (by omega)]) (by rw [up2_o (by omega), fI1 _ _ (by omega)])) (fun _ => n6) (show (2 : Int32) = Int32.ofNat 2 from rfl) (by decide) (by decide)
          refine ⟨J, by rw [eq, j1], j2.ext (fun q k' => ?_), fun a b z1 z2 z3 z4 z5 => by rw [j3 a b z1, up2_o (by omega), gI1 a b z1 z2 z3 z4 z5], ?_, fun a b z1 z2 => by rw [j3 a b z1, up2_o (by omega), fI1 a b (by omega)]⟩
          · unfold UnS SIn PtS
            rw [ho, s6, w, oI_m1 hr]
            simp
          · unfold CdR
            rw [ho, s6, w]
            rw [w] at hI1
            refine ⟨fun z => by omega, fun _ => by rw [j3 _ _ (by omega), up2_o (by omega), ← hI1, up2_s], fun _ c' hc' => ?_, fun z => by omega⟩
            cases hc'
            rw [j3 _ _ (by omega), up2_s]
      · have r4 : ¬ (20 ≤ o ∧ o ≤ 36) := fun z => s4 (sh4.mpr z)
        have r5 : ¬ (o = 37 ∨ o = 53 ∨ o = 54) := fun z => s5 (sh5.mpr z)
        have r6 : ¬ ((38 ≤ o ∧ o ≤ 41) ∨ o = 49 ∨ o = 50) := fun z => s6 (sh6.mpr z)
        have eq : x220 Z I (Int32.ofNat m) (Int32.ofNat i) = some I := by
          unfold x220
          by_cases h20 : o < 20
          · simp (decide := true) only [if_pos hin, hcl, f26, l20, l36, g36, l38, l41, e37, e38, e39, e40, e41, e49, e50, e53, e54, h20, show ¬ o = 37 by omega, show ¬ o = 53 by omega, show ¬ o = 54 by omega, show o < 38 by omega, show ¬ o = 49 by omega, show ¬ o = 50 by omega, if_true, if_false, Option.bind_some]
          · simp (decide := true) only [if_pos hin, hcl, f26, l20, l36, g36, l38, l41, e37, e38, e39, e40, e41, e49, e50, e53, e54, h20, show ¬ o ≤ 36 by omega, show 36 < o by omega, show ¬ o ≤ 41 by omega, show ¬ o = 37 by omega, show ¬ o = 53 by omega, show ¬ o = 54 by omega, show ¬ o < 38 by omega, show ¬ o = 49 by omega, show ¬ o = 50 by omega, if_true, if_false, Option.bind_some]
        refine ⟨I, eq, hI.ext (fun q k' => ?_), hf, ?_, fun _ _ _ _ => rfl⟩
        · unfold UnS SIn PtS
          rw [ho]
          simp only [s4, s5, s6, false_and, or_self, or_false]
        · unfold CdR
          rw [ho]
          exact ⟨fun z => absurd z s4, fun z => by omega, fun z => absurd z s6, fun _ => h27⟩
end
