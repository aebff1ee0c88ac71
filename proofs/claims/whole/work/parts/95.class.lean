/-! A CLASS in lockstep -/
def chR (Z n : Nat) (q : St) : Option (St ⊕ St) := (x204 (up2 q Z 5 ((q Z 5) + 1)) 123).bind (elm fun q8 => MbR Z n 100000 0 q8)
def chA (q : St) : Option St := (x62 q 123).bind fun q8 => some (up2 q8 56 4 1)
section
variable {T : Tp} {L M M' : List (List Nat)} {K P Z u u' p p' n k s : Nat} {E F H G : Nat → Nat} {A B A5 B5 : St}
set_option maxHeartbeats 40000000 in
theorem chead_out (hP : P = 3 ∨ P = 18) (hZ : Z = 85 ∨ Z = 126) (h : Bq T L M K P Z u p n k k s E F H G A B) (h19 : n < 19) (hPa5 : Pa T L M' K Z u' p' A5 B5) (hp : p < p') (hM : Mo M M') (hC1 : C1 L M' P Z n A5 B5) (o2 : A5 (P + 2) (6 * n + 2) = Int32.ofNat (E n)) (o3 : A5 (P + 2) (6 * n + 3) = 0) (o5 : A5 (P + 2) (6 * n + 5) = 0) (o1 : A5 (P + 1) 3 = Int32.ofNat (n + 1)) (o4 : A5 44 3 = Int32.ofNat (n + 1)) (rA : ∀ a b, (a ≠ 56 ∧ (a ≠ P + 1 ∨ b ≠ 3) ∧ (a ≠ 44 ∨ b ≠ 3) ∧ (a ≠ P + 2 ∨ b < 6 * n) ∧ (a ≠ 45 ∨ b < 3 * n)) → A5 a b = A a b) (rB : ∀ a b, ((a ≠ Z ∨ (b ≠ 3 ∧ b ≠ 4)) ∧ (a < Z + 1 ∨ Z + 3 < a) ∧ (a ≠ 82 ∨ b < 11 ∨ 16 < b) ∧ a ≠ 84 ∧ ((a < Z + 4 ∨ Z + 8 < a) ∨ b < n)) → B5 a b = B a b) : (∃ M' u' p' A' B', chA A5 = some A' ∧ chR Z n B5 = MbR Z n 100000 0 B' ∧ Bq T L M' K P Z u' p' (n + 1) k k s (updN E (n + 1) (E n)) F H G A' B' ∧ A' 56 4 = 1 ∧ p < p') ∨ Bad (chA A5) (chR Z n B5) := by
  obtain ⟨hPa, hb, hf, hs, hc, hm, hz, hk, hl, ht, n1, n2, n3, n4, n5, n6, n7, n8⟩ := h
  have hP2 : 3 ≤ P ∧ P ≤ 18 := by omega
  have hZ2 : 85 ≤ Z ∧ Z ≤ 126 := by omega
  replace hP : Hid (P = 3 ∨ P = 18) := hP
  replace hZ : Hid (Z = 85 ∨ Z = 126) := hZ
  obtain ⟨i1, i2, i3, i4⟩ := hc
  have hz5 : B5 Z 5 = Int32.ofNat n := by rw [rB _ _ (by omega)]; exact i3
  have hPa6 : Pa T L M' K Z u' p' A5 (up2 B5 Z 5 (Int32.ofNat (n + 1))) := hPa5.of (fun _ _ _ => rfl) (fun a b z => up2_o (by omega))
  have hR : chR Z n B5 = (x204 (up2 B5 Z 5 (Int32.ofNat (n + 1))) 123).bind (elm fun q8 => MbR Z n 100000 0 q8) := by
    unfold chR
    rw [hz5, i32_s]
  rcases sign_l hZ hPa6 (s := 123) (x := 123) rfl (by decide) (by decide) with ⟨B8, b1, b2, b3, b4, b5⟩ | ⟨w, w1, w2, w3⟩
  · left
    have hB8 : ∀ a b, (a ≠ Z ∨ (b ≠ 3 ∧ b ≠ 4)) → (a < Z + 1 ∨ Z + 3 < a) → (a ≠ 82 ∨ b < 11 ∨ 16 < b) → a ≠ 84 → B8 a b = up2 B5 Z 5 (Int32.ofNat (n + 1)) a b := b4
    have rA' : ∀ a b, (a ≠ 56 ∧ (a ≠ P + 1 ∨ b ≠ 3) ∧ (a ≠ 44 ∨ b ≠ 3) ∧ (a ≠ P + 2 ∨ b < 6 * n) ∧ (a ≠ 45 ∨ b < 3 * n)) → up2 (adv A5) 56 4 1 a b = A a b := fun a b z => by
      rw [up2_o (by omega), adv_r (by omega), rA a b z]
    have sA : ∀ a b, a ≠ 56 → up2 (adv A5) 56 4 1 a b = A5 a b := fun a b z => by
      rw [up2_o (by omega), adv_r (by omega)]
    have sB : ∀ a b, ((a ≠ Z ∨ (b ≠ 3 ∧ b ≠ 4 ∧ b ≠ 5)) ∧ (a < Z + 1 ∨ Z + 3 < a) ∧ (a ≠ 82 ∨ b < 11 ∨ 16 < b) ∧ a ≠ 84) → B8 a b = B5 a b := fun a b z => by
      rw [hB8 a b (by omega) (by omega) (by omega) (by omega), up2_o (by omega)]
    have rB' : ∀ a b, ((a ≠ Z ∨ (b ≠ 3 ∧ b ≠ 4 ∧ b ≠ 5)) ∧ (a < Z + 1 ∨ Z + 3 < a) ∧ (a ≠ 82 ∨ b < 11 ∨ 16 < b) ∧ a ≠ 84 ∧ ((a < Z + 4 ∨ Z + 8 < a) ∨ b < n)) → B8 a b = B a b := fun a b z => by
      rw [sB a b ⟨by omega, by omega, by omega, by omega⟩, rB a b (by omega)]
    refine ⟨M', u', nx T p', up2 (adv A5) 56 4 1, B8, by unfold chA; rw [b1]; rfl, by rw [hR, b2]; rfl, ⟨?_, ?_, ?_, ?_, ?_, ?_, ?_, ?_, ?_, ?_, by omega, by omega, n3, n4, ?_, by omega, by omega, fun m hm => ?_⟩, up2_s _ _ _ _, by omega⟩
    · exact b3.of (fun a b z => up2_o (by omega)) (fun _ _ _ => rfl)
    · rw [updN_s]
      exact hb.of hM (fun a b z => rA' a b ⟨by omega, by omega, by omega, by omega, by omega⟩) (fun a b z => rB' a b ⟨by omega, by omega, by omega, by omega, by omega⟩)
    · rw [updN_s]
      exact hf.of hM (fun a b z => rA' a b ⟨by omega, by omega, by omega, by omega, by omega⟩) (fun a b z => rB' a b ⟨by omega, by omega, by omega, by omega, by omega⟩)
    · exact hs.of hM (fun a b z => rA' a b ⟨by omega, by omega, by omega, by omega, by omega⟩) (fun a b z => rB' a b ⟨by omega, by omega, by omega, by omega, by omega⟩)
    · refine ⟨by rw [sA _ _ (by omega)]; exact o1, by rw [sA _ _ (by omega)]; exact o4, by rw [hB8 _ _ (by omega) (by omega) (by omega) (by omega), up2_s], fun x hx => ?_⟩
      rw [updN_n (show x ≠ n + 1 by omega)]
      rcases Nat.lt_or_ge x n with y | y
      · obtain ⟨g1, g2, g3, g4, g5, g6, g7⟩ := i4 x y
        rw [updN_n (show x + 1 ≠ n + 1 by omega)]
        refine ⟨g1.of hM (fun a b z => rA' a b ⟨by omega, by omega, by omega, by omega, by omega⟩) (fun a b z => rB' a b ⟨by omega, by omega, by omega, by omega, by omega⟩), by rw [rA' _ _ ⟨by omega, by omega, by omega, by omega, by omega⟩]; exact g2, by rw [rA' _ _ ⟨by omega, by omega, by omega, by omega, by omega⟩]; exact g3, g4, g5, fun f z1 z2 => by rw [rB' _ _ ⟨by omega, by omega, by omega, by omega, by omega⟩]; exact g6 f z1 z2, ?_⟩
        rw [rA' _ _ ⟨by omega, by omega, by omega, by omega, by omega⟩, g7, mcn_of k (fun i hi => (rB' (Z + 15) i ⟨by omega, by omega, by omega, by omega, by omega⟩).symm)]
      · have hxn : x = n := by omega
        subst hxn
        rw [updN_s]
        refine ⟨hC1.of Mo.rf (fun a b z => sA a b (by omega)) (fun a b z => sB a b ⟨by omega, by omega, by omega, by omega⟩), by rw [sA _ _ (by omega)]; exact o2, by rw [sA _ _ (by omega), o3, Nat.sub_self]; rfl, Nat.le_refl _, by omega, fun f z1 z2 => by omega, ?_⟩
        have h0 : mcn (B8 (Z + 15)) (Int32.ofNat x) k = 0 := by
          have gen : ∀ j, j ≤ k → mcn (B8 (Z + 15)) (Int32.ofNat x) j = 0 := by
            intro j
            induction j with
            | zero => intro _; rfl
            | succ j ihj =>
              intro hj
              obtain ⟨c, -, c1, c2⟩ := n8 j (by omega)
              rw [mcn, ihj (by omega), rB' _ _ ⟨by omega, by omega, by omega, by omega, by omega⟩, c2, if_neg (by rw [i32_eq (by omega) (by omega)]; omega)]
          exact gen k (Nat.le_refl _)
        rw [sA _ _ (by omega), o5, h0]
        rfl
    · exact hm.of hM (fun a b z => rA' a b ⟨by omega, by omega, by omega, by omega, by omega⟩) (fun a b z => rB' a b ⟨by omega, by omega, by omega, by omega, by omega⟩)
    · exact hz.of (fun _ _ => rfl) (fun a b z => rA' a b ⟨by omega, by omega, by omega, by omega, by omega⟩) (fun a b z => rB' a b ⟨by omega, by omega, by omega, by omega, by omega⟩)
    · exact hk.of hM (fun a b z => rA' a b ⟨by omega, by omega, by omega, by omega, by omega⟩) (fun a b z => rB' a b ⟨by omega, by omega, by omega, by omega, by omega⟩)
    · exact hl.of hM (fun _ _ => ⟨rfl, Nat.le_refl _⟩) (fun a b z => rA' a b ⟨by omega, by omega, by omega, by omega, by omega⟩) (fun a b z => rB' a b ⟨by omega, by omega, by omega, by omega, by omega⟩)
    · exact ht.of hM (fun a b z => rA' a b ⟨by omega, by omega, by omega, by omega, by omega⟩) (fun a b z => rB' a b ⟨by omega, by omega, by omega, by omega, by omega⟩)
    · rw [updN_n (by omega)]
      exact n5
    · obtain ⟨c, c0, c1, c2⟩ := n8 m hm
      exact ⟨c, c0, by omega, by rw [rB' _ _ ⟨by omega, by omega, by omega, by omega, by omega⟩]; exact c2⟩
  · right
    refine ⟨w, _, _, w1, by unfold chA; rw [w2]; rfl, by rw [hR, w3]; rfl, (Sw.rf.u (by decide) : Sw (wrC A5 w) _).trans wrC_5, Wr_0⟩
/-- the class's way from its name on -/
def cnA (P : Nat) (x : Int32) (q2 : Int32 × St) : Option St := (x6 P q2.2 q2.1).bind fun q3 => Lt (tset (tset (tadd q3.2 44) 44 x 0 ((tadd q3.2 44) 56 6)) 44 x 1 (-1)) fun J4 => (if (x61 J4 58) = 0 then some J4 else (x59 (up2 J4 56 3 ((J4 56 3) + 1))).bind fun q5 => Lt (tset (tset q5.2 44 x 1 q5.1) 44 x 2 ((tset q5.2 44 x 1 q5.1) 56 6)) fun J6 => some J6).bind fun (q7 : St) => chA q7
theorem x6_sw {P : Nat} (hP : P = 3 ∨ P = 18) {I : St} {v : Int32} : ∃ y J, x6 P I v = some (y, J) ∧ Sw I J := by
  obtain ⟨s1, -⟩ := sfP hP
  have hk : P + 1 ≠ 56 := by omega
  have sk : sf (P + 1) 2 ≠ 56 := by omega
  refine ⟨_, _, rfl, ?_⟩
  exact ((((((Sw.rf.ta hk).ts sk).ts sk).ts sk).ts sk).ts sk).ts sk
theorem cnA_e {P : Nat} (hP : P = 3 ∨ P = 18) {x v : Int32} {I : St} (h : Er I) : ∃ J, cnA P x (v, I) = some J ∧ Sw I J := by
  obtain ⟨y, J, e1, e2⟩ := x6_sw hP (I := I) (v := v)
  have s44 : sf 44 2 ≠ 56 := by decide
  have hs : Sw I (tset (tset (tadd J 44) 44 x 0 ((tadd J 44) 56 6)) 44 x 1 (-1)) := ((e2.ta (by decide)).ts s44).ts s44
  have hE := h.sw hs
  refine ⟨_, ?_, hs.u (k := 56) (j := 4) (v := 1) (by decide)⟩
  unfold cnA
  rw [e1, Option.bind_some]
  dsimp only
  rw [Lt, x61_e hE, if_pos rfl, Option.bind_some, chA, x62_e hE]
  rfl
end
