/-! A METHOD's head in lockstep, whole -/
def metE (Z : Nat) (m : Int32) (q31 : St) : Option (St ⊕ St) := if inb m 24 then if inb m 24 then Lt (up2 q31 (Z + 22) m.toNatClampNeg ((q31 Z 9) - (q31 (Z + 21) m.toNatClampNeg))) fun J38 => if inb m 24 then (x192 (up2 J38 (Z + 23) m.toNatClampNeg (J38 82 13))).bind fun q39 => some (.inr q39) else none else none else none
def metT (Z : Nat) (m : Int32) (q20 : St) : Option (St ⊕ St) := (x207 q20 1).bind (Sum.elim (fun J => some (.inl J)) (fun q21 => if inb m 24 then (x204 (up2 q21.2 (Z + 20) m.toNatClampNeg q21.1) 123).bind (Sum.elim (fun J => some (.inl J)) (fun q22 => if inb m 24 then (l209_217 Z m 100000 0 (up2 q22 (Z + 21) m.toNatClampNeg (q22 Z 9))).bind (Sum.elim (fun q31 => metE Z m q31) (fun r => some r)) else none)) else none))
theorem x209_h {Z : Nat} {I : St} {a1 a2 : Int32} : x209 Z I a1 a2 = (x192 I).bind fun q1 => (x201 Z q1).bind (Sum.elim (fun J => some (.inl J)) (fun q2 => (x206 q2.2 a1 q2.1 (q1 82 13)).bind fun q3 => if inb (q1 Z 8) 24 then if inb (q1 Z 8) 24 then if inb (q1 Z 8) 24 then Lt (up2 (up2 (up2 q3 (Z + 15) (q1 Z 8).toNatClampNeg a1) (Z + 16) (q1 Z 8).toNatClampNeg q2.1) (Z + 17) (q1 Z 8).toNatClampNeg (q1 82 13)) fun J4 => if inb (q1 Z 8) 24 then if inb (q1 Z 8) 24 then Lt (up2 (up2 J4 (Z + 25) (q1 Z 8).toNatClampNeg (vp_nar .boolean a2)) (Z + 18) (q1 Z 8).toNatClampNeg 0) fun J5 => if inb (q1 Z 8) 24 then Lt (up2 (up2 J5 (Z + 19) (q1 Z 8).toNatClampNeg 0) Z 8 (((up2 J5 (Z + 19) (q1 Z 8).toNatClampNeg 0) Z 8) + 1)) fun J6 => (kdR Z (q1 Z 8) J6).bind (elm (metT Z (q1 Z 8))) else none else none else none else none else none else none)) := by
  unfold x209
  simp only [← kd_a]
  rfl
def mtA (P : Nat) (x : Int32) (q4 : Int32 × St) : Option St := Lt (tset (tset q4.2 (P + 7) x 3 q4.1) (P + 7) x 5 ((tset q4.2 (P + 7) x 3 q4.1) (P + 9) 3)) fun J5 => Lt (tset (tset (tset J5 (P + 7) x 6 0) (P + 7) x 7 ((tset J5 (P + 7) x 6 0) (P + 11) 3)) (P + 7) x 8 0) fun J6 => (x62 (tset J6 (P + 7) x 9 0) 123).bind fun q7 => some (up2 q7 56 4 2)
theorem mtA_e {P : Nat} (hP : P = 3 ∨ P = 18) {x v : Int32} {A : St} (h : Er A) : ∃ J, mtA P x (v, A) = some J ∧ Sw A J := by
  obtain ⟨s1, s2, s3, s4, s5, s6, s7⟩ := sfP hP
  have sk : sf (P + 7) 2 ≠ 56 := by omega
  obtain ⟨J, j1, j2⟩ : ∃ J, mtA P x (v, A) = (x62 J 123).bind (fun q7 => some (up2 q7 56 4 2)) ∧ Sw A J := by
    refine ⟨_, rfl, ?_⟩
    exact (((((Sw.rf.ts sk).ts sk).ts sk).ts sk).ts sk).ts sk
  refine ⟨_, by rw [j1, x62_e (h.sw j2), Option.bind_some], j2.u (by decide)⟩

abbrev MhA (P c k a d : Nat) : Prop := a ≠ 56 ∧ (a ≠ P + 7 ∨ d ≠ 3) ∧ (a ≠ P + 8 ∨ d < 16 * k) ∧ (a ≠ 46 ∨ d ≠ 3) ∧ a ≠ 47 ∧ (a ≠ 48 ∨ d ≠ 3) ∧ (a ≠ 49 ∨ d < 4 * k) ∧ (a ≠ P + 2 ∨ d ≠ 6 * c + 5)
abbrev MhB (Z k a d : Nat) : Prop := (a ≠ Z ∨ (d ≠ 3 ∧ d ≠ 4 ∧ d ≠ 8)) ∧ (a < Z + 1 ∨ Z + 3 < a) ∧ (a ≠ 82 ∨ ((d < 11 ∨ 16 < d) ∧ d ≠ 20)) ∧ a ≠ 84 ∧ (a < 171 ∨ 173 < a) ∧ ((a < Z + 15 ∨ Z + 21 < a) ∧ a ≠ Z + 25 ∨ d < k)
section
variable {T : Tp} {L M M' : List (List Nat)} {K P Z u u' p p' c k s v : Nat} {E F H G : Nat → Nat} {A B A7 B9 : St}
set_option maxHeartbeats 40000000 in
theorem meth_out (hP2 : 3 ≤ P ∧ P ≤ 18) (hZ2 : 85 ≤ Z ∧ Z ≤ 126) (h : Bq T L M K P Z u p (c + 1) k k s E F H G A B) (h7c : 7 ≤ c) (h24 : k < 24) (hPa7 : Pa T L M' K Z u' p' A7 B9) (hp : p < p') (hM : Mo M M') (hb7 : CB L M' (E (c + 1) + s + k + 1) A7 B9) (rA : ∀ a d, MhA P c k a d → A7 a d = A a d) (rB : ∀ a d, MhB Z k a d → B9 a d = B a d) (o5 : A7 (P + 2) (6 * c + 5) = Int32.ofNat (mcn (B (Z + 15)) (Int32.ofNat c) k + 1)) (q3 : A7 (P + 7) 3 = Int32.ofNat (k + 1)) (q48 : A7 48 3 = Int32.ofNat (k + 1)) (z8 : B9 Z 8 = Int32.ofNat (k + 1)) (hMh : Mh L M' P Z k A7 B9) (hMk : ∃ kn rf, A7 (P + 8) (16 * k + 4) = Int32.ofNat kn ∧ Mk P Z k kn rf A7 B9) (w5 : A7 (P + 8) (16 * k + 5) = Int32.ofNat (F k)) (w21 : B9 (Z + 21) k = Int32.ofNat (F k)) (w6 : A7 (P + 8) (16 * k + 6) = 0) (w7 : A7 (P + 8) (16 * k + 7) = Int32.ofNat (G k)) (w8 : A7 (P + 8) (16 * k + 8) = 0) (y2 : A7 49 (4 * k + 2) = Int32.ofNat (H k)) (y3 : A7 49 (4 * k + 3) = 0) (b15 : B9 (Z + 15) k = Int32.ofNat c) : Bq T L M' K P Z u' p' (c + 1) (k + 1) k s E (updN F (k + 1) (F k)) (updN H (k + 1) (H k)) (updN G (k + 1) (G k)) A7 B9 := by
  obtain ⟨hPa, hb, hf, hs, hc, hm, hz, hk, hl, ht, n1, n2, n3, n4, n5, n6, n7, n8⟩ := h
  obtain ⟨i1, i2, i3, i4⟩ := hc
  obtain ⟨m1, m2, m3, m4⟩ := hm
  refine ⟨hPa7, ?_, ?_, ?_, ?_, ?_, ?_, ?_, ?_, ?_, n1, n2, by omega, n4, n5, by rw [updN_s]; omega, by rw [updN_s]; omega, fun x hx => ?_⟩
  · have e : E (c + 1) + s + (k + 1) = E (c + 1) + s + k + 1 := by omega
    rw [e]
    exact hb7
  · exact hf.of hM (fun a b z => rA a b ⟨by omega, by omega, by omega, by omega, by omega, by omega, by omega, by omega⟩) (fun a b z => rB a b ⟨by omega, by omega, by omega, by omega, by omega, by omega⟩)
  · exact hs.of hM (fun a b z => rA a b ⟨by omega, by omega, by omega, by omega, by omega, by omega, by omega, by omega⟩) (fun a b z => rB a b ⟨by omega, by omega, by omega, by omega, by omega, by omega⟩)
  · clear hb7 q3 q48 z8 hMh hMk w5 w21 w6 w7 w8 y2 y3 m1 m2 m3 m4
    refine ⟨by rw [rA _ _ ⟨by omega, by omega, by omega, by omega, by omega, by omega, by omega, by omega⟩]; exact i1, by rw [rA _ _ ⟨by omega, by omega, by omega, by omega, by omega, by omega, by omega, by omega⟩]; exact i2, by rw [rB _ _ ⟨by omega, by omega, by omega, by omega, by omega, by omega⟩]; exact i3, fun x hx => ?_⟩
    obtain ⟨g1, g2, g3, g4, g5, g6, g7⟩ := i4 x hx
    have hmc2 : mcn (B9 (Z + 15)) (Int32.ofNat x) k = mcn (B (Z + 15)) (Int32.ofNat x) k := mcn_of k (fun y hy => rB _ _ ⟨by omega, by omega, by omega, by omega, by omega, by omega⟩)
    refine ⟨g1.of hM (fun a b z => rA a b ⟨by omega, by omega, by omega, by omega, by omega, by omega, by omega, by omega⟩) (fun a b z => rB a b ⟨by omega, by omega, by omega, by omega, by omega, by omega⟩), by rw [rA _ _ ⟨by omega, by omega, by omega, by omega, by omega, by omega, by omega, by omega⟩]; exact g2, by rw [rA _ _ ⟨by omega, by omega, by omega, by omega, by omega, by omega, by omega, by omega⟩]; exact g3, g4, g5, fun f z1 z2 => by rw [rB _ _ ⟨by omega, by omega, by omega, by omega, by omega, by omega⟩]; exact g6 f z1 z2, ?_⟩
    rw [mcn, hmc2, b15]
    by_cases y : x = c
    · subst y
      rw [if_pos rfl]
      exact o5
    · rw [if_neg (by rw [i32_eq (by omega) (by omega)]; omega), rA _ _ ⟨by omega, by omega, by omega, by omega, by omega, by omega, by omega, by omega⟩]
      exact g7
  · refine ⟨q3, q48, z8, fun x hx => ?_⟩
    rw [updN_n (show x ≠ k + 1 by omega), updN_n (show x ≠ k + 1 by omega), updN_n (show x ≠ k + 1 by omega)]
    rcases Nat.lt_or_ge x k with y | y
    · obtain ⟨g1, ⟨c', rf', g2, g3⟩, g4, g5, g6, g7, g8, g9, g10⟩ := m4 x y
      have g11 : c' ≤ 6 := g3.2.2.1
      rw [updN_n (show x + 1 ≠ k + 1 by omega), updN_n (show x + 1 ≠ k + 1 by omega), updN_n (show x + 1 ≠ k + 1 by omega)]
      exact ⟨g1.of hM (fun a b z => rA a b ⟨by omega, by omega, by omega, by omega, by omega, by omega, by omega, by omega⟩) (fun a b z => rB a b ⟨by omega, by omega, by omega, by omega, by omega, by omega⟩), ⟨c', rf', by rw [rA _ _ ⟨by omega, by omega, by omega, by omega, by omega, by omega, by omega, by omega⟩]; exact g2, g3.of (fun a b z => rA a b ⟨by omega, by omega, by omega, by omega, by omega, by omega, by omega, by omega⟩) (fun a b z => rB a b ⟨by omega, by omega, by omega, by omega, by omega, by omega⟩)⟩, by rw [rA _ _ ⟨by omega, by omega, by omega, by omega, by omega, by omega, by omega, by omega⟩]; exact g4, by rw [rB _ _ ⟨by omega, by omega, by omega, by omega, by omega, by omega⟩]; exact g5, by rw [rA _ _ ⟨by omega, by omega, by omega, by omega, by omega, by omega, by omega, by omega⟩]; exact g6, by rw [rA _ _ ⟨by omega, by omega, by omega, by omega, by omega, by omega, by omega, by omega⟩]; exact g7, by rw [rA _ _ ⟨by omega, by omega, by omega, by omega, by omega, by omega, by omega, by omega⟩]; exact g8, by rw [rA _ _ ⟨by omega, by omega, by omega, by omega, by omega, by omega, by omega, by omega⟩]; exact g9, by rw [rA _ _ ⟨by omega, by omega, by omega, by omega, by omega, by omega, by omega, by omega⟩]; exact g10⟩
    · have hxk : x = k := by omega
      subst hxk
      rw [updN_s, updN_s, updN_s, Nat.sub_self, Nat.sub_self, Nat.sub_self]
      exact ⟨hMh, hMk, w5, w21, w6, w7, w8, y2, y3⟩
  · exact hz.of (fun x hx => updN_n (by omega)) (fun a b z => rA a b ⟨by omega, by omega, by omega, by omega, by omega, by omega, by omega, by omega⟩) (fun a b z => rB a b ⟨by omega, by omega, by omega, by omega, by omega, by omega⟩)
  · obtain ⟨y1, y2, y3, y4, y5, y6⟩ := hk.of hM (fun a b z => rA a b ⟨by omega, by omega, by omega, by omega, by omega, by omega, by omega, by omega⟩) (fun a b z => rB a b ⟨by omega, by omega, by omega, by omega, by omega, by omega⟩)
    refine ⟨by rw [updN_s]; exact y1, by rw [updN_s]; exact y2, by rw [updN_s]; exact y3, by rw [updN_n (by omega)]; exact y4, fun x hx => ?_, by rw [updN_s]; exact y6⟩
    rw [updN_n (show x ≠ k + 1 by omega)]
    rcases Nat.lt_or_ge x k with y | y
    · rw [updN_n (show x + 1 ≠ k + 1 by omega)]
      exact y5 x y
    · have hxk : x = k := by omega
      subst hxk
      rw [updN_s]
      omega
  · obtain ⟨y1, y2, y3, y4⟩ := hl.of (F' := updN F (k + 1) (F k)) hM (fun x hx => by
      rw [updN_n (show x ≠ k + 1 by omega), updN_n (show x + 1 ≠ k + 1 by omega)]
      exact ⟨rfl, Nat.le_refl _⟩) (fun a b z => rA a b ⟨by omega, by omega, by omega, by omega, by omega, by omega, by omega, by omega⟩) (fun a b z => rB a b ⟨by omega, by omega, by omega, by omega, by omega, by omega⟩)
    refine ⟨by rw [updN_s]; exact y1, by rw [updN_s]; exact y2, by rw [updN_n (by omega)]; exact y3, fun x hx => ?_⟩
    rw [updN_n (F := H) (show x ≠ k + 1 by omega)]
    rcases Nat.lt_or_ge x k with y | y
    · rw [updN_n (F := H) (show x + 1 ≠ k + 1 by omega)]
      exact y4 x y
    · have hxk : x = k := by omega
      subst hxk
      rw [updN_s]
      exact ⟨Nat.le_refl _, fun l z1 z2 => by omega⟩
  · obtain ⟨y1, y2, y3, y4, y5⟩ := ht.of hM (fun a b z => rA a b ⟨by omega, by omega, by omega, by omega, by omega, by omega, by omega, by omega⟩) (fun a b z => rB a b ⟨by omega, by omega, by omega, by omega, by omega, by omega⟩)
    refine ⟨by rw [updN_s]; exact y1, by rw [updN_s]; exact y2, by rw [updN_s]; exact y3, by rw [updN_n (by omega)]; exact y4, fun x hx => ?_⟩
    rw [updN_n (show x ≠ k + 1 by omega)]
    rcases Nat.lt_or_ge x k with y | y
    · rw [updN_n (show x + 1 ≠ k + 1 by omega)]
      exact y5 x y
    · have hxk : x = k := by omega
      subst hxk
      rw [updN_s]
      exact ⟨Nat.le_refl _, by omega, fun l z1 z2 => by omega⟩
  · rcases Nat.lt_or_ge x k with y | y
    · rw [rB _ _ ⟨by omega, by omega, by omega, by omega, by omega, by omega⟩]
      exact n8 x y
    · have hxk : x = k := by omega
      rw [hxk]
      exact ⟨c, h7c, by omega, b15⟩
/-- its name, and what is set ahead of its kinds -/
def Mh1 (T : Tp) (L M : List (List Nat)) (K P Z p c k s v : Nat) (E H : Nat → Nat) (A B : St) (M' : List (List Nat)) (u' p1 : Nat) (A2 B4 : St) : Prop := Pa T L M' K Z u' p1 A2 B4 ∧ p < p1 ∧ Mo M M' ∧ CB L M' (E (c + 1) + s + k + 1) A2 B4 ∧ NE L M' (A2 (P + 8) (16 * k + 1)) (B4 (Z + 16) k) ∧ (∀ a d, MhA P c k a d → A2 a d = A a d) ∧ (∀ a d, MhB Z k a d → B4 a d = B a d) ∧ A2 (P + 2) (6 * c + 5) = Int32.ofNat (mcn (B (Z + 15)) (Int32.ofNat c) k + 1) ∧ A2 (P + 7) 3 = Int32.ofNat (k + 1) ∧ A2 48 3 = Int32.ofNat (k + 1) ∧ B4 Z 8 = Int32.ofNat (k + 1) ∧ A2 (P + 8) (16 * k) = Int32.ofNat c ∧ B4 (Z + 15) k = Int32.ofNat c ∧ A2 49 (4 * k) = B4 (Z + 17) k ∧ Plc (B4 (Z + 17) k) ∧ A2 (P + 8) (16 * k + 2) = Int32.ofNat v ∧ B4 (Z + 25) k = Int32.ofNat v ∧ B4 (Z + 18) k = Int32.ofNat 0 ∧ B4 (Z + 19) k = Int32.ofNat 0 ∧ A2 49 (4 * k + 2) = Int32.ofNat (H k) ∧ A2 49 (4 * k + 3) = 0
set_option maxHeartbeats 40000000 in
theorem mh1 (hP : P = 3 ∨ P = 18) (hZ : Z = 85 ∨ Z = 126) (h : Bq T L M K P Z u p (c + 1) k k s E F H G A B) (h7 : 7 ≤ c) (h24 : k < 24) (h0 : cA T p ≠ 256) (hv : v = 0 ∨ v = 1) : (∃ M' u' p1 A2 B4, x69 P A (Int32.ofNat v) = (x70 P A2 (Int32.ofNat k)).bind (fun q3 => (x67 q3 1).bind (mtA P (Int32.ofNat k))) ∧ x209 Z B (Int32.ofNat c) (Int32.ofNat v) = (kdR Z (Int32.ofNat k) B4).bind (elm (metT Z (Int32.ofNat k))) ∧ Mh1 T L M K P Z p c k s v E H A B M' u' p1 A2 B4) ∨ Bad (x69 P A (Int32.ofNat v)) (x209 Z B (Int32.ofNat c) (Int32.ofNat v)) := by
  obtain ⟨hPa, hb, hf, hs, ⟨i1, i2, i3, i4⟩, ⟨m1, m2, m3, m4⟩, hz, hk, ⟨l1, l2, l3, l4⟩, ht, n1, n2, n3, n4, n5, n6, n7, n8⟩ := h
  have hnar : vp_nar .boolean (Int32.ofNat v) = Int32.ofNat v := by rcases hv with rfl | rfl <;> decide
  have hP2 : 3 ≤ P ∧ P ≤ 18 := by omega
  have hZ2 : 85 ≤ Z ∧ Z ≤ 126 := by omega
  replace hP : Hid (P = 3 ∨ P = 18) := hP
  replace hZ : Hid (Z = 85 ∨ Z = 126) := hZ
  clear hv
  have hE := E_le n5 (fun x hx => (i4 x (by omega)).2.2.2.2.1) (c + 1) (by omega) (Nat.le_refl _)
  have hpl := hPa.le
  have hmc := mcn_le (f := B (Z + 15)) (v := Int32.ofNat c) k
  generalize hA1 : up2 A (P + 2) (6 * c + 5) (Int32.ofNat (mcn (B (Z + 15)) (Int32.ofNat c) k + 1)) = A1
  have rA1 : ∀ a d, (a ≠ P + 2 ∨ d ≠ 6 * c + 5) → A1 a d = A a d := fun a d z => by rw [← hA1, up2_o z]
  have hXs : x69 P A (Int32.ofNat v) = (x66 (P + 7) P A1 (Int32.ofNat v)).bind fun q1 => Lt (tset (tset (tadd q1.2 48) 48 q1.1 0 ((tadd q1.2 48) 56 6)) 48 q1.1 2 ((tset (tadd q1.2 48) 48 q1.1 0 ((tadd q1.2 48) 56 6)) 50 3)) fun J2 => (x70 P (tset J2 48 q1.1 3 0) q1.1).bind fun q3 => (x67 q3 1).bind (mtA P q1.1) := by
    have e0 : tget A (P + 1) (x65 P A) 5 = Int32.ofNat (mcn (B (Z + 15)) (Int32.ofNat c) k) := by
      simp (disch := omega) only [x65, i1, i32_p, tP1 hP]
      exact (i4 c (by omega)).2.2.2.2.2.2
    have e1 : tset A (P + 1) (x65 P A) 5 (Int32.ofNat (mcn (B (Z + 15)) (Int32.ofNat c) k) + 1) = A1 := by
      simp (disch := omega) only [x65, i1, i32_p, tP1 hP, i32_s]
      exact hA1
    unfold x69
    rw [e0, e1, m1, if_pos (show Int32.ofNat k < 24 by show _ < Int32.ofNat 24; rw [i32_lt (by omega) (by decide)]; omega)]
    rfl
  have hPa1 : Pa T L M K Z u p A1 B := hPa.of (fun a b z => rA1 a b (by omega)) (fun _ _ _ => rfl)
  have hb1 : CB L M (E (c + 1) + s + k) A1 B := hb.of Mo.rf (fun a b z => rA1 a b (by omega)) (fun _ _ _ => rfl)
  have hin : inb (Int32.ofNat k) 24 := (i32_inb (by omega)).mpr (by omega)
  have hcl : (Int32.ofNat k).toNatClampNeg = k := i32_cl (by omega)
  rcases member_l hP hZ (k := P + 7) (R := 24) (C := 16) (n := k) (c := c) (Or.inr (Or.inr ⟨rfl, rfl, rfl⟩)) hPa1 h0 hb1 (by omega) (by rw [rA1 _ _ (by omega)]; exact m1) (by omega) (by rw [rA1 _ _ (by omega)]; exact i1) (Int32.ofNat v) with ⟨i, r, M', u', B1, B2, B3, a1, a2, a3, a4, a5, a6, a7, a8, a9, a10, a11, a12, a13, a14⟩ | ⟨w, v', J, B1, w1, w2, w3, w4, w5⟩
  · left
    clear hb hf hs hz hk ht l3 l4 hb1 hPa1
    have sAm : ∀ a d, (a ≠ 56 ∧ (a ≠ P + 7 ∨ d ≠ 3) ∧ (a ≠ P + 8 ∨ d < 16 * k ∨ 16 * k + 2 < d) ∧ (a ≠ 46 ∨ d ≠ 3) ∧ a ≠ 47) → memA (P + 7) 16 k (E (c + 1) + s + k) c i (nx T p) (Int32.ofNat v) A1 a d = A1 a d := fun a d z => by
      unfold memA
      simp (disch := omega) only [up2_o, nmA_r, adv_r]
    have am6 : memA (P + 7) 16 k (E (c + 1) + s + k) c i (nx T p) (Int32.ofNat v) A1 56 6 = Int32.ofNat (nx T p) := by
      unfold memA
      simp (disch := omega) only [up2_o, nmA_6]
    have q0 : memA (P + 7) 16 k (E (c + 1) + s + k) c i (nx T p) (Int32.ofNat v) A1 (P + 8) (16 * k) = Int32.ofNat c := by
      unfold memA; simp (disch := omega) only [up2_o, up2_e]
    have q1 : memA (P + 7) 16 k (E (c + 1) + s + k) c i (nx T p) (Int32.ofNat v) A1 (P + 8) (16 * k + 1) = Int32.ofNat i := by
      unfold memA; simp (disch := omega) only [up2_o, up2_e]
    have q2 : memA (P + 7) 16 k (E (c + 1) + s + k) c i (nx T p) (Int32.ofNat v) A1 (P + 8) (16 * k + 2) = Int32.ofNat v := by
      unfold memA; simp (disch := omega) only [up2_o, up2_e]
    have q3 : memA (P + 7) 16 k (E (c + 1) + s + k) c i (nx T p) (Int32.ofNat v) A1 (P + 7) 3 = Int32.ofNat (k + 1) := by
      unfold memA; simp (disch := omega) only [up2_o, up2_e]
    generalize memA (P + 7) 16 k (E (c + 1) + s + k) c i (nx T p) (Int32.ofNat v) A1 = Am at a1 a6 a9 sAm am6 q0 q1 q2 q3
    have m2' : Am 48 3 = Int32.ofNat k := by rw [sAm _ _ ⟨by omega, by omega, by omega, by omega, by omega⟩, rA1 _ _ (by omega)]; exact m2
    have l1' : Am 50 3 = Int32.ofNat (H k) := by rw [sAm _ _ ⟨by omega, by omega, by omega, by omega, by omega⟩, rA1 _ _ (by omega)]; exact l1
    have e8 : B3 Z 8 = Int32.ofNat k := by rw [a10 _ _ (by omega)]; exact m3
    have o5 : Am (P + 2) (6 * c + 5) = Int32.ofNat (mcn (B (Z + 15)) (Int32.ofNat c) k + 1) := by
      rw [sAm _ _ ⟨by omega, by omega, by omega, by omega, by omega⟩, ← hA1, up2_s]
    refine ⟨M', u', nx T (nx T p), up2 (up2 (up2 (up2 Am 48 3 (Int32.ofNat (k + 1))) 49 (4 * k) (Int32.ofNat (nx T p))) 49 (4 * k + 2) (Int32.ofNat (H k))) 49 (4 * k + 3) 0, up2 (up2 (up2 (up2 (up2 (up2 (up2 B3 (Z + 15) k (Int32.ofNat c)) (Z + 16) k (Int32.ofNat r)) (Z + 17) k (Int32.ofNat (nx T p))) (Z + 25) k (Int32.ofNat v)) (Z + 18) k 0) (Z + 19) k 0) Z 8 (Int32.ofNat (k + 1)), ?_, ?_, a6.of (fun a b z => by simp (disch := omega) only [up2_o]) (fun a b z => by simp (disch := omega) only [up2_o]), by omega, a7, a9.of Mo.rf (fun a b z => by simp (disch := omega) only [up2_o]) (fun a b z => by simp (disch := omega) only [up2_o]), ?_, fun a d z => ?_, fun a d z => ?_, ?_, ?_, ?_, ?_, ?_, ?_, ?_, ?_, ?_, ?_, ?_, ?_, ?_, ?_⟩
    · obtain ⟨y1, y2⟩ := tadd_n (I := Am) (k := 48) (n := k) m2' (by show k < 24; omega) (by decide)
      rw [hXs, a1, Option.bind_some]
      dsimp only
      rw [Lt, y1]
      simp (disch := omega) only [t48, up2_o, am6, l1']
    · rw [x209_h, a2, Option.bind_some, a3, Option.bind_some, Sum.elim_inr]
      dsimp only
      rw [a5, a4, Option.bind_some, a11, m3]
      simp (disch := omega) only [hcl, if_pos hin, Lt, up2_o, hnar, e8, i32_s]
    · simp (disch := omega) only [up2_o, up2_e, q1]
      exact a8
    · obtain ⟨z1, z2, z3, z4, z5, z6, z7, z8⟩ := z
      simp (disch := omega) only [up2_o, sAm, rA1]
    · obtain ⟨z1, z2, z3, z4, z5, z6⟩ := z
      simp (disch := omega) only [up2_o, a10]
    · simp (disch := omega) only [up2_o]
      exact o5
    · simp (disch := omega) only [up2_o]
      exact q3
    · simp (disch := omega) only [up2_o, up2_e]
    · simp (disch := omega) only [up2_e]
    · simp (disch := omega) only [up2_o]
      exact q0
    · simp (disch := omega) only [up2_o, up2_e]
    · simp (disch := omega) only [up2_o, up2_e]
    · simp (disch := omega) only [up2_o, up2_e]
      exact ⟨_, by omega, rfl⟩
    · simp (disch := omega) only [up2_o]
      exact q2
    · simp (disch := omega) only [up2_o, up2_e]
    · simp (disch := omega) only [up2_o, up2_e]
      rfl
    · simp (disch := omega) only [up2_o, up2_e]
      rfl
    · simp (disch := omega) only [up2_o, up2_e]
    · simp (disch := omega) only [up2_e]
  · right
    have hE : Er J := er_of (by omega) w3
    obtain ⟨J3, d1, d2⟩ : ∃ J3, x69 P A (Int32.ofNat v) = (x70 P J3 v').bind (fun q3 => (x67 q3 1).bind (mtA P v')) ∧ Sw J J3 := by
      refine ⟨_, by rw [hXs, w2, Option.bind_some]; rfl, ?_⟩
      dsimp only
      exact (((Sw.rf.ta (k := 48) (by decide)).ts (k := 48) (by decide)).ts (k := 48) (by decide)).ts (k := 48) (by decide)
    obtain ⟨J4, d3, d4⟩ := x70_e hP (hE.sw d2) (x := v')
    have hE4 := (hE.sw d2).sw d4
    obtain ⟨J5, d5, d6⟩ := mtA_e hP (x := v') (v := 0) hE4
    refine ⟨w, J5, Wr B1 w, w1, by rw [d1, d3, Option.bind_some, x67_e hE4, Option.bind_some, d5], ?_, ((d2.tr d4).tr d6).trans w3, Wr_0⟩
    rw [x209_h, w4, Option.bind_some, w5]
    rfl
set_option maxHeartbeats 40000000 in
theorem method_l (hP : P = 3 ∨ P = 18) (hZ : Z = 85 ∨ Z = 126) (h : Bq T L M K P Z u p (c + 1) k k s E F H G A B) (h7 : 7 ≤ c) (h24 : k < 24) (h0 : cA T p ≠ 256) (hv : v = 0 ∨ v = 1) : (∃ M' u' p' A' B', x69 P A (Int32.ofNat v) = some A' ∧ x209 Z B (Int32.ofNat c) (Int32.ofNat v) = (l209_217 Z (Int32.ofNat k) 100000 0 B').bind (Sum.elim (fun q31 => metE Z (Int32.ofNat k) q31) (fun r => some r)) ∧ Bq T L M' K P Z u' p' (c + 1) (k + 1) k s E (updN F (k + 1) (F k)) (updN H (k + 1) (H k)) (updN G (k + 1) (G k)) A' B' ∧ A' 56 4 = 2 ∧ p < p') ∨ Bad (x69 P A (Int32.ofNat v)) (x209 Z B (Int32.ofNat c) (Int32.ofNat v)) := by
  rcases mh1 hP hZ h h7 h24 h0 hv with ⟨M', u', p1, A2, B4, hX, hY, r1, r2, r3, r4, r5, r6, r7, r8, r9, r10, r11, r12, r13, r14, r15, r16, r17, r18, r19, r20, r21⟩ | hbad
  · have hv3 : Hid (Int32.ofNat v = 0 ∨ Int32.ofNat v = 1) := by
      rcases hv with rfl | rfl
      · exact Or.inl rfl
      · exact Or.inr rfl
    have hP2 : 3 ≤ P ∧ P ≤ 18 := by omega
    have hZ2 : 85 ≤ Z ∧ Z ≤ 126 := by omega
    replace hP : Hid (P = 3 ∨ P = 18) := hP
    replace hZ : Hid (Z = 85 ∨ Z = 126) := hZ
    clear hv
    have k1 := h.2.2.2.2.2.2.2.1.1
    have k3 := h.2.2.2.2.2.2.2.1.2.2.1
    have t1 := h.2.2.2.2.2.2.2.2.2.1.1
    have c19 : c + 1 ≤ 19 := h.2.2.2.2.2.2.2.2.2.2.2.1
    have hin : inb (Int32.ofNat k) 24 := (i32_inb (by omega)).mpr (by omega)
    have hcl : (Int32.ofNat k).toNatClampNeg = k := i32_cl (by omega)
    have hMk0 : Mk P Z k 0 0 A2 B4 := ⟨r18, r19, by omega, by omega, fun i hi => by omega⟩
    rcases kall_l hP hZ h24 r1 hMk0 with ⟨kn, rf, p2, A3, B5, e1, e2, e3, e4, e5, e6, e7, e8⟩ | ⟨w, A3, B5, w1, w2, w3, w4, w5⟩
    · rw [e1, Option.bind_some] at hX
      rw [e2, Option.bind_some, elm, Sum.elim_inr] at hY
      rcases kind_l hZ e3 true (x := 1) rfl with ⟨d, B6, f1, f2, f3, f4, f5, f6, f7⟩ | ⟨w, w1, w2, w3⟩
      · have hB6 : ∀ a b, (a ≠ Z ∨ (b ≠ 3 ∧ b ≠ 4)) → (a < Z + 1 ∨ Z + 3 < a) → (a ≠ 82 ∨ b < 11 ∨ 16 < b) → a ≠ 84 → B6 a b = B5 a b := f4
        rw [f1, Option.bind_some] at hX
        have g9 : A3 (P + 9) 3 = Int32.ofNat (F k) := by
          rw [e7 _ _ ⟨by omega, by omega⟩, r6 _ _ ⟨by omega, by omega, by omega, by omega, by omega, by omega, by omega, by omega⟩]
          exact k1
        have g11 : A3 (P + 11) 3 = Int32.ofNat (G k) := by
          rw [e7 _ _ ⟨by omega, by omega⟩, r6 _ _ ⟨by omega, by omega, by omega, by omega, by omega, by omega, by omega, by omega⟩]
          exact t1
        generalize hA6 : up2 (up2 (up2 (up2 (up2 (up2 (adv A3) (P + 8) (16 * k + 3) (Int32.ofNat d)) (P + 8) (16 * k + 5) (Int32.ofNat (F k))) (P + 8) (16 * k + 6) 0) (P + 8) (16 * k + 7) (Int32.ofNat (G k))) (P + 8) (16 * k + 8) 0) (P + 8) (16 * k + 9) 0 = A6
        have hX2 : x69 P A (Int32.ofNat v) = (x62 A6 123).bind fun q7 => some (up2 q7 56 4 2) := by
          rw [hX]
          unfold mtA
          simp (disch := omega) only [Lt, tP7 hP, up2_o, adv_r, g9, g11, hA6]
        generalize hB7 : up2 B6 (Z + 20) k (Int32.ofNat d) = B7
        have hY2 : x209 Z B (Int32.ofNat c) (Int32.ofNat v) = (x204 B7 123).bind (elm fun q22 => (l209_217 Z (Int32.ofNat k) 100000 0 (up2 q22 (Z + 21) k (q22 Z 9))).bind (Sum.elim (fun q31 => metE Z (Int32.ofNat k) q31) (fun r => some r))) := by
          rw [hY]
          unfold metT
          rw [f2, Option.bind_some, Sum.elim_inr]
          simp only [if_pos hin, hcl, hB7]
        have sA6 : ∀ a d', (a ≠ 56 ∧ (a ≠ P + 8 ∨ (d' < 16 * k + 3 ∨ d' = 16 * k + 4 ∨ 16 * k + 10 ≤ d'))) → A6 a d' = A3 a d' := fun a d' z => by
          rw [← hA6]
          simp (disch := omega) only [up2_o, adv_r]
        have u3 : A6 (P + 8) (16 * k + 3) = Int32.ofNat d := by rw [← hA6]; simp (disch := omega) only [up2_o, up2_e]
        have u5 : A6 (P + 8) (16 * k + 5) = Int32.ofNat (F k) := by rw [← hA6]; simp (disch := omega) only [up2_o, up2_e]
        have u6 : A6 (P + 8) (16 * k + 6) = 0 := by rw [← hA6]; simp (disch := omega) only [up2_o, up2_e]
        have u7 : A6 (P + 8) (16 * k + 7) = Int32.ofNat (G k) := by rw [← hA6]; simp (disch := omega) only [up2_o, up2_e]
        have u8 : A6 (P + 8) (16 * k + 8) = 0 := by rw [← hA6]; simp (disch := omega) only [up2_o, up2_e]
        have u9 : A6 (P + 8) (16 * k + 9) = 0 := by rw [← hA6]; simp (disch := omega) only [up2_e]
        have hPa6 : Pa T L M' K Z u' (nx T p2) A6 B7 := f3.of (fun a b z => by rw [← hA6]; simp (disch := omega) only [up2_o]) (fun a b z => by rw [← hB7, up2_o (by omega)])
        rcases sign_l hZ hPa6 (s := 123) (x := 123) rfl (by decide) (by decide) with ⟨B8, b1, b2, b3, b4, b5⟩ | ⟨w, w1, w2, w3⟩
        · left
          have hB8 : ∀ a b, (a ≠ Z ∨ (b ≠ 3 ∧ b ≠ 4)) → (a < Z + 1 ∨ Z + 3 < a) → (a ≠ 82 ∨ b < 11 ∨ 16 < b) → a ≠ 84 → B8 a b = B7 a b := b4
          have sB8 : ∀ a d', ((a ≠ Z ∨ (d' ≠ 3 ∧ d' ≠ 4)) ∧ (a < Z + 1 ∨ Z + 3 < a) ∧ (a ≠ 82 ∨ ((d' < 11 ∨ 16 < d'))) ∧ a ≠ 84 ∧ ((a ≠ Z + 18 ∧ a ≠ Z + 19 ∧ a ≠ Z + 20) ∨ d' ≠ k)) → B8 a d' = B4 a d' := fun a d' z => by
            rw [hB8 a d' z.1 z.2.1 z.2.2.1 z.2.2.2.1, ← hB7, up2_o (by omega), hB6 a d' z.1 z.2.1 z.2.2.1 z.2.2.2.1, e8 a d' ⟨z.1, z.2.1, z.2.2.1, z.2.2.2.1, by omega⟩]
          have z9 : B8 Z 9 = Int32.ofNat (F k) := by
            rw [sB8 _ _ ⟨by omega, by omega, by omega, by omega, by omega⟩, r7 _ _ ⟨by omega, by omega, by omega, by omega, by omega, by omega⟩]
            exact k3
          have s20 : B8 (Z + 20) k = Int32.ofNat d := by
            rw [hB8 _ _ (by omega) (by omega) (by omega) (by omega), ← hB7, up2_s]
          have s18 : ∀ a, (a = Z + 18 ∨ a = Z + 19) → B8 a k = B5 a k := fun a z => by
            rw [hB8 _ _ (by omega) (by omega) (by omega) (by omega), ← hB7, up2_o (by omega), hB6 _ _ (by omega) (by omega) (by omega) (by omega)]
          have sA7 : ∀ a d', a ≠ 56 → up2 (adv A6) 56 4 2 a d' = A6 a d' := fun a d' z => by rw [up2_o (by omega), adv_r (by omega)]
          have sB9 : ∀ a d', (a ≠ Z + 21 ∨ d' ≠ k) → up2 B8 (Z + 21) k (Int32.ofNat (F k)) a d' = B8 a d' := fun a d' z => up2_o z
          have tA : ∀ a d', (a ≠ 56 ∧ (a ≠ P + 8 ∨ d' < 16 * k + 3)) → up2 (adv A6) 56 4 2 a d' = A2 a d' := fun a d' z => by
            rw [sA7 a d' z.1, sA6 a d' ⟨z.1, by omega⟩, e7 a d' ⟨by omega, by omega⟩]
          have tB : ∀ a d', ((a ≠ Z ∨ (d' ≠ 3 ∧ d' ≠ 4)) ∧ (a < Z + 1 ∨ Z + 3 < a) ∧ (a ≠ 82 ∨ ((d' < 11 ∨ 16 < d'))) ∧ a ≠ 84 ∧ ((a < Z + 18 ∨ Z + 21 < a) ∨ d' ≠ k)) → up2 B8 (Z + 21) k (Int32.ofNat (F k)) a d' = B4 a d' := fun a d' z => by
            rw [sB9 a d' (by omega), sB8 a d' ⟨z.1, z.2.1, z.2.2.1, z.2.2.2.1, by omega⟩]
          have hb15 : up2 B8 (Z + 21) k (Int32.ofNat (F k)) (Z + 15) k = Int32.ofNat c := by rw [tB _ _ ⟨by omega, by omega, by omega, by omega, by omega⟩]; exact r13
          refine ⟨M', u', _, up2 (adv A6) 56 4 2, up2 B8 (Z + 21) k (Int32.ofNat (F k)), by rw [hX2, b1, Option.bind_some], by rw [hY2, b2, Option.bind_some, elm, Sum.elim_inr, z9], meth_out hP2 hZ2 h h7 h24 (b3.of (fun a b z => up2_o (by omega)) (fun a b z => up2_o (by omega))) (by omega) r3 (r4.of Mo.rf (fun a b z => tA a b ⟨by omega, by omega⟩) (fun a b z => tB a b ⟨by omega, by omega, by omega, by omega, by omega⟩)) (fun a d z => by rw [tA a d ⟨z.1, by omega⟩, r6 a d z]) (fun a d z => by rw [tB a d ⟨by omega, z.2.1, by omega, z.2.2.2.1, by omega⟩, r7 a d z]) (by rw [tA _ _ ⟨by omega, by omega⟩]; exact r8) (by rw [tA _ _ ⟨by omega, by omega⟩]; exact r9) (by rw [tA _ _ ⟨by omega, by omega⟩]; exact r10) (by rw [tB _ _ ⟨by omega, by omega, by omega, by omega, by omega⟩]; exact r11) ⟨?_, ⟨c, by omega, hb15⟩, ?_, ?_, ?_, ?_, ?_, ?_, ⟨d, f5, ?_⟩, ?_⟩ ⟨kn, rf, ?_, ?_⟩ (by rw [sA7 _ _ (by omega)]; exact u5) (up2_s _ _ _ _) (by rw [sA7 _ _ (by omega)]; exact u6) (by rw [sA7 _ _ (by omega)]; exact u7) (by rw [sA7 _ _ (by omega)]; exact u8) (by rw [tA _ _ ⟨by omega, by omega⟩]; exact r20) (by rw [tA _ _ ⟨by omega, by omega⟩]; exact r21) hb15, up2_s _ _ _ _, by omega⟩
          · rw [hb15, tA _ _ ⟨by omega, by omega⟩]; exact r12
          · rw [tA _ _ ⟨by omega, by omega⟩, tB _ _ ⟨by omega, by omega, by omega, by omega, by omega⟩]; exact r5
          · rw [tA _ _ ⟨by omega, by omega⟩, tB _ _ ⟨by omega, by omega, by omega, by omega, by omega⟩]; exact r14
          · rw [tB _ _ ⟨by omega, by omega, by omega, by omega, by omega⟩]; exact r15
          · rw [tA _ _ ⟨by omega, by omega⟩, tB _ _ ⟨by omega, by omega, by omega, by omega, by omega⟩, r16, r17]
          · rw [tB _ _ ⟨by omega, by omega, by omega, by omega, by omega⟩, r17]; exact hv3
          · rw [sA7 _ _ (by omega), u3, sB9 _ _ (by omega), s20]
          · rw [sB9 _ _ (by omega), s20]
          · rw [sA7 _ _ (by omega), u9]
          · rw [sA7 _ _ (by omega), sA6 _ _ ⟨by omega, by omega⟩]; exact e6
          · have kn6 : kn ≤ 6 := e5.2.2.1
            exact e5.of (fun a b z => by rw [z.1, sA7 _ _ (by omega), sA6 _ _ ⟨by omega, by omega⟩]) (fun a b z => by rw [z.2, sB9 _ _ (by omega), s18 _ z.1])
        · right
          rw [w2, Option.bind_some] at hX2
          rw [w3] at hY2
          exact ⟨w, _, _, w1, hX2, hY2, (Sw.rf.u (by decide) : Sw (wrC A6 w) _).trans wrC_5, Wr_0⟩
      · right
        obtain ⟨J, j1, j2⟩ := mtA_e hP (x := Int32.ofNat k) (v := 0) (wrC_er (A := A3) w1)
        rw [w2, Option.bind_some, j1] at hX
        unfold metT at hY
        rw [w3] at hY
        exact ⟨w, J, _, w1, hX, hY, j2.trans wrC_5, Wr_0⟩
    · right
      have hE : Er A3 := er_of (by omega) w4
      obtain ⟨J, j1, j2⟩ := mtA_e hP (x := Int32.ofNat k) (v := 0) hE
      rw [w2, Option.bind_some, x67_e hE, Option.bind_some, j1] at hX
      rw [w3] at hY
      exact ⟨w, J, B5, w1, hX, hY, j2.trans w4, w5⟩
  · exact Or.inr hbad
end
