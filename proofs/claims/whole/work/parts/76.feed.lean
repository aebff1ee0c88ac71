/-! feed() in lockstep -/
def app (T : Tp) (c : Nat) : Tp := (T.1 + 1, fun i => if i = T.1 then c else T.2 i)
def bt (v s : Int32) : Nat := (ushr v s &&& 255).toNatClampNeg
theorem bt_ok (v s : Int32) : ushr v s &&& 255 = Int32.ofNat (bt v s) ∧ bt v s < 256 := and255 _
theorem TC.push {T : Tp} {I : St} {c : Nat} (h : TC T I) (hl : T.1 < 1280) (hc : c < 256) : TC (app T c) (tset (tadd I 1) 1 (tadr I 1) 0 (Int32.ofNat c)) := by
  obtain ⟨s1, s2, s3⟩ := sf1
  obtain ⟨t1, t2⟩ := tadd_n h.1 (by omega) (by omega)
  rw [t1, t2]
  refine ⟨?_, by show T.1 + 1 ≤ 1280; omega, fun i hi => ?_⟩
  · rw [tset_fld (by rw [s3]; decide), up2_s]
    rfl
  · have hi : i < T.1 + 1 := hi
    show _ = Int32.ofNat (if i = T.1 then c else T.2 i) ∧ (if i = T.1 then c else T.2 i) < 256
    by_cases z : i = T.1
    · subst z
      rw [if_pos rfl, tget_same (tok_i (k := 1) (b := 0) (by omega) (by omega) (by decide) (by rw [s2]; decide))]
      exact ⟨rfl, hc⟩
    · rw [if_neg z, tget_ne (by decide) (by decide) (Or.inl (by rw [Ne, i32_eq (by omega) (by omega)]; omega)), tget_up (by rw [s3]; decide)]
      exact h.2.2 i (by omega)
theorem TB.push {T : Tp} {I : St} {c : Nat} (h : TB T I) (hl : T.1 < 1280) (hc : c < 256) : TB (app T c) (up2 (up2 I 83 T.1 (i2b (Int32.ofNat c))) 82 1 (Int32.ofNat (T.1 + 1))) := by
  refine ⟨up2_s _ _ _ _, by show T.1 + 1 ≤ 1280; omega, fun i hi => ?_⟩
  have hi : i < T.1 + 1 := hi
  show _ = i2b (Int32.ofNat (if i = T.1 then c else T.2 i)) ∧ (if i = T.1 then c else T.2 i) < 256
  rw [up2_k _ _ _ _ _ _ (by decide)]
  by_cases z : i = T.1
  · subst z
    rw [if_pos rfl, up2_s]
    exact ⟨rfl, hc⟩
  · rw [if_neg z, up2_j _ _ _ _ _ z]
    exact h.2.2 i (by omega)
theorem cl_step {T : Tp} {I : St} {v s : Int32} {n : Nat} (h : TC T I) (hl : T.1 < 1280) (hs : ¬ s < 0) : ∃ J, l22_3 v (n + 1) s I = l22_3 v n (s + (-8)) J ∧ TC (app T (bt v s)) J := by
  obtain ⟨e1, e2⟩ := bt_ok v s
  refine ⟨_, by rw [l22_3, if_neg hs], ?_⟩
  rw [e1]
  exact h.push hl e2
theorem rf_step {T : Tp} {I : St} {v s : Int32} {n : Nat} (h : TB T I) (hl : T.1 < 1280) (hs : ¬ s < 0) (hb : i2b (v >>> (s &&& 31)) = i2b (ushr v s &&& 255)) : ∃ J, l189_3 v (n + 1) s I = l189_3 v n (s + (-8)) J ∧ TB (app T (bt v s)) J := by
  obtain ⟨e1, e2⟩ := bt_ok v s
  refine ⟨up2 (up2 I 83 T.1 (i2b (Int32.ofNat (bt v s)))) 82 1 (Int32.ofNat (T.1 + 1)), ?_, h.push hl e2⟩
  rw [l189_3, if_neg hs, h.1, if_pos ((i32_inb (by omega)).mpr (by omega)), i32_cl (by omega), hb, e1, nar_b _ e2, i32_s]
  rfl
def app4 (T : Tp) (v : Int32) : Tp := app (app (app (app T (bt v 24)) (bt v 16)) (bt v 8)) (bt v 0)
theorem x22_n {T : Tp} {I : St} (v : Int32) (h : TC T I) (hl : T.1 + 4 ≤ 1280) : ∃ J, x22 I v = some J ∧ TC (app4 T v) J := by
  obtain ⟨J1, a1, a2⟩ := cl_step (v := v) (s := 24) (n := 99999) h (by omega) (by decide)
  obtain ⟨J2, b1, b2⟩ := cl_step (v := v) (s := 16) (n := 99998) a2 (by show T.1 + 1 < 1280; omega) (by decide)
  obtain ⟨J3, c1, c2⟩ := cl_step (v := v) (s := 8) (n := 99997) b2 (by show T.1 + 1 + 1 < 1280; omega) (by decide)
  obtain ⟨J4, d1, d2⟩ := cl_step (v := v) (s := 0) (n := 99996) c2 (by show T.1 + 1 + 1 + 1 < 1280; omega) (by decide)
  refine ⟨J4, ?_, d2⟩
  unfold x22
  rw [show (100000 : Nat) = 99999 + 1 from rfl, a1, show (24 : Int32) + (-8) = 16 by decide, show (99999 : Nat) = 99998 + 1 from rfl, b1, show (16 : Int32) + (-8) = 8 by decide, show (99998 : Nat) = 99997 + 1 from rfl, c1, show (8 : Int32) + (-8) = 0 by decide, show (99997 : Nat) = 99996 + 1 from rfl, d1, show (0 : Int32) + (-8) = -8 by decide, show (99996 : Nat) = 99995 + 1 from rfl, l22_3, if_pos (by decide), Option.bind_some]
theorem x189_n {T : Tp} {I : St} (v : Int32) (h : TB T I) (hl : T.1 + 4 ≤ 1280) : ∃ J, x189 I v = some J ∧ TB (app4 T v) J := by
  obtain ⟨p1, p2, p3, p4⟩ := byte_all v
  obtain ⟨J1, a1, a2⟩ := rf_step (v := v) (s := 24) (n := 99999) h (by omega) (by decide) p1
  obtain ⟨J2, b1, b2⟩ := rf_step (v := v) (s := 16) (n := 99998) a2 (by show T.1 + 1 < 1280; omega) (by decide) p2
  obtain ⟨J3, c1, c2⟩ := rf_step (v := v) (s := 8) (n := 99997) b2 (by show T.1 + 1 + 1 < 1280; omega) (by decide) p3
  obtain ⟨J4, d1, d2⟩ := rf_step (v := v) (s := 0) (n := 99996) c2 (by show T.1 + 1 + 1 + 1 < 1280; omega) (by decide) p4
  refine ⟨J4, ?_, d2⟩
  unfold x189
  rw [show (100000 : Nat) = 99999 + 1 from rfl, a1, show (24 : Int32) + (-8) = 16 by decide, show (99999 : Nat) = 99998 + 1 from rfl, b1, show (16 : Int32) + (-8) = 8 by decide, show (99998 : Nat) = 99997 + 1 from rfl, c1, show (8 : Int32) + (-8) = 0 by decide, show (99997 : Nat) = 99996 + 1 from rfl, d1, show (0 : Int32) + (-8) = -8 by decide, show (99996 : Nat) = 99995 + 1 from rfl, l189_3, if_pos (by decide), Option.bind_some]
theorem feed_l {T : Tp} {A B : St} (hA : TC T A) (hB : TB T B) (hl : T.1 + 20 ≤ 1280) (a b c d e : Int32) : ∃ A' B' T', x21 A a b c d e = some (1, A') ∧ x188 B a b c d e = some (1, B') ∧ TC T' A' ∧ TB T' B' ∧ T'.1 = T.1 + 20 := by
  have g4 : ∀ (T : Tp) (v : Int32), (app4 T v).1 = T.1 + 4 := fun _ _ => rfl
  obtain ⟨A1, a1, a2⟩ := x22_n a hA (by omega)
  obtain ⟨A2, b1, b2⟩ := x22_n b a2 (by rw [g4]; omega)
  obtain ⟨A3, c1, c2⟩ := x22_n c b2 (by rw [g4, g4]; omega)
  obtain ⟨A4, d1, d2⟩ := x22_n d c2 (by rw [g4, g4, g4]; omega)
  obtain ⟨A5, e1, e2⟩ := x22_n e d2 (by rw [g4, g4, g4, g4]; omega)
  obtain ⟨B1, q1, q2⟩ := x189_n a hB (by omega)
  obtain ⟨B2, r1, r2⟩ := x189_n b q2 (by rw [g4]; omega)
  obtain ⟨B3, s1, s2⟩ := x189_n c r2 (by rw [g4, g4]; omega)
  obtain ⟨B4, t1, t2⟩ := x189_n d s2 (by rw [g4, g4, g4]; omega)
  obtain ⟨B5, u1, u2⟩ := x189_n e t2 (by rw [g4, g4, g4, g4]; omega)
  refine ⟨A5, B5, _, ?_, ?_, e2, u2, by rw [g4, g4, g4, g4, g4]⟩
  · unfold x21
    rw [hA.1, if_pos (show Int32.ofNat T.1 + 20 ≤ 4000 by show Int32.ofNat T.1 + Int32.ofNat 20 ≤ Int32.ofNat 4000; rw [i32_a, i32_le (by omega) (by decide)]; omega), a1, Option.bind_some, b1, Option.bind_some, c1, Option.bind_some, d1, Option.bind_some, e1, Option.bind_some]
  · unfold x188
    rw [hB.1, if_pos (show Int32.ofNat T.1 ≤ 3980 by show Int32.ofNat T.1 ≤ Int32.ofNat 3980; rw [i32_le (by omega) (by decide)]; omega), q1, Option.bind_some, r1, Option.bind_some, s1, Option.bind_some, t1, Option.bind_some, u1, Option.bind_some]
