/-! EACH CALL on both programs, out of the machine -/
def Inv (N : Nat) (I : St) (R : Nat → Nat → Option Nat) : Prop := ∃ P Q Z W, ((P = 3 ∧ Q = 18) ∨ (P = 18 ∧ Q = 3)) ∧ ((Z = 85 ∧ W = 126) ∨ (Z = 126 ∧ W = 85)) ∧ R 0 8 = some P ∧ R 0 9 = some Q ∧ R 82 3 = some Z ∧ R 82 4 = some W ∧ CpN P Z N I I
def Two (E : Xe) (jc jm : Nat) (as : List Value) (N : Nat) (I : St) (R : Nat → Nat → Option Nat) : Prop := ∃ v A R1 B R2, Rn E jc (0, loc0 jc (.ref 0 :: as), [], wT I R) (.returned (some (.int v))) (wT A R1) ∧ Rn E jm (0, loc0 jm (.ref 82 :: as), [], wT A R1) (.returned (some (.int v))) (wT B R2) ∧ Inv N B R2
theorem Inv.mo {N N' : Nat} {I : St} {R : Nat → Nat → Option Nat} (h : Inv N I R) (hN : N ≤ N') : Inv N' I R := by
  obtain ⟨P, Q, Z, W, hPQ, hZW, r1, r2, r3, r4, ⟨T, t1, t2⟩, h2⟩ := h
  exact ⟨P, Q, Z, W, hPQ, hZW, r1, r2, r3, r4, ⟨T, Nat.le_trans t1 hN, t2⟩, h2⟩
theorem x123_ok {E : Xe} {R : Nat → Nat → Option Nat} {P : Nat} {I : St} {a : Int32} {q : Int32 × St} (hP : P = 3 ∨ P = 18) (h8 : R 0 8 = some P) (h : x123 P I a = some q) : ∃ R', Rn E 123 (0, loc0 123 [.ref 0, .int a], [], wT I R) (.returned (some (.int q.1))) (wT q.2 R') ∧ R' 0 8 = R 0 8 ∧ R' 0 9 = R 0 9 ∧ R' 82 3 = R 82 3 ∧ R' 82 4 = R 82 4 := by
  unfold x123 at h
  by_cases z : thol I (P + 7) a = 0
  · rw [if_pos z] at h
    cases h
    exact ⟨R, x123_n hP h8 z, rfl, rfl, rfl, rfl⟩
  · rw [if_neg z] at h
    have z1 : thol I (P + 7) a = 1 := by
      unfold thol at z ⊢
      split
      · rename_i y; rw [if_pos y] at z; exact absurd rfl z
      · rfl
    exact ⟨_, x123_y hP h8 z1 h, rfl, rfl, rfl, rfl⟩
section
variable {E : Xe} {N : Nat} {I : St} {R : Nat → Nat → Option Nat}

theorem two_feed (h : Inv N I R) (hN : N + 20 ≤ 1280) (a b c d e : Int32) : Two E 21 188 [.int a, .int b, .int c, .int d, .int e] (N + 20) I R := by
  obtain ⟨P, Q, Z, W, hPQ, hZW, r1, r2, r3, r4, hC⟩ := h
  have hP : P = 3 ∨ P = 18 := by omega
  have hZ : Z = 85 ∨ Z = 126 := by omega

  obtain ⟨v, A, B, e1, e2, e3⟩ := one_l (P' := fun _ : Int32 => P) (Z' := fun _ => Z) (N' := (N + 20)) (xc := fun I => x21 I a b c d e) (xm := fun I => x188 I a b c d e) hP hZ (fun _ => hP) (fun _ => hZ) (fun A B h => feed_c hP hZ hN a b c d e h) (fun I q hq a b y => by
    have f := x21_fr _ _ Frm.refl _ hq
    dsimp only [Frm] at f
    simp only [mdb_0, mdb_n, mdb_s, and_true] at f
    exact f a b (by omega)) (fun I q hq a b y => by
    have f := x188_fr _ _ Frm.refl _ hq
    dsimp only [Frm] at f
    simp only [mdb_0, mdb_n, mdb_s, and_true] at f
    exact f a b (by omega)) hC
  exact ⟨v, A, R, B, R, x21_ok e1, x188_ok e2, P, Q, Z, W, hPQ, hZW, r1, r2, r3, r4, e3⟩

theorem two_end (h : Inv N I R) (a : Int32) : Two E 23 190 [.int a] N I R := by
  obtain ⟨P, Q, Z, W, hPQ, hZW, r1, r2, r3, r4, hC⟩ := h
  have hP : P = 3 ∨ P = 18 := by omega
  have hZ : Z = 85 ∨ Z = 126 := by omega

  obtain ⟨v, A, B, e1, e2, e3⟩ := one_l (P' := fun _ : Int32 => P) (Z' := fun _ => Z) (N' := N) (xc := fun I => x23 I a) (xm := fun I => x190 I a) hP hZ (fun _ => hP) (fun _ => hZ) (fun A B h => end_c hP hZ a h) (fun I q hq a b y => by
    have f := x23_fr _ _ Frm.refl _ hq
    dsimp only [Frm] at f
    simp only [mdb_0, mdb_n, mdb_s, and_true] at f
    exact f a b (by omega)) (fun I q hq a b y => by
    have f := x190_fr _ _ Frm.refl _ hq
    dsimp only [Frm] at f
    simp only [mdb_0, mdb_n, mdb_s, and_true] at f
    exact f a b (by omega)) hC
  exact ⟨v, A, R, B, R, x23_ok e1, x190_ok e2, P, Q, Z, W, hPQ, hZW, r1, r2, r3, r4, e3⟩

theorem two_flows (h : Inv N I R) (a : Int32) : Two E 118 262 [.int a] N I R := by
  obtain ⟨P, Q, Z, W, hPQ, hZW, r1, r2, r3, r4, hC⟩ := h
  have hP : P = 3 ∨ P = 18 := by omega
  have hZ : Z = 85 ∨ Z = 126 := by omega

  obtain ⟨v, A, B, e1, e2, e3⟩ := one_l (P' := fun _ : Int32 => P) (Z' := fun _ => Z) (N' := N) (xc := fun I => x118 I a) (xm := fun I => x262 I a) hP hZ (fun _ => hP) (fun _ => hZ) (fun A B h => flows_c hP hZ a h) (fun I q hq a b y => by
    have f := x118_fr _ _ Frm.refl _ hq
    dsimp only [Frm] at f
    simp only [mdb_0, mdb_n, mdb_s, and_true] at f
    exact f a b (by omega)) (fun I q hq a b y => by
    have f := x262_fr _ _ Frm.refl _ hq
    dsimp only [Frm] at f
    simp only [mdb_0, mdb_n, mdb_s, and_true] at f
    exact f a b (by omega)) hC
  exact ⟨v, A, R, B, R, x118_ok e1, x262_ok e2, P, Q, Z, W, hPQ, hZW, r1, r2, r3, r4, e3⟩

theorem two_policy (h : Inv N I R) (a b : Int32) : Two E 119 263 [.int a, .int b] N I R := by
  obtain ⟨P, Q, Z, W, hPQ, hZW, r1, r2, r3, r4, hC⟩ := h
  have hP : P = 3 ∨ P = 18 := by omega
  have hZ : Z = 85 ∨ Z = 126 := by omega

  obtain ⟨v, A, B, e1, e2, e3⟩ := one_l (P' := fun _ : Int32 => P) (Z' := fun _ => Z) (N' := N) (xc := fun I => x119 I a b) (xm := fun I => x263 I a b) hP hZ (fun _ => hP) (fun _ => hZ) (fun A B h => policy_c hP hZ a b h) (fun I q hq a b y => by
    have f := x119_fr _ _ Frm.refl _ hq
    dsimp only [Frm] at f
    simp only [mdb_0, mdb_n, mdb_s, and_true] at f
    exact f a b (by omega)) (fun I q hq a b y => by
    have f := x263_fr _ _ Frm.refl _ hq
    dsimp only [Frm] at f
    simp only [mdb_0, mdb_n, mdb_s, and_true] at f
    exact f a b (by omega)) hC
  exact ⟨v, A, R, B, R, x119_ok e1, x263_ok e2, P, Q, Z, W, hPQ, hZW, r1, r2, r3, r4, e3⟩

theorem two_input (h : Inv N I R) (a b : Int32) : Two E 120 264 [.int a, .int b] N I R := by
  obtain ⟨P, Q, Z, W, hPQ, hZW, r1, r2, r3, r4, hC⟩ := h
  have hP : P = 3 ∨ P = 18 := by omega
  have hZ : Z = 85 ∨ Z = 126 := by omega

  obtain ⟨v, A, B, e1, e2, e3⟩ := one_l (P' := fun _ : Int32 => P) (Z' := fun _ => Z) (N' := N) (xc := fun I => x120 I a b) (xm := fun I => x264 I a b) hP hZ (fun _ => hP) (fun _ => hZ) (fun A B h => input_c hP hZ a b h) (fun I q hq a b y => by
    have f := x120_fr _ _ Frm.refl _ hq
    dsimp only [Frm] at f
    simp only [mdb_0, mdb_n, mdb_s, and_true] at f
    exact f a b (by omega)) (fun I q hq a b y => by
    have f := x264_fr _ _ Frm.refl _ hq
    dsimp only [Frm] at f
    simp only [mdb_0, mdb_n, mdb_s, and_true] at f
    exact f a b (by omega)) hC
  exact ⟨v, A, R, B, R, x120_ok e1, x264_ok e2, P, Q, Z, W, hPQ, hZW, r1, r2, r3, r4, e3⟩

theorem two_argument (h : Inv N I R) (a b c : Int32) : Two E 121 265 [.int a, .int b, .int c] N I R := by
  obtain ⟨P, Q, Z, W, hPQ, hZW, r1, r2, r3, r4, hC⟩ := h
  have hP : P = 3 ∨ P = 18 := by omega
  have hZ : Z = 85 ∨ Z = 126 := by omega

  obtain ⟨v, A, B, e1, e2, e3⟩ := one_l (P' := fun _ : Int32 => P) (Z' := fun _ => Z) (N' := N) (xc := fun I => x121 I a b c) (xm := fun I => x265 I a b c) hP hZ (fun _ => hP) (fun _ => hZ) (fun A B h => argument_c hP hZ a b c h) (fun I q hq a b y => by
    have f := x121_fr _ _ Frm.refl _ hq
    dsimp only [Frm] at f
    simp only [mdb_0, mdb_n, mdb_s, and_true] at f
    exact f a b (by omega)) (fun I q hq a b y => by
    have f := x265_fr _ _ Frm.refl _ hq
    dsimp only [Frm] at f
    simp only [mdb_0, mdb_n, mdb_s, and_true] at f
    exact f a b (by omega)) hC
  exact ⟨v, A, R, B, R, x121_ok e1, x265_ok e2, P, Q, Z, W, hPQ, hZW, r1, r2, r3, r4, e3⟩

theorem two_run (h : Inv N I R) (a : Int32) : Two E 123 237 [.int a] N I R := by
  obtain ⟨P, Q, Z, W, hPQ, hZW, r1, r2, r3, r4, hC⟩ := h
  have hP : P = 3 ∨ P = 18 := by omega
  have hZ : Z = 85 ∨ Z = 126 := by omega
  obtain ⟨v, A, B, e1, e2, e3⟩ := one_l (P' := fun _ : Int32 => P) (Z' := fun _ => Z) (N' := N) (xc := fun I => x123 P I a) (xm := fun I => x237 Z I a) hP hZ (fun _ => hP) (fun _ => hZ) (fun A B h => run_c hP hZ a h) (fun I q hq c b y => by
    unfold x123 at hq
    split at hq
    · cases hq; rfl
    · have f := x125_fr hP _ _ Frm.refl _ hq
      dsimp only [Frm] at f
      simp only [mdb_0, mdb_n, mdb_s, and_true] at f
      exact f c b (by omega)) (fun I q hq c b y => by
    have f := x237_fr hZ _ _ Frm.refl _ hq
    dsimp only [Frm] at f
    simp only [mdb_0, mdb_n, mdb_s, and_true] at f
    exact f c b (by omega)) hC
  obtain ⟨R', g1, g2, g3, g4, g5⟩ := x123_ok (E := E) (R := R) hP r1 e1
  exact ⟨v, A, R', B, R', g1, x237_ok hZ (g4.trans r3) e2, P, Q, Z, W, hPQ, hZW, g2.trans r1, g3.trans r2, g4.trans r3, g5.trans r4, e3⟩
theorem two_text (h : Inv N I R) : Two E 24 191 [] N I R := by
  obtain ⟨P, Q, Z, W, hPQ, hZW, r1, r2, r3, r4, hC⟩ := h
  have hP : P = 3 ∨ P = 18 := by omega
  have hZ : Z = 85 ∨ Z = 126 := by omega
  have hQ : Q = 3 ∨ Q = 18 := by omega
  have hW : W = 85 ∨ W = 126 := by omega
  obtain ⟨⟨y, v⟩, A, B, e1, e2, e3⟩ := one_l (P' := fun r : Bool × Int32 => if r.1 = true then Q else P) (Z' := fun r => if r.1 = true then W else Z) (N' := N) (xc := fun I => T24 Q P I) (xm := fun I => T191 W I) hP hZ (fun r => by split <;> assumption) (fun r => by split <;> assumption) (fun A B h => text_c hPQ hZW h) (fun I q hq a b hab => by
    obtain ⟨⟨y, r⟩, A⟩ := q
    exact T24_fr hQ hP hq a b (Or.inl (by omega)) (fun _ => ⟨by omega, by omega⟩)) (fun I q hq a b hab => by
    obtain ⟨⟨y, r⟩, A⟩ := q
    exact T191_fr hW hq a b (Or.inl hab) (fun _ => ⟨by omega, by omega, by omega⟩)) hC
  obtain ⟨R1, g1, g2, g3, g4, g5⟩ := T24_ok (E := E) (R := R) hQ hP r1 r2 e1
  obtain ⟨R2, k1, k2, k3, k4, k5⟩ := T191_ok (E := E) (R := R1) hZ hW (g4.trans r3) (g5.trans r4) e2
  cases y with
  | true => exact ⟨v, A, R1, B, R2, g1, k1, Q, P, W, Z, by omega, by omega, k4.trans g2, k5.trans g3, k2, k3, e3⟩
  | false => exact ⟨v, A, R1, B, R2, g1, k1, P, Q, Z, W, hPQ, hZW, k4.trans g2, k5.trans g3, k2, k3, e3⟩
theorem two_place (h : Inv N I R) : Two E 117 261 [] N I R := by
  have h0 := h
  obtain ⟨P, Q, Z, W, hPQ, hZW, r1, r2, r3, r4, hC⟩ := h
  have hP : P = 3 ∨ P = 18 := by omega
  have hZ : Z = 85 ∨ Z = 126 := by omega
  refine ⟨I 0 10, I, R, I, R, c_place, ?_, h0⟩
  rw [hC.2.2.1]
  exact m_place

theorem two_result (h : Inv N I R) (a : Int32) : Two E 172 266 [.int a] N I R := by
  have h0 := h
  obtain ⟨P, Q, Z, W, hPQ, hZW, r1, r2, r3, r4, hC⟩ := h
  have hP : P = 3 ∨ P = 18 := by omega
  have hZ : Z = 85 ∨ Z = 126 := by omega
  obtain ⟨⟨T, t1, t2, t3⟩, h4, h5, n, k, s, E', F, G, p, hL, hT, hD, hR⟩ := hC

  refine ⟨x172 I a, I, R, I, R, x172_ok a, ?_, h0⟩
  rw [(res_l hR a)]
  exact x266_ok a

theorem two_event (h : Inv N I R) (a b : Int32) : Two E 174 267 [.int a, .int b] N I R := by
  have h0 := h
  obtain ⟨P, Q, Z, W, hPQ, hZW, r1, r2, r3, r4, hC⟩ := h
  have hP : P = 3 ∨ P = 18 := by omega
  have hZ : Z = 85 ∨ Z = 126 := by omega
  obtain ⟨⟨T, t1, t2, t3⟩, h4, h5, n, k, s, E', F, G, p, hL, hT, hD, hR⟩ := hC

  exact ⟨x174 I a b, I, R, I, R, x174_ok a b, x267_ok (ev_l hR a b), h0⟩

theorem two_object (h : Inv N I R) (a b : Int32) : Two E 175 268 [.int a, .int b] N I R := by
  have h0 := h
  obtain ⟨P, Q, Z, W, hPQ, hZW, r1, r2, r3, r4, hC⟩ := h
  have hP : P = 3 ∨ P = 18 := by omega
  have hZ : Z = 85 ∨ Z = 126 := by omega
  obtain ⟨⟨T, t1, t2, t3⟩, h4, h5, n, k, s, E', F, G, p, hL, hT, hD, hR⟩ := hC

  exact ⟨x175 I a b, I, R, I, R, x175_ok a b, x268_ok (obj_l hR a b), h0⟩

theorem two_slot (h : Inv N I R) (a b c : Int32) : Two E 176 269 [.int a, .int b, .int c] N I R := by
  have h0 := h
  obtain ⟨P, Q, Z, W, hPQ, hZW, r1, r2, r3, r4, hC⟩ := h
  have hP : P = 3 ∨ P = 18 := by omega
  have hZ : Z = 85 ∨ Z = 126 := by omega
  obtain ⟨⟨T, t1, t2, t3⟩, h4, h5, n, k, s, E', F, G, p, hL, hT, hD, hR⟩ := hC

  exact ⟨x176 I a b c, I, R, I, R, x176_ok a b c, x269_ok hZ r3 (slo_l hP hL.1 hR a b c), h0⟩

theorem two_stat (h : Inv N I R) (a b : Int32) : Two E 178 272 [.int a, .int b] N I R := by
  have h0 := h
  obtain ⟨P, Q, Z, W, hPQ, hZW, r1, r2, r3, r4, hC⟩ := h
  have hP : P = 3 ∨ P = 18 := by omega
  have hZ : Z = 85 ∨ Z = 126 := by omega
  obtain ⟨⟨T, t1, t2, t3⟩, h4, h5, n, k, s, E', F, G, p, hL, hT, hD, hR⟩ := hC

  exact ⟨x178 P I a b, I, R, I, R, x178_ok hP r1 a b, x272_ok hZ r3 (sta_l hP hL.1 hR a b), h0⟩

theorem two_type (h : Inv N I R) (a b : Int32) : Two E 179 273 [.int a, .int b] N I R := by
  have h0 := h
  obtain ⟨P, Q, Z, W, hPQ, hZW, r1, r2, r3, r4, hC⟩ := h
  have hP : P = 3 ∨ P = 18 := by omega
  have hZ : Z = 85 ∨ Z = 126 := by omega
  obtain ⟨⟨T, t1, t2, t3⟩, h4, h5, n, k, s, E', F, G, p, hL, hT, hD, hR⟩ := hC

  exact ⟨x179 P I a b, I, R, I, R, x179_ok hP r1 a b, x273_ok hZ r3 (typ_l hP hL a b), h0⟩

theorem two_method (h : Inv N I R) (a b : Int32) : Two E 180 274 [.int a, .int b] N I R := by
  have h0 := h
  obtain ⟨P, Q, Z, W, hPQ, hZW, r1, r2, r3, r4, hC⟩ := h
  have hP : P = 3 ∨ P = 18 := by omega
  have hZ : Z = 85 ∨ Z = 126 := by omega
  obtain ⟨⟨T, t1, t2, t3⟩, h4, h5, n, k, s, E', F, G, p, hL, hT, hD, hR⟩ := hC

  exact ⟨x180 P I a b, I, R, I, R, x180_ok hP r1 a b, x274_ok hZ r3 (met_l hP hL hD a b), h0⟩

theorem two_count (h : Inv N I R) (a : Int32) : Two E 181 275 [.int a] N I R := by
  have h0 := h
  obtain ⟨P, Q, Z, W, hPQ, hZW, r1, r2, r3, r4, hC⟩ := h
  have hP : P = 3 ∨ P = 18 := by omega
  have hZ : Z = 85 ∨ Z = 126 := by omega
  obtain ⟨⟨T, t1, t2, t3⟩, h4, h5, n, k, s, E', F, G, p, hL, hT, hD, hR⟩ := hC

  refine ⟨x181 P I a, I, R, I, R, x181_ok hP r1 a, ?_, h0⟩
  rw [← (cnt_l hL h4.1 (t2.1.trans t3.1.symm) a)]
  exact x275_ok hZ r3 a

end
