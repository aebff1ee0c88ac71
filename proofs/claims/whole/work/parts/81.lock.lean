/-! THE PARSER IN LOCKSTEP, the small ones: both right, or both wrong at one place -/
def Mo (M M' : List (List Nat)) : Prop := ∀ (i : Nat) (s : List Nat), M[i]? = some s → M'[i]? = some s
theorem Mo.rf {M : List (List Nat)} : Mo M M := fun _ _ h => h
theorem Mo.tr {M M' M'' : List (List Nat)} (h : Mo M M') (h' : Mo M' M'') : Mo M M'' := fun i s z => h' i s (h i s z)
/-- what the reference's small readers leave -/
def Kp (Z : Nat) (B B' : St) : Prop := ∀ a b, (a ≠ Z ∨ (b ≠ 3 ∧ b ≠ 4)) → (a < Z + 1 ∨ Z + 3 < a) → (a ≠ 82 ∨ b < 11 ∨ 16 < b) → a ≠ 84 → B' a b = B a b
theorem Kp.rf {Z : Nat} {B : St} : Kp Z B B := fun _ _ _ _ _ _ => rfl
theorem Kp.tr {Z : Nat} {B B' B'' : St} (h : Kp Z B B') (h' : Kp Z B' B'') : Kp Z B B'' := fun a b h1 h2 h3 h4 => (h' a b h1 h2 h3 h4).trans (h a b h1 h2 h3 h4)
def nmA (A : St) (p : Nat) : St := up2 (up2 A 56 6 (Int32.ofNat p)) 56 3 (A 56 3 + 1)
theorem adv_r {A : St} {a b : Nat} (h : a ≠ 56 ∨ b ≠ 3) : adv A a b = A a b := up2_o h
theorem nmA_r {A : St} {p a b : Nat} (h : a ≠ 56 ∨ (b ≠ 3 ∧ b ≠ 6)) : nmA A p a b = A a b := by
  unfold nmA
  rw [up2_o (by omega), up2_o (by omega)]
theorem nmA_6 {A : St} {p : Nat} : nmA A p 56 6 = Int32.ofNat p := by
  unfold nmA
  rw [up2_j _ _ _ _ _ (by decide), up2_s]
theorem PS.of {T : Tp} {L : List (List Nat)} {K p : Nat} {A A' : St} (h : PS T L K p A) (hA : ∀ a b, (a = 34 ∨ a = 35 ∨ (a = 56 ∧ (b = 3 ∨ b = 5))) → A' a b = A a b) : PS T L K p A' := by
  obtain ⟨s1, s2, s3⟩ := sf34
  obtain ⟨h1, h2, h3, h4, h5, h6, h7, r, h8, h9, h10⟩ := h
  have t34 : ∀ a b, tget A' 34 a b = tget A 34 a b := fun a b => by
    unfold tget
    rw [s3, hA 35 _ (by omega)]
  refine ⟨⟨by rw [hA _ _ (by omega)]; exact h1.1, fun i hi => ?_⟩, h2, h3, h4, h5, h6, by rw [hA _ _ (by omega)]; exact h7, r, h8, by rw [hA _ _ (by omega)]; exact h9, h10⟩
  rw [t34, t34, t34]
  exact h1.2 i hi
theorem RS.of {T : Tp} {p : Nat} {B B' : St} (h : RS T p B) (hB : ∀ a b, (a = 83 ∨ (a = 82 ∧ (b = 1 ∨ (11 ≤ b ∧ b ≤ 16)))) → B' a b = B a b) : RS T p B' := by
  obtain ⟨⟨h1, h2, h3⟩, ⟨g1, g2, g3, g4, g5, g6⟩, h5⟩ := h
  refine ⟨⟨by rw [hB _ _ (by omega)]; exact h1, h2, fun i hi => by rw [hB _ _ (by omega)]; exact h3 i hi⟩, ⟨by rw [hB _ _ (by omega)]; exact g1, by rw [hB _ _ (by omega)]; exact g2, by rw [hB _ _ (by omega)]; exact g3, by rw [hB _ _ (by omega)]; exact g4, by rw [hB _ _ (by omega)]; exact g5, fun z => by rw [hB _ _ (by omega)]; exact g6 z⟩, h5⟩
theorem RN.of {Z u : Nat} {M : List (List Nat)} {B B' : St} (h : RN Z M u B) (hB : ∀ a b, ((a = Z ∧ (b = 3 ∨ b = 4)) ∨ (Z + 1 ≤ a ∧ a ≤ Z + 3)) → B' a b = B a b) : RN Z M u B' := by
  obtain ⟨a1, a2, a3, a4, a5, a6⟩ := h
  refine ⟨by rw [hB _ _ (by omega)]; exact a1, by rw [hB _ _ (by omega)]; exact a2, a3, a4, a5, fun i s hi => ?_⟩
  obtain ⟨o, b1, b2, b3, b4⟩ := a6 i s hi
  refine ⟨o, by rw [hB _ _ (by omega)]; exact b1, b2, by rw [hB _ _ (by omega)]; exact b3, fun j hj => ?_⟩
  rw [hB _ _ (by omega)]
  exact b4 j hj
/-- both parsers stand at the token at p -/
def Pa (T : Tp) (L M : List (List Nat)) (K Z u p : Nat) (A B : St) : Prop := PS T L K p A ∧ RS T p B ∧ RN Z M u B ∧ M.length ≤ 7 + p ∧ u ≤ 57 + p
section
variable {T : Tp} {L M : List (List Nat)} {K Z u p : Nat} {A B A' B' : St}
theorem Pa.of (h : Pa T L M K Z u p A B) (hA : ∀ a b, (a = 34 ∨ a = 35 ∨ (a = 56 ∧ (b = 3 ∨ b = 5))) → A' a b = A a b) (hB : ∀ a b, ((a = 83 ∨ (a = 82 ∧ (b = 1 ∨ (11 ≤ b ∧ b ≤ 16)))) ∨ ((a = Z ∧ (b = 3 ∨ b = 4)) ∨ (Z + 1 ≤ a ∧ a ≤ Z + 3))) → B' a b = B a b) : Pa T L M K Z u p A' B' :=
  ⟨h.1.of hA, h.2.1.of (fun a b z => hB a b (Or.inl z)), h.2.2.1.of (fun a b z => hB a b (Or.inr z)), h.2.2.2⟩
theorem Pa.le (h : Pa T L M K Z u p A B) : p ≤ 1280 := by
  have h1 := h.2.1.2.2
  have h2 := h.2.1.1.2.1
  omega
theorem Pa.at (h : Pa T L M K Z u p A B) : B 82 13 = Int32.ofNat p := h.2.1.2.1.2.2.1
theorem f82 (h : Frm L82 B B') : ∀ a b, (a ≠ 82 ∨ b < 11 ∨ 16 < b) → B' a b = B a b := fun a b h3 => h a b (by
  cases z : mdb L82 a b with
  | false => rfl
  | true =>
    obtain ⟨e, he, e1, e2⟩ := mdb_of z
    simp only [L82, List.mem_cons, List.not_mem_nil, or_false] at he
    exfalso
    rcases he with rfl | rfl | rfl | rfl | rfl | rfl
    all_goals
      simp only [reduceCtorEq, false_or, Option.some.injEq] at e1 e2
      omega)
theorem kp82 (h : Frm L82 B B') : Kp Z B B' := fun a b _ _ h3 _ => f82 h a b h3
theorem kp201 (h : Frm [(Z, some 4), ((Z + 1), none), ((Z + 2), none), (Z, some 3), ((Z + 3), none), (82, some 11), (82, some 16), (82, some 13), (82, some 14), (82, some 12), (82, some 15), (84, some 0)] B B') : Kp Z B B' := fun a b h1 h2 h3 h4 => h a b (by
  cases z : mdb [(Z, some 4), ((Z + 1), none), ((Z + 2), none), (Z, some 3), ((Z + 3), none), (82, some 11), (82, some 16), (82, some 13), (82, some 14), (82, some 12), (82, some 15), (84, some 0)] a b with
  | false => rfl
  | true =>
    obtain ⟨e, he, e1, e2⟩ := mdb_of z
    simp only [List.mem_cons, List.not_mem_nil, or_false] at he
    exfalso
    rcases he with rfl | rfl | rfl | rfl | rfl | rfl | rfl | rfl | rfl | rfl | rfl | rfl
    all_goals
      simp only [reduceCtorEq, false_or, Option.some.injEq] at e1 e2
      omega)
theorem nx_gt (h : RS T p B) (h0 : cA T p ≠ 256) : te T p ≤ nx T p ∧ p < te T p := by
  have hp : p < T.1 := by
    rcases Nat.lt_or_ge p T.1 with z | z
    · exact z
    · exact absurd (cA_end z) h0
  exact ⟨sk_ge _, te_gt hp (h.1.2.2 p hp).2⟩
theorem pa_82 (hZ : Z = 85 ∨ Z = 126) (h : Pa T L M K Z u p A B) (h0 : cA T p ≠ 256) (h1 : RS T (nx T p) B') (h2 : Frm L82 B B') : Pa T L M K Z u (nx T p) (adv A) B' := by
  obtain ⟨a1, a2, a3, a4, a5⟩ := h
  obtain ⟨g1, g2⟩ := nx_gt a2 h0
  exact ⟨a1.nx h0, h1, a3.of (fun a b z => f82 h2 a b (by omega)), by omega, by omega⟩
theorem next_l (hZ : Z = 85 ∨ Z = 126) (h : Pa T L M K Z u p A B) (h0 : cA T p ≠ 256) : ∃ B', x192 B = some B' ∧ Pa T L M K Z u (nx T p) (adv A) B' ∧ Kp Z B B' ∧ p < nx T p := by
  obtain ⟨J, e1, e2, e3⟩ := x192_s h.2.1
  exact ⟨J, e1, pa_82 hZ h h0 e2 e3, kp82 e3, by have := nx_gt h.2.1 h0; omega⟩
theorem sign_l (hZ : Z = 85 ∨ Z = 126) (h : Pa T L M K Z u p A B) {s : Nat} {x : Int32} (hx : x = Int32.ofNat s) (hs : s < 256) (hS : cS s = true) : (∃ B', x62 A x = some (adv A) ∧ x204 B x = some (.inr B') ∧ Pa T L M K Z u (nx T p) (adv A) B' ∧ Kp Z B B' ∧ p < nx T p) ∨ (∃ w, w < 2000 ∧ x62 A x = some (wrC A w) ∧ x204 B x = some (.inl (Wr B w))) := by
  have hl := h.le
  by_cases z : cA T p = s
  · left
    obtain ⟨J, e1, e2, e3⟩ := x204_y h.2.1 hx hs hS z
    exact ⟨J, x62_y h.1 hx hs hS z, e1, pa_82 hZ h (by omega) e2 e3, kp82 e3, by have := nx_gt h.2.1 (by omega : cA T p ≠ 256); omega⟩
  · right
    exact ⟨p, by omega, x62_no h.1 hx hs hS z, x204_no h.2.1 hx hs hS z⟩
theorem kk_ne {f : Bool} {k : Nat} (h : RS T p B) (hk : kk T p f = some k) : cA T p ≠ 256 := fun z => by
  have hc : cA T p ≤ 256 := by omega
  have e : rkd T p = 4 := (rkd_4 hc).mpr z
  have e2 : owd T p = none := by unfold owd; rw [if_neg (by rw [e]; decide)]
  unfold kk at hk
  rw [e2] at hk
  simp at hk
theorem owd_ne {n : Nat} (hk : owd T p = some n) : cA T p ≠ 256 := fun z => by
  have hc : cA T p ≤ 256 := by omega
  have e : rkd T p = 4 := (rkd_4 hc).mpr z
  have e2 : owd T p = none := by unfold owd; rw [if_neg (by rw [e]; decide)]
  rw [e2] at hk
  cases hk
theorem kk_2 {f : Bool} {k : Nat} (hk : kk T p f = some k) : k ≤ 2 ∧ (f = false → 1 ≤ k) := by
  unfold kk at hk
  split at hk
  · cases hk; omega
  · split at hk
    · cases hk; omega
    · split at hk
      · rename_i y
        cases hk
        exact ⟨by omega, fun z => by rw [z] at y; exact absurd y.1 (by decide)⟩
      · cases hk
theorem kind_l (hZ : Z = 85 ∨ Z = 126) (h : Pa T L M K Z u p A B) (f : Bool) {x : Int32} (hx : x = if f = true then 1 else 0) : (∃ k B', x67 A x = some (Int32.ofNat k, adv A) ∧ x207 B x = some (.inr (Int32.ofNat k, B')) ∧ Pa T L M K Z u (nx T p) (adv A) B' ∧ Kp Z B B' ∧ k ≤ 2 ∧ (f = false → 1 ≤ k) ∧ p < nx T p) ∨ (∃ w, w < 2000 ∧ x67 A x = some (0, wrC A w) ∧ x207 B x = some (.inl (Wr B w))) := by
  have hl := h.le
  cases z : kk T p f with
  | some k =>
    left
    obtain ⟨g, J, e1, e2, e3⟩ := x207_y h.2.1 hx z
    obtain ⟨k1, k2⟩ := kk_2 z
    exact ⟨k, J, x67_y h.1 hx z, e1, pa_82 hZ h (kk_ne h.2.1 z) e2 e3, kp82 e3, k1, k2, by have := nx_gt h.2.1 (kk_ne h.2.1 z); omega⟩
  | none =>
    right
    exact ⟨p, by omega, x67_no h.1 hx z, x207_no h.2.1 hx z⟩
theorem number_l (hZ : Z = 85 ∨ Z = 126) (h : Pa T L M K Z u p A B) {m : Nat} {x : Int32} (hx : x = Int32.ofNat m) (hm : m < 2147483648) : (∃ k B', x78 A x = some (Int32.ofNat k, adv A) ∧ x214 B x = some (.inr (Int32.ofNat k, B')) ∧ Pa T L M K Z u (nx T p) (adv A) B' ∧ Kp Z B B' ∧ k ≤ m) ∨ (∃ w, w < 2000 ∧ x78 A x = some (0, wrC A w) ∧ x214 B x = some (.inl (Wr B w))) := by
  have hl := h.le
  by_cases z : cD (cA T p) = true ∧ nv (str T p) ≤ m
  · left
    obtain ⟨J, e1, e2, e3⟩ := x214_y h.2.1 hx hm z.1 z.2
    exact ⟨_, J, x78_y h.1 hx hm z.1 z.2, e1, pa_82 hZ h (cD_ne z.1) e2 e3, kp82 e3, z.2⟩
  · right
    exact ⟨p, by omega, x78_no h.1 hx hm z, x214_no h.2.1 hx hm z⟩
theorem name_l (hZ : Z = 85 ∨ Z = 126) (h : Pa T L M K Z u p A B) : (∃ i r s M' u' B', x59 A = some (Int32.ofNat i, nmA A p) ∧ x201 Z B = some (.inr (Int32.ofNat r, B')) ∧ Pa T L M' K Z u' (nx T p) (nmA A p) B' ∧ Kp Z B B' ∧ Mo M M' ∧ L[i]? = some s ∧ M'[r]? = some s ∧ 68 ≤ i ∧ i < 1460 ∧ p < nx T p) ∨ (∃ w, w < 2000 ∧ x59 A = some (-1, wrC A w) ∧ x201 Z B = some (.inl (Wr B w))) := by
  have hl := h.le
  cases z : nmw T p with
  | none =>
    left
    obtain ⟨h1, h2⟩ := nmw_none z
    obtain ⟨i, a1, a2, a3, a4⟩ := x59_y h.1 h1 h2
    obtain ⟨b1, b2, b3, b4, b5⟩ := h
    obtain ⟨r, M', u', J, d1, d2, d3, d4, d5, d6, d7⟩ := x201_y hZ b2 b3 (by omega) (by omega) h1 h2
    have h0 : cA T p ≠ 256 := fun y => by
      have := ((rkd_1 b1.le).mp h1).1
      rw [y] at this
      cases this
    obtain ⟨g1, g2⟩ := nx_gt b2 h0
    have d8 := x201_fr hZ B B Frm.refl _ d1
    refine ⟨i, r, str T p, M', u', J, a1, d1, ⟨?_, d7, d2, by omega, by omega⟩, kp201 d8, d4, a2, d3, a3, a4, by omega⟩
    exact (b1.nx h0).of (fun a b y => by
      unfold nmA
      rcases y with y | y | ⟨y, y2 | y2⟩ <;> subst y
      · rw [up2_k _ _ _ _ _ _ (by decide), up2_k _ _ _ _ _ _ (by decide), up2_k _ _ _ _ _ _ (by decide)]
      · rw [up2_k _ _ _ _ _ _ (by decide), up2_k _ _ _ _ _ _ (by decide), up2_k _ _ _ _ _ _ (by decide)]
      · rw [y2, up2_s, up2_s]
      · rw [y2, up2_j _ _ _ _ _ (by decide), up2_j _ _ _ _ _ (by decide), up2_j _ _ _ _ _ (by decide)])
  | some w =>
    right
    have := nmw_le hl z
    exact ⟨w, by omega, x59_w h.1 z, x201_w h.2.1 z⟩
theorem nx_ge' (h : p ≤ te T p) : p ≤ nx T p := Nat.le_trans h (sk_ge _)
theorem sg1_le {m q : Nat} {push : Bool} {v : Int32} (h : RS T p B) (z : sg1 T p m push = .inr (v, q)) : p ≤ q := by
  have h1 : p ≤ nx T p := nx_ge' h.ge
  obtain ⟨J, e1, e2, e3⟩ := x192_s h
  have h2 : nx T p ≤ nx T (nx T p) := nx_ge' e2.ge
  unfold sg1 at z
  split at z
  · split at z
    · cases z; omega
    · split at z
      · cases z; omega
      · cases z
  · split at z
    · cases z; omega
    · cases z
theorem signed_l (hZ : Z = 85 ∨ Z = 126) (h : Pa T L M K Z u p A B) {m : Nat} {x y : Int32} {push : Bool} (hx : x = Int32.ofNat m) (hm : m < 2147483648) (hp : push = true ↔ m = 2147483647) (hy : y = if push = true then -1 else Int32.ofNat m) : (∃ v q A' B', x77 A x = some (v, A') ∧ x213 B y = some (.inr (v, B')) ∧ Pa T L M K Z u q A' B' ∧ Kp Z B B' ∧ (∀ a b, (a ≠ 56 ∨ b ≠ 3) → A' a b = A a b) ∧ p ≤ q) ∨ (∃ w v A' B', w < 2000 ∧ x77 A x = some (v, A') ∧ x213 B y = some (.inl B') ∧ A' 56 5 = Int32.ofNat w ∧ B' 84 0 = Int32.ofNat w) := by
  have hl := h.le
  obtain ⟨c1, c2⟩ := x77_n h.1 hx hm hp
  obtain ⟨d1, d2⟩ := x213_n h.2.1 hm hy hp.mp
  cases z : sg1 T p m push with
  | inr vq =>
    left
    obtain ⟨v, q⟩ := vq
    obtain ⟨J, e1, e2, e3⟩ := c1 v q z
    obtain ⟨J', e4, e5, e6⟩ := d1 v q z
    refine ⟨v, q, J, J', e1, e4, ⟨e2, e5, h.2.2.1.of (fun a b y => f82 e6 a b (by omega)), ?_, ?_⟩, kp82 e6, fun a b y => e3 a b ?_, sg1_le h.2.1 z⟩
    · have := h.2.2.2.1
      have := sg1_le h.2.1 z
      omega
    · have := h.2.2.2.2
      have := sg1_le h.2.1 z
      omega
    · cases w : mdb [(56, some 3)] a b with
      | false => rfl
      | true =>
        obtain ⟨e, he, q1, q2⟩ := mdb_of w
        simp only [List.mem_cons, List.not_mem_nil, or_false] at he
        subst he
        simp only [reduceCtorEq, false_or, Option.some.injEq] at q1 q2
        omega
  | inl w =>
    right
    obtain ⟨v, J, e1, e2, e3⟩ := c2 w z
    obtain ⟨J', e4, e5, e6⟩ := d2 w z
    refine ⟨w, v, J, J', ?_, e1, e4, e2, e5⟩
    have hn : nx T p ≤ T.1 := nx_le h.2.1.2.2
    have := h.2.1.1.2.1
    unfold sg1 at z
    split at z
    · split at z
      · cases z
      · split at z
        · cases z
        · cases z; omega
    · split at z
      · cases z
      · cases z; omega
end
