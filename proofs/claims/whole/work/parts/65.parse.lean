/-! THE CLASS'S PARSER, the small ones, where nothing is wrong yet -/
/-- the parser stands at the token at p; nothing is wrong -/
def PS (T : Tp) (L : List (List Nat)) (K p : Nat) (A : St) : Prop := Tks T L (K + 1) A ∧ pr T K = T.1 ∧ K ≤ 1280 ∧ Pfx L ∧ L.Nodup ∧ (∀ i, i < T.1 → T.2 i < 256) ∧ A 56 5 = -1 ∧ ∃ r, r ≤ K ∧ A 56 3 = Int32.ofNat r ∧ pr T r = p
section
variable {T : Tp} {L : List (List Nat)} {K p : Nat} {A : St}
theorem PS.le (h : PS T L K p A) : cA T p ≤ 256 := by
  unfold cA
  split
  · rename_i z
    have := h.2.2.2.2.2.1 p z
    omega
  · exact Nat.le_refl _
theorem PS.tk (h : PS T L K p A) : TkR T L p (tget A 34 (A 56 3) 0) (tget A 34 (A 56 3) 1) (tget A 34 (A 56 3) 2) := by
  obtain ⟨h1, h2, h3, h4, h5, h6, h7, r, h8, h9, h10⟩ := h
  rw [h9, ← h10]
  exact h1.2 r (by omega)
theorem PS.fr {J : St} {M : List (Nat × Option Nat)} (h : PS T L K p A) (hf : Frm M A J) (m1 : mdb M 34 3 = false) (m2 : (M.all fun e => !Nat.beq e.1 35) = true) (m3 : mdb M 56 3 = false) (m5 : mdb M 56 5 = false) : PS T L K p J := by
  obtain ⟨s1, s2, s3⟩ := sf34
  obtain ⟨h1, h2, h3, h4, h5, h6, h7, r, h8, h9, h10⟩ := h
  have t34 : ∀ a b, tget J 34 a b = tget A 34 a b := fun a b => tget_fr hf (by rw [s3]; exact no_cell m2)
  refine ⟨⟨by rw [hf _ _ m1]; exact h1.1, fun i hi => ?_⟩, h2, h3, h4, h5, h6, by rw [hf _ _ m5]; exact h7, r, h8, by rw [hf _ _ m3]; exact h9, h10⟩
  rw [t34, t34, t34]
  exact h1.2 i hi
theorem ckd_0 (hc : cA T p ≤ 256) : ckd T p = 0 ↔ cA T p = 256 := by
  unfold ckd
  constructor
  · intro h
    split at h
    · assumption
    · split at h
      · split at h
        · split at h <;> exact absurd h (by decide)
        · exact absurd h (by decide)
      · split at h
        · split at h
          · exact absurd h (by decide)
          · split at h <;> exact absurd h (by decide)
        · split at h <;> exact absurd h (by decide)
  · intro h; rw [if_pos h]
theorem ckd_6 (hc : cA T p ≤ 256) : ckd T p = 6 ↔ cS (cA T p) = true := by
  unfold ckd
  constructor
  · intro h
    split at h
    · exact absurd h (by decide)
    · split at h
      · split at h
        · split at h <;> exact absurd h (by decide)
        · exact absurd h (by decide)
      · split at h
        · split at h
          · exact absurd h (by decide)
          · split at h <;> exact absurd h (by decide)
        · split at h
          · assumption
          · exact absurd h (by decide)
  · intro h
    obtain ⟨a, b, c⟩ := cS_no _ (by omega) h
    rw [if_neg a, if_neg (by rw [b]; decide), if_neg (by rw [c]; decide), if_pos h]
theorem ckd_3 (hc : cA T p ≤ 256) : ckd T p = 3 ↔ rkd T p = 5 := by
  rw [rkd_5 hc]
  unfold ckd
  constructor
  · intro h
    split at h
    · exact absurd h (by decide)
    · split at h
      · split at h
        · split at h
          · exact ⟨by assumption, by assumption, by assumption⟩
          · exact absurd h (by decide)
        · exact absurd h (by decide)
      · split at h
        · split at h
          · exact absurd h (by decide)
          · split at h <;> exact absurd h (by decide)
        · split at h <;> exact absurd h (by decide)
  · rintro ⟨h, h2, h3⟩
    obtain ⟨a, b, c⟩ := cL_no _ (by omega) h
    rw [if_neg a, if_pos h, if_pos h2, if_pos h3]
theorem ckd_1 (hc : cA T p ≤ 256) : ckd T p = 1 ↔ rkd T p = 1 ∧ te T p ≤ p + 12 := by
  rw [rkd_1 hc]
  unfold ckd
  constructor
  · intro h
    split at h
    · exact absurd h (by decide)
    · split at h
      · split at h
        · split at h
          · exact absurd h (by decide)
          · rename_i z1 z2 z3 z4
            exact ⟨⟨z2, fun y => z4 y.2⟩, z3⟩
        · exact absurd h (by decide)
      · split at h
        · split at h
          · exact absurd h (by decide)
          · split at h <;> exact absurd h (by decide)
        · split at h <;> exact absurd h (by decide)
  · rintro ⟨⟨h, h2⟩, h3⟩
    obtain ⟨a, b, c⟩ := cL_no _ (by omega) h
    rw [if_neg a, if_pos h, if_pos h3, if_neg (fun y => h2 ⟨h3, y⟩)]
theorem ckd_2 (hc : cA T p ≤ 256) : ckd T p = 2 ↔ rkd T p = 1 ∧ ¬ te T p ≤ p + 12 := by
  rw [rkd_1 hc]
  unfold ckd
  constructor
  · intro h
    split at h
    · exact absurd h (by decide)
    · split at h
      · split at h
        · split at h <;> exact absurd h (by decide)
        · rename_i z1 z2 z3
          exact ⟨⟨z2, fun y => z3 y.1⟩, z3⟩
      · split at h
        · split at h
          · exact absurd h (by decide)
          · split at h <;> exact absurd h (by decide)
        · split at h <;> exact absurd h (by decide)
  · rintro ⟨⟨h, h2⟩, h3⟩
    obtain ⟨a, b, c⟩ := cL_no _ (by omega) h
    rw [if_neg a, if_pos h, if_neg h3]
theorem ckd_4 (hc : cA T p ≤ 256) : ckd T p = 4 ↔ cD (cA T p) = true ∧ nv (str T p) < 2147483648 := by
  unfold ckd
  constructor
  · intro h
    split at h
    · exact absurd h (by decide)
    · split at h
      · split at h
        · split at h <;> exact absurd h (by decide)
        · exact absurd h (by decide)
      · split at h
        · split at h
          · exact ⟨by assumption, by assumption⟩
          · split at h <;> exact absurd h (by decide)
        · split at h <;> exact absurd h (by decide)
  · rintro ⟨h, h2⟩
    obtain ⟨a, b, c⟩ := cD_no _ (by omega) h
    rw [if_neg a, if_neg (by rw [c]; decide), if_pos h, if_pos h2]
theorem ckd_5 (hc : cA T p ≤ 256) : ckd T p = 5 ↔ cD (cA T p) = true ∧ nv (str T p) = 2147483648 := by
  unfold ckd
  constructor
  · intro h
    split at h
    · exact absurd h (by decide)
    · split at h
      · split at h
        · split at h <;> exact absurd h (by decide)
        · exact absurd h (by decide)
      · split at h
        · split at h
          · exact absurd h (by decide)
          · split at h
            · exact ⟨by assumption, by assumption⟩
            · exact absurd h (by decide)
        · split at h <;> exact absurd h (by decide)
  · rintro ⟨h, h2⟩
    obtain ⟨a, b, c⟩ := cD_no _ (by omega) h
    rw [if_neg a, if_neg (by rw [c]; decide), if_pos h, if_neg (by omega), if_pos h2]
/-- the next token -/
theorem PS.nx (h : PS T L K p A) (h0 : cA T p ≠ 256) : PS T L K (nx T p) (up2 A 56 3 (A 56 3 + 1)) := by
  obtain ⟨s1, s2, s3⟩ := sf34
  obtain ⟨h1, h2, h3, h4, h5, h6, h7, r, h8, h9, h10⟩ := h
  have hr : r < K := by
    rcases Nat.lt_or_ge r K with z | z
    · exact z
    · have : r = K := by omega
      subst this
      rw [h2] at h10
      subst h10
      exact absurd (cA_end (Nat.le_refl _)) h0
  have t34 : ∀ a b, tget (up2 A 56 3 (A 56 3 + 1)) 34 a b = tget A 34 a b := fun a b => tget_up (by rw [s3]; decide)
  refine ⟨⟨by rw [up2_k _ _ _ _ _ _ (by decide)]; exact h1.1, fun i hi => ?_⟩, h2, h3, h4, h5, h6, by rw [up2_j _ _ _ _ _ (by decide)]; exact h7, r + 1, by omega, by rw [up2_s, h9, i32_s], by rw [pr, h10]⟩
  rw [t34, t34, t34]
  exact h1.2 i hi
theorem x61_n (h : PS T L K p A) {s : Nat} {x : Int32} (hx : x = Int32.ofNat s) (hs : s < 256) (hS : cS s = true) : x61 A x = if cA T p = s then 1 else 0 := by
  have hc := h.le
  obtain ⟨t1, t2, t3, t4, t5⟩ := h.tk
  unfold x61
  rw [if_pos h.2.2.2.2.2.2.1]
  by_cases z : cS (cA T p) = true
  · have e := (ckd_6 hc).mpr z
    rw [if_pos (t1.trans e), t5 (t1.trans e), hx]
    by_cases y : cA T p = s
    · rw [if_pos (by rw [y]), if_pos y]
    · rw [if_neg (by rw [i32_eq (by omega) (by omega)]; exact y), if_neg y]
  · rw [if_neg (fun w => z ((ckd_6 hc).mp (t1.symm.trans w))), if_neg (fun w => z (by rw [w]; exact hS))]
theorem wi_get {s : List Nat} : ∀ (l : List (List Nat)) (n i : Nat), wi l s n = some i → n ≤ i ∧ l[i - n]? = some s := by
  intro l
  induction l with
  | nil => intro n i h; cases h
  | cons x r ih =>
    intro n i h
    rw [wi] at h
    split at h
    · rename_i z
      cases h
      refine ⟨Nat.le_refl _, ?_⟩
      rw [Nat.sub_self, z]
      rfl
    · obtain ⟨h1, h2⟩ := ih (n + 1) i h
      refine ⟨by omega, ?_⟩
      have e : i - n = (i - (n + 1)) + 1 := by omega
      rw [e, List.getElem?_cons_succ]
      exact h2
theorem wlA_4 : ∀ i, i < 9 → wlA[59 + i]? = wl4[i]? := by decide +kernel
theorem wlA_3 : ∀ i, i < 59 → wlA[i]? = wl3[i]? := by decide +kernel
theorem get_inj {M : List (List Nat)} (hn : M.Nodup) {i j : Nat} {s : List Nat} (hi : M[i]? = some s) (hj : M[j]? = some s) : i = j := by
  obtain ⟨hi1, hi2⟩ := List.getElem?_eq_some_iff.mp hi
  obtain ⟨hj1, hj2⟩ := List.getElem?_eq_some_iff.mp hj
  exact nodup_inj hn hi1 hj1 (hi2.trans hj2.symm)
theorem wl4_nd : wl4.Nodup := by decide
theorem wl3_nd : wl3.Nodup := by decide +kernel
theorem wi4_iff (hP : Pfx L) (hn : L.Nodup) {i n : Nat} {s : List Nat} (hi : L[i]? = some s) (hn9 : n < 9) : wi wl4 s 0 = some n ↔ i = 59 + n := by
  constructor
  · intro h
    obtain ⟨-, h2⟩ := wi_get _ _ _ h
    rw [Nat.sub_zero, ← wlA_4 n hn9, ← hP (59 + n) (by omega)] at h2
    exact get_inj hn hi h2
  · rintro rfl
    rw [hP _ (by omega), wlA_4 n hn9] at hi
    have hm : s ∈ wl4 := List.mem_of_getElem? hi
    cases e : wi wl4 s 0 with
    | none =>
      have := (wi_mem wl4 0).mpr hm
      rw [e] at this
      cases this
    | some k =>
      obtain ⟨-, h2⟩ := wi_get _ _ _ e
      rw [Nat.sub_zero] at h2
      rw [get_inj wl4_nd h2 hi]
theorem wi3_iff (hP : Pfx L) (hn : L.Nodup) {i n : Nat} {s : List Nat} (hi : L[i]? = some s) (hn9 : n < 59) : wi wl3 s 0 = some n ↔ i = n := by
  constructor
  · intro h
    obtain ⟨-, h2⟩ := wi_get _ _ _ h
    rw [Nat.sub_zero, ← wlA_3 n hn9, ← hP n (by omega)] at h2
    exact get_inj hn hi h2
  · rintro rfl
    rw [hP _ (by omega), wlA_3 _ hn9] at hi
    have hm : s ∈ wl3 := List.mem_of_getElem? hi
    cases e : wi wl3 s 0 with
    | none =>
      have := (wi_mem wl3 0).mpr hm
      rw [e] at this
      cases this
    | some k =>
      obtain ⟨-, h2⟩ := wi_get _ _ _ e
      rw [Nat.sub_zero] at h2
      rw [get_inj wl3_nd h2 hi]
theorem x57_n (h : PS T L K p A) {n : Nat} {x : Int32} (hx : x = Int32.ofNat (59 + n)) (hn : n < 9) : x57 A x = if owd T p = some n then 1 else 0 := by
  have hc := h.le
  obtain ⟨t1, t2, t3, t4, t5⟩ := h.tk
  unfold x57 owd
  rw [if_pos h.2.2.2.2.2.2.1]
  by_cases z : rkd T p = 5
  · have e := (ckd_3 hc).mpr z
    obtain ⟨i, g1, g2, g3, g4⟩ := t3 (Or.inr (t1.trans e))
    have w := wi4_iff h.2.2.2.1 h.2.2.2.2.1 g3 hn
    rw [if_pos (t1.trans e), g1, hx, if_pos z]
    by_cases y : wi wl4 (str T p) 0 = some n
    · rw [if_pos (by rw [w.mp y]), if_pos y]
    · rw [if_neg (by rw [i32_eq (by omega) (by omega)]; exact fun q => y (w.mpr q)), if_neg y]
  · rw [if_neg (fun w => z ((ckd_3 hc).mp (t1.symm.trans w))), if_neg (by rw [if_neg z]; simp)]
end
