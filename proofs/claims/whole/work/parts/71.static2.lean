/-! readStatic in lockstep: something is wrong -/
/-- where a name that must stand at p is wrong -/
def nmw (T : Tp) (p : Nat) : Option Nat := if rkd T p = 1 then (if te T p ≤ p + 12 then none else some (p + 12)) else some p
theorem nmw_none {T : Tp} {p : Nat} (h : nmw T p = none) : rkd T p = 1 ∧ te T p ≤ p + 12 := by
  unfold nmw at h
  split at h
  · split at h
    · exact ⟨by assumption, by assumption⟩
    · cases h
  · cases h
theorem wr_sw {A J : St} {w : Nat} (hw : w < 2147483648) (h : A 56 5 = Int32.ofNat w) (hs : Sw A J) : J 56 5 = Int32.ofNat w := hs.trans h
theorem er_of {A : St} {w : Nat} (hw : w < 2147483648) (h : A 56 5 = Int32.ofNat w) : Er A := by
  unfold Er
  rw [h]
  exact i32_m1 hw
section
variable {T : Tp} {L M : List (List Nat)} {K p P Z n m c u k w : Nat} {A B : St}
theorem x59_w (h : PS T L K p A) (hw : nmw T p = some w) : x59 A = some (-1, wrC A w) := by
  unfold nmw at hw
  split at hw
  · rename_i z
    split at hw
    · cases hw
    · rename_i y
      cases hw
      exact x59_long h z y
  · rename_i z
    cases hw
    exact x59_no h z
theorem x201_w (h : RS T p B) (hw : nmw T p = some w) : x201 Z B = some (.inl (Wr B w)) := by
  unfold nmw at hw
  split at hw
  · rename_i z
    split at hw
    · cases hw
    · rename_i y
      cases hw
      exact x201_long h z y
  · rename_i z
    cases hw
    exact x201_no h z
theorem nmw_le (hp : p ≤ 1280) (hw : nmw T p = some w) : w ≤ 1292 := by
  unfold nmw at hw
  split at hw
  · split at hw
    · cases hw
    · cases hw; omega
  · cases hw; omega
theorem x66_w (hP : P = 3 ∨ P = 18) (hk : k = P + 3 ∨ k = P + 5 ∨ k = P + 7) (h : PS T L K p A) (h0 : cA T p ≠ 256) (hw : nmw T (nx T p) = some w) {x : Int32} : ∃ v J, x66 k P A x = some (v, J) ∧ J 56 5 = Int32.ofNat w := by
  obtain ⟨s1, s2, s3, s4, s5, s6, s7⟩ := sfP hP
  have sk : sf k 2 ≠ 56 := by rcases hk with rfl | rfl | rfl <;> omega
  have nk : k ≠ 56 := by omega
  have s46 : sf 46 2 ≠ 56 := by decide
  have e1 : x59 (up2 A 56 3 (A 56 3 + 1)) = some (-1, wrC (adv A) w) := x59_w (h.nx h0) hw
  have e2 : (wrC (adv A) w) 56 5 = Int32.ofNat w := up2_s _ _ _ _
  refine ⟨_, _, by unfold x66; rw [e1, Option.bind_some]; rfl, ?_⟩
  have hs : Sw (wrC (adv A) w) (wrC (adv A) w) := Sw.rf
  exact ((((((((hs.ta nk).ts sk).ts sk).ts sk).ta (by decide)).ts s46).ts s46).ts s46).trans e2
/-- where what stands behind the word static at p is wrong -/
def stw (T : Tp) (p : Nat) : Option Nat := match nmw T (nx T p) with
  | some w => some w
  | none => match kk T (nx T (nx T p)) false with
    | none => some (nx T (nx T p))
    | some _ => if cA T (nx T (nx T (nx T p))) = 59 then none else some (nx T (nx T (nx T p)))
theorem static_w (hP : P = 3 ∨ P = 18) (hZ : Z = 85 ∨ Z = 126) (hA : PS T L K p A) (hB : RS T p B) (hN : RN Z M u B) (hM : M.length < 2000) (hu : u + 1280 < 4100) (h0 : cA T p ≠ 256) (hw : stw T p = some w) (hb : CpB L M m A B) (hm : m < 136) (hs : CpS L M P Z n A B) (hn : n < 16) (hc : A (P + 1) 3 = Int32.ofNat (c + 1)) : ∃ A' B', x68 P A = some A' ∧ A' 56 5 = Int32.ofNat w ∧ x208 Z B (Int32.ofNat c) = some (.inl B') ∧ B' 84 0 = Int32.ofNat w := by
  obtain ⟨k1, k2, k3, k4, k5, k6, k7, k8⟩ := sfk hP (Or.inr (Or.inl rfl) : P + 5 = P + 3 ∨ P + 5 = P + 5 ∨ P + 5 = P + 7)
  have hs0 : sf (P + 5) 0 = 16 := by rcases hP with rfl | rfl <;> decide
  have hlt : Int32.ofNat n < 16 := by
    show Int32.ofNat n < Int32.ofNat 16
    rw [i32_lt (by omega) (by decide)]
    exact hn
  have h12 := hB.1.2.1
  have hp1 := nx_le (T := T) hB.2.2
  have hp2 := nx_le (T := T) hp1
  have hp3 := nx_le (T := T) hp2
  obtain ⟨B1, c1, c2, c3⟩ := x192_s hB
  unfold stw at hw
  split at hw
  · -- the name
    rename_i w' hnm
    cases hw
    have hwl := nmw_le (by omega) hnm
    obtain ⟨v, J, a1, a2⟩ := x66_w hP (Or.inr (Or.inl rfl) : P + 5 = P + 3 ∨ P + 5 = P + 5 ∨ P + 5 = P + 7) hA h0 hnm (x := 0)
    have hE : Er J := er_of (by omega) a2
    have hsw : Sw J (tset J (P + 5) v 3 0) := Sw.rf.ts (by omega)
    refine ⟨tset J (P + 5) v 3 0, Wr B1 w, ?_, wr_sw (by omega) a2 hsw, ?_, up2_s _ _ _ _⟩
    · unfold x68
      rw [hs.1, if_pos hlt, a1, Option.bind_some]
      dsimp only
      rw [x67_e hE, Option.bind_some]
      dsimp only
      rw [x62_e (hE.sw hsw), Option.bind_some]
    · unfold x208
      rw [c1, Option.bind_some, x201_w c2 hnm]
      rfl
  · rename_i hnm
    obtain ⟨h1, h2⟩ := nmw_none hnm
    obtain ⟨i, J, a1, a2, a3, a4, a5, a6, a7, a8, a9, a10, a11, a12, a13, a14, a15, a16⟩ := x66_y hP (Or.inr (Or.inl rfl)) hA h0 h1 h2 hs.1 (by rw [hs0]; exact hn) hb.1 hm hc 0
    have hN1 : RN Z M u B1 := by rcases hZ with rfl | rfl <;> exact hN.fr c3 rfl rfl rfl rfl rfl
    obtain ⟨r, M', u', B2, d1, d2, d3, d4, d5, d6, d7⟩ := x201_y hZ c2 hN1 hM hu h1 h2
    have d8 : Frm [(Z, some 4), (Z + 1, none), (Z + 2, none), (Z, some 3), (Z + 3, none), (82, some 11), (82, some 16), (82, some 13), (82, some 14), (82, some 12), (82, some 15), (84, some 0)] B1 B2 := x201_fr hZ B1 B1 Frm.refl _ d1
    have m82 : B2 82 20 = Int32.ofNat m := by
      rw [d8 _ _ (by rcases hZ with rfl | rfl <;> rfl), c3 _ _ rfl]
      exact hb.2.1
    have e1 := x206_n m82 (by omega) (Int32.ofNat c) (Int32.ofNat r) (B1 82 13)
    generalize hB3 : up2 (up2 (up2 (up2 B2 171 m (Int32.ofNat c)) 172 m (Int32.ofNat r)) 173 m (B1 82 13)) 82 20 (Int32.ofNat (m + 1)) = B3 at e1
    have z6 : B3 Z 6 = Int32.ofNat n := by
      rw [← hB3, up2_k _ _ _ _ _ _ (by omega), up2_k _ _ _ _ _ _ (by omega), up2_k _ _ _ _ _ _ (by omega), up2_k _ _ _ _ _ _ (by omega), d8 _ _ (by rcases hZ with rfl | rfl <;> rfl), c3 _ _ (by rcases hZ with rfl | rfl <;> rfl)]
      exact hs.2.1
    generalize hB4 : up2 (up2 B3 (Z + 12) n (Int32.ofNat c)) (Z + 13) n (Int32.ofNat r) = B4
    have f3 : Frm [(171, none), (172, none), (173, none), (82, some 20)] B2 B3 := by
      rw [← hB3]; exact Frm.u2 (Frm.u2 (Frm.u2 (Frm.u2 Frm.refl rfl) rfl) rfl) rfl
    have f4 : Frm [(Z + 12, none), (Z + 13, none)] B3 B4 := by
      rw [← hB4]; rcases hZ with rfl | rfl <;> exact Frm.u2 (Frm.u2 Frm.refl rfl) rfl
    have r4 : RS T (nx T (nx T p)) B4 := by
      rcases hZ with rfl | rfl <;> exact (d7.fr f3 rfl).fr f4 rfl
    have hin : inb (Int32.ofNat n) 16 := (i32_inb (by omega)).mpr hn
    have head : x208 Z B (Int32.ofNat c) = (x207 B4 0).bind (Sum.elim (fun J => some (.inl J)) (fun q4 => (x204 (up2 (up2 q4.2 (Z + 14) n q4.1) Z 6 ((up2 q4.2 (Z + 14) n q4.1) Z 6 + 1)) 59).bind (Sum.elim (fun J => some (.inl J)) (fun q6 => some (.inr q6))))) := by
      unfold x208
      rw [c1, Option.bind_some, d1, Option.bind_some]
      simp only [Sum.elim_inr]
      rw [e1, Option.bind_some, z6]
      simp only [if_pos hin, Lt]
      rw [i32_cl (by omega), hB4]
    split at hw
    · -- the kind
      rename_i hk
      cases hw
      have b1 := x67_no a5 (f := false) (x := 0) rfl hk
      have e5 : (wrC J (nx T (nx T p))) 56 5 = Int32.ofNat (nx T (nx T p)) := up2_s _ _ _ _
      have hE : Er (wrC J (nx T (nx T p))) := er_of (by omega) e5
      have hsw : Sw (wrC J (nx T (nx T p))) (tset (wrC J (nx T (nx T p))) (P + 5) (Int32.ofNat n) 3 0) := Sw.rf.ts (by omega)
      refine ⟨_, Wr B4 (nx T (nx T p)), ?_, wr_sw (by omega) e5 hsw, by rw [head, x207_no r4 (f := false) (x := 0) rfl hk]; rfl, up2_s _ _ _ _⟩
      unfold x68
      rw [hs.1, if_pos hlt, a1, Option.bind_some]
      dsimp only
      rw [b1, Option.bind_some]
      dsimp only
      rw [x62_e (hE.sw hsw), Option.bind_some]
    · -- the sign
      rename_i k' hk
      split at hw
      · cases hw
      · rename_i h3
        cases hw
        have b1 := x67_y a5 (f := false) (x := 0) rfl hk
        have hkd : cA T (nx T (nx T p)) ≠ 256 := fun z => by
          have e : rkd T (nx T (nx T p)) = 4 := (rkd_4 a5.le).mpr z
          have e2 : owd T (nx T (nx T p)) = none := by unfold owd; rw [if_neg (by rw [e]; decide)]
          unfold kk at hk
          rw [e2] at hk
          simp at hk
        have a5' : PS T L K (nx T (nx T (nx T p))) (adv J) := a5.nx hkd
        have fr1 : Frm [(P + 6, none)] (adv J) (tset (adv J) (P + 5) (Int32.ofNat n) 3 (Int32.ofNat k')) := Frm.ts Frm.refl (fun j => by rw [k1]; simp [mdb])
        have a5'' : PS T L K (nx T (nx T (nx T p))) (tset (adv J) (P + 5) (Int32.ofNat n) 3 (Int32.ofNat k')) := by
          rcases hP with rfl | rfl <;> exact a5'.fr fr1 rfl rfl rfl rfl
        have b2 := x62_no a5'' (s := 59) (x := 59) rfl (by decide) (by decide) h3
        obtain ⟨g1, B5, g2, g3, g4⟩ := x207_y r4 (f := false) (x := 0) rfl hk
        have f6 : Frm [(Z + 14, none), (Z, some 6)] B5 (up2 (up2 B5 (Z + 14) n (Int32.ofNat k')) Z 6 ((up2 B5 (Z + 14) n (Int32.ofNat k')) Z 6 + 1)) := by
          rcases hZ with rfl | rfl <;> exact Frm.u2 (Frm.u2 Frm.refl rfl) rfl
        have r6 : RS T (nx T (nx T (nx T p))) (up2 (up2 B5 (Z + 14) n (Int32.ofNat k')) Z 6 ((up2 B5 (Z + 14) n (Int32.ofNat k')) Z 6 + 1)) := by
          rcases hZ with rfl | rfl <;> exact g3.fr f6 rfl
        refine ⟨wrC (tset (adv J) (P + 5) (Int32.ofNat n) 3 (Int32.ofNat k')) (nx T (nx T (nx T p))), Wr (up2 (up2 B5 (Z + 14) n (Int32.ofNat k')) Z 6 ((up2 B5 (Z + 14) n (Int32.ofNat k')) Z 6 + 1)) (nx T (nx T (nx T p))), ?_, up2_s _ _ _ _, by rw [head, g2, Option.bind_some]; simp only [Sum.elim_inr]; rw [x204_no r6 (s := 59) (x := 59) rfl (by decide) (by decide) h3]; rfl, up2_s _ _ _ _⟩
        unfold x68
        rw [hs.1, if_pos hlt, a1, Option.bind_some]
        dsimp only
        rw [b1, Option.bind_some]
        dsimp only
        rw [b2, Option.bind_some]
end
