/-! takeSigned, signed(): a number that may have a - ahead; push: also 2147483648 behind it -/
def sg1 (T : Tp) (p m : Nat) (push : Bool) : Nat ⊕ (Int32 × Nat) :=
  if cA T p = 45 then
    (if push = true ∧ cD (cA T (nx T p)) = true ∧ nv (str T (nx T p)) = 2147483648 then .inr (-2147483648, nx T (nx T p))
    else if cD (cA T (nx T p)) = true ∧ nv (str T (nx T p)) ≤ m then .inr (-Int32.ofNat (nv (str T (nx T p))), nx T (nx T p))
    else .inl (nx T p))
  else if cD (cA T p) = true ∧ nv (str T p) ≤ m then .inr (Int32.ofNat (nv (str T p)), nx T p)
  else .inl p
section
variable {T : Tp} {L : List (List Nat)} {K p : Nat} {A : St}
theorem adv_fr : Frm [(56, some 3)] A (adv A) := Frm.u2 Frm.refl rfl
theorem cD_ne {T : Tp} {p : Nat} (h : cD (cA T p) = true) : cA T p ≠ 256 := fun z => by rw [z] at h; cases h
theorem x77_n (h : PS T L K p A) {m : Nat} {x : Int32} (hx : x = Int32.ofNat m) (hm : m < 2147483648) {push : Bool} (hp : push = true ↔ m = 2147483647) : (∀ v q, sg1 T p m push = .inr (v, q) → ∃ J, x77 A x = some (v, J) ∧ PS T L K q J ∧ Frm [(56, some 3)] A J) ∧ (∀ w, sg1 T p m push = .inl w → ∃ v J, x77 A x = some (v, J) ∧ J 56 5 = Int32.ofNat w ∧ Frm [(56, some 3), (56, some 5)] A J) := by
  have n45 := x61_n h (s := 45) (x := 45) rfl (by decide) (by decide)
  by_cases c : cA T p = 45
  · rw [if_pos c] at n45
    have h1 : PS T L K (nx T p) (adv A) := h.nx (by rw [c]; decide)
    have e56 : x56 (up2 A 56 3 ((A 56 3) + 1)) = ckd T (nx T p) := x56_n h1
    by_cases c1 : push = true ∧ cD (cA T (nx T p)) = true ∧ nv (str T (nx T p)) = 2147483648
    · have hs : sg1 T p m push = .inr (-2147483648, nx T (nx T p)) := by
        unfold sg1
        rw [if_pos c, if_pos c1]
      have hv : x77 A x = some (-2147483648, adv (adv A)) := by
        unfold x77
        rw [n45, if_neg (show ¬ (1 : Int32) = 0 by decide), hx, if_pos (show Int32.ofNat m = 2147483647 by rw [hp.mp c1.1]; rfl), e56, if_pos ((ckd_5 h1.le).mpr c1.2)]
        unfold adv
        rw [up2_s]
      rw [hs, hv]
      refine ⟨fun v q hq => ?_, fun w hw => (by cases hw)⟩
      cases hq
      exact ⟨_, rfl, h1.nx (cD_ne c1.2.1), Frm.trans adv_fr adv_fr rfl⟩
    · have hv : x77 A x = (x78 (adv A) x).bind fun q3 => some ((-q3.1), q3.2) := by
        unfold x77
        rw [n45, if_neg (show ¬ (1 : Int32) = 0 by decide), e56]
        by_cases c2 : x = 2147483647
        · rw [if_pos c2, if_neg]
          · rfl
          · intro z
            refine c1 ⟨hp.mpr ?_, (ckd_5 h1.le).mp z⟩
            rw [hx] at c2
            exact (i32_e (x := 2147483647) (b := 2147483647) rfl (by omega) (by decide)).mp c2
        · rw [if_neg c2]
          rfl
      by_cases c3 : cD (cA T (nx T p)) = true ∧ nv (str T (nx T p)) ≤ m
      · have hs : sg1 T p m push = .inr (-Int32.ofNat (nv (str T (nx T p))), nx T (nx T p)) := by
          unfold sg1
          rw [if_pos c, if_neg c1, if_pos c3]
        rw [hs, hv, x78_y h1 hx hm c3.1 c3.2, Option.bind_some]
        refine ⟨fun v q hq => ?_, fun w hw => (by cases hw)⟩
        cases hq
        exact ⟨_, rfl, h1.nx (cD_ne c3.1), Frm.trans adv_fr adv_fr rfl⟩
      · have hs : sg1 T p m push = .inl (nx T p) := by
          unfold sg1
          rw [if_pos c, if_neg c1, if_neg c3]
        rw [hs, hv, x78_no h1 hx hm c3, Option.bind_some]
        refine ⟨fun v q hq => (by cases hq), fun w hw => ?_⟩
        cases hw
        exact ⟨_, wrC (adv A) (nx T p), rfl, up2_s _ _ _ _, Frm.u2 (Frm.u2 Frm.refl rfl) rfl⟩
  · rw [if_neg c] at n45
    have hv : x77 A x = x78 A x := by
      unfold x77
      rw [n45, if_pos (show (0 : Int32) = 0 from rfl)]
      cases x78 A x <;> rfl
    by_cases c3 : cD (cA T p) = true ∧ nv (str T p) ≤ m
    · have hs : sg1 T p m push = .inr (Int32.ofNat (nv (str T p)), nx T p) := by
        unfold sg1
        rw [if_neg c, if_pos c3]
      rw [hs, hv, x78_y h hx hm c3.1 c3.2]
      refine ⟨fun v q hq => ?_, fun w hw => (by cases hw)⟩
      cases hq
      exact ⟨_, rfl, h.nx (cD_ne c3.1), adv_fr⟩
    · have hs : sg1 T p m push = .inl p := by
        unfold sg1
        rw [if_neg c, if_neg c3]
      rw [hs, hv, x78_no h hx hm c3]
      refine ⟨fun v q hq => (by cases hq), fun w hw => ?_⟩
      cases hw
      exact ⟨_, _, rfl, up2_s _ _ _ _, Frm.u2 Frm.refl rfl⟩
end
section
variable {T : Tp} {p : Nat} {I : St}
abbrev L84 : List (Nat × Option Nat) := [(84, some 0), (82, some 11), (82, some 16), (82, some 13), (82, some 14), (82, some 12), (82, some 15)]
theorem x213_n (h : RS T p I) {m : Nat} {x : Int32} (hm : m < 2147483648) {push : Bool} (hx : x = if push = true then -1 else Int32.ofNat m) (hp : push = true → m = 2147483647) : (∀ v q, sg1 T p m push = .inr (v, q) → ∃ J, x213 I x = some (.inr (v, J)) ∧ RS T q J ∧ Frm L82 I J) ∧ (∀ w, sg1 T p m push = .inl w → ∃ J, x213 I x = some (.inl J) ∧ J 84 0 = Int32.ofNat w ∧ Frm L84 I J) := by
  have n45 := x203_n h (s := 45) (x := 45) rfl (by decide) (by decide)
  have h0 : ¬ push = true → 0 ≤ x := by
    intro z
    rw [hx, if_neg z]
    show Int32.ofNat 0 ≤ Int32.ofNat m
    rw [i32_le (by decide) hm]
    omega
  have hmost : (if 0 ≤ x then some x else some (2147483647 : Int32)) = some (Int32.ofNat m) := by
    by_cases z : push = true
    · rw [hx, if_pos z, if_neg (show ¬ (0 : Int32) ≤ -1 by decide), hp z]
      rfl
    · rw [if_pos (h0 z), hx, if_neg z]
  by_cases c : cA T p = 45
  · rw [if_pos c] at n45
    obtain ⟨J1, a1, a2, a3⟩ := x192_s h
    have hk : J1 82 12 = rkd T (nx T p) := a2.2.1.2.1
    by_cases c1 : push = true ∧ cD (cA T (nx T p)) = true ∧ nv (str T (nx T p)) = 2147483648
    · obtain ⟨J2, b1, b2, b3⟩ := x192_s a2
      have hs : sg1 T p m push = .inr (-2147483648, nx T (nx T p)) := by
        unfold sg1
        rw [if_pos c, if_pos c1]
      have er : J1 82 15 = -2147483648 := by
        rw [a2.2.1.2.2.2.2.2 c1.2.1]
        unfold rvl
        rw [if_pos c1.2.2]
      have hv : x213 I x = some (.inr (-2147483648, J2)) := by
        unfold x213
        rw [n45, Option.bind_some, if_neg (show ¬ (1 : Int32) = 0 by decide), a1, Option.bind_some, hk, if_pos ((rkd_2 (a2.1.le _)).mpr c1.2.1), er, if_pos rfl, if_neg (show ¬ 0 ≤ x by rw [hx, if_pos c1.1]; decide), b1, Option.bind_some]
      rw [hs, hv]
      refine ⟨fun v q hq => ?_, fun w hw => (by cases hw)⟩
      cases hq
      exact ⟨J2, rfl, b2, Frm.trans a3 b3 rfl⟩
    · have hv : x213 I x = (x214 J1 (Int32.ofNat m)).bind (Sum.elim (fun J => some (.inl J)) (fun q11 => some (.inr ((-q11.1), q11.2)))) := by
        unfold x213
        rw [n45, Option.bind_some, if_neg (show ¬ (1 : Int32) = 0 by decide), a1, Option.bind_some, hmost, hk]
        by_cases c4 : rkd T (nx T p) = 2
        · have c5 := (rkd_2 (a2.1.le _)).mp c4
          rw [if_pos c4, a2.2.1.2.2.2.2.2 c5]
          by_cases c6 : rvl T (nx T p) = -2147483648
          · have hv : nv (str T (nx T p)) = 2147483648 := by
              unfold rvl at c6
              split at c6
              · assumption
              · split at c6
                · rename_i z1 z2
                  have h9 := congrArg Int32.toInt c6
                  rw [i32_of (by omega)] at h9
                  have h8 : (-2147483648 : Int32).toInt = -2147483648 := by decide
                  rw [h8] at h9
                  omega
                · exact absurd c6 (by decide)
            rw [if_pos c6, if_pos (h0 (fun z => c1 ⟨z, c5, hv⟩)), Option.bind_some]
          · rw [if_neg c6, Option.bind_some]
        · rw [if_neg c4, Option.bind_some]
      by_cases c3 : cD (cA T (nx T p)) = true ∧ nv (str T (nx T p)) ≤ m
      · obtain ⟨J2, b1, b2, b3⟩ := x214_y a2 rfl hm c3.1 c3.2
        have hs : sg1 T p m push = .inr (-Int32.ofNat (nv (str T (nx T p))), nx T (nx T p)) := by
          unfold sg1
          rw [if_pos c, if_neg c1, if_pos c3]
        rw [hs, hv, b1]
        refine ⟨fun v q hq => ?_, fun w hw => (by cases hw)⟩
        cases hq
        exact ⟨J2, rfl, b2, Frm.trans a3 b3 rfl⟩
      · have hs : sg1 T p m push = .inl (nx T p) := by
          unfold sg1
          rw [if_pos c, if_neg c1, if_neg c3]
        rw [hs, hv, x214_no a2 rfl hm c3]
        refine ⟨fun v q hq => (by cases hq), fun w hw => ?_⟩
        cases hw
        exact ⟨_, rfl, up2_s _ _ _ _, Frm.u2 (Frm.wd a3 rfl) rfl⟩
  · rw [if_neg c] at n45
    have hv : x213 I x = x214 I (Int32.ofNat m) := by
      unfold x213
      rw [n45, Option.bind_some, if_pos (show (0 : Int32) = 0 from rfl), hmost, Option.bind_some]
      cases x214 I (Int32.ofNat m) with
      | none => rfl
      | some z => cases z <;> rfl
    by_cases c3 : cD (cA T p) = true ∧ nv (str T p) ≤ m
    · obtain ⟨J2, b1, b2, b3⟩ := x214_y h rfl hm c3.1 c3.2
      have hs : sg1 T p m push = .inr (Int32.ofNat (nv (str T p)), nx T p) := by
        unfold sg1
        rw [if_neg c, if_pos c3]
      rw [hs, hv, b1]
      refine ⟨fun v q hq => ?_, fun w hw => (by cases hw)⟩
      cases hq
      exact ⟨J2, rfl, b2, b3⟩
    · have hs : sg1 T p m push = .inl p := by
        unfold sg1
        rw [if_neg c, if_neg c3]
      rw [hs, hv, x214_no h rfl hm c3]
      refine ⟨fun v q hq => (by cases hq), fun w hw => ?_⟩
      cases hw
      exact ⟨_, rfl, up2_s _ _ _ _, Frm.u2 Frm.refl rfl⟩
end
