/-! THE REFERENCE'S READING, the small ones: is, isOther, must, kindOf, number -/
abbrev L82 : List (Nat × Option Nat) := [(82, some 11), (82, some 16), (82, some 13), (82, some 14), (82, some 12), (82, some 15)]
def rsok (L : List (Nat × Option Nat)) : Bool := !mdb L 82 1 && (!mdb L 82 11 && (!mdb L 82 12 && (!mdb L 82 13 && (!mdb L 82 14 && (!mdb L 82 15 && (!mdb L 82 16 && L.all fun e => !Nat.beq e.1 83))))))
theorem no_cell {L : List (Nat × Option Nat)} {k : Nat} (h : (L.all fun e => !Nat.beq e.1 k) = true) (j : Nat) : mdb L k j = false := by
  cases z : mdb L k j with
  | false => rfl
  | true =>
    obtain ⟨e, he, h1, -⟩ := mdb_of z
    rw [List.all_eq_true] at h
    have := h e he
    rw [h1, Nat.beq_refl] at this
    cases this
theorem TB.fr {T : Tp} {I J : St} {L : List (Nat × Option Nat)} (h : TB T I) (hf : Frm L I J) (h1 : mdb L 82 1 = false) (h2 : (L.all fun e => !Nat.beq e.1 83) = true) : TB T J := by
  refine ⟨by rw [hf _ _ h1]; exact h.1, h.2.1, fun i hi => ?_⟩
  rw [hf _ _ (no_cell h2 i)]
  exact h.2.2 i hi
/-- the reference's tape, its place at a token -/
def RS (T : Tp) (p : Nat) (I : St) : Prop := TB T I ∧ RT T p I ∧ p ≤ T.1
theorem RS.fr {T : Tp} {p : Nat} {I J : St} {L : List (Nat × Option Nat)} (h : RS T p I) (hf : Frm L I J) (hb : rsok L = true) : RS T p J := by
  unfold rsok at hb
  simp only [Bool.and_eq_true, Bool.not_eq_true'] at hb
  obtain ⟨b1, b11, b12, b13, b14, b15, b16, b83⟩ := hb
  obtain ⟨h1, ⟨r1, r2, r3, r4, r5, r6⟩, h3⟩ := h
  refine ⟨h1.fr hf b1 b83, ⟨?_, ?_, ?_, ?_, ?_, ?_⟩, h3⟩
  · rw [hf _ _ b11]; exact r1
  · rw [hf _ _ b12]; exact r2
  · rw [hf _ _ b13]; exact r3
  · rw [hf _ _ b14]; exact r4
  · rw [hf _ _ b16]; exact r5
  · intro z; rw [hf _ _ b15]; exact r6 z
theorem x192_s {T : Tp} {p : Nat} {I : St} (h : RS T p I) : ∃ J, x192 I = some J ∧ RS T (nx T p) J ∧ Frm L82 I J := by
  obtain ⟨h1, h2, h3⟩ := h
  obtain ⟨J, r1, r2⟩ := x192_n h1 h2.1 (te_le h3)
  have hf : Frm L82 I J := x192_fr I I Frm.refl J r1
  exact ⟨J, r1, ⟨h1.fr hf rfl rfl, r2, sk_le (te_le h3)⟩, hf⟩
theorem cS_no : ∀ c, c < 257 → cS c = true → c ≠ 256 ∧ cL c = false ∧ cD c = false := by decide +kernel
theorem cL_no : ∀ c, c < 257 → cL c = true → c ≠ 256 ∧ cS c = false ∧ cD c = false := by decide +kernel
theorem cD_no : ∀ c, c < 257 → cD c = true → c ≠ 256 ∧ cS c = false ∧ cL c = false := by decide +kernel
section
variable {T : Tp} {p : Nat} {I : St}
theorem rkd_3 (hc : cA T p ≤ 256) : rkd T p = 3 ↔ cS (cA T p) = true := by
  unfold rkd
  constructor
  · intro h
    split at h
    · exact absurd h (by decide)
    · split at h
      · split at h <;> exact absurd h (by decide)
      · split at h
        · exact absurd h (by decide)
        · split at h
          · assumption
          · exact absurd h (by decide)
  · intro h
    obtain ⟨a, b, c⟩ := cS_no _ (by omega) h
    rw [if_neg a, if_neg (by rw [b]; decide), if_neg (by rw [c]; decide), if_pos h]
theorem rkd_2 (hc : cA T p ≤ 256) : rkd T p = 2 ↔ cD (cA T p) = true := by
  unfold rkd
  constructor
  · intro h
    split at h
    · exact absurd h (by decide)
    · split at h
      · split at h <;> exact absurd h (by decide)
      · split at h
        · assumption
        · split at h <;> exact absurd h (by decide)
  · intro h
    obtain ⟨a, b, c⟩ := cD_no _ (by omega) h
    rw [if_neg a, if_neg (by rw [c]; decide), if_pos h]
theorem rkd_4 (hc : cA T p ≤ 256) : rkd T p = 4 ↔ cA T p = 256 := by
  unfold rkd
  constructor
  · intro h
    split at h
    · assumption
    · split at h
      · split at h <;> exact absurd h (by decide)
      · split at h
        · exact absurd h (by decide)
        · split at h <;> exact absurd h (by decide)
  · intro h
    rw [if_pos h]
theorem rkd_1 (hc : cA T p ≤ 256) : rkd T p = 1 ↔ cL (cA T p) = true ∧ ¬ (te T p ≤ p + 12 ∧ isW T p = true) := by
  unfold rkd
  constructor
  · intro h
    split at h
    · exact absurd h (by decide)
    · split at h
      · split at h
        · exact absurd h (by decide)
        · exact ⟨by assumption, by assumption⟩
      · split at h
        · exact absurd h (by decide)
        · split at h <;> exact absurd h (by decide)
  · rintro ⟨h, h2⟩
    obtain ⟨a, b, c⟩ := cL_no _ (by omega) h
    rw [if_neg a, if_pos h, if_neg h2]
theorem rkd_5 (hc : cA T p ≤ 256) : rkd T p = 5 ↔ cL (cA T p) = true ∧ te T p ≤ p + 12 ∧ isW T p = true := by
  unfold rkd
  constructor
  · intro h
    split at h
    · exact absurd h (by decide)
    · split at h
      · split at h
        · exact ⟨by assumption, by assumption⟩
        · exact absurd h (by decide)
      · split at h
        · exact absurd h (by decide)
        · split at h <;> exact absurd h (by decide)
  · rintro ⟨h, h2⟩
    obtain ⟨a, b, c⟩ := cL_no _ (by omega) h
    rw [if_neg a, if_pos h, if_pos h2]
theorem x203_n (h : RS T p I) {s : Nat} {x : Int32} (hx : x = Int32.ofNat s) (hs : s < 256) (hS : cS s = true) : x203 I x = some (if cA T p = s then 1 else 0) := by
  obtain ⟨h1, h2, h3⟩ := h
  have h4 := h1.2.1
  have hc := h1.le p
  unfold x203
  rw [h2.2.1, h2.2.2.1]
  by_cases z : cS (cA T p) = true
  · rw [if_pos ((rkd_3 hc).mpr z), x193_n h1 (by omega), Option.bind_some]
    by_cases y : cA T p = s
    · rw [if_pos ((lkv_e hx hc hs).mpr y), if_pos y]
    · rw [if_neg (fun w => y ((lkv_e hx hc hs).mp w)), if_neg y]
  · rw [if_neg (fun w => z ((rkd_3 hc).mp w)), if_neg (fun w => z (by rw [w]; exact hS))]
theorem x200_n (h : RS T p I) {t : Nat} (ht : t = 3 ∨ t = 4) : x200 t I = some (wv (wi (wlT t) (str T p) 0), I) := by
  obtain ⟨h1, ⟨r1, r2, r3, r4, r5, r6⟩, h3⟩ := h
  have hge : p ≤ te T p := by
    rcases Nat.lt_or_ge p T.1 with z | z
    · have := te_gt z (h1.2.2 p z).2
      omega
    · unfold te
      rw [cA_end z]
      exact Nat.le_refl _
  have e : up2 I 82 11 (I 82 14) = I := up2_id (by rw [r1, r4])
  unfold x200
  rw [e, x196_n ht h1 r3 r1 hge (te_le h3), Option.bind_some, up2_id rfl]
  rfl
/-- which of the other words stands there -/
def owd (T : Tp) (p : Nat) : Option Nat := if rkd T p = 5 then wi wl4 (str T p) 0 else none
theorem wv_eq {o : Option Nat} {n : Nat} {x : Int32} (hx : x = Int32.ofNat n) (hn : n < 2147483648) (h : ∀ i, o = some i → i < 2147483648) : wv o = x ↔ o = some n := by
  rw [hx]
  cases o with
  | none => exact ⟨fun z => absurd z.symm (i32_m1 hn), fun z => by cases z⟩
  | some i =>
    show Int32.ofNat i = _ ↔ _
    rw [i32_eq (h i rfl) hn]
    exact ⟨fun z => by rw [z], fun z => by cases z; rfl⟩
theorem wi4_lt {s : List Nat} : ∀ i, wi wl4 s 0 = some i → i < 2147483648 := fun i hi => by
  have h1 := wi_lt _ _ _ hi
  have h2 : wl4.length = 9 := rfl
  omega
theorem wi3_lt {s : List Nat} : ∀ i, wi wl3 s 0 = some i → i < 59 := fun i hi => by
  have h1 := wi_lt _ _ _ hi
  have h2 : wl3.length = 59 := rfl
  omega
theorem x199_n (h : RS T p I) {n : Nat} {x : Int32} (hx : x = Int32.ofNat n) (hn : n < 100) : x199 I x = some (if owd T p = some n then 1 else 0, I) := by
  unfold x199 owd
  rw [h.2.1.2.1]
  by_cases z : rkd T p = 5
  · rw [if_pos z, if_pos z, x200_n h (Or.inr rfl), Option.bind_some]
    show (if wv (wi wl4 (str T p) 0) = x then _ else _) = _
    by_cases y : wi wl4 (str T p) 0 = some n
    · rw [if_pos ((wv_eq hx (by omega) wi4_lt).mpr y), if_pos y]
    · rw [if_neg (fun w => y ((wv_eq hx (by omega) wi4_lt).mp w)), if_neg y]
  · rw [if_neg z, if_neg z, if_neg (by simp)]
/-- a throw: the store, with the place where the text is wrong -/
def Wr (I : St) (q : Nat) : St := up2 I 84 0 (Int32.ofNat q)
theorem x204_y (h : RS T p I) {s : Nat} {x : Int32} (hx : x = Int32.ofNat s) (hs : s < 256) (hS : cS s = true) (hc : cA T p = s) : ∃ J, x204 I x = some (.inr J) ∧ RS T (nx T p) J ∧ Frm L82 I J := by
  obtain ⟨J, r1, r2, r3⟩ := x192_s h
  refine ⟨J, ?_, r2, r3⟩
  unfold x204
  rw [x203_n h hx hs hS, if_pos hc, Option.bind_some, if_neg (by decide), r1, Option.bind_some]
theorem x204_no (h : RS T p I) {s : Nat} {x : Int32} (hx : x = Int32.ofNat s) (hs : s < 256) (hS : cS s = true) (hc : cA T p ≠ s) : x204 I x = some (.inl (Wr I p)) := by
  unfold x204 Wr
  rw [x203_n h hx hs hS, if_neg hc, Option.bind_some, if_pos rfl, h.2.1.2.2.1]
theorem x214_y (h : RS T p I) {m : Nat} {x : Int32} (hx : x = Int32.ofNat m) (hm : m < 2147483648) (hc : cD (cA T p) = true) (hv : nv (str T p) ≤ m) : ∃ J, x214 I x = some (.inr (Int32.ofNat (nv (str T p)), J)) ∧ RS T (nx T p) J ∧ Frm L82 I J := by
  obtain ⟨J, r1, r2, r3⟩ := x192_s h
  refine ⟨J, ?_, r2, r3⟩
  have e : I 82 15 = Int32.ofNat (nv (str T p)) := by
    rw [h.2.1.2.2.2.2.2 hc]
    unfold rvl
    rw [if_neg (by omega), if_pos (by omega)]
  unfold x214
  rw [h.2.1.2.1, if_pos ((rkd_2 (h.1.le p)).mpr hc), e, if_neg (i32_nn (by omega)), hx, if_pos ((i32_le (by omega) hm).mpr hv), r1, Option.bind_some]
theorem x214_no (h : RS T p I) {m : Nat} {x : Int32} (hx : x = Int32.ofNat m) (hm : m < 2147483648) (hc : ¬ (cD (cA T p) = true ∧ nv (str T p) ≤ m)) : x214 I x = some (.inl (Wr I p)) := by
  unfold x214 Wr
  rw [h.2.1.2.1, h.2.1.2.2.1]
  by_cases z : cD (cA T p) = true
  · rw [if_pos ((rkd_2 (h.1.le p)).mpr z), h.2.1.2.2.2.2.2 z]
    have hv : ¬ nv (str T p) ≤ m := fun y => hc ⟨z, y⟩
    unfold rvl
    by_cases y1 : nv (str T p) = 2147483648
    · rw [if_pos y1, if_pos (by decide)]
    · rw [if_neg y1]
      by_cases y2 : nv (str T p) ≤ 2147483648
      · rw [if_pos y2, if_neg (i32_nn (by omega)), hx, if_neg (fun w => hv ((i32_le (by omega) hm).mp w))]
      · rw [if_neg y2, if_pos (by decide)]
  · rw [if_neg (fun w => z ((rkd_2 (h.1.le p)).mp w))]
/-- the kind that stands there: 1 int, 2 ref, 0 none (where that may stand) -/
def kk (T : Tp) (p : Nat) (f : Bool) : Option Nat := if owd T p = some 5 then some 1 else if owd T p = some 6 then some 2 else if f = true ∧ owd T p = some 7 then some 0 else none
theorem x207_v (h : RS T p I) {f : Bool} {x : Int32} (hx : x = if f = true then 1 else 0) : ∃ v : Int32, x207 I x = (if v = -1 then some (.inl (Wr I p)) else (x192 I).bind fun q5 => some (.inr (v, q5))) ∧ ((∃ k, kk T p f = some k ∧ v = Int32.ofNat k ∧ k ≤ 2) ∨ (kk T p f = none ∧ v = -1)) := by
  have n5 := x199_n h (n := 5) (x := 5) rfl (by decide)
  have n6 := x199_n h (n := 6) (x := 6) rfl (by decide)
  have n7 := x199_n h (n := 7) (x := 7) rfl (by decide)
  have hw : up2 I 84 0 (I 82 13) = Wr I p := by rw [h.2.1.2.2.1]; rfl
  unfold kk x207
  rw [n5, Option.bind_some]
  by_cases c5 : owd T p = some 5
  · refine ⟨1, ?_, Or.inl ⟨1, by rw [if_pos c5], rfl, by decide⟩⟩
    rw [if_pos c5, if_neg (show ¬ ((1 : Int32), I).1 = 0 from (by decide : ¬ (1 : Int32) = 0)), Option.bind_some, hw]
  · rw [if_neg c5, if_pos (show ((0 : Int32), I).1 = 0 from rfl), n6, Option.bind_some]
    by_cases c6 : owd T p = some 6
    · refine ⟨2, ?_, Or.inl ⟨2, by rw [if_neg c5, if_pos c6], rfl, by decide⟩⟩
      rw [if_pos c6, if_neg (show ¬ ((1 : Int32), I).1 = 0 from (by decide : ¬ (1 : Int32) = 0)), Option.bind_some, hw]
    · rw [if_neg c6, if_pos (show ((0 : Int32), I).1 = 0 from rfl), hx]
      cases f with
      | false =>
        refine ⟨-1, ?_, Or.inr ⟨by rw [if_neg c5, if_neg c6, if_neg (by simp)], rfl⟩⟩
        rw [if_pos (show (if false = true then (1 : Int32) else 0) = 0 from rfl), Option.bind_some, hw]
      | true =>
        rw [if_pos rfl, if_neg (by decide), n7, Option.bind_some]
        by_cases c7 : owd T p = some 7
        · refine ⟨0, ?_, Or.inl ⟨0, by rw [if_neg c5, if_neg c6, if_pos ⟨rfl, c7⟩], rfl, by decide⟩⟩
          rw [if_pos c7, if_neg (show ¬ ((1 : Int32), I).1 = 0 from (by decide : ¬ (1 : Int32) = 0)), Option.bind_some, hw]
        · refine ⟨-1, ?_, Or.inr ⟨by rw [if_neg c5, if_neg c6, if_neg (fun w => c7 w.2)], rfl⟩⟩
          rw [if_neg c7, if_pos (show ((0 : Int32), I).1 = 0 from rfl), Option.bind_some, hw]
theorem x207_y (h : RS T p I) {f : Bool} {x : Int32} (hx : x = if f = true then 1 else 0) {k : Nat} (hk : kk T p f = some k) : k ≤ 2 ∧ ∃ J, x207 I x = some (.inr (Int32.ofNat k, J)) ∧ RS T (nx T p) J ∧ Frm L82 I J := by
  obtain ⟨J, r1, r2, r3⟩ := x192_s h
  obtain ⟨v, e, ⟨k', h1, h2, h3⟩ | ⟨h1, h2⟩⟩ := x207_v h hx
  · rw [hk] at h1
    cases h1
    refine ⟨h3, J, ?_, r2, r3⟩
    rw [e, h2, if_neg (i32_m1 (by omega)), r1, Option.bind_some]
  · rw [hk] at h1
    cases h1
theorem x207_no (h : RS T p I) {f : Bool} {x : Int32} (hx : x = if f = true then 1 else 0) (hk : kk T p f = none) : x207 I x = some (.inl (Wr I p)) := by
  obtain ⟨v, e, ⟨k', h1, h2, h3⟩ | ⟨h1, h2⟩⟩ := x207_v h hx
  · rw [hk] at h1
    cases h1
  · rw [e, if_pos h2]
end
