/-! next(), whole -/
def rtl (T : Tp) (p : Nat) : Int32 := if cL (cA T p) = true then tl p (te T p) else -1
def isW (T : Tp) (p : Nat) : Bool := (wi wl3 (str T p) 0).isSome || (wi wl4 (str T p) 0).isSome
def rkd (T : Tp) (p : Nat) : Int32 := if cA T p = 256 then 4 else if cL (cA T p) = true then (if te T p ≤ p + 12 ∧ isW T p = true then 5 else 1) else if cD (cA T p) = true then 2 else if cS (cA T p) = true then 3 else 6
def rvl (T : Tp) (p : Nat) : Int32 := if nv (str T p) = 2147483648 then -2147483648 else if nv (str T p) ≤ 2147483648 then Int32.ofNat (nv (str T p)) else -2
/-- the reference stands at the token that begins at p -/
def RT (T : Tp) (p : Nat) (J : St) : Prop := J 82 11 = Int32.ofNat (te T p) ∧ J 82 12 = rkd T p ∧ J 82 13 = Int32.ofNat p ∧ J 82 14 = Int32.ofNat (te T p) ∧ J 82 16 = rtl T p ∧ (cD (cA T p) = true → J 82 15 = rvl T p)
theorem wv_m1 {o : Option Nat} (h : ∀ i, o = some i → i < 2147483648) : wv o = -1 ↔ o = none := by
  cases o with
  | none => exact ⟨fun _ => rfl, fun _ => rfl⟩
  | some i => exact ⟨fun z => absurd z (i32_m1 (h i rfl)), fun z => by cases z⟩
theorem wi_lt {s : List Nat} : ∀ (l : List (List Nat)) n i, wi l s n = some i → i < n + l.length := by
  intro l
  induction l with
  | nil => intro n i h; cases h
  | cons x r ih =>
    intro n i h
    rw [wi] at h
    split at h
    · cases h
      simp
    · have := ih (n + 1) i h
      rw [List.length_cons]
      omega
theorem cS_lk : ∀ c, c < 257 → (if lkv c = 123 then (3 : Int32) else if lkv c = 125 then 3 else if lkv c = 40 then 3 else if lkv c = 41 then 3 else if lkv c = 59 then 3 else if lkv c = 58 then 3 else if lkv c = 44 then 3 else if lkv c = 45 then 3 else 6) = if cS c = true then 3 else 6 := by decide +kernel
theorem i64_i32 {b : Int64} {v : Nat} (h : b.toInt = v) (hv : v < 2147483648) : b.toInt32 = Int32.ofNat v := by
  apply Int32.toInt_inj.mp
  rw [Int64.toInt_toInt32, h, i32_of hv]
  exact bm (by omega) (by omega)
theorem l192_267_0 {T : Tp} {I : St} {p : Nat} (h : TB T I) (hz : cA T p = 48) (ha : I 82 11 = Int32.ofNat p) (hp : I 82 13 = Int32.ofNat p) (hl : p < T.1) {n : Nat} : l192_267 (n + 2) 0 I = some (0, up2 I 82 11 (Int32.ofNat (p + 1))) := by
  have h2 := h.2.1
  have hx : x193 I (I 82 11) = some (lkv (cA T p)) := by rw [ha]; exact x193_n h (by omega)
  have hd0 : cD (cA T p) = true := by rw [hz]; decide
  rw [l192_267, hx, Option.bind_some, xD (h.le p), if_pos hd0, if_neg (by decide), if_pos (by rw [ha, hp]), if_pos (by decide), Option.bind_some, ha, i32_s, hz]
  have e : ((10 : Int64) * 0 + (lkv 48).toInt64 - 48) = 0 := by decide
  rw [e]
  have h' : TB T (up2 I 82 11 (Int32.ofNat (p + 1))) := h.up (by decide)
  have hx' : x193 (up2 I 82 11 (Int32.ofNat (p + 1))) (up2 I 82 11 (Int32.ofNat (p + 1)) 82 11) = some (lkv (cA T (p + 1))) := by rw [up2_s]; exact x193_n h' (by omega)
  have hy' : x193 (up2 I 82 11 (Int32.ofNat (p + 1))) (up2 I 82 11 (Int32.ofNat (p + 1)) 82 13) = some (lkv (cA T p)) := by rw [up2_j _ _ _ _ _ (by decide), hp]; exact x193_n h' (by omega)
  rw [l192_267, hx', Option.bind_some, xD (h.le (p + 1))]
  by_cases y : cD (cA T (p + 1)) = true
  · rw [if_pos y, if_neg (by decide), if_neg (by rw [up2_s, up2_j _ _ _ _ _ (by decide), hp, i32_eq (by omega) (by omega)]; omega), hy', Option.bind_some, hz, if_pos (show lkv 48 = 48 by decide)]
  · rw [if_neg y, if_pos rfl]
theorem x192_n {T : Tp} {I : St} {a : Nat} (h : TB T I) (ha : I 82 11 = Int32.ofNat a) (hl : a ≤ T.1) : ∃ J, x192 I = some J ∧ RT T (sk T a) J := by
  have h2 := h.2.1
  have hpl : sk T a ≤ T.1 := sk_le hl
  generalize hp : sk T a = p at hpl
  have hc := h.le p
  have e0 := l192_2_n 100000 I a h ha hl (by omega)
  rw [hp] at e0
  unfold x192
  rw [e0, Option.bind_some, up2_s]
  generalize hJ : up2 (up2 (up2 I 82 11 (Int32.ofNat p)) 82 13 (Int32.ofNat p)) 82 16 (-1) = J
  have hB : TB T J := by rw [← hJ]; exact ((h.up (by decide)).up (by decide)).up (by decide)
  have j11 : J 82 11 = Int32.ofNat p := by rw [← hJ]; rfl
  have j13 : J 82 13 = Int32.ofNat p := by rw [← hJ]; rfl
  have j16 : J 82 16 = -1 := by rw [← hJ]; rfl
  rw [x193_n hB (by omega), Option.bind_some]
  by_cases c0 : cA T p = 256
  · rw [if_pos ((lkv_m1 hc).mpr c0)]
    have et : te T p = p := by unfold te; rw [c0]; rfl
    refine ⟨_, rfl, ?_⟩
    unfold RT rkd rtl
    rw [et, c0]
    exact ⟨j11, rfl, j13, rfl, j16, fun z => by cases z⟩
  rw [if_neg (fun z => c0 ((lkv_m1 hc).mp z))]
  have hpl2 : p < T.1 := by
    rcases Nat.lt_or_ge p T.1 with x | x
    · exact x
    · exact absurd (cA_end x) c0
  rw [xL hc]
  by_cases c1 : cL (cA T p) = true
  · have et : te T p = Wh T cN p := by unfold te; rw [if_pos c1]
    have hw1 : p ≤ Wh T cN p := Wh_ge p
    have hw2 : Wh T cN p ≤ T.1 := Wh_le (by rfl) hpl
    rw [if_pos c1, if_neg (by decide), l192_147_n 100000 J p hB j11 j13 (by rw [j16]; unfold tl; rw [if_pos (by omega)]) (Nat.le_refl _) hpl (by omega), Option.bind_some]
    generalize hK : up2 (up2 J 82 16 (tl p (Wh T cN p))) 82 11 (Int32.ofNat (Wh T cN p)) = K
    have hBK : TB T K := by rw [← hK]; exact (hB.up (by decide)).up (by decide)
    have k11 : K 82 11 = Int32.ofNat (te T p) := by rw [← hK, et]; rfl
    have k13 : K 82 13 = Int32.ofNat p := by rw [← hK]; exact j13
    have k16 : K 82 16 = tl p (te T p) := by rw [← hK, et]; rfl
    have n3 := x196_n (t := 3) (Or.inl rfl) hBK k13 k11 (by omega) (by omega)
    have n4 := x196_n (t := 4) (Or.inr rfl) hBK k13 k11 (by omega) (by omega)
    have b3 : ∀ i, wi wl3 (str T p) 0 = some i → i < 2147483648 := fun i hi => by have := wi_lt _ _ _ hi; have : wl3.length = 59 := rfl; omega
    have b4 : ∀ i, wi wl4 (str T p) 0 = some i → i < 2147483648 := fun i hi => by have := wi_lt _ _ _ hi; have : wl4.length = 9 := rfl; omega
    have n3 : x196 3 K = some (wv (wi wl3 (str T p) 0)) := n3
    have n4 : x196 4 K = some (wv (wi wl4 (str T p) 0)) := n4
    have fin : ∀ q : Int32, q = rkd T p → ∃ L, some (up2 (up2 K 82 12 q) 82 14 (K 82 11)) = some L ∧ RT T p L := by
      intro q hq
      refine ⟨_, rfl, ?_⟩
      unfold RT rtl
      rw [if_pos c1]
      exact ⟨k11, hq, k13, k11, k16, fun z => by
        exfalso
        revert c1 z
        generalize cA T p = c
        intro z1 z2
        unfold cL at z1
        unfold cD at z2
        simp only [Bool.or_eq_true, Bool.and_eq_true, Nat.ble_eq] at z1 z2
        omega⟩
    have hr : rkd T p = if te T p ≤ p + 12 ∧ isW T p = true then 5 else 1 := by unfold rkd; rw [if_neg c0, if_pos c1]
    rw [k16, n3, n4]
    by_cases c2 : te T p ≤ p + 12
    · rw [if_pos (by unfold tl; rw [if_pos c2]), Option.bind_some, Option.bind_some]
      by_cases c3 : wi wl3 (str T p) 0 = none
      · rw [if_pos ((wv_m1 b3).mpr c3)]
        by_cases c4 : wi wl4 (str T p) 0 = none
        · rw [if_pos ((wv_m1 b4).mpr c4)]
          exact fin 1 (by rw [hr, if_neg]; unfold isW; rw [c3, c4]; simp)
        · rw [if_neg (fun z => c4 ((wv_m1 b4).mp z))]
          refine fin 5 ?_
          rw [hr, if_pos]
          refine ⟨c2, ?_⟩
          unfold isW
          cases e : wi wl4 (str T p) 0 with
          | none => exact absurd e c4
          | some i => simp
      · rw [if_neg (fun z => c3 ((wv_m1 b3).mp z))]
        refine fin 5 ?_
        rw [hr, if_pos]
        refine ⟨c2, ?_⟩
        unfold isW
        cases e : wi wl3 (str T p) 0 with
        | none => exact absurd e c3
        | some i => simp
    · rw [if_neg (by unfold tl; rw [if_neg c2]; exact i32_m1 (by omega))]
      exact fin 1 (by rw [hr, if_neg]; exact fun z => c2 z.1)
  rw [if_neg c1, if_pos rfl, xD hc]
  by_cases c5 : cD (cA T p) = true
  · rw [if_pos c5, if_neg (by decide)]
    have main : ∃ b', l192_267 100000 0 J = some (b', up2 J 82 11 (Int32.ofNat (te T p))) ∧ nb (nv (str T p)) b' := by
      by_cases c6 : cA T p = 48
      · have et : te T p = p + 1 := by unfold te; rw [if_neg c1, if_pos c5, if_pos c6]
        refine ⟨0, ?_, ?_⟩
        · rw [et]; exact l192_267_0 (n := 99998) hB c6 j11 j13 hpl2
        · have e1 : cA T p = T.2 p := by unfold cA; rw [if_pos hpl2]
          unfold str
          rw [et, sg_s (Nat.le_refl _), nv_s, ← e1, c6]
          have e2 : sg T p p = [] := by unfold sg; rw [Nat.sub_self]; rfl
          rw [e2]
          exact ⟨fun _ => by decide, fun z => by simp [nv] at z⟩
      · have et : te T p = Wh T cD p := by unfold te; rw [if_neg c1, if_pos c5, if_neg c6]
        have e2 : sg T p p = [] := by unfold sg; rw [Nat.sub_self]; rfl
        obtain ⟨b', r1, r2⟩ := l192_267_n c6 100000 J p 0 hB j11 j13 (by rw [e2]; exact ⟨fun _ => by decide, fun z => by simp [nv] at z⟩) (Nat.le_refl _) hpl (by omega)
        refine ⟨b', ?_, ?_⟩
        · rw [et]; exact r1
        · unfold str; rw [et]; exact r2
    obtain ⟨b', r1, r2⟩ := main
    rw [r1, Option.bind_some]
    dsimp only
    have hr : rkd T p = 2 := by unfold rkd; rw [if_neg c0, if_neg c1, if_pos c5]
    have hrt : rtl T p = -1 := by unfold rtl; rw [if_neg c1]
    have fin : ∀ q : Int32, q = rvl T p → ∃ L, some (up2 (up2 (up2 (up2 J 82 11 (Int32.ofNat (te T p))) 82 15 q) 82 12 2) 82 14 (up2 J 82 11 (Int32.ofNat (te T p)) 82 11)) = some L ∧ RT T p L := by
      intro q hq
      refine ⟨_, rfl, ?_⟩
      unfold RT
      rw [hr, hrt]
      exact ⟨rfl, rfl, j13, rfl, j16, fun _ => hq⟩
    by_cases d1 : nv (str T p) = 2147483648
    · have := r2.1 (by omega)
      rw [if_pos (lg_0.mpr (by omega))]
      exact fin _ (by unfold rvl; rw [if_pos d1])
    · by_cases d2 : nv (str T p) ≤ 2147483648
      · have := r2.1 d2
        rw [if_neg (fun z => d1 (by have := lg_0.mp z; omega)), if_pos (lg_le.mpr (by omega))]
        exact fin _ (by unfold rvl; rw [if_neg d1, if_pos d2]; exact i64_i32 this (by omega))
      · have := r2.2 (by omega)
        rw [if_neg (fun z => by have := lg_0.mp z; omega), if_neg (fun z => by have := lg_le.mp z; omega)]
        exact fin _ (by unfold rvl; rw [if_neg d1, if_neg d2])
  rw [if_neg c5, if_pos rfl]
  have et : te T p = p + 1 := by unfold te; rw [if_neg c1, if_neg c5, if_neg c0]
  have hr : rkd T p = if cS (cA T p) = true then 3 else 6 := by unfold rkd; rw [if_neg c0, if_neg c1, if_neg c5]
  have hrt : rtl T p = -1 := by unfold rtl; rw [if_neg c1]
  have fin : ∀ q : Int32, q = rkd T p → ∃ L, some (up2 (up2 (up2 J 82 11 (Int32.ofNat p + 1)) 82 12 q) 82 14 (Int32.ofNat p + 1)) = some L ∧ RT T p L := by
    intro q hq
    refine ⟨_, rfl, ?_⟩
    unfold RT
    rw [hrt, et, i32_s]
    exact ⟨rfl, hq, j13, rfl, j16, fun z => absurd z c5⟩
  have key := cS_lk (cA T p) (by omega)
  rw [← hr] at key
  simp only [Lt]
  split
  · rename_i z; rw [if_pos z] at key; exact fin 3 key
  rename_i z1; rw [if_neg z1] at key
  split
  · rename_i z; rw [if_pos z] at key; exact fin 3 key
  rename_i z2; rw [if_neg z2] at key
  split
  · rename_i z; rw [if_pos z] at key; exact fin 3 key
  rename_i z3; rw [if_neg z3] at key
  split
  · rename_i z; rw [if_pos z] at key; exact fin 3 key
  rename_i z4; rw [if_neg z4] at key
  split
  · rename_i z; rw [if_pos z] at key; exact fin 3 key
  rename_i z5; rw [if_neg z5] at key
  split
  · rename_i z; rw [if_pos z] at key; exact fin 3 key
  rename_i z6; rw [if_neg z6] at key
  split
  · rename_i z; rw [if_pos z] at key; exact fin 3 key
  rename_i z7; rw [if_neg z7] at key
  split
  · rename_i z; rw [if_pos z] at key; exact fin 3 key
  rename_i z8; rw [if_neg z8] at key
  exact fin 6 key
