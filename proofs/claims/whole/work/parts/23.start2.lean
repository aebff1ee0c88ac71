theorem xo_ref {b : Nat} {t : Nat → Nat} {v5 v6 v7 : Value} {adK adV : Nat → Nat} (h5 : v5 = .null ∨ ∃ a, v5 = .ref a) (h6 : v6 = .null ∨ ∃ a, v6 = .ref a) (h7 : v7 = .null ∨ ∃ a, v7 = .ref a) (k : Nat) : xo b t v5 v6 v7 adK adV k = .null ∨ ∃ a, xo b t v5 v6 v7 adK adV k = .ref a := by
  unfold xo
  repeat' split
  all_goals first | exact Or.inr ⟨_, rfl⟩ | assumption | exact Or.inl rfl
theorem ko_start {s : State} {b : Nat} {E : Xe} (hts : ∀ w ∈ lw_tbl, w.before #[Value.ref b] s = true) (hX : va_X b E.1 E.2 s s.heap) (hb : b < s.heap.size) (hgv : (Jvm.Cond.and given_1 narrow_1).before #[Value.ref b] s = true) :
    ∃ P : Pl, P.1 = s.heap.size ∧ P.2.2.2 0 = .ref b ∧ va_K P.2.1 clO (tyO P) s ∧ Ko P E s := by
  have hg : ∀ w ∈ gvL, w.before #[Value.ref b] s = true := flat_of_before _ hgv
  have hw1 : ∀ w ∈ wdL1, w.before #[Value.ref b] s = true := fun w h => hts w (in_tbl (isSub_mem _ _ wd_1 w h))
  have hw2 : ∀ w ∈ wdL2, w.before #[Value.ref b] s = true := fun w h => hts w (in_tbl (isSub_mem _ _ wd_2 w h))
  have ho : ∀ w ∈ oneL, w.before #[Value.ref b] s = true := fun w h => hg w (isSub_mem _ _ gv_one w h)
  have hA : ∀ a : Nat, a < s.heap.size → ¬ (s.heap.size ≤ a) := fun a h => by omega
  -- classes
  have hcls : ∀ ci : Nat, ∃ q : ClassId × (Nat → Nat), ci < 15 → u_Kn s (cn ci) (fT ci) (nF ci) q.1 q.2 := by
    intro ci
    by_cases h : ci < 15
    · have hi : ∃ n, Cond.instantiable (cn ci) n ∈ lw_tbl := by
        rcases Nat.lt_or_ge ci 14 with z | z
        · exact ⟨_, ins_in ci z⟩
        · obtain rfl : ci = 14 := by omega
          exact ⟨_, ins_wr⟩
      obtain ⟨n, hi⟩ := hi
      obtain ⟨c, i, hk⟩ := u_known hts (fld_in h) (hts _ hi)
      exact ⟨(c, i), fun _ => hk⟩
    · exact ⟨(0, fun _ => 0), fun z => absurd z h⟩
  obtain ⟨dq, hdq⟩ := Classical.axiomOfChoice hcls
  obtain ⟨cI, hI1, hI2⟩ := arr_of (ty := .int) (fun C h => by cases h) (hw2 _ (by simp [wdL2]))
  obtain ⟨cB, hB1, hB2⟩ := arr_of (ty := .byte) (fun C h => by cases h) (hw2 _ (by simp [wdL2]))
  obtain ⟨cZ, hZ1, hZ2⟩ := arr_of (ty := .boolean) (fun C h => by cases h) (hw2 _ (by simp [wdL2]))
  -- statics
  obtain ⟨v5, h5, r5⟩ := ref_of (ho (.isRef (.static "jdk/internal/util/Preconditions" "SIOOBE_FORMATTER" "Ljava/util/function/BiFunction;")) (by simp [oneL]))
  obtain ⟨v6, h6, r6⟩ := ref_of (ho (.isRef (.static "java/lang/Throwable" "UNASSIGNED_STACK" "[Ljava/lang/StackTraceElement;")) (by simp [oneL]))
  obtain ⟨v7, h7, r7⟩ := ref_of (ho (.isRef (.static "java/lang/Throwable" "SUPPRESSED_SENTINEL" "Ljava/util/List;")) (by simp [oneL]))
  have hst : ∀ k : Nat, ∃ t : Nat, k < 3 → (stTm k).eval #[Value.ref b] s none [] s = some (.ref t) ∧ va_T .int t (stVl k).length (fun j => .int ((stVl k).getD j 0)) (fun q => s.heap.size ≤ q) s s.heap := by
    intro k
    by_cases h : k < 3
    · have hm := fun w hw => hg w (gv_st h w hw)
      obtain ⟨t, h1, h2⟩ := va_Tof (A := fun q => s.heap.size ≤ q) (tm := stTm k) (ty := .int) (N := (stVl k).length) (f := fun j => .int ((stVl k).getD j 0)) (by
        rcases (by omega : k = 0 ∨ k = 1 ∨ k = 2) with e | e | e <;> subst e <;> decide +kernel) (hm _ (by simp [stLv])) (va_eqt (hm _ (by simp [stLv]))) (fun j hj => va_eqt (hm (stEl k j) (List.mem_append_right _ (List.mem_map.mpr ⟨j, List.mem_range.mpr hj, rfl⟩)))) hA
      exact ⟨t, fun _ => ⟨h1, h2⟩⟩
    · exact ⟨0, fun z => absurd z h⟩
  obtain ⟨t, ht⟩ := Classical.axiomOfChoice hst
  have hlays : ∀ k : Nat, k < 3 → (Cond.laysStatic "TaintHouse" (stN k) "[I").before #[Value.ref b] s = true := by
    intro k hk
    rcases (by omega : k = 0 ∨ k = 1 ∨ k = 2) with e | e | e <;> subst e <;> exact hw2 _ (by simp [wdL2, stN])
  -- strings
  obtain ⟨adK, adV, hS, hev⟩ := vk_Sof (args := #[Value.ref b]) (s := s) (N := 5) (tm := sTm) (len := xTL.map List.length) (byt := xTL) (A := fun q => s.heap.size ≤ q)
    (fun i hi => by rcases (by omega : i = 0 ∨ i = 1 ∨ i = 2 ∨ i = 3 ∨ i = 4) with e | e | e | e | e <;> subst e <;> decide +kernel)
    (fun i hi => hg _ (gv_s hi _ (by simp [sLv])))
    (fun i hi => hg _ (gv_s hi _ (by simp [sLv])))
    (fun i hi => hg _ (gv_s hi _ (by simp [sLv, sVm])))
    (fun i hi => hg _ (gv_s hi (.eq (.length (sVm i)) (.int (Int32.ofNat ((xTL.map List.length).getD i 0)))) (by simp [sLv])))
    (fun i hi j hj => hg (sEl i j) (gv_s hi _ (List.mem_append_right _ (List.mem_map.mpr ⟨j, List.mem_range.mpr (by
      have e : (xTL.map List.length).getD i 0 = (xTL.getD i []).length := by
        rcases (by omega : i = 0 ∨ i = 1 ∨ i = 2 ∨ i = 3 ∨ i = 4) with e | e | e | e | e <;> subst e <;> rfl
      rw [← e]; exact hj), rfl⟩))))
    (fun i j hi hj hn => by
      have hm : (i, j) ∈ neL ∨ (j, i) ∈ neL := by
        have h9 : ∀ i, i < 5 → ∀ j, j < 5 → (i == j || neL.contains (i, j) || neL.contains (j, i)) = true := by decide +kernel
        have h8 := h9 i hi j hj
        simp only [Bool.or_eq_true, beq_iff_eq, List.contains_iff_mem] at h8
        rcases h8 with (h8 | h8) | h8
        · exact absurd h8 hn
        · exact Or.inl h8
        · exact Or.inr h8
      rcases hm with h | h
      · exact Or.inl (hg _ (isSub_mem _ _ gv_ne (neW (i, j)) (List.mem_map.mpr ⟨_, h, rfl⟩)))
      · exact Or.inr (hg _ (isSub_mem _ _ gv_ne (neW (j, i)) (List.mem_map.mpr ⟨_, h, rfl⟩))))
    hA
  refine ⟨(s.heap.size, (fun ci => (dq ci).1, fun ci => (dq ci).2), fun k => if k = 100 then cI else if k = 101 then cB else cZ, xo b t v5 v6 v7 adK adV), rfl, rfl, ⟨?_, ?_⟩, ?_⟩
  · intro c q hq
    have hc : c < 15 := by
      have := (List.getElem?_eq_some_iff.mp hq).1
      simpa [clO] using this
    rw [clO_at hc] at hq
    cases hq
    exact hdq c hc
  · intro k q hq
    match k, hq with
    | 0, hq => cases hq; exact ⟨hI1, hI2⟩
    | 1, hq => cases hq; exact ⟨hB1, hB2⟩
    | 2, hq => cases hq; exact ⟨hZ1, hZ2⟩
    | k + 3, hq => simp [tyO] at hq
  · refine ⟨xo_ref r5 r6 r7, ⟨b, rfl, hX, hb⟩, fun k hk => ⟨t k, ?_, ?_, ?_⟩, ?_, ?_, ⟨adK, adV, fun i hi => ⟨?_, ?_⟩, hS, fun q hq => ?_⟩, fun q hq hn => ?_, ?_, ?_, ?_, ?_, ?_, ?_⟩
    · show xo b t v5 v6 v7 adK adV (k + 1) = _
      unfold xo
      rw [if_neg (by omega), if_pos (by omega)]
      rfl
    · exact va_Zof (hlays k hk) (hw1 _ (by simp [wdL1])) (ht k hk).1 hA
    · have h2 := (ht k hk).2
      rcases (by omega : k = 0 ∨ k = 1 ∨ k = 2) with e | e | e <;> subst e <;> exact h2
    · exact va_Zof (hw2 _ (by simp [wdL2])) (hw1 _ (by simp [wdL1])) (va_eqi (ho _ (by simp [oneL]))) hA
    · exact va_Zof (hw2 _ (by simp [wdL2])) (hw1 _ (by simp [wdL1])) h5 hA
    · show xo b t v5 v6 v7 adK adV (10 + i) = _
      unfold xo
      rw [if_neg (by omega), if_neg (by omega), if_neg (by omega), if_neg (by omega), if_neg (by omega), if_pos (by omega)]
      congr 2
      omega
    · show xo b t v5 v6 v7 adK adV (20 + i) = _
      unfold xo
      rw [if_neg (by omega), if_neg (by omega), if_neg (by omega), if_neg (by omega), if_neg (by omega), if_neg (by omega), if_pos (by omega)]
      congr 2
      omega
    · obtain ⟨tx, hin⟩ := st_in hq
      obtain ⟨e1, e2⟩ := st_tm q hq
      have h3 := hev _ e2
      rw [e1] at h3
      exact ⟨tx, vk_R.of (hts _ hin) h3⟩
    · have h3 := hts _ (mr_in q hq)
      obtain ⟨a, i, hh, er⟩ := mrW_nest hn
      rw [er] at h3 ⊢
      exact va_Nw.of rfl h3
    · exact va_Nw.of rfl (hw2 _ (by simp [wdL2]))
    · exact zS_of (args := #[Value.ref b]) (hw2 _ (by simp [wdL2])) h6 hA
    · exact zS_of (args := #[Value.ref b]) (hw2 _ (by simp [wdL2])) h7 hA
    · exact va_Nw.of rfl (hw2 _ (by simp [wdL2]))
    · exact va_Nw.of rfl (hw2 _ (by simp [wdL2]))
    · exact va_Nw.of rfl (hw2 _ (by simp [wdL2]))
