/-! SOUNDNESS: what the interpreter answers, the machine does -/
theorem str_ninit : ∀ j, j < nM → ow j = cStr → (yO j).name ≠ "<init>" := by decide +kernel
theorem ow_lt : ∀ j, j < nM → ow j < 30 := by decide +kernel
theorem txt_virt : ∀ q ∈ mrL, q.2.2.1 = mText → q.2.2.2.2 = 1 := by decide +kernel
theorem st1_w {E : Xe} {m pc : Nat} {e : En} {ls st : List Value} {w : Wd} {g : Fr} (ha : auxE m pc e = true) (h : st1 E e pc ls st w = some g) : w.1 ≤ g.2.2.2.1 ∧ (w.1 ≤ 200 → g.2.2.2.1 ≤ 200) := by
  obtain ⟨i, n, a, b, c, d, v⟩ := e
  cases i
  case new q =>
    simp only [auxE, Bool.and_eq_true] at ha
    have hm : (ow m, q, a) ∈ clkL := by simpa using ha.2
    have ha15 : a < 15 := clk_ok _ hm
    simp only [st1] at h
    split at h
    · rename_i hc
      simp only [Bool.and_eq_true] at hc
      have hs := Nat.eq_of_beq_eq_true hc.1
      cases h
      dsimp only
      refine ⟨Nat.le_succ _, fun _ => ?_⟩
      rcases Nat.lt_or_ge w.1 200 with z | z
      · exact z
      · rw [shc_out z] at hs; omega
    · cases h
  case newarray q =>
    simp only [auxE, Bool.and_eq_true] at ha
    have h3 : a ≤ 102 := by
      have h2 := ha.2
      cases q <;> first | (have := Nat.eq_of_beq_eq_true h2; omega) | (cases h2)
    simp only [st1] at h
    split at h
    · split at h
      · cases h
      · split at h
        · rename_i hc
          simp only [Bool.and_eq_true] at hc
          have hs := Nat.eq_of_beq_eq_true hc.1
          cases h
          dsimp only
          refine ⟨Nat.le_succ _, fun _ => ?_⟩
          rcases Nat.lt_or_ge w.1 200 with z | z
          · exact z
          · rw [shc_out z] at hs; omega
        · cases h
    · cases h
  all_goals (simp only [st1] at h <;> (repeat' split at h) <;> first | (cases h; exact ⟨Nat.le_refl _, fun z => z⟩) | (cases h))
theorem lvargs_mem : ∀ (vs : List Value) (i k : Nat) (v : Value), (∀ x ∈ vs, x.category = 1) → vs[i]? = some v → (k + i, v) ∈ lv_args k vs := by
  intro vs
  induction vs with
  | nil => intro i k v _ h; simp at h
  | cons a r ih =>
    intro i k v hc h
    unfold lv_args
    rw [if_neg (by rw [hc a List.mem_cons_self]; decide)]
    cases i with
    | zero =>
      have : a = v := by simpa using h
      subst this
      exact List.mem_cons_self
    | succ i =>
      have := ih i (k + 1) v (fun x hx => hc x (List.mem_cons_of_mem _ hx)) (by simpa using h)
      rw [show k + (i + 1) = k + 1 + i by omega]
      exact List.mem_cons_of_mem _ this
theorem lgsl_len : ∀ (vs : List Value), (∀ x ∈ vs, x.category = 1) → (lg_sl vs).length = vs.length := by
  intro vs
  induction vs with
  | nil => intro _; rfl
  | cons a r ih =>
    intro hc
    have h1 := ih (fun x hx => hc x (List.mem_cons_of_mem _ hx))
    unfold lg_sl at h1 ⊢
    rw [List.flatMap_cons, if_neg (by rw [hc a List.mem_cons_self]; decide), List.length_append, h1]
    simp
    omega
theorem is1_cat {v : Value} (h : is1 v = true) : v.category = 1 := by cases v <;> first | rfl | cases h
/-- a contract out of the walk of its body -/
theorem ct_of {l : Launch} {E : Xe} {P : Pl} {j : Nat} {as : List Value} {w w1 : Wd} {o : Outcome} (hj : j < nM) (hj1 : 1 ≤ j) (h200 : w.1 ≤ 200) (hone : ∀ x ∈ as, is1 x = true) (hlen : as.length ≤ mx j)
    (h : ∀ {p : Program} {e : Env} {R : Room} {s : State} {mi : MethodId} {args : Array Value} {below : List Frame} {meth : Method} {c : Code} {n0 : Nat}, Cx p R s mi args meth c j P E n0 → (w1.1 - n0 ≤ R.cells ∧ slo w1.1 - slo n0 ≤ R.slots) → Wst p l e R s mi args below meth c j P n0 (Mx below P o w1 n0 args s) (0, loc0 j as, [], w)) : Ct l E P j as w o w1 := by
  have hm := mok hj
  refine MetFree.of_bodyS (code := bO j) (maxLocals := mx j) (ret := rt j) hm.1 ?_ ?_
  · intro args s m hp hn
    have hw := atoms_spec (ws := codeW j :: gtbl) hp _ List.mem_cons_self
    unfold codeW at hw
    split at hw
    · obtain ⟨m9, meth, c, hn9, h1, h2, h3, h4, -, h5, h6, -⟩ := Cond.codeWith_spec hw
      cases hn.symm.trans hn9
      exact ⟨meth, c, h1, h2, h3, h4, h5, h6⟩
    · obtain ⟨meth, c, h1, h2, h3, h4, h5, h6, -, -⟩ := Cond.code_spec hn hw
      exact ⟨meth, c, h1, h2, h3, h4, h5, h6⟩
  · intro p e s m args below meth c s₁ B hml hP _
    obtain ⟨rfl, hRe, hsz, hK, hKo⟩ := hP
    have hws := atoms_spec (ws := codeW j :: gtbl) B.pre
    have hcat : ∀ x ∈ as.map (tv P), x.category = 1 := by
      intro x hx
      obtain ⟨y, hy, rfl⟩ := List.mem_map.mp hx
      rw [tv_cat hKo.cat]
      exact is1_cat (hone y hy)
    have hexc : Exc j c (as.map (tv P)).toArray s := by
      have hw := hws _ List.mem_cons_self
      unfold Exc
      unfold codeW at hw
      by_cases hjt : j = mText
      · rw [if_pos hjt] at hw ⊢
        obtain ⟨m9, meth9, c9, hn9, h1, h2, -, -, h4, -⟩ := Cond.codeWith_spec hw
        cases B.named.symm.trans hn9
        cases B.method.symm.trans h1
        cases (Stand.of_body B).code.symm.trans h2
        exact h4
      · rw [if_neg hjt] at hw ⊢
        exact Or.inr (B.noHandlers hw)
    have C : Cx p (rmO j w w1) s m (as.map (tv P)).toArray meth c j P E w.1 := ⟨B.exec, B.bytes, hml, B.returns, by rw [hm.2.2.2]; exact findClass_of_methodNamed B.named, fun wd hwd => hws wd (List.mem_cons_of_mem _ hwd), B.notSynchronized, (fun z => by rw [(name_of_methodNamed B.named B.method).1]; exact z), hK, hKo, Nat.le_refl _, Nat.le_refl _, hsz, hj, hexc⟩
    have hh0 : s₁.heap = s.heap := by rw [B.state]; rfl
    have hl := lv_entry (as.map (tv P)) (n := mx j) (by rw [lgsl_len _ hcat, List.length_map]; exact hlen)
    have hLs : LsR P j (loc0 j as) ((lg_sl (as.map (tv P)) ++ List.replicate (mx j - (lg_sl (as.map (tv P))).length) Slot.unset).toArray) := by
      refine ⟨hl.1, by unfold loc0; simp; omega, hl.2.1, fun i v hv hu => ?_⟩
      unfold loc0 at hv
      rcases Nat.lt_or_ge i as.length with z | z
      · rw [List.getElem?_append_left z] at hv
        have := lvargs_mem (as.map (tv P)) i 0 (tv P v) hcat (by rw [List.getElem?_map, hv]; rfl)
        rw [Nat.zero_add] at this
        exact hl.2.2 _ this
      · rw [List.getElem?_append_right z] at hv
        exact absurd (List.mem_replicate.mp (List.mem_of_getElem? hv)).2 hu
    have K := h (e := e) (below := below) C ⟨Nat.le_refl _, Nat.le_refl _⟩ s.heap [] _ hRe va_S.rf hLs ⟨Nat.le_refl _, h200⟩
    dsimp only at K
    rw [Nat.sub_self, Nat.sub_self] at K
    obtain ⟨t, a1, oo, b1, b2, b3⟩ := K s₁ hh0 (Stand.of_body B)
    refine ⟨t, oo, ?_, b1, b2, b3⟩
    rw [lg_entry_eq]
    exact a1
theorem mrLink {p : Program} {R : Room} {s : State} {mi : MethodId} {args : Array Value} {meth : Method} {c : Code} {m n0 : Nat} {P : Pl} {E : Xe} {d q j b cc : Nat} (C : Cx p R s mi args meth c m P E n0) (h : mrL[d]? = some (ow m, q, j, b, cc)) (h3 : cc < 3) : j < nM ∧ 1 ≤ j ∧ b = npar j ∧ (Cond.methodLink (cn (ow m)) q (yO j)).before args s = true ∧ (if cc = 0 then sm j = 1 else if cc = 1 then sm j = 0 ∧ (yO j).name ≠ "<init>" else sm j = 0 ∧ (yO j).name = "<init>" ∧ rt j = none) := by
  have hm := List.mem_of_getElem? h
  rcases mr_ok _ hm with e | ⟨e1, e2, e3, e4⟩
  · dsimp only at e; omega
  · dsimp only at e1 e2 e3 e4
    refine ⟨e1, e2, e3, C.2.2.2.2.2.1 _ (gt_in ?_ rfl), ?_⟩
    · have hi := mr_in _ hm
      unfold mrW at hi
      dsimp only at hi
      rw [if_neg (by omega), if_neg (by omega), if_neg (by omega), if_neg (by omega), if_neg (by omega), if_neg (by omega)] at hi
      exact hi
    · by_cases h0 : cc = 0
      · rw [if_pos (Or.inl h0)] at e4
        rw [if_pos h0]
        exact e4
      · rw [if_neg (by omega)] at e4
        rw [if_neg h0]
        exact e4
theorem mrNest {p : Program} {R : Room} {s : State} {mi : MethodId} {args : Array Value} {meth : Method} {c : Code} {m n0 : Nat} {P : Pl} {E : Xe} {d q j b cc : Nat} (C : Cx p R s mi args meth c m P E n0) (h : mrL[d]? = some (ow m, q, j, b, cc)) (h3 : cc = 3 ∨ cc = 5) : j < nM ∧ 1 ≤ j ∧ b = npar j ∧ (∃ host, va_Nw (Cond.methodLinkNest (cn (ow m)) q (yO j) host) s) ∧ (if cc = 3 then sm j = 1 else sm j = 0 ∧ (yO j).name = "<init>" ∧ rt j = none) := by
  have hm := List.mem_of_getElem? h
  rcases mr_ok _ hm with e | ⟨e1, e2, e3, e4⟩
  · dsimp only at e; omega
  · dsimp only at e1 e2 e3 e4
    have hn := C.2.2.2.2.2.2.2.2.2.1.2.2.2.2.2.2.1 _ hm (by dsimp only; omega)
    unfold mrW at hn
    dsimp only at hn
    rw [if_neg (by omega), if_neg (by omega), if_neg (by omega), if_neg (by omega), if_neg (by omega), if_pos (by omega)] at hn
    refine ⟨e1, e2, e3, ⟨_, hn⟩, ?_⟩
    by_cases h0 : cc = 3
    · rw [if_pos (Or.inr h0)] at e4
      rw [if_pos h0]
      exact e4
    · rw [if_neg (by omega), if_neg (by omega)] at e4
      rw [if_neg h0]
      exact e4
