/-! SOUNDNESS, the induction -/
def Snd (E : Xe) (l : Launch) (f : Nat) : Prop := ∀ (m : Nat) (fr : Fr) (o : Outcome) (w1 : Wd), ex E f m fr = some (o, w1) → m < nM → (fr.2.2.2.1 ≤ w1.1 ∧ (fr.2.2.2.1 ≤ 200 → w1.1 ≤ 200)) ∧ ∀ {p : Program} {e : Env} {R : Room} {s : State} {mi : MethodId} {args : Array Value} {below : List Frame} {meth : Method} {c : Code} {P : Pl} {n0 : Nat}, Cx p R s mi args meth c m P E n0 → (w1.1 - n0 ≤ R.cells ∧ slo w1.1 - slo n0 ≤ R.slots) → (m = 0 → ∃ v, o = .returned v) → Wst p l e R s mi args below meth c m P n0 (Mx below P o w1 n0 args s) fr
/-- the row for new Wrong(): three instructions at once -/
def WrOk (E : Xe) (l : Launch) : Prop := ∀ {p : Program} {e : Env} {R : Room} {s : State} {mi : MethodId} {args : Array Value} {below : List Frame} {meth : Method} {c : Code} {m n0 : Nat} {P : Pl} {Q : State → Prop} {pc n b cc d q : Nat} {v : Int32} {ls st : List Value} {w : Wd}, Cx p R s mi args meth c m P E n0 → (cdO m)[pc]? = some (.new q, n, 14, b, cc, d, v) → shc w.1 = 14 → catS st ≤ 7 → (w.1 + 1 - n0 ≤ R.cells ∧ slo (w.1 + 1) - slo n0 ≤ R.slots) → Wst p l e R s mi args below meth c m P n0 Q (pc + 7, ls, .ref w.1 :: st, (w.1 + 1, clr w.2.1 w.1 false, clr w.2.2.1 w.1 0, clr w.2.2.2 w.1 none)) → Wst p l e R s mi args below meth c m P n0 Q (pc, ls, st, w)
theorem cl1_s {i : Instr} {n a b c d j : Nat} {v : Int32} {st as r : List Value} {w : Wd} (hc : c = 0 ∨ c = 3) (h : cl1 (i, n, a, b, c, d, v) st w = some (j, as, r)) : j = a ∧ st = as.reverse ++ r ∧ as.length = b ∧ catS r ≤ 8 ∧ (∀ x ∈ as, is1 x = true) ∧ b + 1 ≤ mx a + sm a := by
  unfold cl1 at h
  dsimp only at h
  split at h
  · rename_i hb
    simp only [Bool.and_eq_true] at hb
    have hb1 := Nat.le_of_ble_eq_true hb.1.1
    have hb2 := List.all_eq_true.mp hb.1.2
    have hb3 := Nat.le_of_ble_eq_true hb.2
    rw [if_pos (by rcases hc with rfl | rfl <;> rfl)] at h
    split at h
    · rename_i hcat
      cases h
      refine ⟨rfl, by rw [List.reverse_reverse, List.take_append_drop], by simp; omega, hcat, fun x hx => hb2 x (List.mem_reverse.mp hx), hb3⟩
    · cases h
  · cases h
theorem cl1_v {i : Instr} {n a b c d j : Nat} {v : Int32} {st as r : List Value} {w : Wd} (hc0 : c ≠ 0) (hc3 : c ≠ 3) (h : cl1 (i, n, a, b, c, d, v) st w = some (j, as, r)) : j = a ∧ ∃ x As, as = x :: As ∧ st = As.reverse ++ x :: r ∧ As.length = b ∧ catS r ≤ 8 ∧ (∀ y ∈ As, is1 y = true) ∧ b + 1 ≤ mx a + sm a ∧ ((∃ k, x = .ref k ∧ k < w.1 ∧ shc k = ow a) ∨ (∃ k, x = .retAddr k ∧ isXS k = true ∧ ow a = cStr)) := by
  unfold cl1 at h
  dsimp only at h
  split at h
  · rename_i hb
    simp only [Bool.and_eq_true] at hb
    have hb1 := Nat.le_of_ble_eq_true hb.1.1
    have hb2 := List.all_eq_true.mp hb.1.2
    have hb3 := Nat.le_of_ble_eq_true hb.2
    rw [if_neg (by
      intro z
      simp only [Bool.or_eq_true] at z
      rcases z with z | z
      · exact hc0 (Nat.eq_of_beq_eq_true z)
      · exact hc3 (Nat.eq_of_beq_eq_true z))] at h
    have hst := List.take_append_drop b st
    split at h
    · rename_i k r' hdr
      split at h
      · rename_i hk
        simp only [Bool.and_eq_true] at hk
        cases h
        refine ⟨rfl, _, _, rfl, by rw [List.reverse_reverse, ← hdr, hst], by simp; omega, Nat.le_of_ble_eq_true hk.2, fun x hx => hb2 x (List.mem_reverse.mp hx), hb3, Or.inl ⟨k, rfl, blt_lt hk.1.1, Nat.eq_of_beq_eq_true hk.1.2⟩⟩
      · cases h
    · rename_i k r' hdr
      split at h
      · rename_i hk
        simp only [Bool.and_eq_true] at hk
        cases h
        refine ⟨rfl, _, _, rfl, by rw [List.reverse_reverse, ← hdr, hst], by simp; omega, Nat.le_of_ble_eq_true hk.2, fun x hx => hb2 x (List.mem_reverse.mp hx), hb3, Or.inr ⟨k, rfl, hk.1.1, Nat.eq_of_beq_eq_true hk.1.2⟩⟩
      · cases h
    · cases h
  · cases h
theorem ex_text {E : Xe} : ∀ (f : Nat) (fr : Fr) (o : Outcome) (w1 : Wd), ex E f mText fr = some (o, w1) → ∃ v, o = .returned v := by
  intro f
  induction f with
  | zero => intro fr o w1 h; simp [ex] at h
  | succ f ih =>
    intro fr o w1 h
    obtain ⟨pc, ls, st, w⟩ := fr
    unfold ex at h
    split at h
    · cases h
    · rename_i e he
      split at h
      · split at h
        · cases h; exact ⟨_, rfl⟩
        · cases h
      · split at h
        · split at h
          · split at h
            · exact ih _ _ _ h
            · cases h
          · split at h
            · cases h
            · split at h
              · cases h
              · exact ih _ _ _ h
              · split at h
                · split at h
                  · exact ih _ _ _ h
                  · rw [if_pos (show Nat.beq mText mText = true by decide)] at h
                    cases h
                · cases h
        · split at h
          · split at h
            · split at h
              · exact ih _ _ _ h
              · rw [if_pos (show Nat.beq mText mText = true by decide)] at h
                cases h
            · cases h
          · split at h
            · exact ih _ _ _ h
            · cases h
theorem sm_01 : ∀ j, j < nM → sm j ≤ 1 := by decide +kernel
theorem hR_of {R : Room} {w1 w2 : Wd} {n0 : Nat} (h : w2.1 ≤ w1.1) (hR : w1.1 - n0 ≤ R.cells ∧ slo w1.1 - slo n0 ≤ R.slots) : w2.1 - n0 ≤ R.cells ∧ slo w2.1 - slo n0 ≤ R.slots := by
  have := slo_mono h
  omega
theorem call_sound {E : Xe} {l : Launch} {f : Nat} (ih : Snd E l f) {m pc : Nat} {ls st : List Value} {w w1 : Wd} {o : Outcome} {i : Instr} {n a b c d : Nat} {v : Int32} (hm : m < nM) (hd : decode (bO m) pc = .ok (i, n)) (ha : auxE m pc (i, n, a, b, c, d, v) = true) (hcl : isCl i = true) (hc6 : ¬ Nat.ble 6 c = true) {j : Nat} {as r : List Value} (hx : cl1 (i, n, a, b, c, d, v) st w = some (j, as, r))
    (h : (match ex E f j (0, loc0 j as, [], w) with
          | none => none
          | some (.returned v, w1) => ex E f m (pc + 3, ls, v.toList ++ r, w1)
          | some (.threw k, w1) => if Nat.beq c 1 && Nat.blt k w1.1 && isR as then (match hnd m pc k with
            | some h => ex E f m (h, ls, [.ref k], w1)
            | none => if Nat.beq m mText then none else some (.threw k, w1)) else none) = some (o, w1)) :
    (w.1 ≤ w1.1 ∧ (w.1 ≤ 200 → w1.1 ≤ 200)) ∧ ∀ {p : Program} {e : Env} {R : Room} {s : State} {mi : MethodId} {args : Array Value} {below : List Frame} {meth : Method} {c : Code} {P : Pl} {n0 : Nat}, Cx p R s mi args meth c m P E n0 → (w1.1 - n0 ≤ R.cells ∧ slo w1.1 - slo n0 ≤ R.slots) → (m = 0 → ∃ v, o = .returned v) → Wst p l e R s mi args below meth c m P n0 (Mx below P o w1 n0 args s) (pc, ls, st, w) := by
  have hc5 : c < 6 := by
    rcases Nat.lt_or_ge c 6 with z | z
    · exact z
    · exact absurd (Nat.ble_eq_true_of_le z) hc6
  have hjl : j < nM ∧ 1 ≤ j := by
    have hja : j = a := by
      by_cases h0 : c = 0 ∨ c = 3
      · exact (cl1_s h0 hx).1
      · exact (cl1_v (fun z => h0 (Or.inl z)) (fun z => h0 (Or.inr z)) hx).1
    have hmem : ∃ q, mrL[d]? = some (ow m, q, a, b, c) := by
      cases i <;> first | (cases hcl; done) | skip
      all_goals (simp only [auxE, Bool.and_eq_true, decide_eq_true_eq] at ha)
      · exact ⟨_, ha.1.2⟩
      · exact ⟨_, ha.1.2⟩
      · exact ⟨_, ha.1.1.1.2⟩
    obtain ⟨q, hq⟩ := hmem
    rcases mr_ok _ (List.mem_of_getElem? hq) with z | z
    · dsimp only at z; omega
    · rw [hja]; exact ⟨z.1, z.2.1⟩
  cases hres : ex E f j (0, loc0 j as, [], w) with
  | none => rw [hres] at h; cases h
  | some res =>
    obtain ⟨oj, w2⟩ := res
    rw [hres] at h
    obtain ⟨hw2, hS⟩ := ih j (0, loc0 j as, [], w) oj w2 hres hjl.1
    dsimp only at hw2
    cases oj with
    | returned vj =>
      dsimp only at h
      obtain ⟨hw1, hT⟩ := ih m (pc + 3, ls, vj.toList ++ r, w2) o w1 h hm
      dsimp only at hw1
      refine ⟨⟨Nat.le_trans hw2.1 hw1.1, fun z => hw1.2 (hw2.2 z)⟩, ?_⟩
      intro p e R s mi args below meth cc P n0 C hR hz
      by_cases h200 : w.1 ≤ 200
      · have hRj := hR_of (R := R) (n0 := n0) hw1.1 hR
        have kk := hT (e := e) (below := below) C hR hz
        have hM : ∀ (_ : ∀ x ∈ as, is1 x = true) (_ : as.length ≤ mx j), Ct l E P j as w (.returned vj) w2 := fun q1 q2 => ct_of hjl.1 hjl.2 h200 q1 q2 (fun C' hR' => hS C' hR' (fun z => by omega))
        cases i with
        | invokestatic q =>
          simp only [auxE, Bool.and_eq_true, decide_eq_true_eq] at ha
          obtain rfl : n = 3 := Nat.eq_of_beq_eq_true ha.1.1
          have ha2 := ha.2
          rw [if_neg (by intro z; have := Nat.le_of_ble_eq_true z; omega)] at ha2
          simp only [Bool.and_eq_true, Bool.or_eq_true] at ha2
          have hc03 : c = 0 ∨ c = 3 := by
            rcases ha2.1.1 with z | z
            · exact Or.inl (Nat.eq_of_beq_eq_true z)
            · exact Or.inr (Nat.eq_of_beq_eq_true z)
          obtain ⟨rfl, rfl, hb, hcat, hone, hmx⟩ := cl1_s hc03 hx
          have hf := Nat.le_of_ble_eq_true ha2.1.2
          have hlo := Nat.le_of_ble_eq_true ha2.2
          have hjt : j ≠ mText := fun z => by have := txt_virt _ (List.mem_of_getElem? ha.1.2) z; dsimp only at this; omega
          have hs1 := sm_01 j hjl.1
          have hct := hM hone (by omega)
          rcases hc03 with rfl | rfl
          · obtain ⟨e1, e2, e3, e4, e5⟩ := mrLink C ha.1.2 (by omega)
            rw [if_pos rfl] at e5
            exact c_stat C hd e4 e1 e2 hjt e5 (by omega) hf hlo hcat hct hw2.1 hw2.2 hRj kk
          · obtain ⟨e1, e2, e3, ⟨host, e4⟩, e5⟩ := mrNest C ha.1.2 (Or.inl rfl)
            rw [if_pos rfl] at e5
            exact c_statN C hd e4 e1 e2 hjt e5 (by omega) hf hlo hcat hct hw2.1 hw2.2 hRj kk
        | invokevirtual q =>
          simp only [auxE, Bool.and_eq_true, decide_eq_true_eq] at ha
          obtain rfl : n = 3 := Nat.eq_of_beq_eq_true ha.1.1.1.1
          obtain rfl : c = 1 := Nat.eq_of_beq_eq_true ha.1.1.2
          obtain ⟨rfl, x, As, rfl, rfl, hb, hcat, hone, hmx, hrec⟩ := cl1_v (by decide) (by decide) hx
          have hf := Nat.le_of_ble_eq_true ha.1.2
          have hlo := Nat.le_of_ble_eq_true ha.2
          obtain ⟨e1, e2, e3, e4, e5⟩ := mrLink C ha.1.1.1.2 (by omega)
          rw [if_neg (by decide), if_pos rfl] at e5
          have hct : Ct l E P j (x :: As) w (.returned vj) w2 := hM (fun y hy => by
            rcases List.mem_cons.mp hy with rfl | z
            · rcases hrec with ⟨k, rfl, -⟩ | ⟨k, rfl, -⟩ <;> rfl
            · exact hone y z) (by simp; omega)
          rcases hrec with ⟨k, rfl, hk, hs⟩ | ⟨k, rfl, hk, hs⟩
          · have hs15 : shc k < 15 := by
              have := shc_kind k (Nat.lt_of_lt_of_le hk h200)
              have := ow_lt j hjl.1
              omega
            by_cases hjt : j = mText
            · subst hjt
              have hnp : As = [] := List.eq_nil_of_length_eq_zero (by rw [hb, e3]; exact txt_ok.2.2.2.2.1)
              subst hnp
              exact c_text C hd e4 hf hlo hk hs hcat hct hw2.1 hw2.2 hRj kk
            · exact c_virt C hd e4 e1 e2 hjt e5.1 e5.2 (by omega) hf hlo hk hs hs15 hcat hct hw2.1 hw2.2 hRj kk
          · have hjt : j ≠ mText := fun z => by
              rw [z, txt_ok.2.2.2.2.2] at hs
              exact absurd hs (by decide)
            exact c_virtS C hd e4 e1 e2 hjt e5.1 e5.2 (by omega) hf hlo hk hs hcat hct hw2.1 hw2.2 hRj kk
        | invokespecial q =>
          simp only [auxE, Bool.and_eq_true, decide_eq_true_eq] at ha
          obtain rfl : n = 3 := Nat.eq_of_beq_eq_true ha.1.1
          have ha2 := ha.2
          rw [if_neg hc6] at ha2
          simp only [Bool.and_eq_true, Bool.or_eq_true] at ha2
          have hc25 : c = 2 ∨ c = 5 := by
            rcases ha2.1.1 with z | z
            · exact Or.inl (Nat.eq_of_beq_eq_true z)
            · exact Or.inr (Nat.eq_of_beq_eq_true z)
          obtain ⟨rfl, x, As, rfl, rfl, hb, hcat, hone, hmx, hrec⟩ := cl1_v (by omega) (by omega) hx
          have hf := Nat.le_of_ble_eq_true ha2.1.2
          have hlo := Nat.le_of_ble_eq_true ha2.2
          have hjt : j ≠ mText := fun z => by have := txt_virt _ (List.mem_of_getElem? ha.1.2) z; dsimp only at this; omega
          have hct : Ct l E P j (x :: As) w (.returned vj) w2 := hM (fun y hy => by
            rcases List.mem_cons.mp hy with rfl | z
            · rcases hrec with ⟨k, rfl, -⟩ | ⟨k, rfl, -⟩ <;> rfl
            · exact hone y z) (by
              simp
              have : sm j = 0 := by
                rcases hc25 with rfl | rfl
                · obtain ⟨-, -, -, -, e5⟩ := mrLink C ha.1.2 (by omega)
                  rw [if_neg (by decide), if_neg (by decide)] at e5
                  exact e5.1
                · obtain ⟨-, -, -, -, e5⟩ := mrNest C ha.1.2 (Or.inr rfl)
                  rw [if_neg (by decide)] at e5
                  exact e5.1
              omega)
          rcases hrec with ⟨k, rfl, hk, hs⟩ | ⟨k, rfl, hk, hs⟩
          · rcases hc25 with rfl | rfl
            · obtain ⟨e1, e2, e3, e4, e5⟩ := mrLink C ha.1.2 (by omega)
              rw [if_neg (by decide), if_neg (by decide)] at e5
              exact c_init C hd e4 e1 e2 hjt e5.1 e5.2.1 e5.2.2 (by omega) hf hlo hcat hct hw2.1 hw2.2 hRj kk
            · obtain ⟨e1, e2, e3, ⟨host, e4⟩, e5⟩ := mrNest C ha.1.2 (Or.inr rfl)
              rw [if_neg (by decide)] at e5
              exact c_initN C hd e4 e1 e2 hjt e5.1 e5.2.1 e5.2.2 (by omega) hf hlo hcat hct hw2.1 hw2.2 hRj kk
          · exfalso
            have h1 := str_ninit j hjl.1 hs
            rcases hc25 with rfl | rfl
            · obtain ⟨-, -, -, -, e5⟩ := mrLink C ha.1.2 (by omega)
              rw [if_neg (by decide), if_neg (by decide)] at e5
              exact h1 e5.2.1
            · obtain ⟨-, -, -, -, e5⟩ := mrNest C ha.1.2 (Or.inr rfl)
              rw [if_neg (by decide)] at e5
              exact h1 e5.2.1
        | _ => cases hcl
      · exact fun H locs la h1 h2 h3 h4 => absurd h4.2 h200
    | threw k =>
      dsimp only at h
      split at h
      · rename_i hck
        simp only [Bool.and_eq_true] at hck
        obtain rfl : c = 1 := Nat.eq_of_beq_eq_true hck.1.1
        have hkw := blt_lt hck.1.2
        cases i with
        | invokevirtual q =>
          simp only [auxE, Bool.and_eq_true, decide_eq_true_eq] at ha
          obtain rfl : n = 3 := Nat.eq_of_beq_eq_true ha.1.1.1.1
          obtain ⟨rfl, x, As, rfl, rfl, hb, hcat, hone, hmx, hrec⟩ := cl1_v (by decide) (by decide) hx
          have hf := Nat.le_of_ble_eq_true ha.1.2
          have hlo := Nat.le_of_ble_eq_true ha.2
          obtain ⟨kr, rfl⟩ : ∃ kr, x = .ref kr := by
            have h3 := hck.2
            cases x <;> first | (exact ⟨_, rfl⟩) | (cases h3)
          obtain ⟨hk, hs⟩ : kr < w.1 ∧ shc kr = ow j := by
            rcases hrec with ⟨k', e1, e2, e3⟩ | ⟨k', e1, -⟩
            · cases e1; exact ⟨e2, e3⟩
            · cases e1
          have main : ∀ {p : Program} {e : Env} {R : Room} {s : State} {mi : MethodId} {args : Array Value} {below : List Frame} {meth : Method} {c : Code} {P : Pl} {n0 : Nat} {Q : State → Prop}, Cx p R s mi args meth c m P E n0 → (w2.1 - n0 ≤ R.cells ∧ slo w2.1 - slo n0 ≤ R.slots) → Thr p l e R s mi args below meth c m P n0 Q pc ls k w2 → Wst p l e R s mi args below meth c m P n0 Q (pc, ls, As.reverse ++ .ref kr :: r, w) := by
            intro p e R s mi args below meth c P n0 Q C hR2 hthr
            by_cases h200 : w.1 ≤ 200
            · obtain ⟨e1, e2, e3, e4, e5⟩ := mrLink C ha.1.1.1.2 (by omega)
              rw [if_neg (by decide), if_pos rfl] at e5
              have hs15 : shc kr < 15 := by
                have := shc_kind kr (Nat.lt_of_lt_of_le hk h200)
                have := ow_lt j hjl.1
                omega
              have hct : Ct l E P j (.ref kr :: As) w (.threw k) w2 := ct_of hjl.1 hjl.2 h200 (fun y hy => by
                rcases List.mem_cons.mp hy with rfl | z
                · rfl
                · exact hone y z) (by simp; omega) (fun C' hR' => hS C' hR' (fun z => by omega))
              have hjt : j ≠ mText := by
                intro z
                rw [z] at hres
                obtain ⟨v, hv⟩ := ex_text f _ _ _ hres
                cases hv
              exact c_thr C hd e4 e1 e2 hjt e5.1 e5.2 (by omega) hf hlo hk hs hs15 hcat hct hw2.1 hw2.2 hR2 hthr
            · exact fun H locs la h1 h2 h3 h4 => absurd h4.2 h200
          split at h
          · rename_i hh hhd
            obtain ⟨hw1, hT⟩ := ih m (hh, ls, [.ref k], w2) o w1 h hm
            dsimp only at hw1
            refine ⟨⟨Nat.le_trans hw2.1 hw1.1, fun z => hw1.2 (hw2.2 z)⟩, ?_⟩
            intro p e R s mi args below meth cc P n0 C hR hz
            unfold hnd at hhd
            split at hhd
            · rename_i hcnd
              simp only [Bool.and_eq_true] at hcnd
              cases hhd
              exact main C (hR_of hw1.1 hR) (t_catch C (Nat.eq_of_beq_eq_true hcnd.1.1.1) (Nat.le_of_ble_eq_true hcnd.1.1.2) (blt_lt hcnd.1.2) hkw (Nat.eq_of_beq_eq_true hcnd.2) (hT C hR hz))
            · cases hhd
          · split at h
            · cases h
            · rename_i hnt
              cases h
              refine ⟨hw2, ?_⟩
              intro p e R s mi args below meth cc P n0 C hR hz
              have hm0 : m ≠ 0 := fun z => by obtain ⟨v, hv⟩ := hz z; cases hv
              exact main C hR (t_out C (fun z => hnt (by rw [z]; rfl)) hm0)
        | invokestatic q =>
          simp only [auxE, Bool.and_eq_true, decide_eq_true_eq] at ha
          have ha2 := ha.2
          rw [if_neg (by decide)] at ha2
          simp at ha2
        | invokespecial q =>
          simp only [auxE, Bool.and_eq_true, decide_eq_true_eq] at ha
          have ha2 := ha.2
          rw [if_neg (by decide)] at ha2
          simp at ha2
        | _ => cases hcl
      · cases h
theorem prim_sound {E : Xe} {l : Launch} {f : Nat} (ih : Snd E l f) {m pc : Nat} {ls st r : List Value} {w w1 : Wd} {o : Outcome} {i : Instr} {n a b c d : Nat} {v : Int32} (hm : m < nM) (hd : decode (bO m) pc = .ok (i, n)) (ha : auxE m pc (i, n, a, b, c, d, v) = true) (hcl : isCl i = true) (hc6 : Nat.ble 6 c = true) (hx : pr1 c st = some r) (h : ex E f m (pc + 3, ls, r, w) = some (o, w1)) :
    (w.1 ≤ w1.1 ∧ (w.1 ≤ 200 → w1.1 ≤ 200)) ∧ ∀ {p : Program} {e : Env} {R : Room} {s : State} {mi : MethodId} {args : Array Value} {below : List Frame} {meth : Method} {c : Code} {P : Pl} {n0 : Nat}, Cx p R s mi args meth c m P E n0 → (w1.1 - n0 ≤ R.cells ∧ slo w1.1 - slo n0 ≤ R.slots) → (m = 0 → ∃ v, o = .returned v) → Wst p l e R s mi args below meth c m P n0 (Mx below P o w1 n0 args s) (pc, ls, st, w) := by
  obtain ⟨hw1, hT⟩ := ih m (pc + 3, ls, r, w) o w1 h hm
  dsimp only at hw1
  refine ⟨hw1, ?_⟩
  intro p e R s mi args below meth cc P n0 C hR hz
  have kk := hT (e := e) (below := below) C hR hz
  have hRw := hR_of (R := R) (n0 := n0) hw1.1 hR
  have h6 := Nat.le_of_ble_eq_true hc6
  cases i with
  | invokevirtual q =>
    simp only [auxE, Bool.and_eq_true, decide_eq_true_eq] at ha
    have : c = 1 := Nat.eq_of_beq_eq_true ha.1.1.2
    omega
  | invokestatic q =>
    simp only [auxE, Bool.and_eq_true, decide_eq_true_eq] at ha
    obtain rfl : n = 3 := Nat.eq_of_beq_eq_true ha.1.1
    have ha2 := ha.2
    have hmem := List.mem_of_getElem? ha.1.2
    have hin := mr_in _ hmem
    unfold mrW at hin
    dsimp only at hin
    have h8 : 8 ≤ c := by
      rcases Nat.lt_or_ge c 8 with z | z
      · rw [if_neg (by intro y; have := Nat.le_of_ble_eq_true y; omega)] at ha2
        simp only [Bool.and_eq_true, Bool.or_eq_true] at ha2
        rcases ha2.1.1 with y | y
        · have := Nat.eq_of_beq_eq_true y; omega
        · have := Nat.eq_of_beq_eq_true y; omega
      · exact z
    rw [if_pos (Nat.ble_eq_true_of_le h8)] at ha2
    simp only [Bool.and_eq_true] at ha2
    have h10 := Nat.le_of_ble_eq_true ha2.1.1
    have hf := Nat.le_of_ble_eq_true ha2.1.2
    have hlo := Nat.le_of_ble_eq_true ha2.2
    rw [if_neg (by omega), if_neg (by omega)] at hin
    unfold pr1 at hx
    split at hx
    · rename_i e8
      rw [if_pos e8] at hin
      split at hx
      · split at hx
        · rename_i hcat
          cases hx
          exact c_max C hd (C.2.2.2.2.2.1 _ (gt_in hin rfl)) hf hlo (Nat.le_of_ble_eq_true hcat) hRw kk
        · cases hx
      · cases hx
    · rename_i e8
      rw [if_neg e8] at hin
      split at hx
      · rename_i e9
        rw [if_pos e9] at hin
        split at hx
        · split at hx
          · rename_i hcat
            cases hx
            exact c_min C hd (C.2.2.2.2.2.1 _ (gt_in hin rfl)) hf hlo (Nat.le_of_ble_eq_true hcat) hRw kk
          · cases hx
        · cases hx
      · rename_i e9
        rw [if_neg e9] at hin
        split at hx
        · rename_i e10
          rw [if_pos e10] at hin
          split at hx
          · split at hx
            · rename_i hcat
              cases hx
              exact c_minL C hd (C.2.2.2.2.2.1 _ (gt_in hin rfl)) hf hlo (Nat.le_of_ble_eq_true hcat) hRw kk
            · cases hx
          · cases hx
        · omega
  | invokespecial q =>
    simp only [auxE, Bool.and_eq_true, decide_eq_true_eq] at ha
    obtain rfl : n = 3 := Nat.eq_of_beq_eq_true ha.1.1
    have ha2 := ha.2
    have hin := mr_in _ (List.mem_of_getElem? ha.1.2)
    unfold mrW at hin
    dsimp only at hin
    rw [if_pos hc6] at ha2
    simp only [Bool.and_eq_true, Bool.or_eq_true] at ha2
    have hf := Nat.le_of_ble_eq_true ha2.1.2
    have hlo := Nat.le_of_ble_eq_true ha2.2
    have h67 : c = 6 ∨ c = 7 := by
      rcases ha2.1.1 with z | z
      · exact Or.inl (Nat.eq_of_beq_eq_true z)
      · exact Or.inr (Nat.eq_of_beq_eq_true z.1.1.1)
    unfold pr1 at hx
    rw [if_neg (by omega), if_neg (by omega), if_neg (by omega)] at hx
    split at hx
    · rename_i e6
      rw [if_pos e6] at hin
      split at hx
      · split at hx
        · rename_i hcat
          cases hx
          exact c_obj C hd (C.2.2.2.2.2.1 _ (gt_in hin rfl)) hf hlo (Nat.le_of_ble_eq_true hcat) kk
        · cases hx
      · cases hx
    · cases hx
  | _ => cases hcl
