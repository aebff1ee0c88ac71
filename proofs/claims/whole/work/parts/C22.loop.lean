/-! THE LAW'S LOOP -/
def lw (i : Nat) : List Value := [.retAddr 0, .ref 0, .ref 82, .int (Int32.ofNat i)]
theorem swT_mem {l : List (Int32 × Nat)} {d : Nat} {x : Int32} : swT l d x = d ∨ ∃ q ∈ l, swT l d x = q.2 := by
  induction l with
  | nil => exact Or.inl rfl
  | cons q l ih =>
    obtain ⟨k, t⟩ := q
    rw [swT]
    split
    · exact Or.inr ⟨(k, t), List.mem_cons_self, rfl⟩
    · rcases ih with h | ⟨q, hq, h⟩
      · exact Or.inl h
      · exact Or.inr ⟨q, List.mem_cons_of_mem _ hq, h⟩
theorem st_il {L : Nat} {xs : Nat → Int32} {i j pc n a b c d : Nat} {v : Int32} {ls r : List Value} {y : Int32} {W : Wd} (hy : y = Int32.ofNat j) (h : i + j < L) (hL : L ≤ 384) : st1 (L, xs) (.iaload, n, a, b, c, d, v) pc ls (.int (Int32.ofNat i + y) :: .retAddr 0 :: r) W = some (pc + n, ls, .int (xs (i + j)) :: r, W) := by
  subst hy
  have e : Int32.ofNat i + Int32.ofNat j = Int32.ofNat (i + j) := (Int32.ofNat_add i j).symm
  rw [e]
  show (if isXI 0 = true then (if Int32.ofNat (i + j) < 0 ∨ xlen (L, xs) 0 ≤ (Int32.ofNat (i + j)).toNatClampNeg then none else some (pc + n, ls, .int (xval (L, xs) 0 (Int32.ofNat (i + j)).toNatClampNeg) :: r, W)) else none) = _
  rw [if_pos (show isXI 0 = true from rfl), i32_cl (by omega), if_neg]
  · rfl
  · rintro (z | z)
    · exact absurd ((i32_lt (a := i + j) (b := 0) (by omega) (by omega)).mp z) (Nat.not_lt_zero _)
    · have : L ≤ i + j := z
      omega
theorem st_i0 {L : Nat} {xs : Nat → Int32} {i pc n a b c d : Nat} {v : Int32} {ls r : List Value} {W : Wd} (h : i < L) (hL : L ≤ 384) : st1 (L, xs) (.iaload, n, a, b, c, d, v) pc ls (.int (Int32.ofNat i) :: .retAddr 0 :: r) W = some (pc + n, ls, .int (xs i) :: r, W) := by
  show (if isXI 0 = true then (if Int32.ofNat i < 0 ∨ xlen (L, xs) 0 ≤ (Int32.ofNat i).toNatClampNeg then none else some (pc + n, ls, .int (xval (L, xs) 0 (Int32.ofNat i).toNatClampNeg) :: r, W)) else none) = _
  rw [if_pos (show isXI 0 = true from rfl), i32_cl (by omega), if_neg]
  · rfl
  · rintro (z | z)
    · exact absurd ((i32_lt (a := i) (b := 0) (by omega) (by omega)).mp z) (Nat.not_lt_zero _)
    · have : L ≤ i := z
      omega
section
variable {L : Nat} {xs : Nat → Int32} {i N : Nat} {I : St} {R : Nat → Nat → Option Nat} {o : Outcome} {w : Wd}
def GoL (L : Nat) (xs : Nat → Int32) (i : Nat) (I : St) (R : Nat → Nat → Option Nat) : Prop := ∃ I1 R1, Rn (L, xs) 0 (18, lw i, [], wT I R) (.returned (some (.int 1))) (wT I1 R1)
set_option maxRecDepth 20000 in
theorem law_in (h : Rn (L, xs) 0 (18, lw (i + 6), [], wT I R) o w) : Rn (L, xs) 0 (637, lw i, [], wT I R) o w := by
  have e : Int32.ofNat (i + 6) = Int32.ofNat i + 6 := Int32.ofNat_add i 6
  unfold lw at h ⊢
  rw [e] at h
  exact Rn.run 2 rfl h

set_option maxRecDepth 20000 in
theorem law_feed (hL : L ≤ 384) (hi : i + 6 ≤ L) (hN : N + 20 ≤ 1280) (h : Inv N I R) (K : ∀ I R, Inv (N + 20) I R → GoL L xs (i + 6) I R) : ∃ I1 R1, Rn (L, xs) 0 (116, lw i, [], wT I R) (.returned (some (.int 1))) (wT I1 R1) := by
  obtain ⟨v, A, R1, B, R2, h1, h2, h3⟩ := two_feed (E := (L, xs)) h hN (xs (i + 1)) (xs (i + 2)) (xs (i + 3)) (xs (i + 4)) (xs (i + 5))
  obtain ⟨I9, R9, h9⟩ := K B R2 h3
  refine ⟨I9, R9, ?_⟩
  refine Rn.run 5 rfl ?_
  refine Rn.st rfl (by decide) (st_il (j := 1) rfl (by omega) hL) ?_
  refine Rn.run 4 rfl ?_
  refine Rn.st rfl (by decide) (st_il (j := 2) rfl (by omega) hL) ?_
  refine Rn.run 4 rfl ?_
  refine Rn.st rfl (by decide) (st_il (j := 3) rfl (by omega) hL) ?_
  refine Rn.run 4 rfl ?_
  refine Rn.st rfl (by decide) (st_il (j := 4) rfl (by omega) hL) ?_
  refine Rn.run 4 rfl ?_
  refine Rn.st rfl (by decide) (st_il (j := 5) rfl (by omega) hL) ?_
  refine Rn.call rfl rfl rfl rfl h1 ?_
  refine Rn.run 5 rfl ?_
  refine Rn.st rfl (by decide) (st_il (j := 1) rfl (by omega) hL) ?_
  refine Rn.run 4 rfl ?_
  refine Rn.st rfl (by decide) (st_il (j := 2) rfl (by omega) hL) ?_
  refine Rn.run 4 rfl ?_
  refine Rn.st rfl (by decide) (st_il (j := 3) rfl (by omega) hL) ?_
  refine Rn.run 4 rfl ?_
  refine Rn.st rfl (by decide) (st_il (j := 4) rfl (by omega) hL) ?_
  refine Rn.run 4 rfl ?_
  refine Rn.st rfl (by decide) (st_il (j := 5) rfl (by omega) hL) ?_
  refine Rn.call rfl rfl rfl rfl h2 ?_
  refine Rn.br rfl (by decide) rfl (fun _ => ?_) (fun hc => absurd rfl hc)
  exact law_in h9
set_option maxRecDepth 20000 in
theorem law_end (hL : L ≤ 384) (hi : i + 6 ≤ L) (h : Inv N I R) (K : ∀ I R, Inv (N + 20) I R → GoL L xs (i + 6) I R) : ∃ I1 R1, Rn (L, xs) 0 (179, lw i, [], wT I R) (.returned (some (.int 1))) (wT I1 R1) := by
  obtain ⟨v, A, R1, B, R2, h1, h2, h3⟩ := two_end (E := (L, xs)) h (xs (i + 1))
  obtain ⟨I9, R9, h9⟩ := K B R2 (h3.mo (by omega))
  refine ⟨I9, R9, ?_⟩
  refine Rn.run 5 rfl ?_
  refine Rn.st rfl (by decide) (st_il (j := 1) rfl (by omega) hL) ?_
  refine Rn.call rfl rfl rfl rfl h1 ?_
  refine Rn.run 5 rfl ?_
  refine Rn.st rfl (by decide) (st_il (j := 1) rfl (by omega) hL) ?_
  refine Rn.call rfl rfl rfl rfl h2 ?_
  refine Rn.br rfl (by decide) rfl (fun _ => ?_) (fun hc => absurd rfl hc)
  exact law_in h9
set_option maxRecDepth 20000 in
theorem law_text (hL : L ≤ 384) (hi : i + 6 ≤ L) (h : Inv N I R) (K : ∀ I R, Inv (N + 20) I R → GoL L xs (i + 6) I R) : ∃ I1 R1, Rn (L, xs) 0 (202, lw i, [], wT I R) (.returned (some (.int 1))) (wT I1 R1) := by
  obtain ⟨v, A, R1, B, R2, h1, h2, h3⟩ := two_text (E := (L, xs)) h 
  obtain ⟨I9, R9, h9⟩ := K B R2 (h3.mo (by omega))
  refine ⟨I9, R9, ?_⟩
  refine Rn.run 1 rfl ?_
  refine Rn.call rfl rfl rfl rfl h1 ?_
  refine Rn.run 1 rfl ?_
  refine Rn.call rfl rfl rfl rfl h2 ?_
  refine Rn.br rfl (by decide) rfl (fun _ => ?_) (fun hc => absurd rfl hc)
  exact law_in h9
set_option maxRecDepth 20000 in
theorem law_place (hL : L ≤ 384) (hi : i + 6 ≤ L) (h : Inv N I R) (K : ∀ I R, Inv (N + 20) I R → GoL L xs (i + 6) I R) : ∃ I1 R1, Rn (L, xs) 0 (215, lw i, [], wT I R) (.returned (some (.int 1))) (wT I1 R1) := by
  obtain ⟨v, A, R1, B, R2, h1, h2, h3⟩ := two_place (E := (L, xs)) h 
  obtain ⟨I9, R9, h9⟩ := K B R2 (h3.mo (by omega))
  refine ⟨I9, R9, ?_⟩
  refine Rn.run 1 rfl ?_
  refine Rn.call rfl rfl rfl rfl h1 ?_
  refine Rn.run 1 rfl ?_
  refine Rn.call rfl rfl rfl rfl h2 ?_
  refine Rn.br rfl (by decide) rfl (fun _ => ?_) (fun hc => absurd rfl hc)
  exact law_in h9
set_option maxRecDepth 20000 in
theorem law_flows (hL : L ≤ 384) (hi : i + 6 ≤ L) (h : Inv N I R) (K : ∀ I R, Inv (N + 20) I R → GoL L xs (i + 6) I R) : ∃ I1 R1, Rn (L, xs) 0 (228, lw i, [], wT I R) (.returned (some (.int 1))) (wT I1 R1) := by
  obtain ⟨v, A, R1, B, R2, h1, h2, h3⟩ := two_flows (E := (L, xs)) h (xs (i + 1))
  obtain ⟨I9, R9, h9⟩ := K B R2 (h3.mo (by omega))
  refine ⟨I9, R9, ?_⟩
  refine Rn.run 5 rfl ?_
  refine Rn.st rfl (by decide) (st_il (j := 1) rfl (by omega) hL) ?_
  refine Rn.call rfl rfl rfl rfl h1 ?_
  refine Rn.run 5 rfl ?_
  refine Rn.st rfl (by decide) (st_il (j := 1) rfl (by omega) hL) ?_
  refine Rn.call rfl rfl rfl rfl h2 ?_
  refine Rn.br rfl (by decide) rfl (fun _ => ?_) (fun hc => absurd rfl hc)
  exact law_in h9
set_option maxRecDepth 20000 in
theorem law_policy (hL : L ≤ 384) (hi : i + 6 ≤ L) (h : Inv N I R) (K : ∀ I R, Inv (N + 20) I R → GoL L xs (i + 6) I R) : ∃ I1 R1, Rn (L, xs) 0 (251, lw i, [], wT I R) (.returned (some (.int 1))) (wT I1 R1) := by
  obtain ⟨v, A, R1, B, R2, h1, h2, h3⟩ := two_policy (E := (L, xs)) h (xs (i + 1)) (xs (i + 2))
  obtain ⟨I9, R9, h9⟩ := K B R2 (h3.mo (by omega))
  refine ⟨I9, R9, ?_⟩
  refine Rn.run 5 rfl ?_
  refine Rn.st rfl (by decide) (st_il (j := 1) rfl (by omega) hL) ?_
  refine Rn.run 4 rfl ?_
  refine Rn.st rfl (by decide) (st_il (j := 2) rfl (by omega) hL) ?_
  refine Rn.call rfl rfl rfl rfl h1 ?_
  refine Rn.run 5 rfl ?_
  refine Rn.st rfl (by decide) (st_il (j := 1) rfl (by omega) hL) ?_
  refine Rn.run 4 rfl ?_
  refine Rn.st rfl (by decide) (st_il (j := 2) rfl (by omega) hL) ?_
  refine Rn.call rfl rfl rfl rfl h2 ?_
  refine Rn.br rfl (by decide) rfl (fun _ => ?_) (fun hc => absurd rfl hc)
  exact law_in h9
set_option maxRecDepth 20000 in
theorem law_input (hL : L ≤ 384) (hi : i + 6 ≤ L) (h : Inv N I R) (K : ∀ I R, Inv (N + 20) I R → GoL L xs (i + 6) I R) : ∃ I1 R1, Rn (L, xs) 0 (284, lw i, [], wT I R) (.returned (some (.int 1))) (wT I1 R1) := by
  obtain ⟨v, A, R1, B, R2, h1, h2, h3⟩ := two_input (E := (L, xs)) h (xs (i + 1)) (xs (i + 2))
  obtain ⟨I9, R9, h9⟩ := K B R2 (h3.mo (by omega))
  refine ⟨I9, R9, ?_⟩
  refine Rn.run 5 rfl ?_
  refine Rn.st rfl (by decide) (st_il (j := 1) rfl (by omega) hL) ?_
  refine Rn.run 4 rfl ?_
  refine Rn.st rfl (by decide) (st_il (j := 2) rfl (by omega) hL) ?_
  refine Rn.call rfl rfl rfl rfl h1 ?_
  refine Rn.run 5 rfl ?_
  refine Rn.st rfl (by decide) (st_il (j := 1) rfl (by omega) hL) ?_
  refine Rn.run 4 rfl ?_
  refine Rn.st rfl (by decide) (st_il (j := 2) rfl (by omega) hL) ?_
  refine Rn.call rfl rfl rfl rfl h2 ?_
  refine Rn.br rfl (by decide) rfl (fun _ => ?_) (fun hc => absurd rfl hc)
  exact law_in h9
set_option maxRecDepth 20000 in
theorem law_argument (hL : L ≤ 384) (hi : i + 6 ≤ L) (h : Inv N I R) (K : ∀ I R, Inv (N + 20) I R → GoL L xs (i + 6) I R) : ∃ I1 R1, Rn (L, xs) 0 (317, lw i, [], wT I R) (.returned (some (.int 1))) (wT I1 R1) := by
  obtain ⟨v, A, R1, B, R2, h1, h2, h3⟩ := two_argument (E := (L, xs)) h (xs (i + 1)) (xs (i + 2)) (xs (i + 3))
  obtain ⟨I9, R9, h9⟩ := K B R2 (h3.mo (by omega))
  refine ⟨I9, R9, ?_⟩
  refine Rn.run 5 rfl ?_
  refine Rn.st rfl (by decide) (st_il (j := 1) rfl (by omega) hL) ?_
  refine Rn.run 4 rfl ?_
  refine Rn.st rfl (by decide) (st_il (j := 2) rfl (by omega) hL) ?_
  refine Rn.run 4 rfl ?_
  refine Rn.st rfl (by decide) (st_il (j := 3) rfl (by omega) hL) ?_
  refine Rn.call rfl rfl rfl rfl h1 ?_
  refine Rn.run 5 rfl ?_
  refine Rn.st rfl (by decide) (st_il (j := 1) rfl (by omega) hL) ?_
  refine Rn.run 4 rfl ?_
  refine Rn.st rfl (by decide) (st_il (j := 2) rfl (by omega) hL) ?_
  refine Rn.run 4 rfl ?_
  refine Rn.st rfl (by decide) (st_il (j := 3) rfl (by omega) hL) ?_
  refine Rn.call rfl rfl rfl rfl h2 ?_
  refine Rn.br rfl (by decide) rfl (fun _ => ?_) (fun hc => absurd rfl hc)
  exact law_in h9
set_option maxRecDepth 20000 in
theorem law_run (hL : L ≤ 384) (hi : i + 6 ≤ L) (h : Inv N I R) (K : ∀ I R, Inv (N + 20) I R → GoL L xs (i + 6) I R) : ∃ I1 R1, Rn (L, xs) 0 (360, lw i, [], wT I R) (.returned (some (.int 1))) (wT I1 R1) := by
  obtain ⟨v, A, R1, B, R2, h1, h2, h3⟩ := two_run (E := (L, xs)) h (xs (i + 1))
  obtain ⟨I9, R9, h9⟩ := K B R2 (h3.mo (by omega))
  refine ⟨I9, R9, ?_⟩
  refine Rn.run 5 rfl ?_
  refine Rn.st rfl (by decide) (st_il (j := 1) rfl (by omega) hL) ?_
  refine Rn.call rfl rfl rfl rfl h1 ?_
  refine Rn.run 5 rfl ?_
  refine Rn.st rfl (by decide) (st_il (j := 1) rfl (by omega) hL) ?_
  refine Rn.call rfl rfl rfl rfl h2 ?_
  refine Rn.br rfl (by decide) rfl (fun _ => ?_) (fun hc => absurd rfl hc)
  exact law_in h9
set_option maxRecDepth 20000 in
theorem law_result (hL : L ≤ 384) (hi : i + 6 ≤ L) (h : Inv N I R) (K : ∀ I R, Inv (N + 20) I R → GoL L xs (i + 6) I R) : ∃ I1 R1, Rn (L, xs) 0 (383, lw i, [], wT I R) (.returned (some (.int 1))) (wT I1 R1) := by
  obtain ⟨v, A, R1, B, R2, h1, h2, h3⟩ := two_result (E := (L, xs)) h (xs (i + 1))
  obtain ⟨I9, R9, h9⟩ := K B R2 (h3.mo (by omega))
  refine ⟨I9, R9, ?_⟩
  refine Rn.run 5 rfl ?_
  refine Rn.st rfl (by decide) (st_il (j := 1) rfl (by omega) hL) ?_
  refine Rn.call rfl rfl rfl rfl h1 ?_
  refine Rn.run 5 rfl ?_
  refine Rn.st rfl (by decide) (st_il (j := 1) rfl (by omega) hL) ?_
  refine Rn.call rfl rfl rfl rfl h2 ?_
  refine Rn.br rfl (by decide) rfl (fun _ => ?_) (fun hc => absurd rfl hc)
  exact law_in h9
set_option maxRecDepth 20000 in
theorem law_event (hL : L ≤ 384) (hi : i + 6 ≤ L) (h : Inv N I R) (K : ∀ I R, Inv (N + 20) I R → GoL L xs (i + 6) I R) : ∃ I1 R1, Rn (L, xs) 0 (406, lw i, [], wT I R) (.returned (some (.int 1))) (wT I1 R1) := by
  obtain ⟨v, A, R1, B, R2, h1, h2, h3⟩ := two_event (E := (L, xs)) h (xs (i + 1)) (xs (i + 2))
  obtain ⟨I9, R9, h9⟩ := K B R2 (h3.mo (by omega))
  refine ⟨I9, R9, ?_⟩
  refine Rn.run 5 rfl ?_
  refine Rn.st rfl (by decide) (st_il (j := 1) rfl (by omega) hL) ?_
  refine Rn.run 4 rfl ?_
  refine Rn.st rfl (by decide) (st_il (j := 2) rfl (by omega) hL) ?_
  refine Rn.call rfl rfl rfl rfl h1 ?_
  refine Rn.run 5 rfl ?_
  refine Rn.st rfl (by decide) (st_il (j := 1) rfl (by omega) hL) ?_
  refine Rn.run 4 rfl ?_
  refine Rn.st rfl (by decide) (st_il (j := 2) rfl (by omega) hL) ?_
  refine Rn.call rfl rfl rfl rfl h2 ?_
  refine Rn.br rfl (by decide) rfl (fun _ => ?_) (fun hc => absurd rfl hc)
  exact law_in h9
set_option maxRecDepth 20000 in
theorem law_object (hL : L ≤ 384) (hi : i + 6 ≤ L) (h : Inv N I R) (K : ∀ I R, Inv (N + 20) I R → GoL L xs (i + 6) I R) : ∃ I1 R1, Rn (L, xs) 0 (439, lw i, [], wT I R) (.returned (some (.int 1))) (wT I1 R1) := by
  obtain ⟨v, A, R1, B, R2, h1, h2, h3⟩ := two_object (E := (L, xs)) h (xs (i + 1)) (xs (i + 2))
  obtain ⟨I9, R9, h9⟩ := K B R2 (h3.mo (by omega))
  refine ⟨I9, R9, ?_⟩
  refine Rn.run 5 rfl ?_
  refine Rn.st rfl (by decide) (st_il (j := 1) rfl (by omega) hL) ?_
  refine Rn.run 4 rfl ?_
  refine Rn.st rfl (by decide) (st_il (j := 2) rfl (by omega) hL) ?_
  refine Rn.call rfl rfl rfl rfl h1 ?_
  refine Rn.run 5 rfl ?_
  refine Rn.st rfl (by decide) (st_il (j := 1) rfl (by omega) hL) ?_
  refine Rn.run 4 rfl ?_
  refine Rn.st rfl (by decide) (st_il (j := 2) rfl (by omega) hL) ?_
  refine Rn.call rfl rfl rfl rfl h2 ?_
  refine Rn.br rfl (by decide) rfl (fun _ => ?_) (fun hc => absurd rfl hc)
  exact law_in h9
set_option maxRecDepth 20000 in
theorem law_slot (hL : L ≤ 384) (hi : i + 6 ≤ L) (h : Inv N I R) (K : ∀ I R, Inv (N + 20) I R → GoL L xs (i + 6) I R) : ∃ I1 R1, Rn (L, xs) 0 (472, lw i, [], wT I R) (.returned (some (.int 1))) (wT I1 R1) := by
  obtain ⟨v, A, R1, B, R2, h1, h2, h3⟩ := two_slot (E := (L, xs)) h (xs (i + 1)) (xs (i + 2)) (xs (i + 3))
  obtain ⟨I9, R9, h9⟩ := K B R2 (h3.mo (by omega))
  refine ⟨I9, R9, ?_⟩
  refine Rn.run 5 rfl ?_
  refine Rn.st rfl (by decide) (st_il (j := 1) rfl (by omega) hL) ?_
  refine Rn.run 4 rfl ?_
  refine Rn.st rfl (by decide) (st_il (j := 2) rfl (by omega) hL) ?_
  refine Rn.run 4 rfl ?_
  refine Rn.st rfl (by decide) (st_il (j := 3) rfl (by omega) hL) ?_
  refine Rn.call rfl rfl rfl rfl h1 ?_
  refine Rn.run 5 rfl ?_
  refine Rn.st rfl (by decide) (st_il (j := 1) rfl (by omega) hL) ?_
  refine Rn.run 4 rfl ?_
  refine Rn.st rfl (by decide) (st_il (j := 2) rfl (by omega) hL) ?_
  refine Rn.run 4 rfl ?_
  refine Rn.st rfl (by decide) (st_il (j := 3) rfl (by omega) hL) ?_
  refine Rn.call rfl rfl rfl rfl h2 ?_
  refine Rn.br rfl (by decide) rfl (fun _ => ?_) (fun hc => absurd rfl hc)
  exact law_in h9
set_option maxRecDepth 20000 in
theorem law_stat (hL : L ≤ 384) (hi : i + 6 ≤ L) (h : Inv N I R) (K : ∀ I R, Inv (N + 20) I R → GoL L xs (i + 6) I R) : ∃ I1 R1, Rn (L, xs) 0 (515, lw i, [], wT I R) (.returned (some (.int 1))) (wT I1 R1) := by
  obtain ⟨v, A, R1, B, R2, h1, h2, h3⟩ := two_stat (E := (L, xs)) h (xs (i + 1)) (xs (i + 2))
  obtain ⟨I9, R9, h9⟩ := K B R2 (h3.mo (by omega))
  refine ⟨I9, R9, ?_⟩
  refine Rn.run 5 rfl ?_
  refine Rn.st rfl (by decide) (st_il (j := 1) rfl (by omega) hL) ?_
  refine Rn.run 4 rfl ?_
  refine Rn.st rfl (by decide) (st_il (j := 2) rfl (by omega) hL) ?_
  refine Rn.call rfl rfl rfl rfl h1 ?_
  refine Rn.run 5 rfl ?_
  refine Rn.st rfl (by decide) (st_il (j := 1) rfl (by omega) hL) ?_
  refine Rn.run 4 rfl ?_
  refine Rn.st rfl (by decide) (st_il (j := 2) rfl (by omega) hL) ?_
  refine Rn.call rfl rfl rfl rfl h2 ?_
  refine Rn.br rfl (by decide) rfl (fun _ => ?_) (fun hc => absurd rfl hc)
  exact law_in h9
set_option maxRecDepth 20000 in
theorem law_type (hL : L ≤ 384) (hi : i + 6 ≤ L) (h : Inv N I R) (K : ∀ I R, Inv (N + 20) I R → GoL L xs (i + 6) I R) : ∃ I1 R1, Rn (L, xs) 0 (548, lw i, [], wT I R) (.returned (some (.int 1))) (wT I1 R1) := by
  obtain ⟨v, A, R1, B, R2, h1, h2, h3⟩ := two_type (E := (L, xs)) h (xs (i + 1)) (xs (i + 2))
  obtain ⟨I9, R9, h9⟩ := K B R2 (h3.mo (by omega))
  refine ⟨I9, R9, ?_⟩
  refine Rn.run 5 rfl ?_
  refine Rn.st rfl (by decide) (st_il (j := 1) rfl (by omega) hL) ?_
  refine Rn.run 4 rfl ?_
  refine Rn.st rfl (by decide) (st_il (j := 2) rfl (by omega) hL) ?_
  refine Rn.call rfl rfl rfl rfl h1 ?_
  refine Rn.run 5 rfl ?_
  refine Rn.st rfl (by decide) (st_il (j := 1) rfl (by omega) hL) ?_
  refine Rn.run 4 rfl ?_
  refine Rn.st rfl (by decide) (st_il (j := 2) rfl (by omega) hL) ?_
  refine Rn.call rfl rfl rfl rfl h2 ?_
  refine Rn.br rfl (by decide) rfl (fun _ => ?_) (fun hc => absurd rfl hc)
  exact law_in h9
set_option maxRecDepth 20000 in
theorem law_method (hL : L ≤ 384) (hi : i + 6 ≤ L) (h : Inv N I R) (K : ∀ I R, Inv (N + 20) I R → GoL L xs (i + 6) I R) : ∃ I1 R1, Rn (L, xs) 0 (581, lw i, [], wT I R) (.returned (some (.int 1))) (wT I1 R1) := by
  obtain ⟨v, A, R1, B, R2, h1, h2, h3⟩ := two_method (E := (L, xs)) h (xs (i + 1)) (xs (i + 2))
  obtain ⟨I9, R9, h9⟩ := K B R2 (h3.mo (by omega))
  refine ⟨I9, R9, ?_⟩
  refine Rn.run 5 rfl ?_
  refine Rn.st rfl (by decide) (st_il (j := 1) rfl (by omega) hL) ?_
  refine Rn.run 4 rfl ?_
  refine Rn.st rfl (by decide) (st_il (j := 2) rfl (by omega) hL) ?_
  refine Rn.call rfl rfl rfl rfl h1 ?_
  refine Rn.run 5 rfl ?_
  refine Rn.st rfl (by decide) (st_il (j := 1) rfl (by omega) hL) ?_
  refine Rn.run 4 rfl ?_
  refine Rn.st rfl (by decide) (st_il (j := 2) rfl (by omega) hL) ?_
  refine Rn.call rfl rfl rfl rfl h2 ?_
  refine Rn.br rfl (by decide) rfl (fun _ => ?_) (fun hc => absurd rfl hc)
  exact law_in h9
set_option maxRecDepth 20000 in
theorem law_count (hL : L ≤ 384) (hi : i + 6 ≤ L) (h : Inv N I R) (K : ∀ I R, Inv (N + 20) I R → GoL L xs (i + 6) I R) : ∃ I1 R1, Rn (L, xs) 0 (614, lw i, [], wT I R) (.returned (some (.int 1))) (wT I1 R1) := by
  obtain ⟨v, A, R1, B, R2, h1, h2, h3⟩ := two_count (E := (L, xs)) h (xs (i + 1))
  obtain ⟨I9, R9, h9⟩ := K B R2 (h3.mo (by omega))
  refine ⟨I9, R9, ?_⟩
  refine Rn.run 5 rfl ?_
  refine Rn.st rfl (by decide) (st_il (j := 1) rfl (by omega) hL) ?_
  refine Rn.call rfl rfl rfl rfl h1 ?_
  refine Rn.run 5 rfl ?_
  refine Rn.st rfl (by decide) (st_il (j := 1) rfl (by omega) hL) ?_
  refine Rn.call rfl rfl rfl rfl h2 ?_
  refine Rn.br rfl (by decide) rfl (fun _ => ?_) (fun hc => absurd rfl hc)
  exact law_in h9
set_option maxRecDepth 20000 in
theorem law_fin (hL : L ≤ 384) (hi : L < i + 6) (h6 : i < 6 ∧ i = 0 ∨ 6 ≤ L) (hiL : i ≤ L) : GoL L xs i I R := by
  refine ⟨I, R, ?_⟩
  refine Rn.run 5 rfl ?_
  refine Rn.br rfl (by decide) rfl (fun _ => ?_) (fun hc => ?_)
  · refine Rn.run 1 rfl ?_
    exact Rn.ret rfl rfl rfl
  · refine absurd ?_ hc
    show Int32.ofNat L - 6 < Int32.ofNat i
    by_cases z : 6 ≤ L
    · have e : Int32.ofNat L - 6 = Int32.ofNat (L - 6) := i32_sb (a := L) (b := 6) z
      rw [e, i32_lt (by omega) (by omega)]
      omega
    · have i0 : i = 0 := by omega
      subst i0
      obtain rfl | rfl | rfl | rfl | rfl | rfl : L = 0 ∨ L = 1 ∨ L = 2 ∨ L = 3 ∨ L = 4 ∨ L = 5 := by omega
      all_goals decide
set_option maxRecDepth 20000 in
theorem law_loop (hL : L ≤ 384) : ∀ d t (I : St) (R : Nat → Nat → Option Nat), L < 6 * (t + d) + 6 → 6 * t ≤ L → Inv (20 * t) I R → GoL L xs (6 * t) I R := by
  intro d
  induction d with
  | zero => intro t I R h1 h2 h3; exact law_fin hL (by omega) (by omega) h2
  | succ d ih =>
    intro t I R h1 h2 h3
    by_cases z : L < 6 * t + 6
    · exact law_fin hL z (by omega) h2
    · have K : ∀ I R, Inv (20 * t + 20) I R → GoL L xs (6 * t + 6) I R := fun I R y => ih (t + 1) I R (by omega) (by omega) y
      have hi : 6 * t + 6 ≤ L := by omega
      have hN : 20 * t + 20 ≤ 1280 := by omega
      have go : ∀ pc, (pc = 637 ∨ ∃ q ∈ (swL.getD 0 ([], 0)).1, pc = q.2) → ∃ I1 R1, Rn (L, xs) 0 (pc, lw (6 * t), [], wT I R) (.returned (some (.int 1))) (wT I1 R1) := by
        intro pc hpc
        rcases hpc with rfl | ⟨q, hq, rfl⟩
        · obtain ⟨I9, R9, h9⟩ := K I R (h3.mo (by omega))
          exact ⟨I9, R9, law_in h9⟩
        · have hm : q = (0, 116) ∨ q = (1, 179) ∨ q = (2, 202) ∨ q = (3, 215) ∨ q = (4, 228) ∨ q = (5, 251) ∨ q = (6, 284) ∨ q = (7, 317) ∨ q = (8, 360) ∨ q = (9, 383) ∨ q = (10, 406) ∨ q = (11, 439) ∨ q = (12, 472) ∨ q = (13, 515) ∨ q = (14, 548) ∨ q = (15, 581) ∨ q = (16, 614) := by
            have e : (swL.getD 0 ([], 0)).1 = [(0, 116), (1, 179), (2, 202), (3, 215), (4, 228), (5, 251), (6, 284), (7, 317), (8, 360), (9, 383), (10, 406), (11, 439), (12, 472), (13, 515), (14, 548), (15, 581), (16, 614)] := rfl
            rw [e] at hq
            simpa only [List.mem_cons, List.not_mem_nil, or_false] using hq
          rcases hm with rfl | rfl | rfl | rfl | rfl | rfl | rfl | rfl | rfl | rfl | rfl | rfl | rfl | rfl | rfl | rfl | rfl
          · exact law_feed hL hi hN h3 K
          · exact law_end hL hi h3 K
          · exact law_text hL hi h3 K
          · exact law_place hL hi h3 K
          · exact law_flows hL hi h3 K
          · exact law_policy hL hi h3 K
          · exact law_input hL hi h3 K
          · exact law_argument hL hi h3 K
          · exact law_run hL hi h3 K
          · exact law_result hL hi h3 K
          · exact law_event hL hi h3 K
          · exact law_object hL hi h3 K
          · exact law_slot hL hi h3 K
          · exact law_stat hL hi h3 K
          · exact law_type hL hi h3 K
          · exact law_method hL hi h3 K
          · exact law_count hL hi h3 K
      have hsw : ∃ I1 R1, Rn (L, xs) 0 (swT (swL.getD 0 ([], 0)).1 (swL.getD 0 ([], 0)).2 (xs (6 * t) &&& 31), lw (6 * t), [], wT I R) (.returned (some (.int 1))) (wT I1 R1) := go _ swT_mem
      obtain ⟨I9, R9, h9⟩ := hsw
      refine ⟨I9, R9, ?_⟩
      refine Rn.run 5 rfl ?_
      refine Rn.br rfl (by decide) rfl (fun hc => ?_) (fun _ => ?_)
      · have hc : Int32.ofNat L - 6 < Int32.ofNat (6 * t) := hc
        have e : Int32.ofNat L - 6 = Int32.ofNat (L - 6) := i32_sb (a := L) (b := 6) (by omega)
        rw [e, i32_lt (by omega) (by omega)] at hc
        omega
      · refine Rn.run 2 rfl ?_
        refine Rn.st rfl (by decide) (st_i0 (by omega) hL) ?_
        refine Rn.run 2 rfl ?_
        exact Rn.st rfl (by decide) rfl h9
end
