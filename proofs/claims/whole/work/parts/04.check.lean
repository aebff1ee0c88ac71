/-! CHECKS: the code tables against the bytes and the words of the tables, by the kernel -/
def cstL : List (Nat × Nat × Int32) := [(0, 139, 65535), (6, 168, 2147483647), (6, 179, 65535), (6, 180, (-2147483648)), (8, 85, 65535), (12, 187, (-2147483648)), (12, 235, 2147483647), (12, 414, 65535)]
def clgL : List (Nat × Nat × Nat) := [(3, 81, 10), (3, 83, 48), (3, 85, 2147483649), (3, 93, 2147483648), (12, 179, 2147483648), (12, 181, 10), (12, 183, 48)]
def strL : List (Nat × Nat × Nat) := [(3, 104, 11), (4, 20, 10), (12, 171, 13), (12, 177, 14), (12, 242, 12)]
/-- getstatic: own class, entry, which, kind (0 a reference of those before, 1 String.COMPACT_STRINGS) -/
def gstL : List (Nat × Nat × Nat × Nat) := [(0, 228, 1, 0), (0, 232, 2, 0), (0, 235, 3, 0), (16, 38, 0, 1), (16, 1053, 5, 0)]
def clkL : List (Nat × Nat × Nat) := [(0, 9, 1), (0, 18, 2), (0, 28, 3), (0, 37, 5), (0, 44, 6), (0, 56, 7), (0, 69, 8), (0, 78, 9), (0, 85, 10), (5, 9, 1), (11, 9, 1), (3, 15, 1), (3, 23, 4), (10, 19, 11), (10, 26, 1), (4, 9, 1), (2, 9, 1), (9, 15, 1), (8, 19, 1), (15, 7, 0), (15, 10, 12), (12, 13, 14), (12, 20, 13)]
theorem cst_in : ∀ q ∈ cstL, Cond.constant (cn q.1) q.2.1 q.2.2 ∈ lw_tbl := by decide +kernel
theorem clg_in : ∀ q ∈ clgL, Cond.constantLong (cn q.1) q.2.1 (Int64.ofNat q.2.2) ∈ lw_tbl := by decide +kernel
theorem clk_in : ∀ q ∈ clkL, Cond.classLink (cn q.1) q.2.1 (cn q.2.2) ∈ lw_tbl := by decide +kernel
def frW (q : Nat × Nat × Nat × Nat × Nat) : Cond := if q.2.2.1 = 90 then .fieldLink (cn q.1) q.2.1 "java/lang/String" (if q.2.2.2.1 = 0 then "value" else "coder") (if q.2.2.2.1 = 0 then "[B" else "B") else .fieldLink (cn q.1) q.2.1 (fT q.2.2.1 q.2.2.2.1).1 (fT q.2.2.1 q.2.2.2.1).2.1 (fT q.2.2.1 q.2.2.2.1).2.2.1
def isSub : List Cond → List Cond → Bool
  | [], _ => true
  | _ :: _, [] => false
  | x :: xs, y :: ys => if x = y then isSub xs ys else isSub (x :: xs) ys
theorem isSub_mem : ∀ (ys xs : List Cond), isSub xs ys = true → ∀ x ∈ xs, x ∈ ys := by
  intro ys
  induction ys with
  | nil =>
    intro xs h x hx
    cases xs with
    | nil => cases hx
    | cons a r => simp [isSub] at h
  | cons y ys ih =>
    intro xs h x hx
    cases xs with
    | nil => cases hx
    | cons a r =>
      simp only [isSub] at h
      split at h
      · rename_i e
        subst e
        rcases List.mem_cons.mp hx with e | e
        · rw [e]; exact List.mem_cons_self
        · exact List.mem_cons_of_mem _ (ih r h x e)
      · exact List.mem_cons_of_mem _ (ih (a :: r) h x hx)
theorem in_tbl {w : Cond} (h : w ∈ tables_1) : w ∈ lw_tbl := List.mem_append.mpr (Or.inr h)
set_option maxRecDepth 20000 in
theorem fr_sub : isSub (frL.map frW) tables_1 = true := by decide +kernel
theorem fr_in : ∀ q ∈ frL, frW q ∈ lw_tbl := fun q h => in_tbl (isSub_mem _ _ fr_sub _ (List.mem_map.mpr ⟨q, h, rfl⟩))
theorem fr_ok : ∀ q ∈ frL, q.2.2.1 = 90 ∨ (q.2.2.1 < 15 ∧ q.2.2.2.1 < nF q.2.2.1 ∧ q.2.2.2.2 = fK q.2.2.1 q.2.2.2.1) := by decide +kernel
def mrW (q : Nat × Nat × Nat × Nat × Nat) : Cond := if q.2.2.2.2 = 6 then .methodLink (cn q.1) q.2.1 Lib.objectInit else if q.2.2.2.2 = 7 then .methodLink (cn q.1) q.2.1 ⟨"java/lang/RuntimeException", "<init>", "()V"⟩ else if q.2.2.2.2 = 8 then .methodLink (cn q.1) q.2.1 Lib.Math.max.name else if q.2.2.2.2 = 9 then .methodLink (cn q.1) q.2.1 Lib.Math.min.name else if q.2.2.2.2 = 10 then .methodLink (cn q.1) q.2.1 Lib.MathLoose.min_long.x else if 3 ≤ q.2.2.2.2 then .methodLinkNest (cn q.1) q.2.1 (yO q.2.2.1) (if q.1 = 12 then "TaintHouseModel" else "TaintHouse") else .methodLink (cn q.1) q.2.1 (yO q.2.2.1)
set_option maxRecDepth 20000 in
theorem mr_sub1 : isSub ((mrL.take nMr).map mrW) tables_1 = true := by decide +kernel
set_option maxRecDepth 20000 in
theorem mr_sub2 : isSub ((mrL.drop nMr).map mrW) tables_1 = true := by decide +kernel
theorem mr_in : ∀ q ∈ mrL, mrW q ∈ lw_tbl := by
  intro q h
  rw [← List.take_append_drop nMr mrL] at h
  rcases List.mem_append.mp h with h | h
  · exact in_tbl (isSub_mem _ _ mr_sub1 _ (List.mem_map.mpr ⟨q, h, rfl⟩))
  · exact in_tbl (isSub_mem _ _ mr_sub2 _ (List.mem_map.mpr ⟨q, h, rfl⟩))
def nM : Nat := 276
def mWr : Nat := 183
/-- the words of a method that is called -/
def codeW (m : Nat) : Cond := if m = mText then .codeWith (yO m) (bO m) (mx m) (rt m) [(15, 55, 58, 13)] else .code (yO m) (bO m) (mx m) (rt m)
theorem tb_1 {w : Cond} (h : w ∈ tables_1_1) : w ∈ tables_1 := List.mem_append.mpr (Or.inl h)
theorem tb_2 {w : Cond} (h : w ∈ tables_1_2) : w ∈ tables_1 := List.mem_append.mpr (Or.inr (List.mem_append.mpr (Or.inl h)))
theorem tb_3 {w : Cond} (h : w ∈ tables_1_3) : w ∈ tables_1 := List.mem_append.mpr (Or.inr (List.mem_append.mpr (Or.inr (List.mem_append.mpr (Or.inl h)))))
theorem tb_4 {w : Cond} (h : w ∈ tables_1_4) : w ∈ tables_1 := List.mem_append.mpr (Or.inr (List.mem_append.mpr (Or.inr (List.mem_append.mpr (Or.inr (List.mem_append.mpr (Or.inl h)))))))
theorem tb_5 {w : Cond} (h : w ∈ tables_1_5) : w ∈ tables_1 := List.mem_append.mpr (Or.inr (List.mem_append.mpr (Or.inr (List.mem_append.mpr (Or.inr (List.mem_append.mpr (Or.inr (List.mem_append.mpr (Or.inl h)))))))))
theorem tb_6 {w : Cond} (h : w ∈ tables_1_6) : w ∈ tables_1 := List.mem_append.mpr (Or.inr (List.mem_append.mpr (Or.inr (List.mem_append.mpr (Or.inr (List.mem_append.mpr (Or.inr (List.mem_append.mpr (Or.inr (List.mem_append.mpr (Or.inl h)))))))))))
theorem tb_7 {w : Cond} (h : w ∈ tables_1_7) : w ∈ tables_1 := List.mem_append.mpr (Or.inr (List.mem_append.mpr (Or.inr (List.mem_append.mpr (Or.inr (List.mem_append.mpr (Or.inr (List.mem_append.mpr (Or.inr (List.mem_append.mpr (Or.inr (List.mem_append.mpr (Or.inl h)))))))))))))
theorem tb_8 {w : Cond} (h : w ∈ tables_1_8) : w ∈ tables_1 := List.mem_append.mpr (Or.inr (List.mem_append.mpr (Or.inr (List.mem_append.mpr (Or.inr (List.mem_append.mpr (Or.inr (List.mem_append.mpr (Or.inr (List.mem_append.mpr (Or.inr (List.mem_append.mpr (Or.inr (List.mem_append.mpr (Or.inl h)))))))))))))))
theorem tb_9 {w : Cond} (h : w ∈ tables_1_9) : w ∈ tables_1 := List.mem_append.mpr (Or.inr (List.mem_append.mpr (Or.inr (List.mem_append.mpr (Or.inr (List.mem_append.mpr (Or.inr (List.mem_append.mpr (Or.inr (List.mem_append.mpr (Or.inr (List.mem_append.mpr (Or.inr (List.mem_append.mpr (Or.inr (h))))))))))))))))
set_option maxRecDepth 20000 in
theorem cw_0 : ∀ w ∈ (List.range' 1 20).map codeW, w ∈ tables_1 := List.forall_mem_cons.mpr ⟨tb_1 (List.mem_of_getElem? (i := 30) rfl), List.forall_mem_cons.mpr ⟨tb_1 (List.mem_of_getElem? (i := 38) rfl), List.forall_mem_cons.mpr ⟨tb_1 (List.mem_of_getElem? (i := 61) rfl), List.forall_mem_cons.mpr ⟨tb_1 (List.mem_of_getElem? (i := 68) rfl), List.forall_mem_cons.mpr ⟨tb_1 (List.mem_of_getElem? (i := 72) rfl), List.forall_mem_cons.mpr ⟨tb_1 (List.mem_of_getElem? (i := 76) rfl), List.forall_mem_cons.mpr ⟨tb_1 (List.mem_of_getElem? (i := 80) rfl), List.forall_mem_cons.mpr ⟨tb_1 (List.mem_of_getElem? (i := 84) rfl), List.forall_mem_cons.mpr ⟨tb_1 (List.mem_of_getElem? (i := 88) rfl), List.forall_mem_cons.mpr ⟨tb_1 (List.mem_of_getElem? (i := 143) rfl), List.forall_mem_cons.mpr ⟨tb_1 (List.mem_of_getElem? (i := 151) rfl), List.forall_mem_cons.mpr ⟨tb_1 (List.mem_of_getElem? (i := 159) rfl), List.forall_mem_cons.mpr ⟨tb_1 (List.mem_of_getElem? (i := 163) rfl), List.forall_mem_cons.mpr ⟨tb_1 (List.mem_of_getElem? (i := 200) rfl), List.forall_mem_cons.mpr ⟨tb_2 (List.mem_of_getElem? (i := 1) rfl), List.forall_mem_cons.mpr ⟨tb_2 (List.mem_of_getElem? (i := 29) rfl), List.forall_mem_cons.mpr ⟨tb_2 (List.mem_of_getElem? (i := 52) rfl), List.forall_mem_cons.mpr ⟨tb_2 (List.mem_of_getElem? (i := 97) rfl), List.forall_mem_cons.mpr ⟨tb_2 (List.mem_of_getElem? (i := 126) rfl), List.forall_mem_cons.mpr ⟨tb_2 (List.mem_of_getElem? (i := 132) rfl), fun _ h => absurd h List.not_mem_nil⟩⟩⟩⟩⟩⟩⟩⟩⟩⟩⟩⟩⟩⟩⟩⟩⟩⟩⟩⟩
set_option maxRecDepth 20000 in
theorem cw_1 : ∀ w ∈ (List.range' 21 20).map codeW, w ∈ tables_1 := List.forall_mem_cons.mpr ⟨tb_3 (List.mem_of_getElem? (i := 10) rfl), List.forall_mem_cons.mpr ⟨tb_3 (List.mem_of_getElem? (i := 15) rfl), List.forall_mem_cons.mpr ⟨tb_3 (List.mem_of_getElem? (i := 21) rfl), List.forall_mem_cons.mpr ⟨tb_3 (List.mem_of_getElem? (i := 26) rfl), List.forall_mem_cons.mpr ⟨tb_3 (List.mem_of_getElem? (i := 30) rfl), List.forall_mem_cons.mpr ⟨tb_3 (List.mem_of_getElem? (i := 35) rfl), List.forall_mem_cons.mpr ⟨tb_3 (List.mem_of_getElem? (i := 40) rfl), List.forall_mem_cons.mpr ⟨tb_3 (List.mem_of_getElem? (i := 43) rfl), List.forall_mem_cons.mpr ⟨tb_3 (List.mem_of_getElem? (i := 47) rfl), List.forall_mem_cons.mpr ⟨tb_3 (List.mem_of_getElem? (i := 52) rfl), List.forall_mem_cons.mpr ⟨tb_3 (List.mem_of_getElem? (i := 56) rfl), List.forall_mem_cons.mpr ⟨tb_3 (List.mem_of_getElem? (i := 59) rfl), List.forall_mem_cons.mpr ⟨tb_3 (List.mem_of_getElem? (i := 62) rfl), List.forall_mem_cons.mpr ⟨tb_3 (List.mem_of_getElem? (i := 67) rfl), List.forall_mem_cons.mpr ⟨tb_3 (List.mem_of_getElem? (i := 90) rfl), List.forall_mem_cons.mpr ⟨tb_3 (List.mem_of_getElem? (i := 94) rfl), List.forall_mem_cons.mpr ⟨tb_3 (List.mem_of_getElem? (i := 98) rfl), List.forall_mem_cons.mpr ⟨tb_3 (List.mem_of_getElem? (i := 104) rfl), List.forall_mem_cons.mpr ⟨tb_3 (List.mem_of_getElem? (i := 109) rfl), List.forall_mem_cons.mpr ⟨tb_3 (List.mem_of_getElem? (i := 113) rfl), fun _ h => absurd h List.not_mem_nil⟩⟩⟩⟩⟩⟩⟩⟩⟩⟩⟩⟩⟩⟩⟩⟩⟩⟩⟩⟩
set_option maxRecDepth 20000 in
theorem cw_2 : ∀ w ∈ (List.range' 41 20).map codeW, w ∈ tables_1 := List.forall_mem_cons.mpr ⟨tb_3 (List.mem_of_getElem? (i := 117) rfl), List.forall_mem_cons.mpr ⟨tb_3 (List.mem_of_getElem? (i := 120) rfl), List.forall_mem_cons.mpr ⟨tb_3 (List.mem_of_getElem? (i := 124) rfl), List.forall_mem_cons.mpr ⟨tb_3 (List.mem_of_getElem? (i := 128) rfl), List.forall_mem_cons.mpr ⟨tb_3 (List.mem_of_getElem? (i := 134) rfl), List.forall_mem_cons.mpr ⟨tb_3 (List.mem_of_getElem? (i := 140) rfl), List.forall_mem_cons.mpr ⟨tb_3 (List.mem_of_getElem? (i := 150) rfl), List.forall_mem_cons.mpr ⟨tb_3 (List.mem_of_getElem? (i := 155) rfl), List.forall_mem_cons.mpr ⟨tb_3 (List.mem_of_getElem? (i := 159) rfl), List.forall_mem_cons.mpr ⟨tb_3 (List.mem_of_getElem? (i := 163) rfl), List.forall_mem_cons.mpr ⟨tb_3 (List.mem_of_getElem? (i := 166) rfl), List.forall_mem_cons.mpr ⟨tb_3 (List.mem_of_getElem? (i := 173) rfl), List.forall_mem_cons.mpr ⟨tb_3 (List.mem_of_getElem? (i := 212) rfl), List.forall_mem_cons.mpr ⟨tb_3 (List.mem_of_getElem? (i := 217) rfl), List.forall_mem_cons.mpr ⟨tb_3 (List.mem_of_getElem? (i := 222) rfl), List.forall_mem_cons.mpr ⟨tb_3 (List.mem_of_getElem? (i := 227) rfl), List.forall_mem_cons.mpr ⟨tb_3 (List.mem_of_getElem? (i := 232) rfl), List.forall_mem_cons.mpr ⟨tb_3 (List.mem_of_getElem? (i := 236) rfl), List.forall_mem_cons.mpr ⟨tb_4 (List.mem_of_getElem? (i := 0) rfl), List.forall_mem_cons.mpr ⟨tb_4 (List.mem_of_getElem? (i := 4) rfl), fun _ h => absurd h List.not_mem_nil⟩⟩⟩⟩⟩⟩⟩⟩⟩⟩⟩⟩⟩⟩⟩⟩⟩⟩⟩⟩
set_option maxRecDepth 20000 in
theorem cw_3 : ∀ w ∈ (List.range' 61 20).map codeW, w ∈ tables_1 := List.forall_mem_cons.mpr ⟨tb_4 (List.mem_of_getElem? (i := 11) rfl), List.forall_mem_cons.mpr ⟨tb_4 (List.mem_of_getElem? (i := 15) rfl), List.forall_mem_cons.mpr ⟨tb_4 (List.mem_of_getElem? (i := 19) rfl), List.forall_mem_cons.mpr ⟨tb_4 (List.mem_of_getElem? (i := 23) rfl), List.forall_mem_cons.mpr ⟨tb_4 (List.mem_of_getElem? (i := 27) rfl), List.forall_mem_cons.mpr ⟨tb_4 (List.mem_of_getElem? (i := 31) rfl), List.forall_mem_cons.mpr ⟨tb_4 (List.mem_of_getElem? (i := 35) rfl), List.forall_mem_cons.mpr ⟨tb_4 (List.mem_of_getElem? (i := 39) rfl), List.forall_mem_cons.mpr ⟨tb_4 (List.mem_of_getElem? (i := 43) rfl), List.forall_mem_cons.mpr ⟨tb_4 (List.mem_of_getElem? (i := 47) rfl), List.forall_mem_cons.mpr ⟨tb_4 (List.mem_of_getElem? (i := 51) rfl), List.forall_mem_cons.mpr ⟨tb_4 (List.mem_of_getElem? (i := 55) rfl), List.forall_mem_cons.mpr ⟨tb_4 (List.mem_of_getElem? (i := 59) rfl), List.forall_mem_cons.mpr ⟨tb_4 (List.mem_of_getElem? (i := 63) rfl), List.forall_mem_cons.mpr ⟨tb_4 (List.mem_of_getElem? (i := 67) rfl), List.forall_mem_cons.mpr ⟨tb_4 (List.mem_of_getElem? (i := 70) rfl), List.forall_mem_cons.mpr ⟨tb_4 (List.mem_of_getElem? (i := 77) rfl), List.forall_mem_cons.mpr ⟨tb_4 (List.mem_of_getElem? (i := 81) rfl), List.forall_mem_cons.mpr ⟨tb_4 (List.mem_of_getElem? (i := 86) rfl), List.forall_mem_cons.mpr ⟨tb_4 (List.mem_of_getElem? (i := 91) rfl), fun _ h => absurd h List.not_mem_nil⟩⟩⟩⟩⟩⟩⟩⟩⟩⟩⟩⟩⟩⟩⟩⟩⟩⟩⟩⟩
set_option maxRecDepth 20000 in
theorem cw_4 : ∀ w ∈ (List.range' 81 20).map codeW, w ∈ tables_1 := List.forall_mem_cons.mpr ⟨tb_4 (List.mem_of_getElem? (i := 95) rfl), List.forall_mem_cons.mpr ⟨tb_4 (List.mem_of_getElem? (i := 100) rfl), List.forall_mem_cons.mpr ⟨tb_4 (List.mem_of_getElem? (i := 105) rfl), List.forall_mem_cons.mpr ⟨tb_4 (List.mem_of_getElem? (i := 110) rfl), List.forall_mem_cons.mpr ⟨tb_4 (List.mem_of_getElem? (i := 114) rfl), List.forall_mem_cons.mpr ⟨tb_4 (List.mem_of_getElem? (i := 118) rfl), List.forall_mem_cons.mpr ⟨tb_4 (List.mem_of_getElem? (i := 122) rfl), List.forall_mem_cons.mpr ⟨tb_4 (List.mem_of_getElem? (i := 127) rfl), List.forall_mem_cons.mpr ⟨tb_4 (List.mem_of_getElem? (i := 131) rfl), List.forall_mem_cons.mpr ⟨tb_4 (List.mem_of_getElem? (i := 135) rfl), List.forall_mem_cons.mpr ⟨tb_4 (List.mem_of_getElem? (i := 139) rfl), List.forall_mem_cons.mpr ⟨tb_4 (List.mem_of_getElem? (i := 143) rfl), List.forall_mem_cons.mpr ⟨tb_4 (List.mem_of_getElem? (i := 147) rfl), List.forall_mem_cons.mpr ⟨tb_4 (List.mem_of_getElem? (i := 151) rfl), List.forall_mem_cons.mpr ⟨tb_4 (List.mem_of_getElem? (i := 156) rfl), List.forall_mem_cons.mpr ⟨tb_4 (List.mem_of_getElem? (i := 160) rfl), List.forall_mem_cons.mpr ⟨tb_4 (List.mem_of_getElem? (i := 164) rfl), List.forall_mem_cons.mpr ⟨tb_4 (List.mem_of_getElem? (i := 169) rfl), List.forall_mem_cons.mpr ⟨tb_4 (List.mem_of_getElem? (i := 175) rfl), List.forall_mem_cons.mpr ⟨tb_4 (List.mem_of_getElem? (i := 180) rfl), fun _ h => absurd h List.not_mem_nil⟩⟩⟩⟩⟩⟩⟩⟩⟩⟩⟩⟩⟩⟩⟩⟩⟩⟩⟩⟩
set_option maxRecDepth 20000 in
theorem cw_5 : ∀ w ∈ (List.range' 101 20).map codeW, w ∈ tables_1 := List.forall_mem_cons.mpr ⟨tb_4 (List.mem_of_getElem? (i := 185) rfl), List.forall_mem_cons.mpr ⟨tb_4 (List.mem_of_getElem? (i := 191) rfl), List.forall_mem_cons.mpr ⟨tb_4 (List.mem_of_getElem? (i := 195) rfl), List.forall_mem_cons.mpr ⟨tb_4 (List.mem_of_getElem? (i := 199) rfl), List.forall_mem_cons.mpr ⟨tb_4 (List.mem_of_getElem? (i := 203) rfl), List.forall_mem_cons.mpr ⟨tb_4 (List.mem_of_getElem? (i := 207) rfl), List.forall_mem_cons.mpr ⟨tb_4 (List.mem_of_getElem? (i := 211) rfl), List.forall_mem_cons.mpr ⟨tb_4 (List.mem_of_getElem? (i := 215) rfl), List.forall_mem_cons.mpr ⟨tb_4 (List.mem_of_getElem? (i := 219) rfl), List.forall_mem_cons.mpr ⟨tb_4 (List.mem_of_getElem? (i := 223) rfl), List.forall_mem_cons.mpr ⟨tb_4 (List.mem_of_getElem? (i := 227) rfl), List.forall_mem_cons.mpr ⟨tb_4 (List.mem_of_getElem? (i := 231) rfl), List.forall_mem_cons.mpr ⟨tb_4 (List.mem_of_getElem? (i := 235) rfl), List.forall_mem_cons.mpr ⟨tb_4 (List.mem_of_getElem? (i := 238) rfl), List.forall_mem_cons.mpr ⟨tb_5 (List.mem_of_getElem? (i := 3) rfl), List.forall_mem_cons.mpr ⟨tb_5 (List.mem_of_getElem? (i := 10) rfl), List.forall_mem_cons.mpr ⟨tb_5 (List.mem_of_getElem? (i := 15) rfl), List.forall_mem_cons.mpr ⟨tb_5 (List.mem_of_getElem? (i := 19) rfl), List.forall_mem_cons.mpr ⟨tb_5 (List.mem_of_getElem? (i := 23) rfl), List.forall_mem_cons.mpr ⟨tb_5 (List.mem_of_getElem? (i := 29) rfl), fun _ h => absurd h List.not_mem_nil⟩⟩⟩⟩⟩⟩⟩⟩⟩⟩⟩⟩⟩⟩⟩⟩⟩⟩⟩⟩
set_option maxRecDepth 20000 in
theorem cw_6 : ∀ w ∈ (List.range' 121 20).map codeW, w ∈ tables_1 := List.forall_mem_cons.mpr ⟨tb_5 (List.mem_of_getElem? (i := 33) rfl), List.forall_mem_cons.mpr ⟨tb_5 (List.mem_of_getElem? (i := 37) rfl), List.forall_mem_cons.mpr ⟨tb_5 (List.mem_of_getElem? (i := 41) rfl), List.forall_mem_cons.mpr ⟨tb_5 (List.mem_of_getElem? (i := 45) rfl), List.forall_mem_cons.mpr ⟨tb_5 (List.mem_of_getElem? (i := 49) rfl), List.forall_mem_cons.mpr ⟨tb_5 (List.mem_of_getElem? (i := 53) rfl), List.forall_mem_cons.mpr ⟨tb_5 (List.mem_of_getElem? (i := 57) rfl), List.forall_mem_cons.mpr ⟨tb_5 (List.mem_of_getElem? (i := 67) rfl), List.forall_mem_cons.mpr ⟨tb_5 (List.mem_of_getElem? (i := 71) rfl), List.forall_mem_cons.mpr ⟨tb_5 (List.mem_of_getElem? (i := 75) rfl), List.forall_mem_cons.mpr ⟨tb_5 (List.mem_of_getElem? (i := 79) rfl), List.forall_mem_cons.mpr ⟨tb_5 (List.mem_of_getElem? (i := 83) rfl), List.forall_mem_cons.mpr ⟨tb_5 (List.mem_of_getElem? (i := 87) rfl), List.forall_mem_cons.mpr ⟨tb_5 (List.mem_of_getElem? (i := 91) rfl), List.forall_mem_cons.mpr ⟨tb_5 (List.mem_of_getElem? (i := 95) rfl), List.forall_mem_cons.mpr ⟨tb_5 (List.mem_of_getElem? (i := 100) rfl), List.forall_mem_cons.mpr ⟨tb_5 (List.mem_of_getElem? (i := 104) rfl), List.forall_mem_cons.mpr ⟨tb_5 (List.mem_of_getElem? (i := 108) rfl), List.forall_mem_cons.mpr ⟨tb_5 (List.mem_of_getElem? (i := 112) rfl), List.forall_mem_cons.mpr ⟨tb_5 (List.mem_of_getElem? (i := 120) rfl), fun _ h => absurd h List.not_mem_nil⟩⟩⟩⟩⟩⟩⟩⟩⟩⟩⟩⟩⟩⟩⟩⟩⟩⟩⟩⟩
set_option maxRecDepth 20000 in
theorem cw_7 : ∀ w ∈ (List.range' 141 20).map codeW, w ∈ tables_1 := List.forall_mem_cons.mpr ⟨tb_5 (List.mem_of_getElem? (i := 123) rfl), List.forall_mem_cons.mpr ⟨tb_5 (List.mem_of_getElem? (i := 127) rfl), List.forall_mem_cons.mpr ⟨tb_5 (List.mem_of_getElem? (i := 130) rfl), List.forall_mem_cons.mpr ⟨tb_5 (List.mem_of_getElem? (i := 134) rfl), List.forall_mem_cons.mpr ⟨tb_5 (List.mem_of_getElem? (i := 138) rfl), List.forall_mem_cons.mpr ⟨tb_5 (List.mem_of_getElem? (i := 142) rfl), List.forall_mem_cons.mpr ⟨tb_5 (List.mem_of_getElem? (i := 147) rfl), List.forall_mem_cons.mpr ⟨tb_5 (List.mem_of_getElem? (i := 151) rfl), List.forall_mem_cons.mpr ⟨tb_5 (List.mem_of_getElem? (i := 155) rfl), List.forall_mem_cons.mpr ⟨tb_5 (List.mem_of_getElem? (i := 159) rfl), List.forall_mem_cons.mpr ⟨tb_5 (List.mem_of_getElem? (i := 163) rfl), List.forall_mem_cons.mpr ⟨tb_5 (List.mem_of_getElem? (i := 167) rfl), List.forall_mem_cons.mpr ⟨tb_5 (List.mem_of_getElem? (i := 171) rfl), List.forall_mem_cons.mpr ⟨tb_5 (List.mem_of_getElem? (i := 175) rfl), List.forall_mem_cons.mpr ⟨tb_5 (List.mem_of_getElem? (i := 179) rfl), List.forall_mem_cons.mpr ⟨tb_5 (List.mem_of_getElem? (i := 183) rfl), List.forall_mem_cons.mpr ⟨tb_5 (List.mem_of_getElem? (i := 187) rfl), List.forall_mem_cons.mpr ⟨tb_5 (List.mem_of_getElem? (i := 191) rfl), List.forall_mem_cons.mpr ⟨tb_5 (List.mem_of_getElem? (i := 195) rfl), List.forall_mem_cons.mpr ⟨tb_5 (List.mem_of_getElem? (i := 199) rfl), fun _ h => absurd h List.not_mem_nil⟩⟩⟩⟩⟩⟩⟩⟩⟩⟩⟩⟩⟩⟩⟩⟩⟩⟩⟩⟩
set_option maxRecDepth 20000 in
theorem cw_8 : ∀ w ∈ (List.range' 161 20).map codeW, w ∈ tables_1 := List.forall_mem_cons.mpr ⟨tb_5 (List.mem_of_getElem? (i := 203) rfl), List.forall_mem_cons.mpr ⟨tb_5 (List.mem_of_getElem? (i := 207) rfl), List.forall_mem_cons.mpr ⟨tb_5 (List.mem_of_getElem? (i := 211) rfl), List.forall_mem_cons.mpr ⟨tb_5 (List.mem_of_getElem? (i := 215) rfl), List.forall_mem_cons.mpr ⟨tb_5 (List.mem_of_getElem? (i := 219) rfl), List.forall_mem_cons.mpr ⟨tb_5 (List.mem_of_getElem? (i := 223) rfl), List.forall_mem_cons.mpr ⟨tb_5 (List.mem_of_getElem? (i := 227) rfl), List.forall_mem_cons.mpr ⟨tb_5 (List.mem_of_getElem? (i := 231) rfl), List.forall_mem_cons.mpr ⟨tb_5 (List.mem_of_getElem? (i := 235) rfl), List.forall_mem_cons.mpr ⟨tb_6 (List.mem_of_getElem? (i := 0) rfl), List.forall_mem_cons.mpr ⟨tb_6 (List.mem_of_getElem? (i := 4) rfl), List.forall_mem_cons.mpr ⟨tb_6 (List.mem_of_getElem? (i := 8) rfl), List.forall_mem_cons.mpr ⟨tb_6 (List.mem_of_getElem? (i := 12) rfl), List.forall_mem_cons.mpr ⟨tb_6 (List.mem_of_getElem? (i := 16) rfl), List.forall_mem_cons.mpr ⟨tb_6 (List.mem_of_getElem? (i := 20) rfl), List.forall_mem_cons.mpr ⟨tb_6 (List.mem_of_getElem? (i := 27) rfl), List.forall_mem_cons.mpr ⟨tb_6 (List.mem_of_getElem? (i := 31) rfl), List.forall_mem_cons.mpr ⟨tb_6 (List.mem_of_getElem? (i := 39) rfl), List.forall_mem_cons.mpr ⟨tb_6 (List.mem_of_getElem? (i := 43) rfl), List.forall_mem_cons.mpr ⟨tb_6 (List.mem_of_getElem? (i := 47) rfl), fun _ h => absurd h List.not_mem_nil⟩⟩⟩⟩⟩⟩⟩⟩⟩⟩⟩⟩⟩⟩⟩⟩⟩⟩⟩⟩
set_option maxRecDepth 20000 in
theorem cw_9 : ∀ w ∈ (List.range' 181 20).map codeW, w ∈ tables_1 := List.forall_mem_cons.mpr ⟨tb_6 (List.mem_of_getElem? (i := 51) rfl), List.forall_mem_cons.mpr ⟨tb_6 (List.mem_of_getElem? (i := 56) rfl), List.forall_mem_cons.mpr ⟨tb_6 (List.mem_of_getElem? (i := 99) rfl), List.forall_mem_cons.mpr ⟨tb_6 (List.mem_of_getElem? (i := 126) rfl), List.forall_mem_cons.mpr ⟨tb_7 (List.mem_of_getElem? (i := 89) rfl), List.forall_mem_cons.mpr ⟨tb_7 (List.mem_of_getElem? (i := 93) rfl), List.forall_mem_cons.mpr ⟨tb_7 (List.mem_of_getElem? (i := 100) rfl), List.forall_mem_cons.mpr ⟨tb_8 (List.mem_of_getElem? (i := 66) rfl), List.forall_mem_cons.mpr ⟨tb_8 (List.mem_of_getElem? (i := 70) rfl), List.forall_mem_cons.mpr ⟨tb_8 (List.mem_of_getElem? (i := 74) rfl), List.forall_mem_cons.mpr ⟨tb_8 (List.mem_of_getElem? (i := 78) rfl), List.forall_mem_cons.mpr ⟨tb_8 (List.mem_of_getElem? (i := 82) rfl), List.forall_mem_cons.mpr ⟨tb_8 (List.mem_of_getElem? (i := 86) rfl), List.forall_mem_cons.mpr ⟨tb_8 (List.mem_of_getElem? (i := 89) rfl), List.forall_mem_cons.mpr ⟨tb_8 (List.mem_of_getElem? (i := 92) rfl), List.forall_mem_cons.mpr ⟨tb_8 (List.mem_of_getElem? (i := 97) rfl), List.forall_mem_cons.mpr ⟨tb_8 (List.mem_of_getElem? (i := 106) rfl), List.forall_mem_cons.mpr ⟨tb_8 (List.mem_of_getElem? (i := 110) rfl), List.forall_mem_cons.mpr ⟨tb_8 (List.mem_of_getElem? (i := 114) rfl), List.forall_mem_cons.mpr ⟨tb_8 (List.mem_of_getElem? (i := 118) rfl), fun _ h => absurd h List.not_mem_nil⟩⟩⟩⟩⟩⟩⟩⟩⟩⟩⟩⟩⟩⟩⟩⟩⟩⟩⟩⟩
set_option maxRecDepth 20000 in
theorem cw_10 : ∀ w ∈ (List.range' 201 20).map codeW, w ∈ tables_1 := List.forall_mem_cons.mpr ⟨tb_8 (List.mem_of_getElem? (i := 122) rfl), List.forall_mem_cons.mpr ⟨tb_8 (List.mem_of_getElem? (i := 126) rfl), List.forall_mem_cons.mpr ⟨tb_8 (List.mem_of_getElem? (i := 130) rfl), List.forall_mem_cons.mpr ⟨tb_8 (List.mem_of_getElem? (i := 134) rfl), List.forall_mem_cons.mpr ⟨tb_8 (List.mem_of_getElem? (i := 138) rfl), List.forall_mem_cons.mpr ⟨tb_8 (List.mem_of_getElem? (i := 142) rfl), List.forall_mem_cons.mpr ⟨tb_8 (List.mem_of_getElem? (i := 146) rfl), List.forall_mem_cons.mpr ⟨tb_8 (List.mem_of_getElem? (i := 150) rfl), List.forall_mem_cons.mpr ⟨tb_8 (List.mem_of_getElem? (i := 154) rfl), List.forall_mem_cons.mpr ⟨tb_8 (List.mem_of_getElem? (i := 158) rfl), List.forall_mem_cons.mpr ⟨tb_8 (List.mem_of_getElem? (i := 162) rfl), List.forall_mem_cons.mpr ⟨tb_8 (List.mem_of_getElem? (i := 166) rfl), List.forall_mem_cons.mpr ⟨tb_8 (List.mem_of_getElem? (i := 170) rfl), List.forall_mem_cons.mpr ⟨tb_8 (List.mem_of_getElem? (i := 175) rfl), List.forall_mem_cons.mpr ⟨tb_8 (List.mem_of_getElem? (i := 180) rfl), List.forall_mem_cons.mpr ⟨tb_8 (List.mem_of_getElem? (i := 184) rfl), List.forall_mem_cons.mpr ⟨tb_8 (List.mem_of_getElem? (i := 188) rfl), List.forall_mem_cons.mpr ⟨tb_8 (List.mem_of_getElem? (i := 192) rfl), List.forall_mem_cons.mpr ⟨tb_8 (List.mem_of_getElem? (i := 195) rfl), List.forall_mem_cons.mpr ⟨tb_8 (List.mem_of_getElem? (i := 199) rfl), fun _ h => absurd h List.not_mem_nil⟩⟩⟩⟩⟩⟩⟩⟩⟩⟩⟩⟩⟩⟩⟩⟩⟩⟩⟩⟩
set_option maxRecDepth 20000 in
theorem cw_11 : ∀ w ∈ (List.range' 221 20).map codeW, w ∈ tables_1 := List.forall_mem_cons.mpr ⟨tb_8 (List.mem_of_getElem? (i := 203) rfl), List.forall_mem_cons.mpr ⟨tb_8 (List.mem_of_getElem? (i := 207) rfl), List.forall_mem_cons.mpr ⟨tb_8 (List.mem_of_getElem? (i := 211) rfl), List.forall_mem_cons.mpr ⟨tb_8 (List.mem_of_getElem? (i := 215) rfl), List.forall_mem_cons.mpr ⟨tb_8 (List.mem_of_getElem? (i := 219) rfl), List.forall_mem_cons.mpr ⟨tb_8 (List.mem_of_getElem? (i := 223) rfl), List.forall_mem_cons.mpr ⟨tb_8 (List.mem_of_getElem? (i := 227) rfl), List.forall_mem_cons.mpr ⟨tb_8 (List.mem_of_getElem? (i := 231) rfl), List.forall_mem_cons.mpr ⟨tb_8 (List.mem_of_getElem? (i := 235) rfl), List.forall_mem_cons.mpr ⟨tb_8 (List.mem_of_getElem? (i := 239) rfl), List.forall_mem_cons.mpr ⟨tb_9 (List.mem_of_getElem? (i := 3) rfl), List.forall_mem_cons.mpr ⟨tb_9 (List.mem_of_getElem? (i := 7) rfl), List.forall_mem_cons.mpr ⟨tb_9 (List.mem_of_getElem? (i := 11) rfl), List.forall_mem_cons.mpr ⟨tb_9 (List.mem_of_getElem? (i := 15) rfl), List.forall_mem_cons.mpr ⟨tb_9 (List.mem_of_getElem? (i := 19) rfl), List.forall_mem_cons.mpr ⟨tb_9 (List.mem_of_getElem? (i := 23) rfl), List.forall_mem_cons.mpr ⟨tb_9 (List.mem_of_getElem? (i := 27) rfl), List.forall_mem_cons.mpr ⟨tb_9 (List.mem_of_getElem? (i := 31) rfl), List.forall_mem_cons.mpr ⟨tb_9 (List.mem_of_getElem? (i := 35) rfl), List.forall_mem_cons.mpr ⟨tb_9 (List.mem_of_getElem? (i := 39) rfl), fun _ h => absurd h List.not_mem_nil⟩⟩⟩⟩⟩⟩⟩⟩⟩⟩⟩⟩⟩⟩⟩⟩⟩⟩⟩⟩
set_option maxRecDepth 20000 in
theorem cw_12 : ∀ w ∈ (List.range' 241 20).map codeW, w ∈ tables_1 := List.forall_mem_cons.mpr ⟨tb_9 (List.mem_of_getElem? (i := 43) rfl), List.forall_mem_cons.mpr ⟨tb_9 (List.mem_of_getElem? (i := 47) rfl), List.forall_mem_cons.mpr ⟨tb_9 (List.mem_of_getElem? (i := 51) rfl), List.forall_mem_cons.mpr ⟨tb_9 (List.mem_of_getElem? (i := 55) rfl), List.forall_mem_cons.mpr ⟨tb_9 (List.mem_of_getElem? (i := 59) rfl), List.forall_mem_cons.mpr ⟨tb_9 (List.mem_of_getElem? (i := 63) rfl), List.forall_mem_cons.mpr ⟨tb_9 (List.mem_of_getElem? (i := 67) rfl), List.forall_mem_cons.mpr ⟨tb_9 (List.mem_of_getElem? (i := 70) rfl), List.forall_mem_cons.mpr ⟨tb_9 (List.mem_of_getElem? (i := 74) rfl), List.forall_mem_cons.mpr ⟨tb_9 (List.mem_of_getElem? (i := 77) rfl), List.forall_mem_cons.mpr ⟨tb_9 (List.mem_of_getElem? (i := 81) rfl), List.forall_mem_cons.mpr ⟨tb_9 (List.mem_of_getElem? (i := 85) rfl), List.forall_mem_cons.mpr ⟨tb_9 (List.mem_of_getElem? (i := 89) rfl), List.forall_mem_cons.mpr ⟨tb_9 (List.mem_of_getElem? (i := 93) rfl), List.forall_mem_cons.mpr ⟨tb_9 (List.mem_of_getElem? (i := 97) rfl), List.forall_mem_cons.mpr ⟨tb_9 (List.mem_of_getElem? (i := 101) rfl), List.forall_mem_cons.mpr ⟨tb_9 (List.mem_of_getElem? (i := 105) rfl), List.forall_mem_cons.mpr ⟨tb_9 (List.mem_of_getElem? (i := 109) rfl), List.forall_mem_cons.mpr ⟨tb_9 (List.mem_of_getElem? (i := 113) rfl), List.forall_mem_cons.mpr ⟨tb_9 (List.mem_of_getElem? (i := 117) rfl), fun _ h => absurd h List.not_mem_nil⟩⟩⟩⟩⟩⟩⟩⟩⟩⟩⟩⟩⟩⟩⟩⟩⟩⟩⟩⟩
set_option maxRecDepth 20000 in
theorem cw_13 : ∀ w ∈ (List.range' 261 15).map codeW, w ∈ tables_1 := List.forall_mem_cons.mpr ⟨tb_9 (List.mem_of_getElem? (i := 121) rfl), List.forall_mem_cons.mpr ⟨tb_9 (List.mem_of_getElem? (i := 125) rfl), List.forall_mem_cons.mpr ⟨tb_9 (List.mem_of_getElem? (i := 129) rfl), List.forall_mem_cons.mpr ⟨tb_9 (List.mem_of_getElem? (i := 133) rfl), List.forall_mem_cons.mpr ⟨tb_9 (List.mem_of_getElem? (i := 137) rfl), List.forall_mem_cons.mpr ⟨tb_9 (List.mem_of_getElem? (i := 141) rfl), List.forall_mem_cons.mpr ⟨tb_9 (List.mem_of_getElem? (i := 145) rfl), List.forall_mem_cons.mpr ⟨tb_9 (List.mem_of_getElem? (i := 149) rfl), List.forall_mem_cons.mpr ⟨tb_9 (List.mem_of_getElem? (i := 153) rfl), List.forall_mem_cons.mpr ⟨tb_9 (List.mem_of_getElem? (i := 157) rfl), List.forall_mem_cons.mpr ⟨tb_9 (List.mem_of_getElem? (i := 161) rfl), List.forall_mem_cons.mpr ⟨tb_9 (List.mem_of_getElem? (i := 165) rfl), List.forall_mem_cons.mpr ⟨tb_9 (List.mem_of_getElem? (i := 169) rfl), List.forall_mem_cons.mpr ⟨tb_9 (List.mem_of_getElem? (i := 173) rfl), List.forall_mem_cons.mpr ⟨tb_9 (List.mem_of_getElem? (i := 177) rfl), fun _ h => absurd h List.not_mem_nil⟩⟩⟩⟩⟩⟩⟩⟩⟩⟩⟩⟩⟩⟩⟩
theorem code_in {m : Nat} (h : m < nM) (h1 : 1 ≤ m) : codeW m ∈ lw_tbl := by
  refine in_tbl ?_
  by_cases h10 : m < 21
  · exact cw_0 _ (List.mem_map.mpr ⟨m, List.mem_range'_1.mpr ⟨by omega, by omega⟩, rfl⟩)
  by_cases h11 : m < 41
  · exact cw_1 _ (List.mem_map.mpr ⟨m, List.mem_range'_1.mpr ⟨by omega, by omega⟩, rfl⟩)
  by_cases h12 : m < 61
  · exact cw_2 _ (List.mem_map.mpr ⟨m, List.mem_range'_1.mpr ⟨by omega, by omega⟩, rfl⟩)
  by_cases h13 : m < 81
  · exact cw_3 _ (List.mem_map.mpr ⟨m, List.mem_range'_1.mpr ⟨by omega, by omega⟩, rfl⟩)
  by_cases h14 : m < 101
  · exact cw_4 _ (List.mem_map.mpr ⟨m, List.mem_range'_1.mpr ⟨by omega, by omega⟩, rfl⟩)
  by_cases h15 : m < 121
  · exact cw_5 _ (List.mem_map.mpr ⟨m, List.mem_range'_1.mpr ⟨by omega, by omega⟩, rfl⟩)
  by_cases h16 : m < 141
  · exact cw_6 _ (List.mem_map.mpr ⟨m, List.mem_range'_1.mpr ⟨by omega, by omega⟩, rfl⟩)
  by_cases h17 : m < 161
  · exact cw_7 _ (List.mem_map.mpr ⟨m, List.mem_range'_1.mpr ⟨by omega, by omega⟩, rfl⟩)
  by_cases h18 : m < 181
  · exact cw_8 _ (List.mem_map.mpr ⟨m, List.mem_range'_1.mpr ⟨by omega, by omega⟩, rfl⟩)
  by_cases h19 : m < 201
  · exact cw_9 _ (List.mem_map.mpr ⟨m, List.mem_range'_1.mpr ⟨by omega, by omega⟩, rfl⟩)
  by_cases h20 : m < 221
  · exact cw_10 _ (List.mem_map.mpr ⟨m, List.mem_range'_1.mpr ⟨by omega, by omega⟩, rfl⟩)
  by_cases h21 : m < 241
  · exact cw_11 _ (List.mem_map.mpr ⟨m, List.mem_range'_1.mpr ⟨by omega, by omega⟩, rfl⟩)
  by_cases h22 : m < 261
  · exact cw_12 _ (List.mem_map.mpr ⟨m, List.mem_range'_1.mpr ⟨by omega, by omega⟩, rfl⟩)
  by_cases h23 : m < 276
  · exact cw_13 _ (List.mem_map.mpr ⟨m, List.mem_range'_1.mpr ⟨by omega, by omega⟩, rfl⟩)
  exact absurd h (by unfold nM; omega)
set_option maxRecDepth 20000 in
theorem stat_sub : isSub ((((List.range nM).drop 1).filter (fun m => Nat.beq (sm m) 1)).map (fun m => Cond.static (yO m))) tables_1 = true := by decide +kernel
theorem stat_in {m : Nat} (h : m < nM) (h1 : 1 ≤ m) (h2 : sm m = 1) : Cond.static (yO m) ∈ lw_tbl := in_tbl (isSub_mem _ _ stat_sub _ (List.mem_map.mpr ⟨m, List.mem_filter.mpr ⟨by
  obtain ⟨k, rfl⟩ : ∃ k, m = 1 + k := ⟨m - 1, by omega⟩
  exact List.mem_of_getElem? (i := k) (by rw [List.getElem?_drop]; simp [h]), by rw [h2]; rfl⟩, rfl⟩))
set_option maxRecDepth 20000 in
theorem inst_sub : isSub ((((List.range nM).drop 1).filter (fun m => Nat.beq (sm m) 0)).map (fun m => Cond.instanceMethod (yO m))) tables_1 = true := by decide +kernel
theorem inst_in {m : Nat} (h : m < nM) (h1 : 1 ≤ m) (h2 : sm m = 0) : Cond.instanceMethod (yO m) ∈ lw_tbl := in_tbl (isSub_mem _ _ inst_sub _ (List.mem_map.mpr ⟨m, List.mem_filter.mpr ⟨by
  obtain ⟨k, rfl⟩ : ∃ k, m = 1 + k := ⟨m - 1, by omega⟩
  exact List.mem_of_getElem? (i := k) (by rw [List.getElem?_drop]; simp [h]), by rw [h2]; rfl⟩, rfl⟩))
/-- 1 where the method is private: its 'selects' is among those made of lw_privs -/
def pvL : List Nat := [0, 0, 0, 0, 0, 0, 0, 0, 0, 0, 0, 0, 0, 0, 0, 0, 0, 0, 0, 0, 0, 0, 1, 0, 0, 0, 0, 0, 0, 0, 0, 0, 0, 0, 0, 0, 0, 1, 0, 1, 0, 1, 0, 1, 0, 1, 1, 0, 0, 0, 0, 0, 0, 0, 0, 1, 1, 1, 1, 1, 1, 1, 1, 1, 1, 1, 1, 1, 1, 1, 1, 1, 1, 1, 1, 1, 0, 1, 1, 1, 1, 0, 1, 1, 1, 1, 1, 0, 1, 0, 1, 1, 1, 1, 1, 1, 1, 0, 1, 1, 1, 1, 1, 1, 1, 1, 1, 1, 1, 1, 1, 1, 1, 1, 0, 0, 1, 0, 0, 0, 0, 0, 0, 0, 0, 0, 1, 0, 1, 1, 1, 1, 1, 1, 1, 1, 1, 1, 1, 0, 1, 0, 1, 0, 1, 1, 0, 1, 1, 0, 0, 0, 0, 1, 1, 1, 1, 1, 1, 0, 1, 1, 0, 1, 1, 1, 1, 1, 1, 1, 1, 1, 0, 0, 0, 0, 0, 0, 0, 0, 0, 0, 0, 0, 0, 1, 0, 1, 0, 1, 0, 0, 1, 1, 0, 0, 1, 1, 1, 1, 1, 1, 1, 1, 1, 1, 1, 1, 1, 1, 1, 1, 1, 1, 1, 1, 1, 1, 1, 0, 1, 1, 1, 1, 1, 1, 1, 1, 1, 1, 1, 1, 1, 1, 1, 1, 1, 0, 1, 1, 1, 1, 1, 1, 1, 1, 1, 1, 0, 1, 0, 1, 1, 1, 1, 1, 1, 1, 1, 1, 1, 0, 0, 0, 0, 0, 0, 0, 0, 0, 1, 1, 0, 0, 0, 0]
def selW (m : Nat) : Cond := .selects (yO m).cls (yO m) (yO m)
def selM (b : Nat) : List Nat := ((List.range nM).drop 1).filter (fun m => Nat.beq (sm m) 0 && !decide ((yO m).name = "<init>") && Nat.beq (pvL.getD m 0) b)
set_option maxRecDepth 20000 in
theorem sel_sub0 : isSub ((selM 0).map selW) tables_1 = true := by decide +kernel
set_option maxRecDepth 20000 in
theorem sel_sub1 : isSub ((selM 1).map selW) (k2_sels lw_privs) = true := by decide +kernel
theorem pv_01 : ∀ m, m < nM → pvL.getD m 0 = 0 ∨ pvL.getD m 0 = 1 := by decide +kernel
theorem sel_in {m : Nat} (h : m < nM) (h1 : 1 ≤ m) (h2 : sm m = 0) (h3 : (yO m).name ≠ "<init>") : selW m ∈ lw_tbl := by
  have hm : m ∈ (List.range nM).drop 1 := by
    obtain ⟨k, rfl⟩ : ∃ k, m = 1 + k := ⟨m - 1, by omega⟩
    exact List.mem_of_getElem? (i := k) (by rw [List.getElem?_drop]; simp [h])
  rcases pv_01 m h with e | e
  · exact in_tbl (isSub_mem _ _ sel_sub0 _ (List.mem_map.mpr ⟨m, List.mem_filter.mpr ⟨hm, by rw [h2, e]; simp [h3]⟩, rfl⟩))
  · exact List.mem_append.mpr (Or.inl (isSub_mem _ _ sel_sub1 _ (List.mem_map.mpr ⟨m, List.mem_filter.mpr ⟨hm, by rw [h2, e]; simp [h3]⟩, rfl⟩)))
theorem init_in : ∀ k, k < cnL.length → Cond.initialized (cn k) ∈ tables_1 := by decide +kernel
def npar (m : Nat) : Nat := match parseMethodDescriptor (yO m).desc with
  | some d => d.parameters.length
  | none => 99
def mOK (m : Nat) : Bool := plainName (yO m).cls && decide ((yO m).cls ≠ "java/lang/invoke/MethodHandle" ∧ (yO m).cls ≠ "java/lang/invoke/VarHandle") && decide ((parseMethodDescriptor (yO m).desc).map (fun d => d.parameters.length) = some (npar m)) && decide (cn (ow m) = (yO m).cls)
theorem m_ok : ∀ m, m < nM → mOK m = true := by decide +kernel
/-- a link's callee: how many arguments, the room -/
theorem mr_ok : ∀ q ∈ mrL, 6 ≤ q.2.2.2.2 ∨ (q.2.2.1 < nM ∧ 1 ≤ q.2.2.1 ∧ q.2.2.2.1 = npar q.2.2.1 ∧ (if q.2.2.2.2 = 0 ∨ q.2.2.2.2 = 3 then sm q.2.2.1 = 1 else if q.2.2.2.2 = 1 then sm q.2.2.1 = 0 ∧ (yO q.2.2.1).name ≠ "<init>" else sm q.2.2.1 = 0 ∧ (yO q.2.2.1).name = "<init>" ∧ rt q.2.2.1 = none)) := by decide +kernel
def gtbl : List Cond := lw_tbl.filter goodWord
def auxE (m pc : Nat) (e : En) : Bool := match e with
  | (i, n, a, b, c, d, v) => match i with
  | .iconst q => Nat.beq n 1 && decide (Int32.ofInt q = v)
  | .bipush q => Nat.beq n 2 && decide ((Int8.ofInt q).toInt32 = v)
  | .sipush q => Nat.beq n 3 && decide ((Int16.ofInt q).toInt32 = v)
  | .ldc k => Nat.beq n 2 && (if c = 0 then cstL.contains (ow m, k, v) else strL.contains (ow m, k, a))
  | .ldc_w k => Nat.beq n 3 && (if c = 0 then cstL.contains (ow m, k, v) else strL.contains (ow m, k, a))
  | .ldc2_w k => Nat.beq n 3 && clgL.contains (ow m, k, a)
  | .iinc _ q => Nat.beq n 3 && decide (Int32.ofInt q = v)
  | .ifCond _ o => Nat.beq n 3 && decide ((pc : Int) + o = (a : Int))
  | .if_icmp _ o => Nat.beq n 3 && decide ((pc : Int) + o = (a : Int))
  | .goto o => Nat.beq n 3 && decide ((pc : Int) + o = (a : Int))
  | .tableswitch dd lo hi offs => decide ((pc : Int) + dd = ((swL.getD a ([], 0)).2 : Int)) && decide ((swL.getD a ([], 0)).1.map (fun q => (q.1.toInt, (q.2 : Int))) = (List.range offs.size).map (fun k : Nat => (lo + (k : Int), (pc : Int) + offs.toList.getD k 0))) && decide (hi = lo + (offs.size : Int) - 1)
  | .lookupswitch dd ps => decide ((pc : Int) + dd = ((swL.getD a ([], 0)).2 : Int)) && decide ((swL.getD a ([], 0)).1.map (fun q => (q.1.toInt, (q.2 : Int))) = ps.toList.map (fun q => (q.1, (pc : Int) + q.2))) && (ps.toList.zip (ps.toList.drop 1)).all (fun (a, next) => a.1 < next.1)
  | .getfield k => Nat.beq n 3 && decide (frL[d]? = some (ow m, k, a, b, c))
  | .putfield k => Nat.beq n 3 && decide (frL[d]? = some (ow m, k, a, b, c)) && (Nat.beq c 0 || Nat.beq c 1 || Nat.beq c 4 || (decide ((yO m).name = "<init>") && Nat.beq (ow m) a))
  | .getstatic k => Nat.beq n 3 && gstL.contains (ow m, k, a, c) && (Nat.beq c 0 || decide (v = 1))
  | .new k => Nat.beq n 3 && clkL.contains (ow m, k, a)
  | .newarray t => Nat.beq n 2 && (match t with | .int => Nat.beq a 100 | .byte => Nat.beq a 101 | .boolean => Nat.beq a 102 | _ => false)
  | .invokevirtual k => Nat.beq n 3 && decide (mrL[d]? = some (ow m, k, a, b, c)) && Nat.beq c 1 && Nat.ble (frm a + 1) (frm m) && Nat.ble (8 + (mx a + 11) + loc a) (loc m)
  | .invokestatic k => Nat.beq n 3 && decide (mrL[d]? = some (ow m, k, a, b, c)) && (if Nat.ble 8 c then Nat.ble c 10 && Nat.ble 1 (frm m) && Nat.ble 25 (loc m) else (Nat.beq c 0 || Nat.beq c 3) && Nat.ble (frm a + 1) (frm m) && Nat.ble (8 + (mx a + 11) + loc a) (loc m))
  | .invokespecial k => Nat.beq n 3 && decide (mrL[d]? = some (ow m, k, a, b, c)) && (if Nat.ble 6 c then (Nat.beq c 6 || (Nat.beq c 7 && Nat.beq m mWr && Nat.ble 5 (frm m) && Nat.ble 110 (loc m))) && Nat.ble 1 (frm m) && Nat.ble 25 (loc m) else (Nat.beq c 2 || Nat.beq c 5) && Nat.ble (frm a + 1) (frm m) && Nat.ble (8 + (mx a + 11) + loc a) (loc m))
  | .iload _ | .lload _ | .aload _ | .istore _ | .lstore _ | .astore _ => Nat.beq n 2
  | _ => Nat.beq n 1
def chkL (m : Nat) : Nat → List En → Bool
  | _, [] => true
  | pc, e :: r => (decide (e.1 = .nop) || (decide (decode (bO m) pc = .ok (e.1, e.2.1)) && auxE m pc e)) && chkL m (pc + 1) r
