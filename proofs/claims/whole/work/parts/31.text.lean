/-! the texts: length, charAt -/
theorem t5 {t : Nat} (h : t < 5) : t = 0 ∨ t = 1 ∨ t = 2 ∨ t = 3 ∨ t = 4 := by omega
theorem slat_ok {E : Xe} {w : Wd} {t : Nat} (ht : t < 5) : Rn E 31 (0, loc0 31 [.retAddr (10 + t)], [], w) (.returned (some (.int 1))) w := by
  rcases t5 ht with e | e | e | e | e <;> subst e <;> exact Rn.run 7 rfl (Rn.ret rfl rfl rfl)
theorem scod_ok {E : Xe} {w : Wd} {t : Nat} (ht : t < 5) : Rn E 13 (0, loc0 13 [.retAddr (10 + t)], [], w) (.returned (some (.int 0))) w := by
  rcases t5 ht with e | e | e | e | e <;> subst e <;> exact Rn.run 5 rfl (Rn.ret rfl rfl rfl)
set_option maxRecDepth 10000 in
theorem slen_ok {E : Xe} {w : Wd} {t : Nat} (ht : t < 5) : Rn E 12 (0, loc0 12 [.retAddr (10 + t)], [], w) (.returned (some (.int (Int32.ofNat (xlen E (20 + t)))))) w := by
  rcases t5 ht with e | e | e | e | e <;> subst e
  · refine Rn.run 4 rfl ?_
    refine Rn.call rfl rfl rfl rfl (scod_ok (t := 0) (by omega)) ?_
    refine Rn.run 1 rfl ?_
    exact Rn.ret rfl rfl rfl
  · refine Rn.run 4 rfl ?_
    refine Rn.call rfl rfl rfl rfl (scod_ok (t := 1) (by omega)) ?_
    refine Rn.run 1 rfl ?_
    exact Rn.ret rfl rfl rfl
  · refine Rn.run 4 rfl ?_
    refine Rn.call rfl rfl rfl rfl (scod_ok (t := 2) (by omega)) ?_
    refine Rn.run 1 rfl ?_
    exact Rn.ret rfl rfl rfl
  · refine Rn.run 4 rfl ?_
    refine Rn.call rfl rfl rfl rfl (scod_ok (t := 3) (by omega)) ?_
    refine Rn.run 1 rfl ?_
    exact Rn.ret rfl rfl rfl
  · refine Rn.run 4 rfl ?_
    refine Rn.call rfl rfl rfl rfl (scod_ok (t := 4) (by omega)) ?_
    refine Rn.run 1 rfl ?_
    exact Rn.ret rfl rfl rfl
theorem chk_ok {E : Xe} {w : Wd} {i n : Int32} (h0 : ¬ i < 0) (h1 : i < n) : Rn E 33 (0, loc0 33 [.int i, .int n], [], w) (.returned none) w := by
  refine Rn.run 3 rfl ?_
  refine Rn.call (w1 := w) (v := some (.int i)) rfl rfl rfl rfl ?_ ?_
  · refine Rn.run 1 rfl ?_
    refine Rn.br rfl (by decide) rfl (fun h => ?_) (fun h => ?_)
    · exact absurd h h0
    refine Rn.run 2 rfl ?_
    refine Rn.br rfl (by decide) rfl (fun h2 => ?_) (fun h2 => ?_)
    · refine Rn.run 1 rfl ?_
      exact Rn.ret rfl rfl rfl
    · exact absurd h1 h2
  · refine Rn.run 1 rfl ?_
    exact Rn.ret rfl rfl rfl
def ch8 (x : Int32) : Int32 := ((x &&& 255).toUInt32 % 65536).toInt32
theorem ch8_ok : ∀ t, t < 5 → ∀ i, i < (xTL.getD t []).length → ch8 ((xTL.getD t []).getD i 0) = (xTL.getD t []).getD i 0 ∧ ((ch8 ((xTL.getD t []).getD i 0)).toUInt32 % 65536).toInt32 = ch8 ((xTL.getD t []).getD i 0) := by decide +kernel
theorem xl_t {E : Xe} {t : Nat} (ht : t < 5) : xlen E (20 + t) = (xTL.getD t []).length := by
  rcases t5 ht with e | e | e | e | e <;> subst e <;> rfl
theorem xv_t {E : Xe} {t : Nat} (ht : t < 5) (i : Nat) : xval E (20 + t) i = (xTL.getD t []).getD i 0 := by
  rcases t5 ht with e | e | e | e | e <;> subst e <;> rfl
theorem xl_s : ∀ t, t < 5 → (xTL.getD t []).length < 1000 := by decide +kernel
theorem xb_t {t : Nat} (ht : t < 5) : isXB (20 + t) = true := by
  rcases t5 ht with e | e | e | e | e <;> subst e <;> rfl
theorem xal {E : Xe} {w : Wd} {t pc n a b c d : Nat} {ls r : List Value} {v : Int32} (ht : t < 5) : st1 E (.arraylength, n, a, b, c, d, v) pc ls (.retAddr (20 + t) :: r) w = some (pc + n, ls, .int (Int32.ofNat (xTL.getD t []).length) :: r, w) := by
  have h1 := xb_t ht
  rw [← xl_t (E := E) ht]
  simp [st1, h1]
theorem xba {E : Xe} {w : Wd} {t pc n a b c d : Nat} {ls r : List Value} {v : Int32} {i : Nat} (ht : t < 5) (hi : i < (xTL.getD t []).length) : st1 E (.baload, n, a, b, c, d, v) pc ls (.int (Int32.ofNat i) :: .retAddr (20 + t) :: r) w = some (pc + n, ls, .int ((xTL.getD t []).getD i 0) :: r, w) := by
  have h1 := xb_t ht
  have h2 := xl_s t ht
  have h3 : ¬ (Int32.ofNat i < 0 ∨ xlen E (20 + t) ≤ (Int32.ofNat i).toNatClampNeg) := by
    rw [i32_cl (by omega), xl_t ht]
    rintro (z | z)
    · exact i32_nn (by omega) z
    · omega
  simp only [st1, h1]
  rw [if_pos trivial, if_neg h3, i32_cl (by omega), xv_t ht]
theorem slch_ok {E : Xe} {w : Wd} {t i : Nat} (ht : t < 5) (hi : i < (xTL.getD t []).length) : Rn E 32 (0, loc0 32 [.retAddr (20 + t), .int (Int32.ofNat i)], [], w) (.returned (some (.int ((xTL.getD t []).getD i 0)))) w := by
  have h2 := xl_s t ht
  obtain ⟨e1, e2⟩ := ch8_ok t ht i hi
  refine Rn.run 2 rfl ?_
  refine Rn.st rfl (by decide) (xal ht) ?_
  refine Rn.call rfl rfl rfl rfl (chk_ok (i32_nn (by omega)) ((i32_lt (by omega) (by omega)).mpr hi)) ?_
  refine Rn.run 2 rfl ?_
  refine Rn.st rfl (by decide) (xba ht hi) ?_
  refine Rn.run 3 rfl ?_
  show Rn E 32 (14, _, [.int (ch8 ((xTL.getD t []).getD i 0))], w) _ w
  refine Rn.ret rfl rfl ?_
  show (if _ = _ then _ else _) = _
  rw [if_pos e2, e1]
theorem sget8 {E : Xe} {w : Wd} {t pc n a b d q : Nat} {ls r : List Value} {v : Int32} (ht : t < 5) : st1 E (.getfield q, n, a, b, 8, d, v) pc ls (.retAddr (10 + t) :: r) w = some (pc + n, ls, .retAddr (20 + t) :: r, w) := by
  rcases t5 ht with e | e | e | e | e <;> subst e <;> rfl
theorem schar_ok {E : Xe} {w : Wd} {t i : Nat} (ht : t < 5) (hi : i < (xTL.getD t []).length) : Rn E 30 (0, loc0 30 [.retAddr (10 + t), .int (Int32.ofNat i)], [], w) (.returned (some (.int ((xTL.getD t []).getD i 0)))) w := by
  obtain ⟨e1, e2⟩ := ch8_ok t ht i hi
  refine Rn.run 1 rfl ?_
  refine Rn.call (j := 31) (as := [.retAddr (10 + t)]) (r := []) rfl rfl rfl ?_ (slat_ok ht) ?_
  · rcases t5 ht with e | e | e | e | e <;> subst e <;> rfl
  refine Rn.run 2 rfl ?_
  refine Rn.st rfl (by decide) (sget8 ht) ?_
  refine Rn.run 1 rfl ?_
  refine Rn.call (j := 32) (as := [.retAddr (20 + t), .int (Int32.ofNat i)]) (r := []) rfl rfl rfl rfl (slch_ok ht hi) ?_
  refine Rn.ret rfl rfl ?_
  show (if _ = _ then _ else _) = _
  rw [if_pos (by rw [← e1]; exact e2)]
