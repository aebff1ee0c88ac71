/-! Lexer.isSign, through String.indexOf -/
def ioc8 (_ : Int32) : Int32 := -1
def ioc7 (b : Int32) : Int32 := if 45 = b then 7 else ioc8 b
def ioc6 (b : Int32) : Int32 := if 44 = b then 6 else ioc7 b
def ioc5 (b : Int32) : Int32 := if 58 = b then 5 else ioc6 b
def ioc4 (b : Int32) : Int32 := if 59 = b then 4 else ioc5 b
def ioc3 (b : Int32) : Int32 := if 41 = b then 3 else ioc4 b
def ioc2 (b : Int32) : Int32 := if 40 = b then 2 else ioc3 b
def ioc1 (b : Int32) : Int32 := if 125 = b then 1 else ioc2 b
def ioc0 (b : Int32) : Int32 := if 123 = b then 0 else ioc1 b
section
variable {E : Xe} {w : Wd}
theorem ioc8_ok (b c : Int32) : Rn E 52 (7, [.retAddr 21, .int c, .int 0, .int 8, .int b, .int 8], [], w) (.returned (some (.int (ioc8 b)))) w := by
  refine Rn.run 4 rfl ?_
  exact Rn.ret rfl rfl rfl
theorem ioc7_ok (b c : Int32) : Rn E 52 (7, [.retAddr 21, .int c, .int 0, .int 8, .int b, .int 7], [], w) (.returned (some (.int (ioc7 b)))) w := by
  refine Rn.run 5 rfl ?_
  refine Rn.st rfl (by decide) (xba (t := 1) (i := 7) (by decide) (by decide)) ?_
  refine Rn.run 1 rfl ?_
  unfold ioc7
  refine Rn.br rfl (by decide) rfl (fun (h : (45 : Int32) = b) => ?_) (fun (h : ¬ (45 : Int32) = b) => ?_)
  · rw [if_pos h]
    refine Rn.run 1 rfl ?_
    exact Rn.ret rfl rfl rfl
  · rw [if_neg h]
    refine Rn.run 2 rfl ?_
    exact ioc8_ok b c
theorem ioc6_ok (b c : Int32) : Rn E 52 (7, [.retAddr 21, .int c, .int 0, .int 8, .int b, .int 6], [], w) (.returned (some (.int (ioc6 b)))) w := by
  refine Rn.run 5 rfl ?_
  refine Rn.st rfl (by decide) (xba (t := 1) (i := 6) (by decide) (by decide)) ?_
  refine Rn.run 1 rfl ?_
  unfold ioc6
  refine Rn.br rfl (by decide) rfl (fun (h : (44 : Int32) = b) => ?_) (fun (h : ¬ (44 : Int32) = b) => ?_)
  · rw [if_pos h]
    refine Rn.run 1 rfl ?_
    exact Rn.ret rfl rfl rfl
  · rw [if_neg h]
    refine Rn.run 2 rfl ?_
    exact ioc7_ok b c
theorem ioc5_ok (b c : Int32) : Rn E 52 (7, [.retAddr 21, .int c, .int 0, .int 8, .int b, .int 5], [], w) (.returned (some (.int (ioc5 b)))) w := by
  refine Rn.run 5 rfl ?_
  refine Rn.st rfl (by decide) (xba (t := 1) (i := 5) (by decide) (by decide)) ?_
  refine Rn.run 1 rfl ?_
  unfold ioc5
  refine Rn.br rfl (by decide) rfl (fun (h : (58 : Int32) = b) => ?_) (fun (h : ¬ (58 : Int32) = b) => ?_)
  · rw [if_pos h]
    refine Rn.run 1 rfl ?_
    exact Rn.ret rfl rfl rfl
  · rw [if_neg h]
    refine Rn.run 2 rfl ?_
    exact ioc6_ok b c
theorem ioc4_ok (b c : Int32) : Rn E 52 (7, [.retAddr 21, .int c, .int 0, .int 8, .int b, .int 4], [], w) (.returned (some (.int (ioc4 b)))) w := by
  refine Rn.run 5 rfl ?_
  refine Rn.st rfl (by decide) (xba (t := 1) (i := 4) (by decide) (by decide)) ?_
  refine Rn.run 1 rfl ?_
  unfold ioc4
  refine Rn.br rfl (by decide) rfl (fun (h : (59 : Int32) = b) => ?_) (fun (h : ¬ (59 : Int32) = b) => ?_)
  · rw [if_pos h]
    refine Rn.run 1 rfl ?_
    exact Rn.ret rfl rfl rfl
  · rw [if_neg h]
    refine Rn.run 2 rfl ?_
    exact ioc5_ok b c
theorem ioc3_ok (b c : Int32) : Rn E 52 (7, [.retAddr 21, .int c, .int 0, .int 8, .int b, .int 3], [], w) (.returned (some (.int (ioc3 b)))) w := by
  refine Rn.run 5 rfl ?_
  refine Rn.st rfl (by decide) (xba (t := 1) (i := 3) (by decide) (by decide)) ?_
  refine Rn.run 1 rfl ?_
  unfold ioc3
  refine Rn.br rfl (by decide) rfl (fun (h : (41 : Int32) = b) => ?_) (fun (h : ¬ (41 : Int32) = b) => ?_)
  · rw [if_pos h]
    refine Rn.run 1 rfl ?_
    exact Rn.ret rfl rfl rfl
  · rw [if_neg h]
    refine Rn.run 2 rfl ?_
    exact ioc4_ok b c
theorem ioc2_ok (b c : Int32) : Rn E 52 (7, [.retAddr 21, .int c, .int 0, .int 8, .int b, .int 2], [], w) (.returned (some (.int (ioc2 b)))) w := by
  refine Rn.run 5 rfl ?_
  refine Rn.st rfl (by decide) (xba (t := 1) (i := 2) (by decide) (by decide)) ?_
  refine Rn.run 1 rfl ?_
  unfold ioc2
  refine Rn.br rfl (by decide) rfl (fun (h : (40 : Int32) = b) => ?_) (fun (h : ¬ (40 : Int32) = b) => ?_)
  · rw [if_pos h]
    refine Rn.run 1 rfl ?_
    exact Rn.ret rfl rfl rfl
  · rw [if_neg h]
    refine Rn.run 2 rfl ?_
    exact ioc3_ok b c
theorem ioc1_ok (b c : Int32) : Rn E 52 (7, [.retAddr 21, .int c, .int 0, .int 8, .int b, .int 1], [], w) (.returned (some (.int (ioc1 b)))) w := by
  refine Rn.run 5 rfl ?_
  refine Rn.st rfl (by decide) (xba (t := 1) (i := 1) (by decide) (by decide)) ?_
  refine Rn.run 1 rfl ?_
  unfold ioc1
  refine Rn.br rfl (by decide) rfl (fun (h : (125 : Int32) = b) => ?_) (fun (h : ¬ (125 : Int32) = b) => ?_)
  · rw [if_pos h]
    refine Rn.run 1 rfl ?_
    exact Rn.ret rfl rfl rfl
  · rw [if_neg h]
    refine Rn.run 2 rfl ?_
    exact ioc2_ok b c
theorem ioc0_ok (b c : Int32) : Rn E 52 (7, [.retAddr 21, .int c, .int 0, .int 8, .int b, .int 0], [], w) (.returned (some (.int (ioc0 b)))) w := by
  refine Rn.run 5 rfl ?_
  refine Rn.st rfl (by decide) (xba (t := 1) (i := 0) (by decide) (by decide)) ?_
  refine Rn.run 1 rfl ?_
  unfold ioc0
  refine Rn.br rfl (by decide) rfl (fun (h : (123 : Int32) = b) => ?_) (fun (h : ¬ (123 : Int32) = b) => ?_)
  · rw [if_pos h]
    refine Rn.run 1 rfl ?_
    exact Rn.ret rfl rfl rfl
  · rw [if_neg h]
    refine Rn.run 2 rfl ?_
    exact ioc1_ok b c
theorem ioc_ok (c : Int32) : Rn E 52 (0, loc0 52 [.retAddr 21, .int c, .int 0, .int 8], [], w) (.returned (some (.int (ioc0 (i2b c))))) w := by
  refine Rn.run 5 rfl ?_
  exact ioc0_ok _ c
theorem canEnc_ok (c : Int32) : Rn E 51 (0, loc0 51 [.int c], [], w) (.returned (some (.int (if c < 0 then 0 else if 255 < c then 0 else 1)))) w := by
  refine Rn.run 1 rfl ?_
  refine Rn.br rfl (by decide) rfl (fun h => ?_) (fun h => ?_)
  · rw [if_pos h]
    refine Rn.run 1 rfl ?_
    exact Rn.ret rfl rfl rfl
  rw [if_neg h]
  refine Rn.run 2 rfl ?_
  refine Rn.br rfl (by decide) rfl (fun h1 => ?_) (fun h1 => ?_)
  · rw [if_pos h1]
    refine Rn.run 1 rfl ?_
    exact Rn.ret rfl rfl rfl
  · rw [if_neg h1]
    refine Rn.run 2 rfl ?_
    exact Rn.ret rfl rfl rfl
def iof (c : Int32) : Int32 := if c < 0 then -1 else if 255 < c then -1 else ioc0 (i2b c)
theorem x50_ok (c : Int32) : Rn E 50 (0, loc0 50 [.retAddr 21, .int c, .int 0, .int 8], [], w) (.returned (some (.int (iof c)))) w := by
  refine Rn.run 1 rfl ?_
  refine Rn.call rfl rfl rfl rfl (canEnc_ok c) ?_
  unfold iof
  by_cases h : c < 0
  · rw [if_pos h, if_pos h]
    refine Rn.run 2 rfl ?_
    exact Rn.ret rfl rfl rfl
  rw [if_neg h, if_neg h]
  by_cases h1 : 255 < c
  · rw [if_pos h1, if_pos h1]
    refine Rn.run 2 rfl ?_
    exact Rn.ret rfl rfl rfl
  rw [if_neg h1, if_neg h1]
  refine Rn.run 3 rfl ?_
  refine Rn.pr rfl rfl rfl rfl ?_
  refine Rn.run 3 rfl ?_
  refine Rn.st rfl (by decide) (xal (t := 1) (by decide)) ?_
  refine Rn.pr rfl rfl rfl rfl ?_
  refine Rn.run 8 rfl ?_
  refine Rn.call rfl rfl rfl rfl (ioc_ok c) ?_
  exact Rn.ret rfl rfl rfl
theorem x49_ok (c : Int32) : Rn E 49 (0, loc0 49 [.retAddr 11, .int c, .int 0], [], w) (.returned (some (.int (iof c)))) w := by
  refine Rn.run 1 rfl ?_
  refine Rn.call rfl rfl rfl rfl (slat_ok (t := 1) (by decide)) ?_
  refine Rn.run 2 rfl ?_
  refine Rn.st rfl (by decide) (sget8 (t := 1) (by decide)) ?_
  refine Rn.run 3 rfl ?_
  refine Rn.call rfl rfl rfl rfl (slen_ok (t := 1) (by decide)) ?_
  refine Rn.call rfl rfl rfl rfl (x50_ok c) ?_
  refine Rn.run 1 rfl ?_
  exact Rn.ret rfl rfl rfl
end
def x47 (_ : St) (a0 : Int32) : Int32 := if iof (i2c a0) < 0 then 0 else 1
theorem x47_ok {E : Xe} {R : Nat → Nat → Option Nat} {I : St} (a0 : Int32) : Rn E 47 (0, loc0 47 [.int a0], [], wT I R) (.returned (some (.int (x47 I a0)))) (wT I R) := by
  refine Rn.run 3 rfl ?_
  refine Rn.call (v := some (.int (iof (i2c a0)))) (w1 := wT I R) rfl rfl rfl rfl ?_ ?_
  · refine Rn.run 3 rfl ?_
    refine Rn.call rfl rfl rfl rfl (x49_ok _) ?_
    exact Rn.ret rfl rfl rfl
  unfold x47
  refine Rn.br rfl (by decide) rfl (fun (h : iof (i2c a0) < 0) => ?_) (fun (h : ¬ iof (i2c a0) < 0) => ?_)
  · rw [if_pos h]
    refine Rn.run 1 rfl ?_
    exact Rn.ret rfl rfl rfl
  · rw [if_neg h]
    refine Rn.run 2 rfl ?_
    exact Rn.ret rfl rfl rfl
