section
variable {E : Xe} {pc n a b c d j : Nat} {ls r : List Value} {v : Int32} {w : Wd} {dd : Value}
theorem lst_d {xl : Int64} (h1 : ls[j - 1]? = some dd) (hd : is1 dd = true) (h2 : Nat.blt (j + 1) ls.length = true) : st1 E (.lstore j, n, a, b, c, d, v) pc ls (.long xl :: r) w = some (pc + n, (ls.set j (.long xl)).set (j + 1) us, r, w) := by
  have h2 : j + 1 < ls.length := Nat.blt_eq.mp h2
  simp only [st1, stoL]
  rw [if_pos h2, clL_d h1 hd]
theorem lstn_d {f : Fin 4} {xl : Int64} (h1 : ls[f.val - 1]? = some dd) (hd : is1 dd = true) (h2 : Nat.blt (f.val + 1) ls.length = true) : st1 E (.lstore_n f, n, a, b, c, d, v) pc ls (.long xl :: r) w = some (pc + n, (ls.set f.val (.long xl)).set (f.val + 1) us, r, w) := by
  have h2 : f.val + 1 < ls.length := Nat.blt_eq.mp h2
  simp only [st1, stoL]
  rw [if_pos h2, clL_d h1 hd]
end
