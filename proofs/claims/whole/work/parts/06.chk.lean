theorem chk_all : ∀ m, m < nM → chkL m 0 (cdO m) = true := by
  intro m h
  by_cases h0 : m < 1
  · exact chk_0 m h0 (by omega)
  by_cases h1 : m < 5
  · exact chk_1 m h1 (by omega)
  by_cases h2 : m < 16
  · exact chk_2 m h2 (by omega)
  by_cases h3 : m < 24
  · exact chk_3 m h3 (by omega)
  by_cases h4 : m < 31
  · exact chk_4 m h4 (by omega)
  by_cases h5 : m < 39
  · exact chk_5 m h5 (by omega)
  by_cases h6 : m < 49
  · exact chk_6 m h6 (by omega)
  by_cases h7 : m < 55
  · exact chk_7 m h7 (by omega)
  by_cases h8 : m < 62
  · exact chk_8 m h8 (by omega)
  by_cases h9 : m < 68
  · exact chk_9 m h9 (by omega)
  by_cases h10 : m < 71
  · exact chk_10 m h10 (by omega)
  by_cases h11 : m < 75
  · exact chk_11 m h11 (by omega)
  by_cases h12 : m < 80
  · exact chk_12 m h12 (by omega)
  by_cases h13 : m < 84
  · exact chk_13 m h13 (by omega)
  by_cases h14 : m < 88
  · exact chk_14 m h14 (by omega)
  by_cases h15 : m < 91
  · exact chk_15 m h15 (by omega)
  by_cases h16 : m < 94
  · exact chk_16 m h16 (by omega)
  by_cases h17 : m < 97
  · exact chk_17 m h17 (by omega)
  by_cases h18 : m < 101
  · exact chk_18 m h18 (by omega)
  by_cases h19 : m < 106
  · exact chk_19 m h19 (by omega)
  by_cases h20 : m < 108
  · exact chk_20 m h20 (by omega)
  by_cases h21 : m < 112
  · exact chk_21 m h21 (by omega)
  by_cases h22 : m < 119
  · exact chk_22 m h22 (by omega)
  by_cases h23 : m < 125
  · exact chk_23 m h23 (by omega)
  by_cases h24 : m < 126
  · exact chk_24 m h24 (by omega)
  by_cases h25 : m < 130
  · exact chk_25 m h25 (by omega)
  by_cases h26 : m < 139
  · exact chk_26 m h26 (by omega)
  by_cases h27 : m < 142
  · exact chk_27 m h27 (by omega)
  by_cases h28 : m < 145
  · exact chk_28 m h28 (by omega)
  by_cases h29 : m < 153
  · exact chk_29 m h29 (by omega)
  by_cases h30 : m < 160
  · exact chk_30 m h30 (by omega)
  by_cases h31 : m < 164
  · exact chk_31 m h31 (by omega)
  by_cases h32 : m < 168
  · exact chk_32 m h32 (by omega)
  by_cases h33 : m < 171
  · exact chk_33 m h33 (by omega)
  by_cases h34 : m < 178
  · exact chk_34 m h34 (by omega)
  by_cases h35 : m < 182
  · exact chk_35 m h35 (by omega)
  by_cases h36 : m < 184
  · exact chk_36 m h36 (by omega)
  by_cases h37 : m < 185
  · exact chk_37 m h37 (by omega)
  by_cases h38 : m < 191
  · exact chk_38 m h38 (by omega)
  by_cases h39 : m < 192
  · exact chk_39 m h39 (by omega)
  by_cases h40 : m < 193
  · exact chk_40 m h40 (by omega)
  by_cases h41 : m < 198
  · exact chk_41 m h41 (by omega)
  by_cases h42 : m < 202
  · exact chk_42 m h42 (by omega)
  by_cases h43 : m < 206
  · exact chk_43 m h43 (by omega)
  by_cases h44 : m < 209
  · exact chk_44 m h44 (by omega)
  by_cases h45 : m < 210
  · exact chk_45 m h45 (by omega)
  by_cases h46 : m < 212
  · exact chk_46 m h46 (by omega)
  by_cases h47 : m < 213
  · exact chk_47 m h47 (by omega)
  by_cases h48 : m < 215
  · exact chk_48 m h48 (by omega)
  by_cases h49 : m < 217
  · exact chk_49 m h49 (by omega)
  by_cases h50 : m < 220
  · exact chk_50 m h50 (by omega)
  by_cases h51 : m < 222
  · exact chk_51 m h51 (by omega)
  by_cases h52 : m < 226
  · exact chk_52 m h52 (by omega)
  by_cases h53 : m < 227
  · exact chk_53 m h53 (by omega)
  by_cases h54 : m < 230
  · exact chk_54 m h54 (by omega)
  by_cases h55 : m < 231
  · exact chk_55 m h55 (by omega)
  by_cases h56 : m < 233
  · exact chk_56 m h56 (by omega)
  by_cases h57 : m < 234
  · exact chk_57 m h57 (by omega)
  by_cases h58 : m < 237
  · exact chk_58 m h58 (by omega)
  by_cases h59 : m < 238
  · exact chk_59 m h59 (by omega)
  by_cases h60 : m < 239
  · exact chk_60 m h60 (by omega)
  by_cases h61 : m < 244
  · exact chk_61 m h61 (by omega)
  by_cases h62 : m < 247
  · exact chk_62 m h62 (by omega)
  by_cases h63 : m < 250
  · exact chk_63 m h63 (by omega)
  by_cases h64 : m < 251
  · exact chk_64 m h64 (by omega)
  by_cases h65 : m < 252
  · exact chk_65 m h65 (by omega)
  by_cases h66 : m < 256
  · exact chk_66 m h66 (by omega)
  by_cases h67 : m < 258
  · exact chk_67 m h67 (by omega)
  by_cases h68 : m < 259
  · exact chk_68 m h68 (by omega)
  by_cases h69 : m < 260
  · exact chk_69 m h69 (by omega)
  by_cases h70 : m < 267
  · exact chk_70 m h70 (by omega)
  by_cases h71 : m < 272
  · exact chk_71 m h71 (by omega)
  by_cases h72 : m < 276
  · exact chk_72 m h72 (by omega)
  exact absurd h (by unfold nM; omega)
theorem chkL_get {m : Nat} : ∀ (l : List En) (p0 pc : Nat) (e : En), chkL m p0 l = true → l[pc]? = some e → e.1 ≠ .nop → decode (bO m) (p0 + pc) = .ok (e.1, e.2.1) ∧ auxE m (p0 + pc) e = true := by
  intro l
  induction l with
  | nil => intro p0 pc e _ h; simp at h
  | cons a r ih =>
    intro p0 pc e hc hg hn
    simp only [chkL, Bool.and_eq_true, Bool.or_eq_true, decide_eq_true_eq] at hc
    cases pc with
    | zero =>
      have : a = e := by simpa using hg
      subst this
      rcases hc.1 with h | h
      · exact absurd h hn
      · exact h
    | succ pc =>
      have := ih (p0 + 1) pc e hc.2 (by simpa using hg) hn
      rwa [show p0 + 1 + pc = p0 + (pc + 1) by omega] at this
theorem cd_ok {m pc : Nat} {e : En} (hm : m < nM) (h : (cdO m)[pc]? = some e) (hn : e.1 ≠ .nop) : decode (bO m) pc = .ok (e.1, e.2.1) ∧ auxE m pc e = true := by
  have := chkL_get (cdO m) 0 pc e (chk_all m hm) h hn
  rwa [Nat.zero_add] at this
theorem fld_ty : ∀ ci, ci < 15 → ∀ k, k < nF ci → parseFieldDescriptor (fT ci k).2.2.1 = some (fY ci k) := by decide +kernel
theorem fld_nm : ∀ ci, ci < 15 → ∀ a, a < nF ci → ∀ b, b < nF ci → a ≠ b → (fT ci a).2.1 ≠ (fT ci b).2.1 := by decide +kernel
theorem fld_in0 : ∀ ci, ci < 15 → isSub (u_ws (cn ci) (fT ci) (nF ci)) tables_1 = true := by decide +kernel
theorem fld_in {ci : Nat} (h : ci < 15) : ∀ w ∈ u_ws (cn ci) (fT ci) (nF ci), w ∈ lw_tbl := fun w hw => in_tbl (isSub_mem _ _ (fld_in0 ci h) w hw)
theorem ins_in : ∀ ci, ci < 14 → Cond.instantiable (cn ci) (nF ci) ∈ lw_tbl := by decide +kernel
theorem ins_wr : Cond.instantiable (cn 14) 7 ∈ lw_tbl := by decide +kernel
theorem ini_in : ∀ ci, ci < 15 → Cond.initialized (cn ci) ∈ lw_tbl := by decide +kernel
theorem arr_in : Cond.arrayClass .int ∈ lw_tbl ∧ Cond.arrayClass .byte ∈ lw_tbl ∧ Cond.arrayClass .boolean ∈ lw_tbl := by decide +kernel
/-- finals: which, and what kind of thing they are -/
theorem fld_fin : ∀ ci, ci < 15 → ∀ k, k < nF ci → ((fT ci k).2.2.2 = true ↔ (fK ci k = 2 ∨ fK ci k = 3)) ∧ fK ci k ≤ 4 ∧ (fK ci k = 0 → fY ci k = .int) ∧ (fK ci k = 2 → fY ci k = .int) ∧ (fK ci k = 4 → fY ci k = .boolean) ∧ ((fT ci k).1 = cn ci) := by decide +kernel
