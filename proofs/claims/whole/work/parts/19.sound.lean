/-! SOUNDNESS, the whole -/
theorem st_sound {E : Xe} {l : Launch} (hWr : WrOk E l) {p : Program} {e : Env} {R : Room} {s : State} {mi : MethodId} {args : Array Value} {below : List Frame} {meth : Method} {c : Code} {m n0 : Nat} {P : Pl} {Q : State → Prop} {pc n a b cc d : Nat} {v : Int32} {i : Instr} {ls st : List Value} {w : Wd} {g : Fr} (C : Cx p R s mi args meth c m P E n0) (hcd : (cdO m)[pc]? = some (i, n, a, b, cc, d, v)) (hd : decode (bO m) pc = .ok (i, n)) (ha : auxE m pc (i, n, a, b, cc, d, v) = true) (h : st1 E (i, n, a, b, cc, d, v) pc ls st w = some g) (hr : g.2.2.2.1 - n0 ≤ R.cells ∧ slo g.2.2.2.1 - slo n0 ≤ R.slots) (k : Wst p l e R s mi args below meth c m P n0 Q g) : Wst p l e R s mi args below meth c m P n0 Q (pc, ls, st, w) := by
  cases i
  case iadd => exact r_iadd C hd ha h k
  case isub => exact r_isub C hd ha h k
  case imul => exact r_imul C hd ha h k
  case iand => exact r_iand C hd ha h k
  case ior => exact r_ior C hd ha h k
  case ixor => exact r_ixor C hd ha h k
  case ishl => exact r_ishl C hd ha h k
  case ishr => exact r_ishr C hd ha h k
  case ladd => exact r_ladd C hd ha h k
  case lsub => exact r_lsub C hd ha h k
  case lmul => exact r_lmul C hd ha h k
  case ineg => exact r_ineg C hd ha h k
  case i2l => exact r_i2l C hd ha h k
  case l2i => exact r_l2i C hd ha h k
  case i2b => exact r_i2b C hd ha h k
  case i2c => exact r_i2c C hd ha h k
  case iushr => exact r_iushr C hd ha h k
  case lcmp => exact r_lcmp C hd ha h k
  case idiv => exact r_idiv C hd ha h k
  case irem => exact r_irem C hd ha h k
  case iconst => exact r_iconst C hd ha h k
  case bipush => exact r_bipush C hd ha h k
  case sipush => exact r_sipush C hd ha h k
  case lconst => exact r_lconst C hd ha h k
  case iload => exact r_iload C hd ha h k
  case iload_n => exact r_iload_n C hd ha h k
  case lload => exact r_lload C hd ha h k
  case lload_n => exact r_lload_n C hd ha h k
  case aload => exact r_aload C hd ha h k
  case aload_n => exact r_aload_n C hd ha h k
  case istore => exact r_istore C hd ha h k
  case istore_n => exact r_istore_n C hd ha h k
  case astore => exact r_astore C hd ha h k
  case astore_n => exact r_astore_n C hd ha h k
  case lstore => exact r_lstore C hd ha h k
  case lstore_n => exact r_lstore_n C hd ha h k
  case iinc => exact r_iinc C hd ha h k
  case dup => exact r_dup C hd ha h k
  case pop => exact r_pop C hd ha h k
  case dup2 => exact r_dup2 C hd ha h k
  case ifCond => exact r_ifCond C hd ha h k
  case if_icmp => exact r_if_icmp C hd ha h k
  case goto => exact r_goto C hd ha h k
  case lookupswitch => exact r_lookupswitch C hd ha h k
  case tableswitch => exact r_tableswitch C hd ha h k
  case getfield => exact r_getfield C hd ha h k
  case putfield => exact r_putfield C hd ha h k
  case iaload => exact r_iaload C hd ha h k
  case baload => exact r_baload C hd ha h k
  case iastore => exact r_iastore C hd ha h k
  case bastore => exact r_bastore C hd ha h k
  case arraylength => exact r_arraylength C hd ha h k
  case getstatic => exact r_getstatic C hd ha h k
  case ldc => exact r_ldc C hd ha h k
  case ldc2_w => exact r_ldc2_w C hd ha h k
  case ldc_w => exact r_ldc_w C hcd hd ha h k
  case newarray => exact r_newarray C hd ha h hr k
  case new q =>
    by_cases h14 : a = 14
    · subst h14
      simp only [st1] at h
      split at h
      · rename_i hc
        simp only [Bool.and_eq_true] at hc
        cases h
        rw [if_pos trivial] at k
        exact hWr C hcd (Nat.eq_of_beq_eq_true hc.1) (Nat.le_of_ble_eq_true hc.2) hr k
      · cases h
    · exact r_new C h14 hd ha h hr k
  all_goals (simp only [st1] at h <;> first | (cases h; done) | skip)
theorem sound {E : Xe} {l : Launch} (hWr : WrOk E l) : ∀ f, Snd E l f := by
  intro f
  induction f with
  | zero => intro m fr o w1 h; simp [ex] at h
  | succ f ih =>
    intro m fr o w1 h hm
    obtain ⟨pc, ls, st, w⟩ := fr
    unfold ex at h
    split at h
    · cases h
    · rename_i en he
      obtain ⟨i, n, a, b, c, d, v⟩ := en
      dsimp only at h ⊢
      split at h
      · rename_i hrt
        split at h
        · rename_i v' hv
          cases h
          have hcd := cd_ok hm he (by intro z; dsimp only at z; rw [z] at hrt; cases hrt)
          have hn : n = 1 := by
            have h2 := hcd.2
            cases i <;> first | (exact Nat.eq_of_beq_eq_true h2) | (cases hrt)
          subst hn
          exact ⟨⟨Nat.le_refl _, fun z => z⟩, fun C hR hz => c_rt C hcd.1 hv⟩
        · cases h
      · split at h
        · rename_i hcl
          have hcd := cd_ok hm he (by intro z; dsimp only at z; rw [z] at hcl; cases hcl)
          split at h
          · rename_i hc6
            split at h
            · rename_i r hr
              exact prim_sound ih hm hcd.1 hcd.2 hcl hc6 hr h
            · cases h
          · rename_i hc6
            split at h
            · cases h
            · rename_i j as r hx
              exact call_sound ih hm hcd.1 hcd.2 hcl hc6 hx h
        · rename_i hq1 hq2
          clear hq1 hq2
          split at h
          · rename_i k r
            have hcd := cd_ok hm he (by intro z; cases z)
            obtain rfl : n = 1 := Nat.eq_of_beq_eq_true hcd.2
            split at h
            · rename_i hkw
              split at h
              · rename_i hh hhd
                obtain ⟨hw1, hT⟩ := ih m (hh, ls, [.ref k], w) o w1 h hm
                refine ⟨hw1, fun C hR hz => ?_⟩
                unfold hnd at hhd
                split at hhd
                · rename_i hcnd
                  simp only [Bool.and_eq_true] at hcnd
                  cases hhd
                  exact c_athrow C hcd.1 (t_catch C (Nat.eq_of_beq_eq_true hcnd.1.1.1) (Nat.le_of_ble_eq_true hcnd.1.1.2) (blt_lt hcnd.1.2) (blt_lt hkw) (Nat.eq_of_beq_eq_true hcnd.2) (hT C hR hz))
                · cases hhd
              · split at h
                · cases h
                · rename_i hnt
                  cases h
                  refine ⟨⟨Nat.le_refl _, fun z => z⟩, fun C hR hz => ?_⟩
                  have hm0 : m ≠ 0 := fun z => by obtain ⟨v, hv⟩ := hz z; cases hv
                  exact c_athrow C hcd.1 (t_out C (fun z => hnt (by rw [z]; rfl)) hm0)
            · cases h
          · split at h
            · rename_i g hg
              have hnop : i ≠ .nop := by intro z; subst z; simp [st1] at hg
              have hcd := cd_ok hm he hnop
              obtain ⟨hw1, hT⟩ := ih m g o w1 h hm
              have hgw := st1_w hcd.2 hg
              refine ⟨⟨Nat.le_trans hgw.1 hw1.1, fun z => hw1.2 (hgw.2 z)⟩, fun C hR hz => ?_⟩
              exact st_sound hWr C he hcd.1 hcd.2 hg (hR_of hw1.1 hR) (hT C hR hz)
            · cases h
