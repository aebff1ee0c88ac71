/-! THE VERIFIERS' loop: it ends, and what it leaves -/
def pc8 (w : Nat) : Nat := [0, 1, 1, 2, 1, 2, 2, 3].getD w 0
def cnt (l : Nat × Nat × Nat) : Nat → Nat
  | 0 => 0
  | n + 1 => cnt l n + pc8 (wvl l n)
def wgt (V : Nat → Option VEn) (N : Nat → Bool) (i : Nat) : Nat := match V i with
  | none => 33
  | some e => (48 - cnt e.2 16) + (if N i = true then 1 else 0)
def mu (V : Nat → Option VEn) (N : Nat → Bool) : Nat → Nat
  | 0 => 0
  | n + 1 => mu V N n + wgt V N n
def WFV (V : Nat → Option VEn) : Prop := ∀ k e, V k = some e → Lful e.2
theorem pc8_3 : ∀ w, w < 8 → pc8 w ≤ 3 ∧ (w ≠ 0 → 1 ≤ pc8 w) := by decide
theorem pc8_or : ∀ a, a < 8 → ∀ b, b < 8 → pc8 b ≤ pc8 (a ||| b) ∧ (a ||| b ≠ b → pc8 b < pc8 (a ||| b)) := by decide
theorem cnt_le {l : Nat × Nat × Nat} : ∀ n, cnt l n ≤ 3 * n := by
  intro n
  induction n with
  | zero => exact Nat.le_refl _
  | succ n ih => rw [cnt]; have := (pc8_3 (wvl l n) wvl_8).1; omega
theorem cnt_ge {l : Nat × Nat × Nat} (h : Lful l) : ∀ n, n ≤ 16 → n ≤ cnt l n := by
  intro n
  induction n with
  | zero => intro _; exact Nat.zero_le _
  | succ n ih => intro hn; rw [cnt]; have := (pc8_3 (wvl l n) wvl_8).2 (h n (by omega)); have := ih (by omega); omega
theorem cnt_or {l l' : Nat × Nat × Nat} (h : orl l' l = l') : ∀ n, cnt l n ≤ cnt l' n ∧ ((∃ k, k < n ∧ wvl l' k ≠ wvl l k) → cnt l n < cnt l' n) := by
  intro n
  induction n with
  | zero => exact ⟨Nat.le_refl _, fun ⟨k, hk, _⟩ => by omega⟩
  | succ n ih =>
    have e : wvl l' n = wvl l' n ||| wvl l n := by rw [← wvl_or, h]
    have := pc8_or (wvl l' n) wvl_8 (wvl l n) wvl_8
    rw [← e] at this
    rw [cnt, cnt]
    refine ⟨by omega, fun ⟨k, hk, hne⟩ => ?_⟩
    by_cases y : k = n
    · subst y; have := this.2 hne; omega
    · have := ih.2 ⟨k, by omega, hne⟩; omega
theorem wgt_le {V V' : Nat → Option VEn} {N N' : Nat → Bool} (h : Ext V N V' N') (k : Nat) (hlo : ∀ t l, V k = some (t, l) → Lok l) (hlo' : ∀ t l, V' k = some (t, l) → Lok l) : wgt V' N' k ≤ wgt V N k := by
  unfold wgt
  cases hV : V k with
  | none =>
    cases hV' : V' k with
    | none => exact Nat.le_refl _
    | some e =>
      have := ((h k).1 hV e hV').2
      have := cnt_ge this 16 (Nat.le_refl _)
      dsimp only
      split <;> omega
  | some e =>
    obtain ⟨t, l⟩ := e
    obtain ⟨l', a1, a2, a3, a4, a5⟩ := (h k).2 t l hV
    rw [a1]
    dsimp only
    obtain ⟨c1, c2⟩ := cnt_or a2 16
    have c3 := cnt_le (l := l') 16
    by_cases y : l' = l
    · subst y
      by_cases n1 : N' k = true
      · rw [if_pos n1]
        rcases a5 n1 with n2 | n2
        · rw [if_pos n2]; exact Nat.le_refl _
        · exact absurd rfl n2
      · rw [if_neg n1]; omega
    · have : ∃ k, k < 16 ∧ wvl l' k ≠ wvl l k := by
        apply Classical.byContradiction
        intro hn
        apply y
        refine wvl_eq (hlo' t l' a1) (hlo t l hV) (fun j hj => ?_)
        apply Classical.byContradiction
        intro hne
        exact hn ⟨j, hj, hne⟩
      have := c2 this
      split <;> omega
theorem mu_le {V V' : Nat → Option VEn} {N N' : Nat → Bool} : ∀ z, (∀ k, k < z → wgt V' N' k ≤ wgt V N k) → mu V' N' z ≤ mu V N z := by
  intro z
  induction z with
  | zero => intro _; exact Nat.le_refl _
  | succ z ih => intro h; rw [mu, mu]; have := h z (by omega); have := ih (fun k hk => h k (by omega)); omega
theorem mu_i {V : Nat → Option VEn} {N : Nat → Bool} {i : Nat} (hV : V i ≠ none) (hN : N i = true) : ∀ z, i < z → mu V (upN N i false) z + 1 ≤ mu V N z := by
  have ne : ∀ k, k ≠ i → wgt V (upN N i false) k = wgt V N k := fun k hk => by
    unfold wgt
    rw [show upN N i false k = N k from if_neg hk]
  have le : ∀ k, wgt V (upN N i false) k ≤ wgt V N k := fun k => by
    by_cases y : k = i
    · subst y
      unfold wgt
      rw [show upN N k false k = false from if_pos rfl]
      split
      · exact Nat.le_refl _
      · rw [if_neg (by decide)]; omega
    · rw [ne k y]; exact Nat.le_refl _
  intro z
  induction z with
  | zero => intro h; omega
  | succ z ih =>
    intro h
    rw [mu, mu]
    rcases Nat.lt_or_ge i z with y | y
    · have := ih y; have := le z; omega
    · obtain rfl : i = z := by omega
      have h1 := mu_le (V := V) (V' := V) i (fun k _ => le k)
      have h2 : wgt V (upN N i false) i + 1 ≤ wgt V N i := by
        unfold wgt
        rw [show upN N i false i = false from if_pos rfl]
        cases hv : V i with
        | none => exact absurd hv hV
        | some e =>
          dsimp only
          rw [if_neg (by decide), if_pos hN]
          exact Nat.le_refl _
      omega
theorem mu_0 {V : Nat → Option VEn} {N : Nat → Bool} : ∀ {z : Nat}, mu V N z = 0 → ∀ i, i < z → V i ≠ none → N i = false := by
  intro z
  induction z with
  | zero => intro _ i hi; omega
  | succ z ih =>
    intro h i hi hV
    rw [mu] at h
    rcases Nat.lt_or_ge i z with y | y
    · exact ih (by omega) i y hV
    · obtain rfl : i = z := by omega
      have h2 : wgt V N i = 0 := by omega
      unfold wgt at h2
      cases hv : V i with
      | none => exact absurd hv hV
      | some e =>
        rw [hv] at h2
        dsimp only at h2
        cases hn : N i with
        | false => rfl
        | true => rw [hn, if_pos rfl] at h2; omega
theorem mu_33 {V : Nat → Option VEn} {N : Nat → Bool} : ∀ z, (∀ k, k < z → wgt V N k ≤ 33) → mu V N z ≤ 33 * z := by
  intro z
  induction z with
  | zero => intro _; exact Nat.le_refl _
  | succ z ih => intro h; rw [mu]; have := h z (by omega); have := ih (fun k hk => h k (by omega)); omega
section
variable {P Z n k s m z d : Nat} {E F G p : Nat → Nat} {V : Nat → Option VEn} {N : Nat → Bool} {A B : St}
theorem x105_l (h : VC P Z m z (F m) V N d A B) : x105 A = some (oI (fdn N z)) := by
  obtain ⟨v1, v2, v3, v4, v5, v6, v7, v8, v9, v10, v11, v12, v13⟩ := h
  have hl := srch (l := fun f b => l105_2 f b A) (p := N) (v := Int32.ofNat) (n := z)
    (fun f => by rw [l105_2, v8, if_pos (Int32.le_refl _)])
    (fun f b hb hp => by
      rw [l105_2, v8, if_neg (by rw [i32_le (by omega) (by omega)]; omega)]
      simp (disch := omega) only [t59]
      rw [(v1 b hb).2.2.1, hp, if_pos (show b01 true = 1 from rfl)])
    (fun f b hb hp => by
      rw [l105_2, v8, if_neg (by rw [i32_le (by omega) (by omega)]; omega)]
      simp (disch := omega) only [t59]
      rw [(v1 b hb).2.2.1, hp, if_neg (by decide), i32_s])
    100000 (by omega)
  unfold x105
  rw [hl]
  exact el_smm
theorem x229_l (h : VC P Z m z (F m) V N d A B) : x229 B (Int32.ofNat z) = some (oI (fdn N z)) := by
  obtain ⟨v1, v2, v3, v4, v5, v6, v7, v8, v9, v10, v11, v12, v13⟩ := h
  have hl := srch (l := fun f b => l229_2 (Int32.ofNat z) f b B) (p := N) (v := Int32.ofNat) (n := z)
    (fun f => by rw [l229_2, if_pos (Int32.le_refl _)])
    (fun f b hb hp => by
      have hi : inb (Int32.ofNat b) 100 := (i32_inb (by omega)).mpr (by omega)
      have hcl : (Int32.ofNat b).toNatClampNeg = b := i32_cl (by omega)
      rw [l229_2, if_neg (by rw [i32_le (by omega) (by omega)]; omega)]
      simp only [if_pos hi, hcl]
      rw [(v1 b hb).2.2.2.1, hp, if_neg (by decide)])
    (fun f b hb hp => by
      have hi : inb (Int32.ofNat b) 100 := (i32_inb (by omega)).mpr (by omega)
      have hcl : (Int32.ofNat b).toNatClampNeg = b := i32_cl (by omega)
      rw [l229_2, if_neg (by rw [i32_le (by omega) (by omega)]; omega)]
      simp only [if_pos hi, hcl]
      rw [(v1 b hb).2.2.2.1, hp, if_pos (show b01 false = 0 from rfl), i32_s])
    100000 (by omega)
  unfold x229
  rw [hl]
  exact el_smm
theorem Vis.of {B' : St} {i f : Nat} {t : Nat × Nat} {l : Nat × Nat × Nat} {V' : Nat → Option VEn} (h : Vis B Z m z f G i t l V') (hB : ∀ a b, (Z + 11 ≤ a ∧ a ≤ Z + 40 ∧ a ≠ Z + 24) → B' a b = B a b) : Vis B' Z m z f G i t l V' := by
  have eop : ∀ x, opn B' Z x = opn B Z x := fun x => by unfold opn; rw [hB _ _ (by omega)]
  have einn : ∀ x, inn B' Z x = inn B Z x := fun x => by unfold inn; rw [hB _ _ (by omega)]
  have eifk : ∀ x, ifk B' Z x = ifk B Z x := fun x => by unfold ifk; rw [eop, einn, hB _ _ (by omega), hB _ _ (by omega)]
  have eirs : ∀ x, irs B' Z x = irs B Z x := fun x => by unfold irs; rw [eop, einn, hB _ _ (by omega)]
  have eirf : ∀ x, irf B' Z x = irf B Z x := fun x => by unfold irf; rw [eop, einn, hB _ _ (by omega)]
  have eicn : ∀ x, icn B' Z x = icn B Z x := fun x => by unfold icn; rw [eop, einn, hB _ _ (by omega)]
  have emrt : mrt B' Z m = mrt B Z m := by unfold mrt; rw [hB _ _ (by omega)]
  have eitg : ∀ x, itg B' Z x = itg B Z x := fun x => by unfold itg; rw [hB _ _ (by omega)]
  have eefB : ∀ x, efB B' Z m x t l = efB B Z m x t l := fun x => by unfold efB; rw [eop, einn, eifk, emrt, eirs, eirf, eicn]
  have eaft : ∀ x, aft B' Z x t l = aft B Z x t l := fun x => by unfold aft; rw [eop, einn]
  have ecov : ∀ tr, Cov B' Z f tr i = Cov B Z f tr i := fun tr => by unfold Cov; rw [hB _ _ (by omega), hB _ _ (by omega)]
  have etat : ∀ tr, tat B' Z f tr = tat B Z f tr := fun tr => by unfold tat; rw [hB _ _ (by omega)]
  unfold Vis at h ⊢
  simp only [eop, eefB, eaft, eitg, ecov, etat]
  exact h
theorem Vis.ext {i f : Nat} {t : Nat × Nat} {l : Nat × Nat × Nat} {V V' : Nat → Option VEn} {N N' : Nat → Bool} (h : Vis B Z m z f G i t l V) (e : Ext V N V' N') : Vis B Z m z f G i t l V' := by
  obtain ⟨t', h1, h2, h3, h4⟩ := h
  exact ⟨t', h1, fun y => ⟨(h2 y).1, (h2 y).2.ext e⟩, fun y => ⟨(h3 y).1, (h3 y).2.ext e⟩, fun tr a b c => ⟨(h4 tr a b c).1, (h4 tr a b c).2.ext e⟩⟩
def INV (B : St) (Z m z f : Nat) (G : Nat → Nat) (V : Nat → Option VEn) (N : Nat → Bool) : Prop := ∀ i t l, i < z → V i = some (t, l) → N i = false → Vis B Z m z f G i t l V
theorem x229_t {z : Nat} (hz : z ≤ 100) (B : St) : ∃ q, x229 B (Int32.ofNat z) = some q := by
  have hl := srch (l := fun f b => l229_2 (Int32.ofNat z) f b B) (p := fun b => decide (B 176 b ≠ 0)) (v := Int32.ofNat) (n := z)
    (fun f => by rw [l229_2, if_pos (Int32.le_refl _)])
    (fun f b hb hp => by
      have hp := of_decide_eq_true hp
      have hi : inb (Int32.ofNat b) 100 := (i32_inb (by omega)).mpr (by omega)
      have hcl : (Int32.ofNat b).toNatClampNeg = b := i32_cl (by omega)
      rw [l229_2, if_neg (by rw [i32_le (by omega) (by omega)]; omega)]
      simp only [if_pos hi, hcl]
      rw [if_neg hp])
    (fun f b hb hp => by
      have hp : B 176 b = 0 := by simpa using hp
      have hi : inb (Int32.ofNat b) 100 := (i32_inb (by omega)).mpr (by omega)
      have hcl : (Int32.ofNat b).toNatClampNeg = b := i32_cl (by omega)
      rw [l229_2, if_neg (by rw [i32_le (by omega) (by omega)]; omega)]
      simp only [if_pos hi, hcl]
      rw [if_pos hp, i32_s])
    100000 (by omega)
  unfold x229
  rw [hl]
  exact ⟨_, el_smm⟩
theorem Lful.or {l l' : Nat × Nat × Nat} (h : Lful l) (e : orl l' l = l') : Lful l' := fun j hj z => by
  apply h j hj
  rw [← e, wvl_or] at z
  have : ∀ a, a < 8 → ∀ b, b < 8 → a ||| b = 0 → b = 0 := by decide
  exact this _ wvl_8 _ wvl_8 z
/-- what the loop leaves -/
def Fin5 (B0 : St) (P Z m z f : Nat) (G : Nat → Nat) (V : Nat → Option VEn) (A' B' : St) : Prop := FS A' B' ∨ (GS A' B' ∧ ∃ V' N' d', VC P Z m z f V' N' d' A' B' ∧ (∀ j t l, Inc V j t l → Inc V' j t l) ∧ ∀ i t l, i < z → V' i = some (t, l) → Vis B0 Z m z f G i t l V' ∧ Lful l)
set_option maxHeartbeats 4000000 in
theorem loop_l (hP : Hid (P = 3 ∨ P = 18)) (hZ : Hid (Z = 85 ∨ Z = 126)) (hP2 : 3 ≤ P ∧ P ≤ 18) (hZ2 : 85 ≤ Z ∧ Z ≤ 126) (hm : m < k) (hz : z = F (m + 1) - F m) (B0 : St) : ∀ q b2 fa fb (V : Nat → Option VEn) (N : Nat → Bool) (d : Nat) (A B : St), mu V N z ≤ q → b2 + q ≤ 3300 → q < fa → q < fb → Lkd P Z n k s E F G p A B → VD Z m z (F m) A B → VC P Z m z (F m) V N d A B → GS A B → WFV V → INV B0 Z m z (F m) G V N → (∀ a b, (Z + 11 ≤ a ∧ a ≤ Z + 40 ∧ a ≠ Z + 24) → B a b = B0 a b) → ∃ A' B', l98_57 P fa (Int32.ofNat b2) A = some A' ∧ l226_175 Z (Int32.ofNat z) fb (oI (fdn N z)) B = some B' ∧ CvA P m A A' ∧ CvB Z m B B' ∧ Fin5 B0 P Z m z (F m) G V A' B' := by
  have stop : ∀ b2 fa fb (V : Nat → Option VEn) (N : Nat → Bool) (d : Nat) (A B : St), fdn N z = none → b2 ≤ 3300 → VC P Z m z (F m) V N d A B → GS A B → WFV V → INV B0 Z m z (F m) G V N → ∃ A' B', l98_57 P (fa + 1) (Int32.ofNat b2) A = some A' ∧ l226_175 Z (Int32.ofNat z) (fb + 1) (oI (fdn N z)) B = some B' ∧ CvA P m A A' ∧ CvB Z m B B' ∧ Fin5 B0 P Z m z (F m) G V A' B' := by
    intro b2 fa fb V N d A B hno hb hVC hg hwf hinv
    refine ⟨A, B, ?_, ?_, fun _ _ _ _ _ => rfl, fun _ _ _ _ _ => rfl, Or.inr ⟨hg, V, N, d, hVC, fun _ _ _ h => h, fun i t l hi hv => ⟨hinv i t l hi hv (fdn_none.mp hno i hi), hwf i _ hv⟩⟩⟩
    · rw [l98_57]
      by_cases y : 3300 ≤ b2
      · rw [if_pos ((i32_l2 (x := 3300) (b := 3300) rfl (by omega) (by decide)).mpr y)]
      · rw [if_neg (fun w => y ((i32_l2 (x := 3300) (b := 3300) rfl (by omega) (by decide)).mp w)), if_pos hg.1, x105_l hVC, Option.bind_some, hno, if_pos (show oI none = -1 from rfl)]
    · rw [hno, l226_175, if_pos (show oI none = -1 from rfl)]
  intro q
  induction q with
  | zero =>
    intro b2 fa fb V N d A B hmu hb hfa hfb hL hvd hVC hg hwf hinv hB0
    obtain ⟨fa, rfl⟩ : ∃ g, fa = g + 1 := ⟨fa - 1, by omega⟩
    obtain ⟨fb, rfl⟩ : ∃ g, fb = g + 1 := ⟨fb - 1, by omega⟩
    have h0 := mu_0 (show mu V N z = 0 by omega)
    have hno : fdn N z = none := fdn_none.mpr (fun i hi => by
      by_cases y : V i = none
      · exact ((hVC.1 i hi).2.2.2.2.1 y).1
      · exact h0 i hi y)
    exact stop b2 fa fb V N d A B hno (by omega) hVC hg hwf hinv
  | succ q ih =>
    intro b2 fa fb V N d A B hmu hb hfa hfb hL hvd hVC hg hwf hinv hB0
    obtain ⟨fa, rfl⟩ : ∃ g, fa = g + 1 := ⟨fa - 1, by omega⟩
    obtain ⟨fb, rfl⟩ : ∃ g, fb = g + 1 := ⟨fb - 1, by omega⟩
    cases hw : fdn N z with
    | none =>
      have := stop b2 fa fb V N d A B hw (by omega) hVC hg hwf hinv
      rw [hw] at this
      exact this
    | some i =>
      obtain ⟨hi, hNi, -⟩ := fdn_some hw
      have hVi : V i ≠ none := fun y => by
        have := ((hVC.1 i hi).2.2.2.2.1 y).1
        rw [hNi] at this
        cases this
      obtain ⟨⟨t, l⟩, hV⟩ := Option.ne_none_iff_exists'.mp hVi
      have z100 : z ≤ 100 := hVC.2.2.2.2.2.2.2.2.2.2.1
      obtain ⟨A1, B1, a1, a2, a3, a4, a5⟩ := visit_l hP hZ hP2 hZ2 hL hm hz hvd hVC hg hi hV (hwf i _ hV)
      have ii : inb (Int32.ofNat i) 100 := (i32_inb (by omega)).mpr (by omega)
      have ci : (Int32.ofNat i).toNatClampNeg = i := i32_cl (by omega)
      have eA : l98_57 P (fa + 1) (Int32.ofNat b2) A = l98_57 P fa (Int32.ofNat (b2 + 1)) A1 := by
        rw [l98_57, if_neg (fun w => by rw [i32_l2 (x := 3300) (b := 3300) rfl (by omega) (by decide)] at w; omega), if_pos hg.1, x105_l hVC, hw, Option.bind_some, if_neg (show ¬ oI (some i) = -1 from i32_m1 (by omega)), show oI (some i) = Int32.ofNat i from rfl, a1, Option.bind_some, i32_s]
      have eB : l226_175 Z (Int32.ofNat z) (fb + 1) (Int32.ofNat i) B = (x229 B1 (Int32.ofNat z)).bind fun q17 => l226_175 Z (Int32.ofNat z) fb q17 B1 := by
        rw [l226_175, if_neg (i32_m1 (by omega)), if_pos hg.2]
        simp only [if_pos ii, ci, nar1.2]
        rw [a2, Option.bind_some]
      rw [eA, show oI (some i) = Int32.ofNat i from rfl, eB]
      rcases a5 with hfs | ⟨hg1, V1, N1, d1, hx1, hv1, hVC1⟩
      · obtain ⟨q17, hq⟩ := x229_t z100 B1
        obtain ⟨qq, f1, f2, f3, f4⟩ := hfs
        refine ⟨A1, B1, ?_, ?_, a3, a4, Or.inl ⟨qq, f1, f2, f3, f4⟩⟩
        · obtain ⟨fa, rfl⟩ : ∃ g, fa = g + 1 := ⟨fa - 1, by omega⟩
          rw [l98_57]
          split
          · rfl
          · rw [if_neg (by rw [f2]; exact i32_m1 (by omega))]
        · obtain ⟨fb, rfl⟩ : ∃ g, fb = g + 1 := ⟨fb - 1, by omega⟩
          rw [hq, Option.bind_some, l226_175]
          split
          · rfl
          · rw [if_neg (by rw [f3]; decide)]
      · have hmu1 : mu V1 N1 z ≤ q := by
          have h1 := mu_le (V := V) (V' := V1) (N := upN N i false) (N' := N1) z (fun k hk => wgt_le hx1 k (fun t l y => ((hVC.1 k hk).2.2.2.2.2 t l y).2.2.1) (fun t l y => ((hVC1.1 k hk).2.2.2.2.2 t l y).2.2.1))
          have h2 := mu_i hVi hNi z hi
          omega
        have hL1 : Lkd P Z n k s E F G p A1 B1 := hL.of (fun a b y1 y2 y3 => a3 a b (by omega) (by omega) (by omega)) (fun a b y => a4 a b (by omega) (by omega) (by omega))
        have hB1 : ∀ a b, (Z + 11 ≤ a ∧ a ≤ Z + 40 ∧ a ≠ Z + 24) → B1 a b = B0 a b := fun a b y => by rw [a4 a b (by omega) (by omega) (by omega)]; exact hB0 a b y
        have hwf1 : WFV V1 := fun k e he => by
          cases hk : V k with
          | none => exact ((hx1 k).1 hk e he).2
          | some e0 =>
            obtain ⟨t0, l0⟩ := e0
            obtain ⟨l1, y1, y2, -⟩ := (hx1 k).2 t0 l0 hk
            rw [y1] at he
            cases he
            exact (hwf k _ hk).or y2
        have hinv1 : INV B0 Z m z (F m) G V1 N1 := fun j tj lj hj hvj hnj => by
          cases hk : V j with
          | none =>
            have := ((hx1 j).1 hk _ hvj).1
            rw [hnj] at this
            cases this
          | some e0 =>
            obtain ⟨t0, l0⟩ := e0
            obtain ⟨l1, y1, y2, y3, y4, -⟩ := (hx1 j).2 t0 l0 hk
            rw [y1] at hvj
            cases hvj
            have hl1 : lj = l0 := by
              apply Classical.byContradiction
              intro hne
              rw [y4 hne] at hnj
              cases hnj
            subst hl1
            by_cases yj : j = i
            · subst yj
              rw [hV] at hk
              cases hk
              exact Vis.of hv1 (fun a b y => (hB0 a b y).symm)
            · have hnn : N j = false := by
                cases hn : N j with
                | false => rfl
                | true =>
                  have := y3 (by rw [show upN N i false j = N j from if_neg yj]; exact hn)
                  rw [hnj] at this
                  cases this
              exact (hinv j _ _ hj hk hnn).ext hx1
        obtain ⟨A2, B2, c1, c2, c3, c4, c5⟩ := ih (b2 + 1) fa fb V1 N1 d1 A1 B1 hmu1 (by omega) (by omega) (by omega) hL1 (hvd.of (fun a b y => a3 a b (by omega) (by omega) (by omega)) (fun a b y => a4 a b (by omega) (by omega) (by omega))) hVC1 hg1 hwf1 hinv1 hB1
        refine ⟨A2, B2, c1, by rw [x229_l hVC1, Option.bind_some]; exact c2, fun a b y1 y2 y3 => (c3 a b y1 y2 y3).trans (a3 a b y1 y2 y3), fun a b y1 y2 y3 => (c4 a b y1 y2 y3).trans (a4 a b y1 y2 y3), ?_⟩
        rcases c5 with c5 | ⟨c5, V2, N2, d2, c6, c7, c8⟩
        · exact Or.inl c5
        · exact Or.inr ⟨c5, V2, N2, d2, c6, fun j t l hj => c7 j t l (hj.ext hx1), c8⟩
end
