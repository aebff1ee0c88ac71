/-! WHAT IS KNOWN GROWS; an instruction's own facts -/
def Inc (V : Nat → Option VEn) (j : Nat) (t : Nat × Nat) (l : Nat × Nat × Nat) : Prop := ∃ l', V j = some (t, l') ∧ orl l' l = l'
def Lful (l : Nat × Nat × Nat) : Prop := ∀ k, k < 16 → wvl l k ≠ 0
def Ext (V : Nat → Option VEn) (N : Nat → Bool) (V' : Nat → Option VEn) (N' : Nat → Bool) : Prop := ∀ k, (V k = none → ∀ e, V' k = some e → N' k = true ∧ Lful e.2) ∧ ∀ t l, V k = some (t, l) → ∃ l', V' k = some (t, l') ∧ orl l' l = l' ∧ (N k = true → N' k = true) ∧ (l' ≠ l → N' k = true) ∧ (N' k = true → N k = true ∨ l' ≠ l)
theorem orl_or {a b c : Nat} (h : a ||| b = a) : (a ||| c) ||| b = a ||| c := by
  rw [Nat.or_assoc, Nat.or_comm c b, ← Nat.or_assoc, h]
theorem orl_i {l l' l'' : Nat × Nat × Nat} (h : orl l l' = l) : orl (orl l l'') l' = orl l l'' := by
  have h1 : l.1 ||| l'.1 = l.1 := congrArg (fun x => x.1) h
  have h2 : l.2.1 ||| l'.2.1 = l.2.1 := congrArg (fun x => x.2.1) h
  have h3 : l.2.2 ||| l'.2.2 = l.2.2 := congrArg (fun x => x.2.2) h
  unfold orl
  exact Prod.ext (orl_or h1) (Prod.ext (orl_or h2) (orl_or h3))
theorem orl_tr {a b c : Nat × Nat × Nat} (h : orl a b = a) (h' : orl b c = b) : orl a c = a := by
  have e : orl (orl a b) c = orl a (orl b c) := by unfold orl; simp only [Nat.or_assoc]
  rw [← h, e, h']
theorem orl_s {l l' : Nat × Nat × Nat} : orl (orl l l') l = orl l l' := by
  unfold orl
  refine Prod.ext ?_ (Prod.ext ?_ ?_)
  all_goals
    dsimp only
    rw [Nat.or_comm, ← Nat.or_assoc, Nat.or_self]
theorem orl_s2 {l l' : Nat × Nat × Nat} : orl (orl l l') l' = orl l l' := by
  unfold orl
  refine Prod.ext ?_ (Prod.ext ?_ ?_)
  all_goals
    dsimp only
    rw [Nat.or_assoc, Nat.or_self]
theorem orl_self {l : Nat × Nat × Nat} : orl l l = l := by unfold orl; simp only [Nat.or_self]
theorem orl_cm {a b : Nat × Nat × Nat} : orl a b = orl b a := by unfold orl; rw [Nat.or_comm a.1, Nat.or_comm a.2.1, Nat.or_comm a.2.2]
theorem orl_an {a b : Nat × Nat × Nat} (h : orl a b = a) (h' : orl b a = b) : a = b := by rw [← h, orl_cm, h']
theorem Ext.rf {V : Nat → Option VEn} {N : Nat → Bool} : Ext V N V N := fun k => ⟨fun h e h' => by (rw [h] at h'; cases h'), fun t l h => ⟨l, h, orl_self, id, fun h => absurd rfl h, Or.inl⟩⟩
theorem Ext.tr {V V' V'' : Nat → Option VEn} {N N' N'' : Nat → Bool} (h : Ext V N V' N') (h' : Ext V' N' V'' N'') : Ext V N V'' N'' := by
  intro k
  refine ⟨fun h0 e he => ?_, fun t l hl => ?_⟩
  · cases w : V' k with
    | none => exact (h' k).1 w e he
    | some e' =>
      obtain ⟨t, l⟩ := e'
      obtain ⟨q1, q2⟩ := (h k).1 h0 _ w
      obtain ⟨l'', r1, r2, r3, r4, -⟩ := (h' k).2 t l w
      rw [he] at r1
      cases r1
      refine ⟨r3 q1, fun j hj => ?_⟩
      have := q2 j hj
      rw [← r2, wvl_or]
      intro z
      apply this
      have : ∀ a, a < 8 → ∀ b, b < 8 → a ||| b = 0 → b = 0 := by decide
      exact this _ wvl_8 _ wvl_8 z
  · obtain ⟨l', a1, a2, a3, a4, a5⟩ := (h k).2 t l hl
    obtain ⟨l'', b1, b2, b3, b4, b5⟩ := (h' k).2 t l' a1
    refine ⟨l'', b1, orl_tr b2 a2, fun z => b3 (a3 z), fun z => ?_, fun z => ?_⟩
    · by_cases y : l'' = l'
      · rw [y] at z; exact b3 (a4 z)
      · exact b4 y
    · rcases b5 z with y | y
      · rcases a5 y with x | x
        · exact Or.inl x
        · exact Or.inr (fun e => x (orl_an a2 (by rw [← e]; exact b2)))
      · refine Or.inr (fun e => y ?_)
        have : l' = l := orl_an a2 (by rw [← e]; exact b2)
        rw [e, this]
theorem Inc.ext {V V' : Nat → Option VEn} {N N' : Nat → Bool} {j : Nat} {t : Nat × Nat} {l : Nat × Nat × Nat} (h : Inc V j t l) (e : Ext V N V' N') : Inc V' j t l := by
  obtain ⟨l', h1, h2⟩ := h
  obtain ⟨l'', b1, b2, -⟩ := (e j).2 t l' h1
  exact ⟨l'', b1, orl_tr b2 h2⟩
theorem Cme.ext {V V' : Nat → Option VEn} {N N' : Nat → Bool} {d d' j : Nat} {t : Nat × Nat} {l : Nat × Nat × Nat} (h : Cme V N d j t l V' N' d') (hf : Lful l) : Ext V N V' N' ∧ Inc V' j t l := by
  rcases h with ⟨h1, rfl, rfl, -⟩ | ⟨l', h1, rfl, rfl, -⟩
  · refine ⟨fun k => ⟨fun h0 e he => ?_, fun t0 l0 h0 => ?_⟩, l, if_pos rfl, orl_self⟩
    · by_cases y : k = j
      · subst y
        have : upV V k (t, l) k = some (t, l) := if_pos rfl
        rw [this] at he
        cases he
        exact ⟨if_pos rfl, hf⟩
      · have : upV V j (t, l) k = V k := if_neg y
        rw [this, h0] at he
        cases he
    · by_cases y : k = j
      · subst y
        rw [h1] at h0
        cases h0
      · exact ⟨l0, by rw [show upV V j (t, l) k = V k from if_neg y]; exact h0, orl_self, fun z => by rw [show upN N j true k = N k from if_neg y]; exact z, fun z => absurd rfl z, fun z => by rw [show upN N j true k = N k from if_neg y] at z; exact Or.inl z⟩
  · refine ⟨fun k => ⟨fun h0 e he => ?_, fun t0 l0 h0 => ?_⟩, orl l' l, if_pos rfl, orl_s2⟩
    · by_cases y : k = j
      · subst y
        rw [h1] at h0
        cases h0
      · have : upV V j (t, orl l' l) k = V k := if_neg y
        rw [this, h0] at he
        cases he
    · by_cases y : k = j
      · subst y
        rw [h1] at h0
        cases h0
        refine ⟨orl l' l, if_pos rfl, orl_s, fun z => ?_, fun z => ?_, fun z => ?_⟩
        · rw [show upN N k (N k || decide (orl l' l ≠ l')) k = _ from if_pos rfl, z]; rfl
        · rw [show upN N k (N k || decide (orl l' l ≠ l')) k = _ from if_pos rfl]; simp [z]
        · rw [show upN N k (N k || decide (orl l' l ≠ l')) k = _ from if_pos rfl] at z
          simpa using z
      · exact ⟨l0, by rw [show upV V j (t, orl l' l) k = V k from if_neg y]; exact h0, orl_self, fun z => by rw [show upN N j (N j || decide (orl l' l ≠ l')) k = N k from if_neg y]; exact z, fun z => absurd rfl z, fun z => by rw [show upN N j (N j || decide (orl l' l ≠ l')) k = N k from if_neg y] at z; exact Or.inl z⟩
/-- an instruction's facts, by the reference's cells -/
def inn (B : St) (Z x : Nat) : Nat := (B (Z + 27) x).toNatClampNeg
def ifk (B : St) (Z x : Nat) : Nat := if opn B Z x = 38 ∨ opn B Z x = 39 then (B (Z + 11) (inn B Z x)).toNatClampNeg else if opn B Z x = 40 ∨ opn B Z x = 41 then (B (Z + 14) (inn B Z x)).toNatClampNeg else 1
def irs (B : St) (Z x : Nat) : Nat := if opn B Z x = 49 ∨ opn B Z x = 50 then (B (Z + 20) (inn B Z x)).toNatClampNeg else 0
def irf (B : St) (Z x : Nat) : Nat := if opn B Z x = 49 ∨ opn B Z x = 50 then (B (Z + 19) (inn B Z x)).toNatClampNeg else 0
def icn (B : St) (Z x : Nat) : Nat := if opn B Z x = 49 ∨ opn B Z x = 50 then (B (Z + 18) (inn B Z x)).toNatClampNeg else 0
def mrt (B : St) (Z m : Nat) : Nat := (B (Z + 20) m).toNatClampNeg
def itg (B : St) (Z x : Nat) : Nat := (B (Z + 33) x).toNatClampNeg
def efB (B : St) (Z m x : Nat) (t : Nat × Nat) (l : Nat × Nat × Nat) : Option (Nat × Nat) := eff (opn B Z x) (wvl l (inn B Z x)) (ifk B Z x) (mrt B Z m) (irs B Z x) (ckl (irf B Z x) (icn B Z x)) t
def aft (B : St) (Z x : Nat) (t : Nat × Nat) (l : Nat × Nat × Nat) : Nat × Nat × Nat := if opn B Z x = 3 then stl (skd t) (inn B Z x) l else l
section
variable {P Z n k s m x : Nat} {E F G p : Nat → Nat} {A B : St}
set_option maxHeartbeats 4000000 in
theorem lk_op (hP : P = 3 ∨ P = 18) (hZ2 : 85 ≤ Z) (h : Lkd P Z n k s E F G p A B) (hm : m < k) (h1 : F m ≤ x) (h2 : x < F (m + 1)) (h3 : A 58 3 = Int32.ofNat m) (h4 : B 82 32 = Int32.ofNat m) : opn B Z x < 59 ∧ A (P + 10) (3 * x) = Int32.ofNat (opn B Z x) ∧ B (Z + 26) x = Int32.ofNat (opn B Z x) ∧ OpC P m (opn B Z x) (inn B Z x) (ifk B Z x) (mrt B Z m) (irs B Z x) (icn B Z x) (irf B Z x) (A (P + 10) (3 * x + 1)) (A (P + 10) (3 * x + 2)) A ∧ OpR Z m (opn B Z x) (ifk B Z x) (mrt B Z m) (irs B Z x) (icn B Z x) (irf B Z x) x B ∧ (shp (opn B Z x) = 4 → ∃ t, F m + t ≤ F (m + 1) ∧ A (P + 10) (3 * x + 1) = Int32.ofNat t ∧ itg B Z x = F m + t ∧ B (Z + 33) x = Int32.ofNat (F m + t)) ∧ x < 1333 ∧ ((opn B Z x = 2 ∨ opn B Z x = 3 ∨ opn B Z x = 4) → inn B Z x < 16 ∧ B (Z + 27) x = Int32.ofNat (inn B Z x)) := by
  have hP2 : 3 ≤ P ∧ P ≤ 18 := by omega
  obtain ⟨⟨c1, c2, c3, c4, c5, c6, c7, c8, c9, c10, c11, c12, c13, c14, c15, c16⟩, ⟨m1, m2, m3, m4, m5, m6, m7, m8, m9⟩, hk, ht⟩ := h
  have hFk := mono_le (F := F) (k := k) (fun a ha => (m7 a ha).1) (m + 1) k (by omega) (Nat.le_refl _)
  have hE := eB_le (fun c hc => ⟨(c10 c hc).1, (c10 c hc).2.1⟩) c7 n c3 (Nat.le_refl _)
  have hE96 : E n ≤ 96 := by omega
  have x13 : x < 1333 := by omega
  have m24 : m < 24 := by omega
  have fb : ∀ t, F m + t ≤ F (m + 1) → F m + t < 2147483648 := fun t ht => by omega
  obtain ⟨o, o1, o2, o3, o4, o5, o6, o7, o8, o9⟩ := hk m x hm h1 h2
  have o1b : o < 2147483648 := Nat.lt_trans o1 (by decide)
  obtain rfl : o = opn B Z x := by unfold opn; rw [o3, i32_cl o1b]
  obtain ⟨-, -, -, -, -, -, -, -, q9, ⟨rt, q10, q11⟩, -⟩ := m7 m hm
  have hrt : mrt B Z m = rt := by unfold mrt; rw [q11, i32_cl (Nat.lt_of_le_of_lt q10 (by decide))]
  have hmem : shp (opn B Z x) = 6 → ∃ r, A (P + 10) (3 * x + 2) = Int32.ofNat r ∧ B (Z + 27) x = Int32.ofNat r ∧ inn B Z x = r ∧ ((opn B Z x = 38 ∨ opn B Z x = 39) → r < E n) ∧ ((opn B Z x = 40 ∨ opn B Z x = 41) → r < s) ∧ ((opn B Z x = 49 ∨ opn B Z x = 50) → r < k) := fun z => by
    obtain ⟨c, r, r1, r2, r3, r4, r5, r6, r7, r8⟩ := o9 z
    have hb : r < 2147483648 := by
      have sh6 : ∀ o, o < 59 → shp o = 6 → ((o = 38 ∨ o = 39) ∨ (o = 40 ∨ o = 41) ∨ o = 49 ∨ o = 50) := by decide
      rcases sh6 _ o1 z with y | y | y | y
      · exact Nat.lt_trans (Nat.lt_of_lt_of_le (r5 y).1 hE96) (by decide)
      · exact Nat.lt_trans (Nat.lt_of_lt_of_le (r6 y) c6) (by decide)
      · exact Nat.lt_trans (Nat.lt_of_lt_of_le (r7 y).1 c5) (by decide)
      · exact Nat.lt_trans (Nat.lt_of_lt_of_le (r8 y).1 c5) (by decide)
    refine ⟨r, r3, r4, by unfold inn; rw [r4, i32_cl hb], fun y => (r5 y).1, r6, fun y => ?_⟩
    rcases y with y | y
    · exact (r7 y).1
    · exact (r8 y).1
  have hloc : (opn B Z x = 2 ∨ opn B Z x = 3 ∨ opn B Z x = 4) → inn B Z x < 16 ∧ B (Z + 27) x = Int32.ofNat (inn B Z x) ∧ A (P + 10) (3 * x + 1) = Int32.ofNat (inn B Z x) := fun z => by
    have sh2 : ∀ o, o < 59 → (o = 2 ∨ o = 3 ∨ o = 4) → (shp o = 2 ∨ shp o = 3) := by decide
    have s2 := sh2 _ o1 z
    obtain ⟨v, v1, v2⟩ := o5 s2
    have e : inn B Z x = v := by unfold inn; rw [v2, i32_cl (Nat.lt_trans v1 (by decide))]
    rw [e]
    exact ⟨v1, v2, by rw [o4 (by rcases s2 with y | y <;> simp [y])]; exact v2⟩
  have o7' : Hid (shp (opn B Z x) = 4 → ∃ t, F m + t ≤ F (m + 1) ∧ A (P + 10) (3 * x + 1) = Int32.ofNat t ∧ B (Z + 33) x = Int32.ofNat (F m + t)) := o7
  clear o4 o5 o6 o7 o8 o9
  replace hmem : Hid _ := hmem
  replace hloc : Hid _ := hloc
  have shm : ∀ o, o < 59 → (o = 38 ∨ o = 39 ∨ o = 40 ∨ o = 41 ∨ o = 49 ∨ o = 50) → shp o = 6 := by decide
  have hfk : ifk B Z x = 1 ∨ ifk B Z x = 2 := by
    unfold ifk
    by_cases y1 : opn B Z x = 38 ∨ opn B Z x = 39
    · rw [if_pos y1]
      obtain ⟨r, r1, r2, r3, r4, -⟩ := (show _ → _ from hmem) (shm _ o1 (by omega))
      rw [r3]
      rcases (c12 r (r4 y1)).2 with y | y <;> rw [y] <;> decide
    · rw [if_neg y1]
      by_cases y2 : opn B Z x = 40 ∨ opn B Z x = 41
      · rw [if_pos y2]
        obtain ⟨r, r1, r2, r3, -, r5, -⟩ := (show _ → _ from hmem) (shm _ o1 (by omega))
        rw [r3]
        rcases (c16 r (r5 y2)).2 with y | y <;> rw [y] <;> decide
      · rw [if_neg y2]; exact Or.inl rfl
  have h12 : ∀ w : Int32, (w = 1 ∨ w = 2) → w = Int32.ofNat w.toNatClampNeg := by
    rintro w (rfl | rfl) <;> rfl
  have hcal : (opn B Z x = 49 ∨ opn B Z x = 50) → ∃ r, r < k ∧ r < 24 ∧ A (P + 10) (3 * x + 2) = Int32.ofNat r ∧ B (Z + 27) x = Int32.ofNat r ∧ A (P + 8) (16 * r + 4) = Int32.ofNat (icn B Z x) ∧ (∀ i, i < icn B Z x → A (P + 8) (16 * r + 10 + i) = if (irf B Z x).testBit i then 2 else 1) ∧ A (P + 8) (16 * r + 3) = Int32.ofNat (irs B Z x) ∧ B (Z + 18) r = Int32.ofNat (icn B Z x) ∧ B (Z + 19) r = Int32.ofNat (irf B Z x) ∧ B (Z + 20) r = Int32.ofNat (irs B Z x) ∧ icn B Z x ≤ 6 ∧ irf B Z x < 64 ∧ irs B Z x ≤ 2 := fun y => by
    obtain ⟨r, r1, r2, r3, -, -, r6⟩ := (show _ → _ from hmem) (shm _ o1 (by omega))
    have hr := r6 y
    obtain ⟨-, -, -, -, a1, a2, a3, a4, a5, ⟨rs, a6, a7⟩, ⟨c, rf, a8, a9, a10, a11, a12, a13⟩, -⟩ := m7 r hr
    have b64 : rf < 64 := Nat.lt_of_lt_of_le a12 (Nat.pow_le_pow_right (n := 2) (by decide) a11)
    have e1 : icn B Z x = c := by unfold icn; rw [if_pos y, r3, a9, i32_cl (by omega)]
    have e2 : irf B Z x = rf := by unfold irf; rw [if_pos y, r3, a10, i32_cl (by omega)]
    have e3 : irs B Z x = rs := by unfold irs; rw [if_pos y, r3, a7, i32_cl (by omega)]
    rw [e1, e2, e3]
    exact ⟨r, hr, by omega, r1, r2, a8, a13, by rw [a5]; exact a7, a9, a10, a7, a11, b64, a6⟩
  replace hcal : Hid _ := hcal
  have hb3 : icn B Z x ≤ 6 ∧ irf B Z x < 64 ∧ irs B Z x ≤ 2 := by
    by_cases y : opn B Z x = 49 ∨ opn B Z x = 50
    · obtain ⟨r, -, -, -, -, -, -, -, -, -, -, z1, z2, z3⟩ := (show _ → _ from hcal) y
      exact ⟨z1, z2, z3⟩
    · unfold icn irf irs
      rw [if_neg y, if_neg y, if_neg y]
      decide
  refine ⟨o1, o2, o3, ⟨fun y => ⟨((show _ → _ from hloc) y).2.2, ((show _ → _ from hloc) y).1⟩, fun y => ?_, fun y => ?_, fun y => ?_, hb3.1, hb3.2.2, hfk, by rw [hrt]; exact q10, h3, m24, by rw [q9, q11, hrt]⟩, ⟨fun y => ?_, fun y => ?_, fun y => ?_, hb3.1, hb3.2.1, hb3.2.2, hfk, by rw [hrt]; exact q10, h4, m24, by rw [q11, hrt], x13⟩, fun y => ?_, x13, fun y => ⟨((show _ → _ from hloc) y).1, ((show _ → _ from hloc) y).2.1⟩⟩
  · obtain ⟨r, r1, r2, r3, r4, -⟩ := (show _ → _ from hmem) (shm _ o1 (by omega))
    have hr := r4 y
    refine ⟨r, by omega, r1, ?_⟩
    rw [(c12 r hr).1]
    unfold ifk
    rw [if_pos y, r3]
    exact h12 _ (c12 r hr).2
  · obtain ⟨r, r1, r2, r3, -, r5, -⟩ := (show _ → _ from hmem) (shm _ o1 (by omega))
    have hr := r5 y
    refine ⟨r, by omega, r1, ?_⟩
    rw [(c16 r hr).1]
    unfold ifk
    rw [if_neg (by omega), if_pos y, r3]
    exact h12 _ (c16 r hr).2
  · obtain ⟨r, y1, y2, y3, y4, y5, y6, y7, -⟩ := (show _ → _ from hcal) y
    exact ⟨r, y2, y3, y5, y6, y7⟩
  · obtain ⟨r, r1, r2, r3, r4, -⟩ := (show _ → _ from hmem) (shm _ o1 (by omega))
    have hr := r4 y
    refine ⟨r, by omega, r2, ?_⟩
    unfold ifk
    rw [if_pos y, r3]
    exact h12 _ (c12 r hr).2
  · obtain ⟨r, r1, r2, r3, -, r5, -⟩ := (show _ → _ from hmem) (shm _ o1 (by omega))
    have hr := r5 y
    refine ⟨r, by omega, r2, ?_⟩
    unfold ifk
    rw [if_neg (by omega), if_pos y, r3]
    exact h12 _ (c16 r hr).2
  · obtain ⟨r, y1, y2, y3, y4, y5, y6, y7, y8, y9, y10, -⟩ := (show _ → _ from hcal) y
    exact ⟨r, y2, y4, y8, y9, y10⟩
  · obtain ⟨t, t1, t2, t3⟩ := (show _ → _ from o7') y
    exact ⟨t, t1, t2, by unfold itg; rw [t3, i32_cl (fb t t1)], t3⟩
end
