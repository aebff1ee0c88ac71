/-! WHAT AN INSTRUCTION DOES to the verifier's stack; the class's apply() -/
def tkk (k : Nat) (t : Nat × Nat) : Option (Nat × Nat) := if t.1 = 0 then none else if k = 0 ∨ skd t = k then some (spp t) else none
def psg (k : Nat) (t : Nat × Nat) : Option (Nat × Nat) := if t.1 < 16 then some (sps k t) else none
def tkz : List Nat → Nat × Nat → Option (Nat × Nat)
  | [], t => some t
  | k :: ks, t => (tkk k t).bind (tkz ks)
def psz : List Nat → Nat × Nat → Option (Nat × Nat)
  | [], t => some t
  | k :: ks, t => (psg k t).bind (psz ks)
def pso (k : Nat) (t : Nat × Nat) : Option (Nat × Nat) := if k = 0 then some t else psg k t
def tkl (o : Nat) : List Nat := [[], [], [], [0], [], [0], [0], [0, 0], [1, 1], [1, 1], [1, 1], [1, 1], [1, 1], [1, 1], [1, 1], [1, 1], [1, 1], [1, 1], [1, 1], [1], [], [1], [1], [1], [1], [1], [1], [1, 1], [1, 1], [1, 1], [1, 1], [1, 1], [1, 1], [2], [2], [2, 2], [2, 2], [], [2], [], [], [], [1], [1], [1, 2], [1, 1, 2], [1, 2], [2, 1, 2], [2], [], [], [], [2], [2], [2], [], [1], [1], [1]].getD o []
def gvk (o : Nat) : Nat := [1, 2, 0, 0, 0, 0, 0, 0, 1, 1, 1, 1, 1, 1, 1, 1, 1, 1, 1, 1, 0, 0, 0, 0, 0, 0, 0, 0, 0, 0, 0, 0, 0, 0, 0, 0, 0, 2, 0, 0, 0, 0, 2, 2, 1, 0, 2, 0, 1, 0, 0, 0, 0, 1, 2, 1, 0, 1, 1].getD o 0
/-- kinds of a method's arguments, the last one first -/
def ckl (rf : Nat) : Nat → List Nat
  | 0 => []
  | c + 1 => (if rf.testBit c then 2 else 1) :: ckl rf c
def eff (o lk fk rt rs : Nat) (cks : List Nat) (t : Nat × Nat) : Option (Nat × Nat) :=
  if o = 2 then (if lk = 1 ∨ lk = 2 then psg lk t else none)
  else if o = 4 then (if lk = 1 then some t else none)
  else if o = 5 then (tkk 0 t).bind fun t' => (psg (skd t) t').bind (psg (skd t))
  else if o = 7 then (tkz [0, 0] t).bind fun t' => (psg (skd t) t').bind (psg (skd (spp t)))
  else if o = 38 then (tkk 2 t).bind (psg fk)
  else if o = 39 then tkz [fk, 2] t
  else if o = 40 then psg fk t
  else if o = 41 then tkk fk t
  else if o = 49 then (tkz cks t).bind (pso rs)
  else if o = 50 then (tkz cks t).bind fun t' => (tkk 2 t').bind (pso rs)
  else if o = 51 then (if rt = 0 then some t else tkk rt t)
  else (tkz (tkl o) t).bind (pso (gvk o))
theorem skd_12 {t : Nat × Nat} : skd t = 1 ∨ skd t = 2 := by unfold skd; split <;> simp
theorem tkk_y {k : Nat} {t t' : Nat × Nat} (h : tkk k t = some t') : 0 < t.1 ∧ (k = 0 ∨ skd t = k) ∧ t' = spp t := by
  unfold tkk at h
  split at h
  · cases h
  · split at h
    · rename_i h1 h2; cases h; exact ⟨by omega, h2, rfl⟩
    · cases h
theorem tkk_ok {k : Nat} {t t' : Nat × Nat} (h : tkk k t = some t') (ht : Sok t) : Sok t' ∧ t'.1 + 1 = t.1 := by
  obtain ⟨h1, -, rfl⟩ := tkk_y h
  exact ⟨spp_ok ht, by show t.1 - 1 + 1 = t.1; omega⟩
theorem tkz_ok : ∀ {ks : List Nat} {t t' : Nat × Nat}, tkz ks t = some t' → Sok t → Sok t' ∧ t'.1 ≤ t.1 := by
  intro ks
  induction ks with
  | nil => intro t t' h ht; cases h; exact ⟨ht, Nat.le_refl _⟩
  | cons k ks ih =>
    intro t t' h ht
    obtain ⟨u, h1, h2⟩ := Option.bind_eq_some_iff.mp h
    obtain ⟨a, b⟩ := tkk_ok h1 ht
    obtain ⟨c, d⟩ := ih h2 a
    exact ⟨c, by omega⟩
theorem psg_ok {k : Nat} {t t' : Nat × Nat} (h : psg k t = some t') (ht : Sok t) : Sok t' ∧ t'.1 ≤ 16 := by
  unfold psg at h
  split at h
  · rename_i z; cases h; exact ⟨sps_ok ht (by omega), by show t.1 + 1 ≤ 16; omega⟩
  · cases h
theorem pso_ok {k : Nat} {t t' : Nat × Nat} (h : pso k t = some t') (ht : Sok t) (h16 : t.1 ≤ 16) : Sok t' ∧ t'.1 ≤ 16 := by
  unfold pso at h
  split at h
  · cases h; exact ⟨ht, h16⟩
  · exact psg_ok h ht
theorem eff_ok {o lk fk rt rs : Nat} {cks : List Nat} {t t' : Nat × Nat} (h : eff o lk fk rt rs cks t = some t') (ht : Sok t) (h16 : t.1 ≤ 16) : Sok t' ∧ t'.1 ≤ 16 := by
  unfold eff at h
  by_cases o2 : o = 2
  · rw [if_pos o2] at h
    split at h
    · exact psg_ok h ht
    · cases h
  rw [if_neg o2] at h
  by_cases o4 : o = 4
  · rw [if_pos o4] at h
    split at h
    · cases h; exact ⟨ht, h16⟩
    · cases h
  rw [if_neg o4] at h
  by_cases o5 : o = 5
  · rw [if_pos o5] at h
    obtain ⟨u, h1, h2⟩ := Option.bind_eq_some_iff.mp h
    obtain ⟨v, h3, h4⟩ := Option.bind_eq_some_iff.mp h2
    exact psg_ok h4 (psg_ok h3 (tkk_ok h1 ht).1).1
  rw [if_neg o5] at h
  by_cases o7 : o = 7
  · rw [if_pos o7] at h
    obtain ⟨u, h1, h2⟩ := Option.bind_eq_some_iff.mp h
    obtain ⟨v, h3, h4⟩ := Option.bind_eq_some_iff.mp h2
    exact psg_ok h4 (psg_ok h3 (tkz_ok h1 ht).1).1
  rw [if_neg o7] at h
  by_cases o38 : o = 38
  · rw [if_pos o38] at h
    obtain ⟨u, h1, h2⟩ := Option.bind_eq_some_iff.mp h
    exact psg_ok h2 (tkk_ok h1 ht).1
  rw [if_neg o38] at h
  by_cases o39 : o = 39
  · rw [if_pos o39] at h
    obtain ⟨a, b⟩ := tkz_ok h ht
    exact ⟨a, by omega⟩
  rw [if_neg o39] at h
  by_cases o40 : o = 40
  · rw [if_pos o40] at h
    exact psg_ok h ht
  rw [if_neg o40] at h
  by_cases o41 : o = 41
  · rw [if_pos o41] at h
    obtain ⟨a, b⟩ := tkk_ok h ht
    exact ⟨a, by omega⟩
  rw [if_neg o41] at h
  by_cases o49 : o = 49
  · rw [if_pos o49] at h
    obtain ⟨u, h1, h2⟩ := Option.bind_eq_some_iff.mp h
    obtain ⟨a, b⟩ := tkz_ok h1 ht
    exact pso_ok h2 a (by omega)
  rw [if_neg o49] at h
  by_cases o50 : o = 50
  · rw [if_pos o50] at h
    obtain ⟨u, h1, h2⟩ := Option.bind_eq_some_iff.mp h
    obtain ⟨v, h3, h4⟩ := Option.bind_eq_some_iff.mp h2
    obtain ⟨a, b⟩ := tkz_ok h1 ht
    obtain ⟨c, d⟩ := tkk_ok h3 a
    exact pso_ok h4 c (by omega)
  rw [if_neg o50] at h
  by_cases o51 : o = 51
  · rw [if_pos o51] at h
    split at h
    · cases h; exact ⟨ht, h16⟩
    · obtain ⟨a, b⟩ := tkk_ok h ht
      exact ⟨a, by omega⟩
  · rw [if_neg o51] at h
    obtain ⟨u, h1, h2⟩ := Option.bind_eq_some_iff.mp h
    obtain ⟨a, b⟩ := tkz_ok h1 ht
    exact pso_ok h2 a (by omega)
/-- the class's stack -/
def Cs (t : Nat × Nat) (A : St) : Prop := A 58 7 = Int32.ofNat t.1 ∧ A 58 8 = Int32.ofNat t.2
section
variable {t : Nat × Nat} {A : St}
theorem x111_y (h : Cs t A) (ht : Sok t) (h0 : 0 < t.1) : ∃ A', x111 A = some (Int32.ofNat (skd t), A') ∧ Cs (spp t) A' ∧ ∀ a b, (a ≠ 58 ∨ (b ≠ 7 ∧ b ≠ 8)) → A' a b = A a b := by
  obtain ⟨h1, h2⟩ := h
  obtain ⟨b1, b2⟩ := ht
  have b3 := p20 b1
  have e1 : Int32.ofNat t.1 - 1 = Int32.ofNat (t.1 - 1) := i32_sb (b := 1) (by omega)
  unfold x111
  rw [h1, h2, if_pos ((i32_l4 (x := 0) (b := 0) rfl (by omega) (by decide)).mpr h0), e1, i32_tb (by omega) (by omega), i32_cr (by omega), cl_pp h0 b1 b2]
  have e2 : (if (if t.2.testBit (t.1 - 1) = true then (1 : Int32) else 0) = 1 then some 2 else some 1) = some (Int32.ofNat (skd t)) := by
    unfold skd
    cases t.2.testBit (t.1 - 1) <;> rfl
  rw [e2, Option.bind_some]
  exact ⟨_, rfl, ⟨by rw [up2_o (by omega), up2_s]; rfl, by rw [up2_s]; rfl⟩, fun a b z => by rw [up2_o (by omega), up2_o (by omega)]⟩
theorem x111_0 (h : Cs t A) (h0 : t.1 = 0) : x111 A = some (0, A) := by
  unfold x111
  rw [h.1, h0, if_neg (by decide)]
theorem x111_t : ∃ v A', x111 A = some (v, A') := by
  unfold x111
  split
  · split <;> exact ⟨_, _, rfl⟩
  · exact ⟨_, _, rfl⟩
theorem x110_t {x : Int32} : ∃ A', x110 A x = some A' := by
  unfold x110
  split <;> (rw [Option.bind_some]; split <;> exact ⟨_, rfl⟩)
theorem x110_0 : x110 A 0 = some A := by
  unfold x110
  rw [if_neg (by decide), Option.bind_some, if_pos rfl]
theorem x110_k {k : Nat} (h : Cs t A) (ht : Sok t) (h20 : t.1 < 20) (hk : k = 1 ∨ k = 2) : ∃ A', x110 A (Int32.ofNat k) = some A' ∧ Cs (sps k t) A' ∧ ∀ a b, (a ≠ 58 ∨ (b ≠ 7 ∧ b ≠ 8)) → A' a b = A a b := by
  obtain ⟨h1, h2⟩ := h
  unfold x110 sps
  rcases hk with rfl | rfl
  · rw [if_neg (by decide), Option.bind_some, if_neg (by decide), h1, i32_s]
    exact ⟨_, rfl, ⟨up2_s _ _ _ _, by rw [up2_o (by omega)]; exact h2⟩, fun a b z => up2_o (by omega)⟩
  · rw [if_pos (by decide), Option.bind_some, if_neg (by decide), h1, h2, i32_sh1 _ (by omega), i32_or, up2_o (by omega), h1, i32_s]
    exact ⟨_, rfl, ⟨up2_s _ _ _ _, by rw [up2_o (by omega), up2_s]; rfl⟩, fun a b z => by rw [up2_o (by omega), up2_o (by omega)]⟩
/-- taken of the kind k: right (v = 1) or not -/
theorem x111_k (h : Cs t A) (ht : Sok t) (k : Nat) (hk : k = 1 ∨ k = 2) : ∃ v A', x111 A = some (v, A') ∧ (∀ t', tkk k t = some t' → v = Int32.ofNat k ∧ Cs t' A') ∧ (tkk k t = none → v ≠ Int32.ofNat k) ∧ ∀ a b, (a ≠ 58 ∨ (b ≠ 7 ∧ b ≠ 8)) → A' a b = A a b := by
  by_cases h0 : t.1 = 0
  · refine ⟨0, A, x111_0 h h0, fun t' z => ?_, fun _ => ?_, fun _ _ _ => rfl⟩
    · have := (tkk_y z).1; omega
    · rcases hk with rfl | rfl <;> decide
  · obtain ⟨A', a1, a2, a3⟩ := x111_y h ht (by omega)
    refine ⟨_, A', a1, fun t' z => ?_, fun z => ?_, a3⟩
    · obtain ⟨-, z2, rfl⟩ := tkk_y z
      refine ⟨?_, a2⟩
      rcases z2 with z2 | z2
      · omega
      · rw [z2]
    · unfold tkk at z
      rw [if_neg h0] at z
      split at z
      · cases z
      · rename_i z2
        intro e
        apply z2
        right
        rcases skd_12 (t := t) with y | y <;> rcases hk with rfl | rfl <;> rw [y] at e ⊢ <;> first | rfl | exact absurd e (by decide)
end
def enc : List Nat → Nat
  | [] => 0
  | k :: ks => k + 10 * enc ks
theorem i32_d10 : ∀ d, d < 300 → Int32.ofNat d / 10 = Int32.ofNat (d / 10) ∧ Int32.ofNat d - Int32.ofNat d / 10 * 10 = Int32.ofNat (d % 10) := by decide +kernel
theorem l113_l {b1 : Int32} : ∀ (ks : List Nat) (t : Nat × Nat) (A : St) (b2 : Int32) (f : Nat), (∀ k, k ∈ ks → k = 1 ∨ k = 2) → enc ks < 300 → (b2 = 0 ∨ b2 = 1) → ks.length < f → ∃ v A', l113_7 b1 f b2 (Int32.ofNat (enc ks)) A = some (v, A') ∧ (v = 0 ∨ v = 1) ∧ (b2 = 0 → v = 0) ∧ (Cs t A → Sok t → b2 = 1 → (∀ t', tkz ks t = some t' → v = 1 ∧ Cs t' A') ∧ (tkz ks t = none → v = 0)) := by
  intro ks
  induction ks with
  | nil =>
    intro t A b2 f h1 h2 hb h3
    obtain ⟨f, rfl⟩ : ∃ g, f = g + 1 := ⟨f - 1, by simp at h3; omega⟩
    refine ⟨b2, A, ?_, hb, id, fun hc _ hb1 => ⟨fun t' z => by cases z; exact ⟨hb1, hc⟩, fun z => by cases z⟩⟩
    rw [l113_7, if_pos (by decide)]
  | cons k ks ih =>
    intro t A b2 f h1 h2 hb h3
    obtain ⟨f, rfl⟩ : ∃ g, f = g + 1 := ⟨f - 1, by simp at h3; omega⟩
    have hk := h1 k List.mem_cons_self
    have e : enc (k :: ks) = k + 10 * enc ks := rfl
    have hd : enc (k :: ks) / 10 = enc ks ∧ enc (k :: ks) % 10 = k := by rw [e]; omega
    obtain ⟨d1, d2⟩ := i32_d10 (enc (k :: ks)) h2
    have hpos : ¬ Int32.ofNat (enc (k :: ks)) ≤ 0 := by
      rw [i32_l3 (x := 0) (b := 0) rfl (by omega) (by decide), e]
      omega
    obtain ⟨w, A1, a1⟩ := x111_t (A := A)
    rw [l113_7, if_neg hpos, a1, Option.bind_some, d2, d1, hd.1, hd.2]
    dsimp only
    obtain ⟨b2', hb2, hb3, heq⟩ : ∃ b2' : Int32, (b2' = 0 ∨ b2' = 1) ∧ (b2' = 1 ↔ (w = Int32.ofNat k ∧ b2 ≠ 0)) ∧ (if w = Int32.ofNat k then if b2 = 0 then l113_7 b1 f 0 (Int32.ofNat (enc ks)) A1 else l113_7 b1 f 1 (Int32.ofNat (enc ks)) A1 else l113_7 b1 f 0 (Int32.ofNat (enc ks)) A1) = l113_7 b1 f b2' (Int32.ofNat (enc ks)) A1 := by
      by_cases y1 : w = Int32.ofNat k
      · by_cases y2 : b2 = 0
        · exact ⟨0, Or.inl rfl, ⟨fun z => absurd z (by decide), fun z => absurd y2 z.2⟩, by rw [if_pos y1, if_pos y2]⟩
        · exact ⟨1, Or.inr rfl, ⟨fun _ => ⟨y1, y2⟩, fun _ => rfl⟩, by rw [if_pos y1, if_neg y2]⟩
      · exact ⟨0, Or.inl rfl, ⟨fun z => absurd z (by decide), fun z => absurd z.1 y1⟩, by rw [if_neg y1]⟩
    rw [heq]
    by_cases hct : Cs t A ∧ Sok t
    · obtain ⟨hc, ht⟩ := hct
      obtain ⟨w', A1', c1, c2, c3, -⟩ := x111_k hc ht k hk
      rw [c1] at a1
      cases a1
      cases z : tkk k t with
      | none =>
        have hw := c3 z
        obtain ⟨v, A2, v1, v2, v3, -⟩ := ih t A1 b2' f (fun x hx => h1 x (List.mem_cons_of_mem _ hx)) (by omega) hb2 (by simp at h3; omega)
        have b0 : b2' = 0 := by
          rcases hb2 with y | y
          · exact y
          · exact absurd (hb3.mp y).1 hw
        refine ⟨v, A2, v1, v2, fun _ => v3 b0, fun _ _ _ => ⟨fun t' y => ?_, fun _ => v3 b0⟩⟩
        rw [tkz, z] at y
        cases y
      | some t1 =>
        obtain ⟨d3, d4⟩ := c2 t1 z
        obtain ⟨v, A2, v1, v2, v3, v4⟩ := ih t1 A1 b2' f (fun x hx => h1 x (List.mem_cons_of_mem _ hx)) (by omega) hb2 (by simp at h3; omega)
        refine ⟨v, A2, v1, v2, fun y => v3 ?_, fun _ _ y => ?_⟩
        · rcases hb2 with y' | y'
          · exact y'
          · exact absurd y (hb3.mp y').2
        · have := v4 d4 (tkk_ok z ht).1 (hb3.mpr ⟨d3, by rw [y]; decide⟩)
          rw [tkz, z, Option.bind_some]
          exact this
    · obtain ⟨v, A2, v1, v2, v3, -⟩ := ih t A1 b2' f (fun x hx => h1 x (List.mem_cons_of_mem _ hx)) (by omega) hb2 (by simp at h3; omega)
      refine ⟨v, A2, v1, v2, fun y => v3 ?_, fun y1 y2 => absurd ⟨y1, y2⟩ hct⟩
      rcases hb2 with y' | y'
      · exact y'
      · exact absurd y (hb3.mp y').2
