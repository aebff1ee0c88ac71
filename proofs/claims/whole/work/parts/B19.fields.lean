/-! FIELDS, on both sides -/
theorem isb_tr {f : Nat → Int32} {p : Nat → Nat} {n : Nat} (hp : PAR f p n) (hn : n ≤ 19) : ∀ a b d, a < n → b < n → isb p a b = 1 → isb p b d = 1 → isb p a d = 1 := by
  intro a
  induction a using Nat.strongRecOn with
  | ind a ih =>
    intro b d ha hb h1 h2
    rw [isb_s hp hn ha] at h1
    by_cases y : a = b
    · subst y; exact h2
    · rw [if_neg y] at h1
      by_cases z : a = 0
      · rw [if_pos z] at h1; exact absurd h1 (by decide)
      · rw [if_neg z] at h1
        have := (hp.2 a (by omega) ha).2
        have h3 := ih (p a) this b d (by omega) hb h1 h2
        rw [isb_s hp hn ha]
        by_cases w : a = d
        · rw [if_pos w]
        · rw [if_neg w, if_neg z]; exact h3
section
variable {P Z n k s : Nat} {E F G p oa os hk : Nat → Nat} {A0 B0 A B A' B' : St} {VV : Nat → Nat → Option VEn} {NO U EV dp m i c x o : Nat} {fr : Nat → FrT} {t : Nat × Nat} {l : Nat × Nat × Nat}
theorem E_mo (hL : LPc P Z n s k E p A B) : (∀ a b, a ≤ b → b ≤ n → E a ≤ E b) ∧ E 0 = 0 ∧ E n ≤ 96 := by
  obtain ⟨-, -, n7, n19, -, -, e7, pa, -, hE, -⟩ := hL
  have hm : ∀ a b, a ≤ b → b ≤ n → E a ≤ E b := fun a b h1 h2 => mono_le (F := E) (k := n) (fun a ha => (hE a ha).1) a b h1 h2
  have h0 := hm 0 7 (by omega) (by omega)
  have h8 : ∀ d, 7 + d ≤ n → E (7 + d) ≤ 8 * d := by
    intro d
    induction d with
    | zero => intro _; show E 7 ≤ 0; omega
    | succ d ih =>
      intro y
      have h1 := ih (by omega)
      have h2 := (hE (7 + d) (by omega)).2.1
      have e : 7 + d + 1 = 7 + (d + 1) := by omega
      rw [e] at h2
      omega
  refine ⟨hm, by omega, ?_⟩
  have := h8 (n - 7) (by omega)
  rw [show 7 + (n - 7) = n by omega] at this
  omega
/-- whose field it is -/
theorem E_own (hL : LPc P Z n s k E p A B) {f cc : Nat} (hf : f < E n) (hc : cc < n) : B (Z + 9) f = Int32.ofNat cc ↔ E cc ≤ f ∧ f < E (cc + 1) := by
  obtain ⟨hm, h0, -⟩ := E_mo hL
  obtain ⟨c', h1, h2, h3⟩ := G_own h0 f hf
  have hE := hL.2.2.2.2.2.2.2.2.2.1
  have h4 := (hE c' h1).2.2.2.2.2.2 f h2 h3
  have n19 := hL.2.2.2.1
  constructor
  · intro h
    rw [h4, i32_eq (by omega) (by omega)] at h
    subst h
    exact ⟨h2, h3⟩
  · intro h
    exact (hE cc hc).2.2.2.2.2.2 f h.1 h.2
theorem l252_i (hL : LPc P Z n s k E p A B) {cc : Nat} (hc : cc < n) : ∀ d j f b2, j + d = E n → d < f → l252_12 Z (Int32.ofNat cc) f (Int32.ofNat b2) (Int32.ofNat j) B = some (Int32.ofNat (b2 + (E (cc + 1) - max j (E cc)))) := by
  obtain ⟨hm, h0, h96⟩ := E_mo hL
  have hEn := hL.2.2.2.2.2.2.2.2.2.2.1
  have hcn := hm (cc + 1) n (by omega) (Nat.le_refl _)
  have hcc := hm cc (cc + 1) (by omega) (by omega)
  intro d
  induction d with
  | zero =>
    intro j f b2 h1 h2
    obtain ⟨f, rfl⟩ : ∃ g, f = g + 1 := ⟨f - 1, by omega⟩
    rw [l252_12, hEn, if_pos ((i32_le (by omega) (by omega)).mpr (by omega)), show b2 + (E (cc + 1) - max j (E cc)) = b2 by omega]
  | succ d ih =>
    intro j f b2 h1 h2
    obtain ⟨f, rfl⟩ : ∃ g, f = g + 1 := ⟨f - 1, by omega⟩
    have hi : inb (Int32.ofNat j) 100 := (i32_inb (by omega)).mpr (by omega)
    have hcl : (Int32.ofNat j).toNatClampNeg = j := i32_cl (by omega)
    have ho := E_own hL (f := j) (by omega) hc
    rw [l252_12, hEn, if_neg (by rw [i32_le (by omega) (by omega)]; omega), if_pos hi, hcl]
    by_cases y : E cc ≤ j ∧ j < E (cc + 1)
    · rw [if_pos (ho.mpr y), i32_s, i32_s, ih (j + 1) f (b2 + 1) (by omega) (by omega), show b2 + 1 + (E (cc + 1) - max (j + 1) (E cc)) = b2 + (E (cc + 1) - max j (E cc)) by omega]
    · rw [if_neg (fun z => y (ho.mp z)), i32_s, show Int32.ofNat b2 + 0 = Int32.ofNat b2 from i32_a b2 0, ih (j + 1) f b2 (by omega) (by omega), show b2 + (E (cc + 1) - max (j + 1) (E cc)) = b2 + (E (cc + 1) - max j (E cc)) by omega]
theorem l252_o (hL : LPc P Z n s k E p A B) : ∀ cc f b2, cc < n → cc + 2 ≤ f → b2 + 8 * (cc + 1) ≤ 1000 → l252_4 Z f (Int32.ofNat b2) (Int32.ofNat cc) B = some (Int32.ofNat (b2 + alf p E 19 cc)) := by
  obtain ⟨hm, h0, h96⟩ := E_mo hL
  have n19 := hL.2.2.2.1
  have pb := hL.2.2.2.2.2.2.2.2.1
  have hE := hL.2.2.2.2.2.2.2.2.2.1
  intro cc
  induction cc using Nat.strongRecOn with
  | ind cc ih =>
    intro f b2 h1 h2 h3
    obtain ⟨f, rfl⟩ : ∃ g, f = g + 1 := ⟨f - 1, by omega⟩
    have h8 := (hE cc h1).2.1
    have e := l252_i hL h1 (E n) 0 100000 b2 (by omega) (by omega)
    rw [Nat.zero_max, show Int32.ofNat 0 = (0 : Int32) from rfl] at e
    rw [l252_4, if_neg (i32_m1 (by omega)), e, Option.bind_some, if_pos ((i32_inb (by omega)).mpr (by omega)), i32_cl (by omega)]
    by_cases z : cc = 0
    · subst z
      obtain ⟨f, rfl⟩ : ∃ g, f = g + 1 := ⟨f - 1, by omega⟩
      rw [pb.1, l252_4, if_pos rfl, show (19 : Nat) = 18 + 1 from rfl, alf, if_pos rfl]
      congr 2
      omega
    · obtain ⟨q1, q2⟩ := pb.2 cc (by omega) h1
      rw [q1, ih (p cc) q2 f _ (by omega) (by omega) (by omega), alf_s (fun c z1 z2 => (pb.2 c z1 z2).2) n19 h1 (by omega)]
      congr 2
      omega
theorem x252_n (hL : LPc P Z n s k E p A B) {cc : Nat} (hc : cc < n) : x252 Z B (Int32.ofNat cc) = some (Int32.ofNat (alf p E 19 cc)) := by
  have n19 := hL.2.2.2.1
  unfold x252
  rw [show (0 : Int32) = Int32.ofNat 0 from rfl, l252_o hL cc 100000 0 hc (by omega) (by omega), Option.bind_some, Nat.zero_add]
theorem l255_n (hL : LPc P Z n s k E p A B) {cc r : Nat} (hc : cc < n) (hr : E cc ≤ r ∧ r < E (cc + 1)) : ∀ d j f b3, j + d = r → d < f → l255_44 Z (Int32.ofNat r) (Int32.ofNat cc) f (Int32.ofNat b3) (Int32.ofNat j) B = some (Int32.ofNat (b3 + (r - max j (E cc)))) := by
  obtain ⟨hm, h0, h96⟩ := E_mo hL
  have hcn := hm (cc + 1) n (by omega) (Nat.le_refl _)
  intro d
  induction d with
  | zero =>
    intro j f b2 h1 h2
    obtain ⟨f, rfl⟩ : ∃ g, f = g + 1 := ⟨f - 1, by omega⟩
    rw [l255_44, if_pos ((i32_le (by omega) (by omega)).mpr (by omega)), show b2 + (r - max j (E cc)) = b2 by omega]
  | succ d ih =>
    intro j f b2 h1 h2
    obtain ⟨f, rfl⟩ : ∃ g, f = g + 1 := ⟨f - 1, by omega⟩
    have hi : inb (Int32.ofNat j) 100 := (i32_inb (by omega)).mpr (by omega)
    have hcl : (Int32.ofNat j).toNatClampNeg = j := i32_cl (by omega)
    have ho := E_own hL (f := j) (by omega) hc
    rw [l255_44, if_neg (by rw [i32_le (by omega) (by omega)]; omega), if_pos hi, hcl]
    by_cases y : E cc ≤ j ∧ j < E (cc + 1)
    · rw [if_pos (ho.mpr y), i32_s, i32_s, ih (j + 1) f (b2 + 1) (by omega) (by omega), show b2 + 1 + (r - max (j + 1) (E cc)) = b2 + (r - max j (E cc)) by omega]
    · rw [if_neg (fun z => y (ho.mp z)), i32_s, show Int32.ofNat b2 + 0 = Int32.ofNat b2 from i32_a b2 0, ih (j + 1) f b2 (by omega) (by omega), show b2 + (r - max (j + 1) (E cc)) = b2 + (r - max j (E cc)) by omega]
theorem x255_n (hL : LPc P Z n s k E p A B) {r d : Nat} (hr : r < E n) (hd : d < n) (hd7 : 7 ≤ d) (h9 : B (Z + 9) r = Int32.ofNat d) : x255 Z B (Int32.ofNat r) = some (Int32.ofNat (alf p E 19 (p d) + (r - E d))) := by
  obtain ⟨hm, h0, h96⟩ := E_mo hL
  have n19 := hL.2.2.2.1
  have pb := hL.2.2.2.2.2.2.2.2.1
  have hE := hL.2.2.2.2.2.2.2.2.2.1
  obtain ⟨q1, q2⟩ := pb.2 d (by omega) hd
  have ha := alf_le (p := p) (E := E) (n := n) (fun c z1 z2 => (pb.2 c z1 z2).2) (fun c hc => (hE c hc).2.1) 19 (p d) (by omega)
  have ho := (E_own hL hr hd).mp h9
  have hi : inb (Int32.ofNat r) 100 := (i32_inb (by omega)).mpr (by omega)
  have hcl : (Int32.ofNat r).toNatClampNeg = r := i32_cl (by omega)
  have hi2 : inb (Int32.ofNat d) 19 := (i32_inb (by omega)).mpr (by omega)
  have hcl2 : (Int32.ofNat d).toNatClampNeg = d := i32_cl (by omega)
  unfold x255
  simp only [if_pos hi, hcl, h9, if_pos hi2, hcl2, q1]
  rw [if_neg (i32_m1 (by omega)), x252_n hL (by omega), Option.bind_some, Option.bind_some, show (0 : Int32) = Int32.ofNat 0 from rfl, l255_n hL hd ho r 0 100000 _ (by omega) (by omega), Option.bind_some, Nat.zero_max]
theorem fkd_d {B0 : St} (hp : ∀ c, 0 < c → c < n → p c < c) : ∀ c d e q, c < n → c < d → c < e → fkd B0 Z p E d c q = fkd B0 Z p E e c q := by
  intro c
  induction c using Nat.strongRecOn with
  | ind c ih =>
    intro d e q h1 h2 h3
    obtain ⟨d, rfl⟩ : ∃ g, d = g + 1 := ⟨d - 1, by omega⟩
    obtain ⟨e, rfl⟩ : ∃ g, e = g + 1 := ⟨e - 1, by omega⟩
    rw [fkd, fkd]
    by_cases z : c = 0
    · rw [if_pos z, if_pos z]
    · have := hp c (by omega) h1
      rw [if_neg z, if_neg z, ih (p c) this d e q (by omega) (by omega) (by omega)]
/-- a field of an object -/
theorem fkd_l (hL : LPc P Z n s k E p A B) {d r : Nat} (hd : d < n) (hd7 : 7 ≤ d) (hr : E d ≤ r ∧ r < E (d + 1)) : ∀ cc, cc < n → isb p cc d = 1 → alf p E 19 (p d) + (r - E d) < alf p E 19 cc ∧ fkd B0 Z p E 19 cc (alf p E 19 (p d) + (r - E d)) = (B0 (Z + 11) r).toNatClampNeg := by
  have n19 := hL.2.2.2.1
  have pa := hL.2.2.2.2.2.2.2.1
  have hp : ∀ c, 0 < c → c < n → p c < c := fun c z1 z2 => (pa.2 c z1 z2).2
  intro cc
  induction cc using Nat.strongRecOn with
  | ind cc ih =>
    intro hc h1
    rw [isb_s pa n19 hc] at h1
    by_cases y : cc = d
    · subst y
      rw [alf_s hp n19 hc (by omega)]
      refine ⟨by omega, ?_⟩
      show (if cc = 0 then 1 else if alf p E 19 (p cc) + (r - E cc) < alf p E 19 (p cc) then fkd B0 Z p E 18 (p cc) (alf p E 19 (p cc) + (r - E cc)) else (B0 (Z + 11) (E cc + (alf p E 19 (p cc) + (r - E cc) - alf p E 19 (p cc)))).toNatClampNeg) = _
      rw [if_neg (by omega), if_neg (by omega), Nat.add_sub_cancel_left, show E cc + (r - E cc) = r by omega]
    · rw [if_neg y] at h1
      by_cases z : cc = 0
      · rw [if_pos z] at h1; exact absurd h1 (by decide)
      · rw [if_neg z] at h1
        have hpc := hp cc (by omega) hc
        obtain ⟨i1, i2⟩ := ih (p cc) hpc (by omega) h1
        refine ⟨by rw [alf_s hp n19 hc (by omega)]; omega, ?_⟩
        rw [← i2]
        show (if cc = 0 then 1 else if alf p E 19 (p d) + (r - E d) < alf p E 19 (p cc) then fkd B0 Z p E 18 (p cc) (alf p E 19 (p d) + (r - E d)) else (B0 (Z + 11) (E cc + (alf p E 19 (p d) + (r - E d) - alf p E 19 (p cc)))).toNatClampNeg) = _
        rw [if_neg z, if_pos i1, fkd_d hp (p cc) 18 19 _ (by omega) (by omega) (by omega)]
/-- an OBJECT of the class that is told -/
theorem obf_l (hP : Hid (P = 3 ∨ P = 18)) (hL : LPc P Z n s k E p A B) {cc cl r : Nat} (hv : CV n cc (B 181 r)) (hr : r < 3000) (hcl : cl < n) (h0 : cl ≠ 0) (h49 : x149 A (Int32.ofNat r) = B 181 r) : x148 P A (Int32.ofNat r) (Int32.ofNat cl) = some (if isb p cc cl = 0 then 6 else 0) ∧ x254 Z B (Int32.ofNat (r + 1)) (Int32.ofNat cl) = some (if isb p cc cl = 0 then 0 else 1) ∧ (isb p cc cl ≠ 0 → isb p cc cl = 1 ∧ B 181 r = Int32.ofNat cc) := by
  have n19 := hL.2.2.2.1
  have hi : inb (Int32.ofNat r) 3001 := (i32_inb (by omega)).mpr (by omega)
  have hc : (Int32.ofNat r).toNatClampNeg = r := i32_cl (by omega)
  refine ⟨?_, ?_, fun h => ⟨isb_01.resolve_right h, ?_⟩⟩
  · unfold x148
    rw [if_neg (i32_m1 (by omega)), h49, x150_n hP hL hv hcl, Option.bind_some]
    split <;> rfl
  · unfold x254
    rw [i32_p, if_pos hi, hc, x246_n hL (by omega) hv hcl, Option.bind_some]
    obtain ⟨v1, v2⟩ := hv
    rcases v2 with y | ⟨y, z⟩
    · rw [y, if_neg (by rw [i32_l1 (x := 0) (b := 0) rfl (by omega) (by decide)]; omega)]
      split <;> rfl
    · have e : isb p cc cl = 0 := by rw [isb_s hL.2.2.2.2.2.2.2.1 n19 v1, if_neg (by omega), if_pos y]
      rw [e, if_pos rfl]
      rcases z with z | z
      · rw [z, if_pos (by decide)]; rfl
      · rw [z, if_pos (by decide)]; rfl
  · obtain ⟨v1, v2⟩ := hv
    rcases v2 with y | ⟨y, z⟩
    · exact y
    · exact absurd (by rw [isb_s hL.2.2.2.2.2.2.2.1 n19 v1, if_neg (by omega), if_pos y]) h
/-- a slot written -/
theorem GCo.hp {j : Nat} {v v' w : Int32} (h : GCo B0 Z n s p E oa os hk NO U EV A B) (hj : j < U) (hv : VR NO (hk j) v v') (hA : ∀ a b, (a ≠ 73 ∨ (b ≠ 2 * j ∧ b ≠ 2 * j + 1)) → ((a = 70 ∧ b = 3) ∨ a = 71 ∨ (a = 72 ∧ b = 3) ∨ a = 73 ∨ a = 75 ∨ (a = 76 ∧ b = 3) ∨ a = 77 ∨ (a = 68 ∧ b = 18) ∨ (a = 61 ∧ b = 0) ∨ a = 63 ∨ a = 65) → A' a b = A a b) (hB : ∀ a b, ((a ≠ 185 ∧ a ≠ 186) ∨ b ≠ j) → ((181 ≤ a ∧ a ≤ 192) ∨ a = 167 ∨ a = 168 ∨ (a = 82 ∧ (b = 6 ∨ b = 38 ∨ b = 39 ∨ b = 40 ∨ b = 41 ∨ b = 48))) → B' a b = B a b) (a1 : A' 73 (2 * j) = v) (a2 : A' 73 (2 * j + 1) = w) (b1 : B' 185 j = v') (b2 : B' 186 j = w) : GCo B0 Z n s p E oa os hk NO U EV A' B' := by
  obtain ⟨⟨h1, h2, h3, h4, h5, h6, h7, h8⟩, g, ⟨e1, e2, e3, e4, e5⟩, f1, f2⟩ := h
  refine ⟨⟨?_, ?_, ?_, ?_, ?_, h6, fun i hi => (h7 i hi).of (Nat.le_refl _) (fun b _ _ => hA _ _ (by omega) (by omega)) (fun a _ _ => hB _ _ (by omega) (by omega)), fun x hx => ?_⟩, fun x hx => ?_, ⟨?_, ?_, e3, ?_, fun e he => ?_⟩, ?_, fun x hx => ?_⟩
  · rw [hA _ _ (by omega) (by omega)]; exact h1
  · rw [hB _ _ (by omega) (by omega)]; exact h2
  · rw [hA _ _ (by omega) (by omega)]; exact h3
  · rw [hB _ _ (by omega) (by omega)]; exact h4
  · rw [hB _ _ (by omega) (by omega)]; exact h5
  · by_cases y : x = j
    · rw [y, a1, a2, b1, b2]; exact ⟨hv, rfl⟩
    · rw [hA _ _ (by omega) (by omega), hA _ _ (by omega) (by omega), hB 185 _ (by omega) (by omega), hB 186 _ (by omega) (by omega)]; exact h8 x hx
  · rw [hA _ _ (by omega) (by omega), hA _ _ (by omega) (by omega), hB _ _ (by omega) (by omega), hB _ _ (by omega) (by omega)]; exact g x hx
  · rw [hA _ _ (by omega) (by omega)]; exact e1
  · rw [hB _ _ (by omega) (by omega)]; exact e2
  · rw [hA _ _ (by omega) (by omega), hB _ _ (by omega) (by omega)]; exact e4
  · rw [hA _ _ (by omega) (by omega), hA _ _ (by omega) (by omega), hA _ _ (by omega) (by omega), hA _ _ (by omega) (by omega), hB _ _ (by omega) (by omega), hB _ _ (by omega) (by omega), hB _ _ (by omega) (by omega), hB _ _ (by omega) (by omega)]; exact e5 e he
  · rw [hA _ _ (by omega) (by omega), hB _ _ (by omega) (by omega)]; exact f1
  · rw [hA _ _ (by omega) (by omega), hA _ _ (by omega) (by omega), hB _ _ (by omega) (by omega), hB _ _ (by omega) (by omega)]; exact f2 x hx
end
