/-! CLASSES LINKED, on both sides -/
def cls (B : St) (Z : Nat) (y : Int32) (n : Nat) : Option Nat := fdn (fun c => decide (B (Z + 4) c = y)) n
def prn (B : St) (Z c : Nat) : Nat := if c < 7 then (if c ≤ 1 then 0 else 1) else if B (Z + 6) c = -1 then 0 else (cls B Z (B (Z + 6) c) c).getD 0
/-- what classes note -/
def SC (B : St) (Z n : Nat) : Nat → Nat → Prop := fun q k => ∃ c, c < n ∧ (PtS (7 ≤ c ∧ cls B Z (B (Z + 4) c) c ≠ none) (B (Z + 5) c) 1 q k ∨ PtS (7 ≤ c ∧ B (Z + 6) c ≠ -1 ∧ cls B Z (B (Z + 6) c) c = none) (B (Z + 7) c) 2 q k)
def NmC (L M : List (List Nat)) (Z : Nat) (B I : St) (c : Nat) : Prop := ∀ (i j : Nat) (s : List Nat), L[i]? = some s → M[j]? = some s → I 38 (6 * i) = oI (cls B Z (Int32.ofNat j) c)
def LC (L M : List (List Nat)) (P Z : Nat) (B A : St) (c : Nat) (I : St) : Prop := (∀ a b, a ≠ 57 → (a ≠ P + 2 ∨ b % 6 ≠ 0) → (a ≠ 38 ∨ b % 6 ≠ 0) → I a b = A a b) ∧ NmC L M Z B I c ∧ (∀ x, x < 19 → I (P + 2) (6 * x) = if x < c ∧ 7 ≤ x then Int32.ofNat (prn B Z x) else A (P + 2) (6 * x)) ∧ NoC (SC B Z c) I
theorem cls_s {B : St} {Z c : Nat} {y : Int32} : cls B Z y (c + 1) = match cls B Z y c with | some i => some i | none => if B (Z + 4) c = y then some c else none := by
  unfold cls
  rw [fdn]
  cases fdn (fun c => decide (B (Z + 4) c = y)) c with
  | some i => rfl
  | none =>
    dsimp only
    by_cases z : B (Z + 4) c = y
    · rw [if_pos (by simpa using z), if_pos z]
    · rw [if_neg (by simpa using z), if_neg z]
theorem cls_lt {B : St} {Z c i : Nat} {y : Int32} (h : cls B Z y c = some i) : i < c := fdn_lt h
theorem cls_m1 {B : St} {Z c : Nat} {y : Int32} (hc : c ≤ 19) : oI (cls B Z y c) = -1 ↔ cls B Z y c = none := oI_m1 (fun i h => by have := cls_lt h; omega)
theorem SC_s {B : St} {Z c : Nat} : ∀ q k, UnS (UnS (SC B Z c) (PtS (7 ≤ c ∧ B (Z + 6) c ≠ -1 ∧ cls B Z (B (Z + 6) c) c = none) (B (Z + 7) c) 2)) (PtS (7 ≤ c ∧ cls B Z (B (Z + 4) c) c ≠ none) (B (Z + 5) c) 1) q k ↔ SC B Z (c + 1) q k := by
  intro q k
  unfold UnS SC
  constructor
  · rintro ((⟨x, h1, h2⟩ | h) | h)
    · exact ⟨x, by omega, h2⟩
    · exact ⟨c, by omega, Or.inr h⟩
    · exact ⟨c, by omega, Or.inl h⟩
  · rintro ⟨x, h1, h2⟩
    rcases Nat.lt_or_ge x c with z | z
    · exact Or.inl (Or.inl ⟨x, z, h2⟩)
    · obtain rfl : x = c := by omega
      rcases h2 with h2 | h2
      · exact Or.inr h2
      · exact Or.inl (Or.inr h2)
section
variable {L M : List (List Nat)} {P Z c n k : Nat} {E : Nat → Nat} {A B I : St}
theorem lk_a (hP : Hid (P = 3 ∨ P = 18)) (hP2 : 3 ≤ P ∧ P ≤ 18) (bL : L.length ≤ 1460) (bM : M.length ≤ 2000) (h : LC L M P Z B A c I) (hc : c < 19) (h1 : C1 L M P Z c A B) : ∃ J, (if Int32.ofNat c < 7 then some I else if (tget I 44 (Int32.ofNat c) 1) = (-1) then some I else if (tget I 37 (tget I 44 (Int32.ofNat c) 1) 0) = (-1) then (x83 I (tget I 44 (Int32.ofNat c) 2) 2).bind fun q1 => some q1 else some (tset I (P + 1) (Int32.ofNat c) 0 (tget I 37 (tget I 44 (Int32.ofNat c) 1) 0))) = some J ∧ (∀ a b, a ≠ 57 → (a ≠ P + 2 ∨ b ≠ 6 * c) → J a b = I a b) ∧ J (P + 2) (6 * c) = (if 7 ≤ c then Int32.ofNat (prn B Z c) else A (P + 2) (6 * c)) ∧ NoC (UnS (SC B Z c) (PtS (7 ≤ c ∧ B (Z + 6) c ≠ -1 ∧ cls B Z (B (Z + 6) c) c = none) (B (Z + 7) c) 2)) J := by
  obtain ⟨f1, f2, f3, f4⟩ := h
  obtain ⟨g1, g2, g3, g4⟩ := h1
  have p0 := f3 c hc
  rw [if_neg (by omega)] at p0
  by_cases z : c < 7
  · rw [if_pos ((i32_l1 (x := 7) (b := 7) rfl (by omega) (by decide)).mpr z)]
    refine ⟨I, rfl, fun _ _ _ _ => rfl, by rw [p0, if_neg (by omega)], f4.ext (fun q k => ?_)⟩
    unfold UnS PtS
    simp only [show ¬ 7 ≤ c by omega, false_and, or_false]
  · rw [if_neg (fun y => z ((i32_l1 (x := 7) (b := 7) rfl (by omega) (by decide)).mp y))]
    have z7 : 7 ≤ c := by omega
    obtain ⟨q1, q2, q3, q4⟩ := g4 z7
    have hpr : prn B Z c = if B (Z + 6) c = -1 then 0 else (cls B Z (B (Z + 6) c) c).getD 0 := by unfold prn; rw [if_neg z]
    simp (disch := omega) only [t44, f1]
    rcases q4 with ⟨e1, e2⟩ | ⟨e1, e2, e3⟩
    · rw [if_pos e1]
      refine ⟨I, rfl, fun _ _ _ _ => rfl, by rw [p0, if_pos z7, q3, hpr, if_pos e2]; rfl, f4.ext (fun q k => ?_)⟩
      unfold UnS PtS
      simp only [e2, ne_eq, not_true_eq_false, false_and, and_false, or_false]
    · obtain ⟨i, j, s, r1, r2, r3, r4⟩ := e1
      have hi := get_lt r3
      have hj := get_lt r4
      rw [r1, if_neg (i32_m1 (by omega))]
      have b1 : B (Z + 6) c ≠ -1 := by rw [r2]; exact i32_m1 (by omega)
      have b2 := f2 i j s r3 r4
      rw [← r2] at b2
      simp (disch := omega) only [t37, tP1 hP]
      rw [b2, e2, Option.bind_fun_some]
      cases w : cls B Z (B (Z + 6) c) c with
      | none =>
        rw [if_pos (show oI none = -1 from rfl)]
        obtain ⟨J, j1, j2, j3⟩ := x83_y f4 e3 (show (2 : Int32) = Int32.ofNat 2 from rfl) (by decide) (by decide)
        refine ⟨J, j1, fun a b y1 y2 => j3 a b y1, by rw [j3 _ _ (by omega), p0, q3, if_pos z7, hpr, if_neg b1, w]; rfl, j2.ext (fun q k => ?_)⟩
        unfold UnS PtS
        simp only [z7, b1, ne_eq, not_false_eq_true, true_and]
      | some x =>
        have hx := cls_lt w
        rw [if_neg (show ¬ oI (some x) = -1 from i32_m1 (by omega))]
        refine ⟨_, rfl, fun a b y1 y2 => up2_o (by omega), by rw [up2_s, if_pos z7, hpr, if_neg b1, w]; rfl, NoC.of (f4.ext (fun q k => ?_)) (up2_o (by omega)) (up2_o (by omega))⟩
        unfold UnS PtS
        simp only [reduceCtorEq, and_false, false_and, or_false]
theorem lk_b (hP : Hid (P = 3 ∨ P = 18)) (hP2 : 3 ≤ P ∧ P ≤ 18) (bL : L.length ≤ 1460) (nL : L.Nodup) (bM : M.length ≤ 2000) (nM : M.Nodup) (h : LC L M P Z B A c I) (hc : c < 19) (h1 : C1 L M P Z c A B) (h7 : ∀ x, x < 7 → B (Z + 4) x = Int32.ofNat x) : ∃ J, x82 P I (Int32.ofNat c) = some J ∧ LC L M P Z B A (c + 1) J := by
  obtain ⟨J, j1, j2, j3, j4⟩ := lk_a hP hP2 bL bM h hc h1
  obtain ⟨f1, f2, f3, f4⟩ := h
  obtain ⟨g1, g2, g3, g4⟩ := h1
  obtain ⟨i, j, s, r1, r2, r3, r4⟩ := g1
  have hi := get_lt r3
  have hj := get_lt r4
  have nm : J 38 (6 * i) = oI (cls B Z (B (Z + 4) c) c) := by
    rw [j2 _ _ (by omega) (by omega), f2 i j s r3 r4, r2]
  have hpar : ∀ x, x < 19 → J (P + 2) (6 * x) = if x < c + 1 ∧ 7 ≤ x then Int32.ofNat (prn B Z x) else A (P + 2) (6 * x) := fun x hx => by
    rcases Nat.lt_trichotomy x c with y | y | y
    · rw [j2 _ _ (by omega) (by omega), f3 x hx]
      by_cases y7 : 7 ≤ x
      · rw [if_pos ⟨y, y7⟩, if_pos ⟨by omega, y7⟩]
      · rw [if_neg (by omega), if_neg (by omega)]
    · subst y
      rw [j3]
      by_cases y7 : 7 ≤ x
      · rw [if_pos y7, if_pos ⟨by omega, y7⟩]
      · rw [if_neg y7, if_neg (by omega)]
    · rw [j2 _ _ (by omega) (by omega), f3 x hx, if_neg (by omega), if_neg (by omega)]
  unfold x82
  rw [j1, Option.bind_some]
  simp (disch := omega) only [tP1 hP, t44, f1]
  rw [r1]
  simp (disch := omega) only [t37, Option.bind_fun_some]
  rw [nm]
  cases w : cls B Z (B (Z + 4) c) c with
  | none =>
    rw [if_pos (show oI none = -1 from rfl)]
    refine ⟨_, rfl, fun a b y1 y2 y3 => by rw [up2_o (by omega), j2 a b y1 (by omega), f1 a b y1 y2 y3], fun i' j' s' y1 y2 => ?_, fun x hx => by rw [up2_o (by omega)]; exact hpar x hx, NoC.of (j4.ext (fun q k => ?_)) (up2_o (by omega)) (up2_o (by omega))⟩
    · rw [cls_s]
      have hj' := get_lt y2
      by_cases e : i' = i
      · subst e
        rw [r3] at y1
        cases y1
        obtain rfl := get_inj nM r4 y2
        rw [r2] at w
        rw [up2_s, w]
        dsimp only
        rw [if_pos r2]
        rfl
      · rw [up2_o (by omega), j2 _ _ (by omega) (by omega), f2 i' j' s' y1 y2]
        split
        · rename_i e1; rw [e1]
        · rename_i e1
          rw [e1, if_neg]
          intro e2
          rw [r2, i32_eq (by omega) (by omega)] at e2
          subst e2
          rw [r4] at y2
          cases y2
          exact e (get_inj nL y1 r3)
    · rw [← SC_s]
      unfold UnS
      unfold PtS
      rw [w]
      simp only [ne_eq, not_true_eq_false, and_false, false_and, or_false]
  | some x =>
    have hx := cls_lt w
    have c7 : 7 ≤ c := by
      rcases Nat.lt_or_ge c 7 with y | y
      · exfalso
        have e := (fdn_some w).2.1
        have e := of_decide_eq_true e
        rw [h7 x (by omega), h7 c y, i32_eq (by omega) (by omega)] at e
        omega
      · exact y
    obtain ⟨q1, q2, q3, q4⟩ := g4 c7
    rw [if_neg (show ¬ oI (some x) = -1 from i32_m1 (by omega)), j2 _ _ (by omega) (by omega), f1 _ _ (by omega) (by omega) (by omega), q1]
    obtain ⟨J', k1, k2, k3⟩ := x83_y j4 q2 (show (1 : Int32) = Int32.ofNat 1 from rfl) (by decide) (by decide)
    refine ⟨J', k1, fun a b y1 y2 y3 => by rw [k3 a b y1, j2 a b y1 (by omega), f1 a b y1 y2 y3], fun i' j' s' y1 y2 => ?_, fun x hx => by rw [k3 _ _ (by omega)]; exact hpar x hx, k2.ext (fun q k => ?_)⟩
    · rw [k3 _ _ (by omega), j2 _ _ (by omega) (by omega), f2 i' j' s' y1 y2, cls_s]
      split
      · rename_i e1; rw [e1]
      · rename_i e1
        rw [e1, if_neg]
        intro e2
        rw [e2, e1] at w
        cases w
    · rw [← SC_s]
      unfold UnS
      rw [w]
      unfold PtS
      simp only [c7, ne_eq, reduceCtorEq, not_false_eq_true, true_and]
theorem lk_c (hP : Hid (P = 3 ∨ P = 18)) (hP2 : 3 ≤ P ∧ P ≤ 18) (bL : L.length ≤ 1460) (nL : L.Nodup) (bM : M.length ≤ 2000) (nM : M.Nodup) (hn : n ≤ 19) (hn0 : A (P + 1) 3 = Int32.ofNat n) (hC : ∀ c, c < n → C1 L M P Z c A B) (h7n : 7 ≤ n) : ∀ d c f (I : St), c + d = n → d < f → LC L M P Z B A c I → ∃ J, l81_17 P f (Int32.ofNat c) I = some J ∧ LC L M P Z B A n J := by
  have h7 : ∀ x, x < 7 → B (Z + 4) x = Int32.ofNat x := fun x hx => ((hC x (by omega)).2.2.1 hx).2.1
  intro d
  induction d with
  | zero =>
    intro c f I h1 h2 h
    obtain ⟨f, rfl⟩ : ∃ g, f = g + 1 := ⟨f - 1, by omega⟩
    obtain rfl : c = n := by omega
    refine ⟨I, ?_, h⟩
    rw [l81_17, h.1 _ _ (by omega) (by omega) (by omega), hn0, if_pos (Int32.le_refl _)]
  | succ d ih =>
    intro c f I h1 h2 h
    obtain ⟨f, rfl⟩ : ∃ g, f = g + 1 := ⟨f - 1, by omega⟩
    obtain ⟨J, j1, j2⟩ := lk_b hP hP2 bL nL bM nM h (by omega) (hC c (by omega)) h7
    obtain ⟨J', k1, k2⟩ := ih (c + 1) f J (by omega) (by omega) j2
    refine ⟨J', ?_, k2⟩
    rw [l81_17, h.1 _ _ (by omega) (by omega) (by omega), hn0, if_neg (by rw [i32_le (by omega) (by omega)]; omega), j1, Option.bind_some, i32_s]
    exact k1
/-- the reference's classes -/
def LR (Z n : Nat) (B : St) (c : Nat) (I : St) : Prop := (∀ a b, (a ≠ 82 ∨ (b ≠ 5 ∧ b ≠ 22)) → (a ≠ Z + 8 ∨ b < 7) → I a b = B a b) ∧ (∀ x, 7 ≤ x → x < c → I (Z + 8) x = Int32.ofNat (prn B Z x)) ∧ NoR (SC B Z c) I
theorem lr_b (hZ2 : 85 ≤ Z) (h : LR Z n B c I) (hc : c < 19) (c7 : 7 ≤ c) (h1 : C1 L M P Z c A B) (bM : M.length ≤ 2000) {f : Nat} : ∃ J, LR Z n B (c + 1) J ∧ (I Z 5 = Int32.ofNat n → c < n → n ≤ 19 → l215_3 Z (f + 1) (Int32.ofNat c) I = l215_3 Z f (Int32.ofNat (c + 1)) J) := by
  obtain ⟨f1, f2, f3⟩ := h
  obtain ⟨g1, g2, g3, g4⟩ := h1
  obtain ⟨q1, q2, q3, q4⟩ := g4 c7
  have hin : inb (Int32.ofNat c) 19 := (i32_inb (by omega)).mpr (by omega)
  have hcl : (Int32.ofNat c).toNatClampNeg = c := i32_cl (by omega)
  have hcls : ∀ (K : St) (y : Int32), (∀ b, K (Z + 4) b = B (Z + 4) b) → x216 Z K y (Int32.ofNat c) = some (oI (cls B Z y c)) := fun K y hK => by
    rw [x216_f (by omega)]
    unfold cls
    simp only [hK]
  obtain ⟨J1, a1, a2, a3⟩ := x217_c (c := cls B Z (B (Z + 4) c) c ≠ none) (x := B (Z + 5) c) (v := 1) (k := 1) f3 (fun _ => q2) rfl (by decide) (by decide)
  have hpn : B (Z + 6) c ≠ -1 → Plc (B (Z + 7) c) := fun z => by
    rcases q4 with ⟨e1, e2⟩ | ⟨e1, e2, e3⟩
    · exact absurd e2 z
    · exact e3
  obtain ⟨J2, b1, b2, b3⟩ := x217_c (c := B (Z + 6) c ≠ -1 ∧ cls B Z (B (Z + 6) c) c = none) (x := B (Z + 7) c) (v := 2) (k := 2) a2 (fun z => hpn z.1) rfl (by decide) (by decide)
  have hpr : prn B Z c = if B (Z + 6) c = -1 then 0 else (cls B Z (B (Z + 6) c) c).getD 0 := by unfold prn; rw [if_neg (by omega)]
  refine ⟨up2 J2 (Z + 8) c (Int32.ofNat (prn B Z c)), ⟨fun a b y1 y2 => ?_, fun x y1 y2 => ?_, NoR.of (b2.ext (fun q k => ?_)) (up2_o (by omega)) (up2_o (by omega))⟩, fun h5 hcn hn19 => ?_⟩
  · rw [up2_o (by omega), b3 a b y1, a3 a b y1, f1 a b y1 y2]
  · rcases Nat.lt_or_ge x c with y | y
    · rw [up2_o (by omega), b3 _ _ (by omega), a3 _ _ (by omega), f2 x y1 y]
    · obtain rfl : x = c := by omega
      rw [up2_s]
  · rw [← SC_s]
    unfold UnS PtS
    simp only [c7, true_and]
    constructor
    · rintro ((z | z) | z)
      · exact Or.inl (Or.inl z)
      · exact Or.inr z
      · exact Or.inl (Or.inr z)
    · rintro ((z | z) | z)
      · exact Or.inl (Or.inl z)
      · exact Or.inr z
      · exact Or.inl (Or.inr z)
  · rw [l215_3, h5, if_neg (by rw [i32_le (by omega) (by omega)]; omega)]
    simp only [if_pos hin, hcl, Option.bind_fun_some, i32_s]
    rw [f1 (Z + 4) c (by omega) (by omega), f1 (Z + 5) c (by omega) (by omega), hcls I _ (fun b => f1 _ _ (by omega) (by omega)), Option.bind_some]
    have e1 : (if oI (cls B Z (B (Z + 4) c) c) = -1 then some I else x217 I 1 (B (Z + 5) c)) = some J1 := by
      rw [← a1]
      by_cases w : cls B Z (B (Z + 4) c) c = none
      · rw [if_pos ((cls_m1 (by omega)).mpr w), if_neg (fun z => z w)]
      · rw [if_neg (fun z => w ((cls_m1 (by omega)).mp z)), if_pos w]
    rw [e1, Option.bind_some, a3 (Z + 6) c (by omega), f1 (Z + 6) c (by omega) (by omega), a3 (Z + 7) c (by omega), f1 (Z + 7) c (by omega) (by omega), hcls J1 _ (fun b => by rw [a3 _ _ (by omega), f1 _ _ (by omega) (by omega)])]
    by_cases y : B (Z + 6) c = -1
    · rw [if_pos y, Option.bind_some, if_neg (show ¬ (0 : Int32) = -1 by decide), Option.bind_some, if_neg (show ¬ (0 : Int32) = -1 by decide), hpr, if_pos y]
      rw [if_neg (fun z => z.1 y)] at b1
      cases b1
      rfl
    · rw [if_neg y, Option.bind_some]
      cases w : cls B Z (B (Z + 6) c) c with
      | none =>
        rw [if_pos ⟨y, w⟩] at b1
        rw [if_pos (show oI none = -1 from rfl), b1, Option.bind_some, if_pos (show oI none = -1 from rfl), hpr, if_neg y, w]
        rfl
      | some x =>
        have hx := cls_lt w
        rw [if_neg (fun z => by rw [w] at z; cases z.2)] at b1
        cases b1
        rw [if_neg (show ¬ oI (some x) = -1 from i32_m1 (by omega)), Option.bind_some, if_neg (show ¬ oI (some x) = -1 from i32_m1 (by omega)), hpr, if_neg y, w]
        rfl
theorem lr_c (hZ2 : 85 ≤ Z) (bM : M.length ≤ 2000) (hn : n ≤ 19) (hn0 : B Z 5 = Int32.ofNat n) (hC : ∀ c, c < n → C1 L M P Z c A B) : ∀ d c f (I : St), c + d = n → d < f → 7 ≤ c → LR Z n B c I → ∃ J, l215_3 Z f (Int32.ofNat c) I = some J ∧ LR Z n B n J := by
  intro d
  induction d with
  | zero =>
    intro c f I h1 h2 h7 h
    obtain ⟨f, rfl⟩ : ∃ g, f = g + 1 := ⟨f - 1, by omega⟩
    obtain rfl : c = n := by omega
    refine ⟨I, ?_, h⟩
    rw [l215_3, h.1 _ _ (by omega) (by omega), hn0, if_pos (Int32.le_refl _)]
  | succ d ih =>
    intro c f I h1 h2 h7 h
    obtain ⟨f, rfl⟩ : ∃ g, f = g + 1 := ⟨f - 1, by omega⟩
    have h5 : I Z 5 = Int32.ofNat n := by rw [h.1 _ _ (by omega) (by omega)]; exact hn0
    obtain ⟨J, j1, j2⟩ := lr_b (f := f) hZ2 h (by omega) h7 (hC c (by omega)) bM
    obtain ⟨J', k1, k2⟩ := ih (c + 1) f J (by omega) (by omega) (by omega) j1
    exact ⟨J', by rw [j2 h5 (by omega) hn]; exact k1, k2⟩
end
