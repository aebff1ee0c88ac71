/-! wordOf(): the number of the word that is the token -/
def wi : List (List Nat) → List Nat → Nat → Option Nat
  | [], _, _ => none
  | x :: r, s, n => if x = s then some n else wi r s (n + 1)
def wv (o : Option Nat) : Int32 := match o with
  | none => -1
  | some i => Int32.ofNat i
theorem getD_ext {l1 l2 : List Nat} (h : l1.length = l2.length) (h2 : ∀ j, j < l1.length → l1.getD j 0 = l2.getD j 0) : l1 = l2 := by
  apply List.ext_getElem h
  intro j h3 h4
  have := h2 j h3
  rw [List.getD_eq_getElem?_getD, List.getD_eq_getElem?_getD, List.getElem?_eq_getElem h3, List.getElem?_eq_getElem h4] at this
  exact this
theorem sg_len {T : Tp} {p e : Nat} : (sg T p e).length = e - p := by
  unfold sg
  simp
theorem sg_get {T : Tp} {p e j : Nat} (h : j < e - p) : (sg T p e).getD j 0 = T.2 (p + j) := by
  unfold sg
  rw [List.getD_eq_getElem?_getD, List.getElem?_map, List.getElem?_range h]
  rfl
section
variable {T : Tp} {I : St} {t p e : Nat}
theorem l196_15_n (ht : t = 3 ∨ t = 4) {w : Nat} (hw : w < (wlT t).length) {b2 : Int32} : ∀ n j, j ≤ ((wlT t).getD w []).length → ((wlT t).getD w []).length < j + n → l196_15 t b2 (Int32.ofNat (wof (wlT t) w)) n (Int32.ofNat j) I = some (Int32.ofNat ((wlT t).getD w []).length) := by
  obtain ⟨o1, o2, o3, o4⟩ := wl_ok t (by rcases ht with h | h <;> simp [h])
  obtain ⟨q1, q2, q3, q4⟩ := o2 w hw
  intro n
  induction n with
  | zero => intro j h1 h2; omega
  | succ n ih =>
    intro j h1 h2
    rw [l196_15, i32_a, if_pos ((i32_inb (by omega)).mpr (by omega)), i32_cl (by omega)]
    rcases Nat.lt_or_ge j ((wlT t).getD w []).length with z | z
    · obtain ⟨a1, a2, a3⟩ := o1 w hw j z
      rw [a1, if_neg (fun x => a2 ((i32_e (x := 32) (b := 32) rfl (by omega) (by decide)).mp x)), i32_s]
      exact ih (j + 1) (by omega) (by omega)
    · obtain rfl : j = ((wlT t).getD w []).length := by omega
      rw [q1, if_pos rfl]
theorem l196_58_0 {b2 b3 b4 b6 : Int32} {n : Nat} : l196_58 t b2 b3 b4 (n + 1) 0 b6 I = some 0 := by
  rw [l196_58]
  split
  · rfl
  · rfl
theorem l196_58_n (ht : t = 3 ∨ t = 4) (h : TB T I) (hp : I 82 13 = Int32.ofNat p) (hpe : p ≤ e) (he : e ≤ T.1) {w : Nat} (hw : w < (wlT t).length) (hlen : ((wlT t).getD w []).length = e - p) {b2 : Int32} : ∀ n i, i ≤ e - p → e - p + 1 < i + n → ∃ r, l196_58 t b2 (Int32.ofNat (wof (wlT t) w)) (Int32.ofNat ((wlT t).getD w []).length) n 1 (Int32.ofNat i) I = some r ∧ ((r = 1 ∧ ∀ j, i ≤ j → j < e - p → ((wlT t).getD w []).getD j 0 = T.2 (p + j)) ∨ (r = 0 ∧ ¬ ∀ j, i ≤ j → j < e - p → ((wlT t).getD w []).getD j 0 = T.2 (p + j))) := by
  obtain ⟨o1, o2, o3, o4⟩ := wl_ok t (by rcases ht with h | h <;> simp [h])
  obtain ⟨q1, q2, q3, q4⟩ := o2 w hw
  have h2 := h.2.1
  intro n
  induction n with
  | zero => intro i h1 h2; omega
  | succ n ih =>
    intro i h1 h2
    rw [l196_58]
    rcases Nat.lt_or_ge i (e - p) with z | z
    · obtain ⟨a1, a2, a3⟩ := o1 w hw i (by omega)
      have hb := (h.2.2 (p + i) (by omega)).2
      have hc : cA T (p + i) = T.2 (p + i) := by unfold cA; rw [if_pos (by omega)]
      have hl : lkv (cA T (p + i)) = Int32.ofNat (T.2 (p + i)) := by rw [hc]; unfold lkv; rw [if_neg (by omega)]
      rw [if_neg (by rw [i32_le (by omega) (by omega)]; omega), if_neg (by decide), i32_a, if_pos ((i32_inb (by omega)).mpr (by omega)), hp, i32_a, x193_n h (by omega), Option.bind_some, i32_cl (by omega), a1, hl, i32_s]
      by_cases y : ((wlT t).getD w []).getD i 0 = T.2 (p + i)
      · rw [if_pos (by rw [y])]
        obtain ⟨r, r1, r2⟩ := ih (i + 1) (by omega) (by omega)
        refine ⟨r, r1, ?_⟩
        have : (∀ j, i + 1 ≤ j → j < e - p → ((wlT t).getD w []).getD j 0 = T.2 (p + j)) ↔ (∀ j, i ≤ j → j < e - p → ((wlT t).getD w []).getD j 0 = T.2 (p + j)) := by
          constructor
          · intro g j g1 g2
            rcases Nat.eq_or_lt_of_le g1 with g3 | g3
            · subst g3; exact y
            · exact g j g3 g2
          · intro g j g1 g2
            exact g j (by omega) g2
        rw [← this]
        exact r2
      · rw [if_neg (by rw [i32_eq (by omega) (by omega)]; exact y)]
        cases n with
        | zero => omega
        | succ n => exact ⟨0, l196_58_0, Or.inr ⟨rfl, fun g => y (g i (Nat.le_refl _) z)⟩⟩
    · rw [if_pos (by rw [i32_le (by omega) (by omega)]; omega)]
      exact ⟨1, rfl, Or.inl ⟨rfl, fun j g1 g2 => by omega⟩⟩
theorem l196_4_n (ht : t = 3 ∨ t = 4) (h : TB T I) (hp : I 82 13 = Int32.ofNat p) (ha : I 82 11 = Int32.ofNat e) (hpe : p ≤ e) (he : e ≤ T.1) : ∀ n w, w ≤ (wlT t).length → (wlT t).length < w + n → l196_4 t n (Int32.ofNat w) (Int32.ofNat (wof (wlT t) w)) I = some (match wi ((wlT t).drop w) (sg T p e) w with | none => .inl () | some i => .inr (Int32.ofNat i)) := by
  obtain ⟨o1, o2, o3, o4⟩ := wl_ok t (by rcases ht with h | h <;> simp [h])
  have h2 := h.2.1
  intro n
  induction n with
  | zero => intro w h1 h2; omega
  | succ n ih =>
    intro w h1 h2
    rw [l196_4]
    rcases Nat.lt_or_ge w (wlT t).length with z | z
    · obtain ⟨q1, q2, q3, q4⟩ := o2 w z
      have hd : (wlT t).drop w = (wlT t).getD w [] :: (wlT t).drop (w + 1) := by
        rw [List.drop_eq_getElem_cons z]
        congr 1
        rw [List.getD_eq_getElem?_getD, List.getElem?_eq_getElem z]
        rfl
      have hlt : ¬ tlen t ≤ Int32.ofNat (wof (wlT t) w) := by
        unfold tlen
        rw [i32_le (by omega) (by omega)]
        omega
      have hq : l196_15 t (Int32.ofNat w) (Int32.ofNat (wof (wlT t) w)) 100000 0 I = some (Int32.ofNat ((wlT t).getD w []).length) := l196_15_n ht z 100000 0 (by omega) (by omega)
      rw [if_neg hlt, hq, Option.bind_some, ha, hp, i32_sb hpe, hd, wi]
      have e1 : Int32.ofNat w + 1 = Int32.ofNat (w + 1) := i32_s
      have e2 : Int32.ofNat (wof (wlT t) w) + (Int32.ofNat ((wlT t).getD w []).length + 1) = Int32.ofNat (wof (wlT t) (w + 1)) := by
        rw [i32_s, i32_a, q2]
        rfl
      by_cases y : ((wlT t).getD w []).length = e - p
      · obtain ⟨r, r1, r2⟩ := l196_58_n ht h hp hpe he z y (b2 := Int32.ofNat w) 100000 0 (by omega) (by omega)
        have r1 : l196_58 t (Int32.ofNat w) (Int32.ofNat (wof (wlT t) w)) (Int32.ofNat ((wlT t).getD w []).length) 100000 1 0 I = some r := r1
        rw [if_pos (by rw [y]), Option.bind_some, r1, Option.bind_some]
        by_cases x : (wlT t).getD w [] = sg T p e
        · have g : ∀ j, 0 ≤ j → j < e - p → ((wlT t).getD w []).getD j 0 = T.2 (p + j) := by
            intro j _ g2
            rw [x, sg_get g2]
          rcases r2 with ⟨rfl, -⟩ | ⟨-, r3⟩
          · rw [if_neg (by decide), if_pos x]
          · exact absurd g r3
        · have g : ¬ ∀ j, 0 ≤ j → j < e - p → ((wlT t).getD w []).getD j 0 = T.2 (p + j) := by
            intro g
            apply x
            apply getD_ext
            · rw [sg_len, y]
            · intro j g2
              rw [g j (Nat.zero_le _) (by omega), sg_get (by omega)]
          rcases r2 with ⟨-, r3⟩ | ⟨rfl, -⟩
          · exact absurd r3 g
          · rw [if_pos rfl, if_neg x, e1, e2]
            exact ih (w + 1) (by omega) (by omega)
      · rw [if_neg (by rw [i32_eq (by omega) (by omega)]; exact y), Option.bind_some, l196_58_0, Option.bind_some, if_pos rfl, e1, e2, if_neg (by intro x; apply y; rw [x, sg_len])]
        exact ih (w + 1) (by omega) (by omega)
    · obtain rfl : w = (wlT t).length := by omega
      rw [if_pos (by unfold tlen; rw [o3]; exact Int32.le_refl _), List.drop_length]
      rfl
theorem x196_n (ht : t = 3 ∨ t = 4) (h : TB T I) (hp : I 82 13 = Int32.ofNat p) (ha : I 82 11 = Int32.ofNat e) (hpe : p ≤ e) (he : e ≤ T.1) : x196 t I = some (wv (wi (wlT t) (sg T p e) 0)) := by
  have hn : (wlT t).length < 100 := by rcases ht with rfl | rfl <;> decide
  have h0 := l196_4_n ht h hp ha hpe he 100000 0 (Nat.zero_le _) (by omega)
  unfold x196
  have e0 : Int32.ofNat (wof (wlT t) 0) = 0 := rfl
  rw [e0] at h0
  have e1 : (0 : Int32) = Int32.ofNat 0 := rfl
  conv => lhs; rw [show l196_4 t 100000 0 0 I = _ from h0]
  rw [Option.bind_some, List.drop_zero]
  cases wi (wlT t) (sg T p e) 0 with
  | none => rfl
  | some i => rfl
end
