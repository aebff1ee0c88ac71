/-! Names.reset: all words -/
def wlA : List (List Nat) := wl3 ++ wl4 ++ wl2
def xs0 : List Nat := wlA.flatMap fun w => w ++ [32]
def stp (q : List (List Nat) × List Nat) (c : Nat) : List (List Nat) × List Nat := if c = 32 then ((if q.2 ∈ q.1 then q.1 else q.1 ++ [q.2]), []) else (q.1, q.2 ++ [c])
def stk (k : Nat) : List (List Nat) × List Nat := (xs0.take k).foldl stp ([], [])
theorem xs0_len : xs0.length = 405 := by decide +kernel
theorem xs0_ok : ∀ k, k < 405 → (xTL.getD 0 []).getD k 0 = Int32.ofNat (xs0.getD k 0) ∧ xs0.getD k 0 < 256 := by decide +kernel
theorem stk_end : stk 405 = (wlA, []) := by decide +kernel
theorem stk_s {k : Nat} (h : k < 405) : stk (k + 1) = stp (stk k) (xs0.getD k 0) := by
  unfold stk
  have hk : k < xs0.length := by rw [xs0_len]; exact h
  rw [List.take_succ_eq_append_getElem hk, List.foldl_append, List.getD_eq_getElem?_getD, List.getElem?_eq_getElem hk]
  rfl
theorem stk_b : ∀ k, k ≤ 405 → (stk k).1.length ≤ k := by
  intro k
  induction k with
  | zero => intro _; exact Nat.le_refl _
  | succ k ih =>
    intro h
    have := ih (by omega)
    rw [stk_s (by omega)]
    unfold stp
    split
    · dsimp only
      split
      · omega
      · rw [List.length_append]
        have : ([(stk k).2] : List (List Nat)).length = 1 := rfl
        omega
    · dsimp only
      omega
theorem l26_30_n : ∀ n k u J, k ≤ 405 → 405 < k + n → NmP (stk k).1 u (stk k).2 J → u + (stk k).2.length ≤ k → ∃ J' u', l26_30 n (Int32.ofNat k) J = some J' ∧ NmP wlA u' [] J' ∧ u' ≤ 405 := by
  intro n
  induction n with
  | zero => intro k u J g1 g2; omega
  | succ n ih =>
    intro k u J g1 g2 g3 g4
    rw [l26_30]
    rcases Nat.lt_or_ge k 405 with z | z
    · have e405 : ¬ (405 : Int32) ≤ Int32.ofNat k := by
        show ¬ Int32.ofNat 405 ≤ Int32.ofNat k
        rw [i32_le (by omega) (by omega)]
        omega
      obtain ⟨c1, c2⟩ := xs0_ok k z
      have hb := stk_b k (by omega)
      have hin : inb (Int32.ofNat k) 405 := (i32_inb (by omega)).mpr z
      rw [if_neg e405, if_pos hin, if_pos hin, i32_cl (by omega), c1]
      by_cases y : xs0.getD k 0 = 32
      · rw [if_pos (by rw [y]; rfl)]
        obtain ⟨r, K, q1, q2⟩ := x35_n g3 (by omega)
        rw [q1, Option.bind_some]
        have es : stk (k + 1) = ((if (stk k).2 ∈ (stk k).1 then (stk k).1 else (stk k).1 ++ [(stk k).2]), []) := by
          rw [stk_s z]
          unfold stp
          rw [if_pos y]
        rcases q2 with ⟨p1, p2, p3, p4⟩ | ⟨p1, p2, p3, p4⟩
        · obtain ⟨K', w1, w2⟩ := x29_n p3 p4
          dsimp only
          rw [w1, Option.bind_some, i32_s]
          refine ih (k + 1) u K' (by omega) (by omega) ?_ ?_
          · rw [es]; rw [if_pos p1]; exact w2
          · rw [es]; dsimp only; have : ([] : List Nat).length = 0 := rfl; omega
        · obtain ⟨K', w1, w2⟩ := x29_n p3 p4
          dsimp only
          rw [w1, Option.bind_some, i32_s]
          refine ih (k + 1) (u + (stk k).2.length) K' (by omega) (by omega) ?_ ?_
          · rw [es]; rw [if_neg p1]; exact w2
          · rw [es]; dsimp only; have : ([] : List Nat).length = 0 := rfl; omega
      · rw [if_neg (fun w => y ((i32_e (x := 32) (b := 32) rfl (by omega) (by decide)).mp w))]
        obtain ⟨K, w1, w2⟩ := x38_n g3 c2 (by omega)
        rw [w1, Option.bind_some, i32_s]
        have es : stk (k + 1) = ((stk k).1, (stk k).2 ++ [xs0.getD k 0]) := by
          rw [stk_s z]
          unfold stp
          rw [if_neg y]
        refine ih (k + 1) u K (by omega) (by omega) ?_ ?_
        · rw [es]; exact w2
        · rw [es, List.length_append]; have : [xs0.getD k 0].length = 1 := rfl; omega
    · obtain rfl : k = 405 := by omega
      rw [if_pos (by decide)]
      rw [stk_end] at g3 g4
      exact ⟨J, u, rfl, g3, by have : ([] : List Nat).length = 0 := rfl; omega⟩
theorem x26_n {I : St} : ∃ J u, x26 I = some J ∧ NmP wlA u [] J ∧ u ≤ 405 := by
  obtain ⟨s1, s2, s3, s4, s5, s6, s7, s8, s9⟩ := sf37
  have e37 : tresize I 37 0 = up2 I 37 3 0 := rfl
  have e39 : ∀ I' : St, tresize I' 39 0 = up2 I' 39 3 0 := fun _ => rfl
  have hR : NmR [] 0 (fillF (tresize (tresize I 37 0) 39 0) (sf 41 2) 0 (-1)) := by
    rw [e37, e39, s9]
    refine ⟨rfl, by decide, by decide, by simp, fun i s hi => by simp at hi, fun b hb => ?_⟩
    show tget _ 41 (Int32.ofNat b) 0 = -1
    unfold tget
    have ht := tok41 hb
    unfold tok at ht
    rw [if_neg ht, s9, s8]
    have e : (Int32.ofNat b * Int32.ofNat 1 + 0).toNatClampNeg = b := by
      have h1 : Int32.ofNat b * Int32.ofNat 1 + 0 = Int32.ofNat b := by
        have : Int32.ofNat 1 = 1 := rfl
        rw [this, Int32.mul_one, Int32.add_zero]
      rw [h1, i32_cl (by omega)]
    rw [e]
    unfold fillF
    rw [if_pos ⟨rfl, Nat.zero_le _, (by have h42 : shl 42 = 256 := rfl; omega)⟩]
  obtain ⟨K, w1, w2⟩ := x29_n hR rfl
  obtain ⟨J, u, q1, q2, q3⟩ := l26_30_n 100000 0 0 K (by decide) (by decide) w2 (Nat.le_refl _)
  refine ⟨J, u, ?_, q2, q3⟩
  unfold x26
  rw [w1, Option.bind_some]
  have q1 : l26_30 100000 0 K = some J := q1
  rw [q1, Option.bind_some]
