theorem ex_fl {E : Xe} : ∀ f, Fx E f := by
  intro f
  induction f with
  | zero => intro m pc ls st F F' I R o w1 hm hF h; simp [ex] at h
  | succ f ih =>
    intro m pc ls st F F' I R o w1 hm hF h
    cases hc : (cdO m)[pc]? with
    | none => rw [ex_none hc] at h; cases h
    | some e =>
      rw [ex_some hc] at h
      have hnop : e.1 ≠ .nop := by
        intro z
        obtain ⟨i, n, a, b, c, d, v⟩ := e
        dsimp only at z
        subst z
        simp [exB, isRt, isCl, st1] at h
      have ha := (cd_ok hm hc hnop).2
      unfold exB at h
      split at h
      · rename_i h1
        split at h
        · rename_i v hv
          cases h
          refine ⟨rfl, F, hF, ?_⟩
          rw [ex_some hc]
          unfold exB
          rw [if_pos h1, hv]
        · cases h
      · rename_i h1
        split at h
        · rename_i h2
          split at h
          · rename_i h3
            split at h
            · rename_i r hr
              obtain ⟨q1, F1, q2, q3⟩ := ih m _ _ _ F F' I R o w1 hm hF h
              refine ⟨q1, F1, q2, ?_⟩
              rw [ex_some hc]
              unfold exB
              rw [if_neg h1, if_pos h2, if_pos h3, hr]
              exact q3
            · cases h
          · rename_i h3
            split at h
            · cases h
            · rename_i j as r hx
              have hj := cl1_j ha h2 h3 hx
              have hx' : cl1 e st (200, F, I, R) = some (j, as, r) := hx
              cases hq : ex E f j (0, loc0 j as, [], (200, F', I, R)) with
              | none => rw [hq] at h; cases h
              | some q =>
                obtain ⟨oj, w2⟩ := q
                obtain ⟨n2, F2', I2, R2⟩ := w2
                obtain ⟨a1, F2, a2, a3⟩ := ih j 0 _ _ F F' I R oj _ hj hF hq
                dsimp only at a1 a3
                subst a1
                rw [hq] at h
                cases oj with
                | returned v =>
                  dsimp only at h
                  obtain ⟨q1, F1, q2, q3⟩ := ih m _ _ _ F2 F2' I2 R2 o w1 hm a2 h
                  refine ⟨q1, F1, q2, ?_⟩
                  rw [ex_some hc]
                  unfold exB
                  rw [if_neg h1, if_pos h2, if_neg h3, hx']
                  dsimp only
                  rw [a3]
                  exact q3
                | threw k =>
                  dsimp only at h
                  split at h
                  · rename_i h4
                    split at h
                    · rename_i hh hhd
                      obtain ⟨q1, F1, q2, q3⟩ := ih m _ _ _ F2 F2' I2 R2 o w1 hm a2 h
                      refine ⟨q1, F1, q2, ?_⟩
                      rw [ex_some hc]
                      unfold exB
                      rw [if_neg h1, if_pos h2, if_neg h3, hx']
                      dsimp only
                      rw [a3]
                      dsimp only
                      rw [if_pos h4, hhd]
                      exact q3
                    · rename_i hhd
                      split at h
                      · cases h
                      · rename_i h5
                        cases h
                        refine ⟨rfl, F2, a2, ?_⟩
                        rw [ex_some hc]
                        unfold exB
                        rw [if_neg h1, if_pos h2, if_neg h3, hx']
                        dsimp only
                        rw [a3]
                        dsimp only
                        rw [if_pos h4, hhd]
                        dsimp only
                        rw [if_neg h5]
                  · cases h
        · rename_i h2
          split at h
          · rename_i k r h3
            split at h
            · rename_i h4
              split at h
              · rename_i hh hhd
                obtain ⟨q1, F1, q2, q3⟩ := ih m _ _ _ F F' I R o w1 hm hF h
                refine ⟨q1, F1, q2, ?_⟩
                rw [ex_some hc]
                unfold exB
                rw [if_neg h1, if_neg h2, h3]
                dsimp only
                rw [if_pos h4, hhd]
                exact q3
              · rename_i hhd
                split at h
                · cases h
                · rename_i h5
                  cases h
                  refine ⟨rfl, F, hF, ?_⟩
                  rw [ex_some hc]
                  unfold exB
                  rw [if_neg h1, if_neg h2, h3]
                  dsimp only
                  rw [if_pos h4, hhd]
                  dsimp only
                  rw [if_neg h5]
            · cases h
          · rename_i h3
            split at h
            · rename_i g hg
              obtain ⟨b1, F2, b2, b3⟩ := st1_fl ha hF hg
              obtain ⟨pc2, ls2, st2, n2, F2', I2, R2⟩ := g
              dsimp only at b1
              subst b1
              obtain ⟨q1, F1, q2, q3⟩ := ih m pc2 ls2 st2 F2 F2' I2 R2 o w1 hm b2 h
              refine ⟨q1, F1, q2, ?_⟩
              rw [ex_some hc]
              unfold exB
              rw [if_neg h1, if_neg h2]
              split
              · rename_i k r h4
                exact absurd rfl (h3 k r h4)
              · rw [b3]
                exact q3
            · cases h
