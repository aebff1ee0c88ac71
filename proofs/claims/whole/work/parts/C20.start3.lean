/-! THE START: both programs stand alike -/
theorem p7_alf : ∀ c, c < 7 → alf p7 (fun _ => 0) 19 c = 0 := by decide +kernel
theorem p7_lt : ∀ c, 0 < c → c < 7 → p7 c < c := by
  intro c h1 _
  unfold p7
  split <;> omega
theorem s0_g {F : Nat → Nat → Bool} {I : St} {R : Nat → Nat → Option Nat} (h : S0 F I R = true) : CpN 3 126 0 I I ∧ (R 0 8 = some 3 ∧ R 0 9 = some 18 ∧ R 82 3 = some 126 ∧ R 82 4 = some 85) ∧ Fok F := by
  unfold S0 at h
  simp only [Bool.and_eq_true, decide_eq_true_eq, List.all_eq_true, List.mem_range, Bool.or_eq_true] at h
  obtain ⟨⟨⟨⟨⟨⟨⟨⟨r1, r2⟩, r3⟩, r4⟩, ⟨⟨⟨⟨a1, a2⟩, a3⟩, a4⟩, a5⟩⟩, ⟨⟨⟨b1, b2⟩, b3⟩, b4⟩⟩, ⟨⟨⟨⟨⟨⟨⟨c1, c2⟩, c3⟩, c4⟩, c5⟩, c6⟩, c7⟩, c8⟩⟩, ⟨⟨d1, d2⟩, d3⟩⟩, e1⟩ := h
  refine ⟨⟨⟨(0, fun _ => 0), Nat.le_refl _, ⟨a1, by show 0 ≤ 1280; omega, fun i hi => absurd hi (Nat.not_lt_zero i)⟩, ⟨a2, by show 0 ≤ 1280; omega, fun i hi => absurd hi (Nat.not_lt_zero i)⟩⟩, ⟨b1, b2, b3, b4⟩, a3, 7, 0, 0, fun _ => 0, fun _ => 0, fun _ => 0, p7, ⟨?_, ?_, fun m i hm => absurd hm (Nat.not_lt_zero m), fun m t hm => absurd hm (Nat.not_lt_zero m)⟩, fun m hm => absurd hm (Nat.not_lt_zero m), fun m hm => absurd hm (Nat.not_lt_zero m), Or.inl ⟨a4, a5⟩⟩, ⟨r1, r2, r3, r4⟩, ?_⟩
  · refine ⟨c1, c2, Nat.le_refl _, by omega, by omega, by omega, rfl, ⟨d1, fun c z1 z2 => ?_⟩, ⟨d2, fun c z1 z2 => ?_⟩, fun c hc => ?_, c3, fun f hf => absurd hf (Nat.not_lt_zero f), fun c z1 z2 => by omega, c4, c5, fun i hi => absurd hi (Nat.not_lt_zero i)⟩
    · obtain ⟨⟨⟨⟨g1, g2⟩, g3⟩, g4⟩, g5⟩ := d3 c z2
      rcases g1 with g1 | g1
      · have := Nat.eq_of_beq_eq_true g1
        omega
      · exact ⟨g1.1, p7_lt c z1 z2⟩
    · obtain ⟨⟨⟨⟨g1, g2⟩, g3⟩, g4⟩, g5⟩ := d3 c z2
      rcases g1 with g1 | g1
      · have := Nat.eq_of_beq_eq_true g1
        omega
      · exact ⟨g1.2, p7_lt c z1 z2⟩
    · obtain ⟨⟨⟨⟨g1, g2⟩, g3⟩, g4⟩, g5⟩ := d3 c hc
      refine ⟨Nat.le_refl _, Nat.zero_le _, g2, g3, ?_, g5, fun f z1 z2 => absurd z2 (Nat.not_lt_zero f)⟩
      rw [p7_alf c hc]; exact g4
  · exact ⟨c6, c7, c8, rfl, Nat.zero_le _, rfl, fun m hm => absurd hm (Nat.not_lt_zero m), fun m hm => absurd hm (Nat.not_lt_zero m), fun m c hm => absurd hm (Nat.not_lt_zero m)⟩
  · intro k j hk hf
    have := rowF_of _ 0 (e1 k hk) j hf
    rwa [Nat.zero_add] at this
theorem s0_c : CpN 3 126 0 w2.2.2.1 w2.2.2.1 ∧ (w2.2.2.2 0 8 = some 3 ∧ w2.2.2.2 0 9 = some 18 ∧ w2.2.2.2 82 3 = some 126 ∧ w2.2.2.2 82 4 = some 85) ∧ Fok w2.2.1 := s0_g s0
