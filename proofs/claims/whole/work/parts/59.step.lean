/-! ===== CASE: step ===== -/
theorem c_step : ∀ (a b c : Int) (σ : Mem), Inv σ → rg a → rg b → rg c → Pair mF_step mR_step [aI a, aI b, aI c] σ := by
  intro a b c σ hI ha hb hc
  obtain ⟨⟨p1, p2, p3⟩, p4⟩ := hI.2.2.1
  by_cases hx : 0 ≤ a ∧ a < σ 64 27
  · obtain ⟨⟨q1, q2, q3⟩, q4⟩ := p4 a hx.1 hx.2
    by_cases hy : (0 ≤ b ∧ b < σ 80 a) ∧ (0 ≤ c ∧ c ≤ 4)
    · obtain ⟨w1, w2, w3⟩ := q4 b hy.1.1 hy.1.2
      have w4 := w1 c hy.2.1 (by omega)
      have w5 := w3 c hy.2.1 (by omega)
      refine pair_q (v := σ 79 (5 * (12 * a + b) + c)) hI ⟨by omega, by omega⟩ ?_ ?_
      · refine bF_step_in (d := 995) (bPl_told_in (d := 995) ⟨hb, fun q => absurd q (by omega), fun _ => bPl_sizeOf_in (d := 995) ⟨ha, ⟨by omega, by omega⟩, fun _ => ⟨by omega, ⟨by omega, by omega⟩, fun q => absurd q (by omega), fun _ => ⟨hc, fun q => absurd q (by omega), fun _ => ⟨fun _ => ⟨by omega, by omega, by omega, by omega, ?_, rfl⟩, fun q => absurd q (by omega)⟩⟩⟩, fun q => absurd (show 0 ≤ a ∧ a < σ 29 3 by omega) q⟩⟩)
        rw [show (a * 60 + (b * 5 + c) : Int) = a * 60 + (5 * b + c) by omega, w4]
      · exact bR_step_in (d := 997) ⟨ha, ⟨by omega, by omega⟩, fun _ => ⟨by omega, hb, ⟨by omega, by omega⟩, fun _ => ⟨hc, fun _ => ⟨by omega, by omega, rfl, rfl⟩, fun q => absurd hy.2 q⟩, fun q => absurd (show 0 ≤ b ∧ b ≤ σ 80 a - 1 by omega) q⟩, fun q => absurd (show 0 ≤ a ∧ a ≤ σ 64 27 - 1 by omega) q⟩
    · refine pair_q (v := -1) hI (by decide) ?_ ?_
      · exact bF_step_in (d := 995) (bPl_told_in (d := 995) ⟨hb, fun _ => ⟨rfl, rfl⟩, fun h0 => bPl_sizeOf_in (d := 995) ⟨ha, ⟨by omega, by omega⟩, fun _ => ⟨by omega, ⟨by omega, by omega⟩, fun _ => ⟨rfl, rfl⟩, fun h1 => ⟨hc, fun _ => ⟨rfl, rfl⟩, fun h2 => ⟨fun h3 => absurd ⟨⟨h0, by omega⟩, h2, by omega⟩ hy, fun _ => ⟨rfl, rfl⟩⟩⟩⟩, fun q => absurd (show 0 ≤ a ∧ a < σ 29 3 by omega) q⟩⟩)
      · exact bR_step_in (d := 997) ⟨ha, ⟨by omega, by omega⟩, fun _ => ⟨by omega, hb, ⟨by omega, by omega⟩, fun h1 => ⟨hc, fun h2 => absurd ⟨⟨h1.1, by omega⟩, h2⟩ hy, fun _ => ⟨rfl, rfl⟩⟩, fun _ => ⟨rfl, rfl⟩⟩, fun _ => ⟨rfl, rfl⟩⟩
  · refine pair_q (v := -1) hI (by decide) ?_ ?_
    · exact bF_step_in (d := 995) (bPl_told_in (d := 995) ⟨hb, fun _ => ⟨rfl, rfl⟩, fun h0 => bPl_sizeOf_in (d := 995) ⟨ha, ⟨by omega, by omega⟩, fun q => absurd (show 0 ≤ a ∧ a < σ 64 27 by omega) hx, fun _ => ⟨by decide, fun _ => ⟨rfl, rfl⟩, fun q => absurd q (by omega)⟩⟩⟩)
    · exact bR_step_in (d := 997) ⟨ha, ⟨by omega, by omega⟩, fun q => absurd (show 0 ≤ a ∧ a < σ 64 27 by omega) hx, fun _ => ⟨rfl, rfl⟩⟩
