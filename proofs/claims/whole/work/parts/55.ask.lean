/-! ===== CASES: what only asks ===== -/
theorem rg_of {x a b : Int} (h : a ≤ x ∧ x ≤ b) (ha : -2147483648 ≤ a := by decide) (hb : b ≤ 2147483647 := by decide) : rg x := ⟨Int.le_trans ha h.1, Int.le_trans h.2 hb⟩
theorem c_thing : ∀ (a b : Int) (σ : Mem), Inv σ → rg a → rg b → Pair mF_thing mR_thing [aI a, aI b] σ := by
  intro a b σ hI ha hb
  obtain ⟨⟨m1, m2, m3, m4⟩, ⟨n1, n2, n3, n4⟩, -, m5, -⟩ := hI.1.2.1
  have c0 : cst 8 0 = 2 := by decide
  by_cases hx : (0 ≤ a ∧ a < σ 64 37) ∧ (0 ≤ b ∧ b ≤ 1)
  · obtain ⟨k1, k2, k3, k4⟩ := m5 a hx.1.1 hx.1.2
    refine pair_q (v := if b = 0 then σ 82 a else σ 83 a) hI (by split; exact rg_of k3; exact rg_of k4) ?_ ?_
    · refine bF_thing_in (d := 997) (bMk_told_r14_in (d := 997) ⟨ha, fun q => absurd q (by omega), fun _ => ⟨by decide, by decide, ⟨by omega, by omega⟩, fun q => absurd q (by omega), fun _ => ⟨hb, fun q => absurd q (by omega), fun _ => ⟨by decide, fun _ => ⟨by omega, by omega, ?_⟩, fun q => absurd q (by rw [c0]; omega)⟩⟩⟩⟩)
      refine ⟨?_, rfl⟩
      by_cases e : b = 0
      · rw [if_pos e, e, show (0 * 30 + a * 3 + 0 : Int) = 3 * a by omega, k1]
      · rw [if_neg e, show (0 * 30 + a * 3 + b : Int) = 3 * a + 1 by omega, k2]
    · exact bR_thing_in (d := 996) ⟨ha, hI.mOK, fun _ => ⟨hb, fun _ => ⟨fun e => ⟨by omega, by rw [if_neg e], rfl⟩, fun e => ⟨by omega, by rw [if_pos e], rfl⟩⟩, fun q => absurd hx.2 q⟩, fun q => absurd hx.1 q⟩
  · refine pair_q (v := -1) hI (by decide) ?_ ?_
    · exact bF_thing_in (d := 997) (bMk_told_r14_in (d := 997) ⟨ha, fun _ => ⟨rfl, rfl⟩, fun h0 => ⟨by decide, by decide, ⟨by omega, by omega⟩, fun _ => ⟨rfl, rfl⟩, fun h1 => ⟨hb, fun _ => ⟨rfl, rfl⟩, fun h2 => ⟨by decide, fun h3 => absurd ⟨⟨h0, by omega⟩, h2, by rw [c0] at h3; omega⟩ hx, fun _ => ⟨rfl, rfl⟩⟩⟩⟩⟩)
    · exact bR_thing_in (d := 996) ⟨ha, hI.mOK, fun h1 => ⟨hb, fun h2 => absurd ⟨h1, h2⟩ hx, fun _ => ⟨rfl, rfl⟩⟩, fun _ => ⟨rfl, rfl⟩⟩
theorem c_firsts : ∀ (a b : Int) (σ : Mem), Inv σ → rg a → rg b → Pair mF_firsts mR_firsts [aI a, aI b] σ := by
  intro a b σ hI ha hb
  obtain ⟨⟨m1, m2, m3, m4⟩, ⟨n1, n2, n3, n4⟩, -, m5, -⟩ := hI.1.2.1
  have hR := hI.1.2.2.1.2.2.1
  by_cases hx : (0 ≤ a ∧ a < σ 64 38) ∧ (0 ≤ b ∧ b < σ 64 37)
  · refine pair_q (v := σ 81 (8 * a + b)) hI (hI.mOK.2.2.2.2 _) ?_ ?_
    · refine bF_firsts_in (d := 996) ⟨ha, hb, ⟨by omega, by omega⟩, ⟨by omega, by omega⟩, fun _ => ⟨by omega, by omega, ?_, rfl⟩, fun q => absurd ⟨hx.1.1, by omega, hx.2.1, by omega⟩ q⟩
      rw [← hR (8 * a + b) (by omega) (by omega), show (27 + (a * 8) + b : Int) = 27 + (8 * a + b) by omega]
    · exact bR_firsts_in (d := 996) ⟨ha, hI.mOK, fun _ => ⟨hb, fun _ => ⟨by omega, by omega, rfl, rfl⟩, fun q => absurd hx.2 q⟩, fun q => absurd hx.1 q⟩
  · refine pair_q (v := -1) hI (by decide) ?_ ?_
    · exact bF_firsts_in (d := 996) ⟨ha, hb, ⟨by omega, by omega⟩, ⟨by omega, by omega⟩, fun q => absurd ⟨⟨q.1, by omega⟩, q.2.2.1, by omega⟩ hx, fun _ => ⟨rfl, rfl⟩⟩
    · exact bR_firsts_in (d := 996) ⟨ha, hI.mOK, fun h1 => ⟨hb, fun h2 => absurd ⟨h1, h2⟩ hx, fun _ => ⟨rfl, rfl⟩⟩, fun _ => ⟨rfl, rfl⟩⟩
