/-! ===== CASES: what only asks, more ===== -/
theorem c_spoil : ∀ (a b : Int) (σ : Mem), Inv σ → rg a → rg b → Pair mF_spoil mR_spoil [aI a, aI b] σ := by
  intro a b σ hI ha hb
  obtain ⟨⟨m1, m2, m3, m4⟩, ⟨n1, n2, n3, n4⟩, -, -, -, m5, -⟩ := hI.1.2.1
  have c0 : cst 8 2 = 3 := by decide
  by_cases hx : (0 ≤ a ∧ a < σ 64 39) ∧ (0 ≤ b ∧ b ≤ 2)
  · obtain ⟨⟨k1, k2, k3⟩, k4, k5, k6, k7⟩ := m5 a hx.1.1 hx.1.2
    refine pair_q (v := if b = 0 then σ 85 a else if b = 1 then σ 86 a else σ 87 a) hI (by split; exact ⟨by omega, by omega⟩; split; exact ⟨by omega, by omega⟩; exact ⟨by omega, by omega⟩) ?_ ?_
    · refine bF_spoil_in (d := 997) (bMk_told_r14_in (d := 997) ⟨ha, fun q => absurd q (by omega), fun _ => ⟨by decide, by decide, ⟨by omega, by omega⟩, fun q => absurd q (by omega), fun _ => ⟨hb, fun q => absurd q (by omega), fun _ => ⟨by decide, fun _ => ⟨by omega, by omega, ?_⟩, fun q => absurd q (by rw [c0]; omega)⟩⟩⟩⟩)
      refine ⟨?_, rfl⟩
      by_cases e : b = 0
      · rw [if_pos e, e, show (2 * 30 + a * 3 + 0 : Int) = 60 + 3 * a by omega, k1]
      · rw [if_neg e]
        by_cases e1 : b = 1
        · rw [if_pos e1, e1, show (2 * 30 + a * 3 + 1 : Int) = 60 + 3 * a + 1 by omega, k2]
        · rw [if_neg e1, show (2 * 30 + a * 3 + b : Int) = 60 + 3 * a + 2 by omega, k3]
    · exact bR_spoil_in (d := 997) ⟨ha, ⟨by omega, by omega⟩, fun _ => ⟨hb, fun _ => ⟨fun e => ⟨fun e1 => ⟨by omega, by rw [if_neg e, if_neg e1], rfl⟩, fun e1 => ⟨by omega, by rw [if_neg e, if_pos e1], rfl⟩⟩, fun e => ⟨by omega, by rw [if_pos e], rfl⟩⟩, fun q => absurd hx.2 q⟩, fun q => absurd (show 0 ≤ a ∧ a ≤ σ 64 39 - 1 by omega) q⟩
  · refine pair_q (v := -1) hI (by decide) ?_ ?_
    · exact bF_spoil_in (d := 997) (bMk_told_r14_in (d := 997) ⟨ha, fun _ => ⟨rfl, rfl⟩, fun h0 => ⟨by decide, by decide, ⟨by omega, by omega⟩, fun _ => ⟨rfl, rfl⟩, fun h1 => ⟨hb, fun _ => ⟨rfl, rfl⟩, fun h2 => ⟨by decide, fun h3 => absurd ⟨⟨h0, by omega⟩, h2, by rw [c0] at h3; omega⟩ hx, fun _ => ⟨rfl, rfl⟩⟩⟩⟩⟩)
    · exact bR_spoil_in (d := 997) ⟨ha, ⟨by omega, by omega⟩, fun h1 => ⟨hb, fun h2 => absurd ⟨⟨h1.1, by omega⟩, h2⟩ hx, fun _ => ⟨rfl, rfl⟩⟩, fun _ => ⟨rfl, rfl⟩⟩
theorem c_coming : ∀ (a b : Int) (σ : Mem), Inv σ → rg a → rg b → Pair mF_coming mR_coming [aI a, aI b] σ := by
  intro a b σ hI ha hb
  obtain ⟨⟨m1, m2, m3, m4⟩, ⟨n1, n2, n3, n4⟩, -, -, -, -, m5⟩ := hI.1.2.1
  have c0 : cst 8 3 = 2 := by decide
  by_cases hx : (0 ≤ a ∧ a < σ 64 40) ∧ (0 ≤ b ∧ b ≤ 1)
  · obtain ⟨⟨k1, k2⟩, k4, k5, k6⟩ := m5 a hx.1.1 hx.1.2
    refine pair_q (v := if b = 0 then σ 88 a else σ 89 a) hI (by split; exact ⟨by omega, by omega⟩; exact ⟨by omega, by omega⟩) ?_ ?_
    · refine bF_coming_in (d := 997) (bMk_told_r14_in (d := 997) ⟨ha, fun q => absurd q (by omega), fun _ => ⟨by decide, by decide, ⟨by omega, by omega⟩, fun q => absurd q (by omega), fun _ => ⟨hb, fun q => absurd q (by omega), fun _ => ⟨by decide, fun _ => ⟨by omega, by omega, ?_⟩, fun q => absurd q (by rw [c0]; omega)⟩⟩⟩⟩)
      refine ⟨?_, rfl⟩
      by_cases e : b = 0
      · rw [if_pos e, e, show (3 * 30 + a * 3 + 0 : Int) = 90 + 3 * a by omega, k1]
      · rw [if_neg e, show (3 * 30 + a * 3 + b : Int) = 90 + 3 * a + 1 by omega, k2]
    · exact bR_coming_in (d := 997) ⟨ha, ⟨by omega, by omega⟩, fun _ => ⟨hb, fun _ => ⟨fun e => ⟨by omega, by rw [if_neg e], rfl⟩, fun e => ⟨by omega, by rw [if_pos e], rfl⟩⟩, fun q => absurd hx.2 q⟩, fun q => absurd (show 0 ≤ a ∧ a ≤ σ 64 40 - 1 by omega) q⟩
  · refine pair_q (v := -1) hI (by decide) ?_ ?_
    · exact bF_coming_in (d := 997) (bMk_told_r14_in (d := 997) ⟨ha, fun _ => ⟨rfl, rfl⟩, fun h0 => ⟨by decide, by decide, ⟨by omega, by omega⟩, fun _ => ⟨rfl, rfl⟩, fun h1 => ⟨hb, fun _ => ⟨rfl, rfl⟩, fun h2 => ⟨by decide, fun h3 => absurd ⟨⟨h0, by omega⟩, h2, by rw [c0] at h3; omega⟩ hx, fun _ => ⟨rfl, rfl⟩⟩⟩⟩⟩)
    · exact bR_coming_in (d := 997) ⟨ha, ⟨by omega, by omega⟩, fun h1 => ⟨hb, fun h2 => absurd ⟨⟨h1.1, by omega⟩, h2⟩ hx, fun _ => ⟨rfl, rfl⟩⟩, fun _ => ⟨rfl, rfl⟩⟩
theorem c_pledged : ∀ (a b : Int) (σ : Mem), Inv σ → rg a → rg b → Pair mF_pledged mR_pledged [aI a, aI b] σ := by
  intro a b σ hI ha hb
  obtain ⟨⟨r1, r2, r3⟩, -, -, r4, -⟩ := hI.1.2.2.1
  obtain ⟨-, -, -, -, -, -, v1, -⟩ := hI.1.2.2.2
  by_cases hx : (0 ≤ a ∧ a < σ 81 73) ∧ (0 ≤ b ∧ b ≤ 4)
  · refine pair_q (v := σ 81 (74 + 5 * a + b)) hI (hI.mOK.2.2.2.2 _) ?_ ?_
    · refine bF_pledged_in (d := 996) ⟨ha, ⟨by omega, by omega⟩, fun _ => ⟨hb, fun q => absurd q (by omega), fun _ => ⟨fun _ => ⟨by omega, by omega, ?_, rfl⟩, fun q => absurd q (by omega)⟩⟩, fun q => absurd (show 0 ≤ a ∧ a < σ 38 1 by omega) q⟩
      rw [show (75 + (a * 5) + b : Int) = 75 + (5 * a + b) by omega, r4 (5 * a + b) (by omega) (by omega), show (74 + (5 * a + b) : Int) = 74 + 5 * a + b by omega]
    · exact bR_pledged_in (d := 997) ⟨ha, ⟨by omega, by omega⟩, fun _ => ⟨hb, fun _ => ⟨by omega, by omega, rfl, rfl⟩, fun q => absurd hx.2 q⟩, fun q => absurd (show 0 ≤ a ∧ a ≤ σ 81 73 - 1 by omega) q⟩
  · refine pair_q (v := -1) hI (by decide) ?_ ?_
    · exact bF_pledged_in (d := 996) ⟨ha, ⟨by omega, by omega⟩, fun h1 => ⟨hb, fun _ => ⟨rfl, rfl⟩, fun h2 => ⟨fun h3 => absurd ⟨⟨h1.1, by omega⟩, h2, h3⟩ hx, fun _ => ⟨rfl, rfl⟩⟩⟩, fun _ => ⟨rfl, rfl⟩⟩
    · exact bR_pledged_in (d := 997) ⟨ha, ⟨by omega, by omega⟩, fun h1 => ⟨hb, fun h2 => absurd ⟨⟨h1.1, by omega⟩, h2⟩ hx, fun _ => ⟨rfl, rfl⟩⟩, fun _ => ⟨rfl, rfl⟩⟩
theorem c_log : ∀ (a b : Int) (σ : Mem), Inv σ → rg a → rg b → Pair mF_log mR_log [aI a, aI b] σ := by
  intro a b σ hI ha hb
  obtain ⟨⟨r1, r2, r3⟩, -, -, -, r4⟩ := hI.1.2.2.1
  obtain ⟨-, -, -, -, -, -, -, -, v1, v2⟩ := hI.1.2.2.2
  by_cases hx : (0 ≤ a ∧ a < σ 81 114) ∧ (0 ≤ b ∧ b ≤ 3)
  · refine pair_q (v := σ 81 (115 + 4 * (σ 81 114 - 1 - a) + b)) hI (hI.mOK.2.2.2.2 _) ?_ ?_
    · have e := r4 a hx.1.1 hx.1.2
      obtain ⟨w1, w2, w3, w4⟩ := v2 (σ 81 114 - 1 - a) (by omega) (by omega)
      have hc := hI.2.1.2.2.2.1 (115 + a)
      generalize hd : σ 81 (115 + 4 * (σ 81 114 - 1 - a) + 3) = d at e w4
      generalize hv : σ 81 (115 + 4 * (σ 81 114 - 1 - a) + 2) = v at e w3
      generalize hxx : σ 81 (115 + 4 * (σ 81 114 - 1 - a) + 1) = x at e w2
      generalize hp : σ 81 (115 + 4 * (σ 81 114 - 1 - a)) = p at e w1
      have hE : 0 ≤ σ 38 (115 + a) := by omega
      have q8 : Int.tdiv (σ 38 (115 + a)) 8 = (d * 1000 + v) * 8 + x := by rw [Int.tdiv_eq_ediv_of_nonneg hE]; omega
      have q64 : Int.tdiv (σ 38 (115 + a)) 64 = d * 1000 + v := by rw [Int.tdiv_eq_ediv_of_nonneg hE]; omega
      have k0 : Int.tmod (σ 38 (115 + a)) 8 = p := by rw [Int.tmod_eq_emod_of_nonneg hE]; omega
      have k1 : Int.tmod ((d * 1000 + v) * 8 + x) 8 = x := by rw [Int.tmod_eq_emod_of_nonneg (by omega)]; omega
      have k2 : Int.tmod (d * 1000 + v) 1000 = v := by rw [Int.tmod_eq_emod_of_nonneg (by omega)]; omega
      have k3 : Int.tdiv (d * 1000 + v) 1000 = d := by rw [Int.tdiv_eq_ediv_of_nonneg (by omega)]; omega
      refine bF_log_in (d := 997) ⟨ha, fun q => absurd q (by omega), fun _ => ⟨⟨by omega, by omega⟩, fun q => absurd q (by omega), fun _ => ⟨hb, fun q => absurd q (by omega), fun _ => ⟨fun _ => bSt_ofLog_in (d := 997) ⟨by omega, by omega, hb, fun n0 => ⟨fun n1 => ⟨hc, fun n2 => ⟨?_, ?_, rfl⟩, fun e2 => ⟨?_, ?_, rfl⟩⟩, fun e1 => ⟨hc, ?_, ?_, rfl⟩⟩, fun e0 => ⟨hc, ?_, rfl⟩⟩, fun q => absurd q (by omega)⟩⟩⟩⟩
      · rw [q64]; exact ⟨by omega, by omega⟩
      · rw [q64, k3, show b = 3 by omega, hd]
      · rw [q64]; exact ⟨by omega, by omega⟩
      · rw [q64, k2, e2, hv]
      · rw [q8]; exact ⟨by omega, by omega⟩
      · rw [q8, k1, e1, hxx]
      · rw [k0, e0, Int.add_zero, hp]
    · exact bR_log_in (d := 997) ⟨ha, ⟨by omega, by omega⟩, fun _ => ⟨hb, fun _ => ⟨by omega, by omega, rfl, rfl⟩, fun q => absurd hx.2 q⟩, fun q => absurd (show 0 ≤ a ∧ a ≤ σ 81 114 - 1 by omega) q⟩
  · refine pair_q (v := -1) hI (by decide) ?_ ?_
    · exact bF_log_in (d := 997) ⟨ha, fun _ => ⟨rfl, rfl⟩, fun h0 => ⟨⟨by omega, by omega⟩, fun _ => ⟨rfl, rfl⟩, fun h1 => ⟨hb, fun _ => ⟨rfl, rfl⟩, fun h2 => ⟨fun h3 => absurd ⟨⟨h0, by omega⟩, h2, h3⟩ hx, fun _ => ⟨rfl, rfl⟩⟩⟩⟩⟩
    · exact bR_log_in (d := 997) ⟨ha, ⟨by omega, by omega⟩, fun h1 => ⟨hb, fun h2 => absurd ⟨⟨h1.1, by omega⟩, h2⟩ hx, fun _ => ⟨rfl, rfl⟩⟩, fun _ => ⟨rfl, rfl⟩⟩
theorem c_person : ∀ (p w : Int) (σ : Mem), Inv σ → rg p → rg w → 0 ≤ σ 0 2 → PairP p w σ := by
  intro p w σ hI hp hw h2
  obtain ⟨⟨m1, m2, m3, m4⟩, ⟨n1, n2, n3, n4⟩, -, -, m5, -⟩ := hI.1.2.1
  obtain ⟨-, r1, -⟩ := hI.1.2.2.1
  have hg := hI.mOK.2.2.2.2
  have hc := hI.2.1.2.2.2.1
  refine ⟨fun q => ?_, fun q => ?_⟩
  · obtain ⟨q1, q2, q3, q4⟩ := q
    obtain ⟨k1, k2, k3, k4⟩ := r1 p q1 (by omega)
    have hl : rg (σ 16 (30 + p * 3 + 2)) := by
      rcases m5 p q1 (by omega) with z | z
      · rw [show (30 + p * 3 + 2 : Int) = 30 + 3 * p + 2 by omega, z.1]; decide
      · rw [show (30 + p * 3 + 2 : Int) = 30 + 3 * p + 2 by omega, z.1]; exact ⟨by omega, by omega⟩
    -- what the reference tells
    have hv : pval σ p w = if w = 0 then σ 81 (60 + p) else if w = 1 then σ 81 (66 + p) else if w = 2 then σ 84 p else if w = 3 then σ 81 (54 + p) else σ 81 (48 + p) := by
      unfold pval
      by_cases e0 : w = 0
      · rw [if_pos e0, if_pos e0, ← k1, show (3 + p * 4 : Int) = 3 + 4 * p by omega]
      rw [if_neg e0, if_neg e0]
      by_cases e1 : w = 1
      · rw [if_pos e1, if_pos e1, ← k2, show (3 + p * 4 + 1 : Int) = 3 + 4 * p + 1 by omega]
      rw [if_neg e1, if_neg e1]
      by_cases e2 : w = 2
      · rw [if_pos e2, if_pos e2, show (30 + p * 3 + 2 : Int) = 30 + 3 * p + 2 by omega]
        rcases m5 p q1 (by omega) with z | z
        · rw [z.1, z.2]; rfl
        · rw [z.1, if_pos (by omega)]
      rw [if_neg e2, if_neg e2]
      by_cases e3 : w = 3
      · rw [if_pos e3, if_pos e3, ← k3, show (3 + p * 4 + 2 : Int) = 3 + 4 * p + 2 by omega]
      rw [if_neg e3, if_neg e3, ← k4, show (3 + p * 4 + 3 : Int) = 3 + 4 * p + 3 by omega]
    have hpv : rg (pval σ p w) := by
      rw [hv]
      split; exact hg _
      split; exact hg _
      split
      · rcases m5 p q1 (by omega) with z | z
        · rw [z.2]; decide
        · exact ⟨by omega, by omega⟩
      split; exact hg _
      exact hg _
    refine ⟨hpv, hl, ?_⟩
    generalize hx : pval σ p w = v at hv hpv ⊢
    have e64 : (ups σ 100 0 v) 64 = σ 64 := ups_ne (by decide)
    have e81 : (ups σ 100 0 v) 81 = σ 81 := ups_ne (by decide)
    have e84 : (ups σ 100 0 v) 84 = σ 84 := ups_ne (by decide)
    have fin : ∀ x : Int, x = v → oI (rI x) (fun w6 => (w6 = v ∧ (ups (ups σ 100 0 v) 64 0 0) 64 0 = 0 ∧ (ups (ups σ 100 0 v) 64 0 0) 100 0 = v) ∧ ((ups (ups σ 100 0 v) 64 0 0) 0 = σ 0 ∧ (ups (ups σ 100 0 v) 64 0 0) 1 = σ 1) ∧ Inv (ups (ups σ 100 0 v) 64 0 0)) := by
      intro x e
      subst e
      refine ⟨⟨rfl, ups_hit, by rw [ups_ne (by decide), ups_hit]⟩, ⟨by rw [ups_ne (by decide), ups_ne (by decide)], by rw [ups_ne (by decide), ups_ne (by decide)]⟩, ?_⟩
      refine hI.scr (fun a ha => ?_) ⟨by rw [ups_ne (by decide), ups_ne (by decide)], by rw [ups_ne (by decide), ups_ne (by decide)]⟩ (by rw [ups_ne (by decide), ups_ne (by decide)]) (fun j hj => ?_) (by rw [ups_ne (by decide), ups_ne (by decide)])
      · rw [ups_ne (fun e => ha (by rw [e]; decide)), ups_ne (fun e => ha (by rw [e]; decide))]
      · rw [ups_fn (fun e => by rw [e] at hj; revert hj; decide), e64]
    refine bR_person_in (d := 996) ⟨hp, by unfold mOK; rw [e64, e81]; exact hI.mOK, fun _ => ⟨hw, fun _ => ?_, fun z => absurd ⟨q3, q4⟩ z⟩, fun z => absurd (show 0 ≤ p ∧ p < (ups σ 100 0 v) 64 38 by rw [e64]; omega) z⟩
    refine bR_person_23 (d := 996) ⟨by decide, fun _ => ⟨hw, fun e0 => ⟨by omega, by omega, fin _ ?_⟩, fun n0 => ⟨fun e1 => ⟨by omega, by omega, fin _ ?_⟩, fun n1 => ⟨fun e2 => ⟨q1, by omega, fin _ ?_⟩, fun n2 => ⟨fun e3 => ⟨by omega, by omega, fin _ ?_⟩, fun n3 => ⟨by omega, by omega, fin _ ?_⟩⟩⟩⟩⟩, fun z => absurd z (by decide)⟩
    · rw [e81, hv, if_pos e0]
    · rw [e81, hv, if_neg n0, if_pos e1]
    · rw [e84, hv, if_neg n0, if_neg n1, if_pos e2]
    · rw [e81, hv, if_neg n0, if_neg n1, if_neg n2, if_pos e3]
    · rw [e81, hv, if_neg n0, if_neg n1, if_neg n2, if_neg n3]
  · generalize hz : σ 0 2 + 1 = z
    have e64 : (ups σ 0 2 z) 64 = σ 64 := ups_ne (by decide)
    have e81 : (ups σ 0 2 z) 81 = σ 81 := ups_ne (by decide)
    have fin : Ev 999 mR_person 23 [vR 64, vI p, vI w] [aI 1, aR 64] (ups σ 0 2 z) (fun r4 τ5 => oI r4 (fun _ => τ5 64 0 = 1 ∧ (τ5 0 0 = σ 0 0 ∧ τ5 0 2 = z ∧ τ5 1 = σ 1) ∧ Inv τ5)) := by
      refine bR_person_23 (d := 996) ⟨by decide, fun y => absurd rfl y, fun _ => ⟨ups_hit, ⟨?_, ?_, ?_⟩, ?_⟩⟩
      · rw [ups_ne (by decide), ups_fn (by decide)]
      · rw [ups_ne (by decide), ups_hit]
      · rw [ups_ne (by decide), ups_ne (by decide)]
      · refine hI.scr (fun a ha => ?_) ⟨by rw [ups_ne (by decide), ups_ne (by decide)], by rw [ups_ne (by decide), ups_ne (by decide)]⟩ (by rw [ups_ne (by decide), ups_ne (by decide)]) (fun j hj => ?_) (by rw [ups_ne (by decide), ups_fn (by decide)])
        · rw [ups_ne (fun e => ha (by rw [e]; decide)), ups_ne (fun e => ha (by rw [e]; decide))]
        · rw [ups_fn (fun e => by rw [e] at hj; revert hj; decide), e64]
    exact bR_person_in (d := 996) ⟨hp, by unfold mOK; rw [e64, e81]; exact hI.mOK, fun z1 => ⟨hw, fun z2 => absurd (show psOk σ p w from ⟨z1.1, by rw [e64] at z1; omega, z2⟩) q, fun _ => fin⟩, fun _ => fin⟩
