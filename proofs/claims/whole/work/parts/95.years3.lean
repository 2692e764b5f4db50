theorem luckyR {ω : Mem} (hM : MarkI ω) (hT1 : 1 ≤ ω 64 37) {o : Option (List Cla)} (hH : Held ω o) (hW : RowW (ω 64 37) (ω 64 38) 999 47952 (ω 81)) (h0 : 0 ≤ ω 81 114 ∧ ω 81 114 ≤ 60) (hq : ω 64 43 = 0) (hth : 0 ≤ ω 64 41 ∧ ω 64 41 ≤ 99) (d : Nat) {p : Int} (hp : 0 ≤ p ∧ p < ω 64 38) {Q : RV → Mem → Prop}
    (hQ : ∀ τ, Sm ω τ [73, 74, 81, 64] [61] → τ 64 61 = lvS (ω 64 37) p (ω 81) (ω 64 61) → τ 81 = lvM ω o (ω 64 41) p (ω 81) (ω 64 61) → Q rV τ) : Cl (d + 22) mR_lucky [aR 64, aI p] ω Q := by
  have n1 := hM.2.1.1
  have n2 := hM.2.1.2.1
  have r := drV_r (s := ω 64 61) hT1
  have r2 := drV_r (s := drS (ω 64 61)) (k := 100) (by decide)
  have f48 := hW.f48 (Int.le_refl _) (i := 8 * p + drV (ω 64 61) (ω 64 37)) (by omega) (by omega)
  refine bR_lucky_in (drawR (d + 20) ⟨by omega, by omega⟩ ?_)
  have s1 : Sm ω (ups ω 64 61 (drS (ω 64 61))) [64] [61] := Sm.refl.ups rfl (Or.inr rfl)
  have v1 : (ups ω 64 61 (drS (ω 64 61))) 64 61 = drS (ω 64 61) := ups_hit
  generalize (ups ω 64 61 (drS (ω 64 61))) = ω1 at *
  have hM1 : MarkI ω1 := hM.sm s1 (by decide) (by decide)
  have sk1 : SmMk ω ω1 := SmMk.of s1 (by decide) (by decide)
  have e81 : ω1 81 = ω 81 := s1.1 81 rfl
  rw [e81]
  refine ⟨(by omega), (by omega), ⟨by omega, by omega⟩, fun z => ?_, fun z => ?_⟩
  · have c : ¬ 0 < ω 81 (8 * p + drV (ω 64 61) (ω 64 37)) := (by omega)
    refine drawR (d + 20) (by decide) ?_
    rw [v1]
    have s2 : Sm ω1 (ups ω1 64 61 (drS (drS (ω 64 61)))) [64] [61] := Sm.refl.ups rfl (Or.inr rfl)
    have v2 : (ups ω1 64 61 (drS (drS (ω 64 61)))) 64 61 = drS (drS (ω 64 61)) := ups_hit
    generalize (ups ω1 64 61 (drS (drS (ω 64 61)))) = ω2 at *
    have s12 : Sm ω ω2 [64] [61] := s1.trans s2
    have f81 : ω2 81 = ω 81 := s12.1 81 rfl
    have f41 : ω2 64 41 = ω 64 41 := s12.2 41 rfl
    have f38 : ω2 64 38 = ω 64 38 := s12.2 38 rfl
    have vS : lvS (ω 64 37) p (ω 81) (ω 64 61) = drS (drS (ω 64 61)) := by unfold lvS; rw [if_neg c]
    refine ⟨⟨by omega, by omega⟩, by rw [f41]; exact ⟨by omega, by omega⟩, fun y => ?_, fun y => ?_⟩
    · rw [f41] at y
      refine hQ ω2 (s12.mono (by decide) (by decide)) (by rw [v2, vS]) ?_
      have kk : lvK (ω 64 37) (ω 64 38) (ω 64 41) p (ω 81) (ω 64 61) = 1 := by unfold lvK; rw [if_neg c, if_pos y]
      unfold lvM
      rw [kk, if_neg (by decide), if_pos rfl, f81]
    · rw [f41] at y
      rw [f38]
      -- from the last down to the first
      have down : ∀ (k : Nat) (f : Int), (k : Int) ≤ ω 64 38 → (if fs (fun q => decide (q ≠ p) && decide (0 < ω 81 (8 * q + drV (ω 64 61) (ω 64 37)))) k ≠ -1 then fs (fun q => decide (q ≠ p) && decide (0 < ω 81 (8 * q + drV (ω 64 61) (ω 64 37)))) k else f) = hol (ω 81) p (drV (ω 64 61) (ω 64 37)) (ω 64 38) → -1 ≤ f ∧ f < ω 64 38 → Ev (d + 22) mR_lucky 51 [vR 64, vI p, vI (drV (ω 64 61) (ω 64 37)), vI f, vI ((k : Int) - 1)] [] ω2 Q := by
        intro k
        induction k with
        | zero =>
          intro f hk hf fr
          rw [if_neg (show ¬ fs (fun q => decide (q ≠ p) && decide (0 < ω 81 (8 * q + drV (ω 64 61) (ω 64 37)))) 0 ≠ -1 from fun z => z rfl)] at hf
          refine bR_lucky_51 ⟨⟨by omega, by omega⟩, fun _ => ⟨⟨by omega, by omega⟩, fun w => ?_, fun w => ?_⟩, fun z => absurd z (by omega)⟩
          · refine hQ ω2 (s12.mono (by decide) (by decide)) (by rw [v2, vS]) ?_
            have kk : lvK (ω 64 37) (ω 64 38) (ω 64 41) p (ω 81) (ω 64 61) = 1 := by unfold lvK; rw [if_neg c, if_neg (show ¬ ω 64 41 ≤ drV (drS (ω 64 61)) 100 by omega), if_pos (by rw [← hf]; exact w)]
            unfold lvM
            rw [kk, if_neg (by decide), if_pos rfl, f81]
          · have kk : lvK (ω 64 37) (ω 64 38) (ω 64 41) p (ω 81) (ω 64 61) = 2 := by unfold lvK; rw [if_neg c, if_neg (show ¬ ω 64 41 ≤ drV (drS (ω 64 61)) 100 by omega), if_neg (by rw [← hf]; exact w)]
            refine bR_stealNow_in (d := d + 20) ⟨(by omega), (by omega), fun μ1 g1 => ⟨(by omega), (by omega), fun μ2 g2 => hQ μ2 ?_ ?_ ?_⟩⟩
            · rw [g2, g1]; exact ((s12.mono (by decide) (by decide)).ups rfl (Or.inl (by decide))).ups rfl (Or.inl (by decide))
            · rw [g2, ups_ne (by decide), g1, ups_ne (by decide), v2, vS]
            · rw [g2, ups_row, g1, ups_row, f81]
              unfold lvM
              rw [kk, if_neg (by decide), if_neg (by decide), ← hf]
              rfl
        | succ k ik =>
          intro f hk hf fr
          have e : (((k + 1 : Nat) : Int) - 1) = (k : Int) := by omega
          have e2 : (k : Int) + (-1) = (k : Int) - 1 := by omega
          rw [e]
          have un : fs (fun q => decide (q ≠ p) && decide (0 < ω 81 (8 * q + drV (ω 64 61) (ω 64 37)))) (k + 1) = if fs (fun q => decide (q ≠ p) && decide (0 < ω 81 (8 * q + drV (ω 64 61) (ω 64 37)))) k ≠ -1 then fs (fun q => decide (q ≠ p) && decide (0 < ω 81 (8 * q + drV (ω 64 61) (ω 64 37)))) k else if (decide ((k : Int) ≠ p) && decide (0 < ω 81 (8 * (k : Int) + drV (ω 64 61) (ω 64 37)))) = true then (k : Int) else -1 := rfl
          rw [un, ifn1] at hf
          have g48 := hW.f48 (Int.le_refl _) (i := 8 * (k : Int) + drV (ω 64 61) (ω 64 37)) (by omega) (by omega)
          have no : ¬ ((k : Int) ≠ p ∧ 0 < ω 81 (8 * (k : Int) + drV (ω 64 61) (ω 64 37))) → Ev (d + 22) mR_lucky 51 [vR 64, vI p, vI (drV (ω 64 61) (ω 64 37)), vI f, vI ((k : Int) + (-1))] [] ω2 Q := by
            intro z
            rw [e2]
            rw [if_neg (show ¬ ((decide ((k : Int) ≠ p) && decide (0 < ω 81 (8 * (k : Int) + drV (ω 64 61) (ω 64 37)))) = true ∧ (k : Int) ≠ -1) from fun w => by have := w.1; rw [Bool.and_eq_true, decide_eq_true_iff, decide_eq_true_iff] at this; exact z this)] at hf
            exact ik f (by omega) hf fr
          refine bR_lucky_51 ⟨⟨by omega, by omega⟩, fun z => absurd z (by omega), fun _ => ⟨⟨by omega, by omega⟩, fun z => no (fun w => w.1 z), fun z => ⟨(by omega), (by omega), by rw [f81]; exact ⟨by omega, by omega⟩, fun w => no (fun v => by rw [f81] at w; omega), fun w => ?_⟩⟩⟩
          rw [f81] at w
          rw [e2]
          rw [if_pos (show (decide ((k : Int) ≠ p) && decide (0 < ω 81 (8 * (k : Int) + drV (ω 64 61) (ω 64 37)))) = true ∧ (k : Int) ≠ -1 from ⟨by rw [Bool.and_eq_true, decide_eq_true_iff, decide_eq_true_iff]; exact ⟨z, w⟩, by omega⟩)] at hf
          exact ik (k : Int) (by omega) hf ⟨by omega, by omega⟩
      have := down (ω 64 38).toNat (-1) (by omega) ?_ (by omega)
      · rw [Int.toNat_of_nonneg n2.1] at this; exact this
      · unfold hol
        by_cases w : fs (fun q => decide (q ≠ p) && decide (0 < ω 81 (8 * q + drV (ω 64 61) (ω 64 37)))) (ω 64 38).toNat ≠ -1
        · rw [if_pos w]
        · rw [if_neg w]; exact (Decidable.not_not.mp w).symm
  · have e43 : ω1 64 43 = 0 := by rw [s1.2 43 rfl]; exact hq
    refine haveNowR hM1 (hH.sm s1 (by decide) rfl) (T := ω 64 37) (P := ω 64 38) (D := 999) (B := 47952) (by rw [e81]; exact hW) (Int.le_refl _) sk1.2.1.symm (by decide) (by rw [e81]; exact h0) (by rw [e43]; decide) d (by rw [sk1.2.2.1]; exact hp) (by rw [sk1.2.1]; exact r) (by rw [e81]; exact z) (fun τ sm e => ?_)
    rw [e43, e81, hvs_cg sk1] at e
    refine hQ τ ((s1.mono (by decide) (by decide)).trans (sm.mono (by decide) (by decide))) ?_ ?_
    · rw [sm.1 64 rfl, v1]; unfold lvS; rw [if_pos z]
    · rw [e]
      have kk : lvK (ω 64 37) (ω 64 38) (ω 64 41) p (ω 81) (ω 64 61) = 0 := by unfold lvK; rw [if_pos z]
      unfold lvM
      rw [kk, if_pos rfl]
