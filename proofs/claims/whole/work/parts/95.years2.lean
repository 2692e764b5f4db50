/-! ===== ONE LIVES BY DRAWS, BOTH SIDES ===== -/
theorem drawC {σ : Mem} (d : Nat) {k : Int} (hk : 1 ≤ k ∧ k ≤ 1000) {Q : RV → Mem → Prop} (h : Q (rI (drV (σ 11 15) k)) (ups σ 11 15 (drS (σ 11 15)))) : Cl (d + 1) mF_draw [aR 11, aI k] σ Q := by
  have := l33 (drS (σ 11 15))
  refine bF_draw_in ⟨⟨by omega, by omega⟩, fun _ => ⟨?_, ?_, (by omega), h⟩, fun z => absurd z (by omega)⟩
  · show rgL (l_ushr (drS (σ 11 15)) 33)
    exact ⟨by omega, by omega⟩
  · exact ⟨by omega, by omega⟩
theorem drawR {σ : Mem} (d : Nat) {k : Int} (hk : 1 ≤ k ∧ k ≤ 1000) {Q : RV → Mem → Prop} (h : Q (rI (drV (σ 64 61) k)) (ups σ 64 61 (drS (σ 64 61)))) : Cl (d + 1) mR_draw [aR 64, aI k] σ Q := by
  have := l33 (drS (σ 64 61))
  refine bR_draw_in ⟨⟨by omega, by omega⟩, ?_, ?_, (by omega), h⟩
  · show rgL (l_ushr (drS (σ 64 61)) 33)
    exact ⟨by omega, by omega⟩
  · exact ⟨by omega, by omega⟩
theorem holC {υ : Mem} (hM : MarkI υ) {m : Int → Int} (h : CM υ (υ 38) m) (d : Nat) {p x : Int} (hp : 0 ≤ p ∧ p < υ 64 38) (hx : 0 ≤ x ∧ x < υ 64 37) {Q : RV → Mem → Prop} (hQ : Q (rI (hol m p x (υ 64 38))) υ) : Cl (d + 5) mSt_lowestOtherHolder [aR 37, aI p, aI x] υ Q := by
  obtain ⟨⟨m1, m2, m3, m4⟩, ⟨n1, n2, n3, n4⟩, -⟩ := hM
  refine bSt_lowestOtherHolder_in ?_
  refine loop_up (G := fun i => fs (fun q => decide (q ≠ p) && decide (0 < m (8 * q + x))) i.toNat = -1 → Ev (d + 5) mSt_lowestOtherHolder 2 [vR 37, vI p, vI x, vI i] [] υ Q) (hi := υ 64 38) _ 0 rfl n2.1 (fun j j0 j1 g => ?_) ?_ rfl
  · intro hf
    have un := fs_S (p := fun q => decide (q ≠ p) && decide (0 < m (8 * q + x))) j0
    rw [if_neg (fun z => z hf)] at un
    have cell : υ 38 (27 + j * 8 + x) = m (8 * j + x) := Cor.eq h.1 (Cor.fst ⟨by omega, by omega⟩ ⟨by omega, by omega⟩)
    have f48 := h.2.1.f48 (Int.le_refl _) (i := 8 * j + x) (by omega) (by omega)
    refine bSt_lowestOtherHolder_2 ⟨⟨by omega, by omega⟩, ⟨by omega, by omega⟩, fun z => absurd z (by omega), fun _ => ⟨⟨by omega, by omega⟩, ⟨by omega, by omega⟩, ⟨⟨by omega, by omega⟩, ⟨by omega, by omega⟩, ⟨by omega, by omega⟩, ⟨by omega, by omega⟩, h.2.2.2.2.1⟩, fun z => ?_, fun z => g ?_⟩⟩
    · have yes : (decide (j ≠ p) && decide (0 < m (8 * j + x))) = true := by
        rw [Bool.and_eq_true, decide_eq_true_iff, decide_eq_true_iff, ← cell]
        exact ⟨fun e => z.2.2.1 e.symm, z.2.2.2.2.2.2.2⟩
      rw [if_pos yes] at un
      unfold hol at hQ
      rw [fs_up (m := (j + 1).toNat) (by rw [un]; omega) (by omega), un] at hQ
      exact hQ
    · rw [un, if_neg]
      intro y
      rw [Bool.and_eq_true, decide_eq_true_iff, decide_eq_true_iff, ← cell] at y
      exact z ⟨hp.1, (by omega), fun e => y.1 e.symm, j0, (by omega), hx.1, (by omega), y.2⟩
  · intro hf
    unfold hol at hQ
    rw [hf] at hQ
    exact bSt_lowestOtherHolder_2 ⟨⟨by omega, by omega⟩, ⟨by omega, by omega⟩, fun _ => hQ, fun z => absurd z (by omega)⟩
theorem liveC {υ : Mem} (hM : MarkI υ) (hT1 : 1 ≤ υ 64 37) {o : Option (List Cla)} (hH : Held υ o) (h : CM υ (υ 38) (mO (υ 38))) (hth : 0 ≤ υ 11 14 ∧ υ 11 14 ≤ 99) (d : Nat) {p : Int} (hp : 0 ≤ p ∧ p < υ 64 38) {Q : RV → Mem → Prop}
    (hQ : ∀ τ, Sm υ τ [28, 45, 46, 47, 48, 49, 11, 38] [] → (∀ j, j ≠ 15 → τ 11 j = υ 11 j) → τ 11 15 = lvS (υ 64 37) p (mO (υ 38)) (υ 11 15) → τ 38 = lvC υ o (υ 11 14) p (υ 38) (υ 11 15) → Q rV τ) : Cl (d + 19) mF_liveByDraws [aR 11, aI p] υ Q := by
  have n1 := hM.2.1.1
  have n2 := hM.2.1.2.1
  have m1 := hM.1.1
  have m2 := hM.1.2.1
  have r := drV_r (s := υ 11 15) hT1
  have r2 := drV_r (s := drS (υ 11 15)) (k := 100) (by decide)
  have cell : υ 38 (27 + p * 8 + drV (υ 11 15) (υ 64 37)) = mO (υ 38) (8 * p + drV (υ 11 15) (υ 64 37)) := Cor.eq h.1 (Cor.fst ⟨by omega, by omega⟩ ⟨by omega, by omega⟩)
  refine bF_liveByDraws_in ?_
  rw [m1]
  refine drawC (d + 17) ⟨by omega, by omega⟩ ?_
  have s1 : Sm υ (ups υ 11 15 (drS (υ 11 15))) [11] [] := Sm.refl.ups rfl (Or.inl (by decide))
  have v1 : (ups υ 11 15 (drS (υ 11 15))) 11 15 = drS (υ 11 15) := ups_hit
  have j1 : ∀ j, j ≠ 15 → (ups υ 11 15 (drS (υ 11 15))) 11 j = υ 11 j := fun j hj => ups_fn hj
  generalize (ups υ 11 15 (drS (υ 11 15))) = υ1 at *
  have hM1 := hM.sm' s1 (by decide)
  have sk1 : SmMk υ υ1 := SmMk.of s1 (by decide) (by decide)
  have e38 := s1.1 38 rfl
  have h1 : CM υ1 (υ1 38) (mO (υ 38)) := by rw [e38]; exact CM_cg sk1 h
  have e15 : υ1 15 = υ 15 := s1.1 15 rfl
  refine ⟨⟨by omega, by omega⟩, ⟨by omega, by omega⟩, ⟨by rw [e15]; omega, by rw [e15]; omega, by rw [e15]; have := hM.1; have := hM.2.1; omega, by rw [e15]; have := hM.1; have := hM.2.1; omega, h1.2.2.2.2.1⟩, fun z => ?_, fun z => ?_⟩
  · have c : 0 < mO (υ 38) (8 * p + drV (υ 11 15) (υ 64 37)) := by rw [← cell, ← e38]; exact z.2.2.2.2
    refine doHave37 hM1 (hH.sm s1 (by decide) rfl) h1.1 h1.2.1 (Int.le_refl _) rfl (by decide) h1.2.2.1 h1.2.2.2.1 d (by rw [sk1.2.2.1]; exact hp) (by rw [sk1.2.1]; exact r) c (fun τ sm e => ?_)
    refine hQ τ ((s1.mono (by decide) (by decide)).trans (sm.mono (by decide) (by decide))) (fun j hj => by rw [sm.1 11 rfl]; exact j1 j hj) ?_ ?_
    · rw [sm.1 11 rfl, v1]; unfold lvS; rw [if_pos c]
    · rw [e, e38, hvs_cg sk1]
      unfold lvC lvK
      rw [if_pos c, if_pos rfl]
  · have c : ¬ 0 < mO (υ 38) (8 * p + drV (υ 11 15) (υ 64 37)) := fun y => z ⟨hp.1, by rw [e15]; omega, r.1, by rw [e15]; omega, by rw [e38, cell]; exact y⟩
    refine drawC (d + 17) (by decide) ?_
    rw [v1]
    have s2 : Sm υ1 (ups υ1 11 15 (drS (drS (υ 11 15)))) [11] [] := Sm.refl.ups rfl (Or.inl (by decide))
    have v2 : (ups υ1 11 15 (drS (drS (υ 11 15)))) 11 15 = drS (drS (υ 11 15)) := ups_hit
    have j2 : ∀ j, j ≠ 15 → (ups υ1 11 15 (drS (drS (υ 11 15)))) 11 j = υ 11 j := fun j hj => by rw [ups_fn hj]; exact j1 j hj
    generalize (ups υ1 11 15 (drS (drS (υ 11 15)))) = υ2 at *
    have s12 : Sm υ υ2 [11] [] := s1.trans s2
    have sk2 : SmMk υ υ2 := SmMk.of s12 (by decide) (by decide)
    have f38 := s12.1 38 rfl
    have vS : lvS (υ 64 37) p (mO (υ 38)) (υ 11 15) = drS (drS (υ 11 15)) := by unfold lvS; rw [if_neg c]
    have sm' : ∀ τ, Sm υ2 τ [38] [] → Sm υ τ [28, 45, 46, 47, 48, 49, 11, 38] [] := fun τ s => (s12.mono (by decide) (by decide)).trans (s.mono (by decide) (by decide))
    refine ⟨⟨by omega, by omega⟩, by rw [j2 14 (by decide)]; exact ⟨by omega, by omega⟩, fun y => ?_, fun y => ?_⟩
    · rw [j2 14 (by decide)] at y
      refine hQ υ2 (sm' υ2 Sm.refl) j2 (by rw [v2, vS]) ?_
      rw [f38]
      unfold lvC lvK
      rw [if_neg c, if_pos y, if_neg (by decide), if_pos rfl]
    · rw [j2 14 (by decide)] at y
      refine holC (hM.sm' s12 (by decide)) (m := mO (υ 38)) (by rw [f38]; exact CM_cg sk2 h) (d + 13) (by rw [sk2.2.2.1]; exact hp) (by rw [sk2.2.1]; exact r) ?_
      rw [sk2.2.2.1]
      have fr := fs_r (p := fun q => decide (q ≠ p) && decide (0 < mO (υ 38) (8 * q + drV (υ 11 15) (υ 64 37)))) (υ 64 38).toNat
      have fr2 : hol (mO (υ 38)) p (drV (υ 11 15) (υ 64 37)) (υ 64 38) = -1 ∨ (0 ≤ hol (mO (υ 38)) p (drV (υ 11 15) (υ 64 37)) (υ 64 38) ∧ hol (mO (υ 38)) p (drV (υ 11 15) (υ 64 37)) (υ 64 38) < ((υ 64 38).toNat : Int)) := by
        rcases fr with a | a
        · exact Or.inl a.1
        · exact Or.inr ⟨a.1, a.2.1⟩
      refine ⟨by rcases fr2 with a | a; (rw [a]; decide); exact ⟨by omega, by omega⟩, fun w => ?_, fun w => ?_⟩
      · refine hQ υ2 (sm' υ2 Sm.refl) j2 (by rw [v2, vS]) ?_
        rw [f38]
        have kk : lvK (υ 64 37) (υ 64 38) (υ 11 14) p (mO (υ 38)) (υ 11 15) = 1 := by unfold lvK; rw [if_neg c, if_neg (show ¬ υ 11 14 ≤ drV (drS (υ 11 15)) 100 by omega), if_pos w]
        unfold lvC
        rw [kk, if_neg (by decide), if_pos rfl]
      · have fb : 0 ≤ hol (mO (υ 38)) p (drV (υ 11 15) (υ 64 37)) (υ 64 38) ∧ hol (mO (υ 38)) p (drV (υ 11 15) (υ 64 37)) (υ 64 38) < υ 64 38 := by rcases fr2 with a | a; exact absurd a w; omega
        refine bSt_doSteal_r37_in (d := d + 16) ⟨(by omega), (by omega), fun ν4 k4 => ⟨(by omega), (by omega), fun ν8 k8 => hQ ν8 (sm' ν8 ?_) ?_ ?_ ?_⟩⟩
        · rw [k8, k4]; exact (Sm.refl.ups rfl (Or.inl (by decide))).ups rfl (Or.inl (by decide))
        · intro j hj; rw [k8, ups_ne (by decide), k4, ups_ne (by decide)]; exact j2 j hj
        · rw [k8, ups_ne (by decide), k4, ups_ne (by decide), v2, vS]
        · rw [k8, ups_row, k4, ups_row, f38]
          have kk : lvK (υ 64 37) (υ 64 38) (υ 11 14) p (mO (υ 38)) (υ 11 15) = 2 := by unfold lvK; rw [if_neg c, if_neg (show ¬ υ 11 14 ≤ drV (drS (υ 11 15)) 100 by omega), if_neg w]
          unfold lvC
          rw [kk, if_neg (by decide), if_neg (by decide)]
          rfl
