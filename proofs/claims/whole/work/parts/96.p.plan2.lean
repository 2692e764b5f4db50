/-! ===== A PLAN READ, BY THE REFERENCE ===== -/
theorem figR {B : Int → Int} {N : Int} (hB : BTp B N) (d : Nat) {a : Int} {ω : Mem} (ha : 0 ≤ a ∧ a ≤ N) (ht : TqR ω B N a) (h4 : ω 64 4 = -1) {Q : RV → Mem → Prop} (h0 : ∀ w, dgt B N a = .inl w → ∀ τ, Sm ω τ [64] [3, 4] → τ 64 4 = w → Q (rI 0) τ) (h1 : ∀ a' v, dgt B N a = .inr (a', v) → ∀ τ, Sm ω τ [64] [3] → TqR τ B N a' → Q (rI v) τ) : Cl (d + 4) mR_figureIf [aR 64] ω Q := by
  have hN := hB.1
  have r := (sk_r (B := B) (N := N) (a := a))
  have r2 := r.2 ha.2
  have b := hB.r (a := sk B N a) (by omega)
  unfold dgt at h0 h1
  refine bR_figureIf_in ⟨by rw [h4]; decide, fun z => absurd h4 z, fun _ => bR_figure_in (lookR hB d ⟨by omega, by omega⟩ ht (fun τ s t => ⟨⟨by omega, by omega⟩, fun z => hereR hB (d + 1) ⟨by omega, by omega⟩ t ?_, fun z => ?_⟩))⟩
  · have := h1 _ _ (if_pos z) (ups τ 64 3 (sk B N a + 1)) (s.ups rfl (Or.inr rfl)) (t.to _)
    rw [t.2.1]
    exact this
  · exact badR (d + 1) (by rw [s.2 4 rfl]; exact h4) t (fun τ2 s2 t2 e => h0 _ (if_neg z) τ2 ((s.mono (by decide) (by decide)).trans (s2.mono (by decide) (by decide))) e)
theorem figDead (d : Nat) {ω : Mem} {w : Int} (h4 : ω 64 4 = w) (hw : 0 ≤ w ∧ w ≤ 1000) {Q : RV → Mem → Prop} (hq : Q (rI 0) ω) : Cl (d + 4) mR_figureIf [aR 64] ω Q :=
  bR_figureIf_in ⟨by rw [h4]; exact ⟨by omega, by omega⟩, fun _ => hq, fun z => absurd z (by rw [h4]; omega)⟩
theorem pstepR {B : Int → Int} {N : Int} (hB : BTp B N) (d : Nat) {a F : Int} {ω : Mem} (hF : 0 ≤ F ∧ F ≤ 295) (ha : 0 ≤ a ∧ a ≤ N) (ht : TqR ω B N a) (h4 : ω 64 4 = -1) {Q : RV → Mem → Prop}
    (h0 : ∀ w, pSt B N a = .inl w → ∀ τ, Sm ω τ [64, 79] [3, 4] → (∀ j, ¬ (F ≤ j ∧ j < F + 5) → τ 79 j = ω 79 j) → τ 64 4 = w → Q rV τ)
    (h1 : ∀ a' f, pSt B N a = .inr (a', f) → ∀ τ, Sm ω τ [64, 79] [3] → (∀ j, ¬ (F ≤ j ∧ j < F + 5) → τ 79 j = ω 79 j) → TqR τ B N a' → (∀ w, 0 ≤ w → w < 5 → τ 79 (F + w) = f w) → Q rV τ) : Cl (d + 5) mR_stepText [aR 64, aI F] ω Q := by
  have hN := hB.1
  have r := (sk_r (B := B) (N := N) (a := a))
  have r2 := r.2 ha.2
  have b := hB.r (a := sk B N a) (by omega)
  have so := stO_r (hr B N (sk B N a))
  obtain ⟨pw, -⟩ := pSt_r hB ha
  have pw' : ∀ w, pSt B N a = .inl w → 0 ≤ w ∧ w ≤ 1000 := fun w h => by have := pw w h; omega
  unfold pSt at h0 h1 pw'
  refine bR_stepText_in (lookR hB (d + 2) ⟨by omega, by omega⟩ ht (fun τ s t => ?_))
  have g4 : τ 64 4 = -1 := by rw [s.2 4 rfl]; exact h4
  have e79 : τ 79 = ω 79 := s.1 79 rfl
  -- behind the sort
  have body : ∀ st, st = stO (hr B N (sk B N a)) → Ev (d + 5) mR_stepText 50 [vR 64, vI F, vI (hr B N (sk B N a)), vI st, vI 1] [] τ Q := by
    intro st hst
    rw [← hst] at h0 h1 pw' so
    have lt : st ≠ -1 → sk B N a < N := fun c => by
      by_cases c3 : hr B N (sk B N a) = -1
      · exact absurd (by rw [hst, c3]; rfl) c
      · exact (b.2.2 c3).1
    generalize hr B N (sk B N a) = ch at *
    refine loop_up (G := fun i => ∀ μ, Sm τ μ [79] [] → (∀ w, 1 ≤ w → w < i → μ 79 (F + w) = -1) → (∀ j, ¬ (F ≤ j ∧ j < F + 5) → μ 79 j = ω 79 j) → Ev (d + 5) mR_stepText 50 [vR 64, vI F, vI ch, vI st, vI i] [] μ Q) (hi := 5) _ 1 rfl (by decide) (fun i i0 i1 g => ?_) ?_ τ Sm.refl (fun w a b => absurd b (by omega)) (fun j _ => by rw [e79])
    · intro μ sm lo hi
      refine bR_stepText_50 ⟨⟨by omega, by omega⟩, fun z => absurd z (by omega), fun _ => ⟨(by omega), (by omega), g _ (sm.ups rfl (Or.inl (by decide))) (fun w a b => ?_) (fun j hj => ?_)⟩⟩
      · by_cases e : w = i
        · rw [e, ups_hit]
        · rw [ups_fn (by omega)]; exact lo w a (by omega)
      · rw [ups_fn (by omega)]; exact hi j hj
    · intro μ sm lo hi
      have tμ : TqR μ B N (sk B N a) := t.sm sm rfl rfl rfl
      have sμ : Sm ω μ [64, 79] [3] := (s.mono (by decide) (by decide)).trans (sm.mono (by decide) (by decide))
      have k4' : μ 64 4 = -1 := by rw [sm.2 4 rfl]; exact g4
      refine bR_stepText_50 ⟨by decide, fun _ => ⟨⟨by omega, by omega⟩, fun z => ⟨hF.1, (by omega), ?_⟩, fun z => ?_⟩, fun z => absurd z (by decide)⟩
      · rw [if_neg z] at h0 h1 pw'
        have l := lt z
        rw [tμ.2.1]
        have t1 : TqR (ups (ups μ 79 F st) 64 3 (sk B N a + 1)) B N (sk B N a + 1) := (tμ.sm (S := [79]) (J := []) (Sm.refl.ups rfl (Or.inl (by decide))) rfl rfl rfl).to _
        have s1 : Sm ω (ups (ups μ 79 F st) 64 3 (sk B N a + 1)) [64, 79] [3] := (sμ.ups rfl (Or.inl (by decide))).ups rfl (Or.inr rfl)
        have l4 : (ups (ups μ 79 F st) 64 3 (sk B N a + 1)) 64 4 = -1 := by rw [ups_fn (by decide), ups_ne (by decide)]; exact k4'
        have g0 : (ups (ups μ 79 F st) 64 3 (sk B N a + 1)) 79 (F + 0) = st := by rw [ups_ne (by decide), Int.add_zero, ups_hit]
        have gm : ∀ w, 1 ≤ w → w < 5 → (ups (ups μ 79 F st) 64 3 (sk B N a + 1)) 79 (F + w) = -1 := fun w a b => by rw [ups_ne (by decide), ups_fn (by omega)]; exact lo w a b
        have fo : ∀ j, ¬ (F ≤ j ∧ j < F + 5) → (ups (ups μ 79 F st) 64 3 (sk B N a + 1)) 79 j = ω 79 j := fun j hj => by rw [ups_ne (by decide), ups_fn (by omega)]; exact hi j hj
        generalize (ups (ups μ 79 F st) 64 3 (sk B N a + 1)) = μ1 at *
        -- behind a failure
        have d148 : ∀ (w : Int) (μ' : Mem), (0 ≤ w ∧ w ≤ 1000) → μ' 64 4 = w → Q rV μ' → Ev (d + 5) mR_stepText 148 [vR 64, vI F, vI ch, vI st, vI 5] [] μ' Q := fun w μ' hw h hq => bR_stepText_148 ⟨⟨by omega, by omega⟩, fun _ => hq, fun _ => ⟨by rw [h]; exact ⟨by omega, by omega⟩, fun _ => hq, fun q => absurd q (by rw [h]; omega)⟩⟩
        refine ⟨fun z3 => ?_, fun z3 => ?_⟩
        · have z3' : st = 3 := by omega
          rw [if_pos z3'] at h1
          refine bR_stepText_148 ⟨⟨by omega, by omega⟩, fun _ => h1 _ _ rfl μ1 s1 fo t1 (fun w w0 w1 => ?_), fun q => absurd q (by omega)⟩
          have hw : w = 0 ∨ w = 1 ∨ w = 2 ∨ w = 3 ∨ w = 4 := by omega
          rcases hw with e | e | e | e | e <;> subst e
          · rw [g0, z3']; rfl
          · rw [gm _ (by decide) (by decide)]; rfl
          · rw [gm _ (by decide) (by decide)]; rfl
          · rw [gm _ (by decide) (by decide)]; rfl
          · rw [gm _ (by decide) (by decide)]; rfl
        · rw [if_neg (show ¬ st = 3 by omega)] at h0 h1 pw'
          obtain ⟨p1, q1⟩ := dgt_r hB (a := sk B N a + 1) ⟨by omega, by omega⟩
          -- the thing, and the price
          have tail : ∀ (a2 v1 v2 : Int) (μ' : Mem), (0 ≤ a2 ∧ a2 ≤ N) → (∀ w, bnR (dgt B N a2) (fun d3 => if st = 1 then bnR (pCm B N d3.1) (fun d4 => .inr (d4.1, stF 1 v1 v2 d3.2 d4.2)) else .inr (d3.1, stF st v1 v2 d3.2 (-1))) = .inl w → ∀ τ, Sm ω τ [64, 79] [3, 4] → (∀ j, ¬ (F ≤ j ∧ j < F + 5) → τ 79 j = ω 79 j) → τ 64 4 = w → Q rV τ) → (∀ a' f, bnR (dgt B N a2) (fun d3 => if st = 1 then bnR (pCm B N d3.1) (fun d4 => .inr (d4.1, stF 1 v1 v2 d3.2 d4.2)) else .inr (d3.1, stF st v1 v2 d3.2 (-1))) = .inr (a', f) → ∀ τ, Sm ω τ [64, 79] [3] → (∀ j, ¬ (F ≤ j ∧ j < F + 5) → τ 79 j = ω 79 j) → TqR τ B N a' → (∀ w, 0 ≤ w → w < 5 → τ 79 (F + w) = f w) → Q rV τ) → Sm ω μ' [64, 79] [3] → TqR μ' B N a2 → (∀ j, ¬ (F ≤ j ∧ j < F + 5) → μ' 79 j = ω 79 j) → μ' 79 (F + 0) = st → μ' 79 (F + 1) = v1 → μ' 79 (F + 2) = v2 → μ' 79 (F + 4) = -1 → Cl (d + 4) mR_figureIf [aR 64] μ' (fun r7 τ8 => oI r7 (fun w9 => ((0 : Int) ≤ (F + 3)) ∧ (((F + 3) : Int) < 300) ∧ Ev (d + 5) mR_stepText 148 [vR 64, vI F, vI ch, vI st, vI 5] [] (ups τ8 79 (F + 3) w9) Q)) := by
            intro a2 v1 v2 μ' ha2 h0 h1 s2 t2 f2 w0 w1 w2 w4
            have m4 : μ' 64 4 = -1 := by rw [s2.2 4 rfl]; exact h4
            obtain ⟨p3, q3⟩ := dgt_r hB ha2
            refine figR hB d ha2 t2 m4 (fun w ei τ3 s3 e4 => ⟨(by omega), (by omega), ?_⟩) (fun a3 v3 ei τ3 s3 t3 => ⟨(by omega), (by omega), ?_⟩)
            · rw [ei] at h0
              have := p3 w ei
              refine d148 w _ ⟨by omega, by omega⟩ (by rw [ups_ne (by decide)]; exact e4) (h0 w rfl _ (((s2.mono (by decide) (by decide)).trans (s3.mono (by decide) (by decide))).ups rfl (Or.inl (by decide))) (fun j hj => by rw [ups_fn (by omega), s3.1 79 rfl]; exact f2 j hj) (by rw [ups_ne (by decide)]; exact e4))
            · rw [ei] at h0 h1
              have r3 := q3 a3 v3 ei
              have s4 : Sm ω (ups τ3 79 (F + 3) v3) [64, 79] [3] := (s2.trans (s3.mono (by decide) (by decide))).ups rfl (Or.inl (by decide))
              have t4 : TqR (ups τ3 79 (F + 3) v3) B N a3 := t3.sm (S := [79]) (J := []) (Sm.refl.ups rfl (Or.inl (by decide))) rfl rfl rfl
              have c : (ups τ3 79 (F + 3) v3) 79 (F + 3) = v3 := ups_hit
              have f4 : ∀ j, j ≠ F + 3 → (ups τ3 79 (F + 3) v3) 79 j = μ' 79 j := fun j hj => by rw [ups_fn hj, s3.1 79 rfl]
              have n4 : (ups τ3 79 (F + 3) v3) 64 4 = -1 := by rw [s4.2 4 rfl]; exact h4
              generalize (ups τ3 79 (F + 3) v3) = μ4 at *
              have fo4 : ∀ j, ¬ (F ≤ j ∧ j < F + 5) → μ4 79 j = ω 79 j := fun j hj => by rw [f4 j (by omega)]; exact f2 j hj
              refine bR_stepText_148 ⟨⟨by omega, by omega⟩, fun z1 => ?_, fun z1 => ⟨by rw [n4]; decide, fun q => absurd n4 q, fun _ => ?_⟩⟩
              · have un : bnR (Sum.inr (a3, v3)) (fun d3 : Int × Int => if st = 1 then bnR (pCm B N d3.1) (fun d4 => Sum.inr (d4.1, stF 1 v1 v2 d3.2 d4.2)) else .inr (d3.1, stF st v1 v2 d3.2 (-1))) = Sum.inr (a3, stF st v1 v2 v3 (-1)) := if_neg z1
                rw [un] at h1
                refine h1 a3 _ rfl μ4 s4 fo4 t4 (fun w w0' w1' => ?_)
                have hw : w = 0 ∨ w = 1 ∨ w = 2 ∨ w = 3 ∨ w = 4 := by omega
                rcases hw with e | e | e | e | e <;> subst e
                · rw [f4 _ (by omega), w0]; rfl
                · rw [f4 _ (by omega), w1]; rfl
                · rw [f4 _ (by omega), w2]; rfl
                · rw [c]; rfl
                · rw [f4 _ (by omega), w4]; rfl
              · have un : bnR (Sum.inr (a3, v3)) (fun d3 : Int × Int => if st = 1 then bnR (pCm B N d3.1) (fun d4 => Sum.inr (d4.1, stF 1 v1 v2 d3.2 d4.2)) else .inr (d3.1, stF st v1 v2 d3.2 (-1))) = bnR (pCm B N a3) (fun d4 => Sum.inr (d4.1, stF 1 v1 v2 v3 d4.2)) := if_pos z1
                rw [un] at h0 h1
                unfold pCm at h0 h1
                have rr := (sk_r (B := B) (N := N) (a := a3))
                have rr2 := rr.2 r3.1.2
                have b5 := hB.r (a := sk B N a3) (by omega)
                refine lookR hB (d + 2) ⟨by omega, by omega⟩ t4 (fun τ5 s5 t5 => ⟨⟨by omega, by omega⟩, fun y => ?_, fun y => ?_⟩)
                · rw [if_neg y] at h0
                  exact badR (d + 3) (by rw [s5.2 4 rfl]; exact n4) t5 (fun τ6 s6 t6 e6 => h0 _ rfl τ6 (((s4.mono (by decide) (by decide)).trans (s5.mono (by decide) (by decide))).trans (s6.mono (by decide) (by decide))) (fun j hj => by rw [s6.1 79 rfl, s5.1 79 rfl]; exact fo4 j hj) e6)
                · rw [if_pos y] at h0 h1
                  have lt5 := (b5.2.2 (by omega)).1
                  rw [t5.2.1]
                  obtain ⟨p5, q5⟩ := nmr_r hB (lo := 0) (hi := 99) (a := sk B N a3 + 1) ⟨by omega, by omega⟩
                  have s6 : Sm ω (ups τ5 64 3 (sk B N a3 + 1)) [64, 79] [3] := (s4.trans (s5.mono (by decide) (by decide))).ups rfl (Or.inr rfl)
                  refine numR hB (d + 1) (by decide) (by decide) (a := sk B N a3 + 1) ⟨by omega, by omega⟩ (t5.to _) (by rw [s6.2 4 rfl]; exact h4) (fun w ej τ7 v s7 ex e1 rv => ⟨(by omega), (by omega), ?_⟩) (fun a4 v4 ej τ7 s7 t7 => ⟨(by omega), (by omega), ?_⟩)
                  · rw [ej] at h0
                    exact h0 w rfl _ (((s6.mono (by decide) (by decide)).trans (s7.mono (by decide) (by decide))).ups rfl (Or.inl (by decide))) (fun j hj => by rw [ups_fn (by omega), s7.1 79 rfl, ups_ne (by decide), s5.1 79 rfl]; exact fo4 j hj) (by rw [ups_ne (by decide)]; exact e1)
                  · rw [ej] at h1
                    have f7 : ∀ j, j ≠ F + 4 → (ups τ7 79 (F + 4) v4) 79 j = μ4 79 j := fun j hj => by rw [ups_fn hj, s7.1 79 rfl, ups_ne (by decide), s5.1 79 rfl]
                    refine h1 a4 _ rfl _ ((s6.trans (s7.mono (by decide) (by decide))).ups rfl (Or.inl (by decide))) (fun j hj => by rw [f7 j (by omega)]; exact fo4 j hj) (t7.sm (S := [79]) (J := []) (Sm.refl.ups rfl (Or.inl (by decide))) rfl rfl rfl) (fun w w0' w1' => ?_)
                    have hw : w = 0 ∨ w = 1 ∨ w = 2 ∨ w = 3 ∨ w = 4 := by omega
                    rcases hw with e | e | e | e | e <;> subst e
                    · rw [f7 _ (by omega), f4 _ (by omega), w0, z1]; rfl
                    · rw [f7 _ (by omega), f4 _ (by omega), w1]; rfl
                    · rw [f7 _ (by omega), f4 _ (by omega), w2]; rfl
                    · rw [f7 _ (by omega), c]; rfl
                    · rw [ups_hit]; rfl
          -- all behind is dead
          have dtail : ∀ (w : Int) (μ' : Mem), (0 ≤ w ∧ w ≤ 1000) → (∀ τ, Sm ω τ [64, 79] [3, 4] → (∀ j, ¬ (F ≤ j ∧ j < F + 5) → τ 79 j = ω 79 j) → τ 64 4 = w → Q rV τ) → Sm ω μ' [64, 79] [3, 4] → (∀ j, ¬ (F ≤ j ∧ j < F + 5) → μ' 79 j = ω 79 j) → μ' 64 4 = w → Cl (d + 4) mR_figureIf [aR 64] μ' (fun r7 τ8 => oI r7 (fun w9 => ((0 : Int) ≤ (F + 3)) ∧ (((F + 3) : Int) < 300) ∧ Ev (d + 5) mR_stepText 148 [vR 64, vI F, vI ch, vI st, vI 5] [] (ups τ8 79 (F + 3) w9) Q)) := by
            intro w μ' hw hq s2 f2 e4
            refine figDead d e4 hw ⟨(by omega), (by omega), d148 w _ hw (by rw [ups_ne (by decide)]; exact e4) (hq _ (s2.ups rfl (Or.inl (by decide))) (fun j hj => by rw [ups_fn (by omega)]; exact f2 j hj) (by rw [ups_ne (by decide)]; exact e4))⟩
          refine figR hB d ⟨by omega, by omega⟩ t1 l4 (fun w ei τ2 s2 e4 => ⟨(by omega), (by omega), ?_⟩) (fun a1 v1 ei τ2 s2 t2 => ⟨(by omega), (by omega), ?_⟩)
          · rw [ei] at h0
            have pw1 := p1 w ei
            have hq := h0 w rfl
            have s3 : Sm ω τ2 [64, 79] [3, 4] := (s1.mono (by decide) (by decide)).trans (s2.mono (by decide) (by decide))
            refine ⟨fun z0 => ?_, fun z0 => ⟨(by omega), (by omega), ?_⟩⟩
            · refine figDead d (w := w) (by rw [ups_ne (by decide)]; exact e4) ⟨by omega, by omega⟩ ⟨(by omega), (by omega), ?_⟩
              exact dtail w _ ⟨by omega, by omega⟩ hq ((s3.ups rfl (Or.inl (by decide))).ups rfl (Or.inl (by decide))) (fun j hj => by rw [ups_fn (by omega), ups_fn (by omega), s2.1 79 rfl]; exact fo j hj) (by rw [ups_ne (by decide), ups_ne (by decide)]; exact e4)
            · exact dtail w _ ⟨by omega, by omega⟩ hq ((s3.ups rfl (Or.inl (by decide))).ups rfl (Or.inl (by decide))) (fun j hj => by rw [ups_fn (by omega), ups_fn (by omega), s2.1 79 rfl]; exact fo j hj) (by rw [ups_ne (by decide), ups_ne (by decide)]; exact e4)
          · rw [ei] at h0 h1 pw'
            have r1 := q1 a1 v1 ei
            have s3 : Sm ω (ups τ2 79 (F + 1) v1) [64, 79] [3] := (s1.trans (s2.mono (by decide) (by decide))).ups rfl (Or.inl (by decide))
            have t3 : TqR (ups τ2 79 (F + 1) v1) B N a1 := t2.sm (S := [79]) (J := []) (Sm.refl.ups rfl (Or.inl (by decide))) rfl rfl rfl
            have c1 : (ups τ2 79 (F + 1) v1) 79 (F + 1) = v1 := ups_hit
            have f3 : ∀ j, j ≠ F + 1 → (ups τ2 79 (F + 1) v1) 79 j = μ1 79 j := fun j hj => by rw [ups_fn hj, s2.1 79 rfl]
            have n4 : (ups τ2 79 (F + 1) v1) 64 4 = -1 := by rw [s3.2 4 rfl]; exact h4
            generalize (ups τ2 79 (F + 1) v1) = μ3 at *
            refine ⟨fun z0 => ?_, fun z0 => ⟨(by omega), (by omega), ?_⟩⟩
            · change (∀ w, bnR (if st = 0 then Sum.inr (a1, -1) else dgt B N a1) _ = .inl w → _) at h0
              change (∀ a' f, bnR (if st = 0 then Sum.inr (a1, -1) else dgt B N a1) _ = .inr (a', f) → _) at h1
              rw [if_neg z0] at h0 h1
              obtain ⟨p2, q2⟩ := dgt_r hB (a := a1) ⟨by omega, by omega⟩
              refine figR hB d ⟨by omega, by omega⟩ t3 n4 (fun w ej τ4 s4 e4 => ⟨(by omega), (by omega), ?_⟩) (fun a2 v2 ej τ4 s4 t4 => ⟨(by omega), (by omega), ?_⟩)
              · rw [ej] at h0
                have pw2 := p2 w ej
                exact dtail w _ ⟨by omega, by omega⟩ (h0 w rfl) (((s3.mono (by decide) (by decide)).trans (s4.mono (by decide) (by decide))).ups rfl (Or.inl (by decide))) (fun j hj => by rw [ups_fn (by omega), s4.1 79 rfl, f3 j (by omega)]; exact fo j hj) (by rw [ups_ne (by decide)]; exact e4)
              · rw [ej] at h0 h1
                have r4 := q2 a2 v2 ej
                have f5 : ∀ j, j ≠ F + 2 → (ups τ4 79 (F + 2) v2) 79 j = μ3 79 j := fun j hj => by rw [ups_fn hj, s4.1 79 rfl]
                refine tail a2 v1 v2 _ ⟨by omega, by omega⟩ h0 h1 ((s3.trans (s4.mono (by decide) (by decide))).ups rfl (Or.inl (by decide))) (t4.sm (S := [79]) (J := []) (Sm.refl.ups rfl (Or.inl (by decide))) rfl rfl rfl) (fun j hj => by rw [f5 j (by omega), f3 j (by omega)]; exact fo j hj) ?_ ?_ ups_hit ?_
                · rw [f5 _ (by omega), f3 _ (by omega)]; exact g0
                · rw [f5 _ (by omega)]; exact c1
                · rw [f5 _ (by omega), f3 _ (by omega)]; exact gm 4 (by decide) (by decide)
            · have un : ∀ k : Int × Int → Int ⊕ (Int × (Int → Int)), bnR (if st = 0 then Sum.inr (a1, -1) else dgt B N a1) k = k (a1, -1) := fun k => by rw [if_pos z0]; rfl
              change (∀ w, bnR (if st = 0 then Sum.inr (a1, -1) else dgt B N a1) _ = .inl w → _) at h0
              change (∀ a' f, bnR (if st = 0 then Sum.inr (a1, -1) else dgt B N a1) _ = .inr (a', f) → _) at h1
              rw [un] at h0 h1
              have f5 : ∀ j, j ≠ F + 2 → (ups μ3 79 (F + 2) (-1)) 79 j = μ3 79 j := fun j hj => ups_fn hj
              refine tail a1 v1 (-1) _ ⟨by omega, by omega⟩ h0 h1 (s3.ups rfl (Or.inl (by decide))) (t3.sm (S := [79]) (J := []) (Sm.refl.ups rfl (Or.inl (by decide))) rfl rfl rfl) (fun j hj => by rw [f5 j (by omega), f3 j (by omega)]; exact fo j hj) ?_ ?_ ups_hit ?_
              · rw [f5 _ (by omega), f3 _ (by omega)]; exact g0
              · rw [f5 _ (by omega)]; exact c1
              · rw [f5 _ (by omega), f3 _ (by omega)]; exact gm 4 (by decide) (by decide)
      · rw [if_pos z] at h0
        refine badR (d + 3) k4' tμ (fun τ2 s2 t2 e2 => h0 _ rfl τ2 ((sμ.mono (by decide) (by decide)).trans (s2.mono (by decide) (by decide))) (fun j hj => by rw [s2.1 79 rfl]; exact hi j hj) e2)
  have so' : ∀ c, stO c = (if c = 100 then 3 else if c = 104 then 0 else if c = 115 then 1 else if c = 116 then 2 else -1) := fun _ => rfl
  refine ⟨⟨by omega, by omega⟩, fun z1 => ⟨fun z2 => ⟨fun z3 => ⟨fun z4 => body _ ?_, fun z4 => body _ ?_⟩, fun z3 => body _ ?_⟩, fun z2 => body _ ?_⟩, fun z1 => body _ ?_⟩
  · rw [so', if_neg z4, if_neg z1, if_neg z2, if_neg z3]
  · rw [so', if_pos z4]
  · rw [so', if_neg (by omega), if_neg z1, if_neg z2, if_pos z3]
  · rw [so', if_neg (by omega), if_neg z1, if_pos z2]
  · rw [so', if_neg (by omega), if_pos z1]
theorem pplanR {B : Int → Int} {N : Int} (hB : BTp B N) (d : Nat) {p : Int} (hp : 0 ≤ p ∧ p < 5) {Q : RV → Mem → Prop} : ∀ (k : Nat) (i a : Int) (S : Int → Int → Int) (ω : Mem), 0 ≤ i → i + (k : Int) = 12 → 1 ≤ k → 0 ≤ a ∧ a ≤ N → TqR ω B N a → ω 64 4 = -1 → ω 80 p = i → (∀ j w, 0 ≤ j → j < i → 0 ≤ w → w < 5 → ω 79 (5 * (12 * p + j) + w) = S j w) → (∀ w, pPl B N k i a S = .inl w → ∀ τ, Sm ω τ [64, 79, 80] [3, 4] → (∀ j, ¬ (60 * p ≤ j ∧ j < 60 * p + 60) → τ 79 j = ω 79 j) → (∀ j, j ≠ p → τ 80 j = ω 80 j) → Q (rI w) τ) → (∀ c S', pPl B N k i a S = .inr (c, S') → ∀ τ, Sm ω τ [64, 79, 80] [3, 4] → (∀ j, ¬ (60 * p ≤ j ∧ j < 60 * p + 60) → τ 79 j = ω 79 j) → (∀ j, j ≠ p → τ 80 j = ω 80 j) → τ 80 p = c → (∀ j w, 0 ≤ j → j < c → 0 ≤ w → w < 5 → τ 79 (5 * (12 * p + j) + w) = S' j w) → Q (rI (-1)) τ) → Ev (d + 6) mR_readPlan 19 [vR 64, vI p, vI 1] [] ω Q := by
  have hN := hB.1
  intro k
  induction k with
  | zero => intro i a S ω i0 i1 hk; omega
  | succ k ih =>
    intro i a S ω i0 i1 hk ha ht h4 h80 hS h0 h1
    obtain ⟨pw, q⟩ := pSt_r hB ha
    unfold pPl at h0 h1
    refine bR_readPlan_19 ⟨by decide, fun z => absurd z (by decide), fun _ => ⟨by rw [h4]; decide, fun z => absurd h4 z, fun _ => ⟨hp.1, hp.2, ?_⟩⟩⟩
    rw [h80]
    refine pstepR hB d (F := 5 * (12 * p + i)) ⟨by omega, by omega⟩ ha ht h4 (fun w e τ s f e4 => ?_) (fun a' f e τ s fr t rw' => ?_)
    · rw [e] at h0
      have w1 := pw w e
      refine ⟨by rw [e4]; exact ⟨by omega, by omega⟩, fun _ => ?_, fun z => absurd z (by rw [e4]; omega)⟩
      have s2 : Sm ω (ups (ups τ 80 p (τ 80 p + 1)) 64 3 (τ 64 3 + 0)) [64, 79, 80] [3, 4] := ((s.mono (by decide) (by decide)).ups rfl (Or.inl (by decide))).ups rfl (Or.inr rfl)
      have n4 : (ups (ups τ 80 p (τ 80 p + 1)) 64 3 (τ 64 3 + 0)) 64 4 = w := by rw [ups_fn (by decide), ups_ne (by decide)]; exact e4
      refine bR_readPlan_19 ⟨by decide, fun _ => bR_readPlan_113 ⟨by rw [n4]; exact ⟨by omega, by omega⟩, fun _ => ?_, fun z => absurd z (by rw [n4]; omega)⟩, fun z => absurd rfl z⟩
      rw [n4]
      exact h0 w rfl _ s2 (fun j hj => by rw [ups_ne (by decide), ups_ne (by decide)]; exact f j (by omega)) (fun j hj => by rw [ups_ne (by decide), ups_fn hj, s.1 80 rfl])
    · rw [e] at h0 h1
      obtain ⟨q1, q2, q3⟩ := q a' f e
      have r := (sk_r (B := B) (N := N) (a := a'))
      have r2 := r.2 q1.2
      have nsp := sk_n (B := B) (N := N) (a := a')
      have b := hB.r (a := sk B N a') (by omega)
      change (∀ w, (if hr B N (sk B N a') = -1 then Sum.inr (i + 1, fun j => if j = i then f else S j) else if hr B N (sk B N a') = 59 ∧ k ≠ 0 then pPl B N k (i + 1) (sk B N a' + 1) (fun j => if j = i then f else S j) else .inl (sk B N a')) = .inl w → _) at h0
      change (∀ c S', (if hr B N (sk B N a') = -1 then Sum.inr (i + 1, fun j => if j = i then f else S j) else if hr B N (sk B N a') = 59 ∧ k ≠ 0 then pPl B N k (i + 1) (sk B N a' + 1) (fun j => if j = i then f else S j) else .inl (sk B N a')) = .inr (c, S') → _) at h1
      have e80 : τ 80 p = i := by rw [s.1 80 rfl]; exact h80
      have n4 : τ 64 4 = -1 := by rw [s.2 4 rfl]; exact h4
      have rows : ∀ j w, 0 ≤ j → j < i + 1 → 0 ≤ w → w < 5 → τ 79 (5 * (12 * p + j) + w) = (if j = i then f else S j) w := fun j w j0 j1 w0 w1 => by
        by_cases c : j = i
        · rw [if_pos c, c]; exact rw' w w0 w1
        · rw [if_neg c, fr _ (by omega)]; exact hS j w j0 (by omega) w0 w1
      have fo : ∀ j, ¬ (60 * p ≤ j ∧ j < 60 * p + 60) → τ 79 j = ω 79 j := fun j hj => fr j (by omega)
      refine ⟨by rw [n4]; decide, fun z => absurd n4 z, fun _ => ?_⟩
      rw [e80]
      have t2 : TqR (ups τ 80 p (i + 1)) B N a' := t.sm (S := [80]) (J := []) (Sm.refl.ups rfl (Or.inl (by decide))) rfl rfl rfl
      refine lookR hB (d + 3) ⟨by omega, by omega⟩ t2 (fun τ3 s3 t3 => ?_)
      have sA : Sm ω τ3 [64, 79, 80] [3, 4] := ((s.mono (by decide) (by decide)).ups rfl (Or.inl (by decide))).trans (s3.mono (by decide) (by decide))
      have m4 : τ3 64 4 = -1 := by rw [s3.2 4 rfl, ups_ne (by decide)]; exact n4
      have f80 : τ3 80 p = i + 1 := by rw [s3.1 80 rfl, ups_hit]
      have g80 : ∀ j, j ≠ p → τ3 80 j = ω 80 j := fun j hj => by rw [s3.1 80 rfl, ups_fn hj, s.1 80 rfl]
      have g79 : τ3 79 = τ 79 := by rw [s3.1 79 rfl, ups_ne (by decide)]
      -- no further step
      have stop : ¬ (hr B N (sk B N a') = 59 ∧ k ≠ 0) → Ev (d + 6) mR_readPlan 19 [vR 64, vI p, vI 0] [] (ups τ3 64 3 (τ3 64 3 + 0)) Q := by
        intro ns
        have t4 := t3.to (sk B N a' + 0)
        rw [Int.add_zero] at t4
        rw [t3.2.1, Int.add_zero]
        have sB : Sm ω (ups τ3 64 3 (sk B N a')) [64, 79, 80] [3, 4] := sA.ups rfl (Or.inr rfl)
        have o4 : (ups τ3 64 3 (sk B N a')) 64 4 = -1 := by rw [ups_fn (by decide)]; exact m4
        refine bR_readPlan_19 ⟨by decide, fun _ => bR_readPlan_113 ⟨by rw [o4]; decide, fun z => absurd o4 z, fun _ => lookR hB (d + 3) ⟨by omega, by omega⟩ t4 (fun τ5 s5 t5 => ?_)⟩, fun z => absurd rfl z⟩
        rw [sk_id nsp] at t5 ⊢
        have sC : Sm ω τ5 [64, 79, 80] [3, 4] := sB.trans (s5.mono (by decide) (by decide))
        have p4 : τ5 64 4 = -1 := by rw [s5.2 4 rfl]; exact o4
        have h79 : τ5 79 = τ 79 := by rw [s5.1 79 rfl, ups_ne (by decide), g79]
        have h80' : τ5 80 = τ3 80 := by rw [s5.1 80 rfl, ups_ne (by decide)]
        refine ⟨⟨by omega, by omega⟩, fun y => ?_, fun y => badR (d + 4) p4 t5 (fun τ6 s6 t6 e6 => ?_)⟩
        · rw [if_pos y] at h1
          rw [p4]
          exact h1 _ _ rfl τ5 sC (fun j hj => by rw [h79]; exact fo j hj) (fun j hj => by rw [h80']; exact g80 j hj) (by rw [h80']; exact f80) (fun j w j0 j1 w0 w1 => by rw [h79]; exact rows j w j0 j1 w0 w1)
        · rw [if_neg y, if_neg ns] at h0
          rw [e6]
          exact h0 _ rfl τ6 (sC.trans (s6.mono (by decide) (by decide))) (fun j hj => by rw [s6.1 79 rfl, h79]; exact fo j hj) (fun j hj => by rw [s6.1 80 rfl, h80']; exact g80 j hj)
      refine ⟨⟨by omega, by omega⟩, fun z => stop (fun q => z q.1), fun z => ⟨by rw [f80]; exact ⟨by omega, by omega⟩, fun y => stop (fun q => ?_), fun y => ?_⟩⟩
      · rw [f80] at y
        have := q.2; omega
      · rw [f80] at y
        have n1 : ¬ hr B N (sk B N a') = -1 := by omega
        have lt := (b.2.2 n1).1
        rw [if_neg n1, if_pos ⟨z, by omega⟩] at h0 h1
        rw [t3.2.1]
        have sB : Sm ω (ups τ3 64 3 (sk B N a' + 1)) [64, 79, 80] [3, 4] := sA.ups rfl (Or.inr rfl)
        refine ih (i + 1) (sk B N a' + 1) (fun j => if j = i then f else S j) _ (by omega) (by omega) (by omega) ⟨by omega, by omega⟩ (t3.to _) (by rw [ups_fn (by decide)]; exact m4) (by rw [ups_ne (by decide)]; exact f80) (fun j w j0 j1 w0 w1 => by rw [ups_ne (by decide), g79]; exact rows j w j0 j1 w0 w1) (fun w e τ4 s4 f4 g4 => h0 w e τ4 (sB.trans s4) (fun j hj => by rw [f4 j hj, ups_ne (by decide), g79]; exact fo j hj) (fun j hj => by rw [g4 j hj, ups_ne (by decide)]; exact g80 j hj)) (fun c S' e τ4 s4 f4 g4 e3 r4 => h1 c S' e τ4 (sB.trans s4) (fun j hj => by rw [f4 j hj, ups_ne (by decide), g79]; exact fo j hj) (fun j hj => by rw [g4 j hj, ups_ne (by decide)]; exact g80 j hj) e3 r4)
theorem planR {B : Int → Int} {N : Int} (hB : BTp B N) (d : Nat) {p : Int} (hp : 0 ≤ p ∧ p < 5) {ω : Mem} (h2 : ω 64 2 = N) (h65 : ∀ i, 0 ≤ i → i < N → ω 65 i = B i) {Q : RV → Mem → Prop} (h0 : ∀ w, pPl B N 12 0 0 (fun _ _ => 0) = .inl w → ∀ τ, Sm ω τ [64, 79, 80] [3, 4] → (∀ j, ¬ (60 * p ≤ j ∧ j < 60 * p + 60) → τ 79 j = ω 79 j) → (∀ j, j ≠ p → τ 80 j = ω 80 j) → Q (rI w) τ) (h1 : ∀ c S', pPl B N 12 0 0 (fun _ _ => 0) = .inr (c, S') → ∀ τ, Sm ω τ [64, 79, 80] [3, 4] → (∀ j, ¬ (60 * p ≤ j ∧ j < 60 * p + 60) → τ 79 j = ω 79 j) → (∀ j, j ≠ p → τ 80 j = ω 80 j) → τ 80 p = c → (∀ j w, 0 ≤ j → j < c → 0 ≤ w → w < 5 → τ 79 (5 * (12 * p + j) + w) = S' j w) → Q (rI (-1)) τ) : Cl (d + 6) mR_readPlan [aR 64, aI p] ω Q := by
  have hN := hB.1
  refine bR_readPlan_in ⟨hp.1, hp.2, ?_⟩
  have s0 : Sm ω (ups (ups (ups ω 64 3 0) 64 4 (-1)) 80 p 0) [64, 79, 80] [3, 4] := ((Sm.refl.ups rfl (Or.inr rfl)).ups rfl (Or.inr rfl)).ups rfl (Or.inl (by decide))
  refine pplanR hB d hp 12 0 0 (fun _ _ => 0) _ (by decide) (by decide) (by decide) ⟨by omega, by omega⟩ ⟨by rw [s0.2 2 rfl]; exact h2, by rw [ups_ne (by decide), ups_fn (by decide), ups_hit], fun i i0 i1 => by rw [s0.1 65 rfl]; exact h65 i i0 i1⟩ (by rw [ups_ne (by decide), ups_hit]) ups_hit (fun j w a b => absurd b (by omega)) (fun w e τ s f g => h0 w e τ (s0.trans s) (fun j hj => by rw [f j hj, ups_ne (by decide), ups_ne (by decide), ups_ne (by decide)]) (fun j hj => by rw [g j hj, ups_fn hj, ups_ne (by decide), ups_ne (by decide)])) (fun c S' e τ s f g e3 r => h1 c S' e τ (s0.trans s) (fun j hj => by rw [f j hj, ups_ne (by decide), ups_ne (by decide), ups_ne (by decide)]) (fun j hj => by rw [g j hj, ups_fn hj, ups_ne (by decide), ups_ne (by decide)]) e3 r)
