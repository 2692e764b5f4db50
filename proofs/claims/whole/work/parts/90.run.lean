/-! ===== CASE run: a plan run with the row put aside ===== -/
theorem Sm.drop {σ τ : Mem} {S : List Nat} {J : List Int} {j : Int} (h : Sm σ τ S (j :: J)) (e : τ 64 j = σ 64 j) : Sm σ τ S J := by
  refine ⟨h.1, fun i hi => ?_⟩
  by_cases q : i = j
  · rw [q]; exact e
  · refine h.2 i ?_
    cases hc : (j :: J).contains i with
    | false => rfl
    | true =>
      rcases List.mem_cons.mp (List.contains_iff_mem.mp hc) with z | z
      · exact absurd z q
      · rw [List.contains_iff_mem.mpr z] at hi; cases hi
/-- a question on both sides, with the class's second cells -/
theorem Inv.scr40 {σ τ : Mem} (h : Inv σ) (hs : Sm σ τ (40 :: scrSL) scrSJ) (hg : RG (τ 40)) : Inv τ := by
  -- first all but row 40
  have s1 : Sm σ (su τ 40 (σ 40)) scrSL scrSJ := by
    refine ⟨fun a ha => ?_, fun j hj => ?_⟩
    · by_cases q : a = 40
      · rw [q, su_eq]
      · rw [su_ne q]
        refine hs.1 a ?_
        cases hc : (40 :: scrSL).contains a with
        | false => rfl
        | true =>
          rcases List.mem_cons.mp (List.contains_iff_mem.mp hc) with z | z
          · exact absurd z q
          · rw [List.contains_iff_mem.mpr z] at ha; cases ha
    · rw [su_ne (by decide)]; exact hs.2 j hj
  have i1 := h.scrS s1
  have s2 : Sm (su τ 40 (σ 40)) τ [40] [] := by
    refine ⟨fun a ha => ?_, fun j _ => by rw [su_ne (by decide)]⟩
    rw [su_ne (fun q => by rw [q] at ha; cases ha)]
  have r := i1.2.2.2.2
  exact ⟨⟨i1.1.1.sm s2 (by decide) (by decide), i1.1.2.1.sm s2 (by decide) (by decide), RowR.sm i1.1.2.2.1 s2 (by decide), RowV.sm i1.1.2.2.2 s2 (by decide) (by decide)⟩, ⟨i1.2.1.1.sm s2 (by decide) (by decide), i1.2.1.2.1.sm s2 (by decide) (by decide), i1.2.1.2.2.1.sm s2 (by decide) (by decide), i1.2.1.2.2.2.sm s2 (by decide) (by decide)⟩, i1.2.2.1.sm s2 (by decide) (by decide), i1.2.2.2.1.sm s2 (by decide) (by decide), r.cg (by rw [s2.1 11 rfl]) (s2.2 41 rfl) (s2.2 43 rfl) (s2.1 1 rfl) (by rw [s2.1 0 rfl]) hg⟩
theorem pair_k {F R : Nat} {as : List AV} {σ : Mem} {K : Int → Mem → Prop} (hI : Inv σ)
    (hF : Cl 999 F (aR 11 :: as) σ (fun r τ => ∃ v, r = rI v ∧ rg v ∧ Sm σ τ (40 :: scrSL) scrSJ ∧ RG (τ 40) ∧ K v τ))
    (hRf : ∀ v τ, rg v → Inv τ → Sm σ τ (40 :: scrSL) scrSJ → K v τ → Cl 999 R (aR 64 :: as) τ (fun r ω => r = rI v ∧ Sm τ ω (81 :: scrSL) scrSJ ∧ (∀ i, 0 ≤ i → i < 355 → ω 81 i = τ 81 i) ∧ RG (ω 81))) : Pair F R as σ := by
  refine Cl.mono hF (fun r τ h => ?_)
  obtain ⟨v, rfl, hv, hs, hg, hk⟩ := h
  have hI2 := hI.scr40 hs hg
  refine ⟨⟨hs.1 0 rfl, hs.1 1 rfl⟩, Cl.mono (hRf v τ hv hI2 hs hk) (fun r ω g => ?_)⟩
  obtain ⟨rfl, gs, ge, gg⟩ := g
  exact ⟨⟨rfl, hv⟩, ⟨by rw [gs.1 0 rfl, hs.1 0 rfl], by rw [gs.1 1 rfl, hs.1 1 rfl]⟩, hI2.quiet gs ge gg⟩
/-- all joys of a row -/
def jsum (m : Int → Int) (P : Int) : Int := sumI (fun i => m (54 + i)) P.toNat
theorem jsum_r {σ : Mem} (hM : MarkI σ) {c m : Int → Int} (h : CM σ c m) : 0 ≤ jsum m (σ 64 38) ∧ jsum m (σ 64 38) ≤ 47952 := by
  have hW := h.2.1
  have n2 := hM.2.1.2.1
  have a := sumI_nn (f := fun i => m (54 + i)) (n := (σ 64 38).toNat) (fun i i0 i1 => hW.1 _ (by omega) (by omega))
  have b := sumI_ext (f := fun i => m (54 + i)) (m := (σ 64 38).toNat) (n := 6) (by omega) (fun i i0 i1 => hW.1 _ (by omega) (by omega))
  have c := sumI_nn (f := m) (n := 48) (fun i i0 i1 => hW.1 _ i0 (by omega))
  have d := hW.2.2.1
  have e := hW.2.2.2.2.2.2.1
  unfold jsum
  omega
theorem joyAll39 {υ : Mem} (hM : MarkI υ) {m : Int → Int} (hS : RowS (υ 40) m) (d : Nat) {Q : RV → Mem → Prop} (h : Q (rI (jsum m (υ 64 38))) υ) : Cl (d + 3) mSt_joyOfAll [aR 39] υ Q := by
  have n2 := hM.2.1.2.1
  have m2 := hM.1.2.1
  refine bSt_joyOfAll_r39_in ?_
  refine loop_up (G := fun i => Ev (d + 3) mSt_joyOfAll 4 [vR 39, vI (sumI (fun i => m (54 + i)) i.toNat), vI i] [] υ Q) (hi := υ 64 38) _ 0 rfl n2.1 (fun p p0 p1 g => ?_) ?_
  · rw [sumI_S p0] at g
    have e : υ 40 (3 + p * 4 + 2) = m (54 + p) := Cor.eq hS (Cor.joy ⟨by omega, by omega⟩)
    refine bSt_joyOfAll_r39_4 ⟨⟨by omega, by omega⟩, ⟨by omega, by omega⟩, fun z => absurd z (by omega), fun _ => ⟨(by omega), (by omega), ?_⟩⟩
    rw [e]; exact g
  · exact bSt_joyOfAll_r39_4 ⟨⟨by omega, by omega⟩, ⟨by omega, by omega⟩, fun _ => h, fun z => absurd z (by omega)⟩
theorem joyAllR {υ : Mem} (hM : MarkI υ) (d : Nat) {Q : RV → Mem → Prop} (h : Q (rI (jsum (υ 81) (υ 64 38))) υ) : Cl (d + 1) mR_joysOfAll [aR 64] υ Q := by
  have n2 := hM.2.1.2.1
  refine bR_joysOfAll_in ?_
  refine loop_up (G := fun i => Ev (d + 1) mR_joysOfAll 4 [vR 64, vI (sumI (fun i => υ 81 (54 + i)) i.toNat), vI i] [] υ Q) (hi := υ 64 38) _ 0 rfl n2.1 (fun p p0 p1 g => ?_) ?_
  · rw [sumI_S p0] at g
    exact bR_joysOfAll_4 ⟨⟨by omega, by omega⟩, ⟨by omega, by omega⟩, fun z => absurd z (by omega), fun _ => ⟨(by omega), (by omega), g⟩⟩
  · exact bR_joysOfAll_4 ⟨⟨by omega, by omega⟩, ⟨by omega, by omega⟩, fun _ => h, fun z => absurd z (by omega)⟩
theorem asideR {σ : Mem} (d : Nat) {Q : RV → Mem → Prop} (h : ∀ τ, Sm σ τ [64, 91] [43] → τ 64 43 = 1 → (∀ i, 0 ≤ i → i < 355 → τ 91 i = σ 81 i) → Q rV τ) : Cl (d + 1) mR_putAside [aR 64] σ Q := by
  refine bR_putAside_in ?_
  refine loop_up (G := fun i => ∀ τ, Sm σ τ [64, 91] [] → (∀ j, 0 ≤ j → j < i → τ 91 j = σ 81 j) → Ev (d + 1) mR_putAside 2 [vR 64, vI i] [] τ Q) (hi := 355) _ 0 rfl (by decide) (fun i i0 i1 g => ?_) ?_ σ Sm.refl (fun j a b => absurd b (by omega))
  · intro τ sm lo
    refine bR_putAside_2 ⟨⟨by omega, by omega⟩, fun z => absurd z (by omega), fun _ => ⟨i0, g _ (sm.ups rfl (Or.inl (by decide))) (fun j a b => ?_)⟩⟩
    by_cases e : j = i
    · rw [e, ups_hit, sm.1 81 rfl]
    · rw [ups_fn e]; exact lo j a (by omega)
  · intro τ sm lo
    refine bR_putAside_2 ⟨by decide, fun _ => h _ ((sm.mono (by decide) (by decide)).ups rfl (Or.inr rfl)) ups_hit (fun j a b => ?_), fun z => absurd z (by decide)⟩
    rw [ups_ne (by decide)]; exact lo j a b
theorem backR {σ : Mem} (d : Nat) (hg : RG (σ 81)) (hg2 : ∀ i, 0 ≤ i → i < 355 → rg (σ 91 i)) {Q : RV → Mem → Prop} (h : ∀ τ, Sm σ τ [64, 81] [43] → τ 64 43 = 0 → (∀ i, 0 ≤ i → i < 355 → τ 81 i = σ 91 i) → RG (τ 81) → Q rV τ) : Cl (d + 1) mR_takeBack [aR 64] σ Q := by
  refine bR_takeBack_in ?_
  refine loop_up (G := fun i => ∀ τ, Sm σ τ [64, 81] [] → (∀ j, 0 ≤ j → j < i → τ 81 j = σ 91 j) → RG (τ 81) → Ev (d + 1) mR_takeBack 2 [vR 64, vI i] [] τ Q) (hi := 355) _ 0 rfl (by decide) (fun i i0 i1 g => ?_) ?_ σ Sm.refl (fun j a b => absurd b (by omega)) hg
  · intro τ sm lo gg
    refine bR_takeBack_2 ⟨⟨by omega, by omega⟩, fun z => absurd z (by omega), fun _ => ⟨i0, g _ (sm.ups rfl (Or.inl (by decide))) (fun j a b => ?_) ?_⟩⟩
    · by_cases e : j = i
      · rw [e, ups_hit, sm.1 91 rfl]
      · rw [ups_fn e]; exact lo j a (by omega)
    · rw [ups_row, sm.1 91 rfl]; exact gg.offu (hg2 i i0 i1)
  · intro τ sm lo gg
    refine bR_takeBack_2 ⟨by decide, fun _ => h _ ((sm.mono (by decide) (by decide)).ups rfl (Or.inr rfl)) ups_hit (fun j a b => ?_) ?_, fun z => absurd z (by decide)⟩
    · rw [ups_ne (by decide)]; exact lo j a b
    · rw [ups_ne (by decide)]; exact gg
def ChQ (σ : Mem) (o : Option (List Cla)) (n : Int) : Nat → Int → Mem → Mem → Int → Prop
  | 0, i, υ, τ, v => τ = υ ∧ v = i
  | k + 1, i, υ, τ, v => (¬ canP σ n i (mO (υ 40)) ∧ τ = υ ∧ v = i) ∨ (canP σ n i (mO (υ 40)) ∧ ∃ ζ, StC σ o (pE σ n i 0) (pE σ n i 1) (pE σ n i 2) (pE σ n i 3) (pE σ n i 4) (υ 40) (ζ 40) ∧ ChQ σ o n k (i + 1) ζ τ v)
theorem goC {σ : Mem} (hM : MarkI σ) {o : Option (List Cla)} (hH : Held σ o) (hP : PlanI σ) (d : Nat) {n w j0 : Int} (hn : 0 ≤ n ∧ n < σ 64 27) {Q : RV → Mem → Prop} : ∀ (k : Nat) (i : Int) (υ : Mem), 0 ≤ i → i + (k : Int) = σ 80 n → Sm σ υ (40 :: scrSL) [] → CM σ (υ 40) (mO (υ 40)) → (∀ τ v, ChQ σ o n k i υ τ v → Sm σ τ (40 :: scrSL) [] → CM σ (τ 40) (mO (τ 40)) → (0 ≤ v ∧ v ≤ σ 80 n) → Ev (d + 20) mF_run 116 [vR 11, vI n, vI w, vI j0, vI (σ 80 n), vI v, vI v] [] τ Q) → Ev (d + 20) mF_run 72 [vR 11, vI n, vI w, vI j0, vI (σ 80 n), vI i, vI i] [] υ Q
  | 0, i, υ, i0, i1, hs, hc, h => by
    obtain ⟨⟨z1, z2, z3⟩, -⟩ := hP.2 n hn.1 hn.2
    exact bF_run_72 ⟨⟨by omega, by omega⟩, ⟨by omega, by omega⟩, fun _ => h υ i ⟨rfl, rfl⟩ hs hc ⟨by omega, by omega⟩, fun z => absurd z (by omega)⟩
  | k + 1, i, υ, i0, i1, hs, hc, h => by
    obtain ⟨⟨z1, z2, z3⟩, -⟩ := hP.2 n hn.1 hn.2
    have sk : SmMk σ υ := SmMk.of hs (by decide) (by decide)
    have hM2 : MarkI υ := hM.sm hs (by decide) (by decide)
    have hP2 : PlanI υ := hP.sm hs (by decide) (by decide)
    have e79 : ∀ w, pE υ n i w = pE σ n i w := fun w => by unfold pE; rw [hs.1 79 rfl]
    have e27 : υ 64 27 = σ 64 27 := hs.2 27 rfl
    have e80 : υ 80 = σ 80 := hs.1 80 rfl
    refine bF_run_72 ⟨⟨by omega, by omega⟩, ⟨by omega, by omega⟩, fun z => absurd z (by omega), fun _ => ?_⟩
    refine mayStep39 hM2 hP2 (CM_cg sk hc) (d + 14) (by rw [e27]; exact hn) (by rw [e80]; exact ⟨by omega, by omega⟩) (fun can => ⟨by decide, fun _ => ?_, fun z => absurd z (by decide)⟩) (fun can => ⟨by decide, fun z => absurd rfl z, fun _ => ?_⟩)
    · have can' := can
      rw [sk.2.1, sk.2.2.1, e79, e79, e79, e79, e79] at can'
      refine doStep39 hM2 (hH.sm hs (by decide) rfl) hP2 (CM_cg sk hc) d (by rw [e27]; exact hn) (by rw [e80]; exact ⟨by omega, by omega⟩) can (fun ζ s3 st => ?_)
      rw [e79, e79, e79, e79, e79] at st
      have st' := StC_cg sk st
      have rel := stepC_ok hM hc can' st'
      exact goC hM hH hP d hn k (i + 1) ζ (by omega) (by omega) (hs.trans (s3.mono (by decide) (by decide))) rel (fun τ' v ch => h τ' v (Or.inr ⟨can', ζ, st', ch⟩))
    · have can' := can
      rw [sk.2.1, sk.2.2.1, e79, e79, e79, e79, e79] at can'
      exact h υ i (Or.inl ⟨can', rfl, rfl⟩) hs hc ⟨by omega, by omega⟩
theorem goR {σ : Mem} (hM : MarkI σ) {o : Option (List Cla)} (hH : Held σ o) (hP : PlanI σ) (d : Nat) {n w j0 : Int} (hn : 0 ≤ n ∧ n < σ 64 27) {u5 : Option AV} {Q : RV → Mem → Prop} : ∀ (k : Nat) (i v : Int) (υ τ ω : Mem), 0 ≤ i → i + (k : Int) = σ 80 n → ChQ σ o n k i υ τ v → Sm σ ω (40 :: 81 :: scrSL) (43 :: scrSJ) → rg (ω 64 43) → CM σ (υ 40) (ω 81) → (∀ ω', Sm ω ω' [73, 74, 81] [] → CM σ (τ 40) (ω' 81) → Ev (d + 23) mR_run 79 [vR 64, vI n, vI w, vI j0, vI v, u5] [] ω' Q) → Ev (d + 23) mR_run 33 [vR 64, vI n, vI w, vI j0, vI i, u5] [] ω Q
  | 0, i, v, υ, τ, ω, i0, i1, hch, s0, hq, hr, h => by
    obtain ⟨rfl, rfl⟩ := hch
    obtain ⟨⟨z1, z2, z3⟩, -⟩ := hP.2 n hn.1 hn.2
    have e80 : ω 80 = σ 80 := s0.1 80 rfl
    exact bR_run_33 ⟨(by omega), by have := hP.1; omega, ⟨by omega, by omega⟩, by rw [e80]; exact ⟨by omega, by omega⟩, fun _ => h ω Sm.refl hr, fun z => absurd z (by rw [e80]; omega)⟩
  | k + 1, i, v, υ, τ, ω, i0, i1, hch, s0, hq, hr, h => by
    obtain ⟨⟨z1, z2, z3⟩, -⟩ := hP.2 n hn.1 hn.2
    have sk : SmMk σ ω := SmMk.of s0 (by decide) (by decide)
    have hM2 : MarkI ω := hM.sm s0 (by decide) (by decide)
    have hP2 : PlanI ω := hP.sm s0 (by decide) (by decide)
    have e79 : ∀ w, pE ω n i w = pE σ n i w := fun w => by unfold pE; rw [s0.1 79 rfl]
    have e27 : ω 64 27 = σ 64 27 := s0.2 27 rfl
    have e80 : ω 80 = σ 80 := s0.1 80 rfl
    have eqm : ∀ i, 0 ≤ i → i < 74 → mO (υ 40) i = ω 81 i := fun i a b => mO_eq hr.1 a b
    have n1 := hM.2.1.1
    have n2 := hM.2.1.2.1
    refine bR_run_33 ⟨(by omega), by have := hP.1; omega, ⟨by omega, by omega⟩, by rw [e80]; exact ⟨by omega, by omega⟩, fun z => absurd z (by rw [e80]; omega), fun _ => ?_⟩
    refine canStepR hM2 hP2 hr.2.1 (by decide) hr.2.2.2.2.2 (d + 17) (by rw [e27]; exact hn) (by rw [e80]; exact ⟨by omega, by omega⟩) (fun can => ⟨by decide, fun z => absurd z (by decide), fun _ => ?_⟩) (fun can => ⟨by decide, fun _ => ?_, fun z => absurd rfl z⟩)
    · have can' : canP σ n i (ω 81) := by
        rw [sk.2.1, sk.2.2.1, e79, e79, e79, e79, e79] at can; exact can
      rcases hch with ⟨no, -⟩ | ⟨-, ζ, st, ch⟩
      · exact absurd (canM_cg n2.2 n1.2 eqm can') no
      · refine doStepR hM2 (hH.sm s0 (by decide) rfl) hP2 (by rw [sk.2.1, sk.2.2.1]; exact hr.2.1) hr.2.2.1 hr.2.2.2.2.2 hq d (by rw [e27]; exact hn) (by rw [e80]; exact ⟨by omega, by omega⟩) can (fun ω2 s2 st2 => ?_)
        rw [e79, e79, e79, e79, e79] at st2
        have st2' := StM_cg sk st2
        obtain ⟨rel, -⟩ := step_rel hM hr can' st st2'
        exact goR hM hH hP d hn k (i + 1) v ζ τ ω2 (by omega) (by omega) ch (s0.trans (s2.mono (by decide) (by decide))) (by rw [s2.1 64 rfl]; exact hq) rel (fun ω' s3 r3 => h ω' (s2.trans s3) r3)
    · have can' : ¬ canP σ n i (ω 81) := by
        rw [sk.2.1, sk.2.2.1, e79, e79, e79, e79, e79] at can; exact can
      rcases hch with ⟨no, rfl, rfl⟩ | ⟨yes, -⟩
      · exact h ω Sm.refl hr
      · exact absurd (canM_cg n2.2 n1.2 (fun i a b => (eqm i a b).symm) yes) can'
theorem c_run : ∀ (a b : Int) (σ : Mem), Inv σ → rg a → rg b → Pair mF_run mR_run [aI a, aI b] σ := by
  intro n w σ hI ha hb
  have hM := hI.1.2.1
  obtain ⟨o, hH⟩ := hI.heldO
  obtain ⟨⟨m1, m2, m3, m4⟩, ⟨n1, n2, n3, n4⟩, -⟩ := hI.1.2.1
  have hP := hI.2.2.1
  have q0 := hI.2.2.2.2.2.1
  have g40 : RG (σ 40) := hI.2.2.2.2.2.2.2.2
  have cm : CM σ (σ 38) (σ 81) := hI.relN.cm
  have C2 := hI.2.1.2.2.2.2.1
  obtain ⟨p1, p2, p3⟩ := hP.1
  by_cases hx : 0 < σ 64 37 ∧ (0 ≤ n ∧ n < σ 64 27) ∧ (0 ≤ w ∧ w ≤ 1)
  · obtain ⟨x1, x2, x3⟩ := hx
    obtain ⟨⟨z1, z2, z3⟩, -⟩ := hP.2 n x2.1 x2.2
    have cm0 : CM σ ((su σ 40 (cpy (σ 38) (σ 40) 0 0 175)) 40) (σ 81) := by
      rw [su_eq]
      have lo : ∀ i, 0 ≤ i → i < 175 → cpy (σ 38) (σ 40) 0 0 175 i = σ 38 i := fun i i0 i1 => by unfold cpy; rw [if_pos ⟨by omega, by omega⟩]; congr 1; omega
      refine ⟨cm.1.cg cm.2.1.2.2.2.2.2.2.1 (fun i i0 i1 => lo i i0 (by omega)) (fun _ _ _ => rfl), cm.2.1, cm.2.2.1, by rw [lo 2 (by decide) (by decide)]; exact cm.2.2.2.1, RG.ofcpy cm.2.2.2.2.1 g40, C2⟩
    have j0 := jsum_r hM cm
    refine pair_k (K := fun v τ => ∃ cnt, ChQ σ o n (σ 80 n).toNat 0 (su σ 40 (cpy (σ 38) (σ 40) 0 0 175)) τ cnt ∧ v = if w = 1 then jsum (mO (τ 40)) (σ 64 38) - jsum (σ 81) (σ 64 38) else if cnt = σ 80 n then -1 else cnt) hI ?_ (fun v τ hv hI2 hs hk => ?_)
    · refine bF_run_in (d := 979) ⟨ha, ⟨by omega, by omega⟩, fun _ => ⟨⟨by omega, by omega⟩, fun _ => ⟨hb, fun z => absurd z (by omega), fun _ => ⟨fun _ => ?_, fun z => absurd z (by omega)⟩⟩, fun q => absurd (by omega) q⟩, fun q => absurd (by omega) q⟩
      refine bSt_takeOver_r39_r38_in (d := 997) ⟨by decide, ?_⟩
      have s0 : Sm σ (su σ 40 (cpy (σ 38) (σ 40) 0 0 175)) (40 :: scrSL) [] := Sm.refl.su rfl (by decide)
      generalize su σ 40 (cpy (σ 38) (σ 40) 0 0 175) = υ0 at *
      have sk0 : SmMk σ υ0 := SmMk.of s0 (by decide) (by decide)
      refine joyAll39 (hM.sm s0 (by decide) (by decide)) cm0.1 995 ?_
      rw [sk0.2.2.1]
      refine bPl_sizeOf_in (d := 996) ⟨⟨by omega, by omega⟩, by rw [s0.1 29 rfl]; exact ⟨by omega, by omega⟩, fun _ => ⟨(by omega), ?_⟩, fun q => absurd (by rw [s0.1 29 rfl]; omega) q⟩
      rw [s0.1 36 rfl, z1]
      refine goC hM hH hP 979 x2 (σ 80 n).toNat 0 υ0 (by decide) (by omega) s0 cm0.mO (fun τ v ch s c r => ?_)
      have sk : SmMk σ τ := SmMk.of s (by decide) (by decide)
      have jr := jsum_r hM c
      have s' : Sm σ τ (40 :: scrSL) scrSJ := s.mono (by decide) (by decide)
      refine bF_run_116 (d := 979) ⟨hb, fun z => ⟨⟨by omega, by omega⟩, ⟨by omega, by omega⟩, fun y => ⟨v, rfl, ⟨by omega, by omega⟩, s', c.2.2.2.2.1, v, ch, by rw [if_neg z, if_neg y]⟩, fun y => ⟨-1, rfl, by decide, s', c.2.2.2.2.1, v, ch, by rw [if_neg z, if_pos y]⟩⟩, fun z => joyAll39 (hM.sm s (by decide) (by decide)) c.1 995 ?_⟩
      rw [sk.2.2.1]
      exact ⟨_, rfl, ⟨by omega, by omega⟩, s', c.2.2.2.2.1, v, ch, by rw [if_pos z]⟩
    · obtain ⟨cnt, ch, rfl⟩ := hk
      have e81 : τ 81 = σ 81 := hs.1 81 rfl
      have f37 : τ 64 37 = σ 64 37 := hs.2 37 rfl
      have f27 : τ 64 27 = σ 64 27 := hs.2 27 rfl
      have f43 : τ 64 43 = 0 := by rw [hs.2 43 rfl]; exact q0
      refine bR_run_in (d := 976) ⟨ha, hI2.mOK, by rw [f27]; omega, by rw [f27]; omega, fun _ => ⟨hb, fun _ => ?_, fun q => absurd x3 q⟩, fun q => absurd (by rw [f37, f27]; exact ⟨x1, x2⟩) q⟩
      refine asideR 997 (fun ω1 s1 v43 c91 => ?_)
      have s01 : Sm σ ω1 (40 :: 81 :: scrSL) (43 :: scrSJ) := (hs.mono (by decide) (by decide)).trans (s1.mono (by decide) (by decide))
      have sk1 : SmMk σ ω1 := SmMk.of s01 (by decide) (by decide)
      have o81 : ω1 81 = σ 81 := by rw [s1.1 81 rfl, e81]
      refine joyAllR (hM.sm s01 (by decide) (by decide)) 997 ?_
      rw [o81, sk1.2.2.1]
      refine goR hM hH hP 976 x2 (σ 80 n).toNat 0 cnt _ τ ω1 (by decide) (by omega) ch s01 (by rw [v43]; decide) (by rw [o81]; exact cm0) (fun ω2 s2 c2 => ?_)
      have s02 : Sm σ ω2 (40 :: 81 :: scrSL) (43 :: scrSJ) := s01.trans (s2.mono (by decide) (by decide))
      have sk2 : SmMk σ ω2 := SmMk.of s02 (by decide) (by decide)
      refine bR_run_79 (joyAllR (hM.sm s02 (by decide) (by decide)) 997 ?_)
      have ej : jsum (ω2 81) (ω2 64 38) = jsum (mO (τ 40)) (σ 64 38) := by
        rw [sk2.2.2.1]
        exact sumI_congr (fun i i0 i1 => (mO_eq c2.1 (by omega) (by omega)).symm)
      rw [ej]
      have r91 : ∀ i, 0 ≤ i → i < 355 → ω2 91 i = τ 81 i := fun i i0 i1 => by rw [s2.1 91 rfl]; exact c91 i i0 i1
      refine backR 997 c2.2.2.2.2.2 (fun i i0 i1 => by rw [r91 i i0 i1, e81]; exact C2 i) (fun ω3 s3 v3 c3 g3 => ?_)
      have fin : Sm τ ω3 (81 :: scrSL) scrSJ ∧ (∀ i, 0 ≤ i → i < 355 → ω3 81 i = τ 81 i) ∧ RG (ω3 81) := by
        refine ⟨Sm.drop (j := 43) (((s1.mono (by decide) (by decide)).trans (s2.mono (by decide) (by decide))).trans (s3.mono (by decide) (by decide))) (by rw [v3, f43]), fun i i0 i1 => by rw [c3 i i0 i1]; exact r91 i i0 i1, g3⟩
      have e80 : ω3 80 = σ 80 := by rw [s3.1 80 rfl, s02.1 80 rfl]
      refine ⟨hb, fun z => ⟨x2.1, (by omega), ?_, by rw [e80]; exact ⟨by omega, by omega⟩, fun y => ⟨?_, fin⟩, fun y => ⟨?_, fin⟩⟩, fun z => ⟨?_, fin⟩⟩
      · rw [if_neg z] at hv
        by_cases y : cnt = σ 80 n
        · rw [y]; exact ⟨by omega, by omega⟩
        · rw [if_neg y] at hv; exact hv
      · rw [e80] at y; rw [if_neg z, if_neg y]
      · rw [e80] at y; rw [if_neg z, if_pos y]
      · rw [if_pos z]
  · refine pair_q (v := -1000000) hI (by decide) ?_ ?_
    · exact bF_run_in (d := 979) ⟨ha, ⟨by omega, by omega⟩, fun h1 => ⟨⟨by omega, by omega⟩, fun h2 => ⟨hb, fun _ => ⟨rfl, rfl⟩, fun h3 => ⟨fun h4 => absurd ⟨by omega, by omega, h3, h4⟩ hx, fun _ => ⟨rfl, rfl⟩⟩⟩, fun _ => ⟨rfl, rfl⟩⟩, fun _ => ⟨rfl, rfl⟩⟩
    · exact bR_run_in (d := 976) ⟨ha, hI.mOK, p2, p3, fun h1 => ⟨hb, fun h2 => absurd ⟨h1.1, h1.2, h2⟩ hx, fun _ => ⟨rfl, rfl⟩⟩, fun _ => ⟨rfl, rfl⟩⟩
