/-! ===== CASE perform ===== -/
theorem canStepR {υ : Mem} (hM : MarkI υ) (hP : PlanI υ) {T P D B : Int} (hW : RowW T P D B (υ 81)) (hD : D ≤ 5000) (hg : RG (υ 81)) (d : Nat) {n i : Int} (hn : 0 ≤ n ∧ n < υ 64 27) (hi : 0 ≤ i ∧ i < υ 80 n) {Q : RV → Mem → Prop}
    (q1 : canM (υ 64 37) (υ 64 38) (pE υ n i 0) (pE υ n i 1) (pE υ n i 2) (pE υ n i 3) (pE υ n i 4) (υ 81) → Q (rI 1) υ) (q0 : ¬ canM (υ 64 37) (υ 64 38) (pE υ n i 0) (pE υ n i 1) (pE υ n i 2) (pE υ n i 3) (pE υ n i 4) (υ 81) → Q (rI 0) υ) : Cl (d + 5) mR_canStep [aR 64, aI (5 * (12 * n + i))] υ Q := by
  obtain ⟨⟨m1, m2, m3, m4⟩, ⟨n1, n2, n3, n4⟩, -⟩ := hM
  obtain ⟨⟨p1, p2, p3⟩, p4⟩ := hP
  obtain ⟨⟨z1, z2, z3⟩, k4⟩ := p4 n hn.1 hn.2
  obtain ⟨-, l2, l3⟩ := k4 i hi.1 hi.2
  have r1 := l3 1 (by decide) (by decide)
  have r2 := l3 2 (by decide) (by decide)
  have r3 := l3 3 (by decide) (by decide)
  have r4 := l3 4 (by decide) (by decide)
  have ck : mOK υ := ⟨n1, n2, n3, n4, hg⟩
  have f72 := hW.2.2.2.2.2.1
  unfold canM at q1 q0
  rw [show pE υ n i 0 = υ 79 (5 * (12 * n + i)) by show υ 79 (5 * (12 * n + i) + 0) = _; rw [Int.add_zero]] at q1 q0
  unfold pE at q1 q0
  generalize hj : 5 * (12 * n + i) = j at *
  refine bR_canStep_in ⟨(by omega), (by omega), (by omega), (by omega), (by omega), (by omega), (by omega), (by omega), ⟨by omega, by omega⟩, fun z => ⟨⟨by omega, by omega⟩, ⟨by omega, by omega⟩, ck, fun y => q1 (Or.inl ⟨z, (by omega), (by omega), y.2.2.2.2⟩), fun y => q0 (fun w => y (by omega))⟩, fun z => ⟨fun z1 => ⟨(by omega), (by omega), ⟨by omega, by omega⟩, ⟨by omega, by omega⟩, ⟨by omega, by omega⟩, ⟨by omega, by omega⟩, ck, fun y => q1 (Or.inr (Or.inl ⟨z1, (by omega), (by omega), (by omega), (by omega), y.2.2.2.2.2.2.2.1, (by omega), y.2.2.2.2.2.2.2.2.2.2⟩)), fun y => q0 (fun w => y (by omega))⟩, fun z1 => ⟨fun z2 => ⟨⟨by omega, by omega⟩, ⟨by omega, by omega⟩, ⟨by omega, by omega⟩, ck, fun y => q1 (Or.inr (Or.inr (Or.inl ⟨z2, (by omega), (by omega), (by omega), (by omega), y.2.2.2.2.2.2.2⟩))), fun y => q0 (fun w => y (by omega))⟩, fun z2 => ⟨⟨by omega, by omega⟩, fun y => q0 (fun w => by omega), fun y => q1 (Or.inr (Or.inr (Or.inr ⟨by omega, by omega⟩)))⟩⟩⟩⟩
theorem doStepR {υ : Mem} (hM : MarkI υ) {o : Option (List Cla)} (hH : Held υ o) (hP : PlanI υ) (hW : RowW (υ 64 37) (υ 64 38) 999 47952 (υ 81)) (h0 : 0 ≤ υ 81 114 ∧ υ 81 114 ≤ 60) (hg : RG (υ 81)) (hq : rg (υ 64 43)) (d : Nat) {n i : Int} (hn : 0 ≤ n ∧ n < υ 64 27) (hi : 0 ≤ i ∧ i < υ 80 n) (hc : canM (υ 64 37) (υ 64 38) (pE υ n i 0) (pE υ n i 1) (pE υ n i 2) (pE υ n i 3) (pE υ n i 4) (υ 81)) {Q : RV → Mem → Prop}
    (hQ : ∀ τ, Sm υ τ [73, 74, 81] [] → StM (υ 64 43) υ o (pE υ n i 0) (pE υ n i 1) (pE υ n i 2) (pE υ n i 3) (pE υ n i 4) (υ 81) (τ 81) → Q rV τ) : Cl (d + 22) mR_doStep [aR 64, aI (5 * (12 * n + i))] υ Q := by
  have n1 := hM.2.1.1
  have n2 := hM.2.1.2.1
  obtain ⟨⟨p1, p2, p3⟩, p4⟩ := hP
  obtain ⟨⟨z1, z2, z3⟩, k4⟩ := p4 n hn.1 hn.2
  obtain ⟨-, l2, l3⟩ := k4 i hi.1 hi.2
  have e0 : pE υ n i 0 = υ 79 (5 * (12 * n + i)) := by show υ 79 (5 * (12 * n + i) + 0) = _; rw [Int.add_zero]
  rw [e0] at hc hQ
  refine bR_doStep_in ⟨(by omega), (by omega), (by omega), (by omega), (by omega), (by omega), (by omega), (by omega), ⟨by omega, by omega⟩, fun z => ?_, fun z => ⟨fun z1 => ⟨(by omega), (by omega), ?_⟩, fun z1 => ⟨fun z2 => ?_, fun z2 => ?_⟩⟩⟩
  · have w1 : (0 ≤ pE υ n i 1 ∧ pE υ n i 1 < υ 64 38) ∧ (0 ≤ pE υ n i 3 ∧ pE υ n i 3 < υ 64 37) ∧ 0 < υ 81 (8 * pE υ n i 1 + pE υ n i 3) := by rcases hc with c | c | c | c <;> omega
    refine haveNowR hM hH hW (Int.le_refl _) rfl (by decide) h0 hq d w1.1 w1.2.1 w1.2.2 (fun τ sm e => hQ τ sm ⟨fun _ => e, fun y => absurd y (by omega), fun y => absurd y (by omega), fun y => absurd y (by omega)⟩)
  · have w1 : (0 ≤ pE υ n i 1 ∧ pE υ n i 1 < υ 64 38) ∧ (0 ≤ pE υ n i 2 ∧ pE υ n i 2 < υ 64 38) ∧ pE υ n i 1 ≠ pE υ n i 2 ∧ (0 ≤ pE υ n i 3 ∧ pE υ n i 3 < υ 64 37) := by rcases hc with c | c | c | c <;> omega
    show Cl (d + 21) mR_sellNow [aR 64, aI (pE υ n i 1), aI (pE υ n i 2), aI (pE υ n i 3), aI (pE υ n i 4)] υ _
    generalize pE υ n i 1 = a at *
    generalize pE υ n i 2 = b at *
    generalize pE υ n i 3 = x at *
    generalize pE υ n i 4 = v at *
    refine bR_sellNow_in (d := d + 19) ⟨(by omega), (by omega), fun μ1 h1 => ⟨(by omega), (by omega), fun μ2 h2 => bR_pay_in (d := d + 19) ⟨(by omega), (by omega), fun ν1 k1 => ⟨(by omega), (by omega), fun ν2 k2 => hQ ν2 ?_ ⟨fun y => absurd y (by omega), fun _ => ?_, fun y => absurd y (by omega), fun y => absurd y (by omega)⟩⟩⟩⟩⟩
    · rw [k2, k1, h2, h1]; exact (((Sm.refl.ups rfl (Or.inl (by decide))).ups rfl (Or.inl (by decide))).ups rfl (Or.inl (by decide))).ups rfl (Or.inl (by decide))
    · have t2 : μ2 81 = mvC (υ 81) (8 * a + x) (8 * b + x) := by rw [h2, ups_row, h1, ups_row]; rfl
      rw [k2, ups_row, k1, ups_row, t2, mv_py (by omega) (by omega) (by omega) (by omega)]; rfl
  · have w1 : (0 ≤ pE υ n i 1 ∧ pE υ n i 1 < υ 64 38) ∧ (0 ≤ pE υ n i 2 ∧ pE υ n i 2 < υ 64 38) ∧ pE υ n i 1 ≠ pE υ n i 2 ∧ (0 ≤ pE υ n i 3 ∧ pE υ n i 3 < υ 64 37) := by rcases hc with c | c | c | c <;> omega
    show Cl (d + 21) mR_stealNow [aR 64, aI (pE υ n i 1), aI (pE υ n i 2), aI (pE υ n i 3)] υ _
    generalize pE υ n i 1 = a at *
    generalize pE υ n i 2 = b at *
    generalize pE υ n i 3 = x at *
    refine bR_stealNow_in (d := d + 20) ⟨(by omega), (by omega), fun μ1 h1 => ⟨(by omega), (by omega), fun μ2 h2 => hQ μ2 ?_ ⟨fun y => absurd y (by omega), fun y => absurd y (by omega), fun _ => ?_, fun y => absurd y (by omega)⟩⟩⟩
    · rw [h2, h1]; exact (Sm.refl.ups rfl (Or.inl (by decide))).ups rfl (Or.inl (by decide))
    · rw [h2, ups_row, h1, ups_row]; rfl
  · refine endDayR hW (Int.le_refl _) n1.2 ⟨rfl, n2⟩ (by decide) hg (d + 19) (fun τ sm e => hQ τ (sm.mono (by decide) (by decide)) ⟨fun y => absurd y (by omega), fun y => absurd y (by omega), fun y => absurd y (by omega), fun _ => e⟩)
theorem StC_cg {σ τ : Mem} (sk : SmMk σ τ) {o : Option (List Cla)} {k a b x v : Int} {c c' : Int → Int} (h : StC τ o k a b x v c c') : StC σ o k a b x v c c' := by
  obtain ⟨h1, h2, h3, h4⟩ := h
  exact ⟨fun z => by rw [h1 z, hvs_cg sk], h2, h3, fun z => by rw [← sk.2.2.1]; exact h4 z⟩
theorem StM_cg {σ τ : Mem} (sk : SmMk σ τ) {q : Int} {o : Option (List Cla)} {k a b x v : Int} {c c' : Int → Int} (h : StM q τ o k a b x v c c') : StM q σ o k a b x v c c' := by
  obtain ⟨h1, h2, h3, h4⟩ := h
  exact ⟨fun z => by rw [h1 z, hvs_cg sk], h2, h3, fun z => by rw [← sk.2.2.1]; exact h4 z⟩
theorem CM_cg {σ τ : Mem} (sk : SmMk σ τ) {c m : Int → Int} (h : CM σ c m) : CM τ c m := by
  unfold CM; rw [sk.2.1, sk.2.2.1]; exact h
/-- the class's part alone -/
theorem stepC_ok {σ : Mem} (hM : MarkI σ) {o : Option (List Cla)} {k a b x v : Int} {c c' : Int → Int} (h : CM σ c (mO c)) (hc : canM (σ 64 37) (σ 64 38) k a b x v (mO c)) (h1 : StC σ o k a b x v c c') : CM σ c' (mO c') := by
  by_cases k3 : k = 3
  · obtain ⟨hS, hW, h0, hc2, C1, C2⟩ := h
    have e1 := h1.2.2.2 k3
    have n1 := hM.2.1.1
    have n2 := hM.2.1.2.1
    have d9 : mO c 72 < 999 := by
      rcases hc with z | z | z | z
      · omega
      · omega
      · omega
      · exact z.2
    have w1 : RowW (σ 64 37) (σ 64 38) 999 47952 (mOf c) := hW.cg (fun i i0 i1 => by unfold mO; rw [fu_ne (by omega)])
    have e72 : mO c 72 = c 0 := by unfold mO; rw [fu_ne (by decide)]; rfl
    have e72' : mOf c 72 = c 0 := rfl
    have e72'' : mOf c' 72 = c' 0 := rfl
    have w2 := (w1.D (D' := mOf c 72) (Int.le_refl _)).day n1 n2 e1.M
    have w3 := w2.D (D' := 999) (by rw [e72'', e1.2.2.2.1]; omega)
    obtain ⟨s, w, e⟩ := mO_W (rowS_mOf c') w3
    exact ⟨s, w, by rw [e]; decide, by rw [e1.2.2.2.2.1 2 (Or.inl rfl)]; exact hc2, e1.2.2.2.2.2, (RG.mOf' e1.2.2.2.2.2).offu (by decide)⟩
  · exact (step_rel (q := 1) (m' := (if k = 0 then gnL 1 (mO c) a (hvs σ o (mO c) a x) else if k = 1 then mvC (pyC (mO c) (60 + b) (60 + a) v) (8 * a + x) (8 * b + x) else mvC (mO c) (8 * b + x) (8 * a + x))) hM h hc h1 ⟨fun z => if_pos z, fun z => by rw [if_neg (by omega), if_pos z], fun z => by rw [if_neg (by omega), if_neg (by omega)], fun z => absurd z k3⟩).1.mO
/-- the class went on from step i -/
def StP (σ : Mem) (o : Option (List Cla)) (n i : Int) (υ τ : Mem) : Prop := Sm υ τ cSl [] ∧ KC (υ 41) (υ 42) (υ 38) (τ 41) (τ 42) ∧ StC σ o (pE σ n i 0) (pE σ n i 1) (pE σ n i 2) (pE σ n i 3) (pE σ n i 4) (υ 38) (τ 38)
abbrev canP (σ : Mem) (n i : Int) (m : Int → Int) : Prop := canM (σ 64 37) (σ 64 38) (pE σ n i 0) (pE σ n i 1) (pE σ n i 2) (pE σ n i 3) (pE σ n i 4) m
def ChP (σ : Mem) (o : Option (List Cla)) (n : Int) : Nat → Int → Mem → Mem → Int → Prop
  | 0, i, υ, τ, v => τ = υ ∧ v = i
  | k + 1, i, υ, τ, v => (¬ canP σ n i (mO (υ 38)) ∧ τ = υ ∧ v = i) ∨ (canP σ n i (mO (υ 38)) ∧ ∃ ζ, StP σ o n i υ ζ ∧ ChP σ o n k (i + 1) ζ τ v)
theorem performC {σ : Mem} (hM : MarkI σ) {o : Option (List Cla)} (hH : Held σ o) (hP : PlanI σ) (d : Nat) {n : Int} (hn : 0 ≤ n ∧ n < σ 64 27) {Q : RV → Mem → Prop} : ∀ (k : Nat) (i : Int) (υ : Mem), 0 ≤ i → i + (k : Int) = σ 80 n → Sm σ υ cSl [] → CM σ (υ 38) (mO (υ 38)) → ((0 ≤ υ 41 1 ∧ υ 41 1 < 40) ∧ (0 ≤ υ 41 2 ∧ υ 41 2 ≤ 40)) → (∀ τ v, ChP σ o n k i υ τ v → Sm σ τ cSl [] → rg v → Q (rI v) τ) → Ev (d + 20) mF_perform 37 [vR 11, vI n, vI (σ 80 n), vI i, vI i] [] υ Q
  | 0, i, υ, i0, i1, hs, hc, hr, h => by
    obtain ⟨⟨z1, z2, z3⟩, -⟩ := hP.2 n hn.1 hn.2
    exact bF_perform_37 ⟨⟨by omega, by omega⟩, ⟨by omega, by omega⟩, fun _ => h υ i ⟨rfl, rfl⟩ hs ⟨by omega, by omega⟩, fun z => absurd z (by omega)⟩
  | k + 1, i, υ, i0, i1, hs, hc, hr, h => by
    obtain ⟨⟨z1, z2, z3⟩, -⟩ := hP.2 n hn.1 hn.2
    have sk : SmMk σ υ := SmMk.of hs (by decide) (by decide)
    have hM2 : MarkI υ := hM.sm' hs (by decide)
    have hP2 : PlanI υ := hP.sm hs (by decide) (by decide)
    have e79 : ∀ w, pE υ n i w = pE σ n i w := fun w => by unfold pE; rw [hs.1 79 rfl]
    have e27 : υ 64 27 = σ 64 27 := by rw [hs.1 64 rfl]
    have e80 : υ 80 = σ 80 := hs.1 80 rfl
    refine bF_perform_37 ⟨⟨by omega, by omega⟩, ⟨by omega, by omega⟩, fun z => absurd z (by omega), fun _ => ?_⟩
    refine mayStep37 hM2 hP2 (CM_cg sk hc) (d + 14) (by rw [e27]; exact hn) (by rw [e80]; exact ⟨by omega, by omega⟩) (fun can => ⟨by decide, fun _ => ?_, fun z => absurd z (by decide)⟩) (fun can => ⟨by decide, fun z => absurd rfl z, fun _ => ?_⟩)
    · have can' := can
      rw [sk.2.1, sk.2.2.1, e79, e79, e79, e79, e79] at can'
      refine keepC hr (d + 17) (fun τ gs gk => ?_)
      have e38 := gs.1 38 rfl
      have s2 : Sm σ τ cSl [] := hs.trans (gs.mono (by decide) (by decide))
      have sk2 : SmMk σ τ := SmMk.of s2 (by decide) (by decide)
      refine doStep37 (hM.sm' s2 (by decide)) (hH.sm s2 (by decide) rfl) (hP.sm s2 (by decide) (by decide)) (m := mO (υ 38)) (by rw [e38]; exact CM_cg sk2 hc) d (by rw [gs.1 64 rfl, e27]; exact hn) (by rw [gs.1 80 rfl, e80]; exact ⟨by omega, by omega⟩) (by
        have e79' : ∀ w, pE τ n i w = pE σ n i w := fun w => by unfold pE; rw [s2.1 79 rfl]
        rw [sk2.2.1, sk2.2.2.1, e79', e79', e79', e79', e79']; exact can') (fun ζ s3 st => ?_)
      have e79' : ∀ w, pE τ n i w = pE σ n i w := fun w => by unfold pE; rw [s2.1 79 rfl]
      rw [e79', e79', e79', e79', e79', e38] at st
      have st' := StC_cg sk2 st
      have s4 : Sm υ ζ cSl [] := (gs.mono (by decide) (by decide)).trans (s3.mono (by decide) (by decide))
      have kc : KC (υ 41) (υ 42) (υ 38) (ζ 41) (ζ 42) := by rw [s3.1 41 rfl, s3.1 42 rfl]; exact gk
      have rel := stepC_ok hM hc can' st'
      exact performC hM hH hP d hn k (i + 1) ζ (by omega) (by omega) (hs.trans s4) rel (kc.r hr.2.1) (fun τ' v ch => h τ' v (Or.inr ⟨can', ζ, ⟨s4, kc, st'⟩, ch⟩))
    · have can' := can
      rw [sk.2.1, sk.2.2.1, e79, e79, e79, e79, e79] at can'
      exact h υ i (Or.inl ⟨can', rfl, rfl⟩) hs ⟨by omega, by omega⟩

theorem RelN.cm {σ : Mem} {τ ω : Mem} (h : RelN (σ 64 37) (σ 64 38) τ ω) : CM σ (τ 38) (ω 81) := by
  obtain ⟨q1, q2, q3, q4, q5, q6, q7⟩ := h
  have a := q1.L.1; have b := q2.L.1
  exact ⟨q1.S, q2.W, b, by omega, q4, q5⟩
theorem RelN.step {σ : Mem} (hM : MarkI σ) {o : Option (List Cla)} {n i : Int} {τ ω τ' ω' : Mem} (h : RelN (σ 64 37) (σ 64 38) τ ω) (hc : canP σ n i (ω 81)) (hs : StP σ o n i τ τ') (hk : KR (ω 64 45) (ω 90) (ω 81) (ω' 64 45) (ω' 90)) (hm : StM 0 σ o (pE σ n i 0) (pE σ n i 1) (pE σ n i 2) (pE σ n i 3) (pE σ n i 4) (ω 81) (ω' 81)) : RelN (σ 64 37) (σ 64 38) τ' ω' := by
  have cm := h.cm
  obtain ⟨q1, q2, q3, q4, q5, q6, q7⟩ := h
  obtain ⟨⟨a1, a2, a3, a4, a5, a6⟩, b⟩ := step_rel hM cm hc hs.2.2 hm
  obtain ⟨b1, b2⟩ := b rfl q1.L q2.L
  exact ⟨RowR.of a1 b1, RowV.of a2 b2, q3.keep q1 q2 hs.2.1 hk, a5, a6, hs.2.1.2.2.2.2 q4 q6, hk.2.2.2 q7 q5⟩
theorem performR {σ : Mem} (hM : MarkI σ) {o : Option (List Cla)} (hH : Held σ o) (hP : PlanI σ) (q0 : σ 64 43 = 0) (d : Nat) {n : Int} (hn : 0 ≤ n ∧ n < σ 64 27) {τ0 : Mem} (hτ : Sm σ τ0 cSl []) {Q : RV → Mem → Prop} : ∀ (k : Nat) (i v : Int) (υ τ ω : Mem), 0 ≤ i → i + (k : Int) = σ 80 n → ChP σ o n k i υ τ v → Sm τ0 ω rSl rJl → RelN (σ 64 37) (σ 64 38) υ ω → (∀ ω', Sm τ0 ω' rSl rJl → RelN (σ 64 37) (σ 64 38) τ ω' → Q (rI v) ω') → Ev (d + 23) mR_perform 12 [vR 64, vI n, vI i] [] ω Q
  | 0, i, v, υ, τ, ω, i0, i1, hch, hs, hr, h => by
    obtain ⟨rfl, rfl⟩ := hch
    obtain ⟨⟨z1, z2, z3⟩, -⟩ := hP.2 n hn.1 hn.2
    have e80 : ω 80 = σ 80 := by rw [hs.1 80 rfl, hτ.1 80 rfl]
    exact bR_perform_12 ⟨(by omega), by have := hP.1; omega, ⟨by omega, by omega⟩, by rw [e80]; exact ⟨by omega, by omega⟩, fun _ => h ω hs hr, fun z => absurd z (by rw [e80]; omega)⟩
  | k + 1, i, v, υ, τ, ω, i0, i1, hch, hs, hr, h => by
    obtain ⟨⟨z1, z2, z3⟩, -⟩ := hP.2 n hn.1 hn.2
    have s0 : Sm σ ω (rSl ++ cSl) rJl := (hτ.mono (by decide) (by decide)).trans (hs.mono (by decide) (by decide))
    have sk : SmMk σ ω := SmMk.of s0 (by decide) (by decide)
    have hM2 : MarkI ω := hM.sm s0 (by decide) (by decide)
    have hP2 : PlanI ω := hP.sm s0 (by decide) (by decide)
    have e79 : ∀ w, pE ω n i w = pE σ n i w := fun w => by unfold pE; rw [s0.1 79 rfl]
    have e27 : ω 64 27 = σ 64 27 := s0.2 27 rfl
    have e80 : ω 80 = σ 80 := s0.1 80 rfl
    have e43 : ω 64 43 = 0 := by rw [s0.2 43 rfl]; exact q0
    have hr' := hr
    obtain ⟨q1, q2, q3, q4, q5, q6, q7⟩ := hr'
    have cm := hr.cm
    have eqm : ∀ i, 0 ≤ i → i < 74 → mO (υ 38) i = ω 81 i := fun i a b => mO_eq q1.S a b
    have n1 := hM.2.1.1
    have n2 := hM.2.1.2.1
    refine bR_perform_12 ⟨(by omega), by have := hP.1; omega, ⟨by omega, by omega⟩, by rw [e80]; exact ⟨by omega, by omega⟩, fun z => absurd z (by rw [e80]; omega), fun _ => ?_⟩
    refine canStepR hM2 hP2 q2.W (by decide) q5 (d + 17) (by rw [e27]; exact hn) (by rw [e80]; exact ⟨by omega, by omega⟩) (fun can => ⟨by decide, fun z => absurd z (by decide), fun _ => ?_⟩) (fun can => ⟨by decide, fun _ => ?_, fun z => absurd rfl z⟩)
    · have can' : canP σ n i (ω 81) := by
        rw [sk.2.1, sk.2.2.1, e79, e79, e79, e79, e79] at can; exact can
      rcases hch with ⟨no, -⟩ | ⟨-, ζ, st, ch⟩
      · exact absurd (canM_cg n2.2 n1.2 eqm can') no
      · refine keepR q3.1.2 (d + 21) (fun ω1 gs gk => ?_)
        have e81 := gs.1 81 rfl
        have s1 : Sm σ ω1 (rSl ++ cSl) rJl := s0.trans (gs.mono (by decide) (by decide))
        have sk1 : SmMk σ ω1 := SmMk.of s1 (by decide) (by decide)
        have e79' : ∀ w, pE ω1 n i w = pE σ n i w := fun w => by unfold pE; rw [s1.1 79 rfl]
        refine doStepR (hM.sm s1 (by decide) (by decide)) (hH.sm s1 (by decide) rfl) (hP.sm s1 (by decide) (by decide)) (by rw [e81, sk1.2.1, sk1.2.2.1]; exact q2.W) (by rw [e81]; exact q2.L.1) (by rw [e81]; exact q5) (by rw [gs.2 43 rfl, e43]; decide) d (by rw [gs.2 27 rfl, e27]; exact hn) (by rw [gs.1 80 rfl, e80]; exact ⟨by omega, by omega⟩) (by
          rw [sk1.2.1, sk1.2.2.1, e79', e79', e79', e79', e79', e81]; exact can') (fun ω2 s2 st2 => ?_)
        rw [e79', e79', e79', e79', e79', e81, gs.2 43 rfl, e43] at st2
        have st2' := StM_cg sk1 st2
        have k45 : KR (ω 64 45) (ω 90) (ω 81) (ω2 64 45) (ω2 90) := by rw [s2.1 64 rfl, s2.1 90 rfl]; exact gk
        have sm : Sm ω ω2 rSl rJl := (gs.mono (by decide) (by decide)).trans (s2.mono (by decide) (by decide))
        exact performR hM hH hP q0 d hn hτ k (i + 1) v ζ τ ω2 (by omega) (by omega) ch (hs.trans sm) (hr.step hM can' st k45 st2') h
    · have can' : ¬ canP σ n i (ω 81) := by
        rw [sk.2.1, sk.2.2.1, e79, e79, e79, e79, e79] at can; exact can
      rcases hch with ⟨no, rfl, rfl⟩ | ⟨yes, -⟩
      · exact h ω hs hr
      · exact absurd (canM_cg n2.2 n1.2 (fun i a b => (eqm i a b).symm) yes) can'
theorem c_perform : ∀ (a : Int) (σ : Mem), Inv σ → rg a → Pair mF_perform mR_perform [aI a] σ := by
  intro n σ hI ha
  have hM := hI.1.2.1
  obtain ⟨o, hH⟩ := hI.heldO
  obtain ⟨⟨m1, m2, m3, m4⟩, ⟨n1, n2, n3, n4⟩, -⟩ := hI.1.2.1
  have hP := hI.2.2.1
  have q0 := hI.2.2.2.2.2.1
  have cm : CM σ (σ 38) (σ 81) := hI.relN.cm
  obtain ⟨p1, p2, p3⟩ := hP.1
  obtain ⟨⟨r1, r2, r3⟩, r4, -⟩ := hI.2.1.1
  by_cases hx : 0 < σ 64 37 ∧ (0 ≤ n ∧ n < σ 64 27)
  · obtain ⟨x1, x2⟩ := hx
    obtain ⟨⟨z1, z2, z3⟩, -⟩ := hP.2 n x2.1 x2.2
    refine pair_seq (K := fun v τ => ChP σ o n (σ 80 n).toNat 0 σ τ v) hI ?_ (fun v τ hv hs hk => ?_)
    · refine bF_perform_in (d := 979) ⟨ha, ⟨by omega, by omega⟩, fun _ => ⟨⟨by omega, by omega⟩, fun _ => bPl_sizeOf_in (d := 996) ⟨⟨by omega, by omega⟩, ⟨by omega, by omega⟩, fun _ => ⟨(by omega), ?_⟩, fun q => absurd (by omega) q⟩, fun q => absurd (by omega) q⟩, fun q => absurd (by omega) q⟩
      rw [z1]
      exact performC hM hH hP 979 x2 (σ 80 n).toNat 0 σ (by decide) (by omega) Sm.refl cm.mO ⟨by omega, by omega⟩ (fun τ v ch s rv => ⟨v, rfl, rv, s, ch⟩)
    · have e64 := hs.1 64 rfl
      have e81 := hs.1 81 rfl
      refine bR_perform_in (d := 976) ⟨ha, by unfold mOK; rw [e64, e81]; exact hI.mOK, by rw [e64]; omega, by rw [e64]; omega, fun _ => ?_, fun q => absurd (by rw [e64]; omega) q⟩
      exact performR hM hH hP q0 976 x2 hs (σ 80 n).toNat 0 v σ τ τ (by decide) (by omega) hk Sm.refl (hI.relN.cg rfl rfl rfl e81 (by rw [e64]) (hs.1 90 rfl)) (fun ω' gs gr => ⟨rfl, gs, gr⟩)
  · refine pair_q (v := -1) hI (by decide) ?_ ?_
    · refine bF_perform_in (d := 979) ⟨ha, ⟨by omega, by omega⟩, fun h1 => ⟨⟨by omega, by omega⟩, fun h2 => absurd (by omega) hx, fun _ => ⟨rfl, rfl⟩⟩, fun _ => ⟨rfl, rfl⟩⟩
    · exact bR_perform_in (d := 976) ⟨ha, hI.mOK, p2, p3, fun h1 => absurd (by omega) hx, fun _ => ⟨rfl, rfl⟩⟩
