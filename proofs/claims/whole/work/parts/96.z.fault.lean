/-! ===== THE FIRST FAULT OF A TEXT ===== -/
def StB (f : Int → Int) : Prop := (0 ≤ f 0 ∧ f 0 ≤ 3) ∧ ∀ w, -1 ≤ f w ∧ f w ≤ 99
theorem pPl_r {B : Int → Int} {N : Int} (hB : BTp B N) : ∀ (n : Nat) (i a : Int) (S : Int → Int → Int), 0 ≤ i → i + (n : Int) ≤ 12 → 0 ≤ a ∧ a ≤ N → (∀ j, 0 ≤ j → j < i → StB (S j)) → (∀ w, pPl B N n i a S = .inl w → 0 ≤ w ∧ w ≤ N) ∧ ∀ c S', pPl B N n i a S = .inr (c, S') → (1 ≤ c ∧ c ≤ 12) ∧ ∀ j, 0 ≤ j → j < c → StB (S' j)
  | 0, i, a, S, i0, i1, ha, hS => ⟨fun w h => (by injection h with h; omega), fun c S' h => (by cases h)⟩
  | n + 1, i, a, S, i0, i1, ha, hS => by
    obtain ⟨p1, q1⟩ := pSt_r hB ha
    unfold pPl
    have hS2 : ∀ f, StB f → ∀ j, 0 ≤ j → j < i + 1 → StB ((fun j => if j = i then f else S j) j) := by
      intro f hf j j0 j1
      dsimp only
      by_cases q : j = i
      · rw [if_pos q]; exact hf
      · rw [if_neg q]; exact hS j j0 (by omega)
    constructor
    · intro w h
      rcases bnR_l h with e | ⟨⟨b1, f⟩, e, h⟩
      · exact p1 w e
      · have t1 := q1 b1 f e
        have r3 := (sk_r (B := B) (N := N) (a := b1))
        have r4 := r3.2 t1.1.2
        have b := hB.r (a := sk B N b1) (by omega)
        change (if hr B N (sk B N b1) = -1 then _ else if hr B N (sk B N b1) = 59 ∧ n ≠ 0 then _ else _) = _ at h
        by_cases c2 : hr B N (sk B N b1) = -1
        · rw [if_pos c2] at h; cases h
        · rw [if_neg c2] at h
          by_cases c3 : hr B N (sk B N b1) = 59 ∧ n ≠ 0
          · rw [if_pos c3] at h
            have lt := (b.2.2 c2).1
            exact (pPl_r hB n (i + 1) (sk B N b1 + 1) _ (by omega) (by omega) (by omega) (hS2 f t1.2)).1 w h
          · rw [if_neg c3] at h
            injection h with h; dsimp only at h; omega
    · intro c S' h
      obtain ⟨⟨b1, f⟩, e, h⟩ := bnR_r h
      have t1 := q1 b1 f e
      have r3 := (sk_r (B := B) (N := N) (a := b1))
      have r4 := r3.2 t1.1.2
      have b := hB.r (a := sk B N b1) (by omega)
      change (if hr B N (sk B N b1) = -1 then _ else if hr B N (sk B N b1) = 59 ∧ n ≠ 0 then _ else _) = _ at h
      by_cases c2 : hr B N (sk B N b1) = -1
      · rw [if_pos c2] at h
        injection h with h
        injection h with h1 h2
        rw [← h1, ← h2]
        exact ⟨⟨by omega, by omega⟩, hS2 f t1.2⟩
      · rw [if_neg c2] at h
        by_cases c3 : hr B N (sk B N b1) = 59 ∧ n ≠ 0
        · rw [if_pos c3] at h
          have lt := (b.2.2 c2).1
          exact (pPl_r hB n (i + 1) (sk B N b1 + 1) _ (by omega) (by omega) (by omega) (hS2 f t1.2)).2 c S' h
        · rw [if_neg c3] at h; cases h
theorem inv_tape {σ : Mem} (h : Inv σ) : BTp (σ 65) (σ 64 2) ∧ (σ 12 1 = σ 64 2) ∧ ∀ i, 0 ≤ i → i < σ 64 2 → σ 13 i = σ 65 i := by
  obtain ⟨t1, t2, t3, t4⟩ := h.1.1
  exact ⟨⟨⟨t2, t3⟩, fun i i0 i1 => (t4 i i0 i1).2⟩, t1, fun i i0 i1 => (t4 i i0 i1).1⟩
/-- tastes kept: n of them are what they were -/
theorem TextC.kp {σ τ : Mem} {n : Int} {cs : List Cla} (h : TextC σ n cs) (e27 : τ 27 n = σ 27 n) (e21 : ∀ j, 240 * n ≤ j → j < 240 * n + 240 → τ 21 j = σ 21 j) : TextC τ n cs := by
  obtain ⟨h1, h2, h3⟩ := h
  refine ⟨by rw [e27]; exact h1, h2, fun j v hj => ?_⟩
  have lt := (List.getElem?_eq_some_iff.mp hj).1
  rw [e21 (240 * n + Int.ofNat j) (by show 240 * n ≤ 240 * n + ((j : Nat) : Int); omega) (by show 240 * n + ((j : Nat) : Int) < _; omega)]
  exact h3 j v hj
theorem TextM.kp {σ τ : Mem} {n : Int} {cs : List Cla} (h : TextM σ n cs) (e69 : τ 69 n = σ 69 n) (e66 : ∀ j, 520 * n ≤ j → j < 520 * n + 520 → τ 66 j = σ 66 j ∧ τ 67 j = σ 67 j) (e70 : ∀ j, 140 * n ≤ j → j < 140 * n + 140 → τ 70 j = σ 70 j ∧ τ 71 j = σ 71 j ∧ τ 72 j = σ 72 j) : TextM τ n cs := by
  obtain ⟨h1, h2, h3, h4, h5⟩ := h
  refine ⟨by rw [e69]; exact h1, h2, h3, fun j v hj => ?_, fun k c hk => ?_⟩
  · have lt := (List.getElem?_eq_some_iff.mp hj).1
    have e := e66 (520 * n + Int.ofNat j) (by show 520 * n ≤ 520 * n + ((j : Nat) : Int); omega) (by show 520 * n + ((j : Nat) : Int) < _; omega)
    rw [e.1, e.2]
    exact h4 j v hj
  · have lt := (List.getElem?_eq_some_iff.mp hk).1
    have e := e70 (140 * n + Int.ofNat k) (by show 140 * n ≤ 140 * n + ((k : Nat) : Int); omega) (by show 140 * n + ((k : Nat) : Int) < _; omega)
    rw [e.1, e.2.1, e.2.2]
    exact h5 k c hk
/-- every taste below n is what it was -/
theorem taste_kp {σ τ υ : Mem} {n p m : Int} (f : FrC σ τ n) (g : FrL τ υ p) (hn : m ≤ n) (hp : m ≤ p) (h : ∀ i, 0 ≤ i → i < m → ∃ cs : List Cla, (∀ c ∈ cs, okCl c) ∧ TextC σ i cs ∧ TextM σ i cs) : ∀ i, 0 ≤ i → i < m → ∃ cs : List Cla, (∀ c ∈ cs, okCl c) ∧ TextC υ i cs ∧ TextM υ i cs := by
  intro i i0 i1
  obtain ⟨cs, ok, tc, tm⟩ := h i i0 i1
  have s1 := f.1
  have s2 := g.1
  refine ⟨cs, ok, tc.kp ?_ (fun j j0 j1 => ?_), tm.kp ?_ (fun j j0 j1 => ?_) (fun j j0 j1 => ?_)⟩
  · rw [s2.1 27 rfl, f.2.2 i (by omega)]
  · rw [s2.1 21 rfl, f.2.1 j (by omega)]
  · rw [(g.2.2.1 i (by omega)).2, s1.1 69 rfl]
  · rw [(g.2.1 j (by omega)).1, (g.2.1 j (by omega)).2, s1.1 66 rfl, s1.1 67 rfl]; exact ⟨rfl, rfl⟩
  · rw [(g.2.2.2 j (by omega)).1, (g.2.2.2 j (by omega)).2.1, (g.2.2.2 j (by omega)).2.2, s1.1 70 rfl, s1.1 71 rfl, s1.1 72 rfl]; exact ⟨rfl, rfl, rfl⟩
abbrev tsS : List Nat := [12, 21, 27, 64, 66, 67, 68, 69, 70, 71, 72]
theorem taste_sm {σ τ υ : Mem} {n p : Int} (f : FrC σ τ n) (g : FrL τ υ p) : Sm σ υ tsS [3, 4, 5, 14] := (f.1.mono (by decide) (by decide)).trans (g.1.mono (by decide) (by decide))
theorem Inv.tst {σ υ : Mem} {J : List Int} (h : Inv σ) (s : Sm σ υ [12, 20, 21, 27, 64, 66, 67, 68, 69, 70, 71, 72] [2, 3, 4, 5, 13, 14]) (hT : TapeI υ) (hX : TasteI υ) : Inv υ :=
  ⟨⟨hT, h.1.2.1.sm s (by decide) (by decide), RowR.sm h.1.2.2.1 s (by decide), RowV.sm h.1.2.2.2 s (by decide) (by decide)⟩, ⟨h.2.1.1.sm s (by decide) (by decide), h.2.1.2.1.sm s (by decide) (by decide), h.2.1.2.2.1.sm s (by decide) (by decide), h.2.1.2.2.2.sm s (by decide) (by decide)⟩, h.2.2.1.sm s (by decide) (by decide), hX, h.2.2.2.2.sm s (by decide) (by decide)⟩
theorem Inv.pln {σ υ : Mem} (h : Inv σ) (s : Sm σ υ [12, 29, 30, 36, 64, 79, 80] [2, 3, 4, 27]) (hT : TapeI υ) (hX : PlanI υ) : Inv υ :=
  ⟨⟨hT, h.1.2.1.sm s (by decide) (by decide), RowR.sm h.1.2.2.1 s (by decide), RowV.sm h.1.2.2.2 s (by decide) (by decide)⟩, ⟨h.2.1.1.sm s (by decide) (by decide), h.2.1.2.1.sm s (by decide) (by decide), h.2.1.2.2.1.sm s (by decide) (by decide), h.2.1.2.2.2.sm s (by decide) (by decide)⟩, hX, h.2.2.2.1.sm s (by decide) (by decide), h.2.2.2.2.sm s (by decide) (by decide)⟩
theorem Inv.mkt {σ υ : Mem} (h : Inv σ) (s : Sm σ υ [12, 18, 19, 64, 75, 76, 77, 78] mkJ) (h12 : υ 12 1 = σ 12 1) : Inv υ :=
  ⟨⟨h.1.1.cg h12 (s.2 2 rfl) (s.1 13 rfl) (s.1 65 rfl), h.1.2.1.sm s (by decide) (by decide), RowR.sm h.1.2.2.1 s (by decide), RowV.sm h.1.2.2.2 s (by decide) (by decide)⟩, ⟨h.2.1.1.sm s (by decide) (by decide), h.2.1.2.1.sm s (by decide) (by decide), h.2.1.2.2.1.sm s (by decide) (by decide), h.2.1.2.2.2.sm s (by decide) (by decide)⟩, h.2.2.1.sm s (by decide) (by decide), h.2.2.2.1.sm s (by decide) (by decide), h.2.2.2.2.sm s (by decide) (by decide)⟩
/-- a taste read, and not kept -/
theorem inv_taste {σ τ υ : Mem} {n p : Int} (h : Inv σ) (hn : σ 20 4 = n) (hp : σ 64 13 ≤ p) (f : FrC σ τ n) (e12 : τ 12 1 = σ 64 2) (g : FrL τ υ p) : Inv υ := by
  have s := taste_sm f g
  obtain ⟨d1, d2, d3⟩ := h.2.2.2.1
  refine Inv.tst (J := []) h (s.mono (by decide) (by decide)) ?_ ⟨?_, ?_, ?_⟩
  · exact h.1.1.cg (by rw [g.1.1 12 rfl, e12, h.1.1.1]) (s.2 2 rfl) (s.1 13 rfl) (s.1 65 rfl)
  · rw [s.1 20 rfl, s.2 13 rfl]; exact d1
  · rw [s.1 20 rfl, s.2 42 rfl, s.2 13 rfl]; exact d2
  · rw [s.2 13 rfl]
    exact taste_kp f g (by rw [← hn, d1.1]; exact Int.le_refl _) hp d3
/-- every plan below m is what it was -/
theorem plan_kp {σ υ : Mem} {n p m : Int} (e30 : ∀ j, ¬ (n * 60 ≤ j ∧ j < n * 60 + 60) → υ 30 j = σ 30 j) (e36 : ∀ j, j ≠ n → υ 36 j = σ 36 j) (e79 : ∀ j, ¬ (60 * p ≤ j ∧ j < 60 * p + 60) → υ 79 j = σ 79 j) (e80 : ∀ j, j ≠ p → υ 80 j = σ 80 j) (hn : m ≤ n) (hp : m ≤ p) (h : ∀ n, 0 ≤ n → n < m → (σ 36 n = σ 80 n ∧ 1 ≤ σ 80 n ∧ σ 80 n ≤ 12) ∧ ∀ i, 0 ≤ i → i < σ 80 n →
    (∀ w, 0 ≤ w → w < 5 → σ 30 (n * 60 + (5 * i + w)) = σ 79 (5 * (12 * n + i) + w)) ∧ (0 ≤ σ 79 (5 * (12 * n + i)) ∧ σ 79 (5 * (12 * n + i)) ≤ 3) ∧
    (∀ w, 0 ≤ w → w < 5 → -1 ≤ σ 79 (5 * (12 * n + i) + w) ∧ σ 79 (5 * (12 * n + i) + w) ≤ 99)) : ∀ n, 0 ≤ n → n < m → (υ 36 n = υ 80 n ∧ 1 ≤ υ 80 n ∧ υ 80 n ≤ 12) ∧ ∀ i, 0 ≤ i → i < υ 80 n →
    (∀ w, 0 ≤ w → w < 5 → υ 30 (n * 60 + (5 * i + w)) = υ 79 (5 * (12 * n + i) + w)) ∧ (0 ≤ υ 79 (5 * (12 * n + i)) ∧ υ 79 (5 * (12 * n + i)) ≤ 3) ∧
    (∀ w, 0 ≤ w → w < 5 → -1 ≤ υ 79 (5 * (12 * n + i) + w) ∧ υ 79 (5 * (12 * n + i) + w) ≤ 99) := by
  intro k k0 k1
  obtain ⟨h1, h2⟩ := h k k0 k1
  rw [e36 k (by omega), e80 k (by omega)]
  refine ⟨h1, fun i i0 i1 => ?_⟩
  obtain ⟨a, b, c⟩ := h2 i i0 i1
  refine ⟨fun w w0 w1 => ?_, ?_, fun w w0 w1 => ?_⟩
  · rw [e30 _ (by omega), e79 _ (by omega)]; exact a w w0 w1
  · rw [e79 _ (by omega)]; exact b
  · rw [e79 _ (by omega)]; exact c w w0 w1
theorem inv_plan {σ τ υ : Mem} {n p : Int} (h : Inv σ) (hn : σ 29 3 = n) (hp : σ 64 27 ≤ p) (s1 : Sm σ τ [12, 30, 36] []) (e30 : ∀ j, ¬ (n * 60 ≤ j ∧ j < n * 60 + 60) → τ 30 j = σ 30 j) (e36 : ∀ j, j ≠ n → τ 36 j = σ 36 j) (e12 : τ 12 1 = σ 64 2) (s2 : Sm τ υ [64, 79, 80] [3, 4]) (e79 : ∀ j, ¬ (60 * p ≤ j ∧ j < 60 * p + 60) → υ 79 j = τ 79 j) (e80 : ∀ j, j ≠ p → υ 80 j = τ 80 j) : Inv υ := by
  have s : Sm σ υ [12, 30, 36, 64, 79, 80] [3, 4] := (s1.mono (by decide) (by decide)).trans (s2.mono (by decide) (by decide))
  obtain ⟨d1, d3⟩ := h.2.2.1
  refine Inv.pln h (s.mono (by decide) (by decide)) ?_ ⟨?_, ?_⟩
  · exact h.1.1.cg (by rw [s2.1 12 rfl, e12, h.1.1.1]) (s.2 2 rfl) (s.1 13 rfl) (s.1 65 rfl)
  · rw [s.1 29 rfl, s.2 27 rfl]; exact d1
  · rw [s.2 27 rfl]
    exact plan_kp (fun j hj => by rw [s2.1 30 rfl]; exact e30 j hj) (fun j hj => by rw [s2.1 36 rfl]; exact e36 j hj) (fun j hj => by rw [e79 j hj, s1.1 79 rfl]) (fun j hj => by rw [e80 j hj, s1.1 80 rfl]) (by rw [← hn, d1.1]; exact Int.le_refl _) hp d3
theorem c_fault : ∀ (a : Int) (σ : Mem), Inv σ → rg a → Pair mF_fault mR_fault [aI a] σ := by
  intro a σ hI ha
  obtain ⟨hB, t1, t13⟩ := inv_tape hI
  have hN := hB.1
  obtain ⟨d1, -, -⟩ := hI.2.2.2.1
  obtain ⟨l1, -⟩ := hI.2.2.1
  have no : (a ≠ 0 ∧ a ≠ 1 ∧ a ≠ 2) → Cl 999 mR_fault [aR 64, aI a] σ (fun r4 τ5 => oI r4 (fun w6 => ((-2 : Int) = w6 ∧ rg (-2)) ∧ (τ5 0 = σ 0 ∧ τ5 1 = σ 1) ∧ Inv τ5)) := fun hn =>
    bR_fault_in (d := 840) ⟨ha, fun _ => ⟨fun _ => ⟨fun _ => ⟨⟨rfl, by decide⟩, ⟨rfl, rfl⟩, hI⟩, fun q => absurd q hn.2.2⟩, fun q => absurd q hn.2.1⟩, fun q => absurd q hn.1⟩
  refine bF_fault_in (d := 871) ⟨ha, fun z => ⟨⟨rfl, rfl⟩, no ⟨by omega, by omega⟩⟩, fun z => ⟨fun z2 => ?_, fun z2 => ⟨⟨rfl, rfl⟩, no ⟨by omega, by omega⟩⟩⟩⟩
  refine bF_isFaultless_in (d := 871) ⟨ha, fun y0 => ⟨fun y1 => ?_, fun y1 => ?_⟩, fun y0 => ?_⟩
  · -- a plan
    have y2 : a = 2 := by omega
    subst y2
    have pr := pPl_r hB 12 0 0 (fun _ _ => 0) (Int.le_refl _) (by decide) ⟨Int.le_refl _, hN.1⟩ (fun j j0 j1 => absurd j1 (by omega))
    refine planC hB 993 (n := σ 29 3) ⟨by omega, by omega⟩ rfl t1 t13 (fun w e τ s1 e30 e36 e12 e3 => ⟨Or.inl rfl, by decide, fun _ => ?_, fun q => absurd rfl q⟩) (fun c S' e τ s1 e30 e36 e12 _ _ => ⟨Or.inr rfl, by decide, fun q => absurd q (by decide), fun _ => ?_⟩)
    · refine ⟨⟨s1.1 0 rfl, s1.1 1 rfl⟩, bR_fault_in (d := 840) ⟨ha, fun _ => ⟨fun _ => ⟨fun q => absurd rfl q, fun _ => planR hB 992 (p := 4) (by decide) (by rw [s1.2 2 rfl]) (fun i i0 i1 => by rw [s1.1 65 rfl]) (fun w' e' υ s2 e79 e80 => ?_) (fun c S' e' υ s2 e79 e80 _ _ => ?_)⟩, fun q => absurd q y1⟩, fun q => absurd q y0⟩⟩
      · have ew : w' = w := by rw [e] at e'; injection e' with e'; exact e'.symm
        have wr := pr.1 w e
        rw [e3]
        exact ⟨⟨ew.symm, ⟨by omega, by omega⟩⟩, ⟨by rw [s2.1 0 rfl, s1.1 0 rfl], by rw [s2.1 1 rfl, s1.1 1 rfl]⟩, inv_plan hI rfl l1.2.2 s1 e30 e36 e12 s2 e79 e80⟩
      · rw [e] at e'; cases e'
    · refine ⟨⟨s1.1 0 rfl, s1.1 1 rfl⟩, bR_fault_in (d := 840) ⟨ha, fun _ => ⟨fun _ => ⟨fun q => absurd rfl q, fun _ => planR hB 992 (p := 4) (by decide) (by rw [s1.2 2 rfl]) (fun i i0 i1 => by rw [s1.1 65 rfl]) (fun w' e' υ s2 e79 e80 => ?_) (fun c S' e' υ s2 e79 e80 _ _ => ?_)⟩, fun q => absurd q y1⟩, fun q => absurd q y0⟩⟩
      · rw [e] at e'; cases e'
      · exact ⟨⟨rfl, by decide⟩, ⟨by rw [s2.1 0 rfl, s1.1 0 rfl], by rw [s2.1 1 rfl, s1.1 1 rfl]⟩, inv_plan hI rfl l1.2.2 s1 e30 e36 e12 s2 e79 e80⟩
  · -- a taste
    subst y1
    have pr := law_p hB 241 0 (Int.le_refl _) hN.1
    refine tasteC hB 871 (n := σ 20 4) ⟨by omega, by omega⟩ rfl t1 t13 (fun w e τ f1 e12 e3 => ⟨Or.inl rfl, by decide, fun _ => ?_, fun q => absurd rfl q⟩) (fun cs e τ f1 e12 _ => ⟨Or.inr rfl, by decide, fun q => absurd q (by decide), fun _ => ?_⟩)
    · have s1 := f1.1
      refine ⟨⟨s1.1 0 rfl, s1.1 1 rfl⟩, bR_fault_in (d := 840) ⟨ha, fun _ => ⟨fun q => absurd rfl q, fun _ => tasteR hB 840 (p := 4) (by decide) (by rw [s1.2 2 rfl]) (fun i i0 i1 => by rw [s1.1 65 rfl]) (fun w' e' υ f2 => ?_) (fun cs e' υ f2 _ _ => ?_)⟩, fun q => absurd q y0⟩⟩
      · have ew : w' = w := by rw [e] at e'; injection e' with e'; exact e'.symm
        have wr := pr.1 w e
        have s2 := f2.1
        rw [e3]
        exact ⟨⟨ew.symm, ⟨by omega, by omega⟩⟩, ⟨by rw [s2.1 0 rfl, s1.1 0 rfl], by rw [s2.1 1 rfl, s1.1 1 rfl]⟩, inv_taste hI rfl d1.2.2 f1 e12 f2⟩
      · rw [e] at e'; cases e'
    · have s1 := f1.1
      refine ⟨⟨s1.1 0 rfl, s1.1 1 rfl⟩, bR_fault_in (d := 840) ⟨ha, fun _ => ⟨fun q => absurd rfl q, fun _ => tasteR hB 840 (p := 4) (by decide) (by rw [s1.2 2 rfl]) (fun i i0 i1 => by rw [s1.1 65 rfl]) (fun w' e' υ f2 => ?_) (fun cs e' υ f2 _ _ => ?_)⟩, fun q => absurd q y0⟩⟩
      · rw [e] at e'; cases e'
      · have s2 := f2.1
        exact ⟨⟨rfl, by decide⟩, ⟨by rw [s2.1 0 rfl, s1.1 0 rfl], by rw [s2.1 1 rfl, s1.1 1 rfl]⟩, inv_taste hI rfl d1.2.2 f1 e12 f2⟩
  · -- a market
    subst y0
    have pr := mRd_r hB 241 0 MS0 mv_0 ⟨Int.le_refl _, hN.1⟩
    have keep : ∀ τ υ, Sm σ τ [12, 18, 19] [] → τ 12 1 = σ 64 2 → Sm τ υ mkS mkJ → (υ 0 = σ 0 ∧ υ 1 = σ 1) ∧ Inv υ := fun τ υ s1 e12 s2 => ⟨⟨by rw [s2.1 0 rfl, s1.1 0 rfl], by rw [s2.1 1 rfl, s1.1 1 rfl]⟩, hI.mkt ((s1.mono (by decide) (by decide)).trans (s2.mono (by decide) (by decide))) (by rw [s2.1 12 rfl, e12, t1])⟩
    refine marketC hB 992 t1 t13 (fun w e τ s1 e12 e3 => ⟨Or.inl rfl, by decide, fun _ => ?_, fun q => absurd rfl q⟩) (fun M e τ s1 e12 _ => ⟨Or.inr rfl, by decide, fun q => absurd q (by decide), fun _ => ?_⟩)
    · refine ⟨⟨s1.1 0 rfl, s1.1 1 rfl⟩, bR_fault_in (d := 840) ⟨ha, fun q => absurd rfl q, fun _ => marketR hB 992 (by rw [s1.2 2 rfl]) (fun i i0 i1 => by rw [s1.1 65 rfl]) (fun w' e' υ s2 => ?_) (fun M e' υ s2 _ => ?_)⟩⟩
      · have ew : w' = w := by rw [e] at e'; injection e' with e'; exact e'.symm
        have wr := pr.1 w e
        rw [e3]
        exact ⟨⟨ew.symm, ⟨by omega, by omega⟩⟩, keep τ υ s1 e12 s2⟩
      · rw [e] at e'; cases e'
    · refine ⟨⟨s1.1 0 rfl, s1.1 1 rfl⟩, bR_fault_in (d := 840) ⟨ha, fun q => absurd rfl q, fun _ => marketR hB 992 (by rw [s1.2 2 rfl]) (fun i i0 i1 => by rw [s1.1 65 rfl]) (fun w' e' υ s2 => ?_) (fun M' e' υ s2 _ => ?_)⟩⟩
      · rw [e] at e'; cases e'
      · exact ⟨⟨rfl, by decide⟩, keep τ υ s1 e12 s2⟩
