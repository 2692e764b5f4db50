/-! ===== A TEXT TAKEN ===== -/
theorem sumI_c {f : Int → Int} {c : Int} : ∀ {n : Nat}, (∀ i : Int, 0 ≤ i → i < (n : Int) → f i ≤ c) → sumI f n ≤ c * (n : Int)
  | 0, _ => by show (0 : Int) ≤ c * ((0 : Nat) : Int); rw [show ((0 : Nat) : Int) = 0 from rfl, Int.mul_zero]; exact Int.le_refl _
  | n + 1, h => by
    have ih := sumI_c (n := n) (f := f) (c := c) (fun i h0 h1 => h i h0 (by omega))
    have l := h (Int.ofNat n) (Int.ofNat_nonneg n) (by show ((n : Nat) : Int) < _; omega)
    show sumI f n + f (Int.ofNat n) ≤ c * ((n + 1 : Nat) : Int)
    have e : c * ((n + 1 : Nat) : Int) = c * (n : Int) + c := by push_cast; rw [Int.mul_add, Int.mul_one]
    omega
theorem two_p : ∀ n : Nat, (0 : Int) < 2 ^ n
  | 0 => by decide
  | n + 1 => by rw [Int.pow_succ]; have := two_p n; omega
theorem fresh_rows {c m a b : Int → Int} {T P : Int} (hT : 0 ≤ T ∧ T ≤ 8) (hc : BgC c a b T P P 0) (hm : BgM m a b T P P 0) (ha : ∀ p, 0 ≤ p → p < P → 0 ≤ a p ∧ a p ≤ 99) (hb : ∀ p, 0 ≤ p → p < P → 0 ≤ b p ∧ b p ≤ 99) : RowR c m ∧ RowV T P m := by
  obtain ⟨c1, c2, c3, -⟩ := hc
  obtain ⟨⟨m1, m1'⟩, m2, m3, -⟩ := hm
  have m73 := m1' 73 (by decide) (by decide)
  have m72 := m1' 72 (by decide) (by decide)
  have m114 := m1' 114 (by decide) (by decide)
  have at' : ∀ p, 0 ≤ p → p < 6 → (0 ≤ m (60 + p) ∧ m (60 + p) ≤ 99) ∧ (0 ≤ m (66 + p) ∧ m (66 + p) ≤ 99) := by
    intro p p0 p1
    obtain ⟨g1, g2⟩ := m2 p p0 p1
    rw [g1, g2]
    by_cases e : p < P
    · rw [if_pos e, if_pos e]; exact ⟨ha p p0 e, hb p p0 e⟩
    · rw [if_neg e, if_neg e]; decide
  have one : ∀ i, 0 ≤ i → i < 48 → c (27 + i) = m i ∧ (0 ≤ m i ∧ m i ≤ 1) := by
    intro i i0 i1
    have g1 := c3 (i / 8) (i % 8) (by omega) (by omega) (by omega) (by omega)
    have g2 := m3 (i / 8) (i % 8) (by omega) (by omega) (by omega) (by omega)
    rw [show (27 + 8 * (i / 8) + i % 8 : Int) = 27 + i by omega] at g1
    rw [show (8 * (i / 8) + i % 8 : Int) = i by omega] at g2
    rw [g1, g2]
    refine ⟨rfl, ?_⟩
    split <;> decide
  refine ⟨⟨⟨?_, ?_, ?_⟩, fun p p0 p1 => ?_, fun i i0 i1 => (one i i0 i1).1, fun i i0 i1 => absurd i1 (by rw [m73]; omega), fun i i0 i1 => absurd i1 (by rw [m114]; omega)⟩, fun i i0 i1 => ?_, fun p p0 p1 => ?_, ?_, ?_, fun p p0 p1 => (at' p p0 p1).2.2, by rw [m72]; decide, by rw [m73]; decide, fun k k0 k1 => absurd k1 (by rw [m73]; omega), by rw [m114]; decide, fun i i0 i1 => absurd i1 (by rw [m114]; omega)⟩
  · rw [m72]; exact c1 0 (by decide) (by decide)
  · rw [m73]; exact c1 1 (by decide) (by decide)
  · rw [m114]; exact c1 2 (by decide) (by decide)
  · obtain ⟨g1, g2, g3, g4⟩ := c2 p p0 p1
    obtain ⟨e1, e2⟩ := m2 p p0 p1
    rw [g1, g2, g3, g4, e1, e2, m1 (54 + p) (by omega) (by omega), m1 (48 + p) (by omega) (by omega)]
    exact ⟨rfl, rfl, rfl, rfl⟩
  · by_cases e : i < 48
    · exact (one i i0 e).2.1
    · by_cases e2 : i < 60
      · rw [m1 i (by omega) e2]; decide
      · by_cases e3 : i < 66
        · have := (at' (i - 60) (by omega) (by omega)).1.1
          rw [show (60 + (i - 60) : Int) = i by omega] at this; exact this
        · have := (at' (i - 66) (by omega) (by omega)).2.1
          rw [show (66 + (i - 66) : Int) = i by omega] at this; exact this
  · rw [m1 (48 + p) (by omega) (by omega)]; exact two_p _
  · have u1 := sumI_c (f := fun i => m (54 + i)) (c := 0) (n := 6) (fun i i0 i1 => by show m (54 + i) ≤ 0; rw [m1 (54 + i) (by omega) (by omega)]; exact Int.le_refl _)
    have u2 := sumI_c (f := m) (c := 1) (n := 48) (fun i i0 i1 => (one i i0 i1).2.2)
    rw [m73]
    have e1 : (0 : Int) * ((6 : Nat) : Int) = 0 := rfl
    have e2 : (1 : Int) * ((48 : Nat) : Int) = 48 := rfl
    omega
  · have u1 := sumI_c (f := fun i => m (60 + i)) (c := 99) (n := 6) (fun i i0 i1 => (at' i i0 i1).1.2)
    exact u1
theorem wh_of {M : MS} (h : whM M = true) : (2 ≤ M.1 0 ∧ 1 ≤ M.1 1) ∧ (∀ p, 0 ≤ p → p < M.1 1 → M.2 1 p 2 = 8 ∨ M.2 1 p 2 < M.1 0) ∧ (∀ j, 0 ≤ j → j < M.1 2 → M.2 2 j 0 ≠ M.2 2 j 1 ∧ M.2 2 j 0 < M.1 0 ∧ M.2 2 j 1 < M.1 0) ∧ ∀ j, 0 ≤ j → j < M.1 3 → M.2 3 j 0 ≠ M.2 3 j 1 ∧ M.2 3 j 0 < M.1 0 ∧ M.2 3 j 1 < M.1 0 := by
  unfold whM at h
  rw [Bool.and_eq_true, Bool.and_eq_true, Bool.and_eq_true] at h
  obtain ⟨h1, h2, h3, h4⟩ := h
  exact ⟨of_decide_eq_true h1, fun p p0 p1 => of_decide_eq_true (allB_iff.mp h2 p p0 (by omega)), fun p p0 p1 => of_decide_eq_true (allB_iff.mp h3 p p0 (by omega)), fun p p0 p1 => of_decide_eq_true (allB_iff.mp h4 p p0 (by omega))⟩
theorem mark_of {ζ : Mem} {M : MS} (hM : MB M) (hw : whM M = true) (mk : MkC ζ M) (mr : MkR ζ M) : MarkI ζ := by
  obtain ⟨w1, w2, w3, w4⟩ := wh_of hw
  obtain ⟨⟨r1, r2, r3, r4⟩, rx, rp, rs, rc⟩ := mr
  obtain ⟨k1, k2⟩ := mk
  obtain ⟨n0, n1, n2, n3⟩ := hM.n
  unfold MarkI
  rw [r1, r2, r3, r4]
  refine ⟨⟨k1 0 (by decide) (by decide), k1 1 (by decide) (by decide), k1 2 (by decide) (by decide), k1 3 (by decide) (by decide)⟩, ⟨n0, n1, n2, n3⟩, ⟨fun _ => by omega, fun _ => by omega⟩, fun t t0 t1 => ?_, fun p p0 p1 => ?_, fun k k0 k1' => ?_, fun k k0 k1' => ?_⟩
  · obtain ⟨e1, e2⟩ := rx t t0 t1
    have a0 := k2 0 t 0 (by decide) (by decide) t0 t1 (by decide) (by decide)
    have a1 := k2 0 t 1 (by decide) (by decide) t0 t1 (by decide) (by decide)
    rw [show (0 * 30 + t * 3 + 0 : Int) = 3 * t by omega] at a0
    rw [show (0 * 30 + t * 3 + 1 : Int) = 3 * t + 1 by omega] at a1
    rw [e1, e2, a0, a1]
    exact ⟨rfl, rfl, hM.ofx t t0 t1⟩
  · have e := rp p p0 p1
    have a2 := k2 1 p 2 (by decide) (by decide) p0 p1 (by decide) (by decide)
    rw [show (1 * 30 + p * 3 + 2 : Int) = 30 + 3 * p + 2 by omega] at a2
    rw [a2, e]
    have b := (hM.ofp p p0 p1).2.2
    by_cases q : M.2 1 p 2 = 8
    · rw [if_pos q]; exact Or.inl ⟨q, rfl⟩
    · rw [if_neg q]
      rcases w2 p p0 p1 with z | z
      · exact absurd z q
      · exact Or.inr ⟨rfl, b.1, z⟩
  · obtain ⟨e1, e2, e3⟩ := rs k k0 k1'
    have a0 := k2 2 k 0 (by decide) (by decide) k0 k1' (by decide) (by decide)
    have a1 := k2 2 k 1 (by decide) (by decide) k0 k1' (by decide) (by decide)
    have a2 := k2 2 k 2 (by decide) (by decide) k0 k1' (by decide) (by decide)
    rw [show (2 * 30 + k * 3 + 0 : Int) = 60 + 3 * k by omega] at a0
    rw [show (2 * 30 + k * 3 + 1 : Int) = 60 + 3 * k + 1 by omega] at a1
    rw [show (2 * 30 + k * 3 + 2 : Int) = 60 + 3 * k + 2 by omega] at a2
    obtain ⟨b0, b1, b2⟩ := hM.ofs k k0 k1'
    obtain ⟨z1, z2, z3⟩ := w3 k k0 k1'
    rw [e1, e2, e3, a0, a1, a2]
    exact ⟨⟨rfl, rfl, rfl⟩, ⟨b0.1, z2⟩, ⟨b1.1, z3⟩, z1, b2⟩
  · obtain ⟨e1, e2⟩ := rc k k0 k1'
    have a0 := k2 3 k 0 (by decide) (by decide) k0 k1' (by decide) (by decide)
    have a1 := k2 3 k 1 (by decide) (by decide) k0 k1' (by decide) (by decide)
    rw [show (3 * 30 + k * 3 + 0 : Int) = 90 + 3 * k by omega] at a0
    rw [show (3 * 30 + k * 3 + 1 : Int) = 90 + 3 * k + 1 by omega] at a1
    obtain ⟨b0, b1⟩ := hM.ofc k k0 k1'
    obtain ⟨z1, z2, z3⟩ := w4 k k0 k1'
    rw [e1, e2, a0, a1]
    exact ⟨⟨rfl, rfl⟩, ⟨b0.1, z2⟩, ⟨b1.1, z3⟩, z1⟩
/-! tastes kept, step by step -/
def TK (σ τ : Mem) (m : Int) : Prop := ∀ (i : Int) (cs : List Cla), 0 ≤ i → i < m → TextC σ i cs ∧ TextM σ i cs → TextC τ i cs ∧ TextM τ i cs
theorem TK.tr {σ τ υ : Mem} {m : Int} (h : TK σ τ m) (g : TK τ υ m) : TK σ υ m := fun i cs i0 i1 z => g i cs i0 i1 (h i cs i0 i1 z)
theorem tk_C {σ τ : Mem} {n m : Int} (f : FrC σ τ n) (hn : m ≤ n) : TK σ τ m := fun i cs i0 i1 z => by
  have s := f.1
  refine ⟨z.1.kp (f.2.2 i (by omega)) (fun j j0 j1 => f.2.1 j (by omega)), z.2.kp (by rw [s.1 69 rfl]) (fun j _ _ => by rw [s.1 66 rfl, s.1 67 rfl]; exact ⟨rfl, rfl⟩) (fun j _ _ => by rw [s.1 70 rfl, s.1 71 rfl, s.1 72 rfl]; exact ⟨rfl, rfl, rfl⟩)⟩
theorem tk_L {σ τ : Mem} {p m : Int} (f : FrL σ τ p) (hp : m ≤ p) : TK σ τ m := fun i cs i0 i1 z => by
  have s := f.1
  exact ⟨z.1.kp (by rw [s.1 27 rfl]) (fun j _ _ => by rw [s.1 21 rfl]), z.2.kp (f.2.2.1 i (by omega)).2 (fun j j0 j1 => f.2.1 j (by omega)) (fun j j0 j1 => f.2.2.2 j (by omega))⟩
theorem tk_S {σ τ : Mem} {S : List Nat} {J : List Int} {m : Int} (s : Sm σ τ S J) (d : ∀ a ∈ ([21, 27, 66, 67, 69, 70, 71, 72] : List Nat), S.contains a = false) : TK σ τ m := fun i cs i0 i1 z => by
  unfold TextC TextM
  rw [s.1 21 (d 21 (by decide)), s.1 27 (d 27 (by decide)), s.1 66 (d 66 (by decide)), s.1 67 (d 67 (by decide)), s.1 69 (d 69 (by decide)), s.1 70 (d 70 (by decide)), s.1 71 (d 71 (by decide)), s.1 72 (d 72 (by decide))]
  exact z
theorem c_text : ∀ (a : Int) (σ : Mem), Inv σ → rg a → Pair mF_text mR_text [aI a] σ := by
  intro a σ hI ha
  obtain ⟨hB, t1, t13⟩ := inv_tape hI
  have hN := hB.1
  obtain ⟨d1, d2, d3⟩ := hI.2.2.2.1
  obtain ⟨l1, l2⟩ := hI.2.2.1
  have no : (a ≠ 0 ∧ a ≠ 1 ∧ a ≠ 2) → Cl 999 mR_text [aR 64, aI a] σ (fun r4 τ5 => oI r4 (fun w6 => ((-1 : Int) = w6 ∧ rg (-1)) ∧ (τ5 0 = σ 0 ∧ τ5 1 = σ 1) ∧ Inv τ5)) := fun hn =>
    bR_text_in (d := 840) ⟨ha, fun _ => bR_text_22 (d := 840) ⟨ha, fun _ => bR_text_69 (d := 840) ⟨ha, fun _ => ⟨⟨rfl, by decide⟩, ⟨rfl, rfl⟩, hI⟩, fun q => absurd q hn.2.2⟩, fun q => absurd q hn.2.1⟩, fun q => absurd q hn.1⟩
  refine bF_text_in (d := 871) ⟨ha, fun z => ⟨⟨rfl, rfl⟩, no ⟨by omega, by omega⟩⟩, fun z => ⟨fun z2 => ⟨⟨rfl, rfl⟩, no ⟨by omega, by omega⟩⟩, fun z2 => ?_⟩⟩
  refine bF_isFaultless_in (d := 871) ⟨ha, fun y0 => ⟨fun y1 => ?_, fun y1 => ?_⟩, fun y0 => ?_⟩
  · -- a plan
    have y2 : a = 2 := by omega
    subst y2
    have pr := pPl_r hB 12 0 0 (fun _ _ => 0) (Int.le_refl _) (by decide) ⟨Int.le_refl _, hN.1⟩ (fun j j0 j1 => absurd j1 (by omega))
    -- the reference refuses
    have rno : ∀ (τ : Mem), Sm σ τ [12, 30, 36] [] → (∀ j, ¬ (σ 29 3 * 60 ≤ j ∧ j < σ 29 3 * 60 + 60) → τ 30 j = σ 30 j) → (∀ j, j ≠ σ 29 3 → τ 36 j = σ 36 j) → τ 12 1 = σ 64 2 → (σ 64 27 < 4 → ∃ w, pPl (σ 65) (σ 64 2) 12 0 0 (fun _ _ => 0) = .inl w) → (τ 0 = σ 0 ∧ τ 1 = σ 1) ∧ Cl 999 mR_text [aR 64, aI 2] τ (fun r4 τ5 => oI r4 (fun w6 => ((-1 : Int) = w6 ∧ rg (-1)) ∧ (τ5 0 = σ 0 ∧ τ5 1 = σ 1) ∧ Inv τ5)) := by
      intro τ s1 e30 e36 e12 hf
      refine ⟨⟨s1.1 0 rfl, s1.1 1 rfl⟩, bR_text_in (d := 840) ⟨ha, fun _ => bR_text_22 (d := 840) ⟨ha, fun _ => bR_text_69 (d := 840) ⟨ha, fun q => absurd rfl q, fun _ => ⟨by rw [s1.2 27 rfl]; exact ⟨by omega, by omega⟩, fun _ => ?_, fun q => ?_⟩⟩, fun q => absurd q y1⟩, fun q => absurd q y0⟩⟩
      · exact ⟨⟨rfl, by decide⟩, ⟨s1.1 0 rfl, s1.1 1 rfl⟩, inv_plan hI rfl l1.2.2 s1 e30 e36 e12 Sm.refl (p := 4) (fun _ _ => rfl) (fun _ _ => rfl)⟩
      · rw [s1.2 27 rfl] at q ⊢
        obtain ⟨w, e⟩ := hf q
        have wr := pr.1 w e
        refine planR hB 992 (p := σ 64 27) ⟨by omega, by omega⟩ (by rw [s1.2 2 rfl]) (fun i i0 i1 => by rw [s1.1 65 rfl]) (fun w' e' υ s2 e79 e80 => ?_) (fun c S' e' υ s2 e79 e80 _ _ => ?_)
        · have ew : w' = w := by rw [e] at e'; injection e' with e'; exact e'.symm
          exact ⟨by rw [ew]; exact ⟨by omega, by omega⟩, fun _ => ⟨⟨rfl, by decide⟩, ⟨by rw [s2.1 0 rfl, s1.1 0 rfl], by rw [s2.1 1 rfl, s1.1 1 rfl]⟩, inv_plan hI rfl (Int.le_refl _) s1 e30 e36 e12 s2 e79 e80⟩, fun q => absurd q (by omega)⟩
        · rw [e] at e'; cases e'
    refine planC hB 993 (n := σ 29 3) ⟨by omega, by omega⟩ rfl t1 t13 (fun w e τ s1 e30 e36 e12 e3 => ⟨Or.inl rfl, by decide, fun q => absurd rfl q, fun _ => rno τ s1 e30 e36 e12 (fun _ => ⟨w, e⟩)⟩) (fun c S' e τ s1 e30 e36 e12 ec eS => ⟨Or.inr rfl, by decide, fun _ => ⟨fun _ => ⟨fun _ => ?_, fun q => absurd q y1⟩, fun q => absurd q y0⟩, fun q => absurd q (by decide)⟩)
    obtain ⟨cb, Sb⟩ := pr.2 c S' e
    refine bPl_keepSpare_in (d := 997) ⟨by rw [s1.1 29 rfl]; exact ⟨by omega, by omega⟩, fun q => ?_, fun q => ⟨by decide, fun _ => rno τ s1 e30 e36 e12 (fun z => absurd z (by rw [s1.1 29 rfl] at q; omega)), fun z => absurd rfl z⟩⟩
    rw [s1.1 29 rfl] at q ⊢
    have e29 : σ 29 3 + 1 - 1 = σ 64 27 := by omega
    rw [e29]
    refine ⟨⟨by omega, by omega⟩, fun z => absurd z (by omega), fun _ => ?_⟩
    have s2 : Sm τ (ups (ups τ 29 3 (σ 29 3 + 1)) 12 1 0) [12, 29] [] := (Sm.refl.ups rfl (Or.inl (by decide))).ups rfl (Or.inl (by decide))
    have u29 : (ups (ups τ 29 3 (σ 29 3 + 1)) 12 1 0) 29 3 = σ 64 27 + 1 := by rw [ups_ne (by decide), ups_hit]; omega
    have u12 : (ups (ups τ 29 3 (σ 29 3 + 1)) 12 1 0) 12 1 = 0 := ups_hit
    generalize (ups (ups τ 29 3 (σ 29 3 + 1)) 12 1 0) = υ0 at *
    refine ⟨⟨by rw [s2.1 0 rfl, s1.1 0 rfl], by rw [s2.1 1 rfl, s1.1 1 rfl]⟩, bR_text_in (d := 840) ⟨ha, fun _ => bR_text_22 (d := 840) ⟨ha, fun _ => bR_text_69 (d := 840) ⟨ha, fun q => absurd rfl q, fun _ => ⟨by rw [s2.2 27 rfl, s1.2 27 rfl]; exact ⟨by omega, by omega⟩, fun z => absurd z (by rw [s2.2 27 rfl, s1.2 27 rfl]; omega), fun _ => ?_⟩⟩, fun q => absurd q y1⟩, fun q => absurd q y0⟩⟩
    rw [s2.2 27 rfl, s1.2 27 rfl]
    refine planR hB 992 (p := σ 64 27) ⟨by omega, by omega⟩ (by rw [s2.2 2 rfl, s1.2 2 rfl]) (fun i i0 i1 => by rw [s2.1 65 rfl, s1.1 65 rfl]) (fun w' e' υ s3 e79 e80 => ?_) (fun c' S2 e' υ s3 e79 e80 f80 f79 => ?_)
    · rw [e] at e'; cases e'
    · rw [e] at e'
      injection e' with e'
      injection e' with ec' eS'
      subst ec' eS'
      refine ⟨by decide, fun q => absurd rfl q, fun _ => ?_⟩
      have s4 : Sm υ (ups (ups υ 64 2 0) 64 27 (υ 64 27 + 1)) [64] [2, 27] := (Sm.refl.ups rfl (Or.inr rfl)).ups rfl (Or.inr rfl)
      have x27 : υ 64 27 = σ 64 27 := by rw [s3.2 27 rfl, s2.2 27 rfl, s1.2 27 rfl]
      have v27 : (ups (ups υ 64 2 0) 64 27 (υ 64 27 + 1)) 64 27 = σ 64 27 + 1 := by rw [ups_hit, x27]
      have v2 : (ups (ups υ 64 2 0) 64 27 (υ 64 27 + 1)) 64 2 = 0 := by rw [ups_fn (by decide), ups_hit]
      rw [x27] at s4 v27 v2 ⊢
      generalize (ups (ups υ 64 2 0) 64 27 (σ 64 27 + 1)) = ζ at *
      have s : Sm σ ζ [12, 29, 30, 36, 64, 79, 80] [2, 3, 4, 27] := (((s1.mono (by decide) (by decide)).trans (s2.mono (by decide) (by decide))).trans (s3.mono (by decide) (by decide))).trans (s4.mono (by decide) (by decide))
      have z12 : ζ 12 1 = 0 := by rw [s4.1 12 rfl, s3.1 12 rfl]; exact u12
      have z30 : ζ 30 = τ 30 := by rw [s4.1 30 rfl, s3.1 30 rfl, s2.1 30 rfl]
      have z36 : ζ 36 = τ 36 := by rw [s4.1 36 rfl, s3.1 36 rfl, s2.1 36 rfl]
      have z79 : ζ 79 = υ 79 := by rw [s4.1 79 rfl]
      have z80 : ζ 80 = υ 80 := by rw [s4.1 80 rfl]
      have m79 : υ0 79 = σ 79 := by rw [s2.1 79 rfl, s1.1 79 rfl]
      have m80 : υ0 80 = σ 80 := by rw [s2.1 80 rfl, s1.1 80 rfl]
      refine ⟨⟨by omega, ⟨by omega, by omega⟩⟩, ⟨s.1 0 rfl, s.1 1 rfl⟩, hI.pln s ⟨by rw [z12, v2], by rw [v2]; decide, by rw [v2]; decide, fun i i0 i1 => absurd i1 (by rw [v2]; omega)⟩ ⟨⟨?_, ?_, ?_⟩, ?_⟩⟩
      · rw [s4.1 29 rfl, s3.1 29 rfl, u29, v27]
      · rw [v27]; omega
      · rw [v27]; omega
      · rw [v27]
        intro k k0 k1
        by_cases ek : k = σ 64 27
        · subst ek
          have e2 : σ 29 3 = σ 64 27 := l1.1
          rw [z36, z80, z30, z79, f80, ← e2, ec, e2]
          refine ⟨⟨rfl, cb⟩, fun i i0 i1 => ?_⟩
          obtain ⟨b1, b2⟩ := Sb i i0 i1
          have g : ∀ w, 0 ≤ w → w < 5 → υ 79 (5 * (12 * σ 64 27 + i) + w) = _ := fun w w0 w1 => f79 i w i0 i1 w0 w1
          refine ⟨fun w w0 w1 => ?_, ?_, fun w w0 w1 => ?_⟩
          · rw [g w w0 w1, ← e2]; exact eS i w i0 i1 w0 w1
          · have := g 0 (by decide) (by decide)
            rw [Int.add_zero] at this
            rw [this]; exact b1
          · rw [g w w0 w1]; exact b2 w
        · exact plan_kp (σ := σ) (υ := ζ) (n := σ 29 3) (p := σ 64 27) (m := σ 64 27) (fun j hj => by rw [z30]; exact e30 j hj) (fun j hj => by rw [z36]; exact e36 j hj) (fun j hj => by rw [z79, e79 j hj, m79]) (fun j hj => by rw [z80, e80 j hj, m80]) (by rw [l1.1]; exact Int.le_refl _) (Int.le_refl _) l2 k k0 (by omega)
  · -- a taste
    subst y1
    have pr := law_p hB 241 0 (Int.le_refl _) hN.1
    have rno : ∀ (τ : Mem), FrC σ τ (σ 20 4) → τ 12 1 = σ 64 2 → (σ 64 13 < 4 → ∃ w, law (σ 65) (σ 64 2) 241 0 = .inl w) → (τ 0 = σ 0 ∧ τ 1 = σ 1) ∧ Cl 999 mR_text [aR 64, aI 1] τ (fun r4 τ5 => oI r4 (fun w6 => ((-1 : Int) = w6 ∧ rg (-1)) ∧ (τ5 0 = σ 0 ∧ τ5 1 = σ 1) ∧ Inv τ5)) := by
      intro τ f1 e12 hf
      have s1 := f1.1
      refine ⟨⟨s1.1 0 rfl, s1.1 1 rfl⟩, bR_text_in (d := 840) ⟨ha, fun _ => bR_text_22 (d := 840) ⟨ha, fun q => absurd rfl q, fun _ => ⟨by rw [s1.2 13 rfl]; exact ⟨by omega, by omega⟩, fun _ => ?_, fun q => ?_⟩⟩, fun q => absurd q y0⟩⟩
      · exact bR_text_69 (d := 840) ⟨ha, fun _ => ⟨⟨rfl, by decide⟩, ⟨s1.1 0 rfl, s1.1 1 rfl⟩, inv_taste hI rfl d1.2.2 f1 e12 (p := 4) (frL_of (frR_of Sm.refl))⟩, fun q => absurd q (by decide)⟩
      · rw [s1.2 13 rfl] at q ⊢
        obtain ⟨w, e⟩ := hf q
        have wr := pr.1 w e
        refine tasteR hB 840 (p := σ 64 13) ⟨by omega, by omega⟩ (by rw [s1.2 2 rfl]) (fun i i0 i1 => by rw [s1.1 65 rfl]) (fun w' e' υ f2 => ?_) (fun cs e' υ f2 _ _ => ?_)
        · have ew : w' = w := by rw [e] at e'; injection e' with e'; exact e'.symm
          have s2 := f2.1
          exact ⟨by rw [ew]; exact ⟨by omega, by omega⟩, fun _ => bR_text_69 (d := 840) ⟨ha, fun _ => ⟨⟨rfl, by decide⟩, ⟨by rw [s2.1 0 rfl, s1.1 0 rfl], by rw [s2.1 1 rfl, s1.1 1 rfl]⟩, inv_taste hI rfl (Int.le_refl _) f1 e12 f2⟩, fun q => absurd q (by decide)⟩, fun q => absurd q (by omega)⟩
        · rw [e] at e'; cases e'
    refine tasteC hB 871 (n := σ 20 4) ⟨by omega, by omega⟩ rfl t1 t13 (fun w e τ f1 e12 e3 => ⟨Or.inl rfl, by decide, fun q => absurd rfl q, fun _ => rno τ f1 e12 (fun _ => ⟨w, e⟩)⟩) (fun cs e τ f1 e12 em => ⟨Or.inr rfl, by decide, fun _ => ⟨fun _ => ⟨fun q => absurd rfl q, fun _ => ?_⟩, fun q => absurd q y0⟩, fun q => absurd q (by decide)⟩)
    have cb := pr.2 cs e
    have s1 := f1.1
    refine bTs_keepSpare_in (d := 997) ⟨by rw [s1.1 20 rfl]; exact ⟨by omega, by omega⟩, fun q => ?_, fun q => ⟨by decide, fun _ => rno τ f1 e12 (fun z => absurd z (by rw [s1.1 20 rfl] at q; omega)), fun z => absurd rfl z⟩⟩
    rw [s1.1 20 rfl] at q ⊢
    have e20 : σ 20 4 + 1 - 1 = σ 64 13 := by omega
    rw [e20]
    refine ⟨⟨by omega, by omega⟩, fun z => absurd z (by omega), fun _ => ?_⟩
    have s2 : Sm τ (ups (ups τ 20 4 (σ 20 4 + 1)) 12 1 0) [12, 20] [] := (Sm.refl.ups rfl (Or.inl (by decide))).ups rfl (Or.inl (by decide))
    have u20 : (ups (ups τ 20 4 (σ 20 4 + 1)) 12 1 0) 20 4 = σ 64 13 + 1 := by rw [ups_ne (by decide), ups_hit]; omega
    have u25 : (ups (ups τ 20 4 (σ 20 4 + 1)) 12 1 0) 20 5 = σ 20 5 := by rw [ups_ne (by decide), ups_fn (by decide), s1.1 20 rfl]
    have u12 : (ups (ups τ 20 4 (σ 20 4 + 1)) 12 1 0) 12 1 = 0 := ups_hit
    generalize (ups (ups τ 20 4 (σ 20 4 + 1)) 12 1 0) = υ0 at *
    refine ⟨⟨by rw [s2.1 0 rfl, s1.1 0 rfl], by rw [s2.1 1 rfl, s1.1 1 rfl]⟩, bR_text_in (d := 840) ⟨ha, fun _ => bR_text_22 (d := 840) ⟨ha, fun q => absurd rfl q, fun _ => ⟨by rw [s2.2 13 rfl, s1.2 13 rfl]; exact ⟨by omega, by omega⟩, fun z => absurd z (by rw [s2.2 13 rfl, s1.2 13 rfl]; omega), fun _ => ?_⟩⟩, fun q => absurd q y0⟩⟩
    rw [s2.2 13 rfl, s1.2 13 rfl]
    refine tasteR hB 840 (p := σ 64 13) ⟨by omega, by omega⟩ (by rw [s2.2 2 rfl, s1.2 2 rfl]) (fun i i0 i1 => by rw [s2.1 65 rfl, s1.1 65 rfl]) (fun w' e' υ f3 => ?_) (fun cs' e' υ f3 em' rw' => ?_)
    · rw [e] at e'; cases e'
    · rw [e] at e'
      injection e' with e'
      subst e'
      refine ⟨by decide, fun q => absurd rfl q, fun _ => ?_⟩
      have s3 := f3.1
      have s4 : Sm υ (ups (ups υ 64 2 0) 64 13 (υ 64 13 + 1)) [64] [2, 13] := (Sm.refl.ups rfl (Or.inr rfl)).ups rfl (Or.inr rfl)
      have x13 : υ 64 13 = σ 64 13 := by rw [s3.2 13 rfl, s2.2 13 rfl, s1.2 13 rfl]
      have v13 : (ups (ups υ 64 2 0) 64 13 (υ 64 13 + 1)) 64 13 = σ 64 13 + 1 := by rw [ups_hit, x13]
      have v2 : (ups (ups υ 64 2 0) 64 13 (υ 64 13 + 1)) 64 2 = 0 := by rw [ups_fn (by decide), ups_hit]
      rw [x13] at s4 v13 v2 ⊢
      generalize (ups (ups υ 64 2 0) 64 13 (σ 64 13 + 1)) = ζ at *
      have s : Sm σ ζ [12, 20, 21, 27, 64, 66, 67, 68, 69, 70, 71, 72] [2, 3, 4, 5, 13, 14] := (((s1.mono (by decide) (by decide)).trans (s2.mono (by decide) (by decide))).trans (s3.mono (by decide) (by decide))).trans (s4.mono (by decide) (by decide))
      have z12 : ζ 12 1 = 0 := by rw [s4.1 12 rfl, s3.1 12 rfl]; exact u12
      have z20 : ζ 20 = υ0 20 := by rw [s4.1 20 rfl, s3.1 20 rfl]
      have en : σ 20 4 = σ 64 13 := d1.1
      refine ⟨⟨by omega, ⟨by omega, by omega⟩⟩, ⟨s.1 0 rfl, s.1 1 rfl⟩, Inv.tst (J := []) hI s ⟨by rw [z12, v2], by rw [v2]; decide, by rw [v2]; decide, fun i i0 i1 => absurd i1 (by rw [v2]; omega)⟩ ⟨⟨?_, ?_, ?_⟩, ⟨?_, ?_, ?_⟩, ?_⟩⟩
      · rw [z20, u20, v13]
      · rw [v13]; omega
      · rw [v13]; omega
      · rw [z20, u25, s.2 42 rfl]; exact d2.1
      · rw [s.2 42 rfl]; exact d2.2.1
      · rw [s.2 42 rfl, v13]; omega
      · rw [v13]
        intro k k0 k1
        by_cases ek : k = σ 64 13
        · subst ek
          refine ⟨cs, law_ok hB 241 0 (Int.le_refl _) hN.1 cs e, ⟨?_, ?_, fun j v hj => ?_⟩, ⟨?_, ?_, ?_, fun j v hj => ?_, fun k c hk => ?_⟩⟩
          · rw [s4.1 27 rfl, s3.1 27 rfl, s2.1 27 rfl, ← en]; exact em.2.1
          · omega
          · rw [s4.1 21 rfl, s3.1 21 rfl, s2.1 21 rfl]
            have := em.2.2 j v hj
            rw [en, show (σ 64 13 * 240 + (j : Int)) = 240 * σ 64 13 + Int.ofNat j by show _ = 240 * σ 64 13 + ((j : Nat) : Int); omega] at this
            exact this
          · rw [s4.1 69 rfl]; exact rw'.1
          · omega
          · omega
          · rw [s4.1 66 rfl, s4.1 67 rfl]; exact em'.2.2 j v hj
          · rw [s4.1 70 rfl, s4.1 71 rfl, s4.1 72 rfl]; exact rw'.2 k c hk
        · obtain ⟨cs2, ok, tt⟩ := d3 k k0 (by omega)
          have tk : TK σ ζ (σ 64 13) := ((((tk_C f1 (by rw [en]; exact Int.le_refl _)).tr (tk_S s2 (by decide))).tr (tk_L f3 (Int.le_refl _))).tr (tk_S s4 (by decide)))
          exact ⟨cs2, ok, tk k cs2 k0 (by omega) tt⟩
  · -- a market
    subst y0
    have pr := mRd_r hB 241 0 MS0 mv_0 ⟨Int.le_refl _, hN.1⟩
    refine marketC hB 992 t1 t13 (fun w e τ s1 e12 e3 => ⟨Or.inl rfl, by decide, fun q => absurd rfl q, fun _ => ?_⟩) (fun M e τ s1 e12 mc => ⟨Or.inr rfl, by decide, fun _ => ⟨fun q => absurd rfl q, fun _ => ?_⟩, fun q => absurd q (by decide)⟩)
    · refine ⟨⟨s1.1 0 rfl, s1.1 1 rfl⟩, bR_text_in (d := 840) ⟨ha, fun q => absurd rfl q, fun _ => marketR hB 992 (by rw [s1.2 2 rfl]) (fun i i0 i1 => by rw [s1.1 65 rfl]) (fun w' e' υ s2 => ?_) (fun M e' υ s2 _ => ?_)⟩⟩
      · have ew : w' = w := by rw [e] at e'; injection e' with e'; exact e'.symm
        have wr := pr.1 w e
        refine ⟨by rw [ew]; exact ⟨by omega, by omega⟩, fun _ => bR_text_22 (d := 840) ⟨ha, fun _ => bR_text_69 (d := 840) ⟨ha, fun _ => ⟨⟨rfl, by decide⟩, ⟨by rw [s2.1 0 rfl, s1.1 0 rfl], by rw [s2.1 1 rfl, s1.1 1 rfl]⟩, hI.mkt ((s1.mono (by decide) (by decide)).trans (s2.mono (by decide) (by decide))) (by rw [s2.1 12 rfl, e12, t1])⟩, fun q => absurd q (by decide)⟩, fun q => absurd q (by decide)⟩, fun q => absurd q (by omega)⟩
      · rw [e] at e'; cases e'
    · obtain ⟨mv, hw⟩ := pr.2 M e
      have hM := mb_of mv
      obtain ⟨w1, -⟩ := wh_of hw
      have n0 := hM.n.1
      have cell := hI.2.1.2.2.2
      refine openC 995 hM mc (by rw [s1.1 38 rfl]; exact cell.1) (fun τ2 s2 e11 e41 e55 mk bg => ?_)
      refine ⟨⟨by omega, by omega⟩, fun z => absurd z (by omega), fun _ => ?_⟩
      have s3 : Sm τ2 (ups τ2 12 1 0) [12] [] := Sm.refl.ups rfl (Or.inl (by decide))
      have u12 : (ups τ2 12 1 0) 12 1 = 0 := ups_hit
      generalize (ups τ2 12 1 0) = υ0 at *
      refine ⟨⟨by rw [s3.1 0 rfl, s2.1 0 rfl, s1.1 0 rfl], by rw [s3.1 1 rfl, s2.1 1 rfl, s1.1 1 rfl]⟩, bR_text_in (d := 840) ⟨ha, fun q => absurd rfl q, fun _ => marketR hB 992 (by rw [s3.2 2 rfl, s2.2 2 rfl, s1.2 2 rfl]) (fun i i0 i1 => by rw [s3.1 65 rfl, s2.1 65 rfl, s1.1 65 rfl]) (fun w' e' υ s4 => ?_) (fun M' e' υ s4 mr => ?_)⟩⟩
      · rw [e] at e'; cases e'
      · rw [e] at e'
        injection e' with e'
        subst e'
        refine ⟨by decide, fun q => absurd rfl q, fun _ => ?_⟩
        have s5 : Sm υ (ups υ 64 2 0) [64] [2] := Sm.refl.ups rfl (Or.inr rfl)
        have v2 : (ups υ 64 2 0) 64 2 = 0 := ups_hit
        have mr5 : McR (ups υ 64 2 0) M := by
          unfold McR
          rw [s5.2 21 rfl, s5.2 22 rfl, s5.2 23 rfl, s5.2 24 rfl, s5.1 75 rfl, s5.1 76 rfl, s5.1 77 rfl, s5.1 78 rfl]; exact mr
        generalize (ups υ 64 2 0) = υ5 at *
        refine takeR 997 hM mr5 (by rw [s5.1 81 rfl, s4.1 81 rfl, s3.1 81 rfl, s2.1 81 rfl, s1.1 81 rfl]; exact cell.2.1) (fun ζ s6 k0 mk' bm => ?_)
        have s : Sm σ ζ [11, 12, 15, 16, 18, 19, 38, 41, 55, 64, 75, 76, 77, 78, 81, 82, 83, 84, 85, 86, 87, 88, 89] [2, 3, 4, 21, 22, 23, 24, 37, 38, 39, 40, 45, 55, 60, 63] := (((((s1.mono (by decide) (by decide)).trans (s2.mono (by decide) (by decide))).trans (s3.mono (by decide) (by decide))).trans (s4.mono (by decide) (by decide))).trans (s5.mono (by decide) (by decide))).trans (s6.mono (by decide) (by decide))
        have z2 : ζ 64 2 = 0 := by rw [s6.2 2 rfl]; exact v2
        have z12 : ζ 12 1 = 0 := by rw [s6.1 12 rfl, s5.1 12 rfl, s4.1 12 rfl]; exact u12
        have b : ∀ a, ([12, 64, 75, 76, 77, 78, 81, 82, 83, 84, 85, 86, 87, 88, 89] : List Nat).contains a = false → ζ a = τ2 a := by
          intro a h
          have t : Sm τ2 ζ [12, 64, 75, 76, 77, 78, 81, 82, 83, 84, 85, 86, 87, 88, 89] [2, 3, 4, 21, 22, 23, 24, 37, 38, 39, 40, 45, 55, 60, 63] := (((s3.mono (by decide) (by decide)).trans (s4.mono (by decide) (by decide))).trans (s5.mono (by decide) (by decide))).trans (s6.mono (by decide) (by decide))
          exact t.1 a h
        have mkz : MkC ζ M := by unfold MkC; rw [b 15 rfl, b 16 rfl]; exact mk
        have mark := mark_of hM hw mkz mk'
        obtain ⟨r1, r2, r3, r4⟩ := mk'.1
        have fr := fresh_rows n0 (by rw [← b 38 rfl] at bg; exact bg) bm (fun p p0 p1 => (hM.ofp p p0 p1).1) (fun p p0 p1 => (hM.ofp p p0 p1).2.1)
        obtain ⟨k55, k60, k45, k63⟩ := k0
        have x11 : τ 11 14 = σ 11 14 := by rw [s1.1 11 rfl]
        have x41 : τ 41 1 = σ 41 1 := by rw [s1.1 41 rfl]
        have p1 := hI.2.1.1.2.1
        refine ⟨⟨rfl, ⟨by omega, by omega⟩⟩, ⟨s.1 0 rfl, s.1 1 rfl⟩, ⟨⟨by rw [z12, z2], by rw [z2]; decide, by rw [z2]; decide, fun i i0 i1 => absurd i1 (by rw [z2]; omega)⟩, mark, fr.1, by rw [r1, r2]; exact fr.2⟩, ⟨⟨⟨?_, ?_, ?_⟩, ?_, fun j j0 j1 => absurd j1 (by rw [k45]; omega)⟩, ⟨⟨?_, ?_⟩, fun q => absurd q (by rw [k63]; decide)⟩, ⟨⟨?_, ?_, ?_⟩, ⟨?_, ?_, ?_⟩, fun k k0 k1 => absurd k1 (by rw [k55]; omega), fun k k0 k1 => absurd k1 (by rw [k60]; omega)⟩, ?_⟩, hI.2.2.1.sm s (by decide) (by decide), hI.2.2.2.1.sm s (by decide) (by decide), ?_⟩
        · rw [b 41 rfl, k45]; exact e41.1
        · rw [k45]; decide
        · rw [k45]; decide
        · rw [b 41 rfl, e41.2, x41]; exact p1
        · rw [b 11 rfl, k63]; exact e11.1
        · rw [k63]; exact Or.inl rfl
        · rw [b 55 rfl, k55]; exact e55.1
        · rw [k55]; decide
        · rw [k55]; decide
        · rw [b 55 rfl, k60]; exact e55.2
        · rw [k60]; decide
        · rw [k60]; decide
        · refine ⟨by rw [b 38 rfl]; exact bg.2.2.2, bm.2.2.2, ?_, ?_, ?_, ?_⟩
          · rw [s.1 42 rfl]; exact cell.2.2.1
          · rw [s.1 90 rfl]; exact cell.2.2.2.1
          · rw [s.1 43 rfl]; exact cell.2.2.2.2.1
          · rw [s.1 99 rfl]; exact cell.2.2.2.2.2
        · exact hI.2.2.2.2.cg (by rw [b 11 rfl, e11.2, x11]) (s.2 41 rfl) (s.2 43 rfl) (s.1 1 rfl) (by rw [s.1 0 rfl]) (by rw [s.1 40 rfl]; exact hI.2.2.2.2.2.2.2.2)
