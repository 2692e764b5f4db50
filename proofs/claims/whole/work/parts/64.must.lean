/-! ===== SPOILT; CASES must, sure ===== -/
def scrSL : List Nat := [64, 17, 18, 19, 28, 39, 44, 45, 46, 47, 48, 49, 50, 51, 52, 53, 54, 62, 63, 73, 74, 75, 76, 77, 78, 91, 92, 100]
def scrSJ : List Int := [0, 3, 4, 5, 14, 21, 22, 23, 24, 48, 49, 50, 51, 52, 61]
theorem Inv.scrS {σ τ : Mem} (h : Inv σ) (hs : Sm σ τ scrSL scrSJ) : Inv τ := by
  refine h.scr (fun a ha => hs.1 a ?_) ⟨by rw [hs.1 11 rfl], by rw [hs.1 11 rfl]⟩ (by rw [hs.1 12 rfl]) (fun j hj => hs.2 j ?_) (by rw [hs.1 0 rfl])
  · cases hc : scrSL.contains a with
    | false => rfl
    | true =>
      have k : ∀ b ∈ scrSL, b ∈ scrL := by decide
      exact absurd (k a (List.contains_iff_mem.mp hc)) ha
  · have k : ∀ b ∈ keep64, scrSJ.contains b = false := by decide
    exact k j hj
/-- parts that spoil x to one that had s, of the first n spoils -/
def spS (σ : Mem) (s x : Int) (n : Nat) : Int := sumI (fun k => if σ 86 k = x ∧ bt s (σ 85 k) = true then σ 87 k else 0) n
def spv (σ : Mem) (s x : Int) : Int := min 10 (spS σ s x (σ 64 39).toNat)
theorem spS_S {σ : Mem} {s x i : Int} (h : 0 ≤ i) : spS σ s x (i + 1).toNat = spS σ s x i.toNat + (if σ 86 i = x ∧ bt s (σ 85 i) = true then σ 87 i else 0) := sumI_S (f := fun k => if σ 86 k = x ∧ bt s (σ 85 k) = true then σ 87 k else 0) h
theorem spS_r {σ : Mem} (hM : MarkI σ) {s x : Int} {i : Int} (h : 0 ≤ i ∧ i ≤ σ 64 39) : 0 ≤ spS σ s x i.toNat ∧ spS σ s x i.toNat ≤ 90 := by
  obtain ⟨-, ⟨-, -, n3, -⟩, -, -, -, m5, -⟩ := hM
  have := sumI_bd (f := fun k => if σ 86 k = x ∧ bt s (σ 85 k) = true then σ 87 k else 0) (a := 0) (b := 9) (n := i.toNat) (fun k h0 h1 => by
    have := (m5 k h0 (by omega)).2.2.2.2
    try dsimp only
    split <;> omega)
  unfold spS
  omega
theorem spv_r {σ : Mem} (hM : MarkI σ) (s x : Int) : 0 ≤ spv σ s x ∧ spv σ s x ≤ 10 := by
  have := spS_r hM (s := s) (x := x) (i := σ 64 39) ⟨hM.2.1.2.2.1.1, Int.le_refl _⟩
  unfold spv; omega
theorem spoiltC {σ : Mem} (hM : MarkI σ) (d : Nat) {x s : Int} (hx : rg x) (hs : 0 ≤ s ∧ s < 2147483648) {Q : RV → Mem → Prop} (h : Q (rI (spv σ s x)) σ) : Cl (d + 2) mMk_spoilt [aR 14, aI x, aI s] σ Q := by
  have hM' := hM
  obtain ⟨⟨m1, m2, m3, m4⟩, ⟨n1, n2, n3, n4⟩, -, -, -, m5, -⟩ := hM
  refine bMk_spoilt_in ?_
  have key : ∀ u5, Ev (d + 2) mMk_spoilt 5 [vR 14, vI x, vI s, vI (spS σ s x (0 : Int).toNat), vI 0, u5] [] σ Q := by
    refine loop_up (G := fun i => ∀ u5, Ev (d + 2) mMk_spoilt 5 [vR 14, vI x, vI s, vI (spS σ s x i.toNat), vI i, u5] [] σ Q) (hi := σ 64 39) _ 0 rfl n3.1 (fun j j0 j1 g => ?_) ?_
    · intro u5
      obtain ⟨⟨k1, k2, k3⟩, k4, k5, k6, k7⟩ := m5 j j0 j1
      rw [show (60 + 3 * j : Int) = 60 + j * 3 by omega] at k1 k2 k3
      have g1 := g (vI (60 + j * 3))
      rw [spS_S j0] at g1
      refine bMk_spoilt_5 ⟨⟨by omega, by omega⟩, ⟨by omega, by omega⟩, fun q => absurd q (by omega), fun _ => ⟨(by omega), (by omega), ⟨by omega, by omega⟩, hx, fun q => ?_, fun q => ⟨(by omega), (by omega), rg_and _ _, fun w => ?_, fun w => ⟨(by omega), (by omega), ?_⟩⟩⟩⟩
      · rw [if_neg (fun z => q (by rw [k2]; exact z.1)), Int.add_zero] at g1; exact g1
      · rw [k1] at w
        rw [if_neg (fun z => w ((hb_bt hs (by omega)).mpr z.2)), Int.add_zero] at g1; exact g1
      · rw [k1] at w
        rw [if_pos ⟨by rw [← k2]; exact q, (hb_bt hs (by omega)).mp w⟩] at g1
        rw [k3]; exact g1
    · intro u5
      have := spS_r hM' (s := s) (x := x) (i := σ 64 39) ⟨n3.1, Int.le_refl _⟩
      refine bMk_spoilt_5 ⟨⟨by omega, by omega⟩, ⟨by omega, by omega⟩, fun _ => ⟨⟨by omega, by omega⟩, ?_⟩, fun q => absurd q (by omega)⟩
      rw [Int.min_comm]; exact h
  exact key vU
theorem spoiltR {σ : Mem} (hM : MarkI σ) (d : Nat) {x s : Int} (hx : rg x) (hs : 0 ≤ s ∧ s < 2147483648) {Q : RV → Mem → Prop} (h : Q (rI (spv σ s x)) σ) : Cl (d + 2) mR_spoiltBy [aR 64, aI s, aI x] σ Q := by
  have hM' := hM
  obtain ⟨⟨m1, m2, m3, m4⟩, ⟨n1, n2, n3, n4⟩, -, -, -, m5, -⟩ := hM
  refine bR_spoiltBy_in ?_
  have key : Ev (d + 2) mR_spoiltBy 5 [vR 64, vI s, vI x, vI (spS σ s x (0 : Int).toNat), vI 0] [] σ Q := by
    refine loop_up (G := fun i => Ev (d + 2) mR_spoiltBy 5 [vR 64, vI s, vI x, vI (spS σ s x i.toNat), vI i] [] σ Q) (hi := σ 64 39) _ 0 rfl n3.1 (fun j j0 j1 g => ?_) ?_
    · obtain ⟨-, k4, k5, k6, k7⟩ := m5 j j0 j1
      rw [spS_S j0] at g
      refine bR_spoiltBy_5 ⟨⟨by omega, by omega⟩, ⟨by omega, by omega⟩, fun q => absurd q (by omega), fun _ => ⟨(by omega), (by omega), ⟨by omega, by omega⟩, hx, fun q => ?_, fun q => ⟨fun w => ?_, fun w => ?_⟩⟩⟩
      · rw [if_neg (fun z => q z.1)] at g; exact g
      · rw [if_pos ⟨q, (hb_bt hs (by omega)).mp w⟩] at g; exact g
      · rw [if_neg (fun z => w ((hb_bt hs (by omega)).mpr z.2))] at g; exact g
    · have := spS_r hM' (s := s) (x := x) (i := σ 64 39) ⟨n3.1, Int.le_refl _⟩
      exact bR_spoiltBy_5 ⟨⟨by omega, by omega⟩, ⟨by omega, by omega⟩, fun _ => ⟨⟨by omega, by omega⟩, h⟩, fun q => absurd q (by omega)⟩
  exact key
theorem shl_T {T : Int} (h : 0 ≤ T ∧ T ≤ 8) : i_shl 1 T = 2 ^ T.toNat ∧ 1 ≤ i_shl 1 T ∧ i_shl 1 T ≤ 256 := by
  obtain ⟨k, rfl⟩ : ∃ n : Nat, T = (n : Int) := ⟨_, toN h.1⟩
  have e := i_shl_n (t := k) (by omega)
  have h1 : 2 ^ k ≤ 2 ^ 8 := Nat.pow_le_pow_right (by decide) (by omega)
  have h2 : 0 < 2 ^ k := Nat.pow_pos (by decide)
  rw [e]
  refine ⟨?_, by omega, by omega⟩
  simp
/-- whether the findings fit to a set, from the i-th on -/
def fitF (σ : Mem) (s : Int) : Nat → Int → Bool
  | 0, _ => true
  | k + 1, i => if spv σ s (σ 93 i) = σ 94 i then fitF σ s k (i + 1) else false
def fitv (σ : Mem) (s : Int) : Bool := fitF σ s (σ 64 55).toNat 0
theorem fitsC {σ : Mem} (hI : Inv σ) (d : Nat) {s : Int} (hs : 0 ≤ s ∧ s < 2147483648) {Q : RV → Mem → Prop} (h1 : fitv σ s = true → Q (rI 1) σ) (h0 : fitv σ s = false → Q (rI 0) σ) : Cl (d + 3) mEd_fits [aR 55, aR 14, aI s] σ Q := by
  obtain ⟨⟨v1, v2, v3⟩, -, v7, -⟩ := hI.2.1.2.2.1
  have hM := hI.1.2.1
  have hT := hM.2.1.1
  have key : ∀ (k : Nat) (i : Int), 0 ≤ i → i + (k : Int) = σ 64 55 → (fitF σ s k i = true → Q (rI 1) σ) → (fitF σ s k i = false → Q (rI 0) σ) → Ev (d + 3) mEd_fits 2 [vR 55, vR 14, vI s, vI i] [] σ Q := by
    intro k
    induction k with
    | zero =>
      intro i i0 i1 g1 g0
      exact bEd_fits_2 ⟨⟨by omega, by omega⟩, ⟨by omega, by omega⟩, fun _ => g1 rfl, fun q => absurd q (by omega)⟩
    | succ k ih =>
      intro i i0 i1 g1 g0
      obtain ⟨⟨k1, k2⟩, k3, k4⟩ := v7 i i0 (by omega)
      refine bEd_fits_2 ⟨⟨by omega, by omega⟩, ⟨by omega, by omega⟩, fun q => absurd q (by omega), fun _ => ⟨(by omega), (by omega), ?_⟩⟩
      have sr := spv_r hM s (σ 93 i)
      rw [k1]
      refine spoiltC hM d ⟨by omega, by omega⟩ hs ⟨⟨by omega, by omega⟩, ⟨by omega, by omega⟩, fun q => ih (i + 1) (by omega) (by omega) (fun z => g1 ?_) (fun z => g0 ?_), fun q => g0 ?_⟩
      · unfold fitF; rw [if_pos (by rw [q, k2])]; exact z
      · unfold fitF; rw [if_pos (by rw [q, k2])]; exact z
      · unfold fitF; rw [if_neg (by rw [← k2]; exact q)]
  exact bEd_fits_in (key (σ 64 55).toNat 0 (by decide) (by omega) h1 h0)
theorem fitsR {σ : Mem} (hI : Inv σ) (d : Nat) {s : Int} (hs : 0 ≤ s ∧ s < 2147483648) {Q : RV → Mem → Prop} (h1 : fitv σ s = true → Q (rI 1) σ) (h0 : fitv σ s = false → Q (rI 0) σ) : Cl (d + 3) mR_couldHaveHad [aR 64, aI s] σ Q := by
  obtain ⟨⟨v1, v2, v3⟩, -, v7, -⟩ := hI.2.1.2.2.1
  have hM := hI.1.2.1
  have hT := hM.2.1.1
  have key : ∀ (k : Nat) (i : Int), 0 ≤ i → i + (k : Int) = σ 64 55 → (fitF σ s k i = true → Q (rI 1) σ) → (fitF σ s k i = false → Q (rI 0) σ) → Ev (d + 3) mR_couldHaveHad 2 [vR 64, vI s, vI i] [] σ Q := by
    intro k
    induction k with
    | zero =>
      intro i i0 i1 g1 g0
      exact bR_couldHaveHad_2 ⟨⟨by omega, by omega⟩, ⟨by omega, by omega⟩, fun _ => g1 rfl, fun q => absurd q (by omega)⟩
    | succ k ih =>
      intro i i0 i1 g1 g0
      obtain ⟨⟨k1, k2⟩, k3, k4⟩ := v7 i i0 (by omega)
      refine bR_couldHaveHad_2 ⟨⟨by omega, by omega⟩, ⟨by omega, by omega⟩, fun q => absurd q (by omega), fun _ => ⟨(by omega), (by omega), ?_⟩⟩
      have sr := spv_r hM s (σ 93 i)
      refine spoiltR hM d ⟨by omega, by omega⟩ hs ⟨⟨by omega, by omega⟩, ⟨by omega, by omega⟩, fun q => ih (i + 1) (by omega) (by omega) (fun z => g1 ?_) (fun z => g0 ?_), fun q => g0 ?_⟩
      · unfold fitF; rw [if_pos q]; exact z
      · unfold fitF; rw [if_pos q]; exact z
      · unfold fitF; rw [if_neg q]
  exact bR_couldHaveHad_in (key (σ 64 55).toNat 0 (by decide) (by omega) h1 h0)
def mustF (σ : Mem) (a : Int) : Nat → Int → Int → Int
  | 0, _, n => if a = -1 then n else -1
  | k + 1, s, n => if fitv σ s = true then (if n = a then s else mustF σ a k (s + 1) (n + 1)) else mustF σ a k (s + 1) n
theorem mustF_r {σ : Mem} {a : Int} : ∀ (k : Nat) (s n : Int), 0 ≤ n → n ≤ s → -1 ≤ mustF σ a k s n ∧ mustF σ a k s n ≤ s + (k : Int)
  | 0, s, n, h0, h1 => by unfold mustF; split <;> omega
  | k + 1, s, n, h0, h1 => by
    unfold mustF
    have := mustF_r (σ := σ) (a := a) k (s + 1) (n + 1) (by omega) (by omega)
    have := mustF_r (σ := σ) (a := a) k (s + 1) n (by omega) (by omega)
    split
    · split <;> omega
    · omega
theorem c_must : ∀ (a : Int) (σ : Mem), Inv σ → rg a → Pair mF_must mR_must [aI a] σ := by
  intro a σ hI ha
  obtain ⟨⟨m1, m2, m3, m4⟩, ⟨n1, n2, n3, n4⟩, -⟩ := hI.1.2.1
  obtain ⟨s0, s1, s2⟩ := shl_T n1
  generalize hN : i_shl 1 (σ 64 37) = N at *
  have hN2 : i_shl 1 (σ 15 0) = N := by rw [m1]; exact hN
  by_cases hx : 0 < σ 64 37 ∧ -1 ≤ a
  · have hv := mustF_r (σ := σ) (a := a) N.toNat 0 0 (by decide) (by decide)
    refine pair_q (v := mustF σ a N.toNat 0 0) hI ⟨by omega, by omega⟩ ?_ ?_
    · have key : ∀ (Q : RV → Mem → Prop) (k : Nat) (s n : Int), 0 ≤ n → n ≤ s → s + (k : Int) = N → Q (rI (mustF σ a k s n)) σ → Ev 999 mF_must 21 [vR 11, vI a, vI n, vI s] [] σ Q := by
        intro Q k
        induction k with
        | zero =>
          intro s n h0 h1 h2 h3
          refine bF_must_21 (d := 995) ⟨⟨by omega, by omega⟩, by rw [hN2]; exact ⟨by omega, by omega⟩, fun _ => ⟨ha, fun q => ?_, fun q => ?_⟩, fun q => absurd q (by rw [hN2]; omega)⟩
          · unfold mustF at h3; rw [if_neg q] at h3; exact h3
          · unfold mustF at h3; rw [if_pos q] at h3; exact h3
        | succ k ih =>
          intro s n h0 h1 h2 h3
          refine bF_must_21 (d := 995) ⟨⟨by omega, by omega⟩, by rw [hN2]; exact ⟨by omega, by omega⟩, fun q => absurd q (by rw [hN2]; omega), fun _ => fitsC hI 995 ⟨by omega, by omega⟩ (fun f => ⟨by decide, fun q => absurd q (by decide), fun _ => ⟨⟨by omega, by omega⟩, ha, fun q => ?_, fun q => ?_⟩⟩) (fun f => ⟨by decide, fun _ => ?_, fun q => absurd rfl q⟩)⟩
          · unfold mustF at h3; rw [if_pos f, if_neg q] at h3
            exact ih (s + 1) (n + 1) (by omega) (by omega) (by omega) h3
          · unfold mustF at h3; rw [if_pos f, if_pos q] at h3; exact h3
          · unfold mustF at h3; rw [if_neg (by rw [f]; decide)] at h3
            exact ih (s + 1) n (by omega) (by omega) (by omega) h3
      exact bF_must_in (d := 995) ⟨⟨by omega, by omega⟩, fun _ => ⟨ha, fun _ => key _ N.toNat 0 0 (by decide) (by decide) (by omega) ⟨rfl, rfl⟩, fun q => absurd q (by omega)⟩, fun q => absurd (show 0 < σ 15 0 by omega) q⟩
    · have key : ∀ (Q : RV → Mem → Prop) (k : Nat) (s n : Int), 0 ≤ n → n ≤ s → s + (k : Int) = N → Q (rI (mustF σ a k s n)) σ → Ev 999 mR_must 18 [vR 64, vI a, vI n, vI s] [] σ Q := by
        intro Q k
        induction k with
        | zero =>
          intro s n h0 h1 h2 h3
          refine bR_must_18 (d := 995) ⟨⟨by omega, by omega⟩, by rw [hN]; exact ⟨by omega, by omega⟩, fun _ => ⟨ha, fun q => ?_, fun q => ?_⟩, fun q => absurd q (by rw [hN]; omega)⟩
          · unfold mustF at h3; rw [if_neg q] at h3; exact h3
          · unfold mustF at h3; rw [if_pos q] at h3; exact h3
        | succ k ih =>
          intro s n h0 h1 h2 h3
          refine bR_must_18 (d := 995) ⟨⟨by omega, by omega⟩, by rw [hN]; exact ⟨by omega, by omega⟩, fun q => absurd q (by rw [hN]; omega), fun _ => fitsR hI 995 ⟨by omega, by omega⟩ (fun f => ⟨by decide, fun q => absurd q (by decide), fun _ => ⟨⟨by omega, by omega⟩, ha, fun q => ?_, fun q => ?_⟩⟩) (fun f => ⟨by decide, fun _ => ?_, fun q => absurd rfl q⟩)⟩
          · unfold mustF at h3; rw [if_pos f, if_neg q] at h3
            exact ih (s + 1) (n + 1) (by omega) (by omega) (by omega) h3
          · unfold mustF at h3; rw [if_pos f, if_pos q] at h3; exact h3
          · unfold mustF at h3; rw [if_neg (by rw [f]; decide)] at h3
            exact ih (s + 1) n (by omega) (by omega) (by omega) h3
      exact bR_must_in (d := 995) ⟨⟨by omega, by omega⟩, fun q => absurd q (by omega), fun _ => ⟨ha, fun _ => key _ N.toNat 0 0 (by decide) (by decide) (by omega) ⟨rfl, rfl⟩, fun q => absurd q (by omega)⟩⟩
  · refine pair_q (v := -1) hI (by decide) ?_ ?_
    · exact bF_must_in (d := 995) ⟨⟨by omega, by omega⟩, fun q => ⟨ha, fun w => absurd (show 0 < σ 64 37 ∧ -1 ≤ a by omega) hx, fun _ => ⟨rfl, rfl⟩⟩, fun _ => ⟨rfl, rfl⟩⟩
    · exact bR_must_in (d := 995) ⟨⟨by omega, by omega⟩, fun _ => ⟨rfl, rfl⟩, fun q => ⟨ha, fun w => absurd (show 0 < σ 64 37 ∧ -1 ≤ a by omega) hx, fun _ => ⟨rfl, rfl⟩⟩⟩
def sureF (σ : Mem) : Nat → Int → Int → Int
  | 0, _, n => n
  | k + 1, s, n => if fitv σ s = true then (if n = -1 then sureF σ k (s + 1) s else sureF σ k (s + 1) (i_and n s)) else sureF σ k (s + 1) n
theorem sureF_r {σ : Mem} : ∀ (k : Nat) (s n : Int), 0 ≤ s → s + (k : Int) ≤ 256 → rg n → rg (sureF σ k s n)
  | 0, s, n, h0, h1, h => by unfold sureF; exact h
  | k + 1, s, n, h0, h1, h => by
    unfold sureF
    split
    · split
      · exact sureF_r k (s + 1) s (by omega) (by omega) ⟨by omega, by omega⟩
      · exact sureF_r k (s + 1) _ (by omega) (by omega) (rg_and _ _)
    · exact sureF_r k (s + 1) n (by omega) (by omega) h
theorem c_sure : ∀ (σ : Mem), Inv σ → Pair mF_sure mR_sure [] σ := by
  intro σ hI
  obtain ⟨⟨m1, m2, m3, m4⟩, ⟨n1, n2, n3, n4⟩, -⟩ := hI.1.2.1
  obtain ⟨s0, s1, s2⟩ := shl_T n1
  generalize hN : i_shl 1 (σ 64 37) = N at *
  have hN2 : i_shl 1 (σ 15 0) = N := by rw [m1]; exact hN
  by_cases hx : 0 < σ 64 37
  · have hv := sureF_r (σ := σ) N.toNat 0 (-1) (by decide) (by omega) (by decide)
    refine pair_q (v := sureF σ N.toNat 0 (-1)) hI hv ?_ ?_
    · have key : ∀ (Q : RV → Mem → Prop) (k : Nat) (s n : Int), rg n → 0 ≤ s → s + (k : Int) = N → Q (rI (sureF σ k s n)) σ → Ev 999 mF_sure 16 [vR 11, vI n, vI s] [] σ Q := by
        intro Q k
        induction k with
        | zero =>
          intro s n hn h1 h2 h3
          exact bF_sure_16 (d := 995) ⟨⟨by omega, by omega⟩, by rw [hN2]; exact ⟨by omega, by omega⟩, fun _ => h3, fun q => absurd q (by rw [hN2]; omega)⟩
        | succ k ih =>
          intro s n hn h1 h2 h3
          refine bF_sure_16 (d := 995) ⟨⟨by omega, by omega⟩, by rw [hN2]; exact ⟨by omega, by omega⟩, fun q => absurd q (by rw [hN2]; omega), fun _ => fitsC hI 995 ⟨by omega, by omega⟩ (fun f => ⟨by decide, fun q => absurd q (by decide), fun _ => ⟨hn, fun q => ?_, fun q => ?_⟩⟩) (fun f => ⟨by decide, fun _ => ?_, fun q => absurd rfl q⟩)⟩
          · unfold sureF at h3; rw [if_pos f, if_neg q] at h3
            exact ih (s + 1) _ (rg_and _ _) (by omega) (by omega) h3
          · unfold sureF at h3; rw [if_pos f, if_pos q] at h3
            exact ih (s + 1) s ⟨by omega, by omega⟩ (by omega) (by omega) h3
          · unfold sureF at h3; rw [if_neg (by rw [f]; decide)] at h3
            exact ih (s + 1) n hn (by omega) (by omega) h3
      exact bF_sure_in (d := 995) ⟨⟨by omega, by omega⟩, fun _ => key _ N.toNat 0 (-1) (by decide) (by decide) (by omega) ⟨rfl, rfl⟩, fun q => absurd (show 0 < σ 15 0 by omega) q⟩
    · have key : ∀ (Q : RV → Mem → Prop) (k : Nat) (s n : Int), rg n → 0 ≤ s → s + (k : Int) = N → Q (rI (sureF σ k s n)) σ → Ev 999 mR_sure 4 [vR 64, vI n, vI s] [] σ Q := by
        intro Q k
        induction k with
        | zero =>
          intro s n hn h1 h2 h3
          exact bR_sure_4 (d := 995) ⟨⟨by omega, by omega⟩, fun q => absurd q (by omega), fun _ => ⟨⟨by omega, by omega⟩, by rw [hN]; exact ⟨by omega, by omega⟩, fun _ => h3, fun q => absurd q (by rw [hN]; omega)⟩⟩
        | succ k ih =>
          intro s n hn h1 h2 h3
          refine bR_sure_4 (d := 995) ⟨⟨by omega, by omega⟩, fun q => absurd q (by omega), fun _ => ⟨⟨by omega, by omega⟩, by rw [hN]; exact ⟨by omega, by omega⟩, fun q => absurd q (by rw [hN]; omega), fun _ => fitsR hI 995 ⟨by omega, by omega⟩ (fun f => ⟨by decide, fun _ => ⟨hn, fun q => ?_, fun q => ?_⟩, fun q => absurd q (by decide)⟩) (fun f => ⟨by decide, fun q => absurd rfl q, fun _ => ?_⟩)⟩⟩
          · unfold sureF at h3; rw [if_pos f, if_neg q] at h3
            exact ih (s + 1) _ (rg_and _ _) (by omega) (by omega) h3
          · unfold sureF at h3; rw [if_pos f, if_pos q] at h3
            exact ih (s + 1) s ⟨by omega, by omega⟩ (by omega) (by omega) h3
          · unfold sureF at h3; rw [if_neg (by rw [f]; decide)] at h3
            exact ih (s + 1) n hn (by omega) (by omega) h3
      exact bR_sure_in (d := 995) (key _ N.toNat 0 (-1) (by decide) (by decide) (by omega) ⟨rfl, rfl⟩)
  · refine pair_q (v := -1) hI (by decide) ?_ ?_
    · exact bF_sure_in (d := 995) ⟨⟨by omega, by omega⟩, fun q => absurd (show 0 < σ 64 37 by omega) hx, fun _ => ⟨rfl, rfl⟩⟩
    · exact bR_sure_in (d := 995) (bR_sure_4 (d := 995) ⟨⟨by omega, by omega⟩, fun _ => ⟨rfl, rfl⟩, fun q => absurd q hx⟩)
