/-! ===== A PLAN'S STEP, BOTH SIDES ===== -/
theorem toldP {υ : Mem} (hP : PlanI υ) (d : Nat) {n i w : Int} (hn : 0 ≤ n ∧ n < υ 64 27) (hi : 0 ≤ i ∧ i < υ 80 n) (hw : 0 ≤ w ∧ w < 5) {Q : RV → Mem → Prop} (h : Q (rI (υ 79 (5 * (12 * n + i) + w))) υ) : Cl (d + 3) mPl_told [aR 29, aI n, aI i, aI w] υ Q := by
  obtain ⟨⟨p1, p2, p3⟩, p4⟩ := hP
  obtain ⟨⟨k1, k2, k3⟩, k4⟩ := p4 n hn.1 hn.2
  obtain ⟨l1, -, -⟩ := k4 i hi.1 hi.2
  refine bPl_told_in ⟨⟨by omega, by omega⟩, fun q => absurd q (by omega), fun _ => bPl_sizeOf_in ⟨⟨by omega, by omega⟩, ⟨by omega, by omega⟩, fun _ => ⟨(by omega), ?_⟩, fun q => absurd (by omega) q⟩⟩
  rw [k1]
  refine ⟨⟨by omega, by omega⟩, fun q => absurd q (by omega), fun _ => ⟨⟨by omega, by omega⟩, fun q => absurd q (by omega), fun _ => ⟨fun _ => ⟨(by omega), (by omega), (by omega), (by omega), ?_⟩, fun q => absurd q (by omega)⟩⟩⟩
  rw [show i * 5 + w = 5 * i + w by omega, l1 w hw.1 hw.2]
  exact h
def canM (T P k a b x v : Int) (m : Int → Int) : Prop :=
  (k = 0 ∧ (0 ≤ a ∧ a < P) ∧ (0 ≤ x ∧ x < T) ∧ 0 < m (8 * a + x)) ∨ (k = 1 ∧ (0 ≤ a ∧ a < P) ∧ (0 ≤ b ∧ b < P) ∧ a ≠ b ∧ (0 ≤ x ∧ x < T) ∧ 0 < m (8 * a + x) ∧ (0 ≤ v ∧ v ≤ 99) ∧ v ≤ m (60 + b)) ∨
  (k = 2 ∧ (0 ≤ a ∧ a < P) ∧ (0 ≤ b ∧ b < P) ∧ a ≠ b ∧ (0 ≤ x ∧ x < T) ∧ 0 < m (8 * b + x)) ∨ (k = 3 ∧ m 72 < 999)
theorem canM_cg {T P k a b x v : Int} {m m' : Int → Int} (hP : P ≤ 6) (hT : T ≤ 8) (h : ∀ i, 0 ≤ i → i < 74 → m' i = m i) (hc : canM T P k a b x v m) : canM T P k a b x v m' := by
  rcases hc with ⟨q, c1, c2, c3⟩ | ⟨q, c1, c2, c3, c4, c5, c6, c7⟩ | ⟨q, c1, c2, c3, c4, c5⟩ | ⟨q, c1⟩
  · exact Or.inl ⟨q, c1, c2, by rw [h _ (by omega) (by omega)]; exact c3⟩
  · exact Or.inr (Or.inl ⟨q, c1, c2, c3, c4, by rw [h _ (by omega) (by omega)]; exact c5, c6, by rw [h _ (by omega) (by omega)]; exact c7⟩)
  · exact Or.inr (Or.inr (Or.inl ⟨q, c1, c2, c3, c4, by rw [h _ (by omega) (by omega)]; exact c5⟩))
  · exact Or.inr (Or.inr (Or.inr ⟨q, by rw [h _ (by omega) (by omega)]; exact c1⟩))
/-- the row that the class's cells say, its log not asked -/
def mO (c : Int → Int) : Int → Int := fu (mOf c) 114 0
theorem mO_eq {c m : Int → Int} (h : RowS c m) {i : Int} (h0 : 0 ≤ i) (h1 : i < 74) : mO c i = m i := by
  unfold mO; rw [fu_ne (by omega)]; exact mOf_eq h h0 (Or.inl h1)
theorem mO_W {T P D B : Int} {c m : Int → Int} (hS : RowS c m) (h : RowW T P D B m) : RowS c (mO c) ∧ RowW T P D B (mO c) ∧ mO c 114 = 0 := by
  have w := h.mOf' hS
  refine ⟨(rowS_mOf c).cg w.2.2.2.2.2.2.1 (fun _ _ _ => rfl) (fun i i0 i1 => fu_ne (by omega)), w.cg (fun i i0 i1 => fu_ne (by omega)), fu_hit⟩
theorem bldS_cg {p p' : Int → Bool} : ∀ {n : Nat}, (∀ i : Int, 0 ≤ i → i < (n : Int) → p' i = p i) → bldS p' n = bldS p n
  | 0, _ => rfl
  | n + 1, h => by
    unfold bldS
    rw [bldS_cg (n := n) (fun i h0 h1 => h i h0 (by omega)), h (Int.ofNat n) (Int.ofNat_nonneg n) (by show ((n : Nat) : Int) < _; omega)]
theorem hvs_m {σ : Mem} {o : Option (List Cla)} {m m' : Int → Int} {p x : Int} (hT : 0 ≤ σ 64 37 ∧ σ 64 37 ≤ 8) (hp : 0 ≤ p ∧ p < 6) (h : ∀ i, 0 ≤ i → i < 74 → m' i = m i) : hvs σ o m' p x = hvs σ o m p x := by
  have e1 : wjv σ o m' p = wjv σ o m p := by
    funext s y
    unfold wjv
    rw [h 72 (by decide) (by decide), h _ (by omega) (by omega), h _ (by omega) (by omega)]
  have e2 : hdm m' p (σ 64 37) = hdm m p (σ 64 37) := bldS_cg (fun i i0 i1 => by rw [h _ (by omega) (by omega)])
  unfold hvs
  rw [e1, e2, h _ (by omega) (by omega)]
def StC (σ : Mem) (o : Option (List Cla)) (k a b x v : Int) (c c' : Int → Int) : Prop := (k = 0 → c' = gcL c a (hvs σ o (mO c) a x)) ∧ (k = 1 → c' = mvC (pyC c (3 + b * 4 + 0) (3 + a * 4 + 0) v) (27 + a * 8 + x) (27 + b * 8 + x)) ∧ (k = 2 → c' = mvC c (27 + b * 8 + x) (27 + a * 8 + x)) ∧ (k = 3 → DayC (σ 64 38) c c')
def StM (q : Int) (σ : Mem) (o : Option (List Cla)) (k a b x v : Int) (m m' : Int → Int) : Prop := (k = 0 → m' = gnL q m a (hvs σ o m a x)) ∧ (k = 1 → m' = mvC (pyC m (60 + b) (60 + a) v) (8 * a + x) (8 * b + x)) ∧ (k = 2 → m' = mvC m (8 * b + x) (8 * a + x)) ∧ (k = 3 → DayM (σ 64 38) m m')
/-- cells and row belong together, without the log -/
def CM (σ : Mem) (c m : Int → Int) : Prop := RowS c m ∧ RowW (σ 64 37) (σ 64 38) 999 47952 m ∧ (0 ≤ m 114 ∧ m 114 ≤ 60) ∧ (0 ≤ c 2 ∧ c 2 ≤ 60) ∧ RG c ∧ RG m
theorem CM.mO {σ : Mem} {c m : Int → Int} (h : CM σ c m) : CM σ c (mO c) := by
  obtain ⟨s, w, e⟩ := mO_W h.1 h.2.1
  refine ⟨s, w, by rw [e]; decide, h.2.2.2.1, h.2.2.2.2.1, ?_⟩
  exact (RG.mOf' h.2.2.2.2.1).offu (by decide)
theorem step_rel {σ : Mem} (hM : MarkI σ) {o : Option (List Cla)} {q k a b x v : Int} {c c' m m' : Int → Int} (h : CM σ c m) (hc : canM (σ 64 37) (σ 64 38) k a b x v m) (h1 : StC σ o k a b x v c c') (h2 : StM q σ o k a b x v m m') : CM σ c' m' ∧ (q = 0 → LogR c m → LogW m → LogR c' m' ∧ LogW m') := by
  obtain ⟨hS, hW, h0, hc2, C1, C2⟩ := h
  have n1 := hM.2.1.1
  have n2 := hM.2.1.2.1
  rcases hc with ⟨rfl, c1, c2, c3⟩ | ⟨rfl, x1, x2, x3, x4, x5, x6, x7⟩ | ⟨rfl, x1, x2, x3, x4, x5⟩ | ⟨rfl, c1⟩
  · have e1 := h1.1 rfl
    have e2 := h2.1 rfl
    rw [hvs_m n1 ⟨by omega, by omega⟩ (fun i i0 i1 => mO_eq hS i0 i1)] at e1
    obtain ⟨ok, -⟩ := hvs_ok (o := o) hM hW rfl q h0 (p := a) ⟨by omega, by omega⟩ c2 c3
    obtain ⟨g1, g2⟩ := gcL_RG q hS hW (Int.le_refl _) (Int.le_refl _) h0 hc2 (p := a) ⟨by omega, by omega⟩ n1 C1 C2 ok
    rw [e1, e2]
    refine ⟨⟨gcL_S hS hW h0 ⟨by omega, by omega⟩ n1 ok, gnL_W hW h0 ⟨by omega, by omega⟩ n1 ok, gnL_114 h0 ⟨by omega, by omega⟩ n1.2 ok, gcL_2 hc2 ⟨by omega, by omega⟩ n1.2 ok, g1, g2⟩, fun q0 hL hLW => ?_⟩
    subst q0
    exact gcL_L hS hW (Int.le_refl _) hL hLW (p := a) ⟨by omega, by omega⟩ n1 ok
  · have e1 := h1.2.1 rfl
    have e2 := h2.2.1 rfl
    have fb : c (27 + b * 8 + x) = m (8 * b + x) := Cor.eq hS (Cor.fst ⟨by omega, by omega⟩ ⟨by omega, by omega⟩)
    have fa : c (27 + a * 8 + x) = m (8 * a + x) := Cor.eq hS (Cor.fst ⟨by omega, by omega⟩ ⟨by omega, by omega⟩)
    have ma : c (3 + a * 4 + 0) = m (60 + a) := Cor.eq hS (Cor.money ⟨by omega, by omega⟩)
    have mb : c (3 + b * 4 + 0) = m (60 + b) := Cor.eq hS (Cor.money ⟨by omega, by omega⟩)
    have qa := hW.f48 (Int.le_refl _) (i := 8 * a + x) (by omega) (by omega)
    have qb := hW.f48 (Int.le_refl _) (i := 8 * b + x) (by omega) (by omega)
    have wa := hW.m594 (p := a) (by omega) (by omega)
    have wb := hW.m594 (p := b) (by omega) (by omega)
    rw [e1, e2]
    refine ⟨⟨(hS.py (Cor.money ⟨by omega, by omega⟩) (Cor.money ⟨by omega, by omega⟩)).mv (Cor.fst ⟨by omega, by omega⟩ ⟨by omega, by omega⟩) (Cor.fst ⟨by omega, by omega⟩ ⟨by omega, by omega⟩), (hW.py ⟨by omega, by omega⟩ ⟨by omega, by omega⟩ (by omega) (by omega) (by omega)).mv ⟨by omega, by omega⟩ ⟨by omega, by omega⟩ (by omega) (by rw [pyC_o (by omega) (by omega)]; exact x5), by rw [mvC_o (by omega) (by omega), pyC_o (by omega) (by omega)]; exact h0, by rw [mvC_o (by omega) (by omega), pyC_o (by omega) (by omega)]; exact hc2, (C1.py (by rw [mb]; exact ⟨by omega, by omega⟩) (by rw [fu_ne (by omega), ma]; exact ⟨by omega, by omega⟩)).mv (by rw [pyC_o (by omega) (by omega), fa]; exact ⟨by omega, by omega⟩) (by rw [fu_ne (by omega), pyC_o (by omega) (by omega), fb]; exact ⟨by omega, by omega⟩), (C2.py ⟨by omega, by omega⟩ (by rw [fu_ne (by omega)]; exact ⟨by omega, by omega⟩)).mv (by rw [pyC_o (by omega) (by omega)]; exact ⟨by omega, by omega⟩) (by rw [fu_ne (by omega), pyC_o (by omega) (by omega)]; exact ⟨by omega, by omega⟩)⟩, fun _ hL hLW => ⟨(hL.py ⟨by omega, by omega⟩ ⟨by omega, by omega⟩ (by omega) (by omega)).mv ⟨by omega, by omega⟩ ⟨by omega, by omega⟩ (by omega) (by omega), (hLW.py (by omega) (by omega)).mv (by omega) (by omega)⟩⟩
  · have e1 := h1.2.2.1 rfl
    have e2 := h2.2.2.1 rfl
    have fb : c (27 + b * 8 + x) = m (8 * b + x) := Cor.eq hS (Cor.fst ⟨by omega, by omega⟩ ⟨by omega, by omega⟩)
    have fa : c (27 + a * 8 + x) = m (8 * a + x) := Cor.eq hS (Cor.fst ⟨by omega, by omega⟩ ⟨by omega, by omega⟩)
    have qa := hW.f48 (Int.le_refl _) (i := 8 * a + x) (by omega) (by omega)
    have qb := hW.f48 (Int.le_refl _) (i := 8 * b + x) (by omega) (by omega)
    rw [e1, e2]
    exact ⟨⟨hS.mv (Cor.fst ⟨by omega, by omega⟩ ⟨by omega, by omega⟩) (Cor.fst ⟨by omega, by omega⟩ ⟨by omega, by omega⟩), hW.mv ⟨by omega, by omega⟩ ⟨by omega, by omega⟩ (by omega) x5, by rw [mvC_o (by omega) (by omega)]; exact h0, by rw [mvC_o (by omega) (by omega)]; exact hc2, C1.mv (by rw [fb]; exact ⟨by omega, by omega⟩) (by rw [fu_ne (by omega), fa]; exact ⟨by omega, by omega⟩), C2.mv ⟨by omega, by omega⟩ (by rw [fu_ne (by omega)]; exact ⟨by omega, by omega⟩)⟩, fun _ hL hLW => ⟨hL.mv ⟨by omega, by omega⟩ ⟨by omega, by omega⟩ (by omega) (by omega), hLW.mv (by omega) (by omega)⟩⟩
  · have e1 := h1.2.2.2 rfl
    have e2 := h2.2.2.2 rfl
    have w := (hW.D (D' := m 72) (Int.le_refl _)).day n1 n2 e2
    refine ⟨⟨hS.day hW.2.2.2.2.2.2.1 e1 e2, w.D (by rw [e2.2.2.2.2.1]; omega), by rw [e2.2.2.2.2.2.1 114 (by decide)]; exact h0, by rw [e1.2.2.2.2.1 2 (Or.inl rfl)]; exact hc2, e1.2.2.2.2.2, e2.2.2.2.2.2.2⟩, fun _ hL hLW => ⟨hL.day e1 e2, hLW.day e2⟩⟩
/-- the step that stands in a plan -/
abbrev pE (υ : Mem) (n i w : Int) : Int := υ 79 (5 * (12 * n + i) + w)
theorem mayStep37 {υ : Mem} (hM : MarkI υ) (hP : PlanI υ) {m : Int → Int} (h : CM υ (υ 38) m) (d : Nat) {n i : Int} (hn : 0 ≤ n ∧ n < υ 64 27) (hi : 0 ≤ i ∧ i < υ 80 n) {Q : RV → Mem → Prop}
    (q1 : canM (υ 64 37) (υ 64 38) (pE υ n i 0) (pE υ n i 1) (pE υ n i 2) (pE υ n i 3) (pE υ n i 4) m → Q (rI 1) υ) (q0 : ¬ canM (υ 64 37) (υ 64 38) (pE υ n i 0) (pE υ n i 1) (pE υ n i 2) (pE υ n i 3) (pE υ n i 4) m → Q (rI 0) υ) : Cl (d + 5) mF_mayStep [aR 11, aR 37, aI n, aI i] υ Q := by
  obtain ⟨hS, hW, h0, hc2, C1, C2⟩ := h
  obtain ⟨⟨m1, m2, m3, m4⟩, ⟨n1, n2, n3, n4⟩, -⟩ := hM
  obtain ⟨-, k4⟩ := hP.2 n hn.1 hn.2
  obtain ⟨-, l2, l3⟩ := k4 i hi.1 hi.2
  have r1 := l3 1 (by decide) (by decide)
  have r2 := l3 2 (by decide) (by decide)
  have r3 := l3 3 (by decide) (by decide)
  have r4 := l3 4 (by decide) (by decide)
  have ck : cOK υ 38 := ⟨⟨by omega, by omega⟩, ⟨by omega, by omega⟩, ⟨by omega, by omega⟩, ⟨by omega, by omega⟩, C1⟩
  have f72 := hW.2.2.2.2.2.1
  have e0 : υ 38 0 = m 72 := hS.1.1
  refine bF_mayStep_r11_r37_in (toldP hP (d + 1) hn hi (by decide) (toldP hP (d + 1) hn hi (by decide) (toldP hP (d + 1) hn hi (by decide) (toldP hP (d + 1) hn hi (by decide) ?_))))
  unfold canM at q1 q0
  rw [show pE υ n i 0 = υ 79 (5 * (12 * n + i)) by show υ 79 (5 * (12 * n + i) + 0) = _; rw [Int.add_zero]] at q1 q0
  rw [show υ 79 (5 * (12 * n + i) + 0) = υ 79 (5 * (12 * n + i)) by rw [Int.add_zero]]
  have fst : ∀ p x, (0 ≤ p ∧ p < υ 64 38) → (0 ≤ x ∧ x < υ 64 37) → υ 38 (27 + p * 8 + x) = m (8 * p + x) := fun p x hp hx => Cor.eq hS (Cor.fst ⟨by omega, by omega⟩ ⟨by omega, by omega⟩)
  have mon : ∀ p, (0 ≤ p ∧ p < υ 64 38) → υ 38 (3 + p * 4 + 0) = m (60 + p) := fun p hp => Cor.eq hS (Cor.money ⟨by omega, by omega⟩)
  generalize υ 79 (5 * (12 * n + i)) = k at *
  have t4 := fun (Q' : RV → Mem → Prop) (hq : Q' (rI (υ 79 (5 * (12 * n + i) + 4))) υ) => toldP hP (d + 1) hn hi (w := 4) (by decide) hq
  generalize hA : υ 79 (5 * (12 * n + i) + 1) = a at *
  generalize hB : υ 79 (5 * (12 * n + i) + 2) = b at *
  generalize hX : υ 79 (5 * (12 * n + i) + 3) = x at *
  generalize hV : υ 79 (5 * (12 * n + i) + 4) = v at *
  have hA' : pE υ n i 1 = a := hA
  have hB' : pE υ n i 2 = b := hB
  have hX' : pE υ n i 3 = x := hX
  have hV' : pE υ n i 4 = v := hV
  rw [hA', hB', hX', hV'] at q1 q0
  refine ⟨⟨by omega, by omega⟩, fun z => ⟨⟨by omega, by omega⟩, ⟨by omega, by omega⟩, ck, fun y => q1 (Or.inl ⟨z, (by omega), (by omega), by rw [← fst a x (by omega) (by omega)]; exact y.2.2.2.2⟩), fun y => q0 (fun w => y ?_)⟩, fun z => ⟨fun z1 => t4 _ ⟨⟨by omega, by omega⟩, ⟨by omega, by omega⟩, ⟨by omega, by omega⟩, ⟨by omega, by omega⟩, ck, fun y => q1 (Or.inr (Or.inl ⟨z1, (by omega), (by omega), (by omega), (by omega), by rw [← fst a x (by omega) (by omega)]; exact y.2.2.2.2.1, (by omega), by rw [← mon b (by omega)]; exact y.2.2.2.2.2.2.2.2.2.2⟩)), fun y => q0 (fun w => y ?_)⟩, fun z1 => ⟨fun z2 => ⟨⟨by omega, by omega⟩, ⟨by omega, by omega⟩, ⟨by omega, by omega⟩, ck, fun y => q1 (Or.inr (Or.inr (Or.inl ⟨z2, (by omega), (by omega), (by omega), (by omega), by rw [← fst b x (by omega) (by omega)]; exact y.2.2.2.2.2.2.2⟩))), fun y => q0 (fun w => y ?_)⟩, fun z2 => ⟨fun z3 => ⟨by rw [e0]; exact ⟨by omega, by omega⟩, fun y => q0 (fun w => by omega), fun y => q1 (Or.inr (Or.inr (Or.inr ⟨z3, by omega⟩)))⟩, fun z3 => q0 (fun w => by omega)⟩⟩⟩⟩
  · have w1 : (0 ≤ a ∧ a < υ 64 38) ∧ (0 ≤ x ∧ x < υ 64 37) ∧ 0 < m (8 * a + x) := by omega
    have f := fst a x w1.1 w1.2.1
    omega
  · have w1 : (0 ≤ a ∧ a < υ 64 38) ∧ (0 ≤ b ∧ b < υ 64 38) ∧ a ≠ b ∧ (0 ≤ x ∧ x < υ 64 37) ∧ 0 < m (8 * a + x) ∧ (0 ≤ v ∧ v ≤ 99) ∧ v ≤ m (60 + b) := by omega
    have f := fst a x w1.1 w1.2.2.2.1
    have g := mon b w1.2.1
    omega
  · have w1 : (0 ≤ a ∧ a < υ 64 38) ∧ (0 ≤ b ∧ b < υ 64 38) ∧ a ≠ b ∧ (0 ≤ x ∧ x < υ 64 37) ∧ 0 < m (8 * b + x) := by omega
    have f := fst b x w1.2.1 w1.2.2.2.1
    omega
theorem doStep37 {υ : Mem} (hM : MarkI υ) {o : Option (List Cla)} (hH : Held υ o) (hP : PlanI υ) {m : Int → Int} (h : CM υ (υ 38) m) (d : Nat) {n i : Int} (hn : 0 ≤ n ∧ n < υ 64 27) (hi : 0 ≤ i ∧ i < υ 80 n) (hc : canM (υ 64 37) (υ 64 38) (pE υ n i 0) (pE υ n i 1) (pE υ n i 2) (pE υ n i 3) (pE υ n i 4) m) {Q : RV → Mem → Prop}
    (hQ : ∀ τ, Sm υ τ [28, 45, 46, 47, 48, 49, 38] [] → StC υ o (pE υ n i 0) (pE υ n i 1) (pE υ n i 2) (pE υ n i 3) (pE υ n i 4) (υ 38) (τ 38) → Q rV τ) : Cl (d + 19) mF_doStep [aR 11, aR 37, aI n, aI i] υ Q := by
  obtain ⟨s', w', h0', hc2', C1', C2'⟩ := h.mO
  obtain ⟨hS, hW, h0, hc2, C1, C2⟩ := h
  have n1 := hM.2.1.1
  have n2 := hM.2.1.2.1
  have m2 := hM.1.2.1
  obtain ⟨-, k4⟩ := hP.2 n hn.1 hn.2
  obtain ⟨-, l2, l3⟩ := k4 i hi.1 hi.2
  refine bF_doStep_r11_r37_in (toldP hP (d + 15) hn hi (by decide) (toldP hP (d + 15) hn hi (by decide) (toldP hP (d + 15) hn hi (by decide) (toldP hP (d + 15) hn hi (by decide) ?_))))
  have t4 := fun (Q' : RV → Mem → Prop) (hq : Q' (rI (pE υ n i 4)) υ) => toldP hP (d + 15) hn hi (w := 4) (by decide) hq
  have l2' : 0 ≤ pE υ n i 0 ∧ pE υ n i 0 ≤ 3 := by unfold pE; rw [Int.add_zero]; exact l2
  show rg (pE υ n i 0) ∧ _
  refine ⟨⟨by omega, by omega⟩, fun z => ?_, fun z => ⟨fun z1 => t4 _ ?_, fun z1 => ⟨fun z2 => ?_, fun z2 => ?_⟩⟩⟩
  · have z' : pE υ n i 0 = 0 := z
    have w1 : (0 ≤ pE υ n i 1 ∧ pE υ n i 1 < υ 64 38) ∧ (0 ≤ pE υ n i 3 ∧ pE υ n i 3 < υ 64 37) ∧ 0 < m (8 * pE υ n i 1 + pE υ n i 3) := by rcases hc with c | c | c | c <;> omega
    refine doHave37 hM hH s' w' (Int.le_refl _) rfl (by decide) h0' hc2 d w1.1 w1.2.1 (by rw [mO_eq hS (by omega) (by omega)]; exact w1.2.2) (fun τ sm e => ?_)
    exact hQ τ sm ⟨fun _ => e, fun y => absurd y (by omega), fun y => absurd y (by omega), fun y => absurd y (by omega)⟩
  · have z' : pE υ n i 0 = 1 := z1
    have w1 : (0 ≤ pE υ n i 1 ∧ pE υ n i 1 < υ 64 38) ∧ (0 ≤ pE υ n i 2 ∧ pE υ n i 2 < υ 64 38) ∧ pE υ n i 1 ≠ pE υ n i 2 ∧ (0 ≤ pE υ n i 3 ∧ pE υ n i 3 < υ 64 37) := by rcases hc with c | c | c | c <;> omega
    show Cl (d + 18) mSt_doSell [aR 37, aI (pE υ n i 1), aI (pE υ n i 2), aI (pE υ n i 3), aI (pE υ n i 4)] υ _
    generalize pE υ n i 1 = a at *
    generalize pE υ n i 2 = b at *
    generalize pE υ n i 3 = x at *
    generalize pE υ n i 4 = v at *
    refine bSt_doSell_r37_in (d := d + 15) (bSt_pay_r37_in (d := d + 15) ⟨(by omega), (by omega), fun μ4 h4 => ⟨(by omega), (by omega), fun μ8 h8 => bSt_doSteal_r37_in (d := d + 15) ⟨(by omega), (by omega), fun ν4 k4 => ⟨(by omega), (by omega), fun ν8 k8 => hQ ν8 ?_ ⟨fun y => absurd y (by omega), fun _ => ?_, fun y => absurd y (by omega), fun y => absurd y (by omega)⟩⟩⟩⟩⟩)
    · rw [k8, k4, h8, h4]; exact (((Sm.refl.ups rfl (Or.inl (by decide))).ups rfl (Or.inl (by decide))).ups rfl (Or.inl (by decide))).ups rfl (Or.inl (by decide))
    · have t8 : μ8 38 = pyC (υ 38) (3 + b * 4 + 0) (3 + a * 4 + 0) v := by rw [h8, ups_row, h4, ups_row]; rfl
      rw [k8, ups_row, k4, ups_row, t8]; rfl
  · have z' : pE υ n i 0 = 2 := z2
    have w1 : (0 ≤ pE υ n i 1 ∧ pE υ n i 1 < υ 64 38) ∧ (0 ≤ pE υ n i 2 ∧ pE υ n i 2 < υ 64 38) ∧ pE υ n i 1 ≠ pE υ n i 2 ∧ (0 ≤ pE υ n i 3 ∧ pE υ n i 3 < υ 64 37) := by rcases hc with c | c | c | c <;> omega
    show Cl (d + 18) mSt_doSteal [aR 37, aI (pE υ n i 1), aI (pE υ n i 2), aI (pE υ n i 3)] υ _
    generalize pE υ n i 1 = a at *
    generalize pE υ n i 2 = b at *
    generalize pE υ n i 3 = x at *
    refine bSt_doSteal_r37_in (d := d + 16) ⟨(by omega), (by omega), fun ν4 k4 => ⟨(by omega), (by omega), fun ν8 k8 => hQ ν8 ?_ ⟨fun y => absurd y (by omega), fun y => absurd y (by omega), fun _ => ?_, fun y => absurd y (by omega)⟩⟩⟩
    · rw [k8, k4]; exact (Sm.refl.ups rfl (Or.inl (by decide))).ups rfl (Or.inl (by decide))
    · rw [k8, ups_row, k4, ups_row]; rfl
  · have z' : pE υ n i 0 = 3 := by have : pE υ n i 0 ≠ 2 := z2; have : pE υ n i 0 ≠ 1 := z1; have : pE υ n i 0 ≠ 0 := z; omega
    refine endDayC37 (T := υ 64 37) (P := υ 64 38) (D := 999) (B := 47952) hS hW (Int.le_refl _) n1.2 ⟨m2, n2⟩ (by decide) C1 (d + 14) (fun τ sm e => hQ τ (sm.mono (by decide) (by decide)) ⟨fun y => absurd y (by omega), fun y => absurd y (by omega), fun y => absurd y (by omega), fun _ => e⟩)
theorem mayStep39 {υ : Mem} (hM : MarkI υ) (hP : PlanI υ) {m : Int → Int} (h : CM υ (υ 40) m) (d : Nat) {n i : Int} (hn : 0 ≤ n ∧ n < υ 64 27) (hi : 0 ≤ i ∧ i < υ 80 n) {Q : RV → Mem → Prop}
    (q1 : canM (υ 64 37) (υ 64 38) (pE υ n i 0) (pE υ n i 1) (pE υ n i 2) (pE υ n i 3) (pE υ n i 4) m → Q (rI 1) υ) (q0 : ¬ canM (υ 64 37) (υ 64 38) (pE υ n i 0) (pE υ n i 1) (pE υ n i 2) (pE υ n i 3) (pE υ n i 4) m → Q (rI 0) υ) : Cl (d + 5) mF_mayStep [aR 11, aR 39, aI n, aI i] υ Q := by
  obtain ⟨hS, hW, h0, hc2, C1, C2⟩ := h
  obtain ⟨⟨m1, m2, m3, m4⟩, ⟨n1, n2, n3, n4⟩, -⟩ := hM
  obtain ⟨-, k4⟩ := hP.2 n hn.1 hn.2
  obtain ⟨-, l2, l3⟩ := k4 i hi.1 hi.2
  have r1 := l3 1 (by decide) (by decide)
  have r2 := l3 2 (by decide) (by decide)
  have r3 := l3 3 (by decide) (by decide)
  have r4 := l3 4 (by decide) (by decide)
  have ck : cOK υ 40 := ⟨⟨by omega, by omega⟩, ⟨by omega, by omega⟩, ⟨by omega, by omega⟩, ⟨by omega, by omega⟩, C1⟩
  have f72 := hW.2.2.2.2.2.1
  have e0 : υ 40 0 = m 72 := hS.1.1
  refine bF_mayStep_r11_r39_in (toldP hP (d + 1) hn hi (by decide) (toldP hP (d + 1) hn hi (by decide) (toldP hP (d + 1) hn hi (by decide) (toldP hP (d + 1) hn hi (by decide) ?_))))
  unfold canM at q1 q0
  rw [show pE υ n i 0 = υ 79 (5 * (12 * n + i)) by show υ 79 (5 * (12 * n + i) + 0) = _; rw [Int.add_zero]] at q1 q0
  rw [show υ 79 (5 * (12 * n + i) + 0) = υ 79 (5 * (12 * n + i)) by rw [Int.add_zero]]
  have fst : ∀ p x, (0 ≤ p ∧ p < υ 64 38) → (0 ≤ x ∧ x < υ 64 37) → υ 40 (27 + p * 8 + x) = m (8 * p + x) := fun p x hp hx => Cor.eq hS (Cor.fst ⟨by omega, by omega⟩ ⟨by omega, by omega⟩)
  have mon : ∀ p, (0 ≤ p ∧ p < υ 64 38) → υ 40 (3 + p * 4 + 0) = m (60 + p) := fun p hp => Cor.eq hS (Cor.money ⟨by omega, by omega⟩)
  generalize υ 79 (5 * (12 * n + i)) = k at *
  have t4 := fun (Q' : RV → Mem → Prop) (hq : Q' (rI (υ 79 (5 * (12 * n + i) + 4))) υ) => toldP hP (d + 1) hn hi (w := 4) (by decide) hq
  generalize hA : υ 79 (5 * (12 * n + i) + 1) = a at *
  generalize hB : υ 79 (5 * (12 * n + i) + 2) = b at *
  generalize hX : υ 79 (5 * (12 * n + i) + 3) = x at *
  generalize hV : υ 79 (5 * (12 * n + i) + 4) = v at *
  have hA' : pE υ n i 1 = a := hA
  have hB' : pE υ n i 2 = b := hB
  have hX' : pE υ n i 3 = x := hX
  have hV' : pE υ n i 4 = v := hV
  rw [hA', hB', hX', hV'] at q1 q0
  refine ⟨⟨by omega, by omega⟩, fun z => ⟨⟨by omega, by omega⟩, ⟨by omega, by omega⟩, ck, fun y => q1 (Or.inl ⟨z, (by omega), (by omega), by rw [← fst a x (by omega) (by omega)]; exact y.2.2.2.2⟩), fun y => q0 (fun w => y ?_)⟩, fun z => ⟨fun z1 => t4 _ ⟨⟨by omega, by omega⟩, ⟨by omega, by omega⟩, ⟨by omega, by omega⟩, ⟨by omega, by omega⟩, ck, fun y => q1 (Or.inr (Or.inl ⟨z1, (by omega), (by omega), (by omega), (by omega), by rw [← fst a x (by omega) (by omega)]; exact y.2.2.2.2.1, (by omega), by rw [← mon b (by omega)]; exact y.2.2.2.2.2.2.2.2.2.2⟩)), fun y => q0 (fun w => y ?_)⟩, fun z1 => ⟨fun z2 => ⟨⟨by omega, by omega⟩, ⟨by omega, by omega⟩, ⟨by omega, by omega⟩, ck, fun y => q1 (Or.inr (Or.inr (Or.inl ⟨z2, (by omega), (by omega), (by omega), (by omega), by rw [← fst b x (by omega) (by omega)]; exact y.2.2.2.2.2.2.2⟩))), fun y => q0 (fun w => y ?_)⟩, fun z2 => ⟨fun z3 => ⟨by rw [e0]; exact ⟨by omega, by omega⟩, fun y => q0 (fun w => by omega), fun y => q1 (Or.inr (Or.inr (Or.inr ⟨z3, by omega⟩)))⟩, fun z3 => q0 (fun w => by omega)⟩⟩⟩⟩
  · have w1 : (0 ≤ a ∧ a < υ 64 38) ∧ (0 ≤ x ∧ x < υ 64 37) ∧ 0 < m (8 * a + x) := by omega
    have f := fst a x w1.1 w1.2.1
    omega
  · have w1 : (0 ≤ a ∧ a < υ 64 38) ∧ (0 ≤ b ∧ b < υ 64 38) ∧ a ≠ b ∧ (0 ≤ x ∧ x < υ 64 37) ∧ 0 < m (8 * a + x) ∧ (0 ≤ v ∧ v ≤ 99) ∧ v ≤ m (60 + b) := by omega
    have f := fst a x w1.1 w1.2.2.2.1
    have g := mon b w1.2.1
    omega
  · have w1 : (0 ≤ a ∧ a < υ 64 38) ∧ (0 ≤ b ∧ b < υ 64 38) ∧ a ≠ b ∧ (0 ≤ x ∧ x < υ 64 37) ∧ 0 < m (8 * b + x) := by omega
    have f := fst b x w1.2.1 w1.2.2.2.1
    omega
theorem doStep39 {υ : Mem} (hM : MarkI υ) {o : Option (List Cla)} (hH : Held υ o) (hP : PlanI υ) {m : Int → Int} (h : CM υ (υ 40) m) (d : Nat) {n i : Int} (hn : 0 ≤ n ∧ n < υ 64 27) (hi : 0 ≤ i ∧ i < υ 80 n) (hc : canM (υ 64 37) (υ 64 38) (pE υ n i 0) (pE υ n i 1) (pE υ n i 2) (pE υ n i 3) (pE υ n i 4) m) {Q : RV → Mem → Prop}
    (hQ : ∀ τ, Sm υ τ [28, 45, 46, 47, 48, 49, 40] [] → StC υ o (pE υ n i 0) (pE υ n i 1) (pE υ n i 2) (pE υ n i 3) (pE υ n i 4) (υ 40) (τ 40) → Q rV τ) : Cl (d + 19) mF_doStep [aR 11, aR 39, aI n, aI i] υ Q := by
  obtain ⟨s', w', h0', hc2', C1', C2'⟩ := h.mO
  obtain ⟨hS, hW, h0, hc2, C1, C2⟩ := h
  have n1 := hM.2.1.1
  have n2 := hM.2.1.2.1
  have m2 := hM.1.2.1
  obtain ⟨-, k4⟩ := hP.2 n hn.1 hn.2
  obtain ⟨-, l2, l3⟩ := k4 i hi.1 hi.2
  refine bF_doStep_r11_r39_in (toldP hP (d + 15) hn hi (by decide) (toldP hP (d + 15) hn hi (by decide) (toldP hP (d + 15) hn hi (by decide) (toldP hP (d + 15) hn hi (by decide) ?_))))
  have t4 := fun (Q' : RV → Mem → Prop) (hq : Q' (rI (pE υ n i 4)) υ) => toldP hP (d + 15) hn hi (w := 4) (by decide) hq
  have l2' : 0 ≤ pE υ n i 0 ∧ pE υ n i 0 ≤ 3 := by unfold pE; rw [Int.add_zero]; exact l2
  show rg (pE υ n i 0) ∧ _
  refine ⟨⟨by omega, by omega⟩, fun z => ?_, fun z => ⟨fun z1 => t4 _ ?_, fun z1 => ⟨fun z2 => ?_, fun z2 => ?_⟩⟩⟩
  · have z' : pE υ n i 0 = 0 := z
    have w1 : (0 ≤ pE υ n i 1 ∧ pE υ n i 1 < υ 64 38) ∧ (0 ≤ pE υ n i 3 ∧ pE υ n i 3 < υ 64 37) ∧ 0 < m (8 * pE υ n i 1 + pE υ n i 3) := by rcases hc with c | c | c | c <;> omega
    refine doHave39 hM hH s' w' (Int.le_refl _) rfl (by decide) h0' hc2 d w1.1 w1.2.1 (by rw [mO_eq hS (by omega) (by omega)]; exact w1.2.2) (fun τ sm e => ?_)
    exact hQ τ sm ⟨fun _ => e, fun y => absurd y (by omega), fun y => absurd y (by omega), fun y => absurd y (by omega)⟩
  · have z' : pE υ n i 0 = 1 := z1
    have w1 : (0 ≤ pE υ n i 1 ∧ pE υ n i 1 < υ 64 38) ∧ (0 ≤ pE υ n i 2 ∧ pE υ n i 2 < υ 64 38) ∧ pE υ n i 1 ≠ pE υ n i 2 ∧ (0 ≤ pE υ n i 3 ∧ pE υ n i 3 < υ 64 37) := by rcases hc with c | c | c | c <;> omega
    show Cl (d + 18) mSt_doSell [aR 39, aI (pE υ n i 1), aI (pE υ n i 2), aI (pE υ n i 3), aI (pE υ n i 4)] υ _
    generalize pE υ n i 1 = a at *
    generalize pE υ n i 2 = b at *
    generalize pE υ n i 3 = x at *
    generalize pE υ n i 4 = v at *
    refine bSt_doSell_r39_in (d := d + 15) (bSt_pay_r39_in (d := d + 15) ⟨(by omega), (by omega), fun μ4 h4 => ⟨(by omega), (by omega), fun μ8 h8 => bSt_doSteal_r39_in (d := d + 15) ⟨(by omega), (by omega), fun ν4 k4 => ⟨(by omega), (by omega), fun ν8 k8 => hQ ν8 ?_ ⟨fun y => absurd y (by omega), fun _ => ?_, fun y => absurd y (by omega), fun y => absurd y (by omega)⟩⟩⟩⟩⟩)
    · rw [k8, k4, h8, h4]; exact (((Sm.refl.ups rfl (Or.inl (by decide))).ups rfl (Or.inl (by decide))).ups rfl (Or.inl (by decide))).ups rfl (Or.inl (by decide))
    · have t8 : μ8 40 = pyC (υ 40) (3 + b * 4 + 0) (3 + a * 4 + 0) v := by rw [h8, ups_row, h4, ups_row]; rfl
      rw [k8, ups_row, k4, ups_row, t8]; rfl
  · have z' : pE υ n i 0 = 2 := z2
    have w1 : (0 ≤ pE υ n i 1 ∧ pE υ n i 1 < υ 64 38) ∧ (0 ≤ pE υ n i 2 ∧ pE υ n i 2 < υ 64 38) ∧ pE υ n i 1 ≠ pE υ n i 2 ∧ (0 ≤ pE υ n i 3 ∧ pE υ n i 3 < υ 64 37) := by rcases hc with c | c | c | c <;> omega
    show Cl (d + 18) mSt_doSteal [aR 39, aI (pE υ n i 1), aI (pE υ n i 2), aI (pE υ n i 3)] υ _
    generalize pE υ n i 1 = a at *
    generalize pE υ n i 2 = b at *
    generalize pE υ n i 3 = x at *
    refine bSt_doSteal_r39_in (d := d + 16) ⟨(by omega), (by omega), fun ν4 k4 => ⟨(by omega), (by omega), fun ν8 k8 => hQ ν8 ?_ ⟨fun y => absurd y (by omega), fun y => absurd y (by omega), fun _ => ?_, fun y => absurd y (by omega)⟩⟩⟩
    · rw [k8, k4]; exact (Sm.refl.ups rfl (Or.inl (by decide))).ups rfl (Or.inl (by decide))
    · rw [k8, ups_row, k4, ups_row]; rfl
  · have z' : pE υ n i 0 = 3 := by have : pE υ n i 0 ≠ 2 := z2; have : pE υ n i 0 ≠ 1 := z1; have : pE υ n i 0 ≠ 0 := z; omega
    refine endDayC39 (T := υ 64 37) (P := υ 64 38) (D := 999) (B := 47952) hS hW (Int.le_refl _) n1.2 ⟨m2, n2⟩ (by decide) C1 (d + 14) (fun τ sm e => hQ τ (sm.mono (by decide) (by decide)) ⟨fun y => absurd y (by omega), fun y => absurd y (by omega), fun y => absurd y (by omega), fun _ => e⟩)
