/-! ===== A MARKET OPENED ===== -/
theorem ups_rowf {σ : Mem} {a : Nat} {i v : Int} : ups σ a i v a = fu (σ a) i v := by unfold ups; rw [su_eq]
theorem rgF {f : Int → Int} {i v : Int} (h : RG f) (hv : rg v) : RG (fu f i v) := fun j => by
  by_cases e : j = i
  · rw [e, fu_hit]; exact hv
  · rw [fu_ne e]; exact h j
/-- the class's cells, set so far: the items of persons below xi, the firsts of persons below x, and y of x's -/
def BgC (c a b : Int → Int) (T xi x y : Int) : Prop := (∀ i, 0 ≤ i → i < 3 → c i = 0) ∧ (∀ p, 0 ≤ p → p < 6 → c (3 + 4 * p) = (if p < xi then a p else 0) ∧ c (3 + 4 * p + 1) = (if p < xi then b p else 0) ∧ c (3 + 4 * p + 2) = 0 ∧ c (3 + 4 * p + 3) = 0) ∧ (∀ p t, 0 ≤ p → p < 6 → 0 ≤ t → t < 8 → c (27 + 8 * p + t) = (if (p < x ∧ t < T) ∨ (p = x ∧ t < y) then 1 else 0)) ∧ RG c
def BgM (m a b : Int → Int) (T xi x y : Int) : Prop := ((∀ i, 48 ≤ i → i < 60 → m i = 0) ∧ (∀ i, 72 ≤ i → i < 355 → m i = 0)) ∧ (∀ p, 0 ≤ p → p < 6 → m (60 + p) = (if p < xi then a p else 0) ∧ m (66 + p) = (if p < xi then b p else 0)) ∧ (∀ p t, 0 ≤ p → p < 6 → 0 ≤ t → t < 8 → m (8 * p + t) = (if (p < x ∧ t < T) ∨ (p = x ∧ t < y) then 1 else 0)) ∧ RG m
theorem if_lt {p x v : Int} (h : p ≠ x) : (if p < x + 1 then v else 0) = (if p < x then v else 0) := by
  by_cases c : p < x
  · rw [if_pos c, if_pos (by omega)]
  · rw [if_neg c, if_neg (by omega)]
theorem BgC.item {c a b : Int → Int} {T x : Int} (h : BgC c a b T x x 0) (hx : 0 ≤ x ∧ x < 6) (ha : rg (a x)) (hb : rg (b x)) : BgC (fu (fu c (3 + x * 4 + 0) (a x)) (3 + x * 4 + 1) (b x)) a b T (x + 1) x 0 := by
  obtain ⟨h1, h2, h3, h4⟩ := h
  refine ⟨fun i i0 i1 => by rw [fu_ne (by omega), fu_ne (by omega)]; exact h1 i i0 i1, fun p p0 p1 => ?_, fun p t p0 p1 t0 t1 => by rw [fu_ne (by omega), fu_ne (by omega)]; exact h3 p t p0 p1 t0 t1, rgF (rgF h4 ha) hb⟩
  obtain ⟨g1, g2, g3, g4⟩ := h2 p p0 p1
  by_cases e : p = x
  · subst e
    refine ⟨?_, ?_, ?_, ?_⟩
    · rw [fu_ne (by omega), show (3 + 4 * p : Int) = 3 + p * 4 + 0 by omega, fu_hit, if_pos (by omega)]
    · rw [show (3 + 4 * p + 1 : Int) = 3 + p * 4 + 1 by omega, fu_hit, if_pos (by omega)]
    · rw [fu_ne (by omega), fu_ne (by omega)]; exact g3
    · rw [fu_ne (by omega), fu_ne (by omega)]; exact g4
  · rw [if_lt e, if_lt e]
    refine ⟨?_, ?_, ?_, ?_⟩
    · rw [fu_ne (by omega), fu_ne (by omega)]; exact g1
    · rw [fu_ne (by omega), fu_ne (by omega)]; exact g2
    · rw [fu_ne (by omega), fu_ne (by omega)]; exact g3
    · rw [fu_ne (by omega), fu_ne (by omega)]; exact g4
theorem frst_if {T p t x y : Int} (hyT : y < T) : ((p < x ∧ t < T) ∨ (p = x ∧ t < y + 1)) ↔ (((p < x ∧ t < T) ∨ (p = x ∧ t < y)) ∨ (p = x ∧ t = y)) := by omega
theorem BgC.first {c a b : Int → Int} {T x y : Int} (h : BgC c a b T (x + 1) x y) (hx : 0 ≤ x ∧ x < 6) (hy : 0 ≤ y ∧ y < T) (hT : T ≤ 8) : BgC (fu c (27 + x * 8 + y) 1) a b T (x + 1) x (y + 1) := by
  obtain ⟨h1, h2, h3, h4⟩ := h
  refine ⟨fun i i0 i1 => by rw [fu_ne (by omega)]; exact h1 i i0 i1, fun p p0 p1 => by rw [fu_ne (by omega), fu_ne (by omega), fu_ne (by omega), fu_ne (by omega)]; exact h2 p p0 p1, fun p t p0 p1 t0 t1 => ?_, rgF h4 (by decide)⟩
  by_cases e : p = x ∧ t = y
  · rw [show (27 + 8 * p + t : Int) = 27 + x * 8 + y by omega, fu_hit, if_pos ((frst_if hy.2).mpr (Or.inr e))]
  · rw [fu_ne (by omega), h3 p t p0 p1 t0 t1]
    by_cases c : (p < x ∧ t < T) ∨ (p = x ∧ t < y)
    · rw [if_pos c, if_pos ((frst_if hy.2).mpr (Or.inl c))]
    · rw [if_neg c, if_neg (fun q => by rcases (frst_if hy.2).mp q with q | q; exact c q; exact e q)]
theorem next_if {T p t x : Int} (ht : 0 ≤ t) : ((p < x + 1 ∧ t < T) ∨ (p = x + 1 ∧ t < 0)) ↔ ((p < x ∧ t < T) ∨ (p = x ∧ t < T)) := by omega
theorem if_iff {p q : Prop} [Decidable p] [Decidable q] (h : p ↔ q) : (if p then (1 : Int) else 0) = (if q then 1 else 0) := by
  by_cases c : p
  · rw [if_pos c, if_pos (h.mp c)]
  · rw [if_neg c, if_neg (fun z => c (h.mpr z))]
theorem BgC.next {c a b : Int → Int} {T x : Int} (h : BgC c a b T (x + 1) x T) : BgC c a b T (x + 1) (x + 1) 0 := by
  obtain ⟨h1, h2, h3, h4⟩ := h
  refine ⟨h1, h2, fun p t p0 p1 t0 t1 => ?_, h4⟩
  rw [h3 p t p0 p1 t0 t1]
  exact (if_iff (next_if t0)).symm
theorem BgM.item {c a b : Int → Int} {T x : Int} (h : BgM c a b T x x 0) (hx : 0 ≤ x ∧ x < 6) (ha : rg (a x)) (hb : rg (b x)) : BgM (fu (fu c (60 + x) (a x)) (66 + x) (b x)) a b T (x + 1) x 0 := by
  obtain ⟨⟨h1, h1'⟩, h2, h3, h4⟩ := h
  refine ⟨⟨fun i i0 i1 => by rw [fu_ne (by omega), fu_ne (by omega)]; exact h1 i i0 i1, fun i i0 i1 => by rw [fu_ne (by omega), fu_ne (by omega)]; exact h1' i i0 i1⟩, fun p p0 p1 => ?_, fun p t p0 p1 t0 t1 => by rw [fu_ne (by omega), fu_ne (by omega)]; exact h3 p t p0 p1 t0 t1, rgF (rgF h4 ha) hb⟩
  obtain ⟨g1, g2⟩ := h2 p p0 p1
  by_cases e : p = x
  · subst e
    refine ⟨?_, ?_⟩
    · rw [fu_ne (by omega), fu_hit, if_pos (by omega)]
    · rw [fu_hit, if_pos (by omega)]
  · rw [if_lt e, if_lt e]
    refine ⟨?_, ?_⟩
    · rw [fu_ne (by omega), fu_ne (by omega)]; exact g1
    · rw [fu_ne (by omega), fu_ne (by omega)]; exact g2
theorem BgM.first {c a b : Int → Int} {T x y : Int} (h : BgM c a b T (x + 1) x y) (hx : 0 ≤ x ∧ x < 6) (hy : 0 ≤ y ∧ y < T) (hT : T ≤ 8) : BgM (fu c (8 * x + y) 1) a b T (x + 1) x (y + 1) := by
  obtain ⟨⟨h1, h1'⟩, h2, h3, h4⟩ := h
  refine ⟨⟨fun i i0 i1 => by rw [fu_ne (by omega)]; exact h1 i i0 i1, fun i i0 i1 => by rw [fu_ne (by omega)]; exact h1' i i0 i1⟩, fun p p0 p1 => by rw [fu_ne (by omega), fu_ne (by omega)]; exact h2 p p0 p1, fun p t p0 p1 t0 t1 => ?_, rgF h4 (by decide)⟩
  by_cases e : p = x ∧ t = y
  · rw [show (8 * p + t : Int) = 8 * x + y by omega, fu_hit, if_pos ((frst_if hy.2).mpr (Or.inr e))]
  · rw [fu_ne (by omega), h3 p t p0 p1 t0 t1]
    by_cases c : (p < x ∧ t < T) ∨ (p = x ∧ t < y)
    · rw [if_pos c, if_pos ((frst_if hy.2).mpr (Or.inl c))]
    · rw [if_neg c, if_neg (fun q => by rcases (frst_if hy.2).mp q with q | q; exact c q; exact e q)]
theorem BgM.next {c a b : Int → Int} {T x : Int} (h : BgM c a b T (x + 1) x T) : BgM c a b T (x + 1) (x + 1) 0 := by
  obtain ⟨h1, h2, h3, h4⟩ := h
  refine ⟨h1, h2, fun p t p0 p1 t0 t1 => ?_, h4⟩
  rw [h3 p t p0 p1 t0 t1]
  exact (if_iff (next_if t0)).symm
theorem fill38 (d : Nat) {υ : Mem} {K : RV → Mem → Prop} (hR : RG (υ 38)) (hK : ∀ τ, Sm υ τ [38] [] → (∀ i, 0 ≤ i → i < 175 → τ 38 i = 0) → RG (τ 38) → K rV τ) : Cl (d + 1) mJ_fill [aR 38, aI 0] υ K := by
  have key : ∀ (n : Nat) (x : Int) (τ : Mem), (175 - x).toNat = n → 0 ≤ x → x ≤ 175 → Sm υ τ [38] [] → (∀ i, 0 ≤ i → i < x → τ 38 i = 0) → RG (τ 38) → Ev (d + 1) mJ_fill 5 [vR 38, vI 0, vI x, vI 175] [] τ K := by
    intro n
    induction n with
    | zero =>
      intro x τ hn x0 x1 s h hR
      exact bJ_fill_r38_5 ⟨⟨by omega, by omega⟩, by decide, fun _ => hK τ s (fun i i0 i1 => h i i0 (by omega)) hR, fun q => absurd q (by omega)⟩
    | succ n ih =>
      intro x τ hn x0 x1 s h hR
      refine bJ_fill_r38_5 ⟨⟨by omega, by omega⟩, by decide, fun q => absurd q (by omega), fun _ => ⟨x0, (by omega), ih (x + 1) _ (by omega) (by omega) (by omega) (s.ups rfl (Or.inl (by decide))) (fun i i0 i1 => ?_) (by rw [ups_rowf]; exact rgF hR (by decide))⟩⟩
      by_cases e : i = x
      · rw [e, ups_hit]
      · rw [ups_fn e]; exact h i i0 (by omega)
  exact bJ_fill_r38_in (key 175 0 υ rfl (Int.le_refl _) (by decide) Sm.refl (fun i i0 i1 => absurd i1 (by omega)) hR)
theorem c8_1 : cst 8 1 = 3 := by decide +kernel
theorem c3v : cst 3 0 = 8 ∧ cst 3 1 = 6 ∧ cst 3 2 = 10 ∧ cst 3 3 = 6 := by decide +kernel
theorem c67v : (cst 6 0 = 0 ∧ cst 7 0 = 99 ∧ cst 6 1 = 0 ∧ cst 7 1 = 9) ∧ (cst 6 3 = 0 ∧ cst 7 3 = 99 ∧ cst 6 4 = 0 ∧ cst 7 4 = 99 ∧ cst 6 5 = 0 ∧ cst 7 5 = 8) ∧ (cst 6 6 = 0 ∧ cst 7 6 = 7 ∧ cst 6 7 = 0 ∧ cst 7 7 = 7 ∧ cst 6 8 = 1 ∧ cst 7 8 = 9) ∧ (cst 6 9 = 0 ∧ cst 7 9 = 7 ∧ cst 6 10 = 0 ∧ cst 7 10 = 7) := by decide +kernel
/-- the bounds, in numbers -/
def MB (M : MS) : Prop := ((0 ≤ M.1 0 ∧ M.1 0 ≤ 8) ∧ (0 ≤ M.1 1 ∧ M.1 1 ≤ 6) ∧ (0 ≤ M.1 2 ∧ M.1 2 ≤ 10) ∧ (0 ≤ M.1 3 ∧ M.1 3 ≤ 6)) ∧
  (∀ j, 0 ≤ j → j < M.1 0 → (0 ≤ M.2 0 j 0 ∧ M.2 0 j 0 ≤ 99) ∧ (0 ≤ M.2 0 j 1 ∧ M.2 0 j 1 ≤ 9)) ∧
  (∀ j, 0 ≤ j → j < M.1 1 → (0 ≤ M.2 1 j 0 ∧ M.2 1 j 0 ≤ 99) ∧ (0 ≤ M.2 1 j 1 ∧ M.2 1 j 1 ≤ 99) ∧ (0 ≤ M.2 1 j 2 ∧ M.2 1 j 2 ≤ 8)) ∧
  (∀ j, 0 ≤ j → j < M.1 2 → (0 ≤ M.2 2 j 0 ∧ M.2 2 j 0 ≤ 7) ∧ (0 ≤ M.2 2 j 1 ∧ M.2 2 j 1 ≤ 7) ∧ (1 ≤ M.2 2 j 2 ∧ M.2 2 j 2 ≤ 9)) ∧
  (∀ j, 0 ≤ j → j < M.1 3 → (0 ≤ M.2 3 j 0 ∧ M.2 3 j 0 ≤ 7) ∧ (0 ≤ M.2 3 j 1 ∧ M.2 3 j 1 ≤ 7))
theorem MB.n {M : MS} (h : MB M) : (0 ≤ M.1 0 ∧ M.1 0 ≤ 8) ∧ (0 ≤ M.1 1 ∧ M.1 1 ≤ 6) ∧ (0 ≤ M.1 2 ∧ M.1 2 ≤ 10) ∧ (0 ≤ M.1 3 ∧ M.1 3 ≤ 6) := h.1
theorem MB.ofx {M : MS} (h : MB M) : ∀ j, 0 ≤ j → j < M.1 0 → (0 ≤ M.2 0 j 0 ∧ M.2 0 j 0 ≤ 99) ∧ (0 ≤ M.2 0 j 1 ∧ M.2 0 j 1 ≤ 9) := h.2.1
theorem MB.ofp {M : MS} (h : MB M) : ∀ j, 0 ≤ j → j < M.1 1 → (0 ≤ M.2 1 j 0 ∧ M.2 1 j 0 ≤ 99) ∧ (0 ≤ M.2 1 j 1 ∧ M.2 1 j 1 ≤ 99) ∧ (0 ≤ M.2 1 j 2 ∧ M.2 1 j 2 ≤ 8) := h.2.2.1
theorem MB.ofs {M : MS} (h : MB M) : ∀ j, 0 ≤ j → j < M.1 2 → (0 ≤ M.2 2 j 0 ∧ M.2 2 j 0 ≤ 7) ∧ (0 ≤ M.2 2 j 1 ∧ M.2 2 j 1 ≤ 7) ∧ (1 ≤ M.2 2 j 2 ∧ M.2 2 j 2 ≤ 9) := h.2.2.2.1
theorem MB.ofc {M : MS} (h : MB M) : ∀ j, 0 ≤ j → j < M.1 3 → (0 ≤ M.2 3 j 0 ∧ M.2 3 j 0 ≤ 7) ∧ (0 ≤ M.2 3 j 1 ∧ M.2 3 j 1 ≤ 7) := h.2.2.2.2
theorem mb_of {M : MS} (h : MV M) : MB M := by
  obtain ⟨k0, k1, k2, k3⟩ := c3v
  obtain ⟨x, p, s, c⟩ := c67v
  have h0 := h 0 (by decide) (by decide)
  have h1 := h 1 (by decide) (by decide)
  have h2 := h 2 (by decide) (by decide)
  have h3 := h 3 (by decide) (by decide)
  rw [k0] at h0
  rw [k1] at h1
  rw [k2] at h2
  rw [k3] at h3
  refine ⟨⟨h0.1, h1.1, h2.1, h3.1⟩, fun j j0 j1 => ?_, fun j j0 j1 => ?_, fun j j0 j1 => ?_, fun j j0 j1 => ?_⟩
  · have a := h0.2 j j0 j1 0 (by decide) (by decide)
    have b := h0.2 j j0 j1 1 (by decide) (by decide)
    change cst 6 0 ≤ _ ∧ _ ≤ cst 7 0 at a
    change cst 6 1 ≤ _ ∧ _ ≤ cst 7 1 at b
    rw [x.1, x.2.1] at a
    rw [x.2.2.1, x.2.2.2] at b
    exact ⟨a, b⟩
  · have a := h1.2 j j0 j1 0 (by decide) (by decide)
    have b := h1.2 j j0 j1 1 (by decide) (by decide)
    have e := h1.2 j j0 j1 2 (by decide) (by decide)
    change cst 6 3 ≤ _ ∧ _ ≤ cst 7 3 at a
    change cst 6 4 ≤ _ ∧ _ ≤ cst 7 4 at b
    change cst 6 5 ≤ _ ∧ _ ≤ cst 7 5 at e
    rw [p.1, p.2.1] at a
    rw [p.2.2.1, p.2.2.2.1] at b
    rw [p.2.2.2.2.1, p.2.2.2.2.2] at e
    exact ⟨a, b, e⟩
  · have a := h2.2 j j0 j1 0 (by decide) (by decide)
    have b := h2.2 j j0 j1 1 (by decide) (by decide)
    have e := h2.2 j j0 j1 2 (by decide) (by decide)
    change cst 6 6 ≤ _ ∧ _ ≤ cst 7 6 at a
    change cst 6 7 ≤ _ ∧ _ ≤ cst 7 7 at b
    change cst 6 8 ≤ _ ∧ _ ≤ cst 7 8 at e
    rw [s.1, s.2.1] at a
    rw [s.2.2.1, s.2.2.2.1] at b
    rw [s.2.2.2.2.1, s.2.2.2.2.2] at e
    exact ⟨a, b, e⟩
  · have a := h3.2 j j0 j1 0 (by decide) (by decide)
    have b := h3.2 j j0 j1 1 (by decide) (by decide)
    change cst 6 9 ≤ _ ∧ _ ≤ cst 7 9 at a
    change cst 6 10 ≤ _ ∧ _ ≤ cst 7 10 at b
    rw [c.1, c.2.1] at a
    rw [c.2.2.1, c.2.2.2] at b
    exact ⟨a, b⟩
/-- the market's rows of the class are M -/
def MkC (τ : Mem) (M : MS) : Prop := (∀ k, 0 ≤ k → k < 4 → τ 15 k = M.1 k) ∧ ∀ k j i, 0 ≤ k → k < 4 → 0 ≤ j → j < M.1 k → 0 ≤ i → i < 3 → τ 16 (k * 30 + j * 3 + i) = M.2 k j i
theorem beginC (d : Nat) {M : MS} {υ : Mem} (hM : MB M) (mk : MkC υ M) (hR : RG (υ 38)) {K : RV → Mem → Prop} (hK : ∀ τ, Sm υ τ [38] [] → BgC (τ 38) (fun p => M.2 1 p 0) (fun p => M.2 1 p 1) (M.1 0) (M.1 1) (M.1 1) 0 → K rV τ) : Cl (d + 2) mSt_begin [aR 37] υ K := by
  obtain ⟨⟨n0, n1, n2, n3⟩, -, hp, -, -⟩ := hM
  have m0 := mk.1 0 (by decide) (by decide)
  have m1 := mk.1 1 (by decide) (by decide)
  refine bSt_begin_in (fill38 d hR (fun τ0 s0 z0 r0 => ?_))
  have key : ∀ (n : Nat) (x : Int) (τ : Mem) (u2 : Option AV), (M.1 1 - x).toNat = n → 0 ≤ x → x ≤ M.1 1 → Sm υ τ [38] [] → BgC (τ 38) (fun p => M.2 1 p 0) (fun p => M.2 1 p 1) (M.1 0) x x 0 → Ev (d + 2) mSt_begin 10 [vR 37, vI x, u2] [] τ K := by
    intro n
    induction n with
    | zero =>
      intro x τ u2 hn x0 x1 s h
      have ex : x = M.1 1 := by omega
      subst ex
      exact bSt_begin_10 ⟨⟨by omega, by omega⟩, by rw [s.1 15 rfl, m1]; exact ⟨by omega, by omega⟩, fun _ => hK τ s h, fun q => absurd q (by rw [s.1 15 rfl, m1]; omega)⟩
    | succ n ih =>
      intro x τ u2 hn x0 x1 s h
      have px := hp x x0 (by omega)
      have t1 : ∀ ζ, Sm υ ζ [38] [] → ζ 15 1 = M.1 1 := fun ζ s => by rw [s.1 15 rfl, m1]
      refine bSt_begin_10 ⟨⟨by omega, by omega⟩, by rw [t1 τ s]; exact ⟨by omega, by omega⟩, fun q => absurd q (by rw [t1 τ s]; omega), fun _ => bMk_told_r14_in ⟨⟨by omega, by omega⟩, fun q => absurd q (by omega), fun _ => ⟨by decide, by decide, by rw [t1 τ s]; exact ⟨by omega, by omega⟩, fun q => absurd q (by rw [t1 τ s]; omega), fun _ => ⟨by decide, fun q => absurd q (by decide), fun _ => ⟨by decide, fun _ => ⟨(by omega), (by omega), ?_⟩, fun q => absurd q (by decide)⟩⟩⟩⟩⟩
      have v0 : τ 16 (1 * 30 + x * 3 + 0) = M.2 1 x 0 := by rw [s.1 16 rfl]; exact mk.2 1 x 0 (by decide) (by decide) x0 (by omega) (by decide) (by decide)
      rw [v0]
      refine ⟨(by omega), (by omega), ?_⟩
      have s2 : Sm υ (ups τ 38 (3 + x * 4 + 0) (M.2 1 x 0)) [38] [] := s.ups rfl (Or.inl (by decide))
      refine bMk_told_r14_in ⟨⟨by omega, by omega⟩, fun q => absurd q (by omega), fun _ => ⟨by decide, by decide, by rw [t1 _ s2]; exact ⟨by omega, by omega⟩, fun q => absurd q (by rw [t1 _ s2]; omega), fun _ => ⟨by decide, fun q => absurd q (by decide), fun _ => ⟨by decide, fun _ => ⟨(by omega), (by omega), ?_⟩, fun q => absurd q (by decide)⟩⟩⟩⟩
      have v1 : (ups τ 38 (3 + x * 4 + 0) (M.2 1 x 0)) 16 (1 * 30 + x * 3 + 1) = M.2 1 x 1 := by rw [s2.1 16 rfl]; exact mk.2 1 x 1 (by decide) (by decide) x0 (by omega) (by decide) (by decide)
      rw [v1]
      refine ⟨(by omega), (by omega), ?_⟩
      have s3 : Sm υ (ups (ups τ 38 (3 + x * 4 + 0) (M.2 1 x 0)) 38 (3 + x * 4 + 1) (M.2 1 x 1)) [38] [] := s2.ups rfl (Or.inl (by decide))
      have h3 : BgC ((ups (ups τ 38 (3 + x * 4 + 0) (M.2 1 x 0)) 38 (3 + x * 4 + 1) (M.2 1 x 1)) 38) (fun p => M.2 1 p 0) (fun p => M.2 1 p 1) (M.1 0) (x + 1) x 0 := by
        rw [ups_rowf, ups_rowf]
        exact h.item ⟨by omega, by omega⟩ ⟨by omega, by omega⟩ ⟨by omega, by omega⟩
      generalize (ups (ups τ 38 (3 + x * 4 + 0) (M.2 1 x 0)) 38 (3 + x * 4 + 1) (M.2 1 x 1)) = τ3 at *
      have inner : ∀ (m : Nat) (y : Int) (τ : Mem), (M.1 0 - y).toNat = m → 0 ≤ y → y ≤ M.1 0 → Sm υ τ [38] [] → BgC (τ 38) (fun p => M.2 1 p 0) (fun p => M.2 1 p 1) (M.1 0) (x + 1) x y → Ev (d + 2) mSt_begin 63 [vR 37, vI x, vI y] [] τ K := by
        intro m
        induction m with
        | zero =>
          intro y τ hm y0 y1 s h
          have ey : y = M.1 0 := by omega
          subst ey
          exact bSt_begin_63 ⟨⟨by omega, by omega⟩, by rw [s.1 15 rfl, m0]; exact ⟨by omega, by omega⟩, fun _ => ih (x + 1) τ _ (by omega) (by omega) (by omega) s h.next, fun q => absurd q (by rw [s.1 15 rfl, m0]; omega)⟩
        | succ m ihm =>
          intro y τ hm y0 y1 s h
          refine bSt_begin_63 ⟨⟨by omega, by omega⟩, by rw [s.1 15 rfl, m0]; exact ⟨by omega, by omega⟩, fun q => absurd q (by rw [s.1 15 rfl, m0]; omega), fun _ => ⟨(by omega), (by omega), ihm (y + 1) _ (by omega) (by omega) (by omega) (s.ups rfl (Or.inl (by decide))) ?_⟩⟩
          rw [ups_rowf]
          exact h.first ⟨by omega, by omega⟩ ⟨by omega, by omega⟩ n0.2
      exact inner _ 0 τ3 rfl (Int.le_refl _) n0.1 s3 h3
  refine key _ 0 τ0 _ rfl (Int.le_refl _) n1.1 s0 ⟨fun i i0 i1 => z0 i i0 (by omega), fun p p0 p1 => ?_, fun p t p0 p1 t0 t1 => ?_, r0⟩
  · rw [if_neg (by omega), if_neg (by omega)]
    exact ⟨z0 _ (by omega) (by omega), z0 _ (by omega) (by omega), z0 _ (by omega) (by omega), z0 _ (by omega) (by omega)⟩
  · rw [if_neg (by omega)]
    exact z0 _ (by omega) (by omega)
theorem openC (d : Nat) {M : MS} {υ : Mem} (hM : MB M) (mc : McC υ M) (hR : RG (υ 38)) {Q : RV → Mem → Prop} (hq : ∀ τ, Sm υ τ [11, 15, 16, 38, 41, 55] [] → (τ 11 13 = 0 ∧ τ 11 14 = υ 11 14) → (τ 41 2 = 0 ∧ τ 41 1 = υ 41 1) → (τ 55 8 = 0 ∧ τ 55 9 = 0) → MkC τ M → BgC (τ 38) (fun p => M.2 1 p 0) (fun p => M.2 1 p 1) (M.1 0) (M.1 1) (M.1 1) 0 → Q (rI (M.1 0)) τ) : Cl (d + 3) mF_openMarket [aR 11] υ Q := by
  have n := hM.n
  refine bF_openMarket_in (bMk_takeOver_in (d := d + 1) ⟨by decide, by decide, ?_⟩)
  have s1 : Sm υ (su (su υ 15 (cpy (υ 18) (υ 15) 0 0 4)) 16 (cpy ((su υ 15 (cpy (υ 18) (υ 15) 0 0 4)) 19) ((su υ 15 (cpy (υ 18) (υ 15) 0 0 4)) 16) 0 0 120)) [15, 16] [] := (Sm.refl.su rfl (by decide)).su rfl (by decide)
  have mk : MkC (su (su υ 15 (cpy (υ 18) (υ 15) 0 0 4)) 16 (cpy ((su υ 15 (cpy (υ 18) (υ 15) 0 0 4)) 19) ((su υ 15 (cpy (υ 18) (υ 15) 0 0 4)) 16) 0 0 120)) M := by
    refine ⟨fun k k0 k1 => ?_, fun k j i k0 k1 j0 j1 i0 i1 => ?_⟩
    · rw [su_ne (by decide), su_eq, cpy_at k0 k1, Int.zero_add]
      exact mc.1 k k0 k1
    · have jb : j < 10 := by
        rcases k4 ⟨k0, k1⟩ with e | e | e | e <;> subst e <;> omega
      rw [su_eq, cpy_at (by omega) (by omega), Int.zero_add, su_ne (by decide)]
      exact mc.2 k j i k0 k1 j0 j1 i0 i1
  generalize (su (su υ 15 (cpy (υ 18) (υ 15) 0 0 4)) 16 (cpy ((su υ 15 (cpy (υ 18) (υ 15) 0 0 4)) 19) ((su υ 15 (cpy (υ 18) (υ 15) 0 0 4)) 16) 0 0 120)) = υ1 at *
  refine beginC d hM mk (by rw [s1.1 38 rfl]; exact hR) (fun τ s2 bg => ?_)
  refine bPa_forget_in (d := d + 1) (bEd_forget_in (d := d + 1) ?_)
  have s3 : Sm τ (ups (ups (ups (ups τ 41 2 0) 55 8 0) 55 9 0) 11 13 0) [11, 41, 55] [] := (((Sm.refl.ups rfl (Or.inl (by decide))).ups rfl (Or.inl (by decide))).ups rfl (Or.inl (by decide))).ups rfl (Or.inl (by decide))
  have e15 : (ups (ups (ups τ 41 2 0) 55 8 0) 55 9 0) 15 0 = M.1 0 := by
    rw [ups_ne (by decide), ups_ne (by decide), ups_ne (by decide), s2.1 15 rfl]
    exact mk.1 0 (by decide) (by decide)
  rw [e15]
  refine hq _ (((s1.mono (by decide) (by decide)).trans (s2.mono (by decide) (by decide))).trans (s3.mono (by decide) (by decide))) ⟨ups_hit, ?_⟩ ⟨?_, ?_⟩ ⟨?_, ?_⟩ ?_ ?_
  · rw [ups_fn (by decide), ups_ne (by decide), ups_ne (by decide), ups_ne (by decide), s2.1 11 rfl, s1.1 11 rfl]
  · rw [ups_ne (by decide), ups_ne (by decide), ups_ne (by decide), ups_hit]
  · rw [ups_ne (by decide), ups_ne (by decide), ups_ne (by decide), ups_fn (by decide), s2.1 41 rfl, s1.1 41 rfl]
  · rw [ups_ne (by decide), ups_fn (by decide), ups_hit]
  · rw [ups_ne (by decide), ups_hit]
  · unfold MkC
    rw [s3.1 15 rfl, s3.1 16 rfl, s2.1 15 rfl, s2.1 16 rfl]; exact mk
  · rw [s3.1 38 rfl]; exact bg
/-! the reference -/
def MkR (τ : Mem) (M : MS) : Prop := (τ 64 37 = M.1 0 ∧ τ 64 38 = M.1 1 ∧ τ 64 39 = M.1 2 ∧ τ 64 40 = M.1 3) ∧ (∀ t, 0 ≤ t → t < M.1 0 → τ 82 t = M.2 0 t 0 ∧ τ 83 t = M.2 0 t 1) ∧ (∀ p, 0 ≤ p → p < M.1 1 → τ 84 p = if M.2 1 p 2 = 8 then -1 else M.2 1 p 2) ∧ (∀ k, 0 ≤ k → k < M.1 2 → τ 85 k = M.2 2 k 0 ∧ τ 86 k = M.2 2 k 1 ∧ τ 87 k = M.2 2 k 2) ∧ ∀ k, 0 ≤ k → k < M.1 3 → τ 88 k = M.2 3 k 0 ∧ τ 89 k = M.2 3 k 1
theorem tk34 (d : Nat) {υ : Mem} {Q : RV → Mem → Prop} (hR : RG (υ 81)) (hK : ∀ τ u2, Sm υ τ [81] [] → (∀ i, 0 ≤ i → i < 355 → τ 81 i = 0) → RG (τ 81) → Ev (d + 1) mR_takeMarket 56 [vR 64, vI 0, u2] [] τ Q) (u2 : Option AV) : Ev (d + 1) mR_takeMarket 34 [vR 64, vI 0, u2] [] υ Q := by
  have key : ∀ (n : Nat) (x : Int) (τ : Mem), (355 - x).toNat = n → 0 ≤ x → x ≤ 355 → Sm υ τ [81] [] → (∀ i, 0 ≤ i → i < x → τ 81 i = 0) → RG (τ 81) → Ev (d + 1) mR_takeMarket 34 [vR 64, vI x, u2] [] τ Q := by
    intro n
    induction n with
    | zero =>
      intro x τ hn x0 x1 s h hR
      exact bR_takeMarket_34 ⟨⟨by omega, by omega⟩, fun _ => hK τ _ s (fun i i0 i1 => h i i0 (by omega)) hR, fun q => absurd q (by omega)⟩
    | succ n ih =>
      intro x τ hn x0 x1 s h hR
      refine bR_takeMarket_34 ⟨⟨by omega, by omega⟩, fun q => absurd q (by omega), fun _ => ⟨x0, ih (x + 1) _ (by omega) (by omega) (by omega) (s.ups rfl (Or.inl (by decide))) (fun i i0 i1 => ?_) (by rw [ups_rowf]; exact rgF hR (by decide))⟩⟩
      by_cases e : i = x
      · rw [e, ups_hit]
      · rw [ups_fn e]; exact h i i0 (by omega)
  exact key 355 0 υ rfl (Int.le_refl _) (by decide) Sm.refl (fun i i0 i1 => absurd i1 (by omega)) hR
theorem tk56 (d : Nat) {M : MS} {υ : Mem} {Q : RV → Mem → Prop} (hM : MB M) (e37 : υ 64 37 = M.1 0) (e75 : ∀ j i, 0 ≤ j → j < M.1 0 → 0 ≤ i → i < 2 → υ 75 (2 * j + i) = M.2 0 j i) (hK : ∀ τ u2, Sm υ τ [82, 83] [] → (∀ t, 0 ≤ t → t < M.1 0 → τ 82 t = M.2 0 t 0 ∧ τ 83 t = M.2 0 t 1) → Ev (d + 1) mR_takeMarket 102 [vR 64, vI 0, u2] [] τ Q) (u2 : Option AV) : Ev (d + 1) mR_takeMarket 56 [vR 64, vI 0, u2] [] υ Q := by
  have n0 := hM.n.1
  have key : ∀ (n : Nat) (x : Int) (τ : Mem), (M.1 0 - x).toNat = n → 0 ≤ x → x ≤ M.1 0 → Sm υ τ [82, 83] [] → (∀ t, 0 ≤ t → t < x → τ 82 t = M.2 0 t 0 ∧ τ 83 t = M.2 0 t 1) → Ev (d + 1) mR_takeMarket 56 [vR 64, vI x, u2] [] τ Q := by
    intro n
    induction n with
    | zero =>
      intro x τ hn x0 x1 s h
      exact bR_takeMarket_56 ⟨⟨by omega, by omega⟩, by rw [s.2 37 rfl, e37]; exact ⟨by omega, by omega⟩, fun _ => hK τ _ s (fun i i0 i1 => h i i0 (by omega)), fun q => absurd q (by rw [s.2 37 rfl, e37]; omega)⟩
    | succ n ih =>
      intro x τ hn x0 x1 s h
      refine bR_takeMarket_56 ⟨⟨by omega, by omega⟩, by rw [s.2 37 rfl, e37]; exact ⟨by omega, by omega⟩, fun q => absurd q (by rw [s.2 37 rfl, e37]; omega), fun _ => ⟨(by omega), (by omega), x0, (by omega), (by omega), (by omega), ih (x + 1) _ (by omega) (by omega) (by omega) ((s.ups rfl (Or.inl (by decide))).ups rfl (Or.inl (by decide))) (fun i i0 i1 => ?_)⟩⟩
      have a0 := e75 x 0 x0 (by omega) (by decide) (by decide)
      have a1 := e75 x 1 x0 (by omega) (by decide) (by decide)
      rw [Int.add_zero] at a0
      by_cases e : i = x
      · rw [e, ups_ne (by decide), ups_hit, ups_hit, s.1 75 rfl, a0]
        exact ⟨rfl, a1⟩
      · rw [ups_ne (by decide), ups_fn e, ups_fn e, ups_ne (by decide)]
        exact h i i0 (by omega)
  exact key _ 0 υ rfl (Int.le_refl _) n0.1 Sm.refl (fun i i0 i1 => absurd i1 (by omega))
theorem tk102 (d : Nat) {M : MS} {υ : Mem} {Q : RV → Mem → Prop} (hM : MB M) (e37 : υ 64 37 = M.1 0) (e38 : υ 64 38 = M.1 1) (e76 : ∀ j i, 0 ≤ j → j < M.1 1 → 0 ≤ i → i < 3 → υ 76 (3 * j + i) = M.2 1 j i) (hz : ∀ i, 0 ≤ i → i < 355 → υ 81 i = 0) (hR : RG (υ 81)) (hK : ∀ τ u2, Sm υ τ [81, 84] [] → BgM (τ 81) (fun p => M.2 1 p 0) (fun p => M.2 1 p 1) (M.1 0) (M.1 1) (M.1 1) 0 → (∀ p, 0 ≤ p → p < M.1 1 → τ 84 p = if M.2 1 p 2 = 8 then -1 else M.2 1 p 2) → Ev (d + 1) mR_takeMarket 217 [vR 64, vI 0, u2] [] τ Q) (u2 : Option AV) : Ev (d + 1) mR_takeMarket 102 [vR 64, vI 0, u2] [] υ Q := by
  obtain ⟨⟨n0, n1, n2, n3⟩, -, hp, -, -⟩ := hM
  have key : ∀ (n : Nat) (x : Int) (τ : Mem) (u2 : Option AV), (M.1 1 - x).toNat = n → 0 ≤ x → x ≤ M.1 1 → Sm υ τ [81, 84] [] → BgM (τ 81) (fun p => M.2 1 p 0) (fun p => M.2 1 p 1) (M.1 0) x x 0 → (∀ p, 0 ≤ p → p < x → τ 84 p = if M.2 1 p 2 = 8 then -1 else M.2 1 p 2) → Ev (d + 1) mR_takeMarket 102 [vR 64, vI x, u2] [] τ Q := by
    intro n
    induction n with
    | zero =>
      intro x τ u2 hn x0 x1 s h g
      have ex : x = M.1 1 := by omega
      subst ex
      exact bR_takeMarket_102 ⟨⟨by omega, by omega⟩, by rw [s.2 38 rfl, e38]; exact ⟨by omega, by omega⟩, fun _ => hK τ _ s h g, fun q => absurd q (by rw [s.2 38 rfl, e38]; omega)⟩
    | succ n ih =>
      intro x τ u2 hn x0 x1 s h g
      have px := hp x x0 (by omega)
      have a0 : τ 76 (3 * x) = M.2 1 x 0 := by
        have := e76 x 0 x0 (by omega) (by decide) (by decide)
        rw [Int.add_zero] at this
        rw [s.1 76 rfl]; exact this
      have a1 : τ 76 (3 * x + 1) = M.2 1 x 1 := by rw [s.1 76 rfl]; exact e76 x 1 x0 (by omega) (by decide) (by decide)
      have a2 : τ 76 (3 * x + 2) = M.2 1 x 2 := by rw [s.1 76 rfl]; exact e76 x 2 x0 (by omega) (by decide) (by decide)
      -- the firsts
      have inner : ∀ (m : Nat) (y : Int) (τ : Mem), (M.1 0 - y).toNat = m → 0 ≤ y → y ≤ M.1 0 → Sm υ τ [81, 84] [] → BgM (τ 81) (fun p => M.2 1 p 0) (fun p => M.2 1 p 1) (M.1 0) (x + 1) x y → (∀ p, 0 ≤ p → p < x + 1 → τ 84 p = if M.2 1 p 2 = 8 then -1 else M.2 1 p 2) → Ev (d + 1) mR_takeMarket 183 [vR 64, vI x, vI y] [] τ Q := by
        intro m
        induction m with
        | zero =>
          intro y τ hm y0 y1 s h g
          have ey : y = M.1 0 := by omega
          subst ey
          exact bR_takeMarket_183 ⟨⟨by omega, by omega⟩, by rw [s.2 37 rfl, e37]; exact ⟨by omega, by omega⟩, fun _ => ih (x + 1) τ _ (by omega) (by omega) (by omega) s h.next g, fun q => absurd q (by rw [s.2 37 rfl, e37]; omega)⟩
        | succ m ihm =>
          intro y τ hm y0 y1 s h g
          refine bR_takeMarket_183 ⟨⟨by omega, by omega⟩, by rw [s.2 37 rfl, e37]; exact ⟨by omega, by omega⟩, fun q => absurd q (by rw [s.2 37 rfl, e37]; omega), fun _ => ⟨(by omega), (by omega), ihm (y + 1) _ (by omega) (by omega) (by omega) (s.ups rfl (Or.inl (by decide))) ?_ (fun p p0 p1 => by rw [ups_ne (by decide)]; exact g p p0 p1)⟩⟩
          rw [ups_rowf]
          exact h.first ⟨by omega, by omega⟩ ⟨by omega, by omega⟩ n0.2
      have go : ∀ v, v = (if M.2 1 x 2 = 8 then -1 else M.2 1 x 2) → Ev (d + 1) mR_takeMarket 183 [vR 64, vI x, vI 0] [] (ups (ups (ups τ 81 (60 + x) (τ 76 (3 * x))) 81 (66 + x) (τ 76 (3 * x + 1))) 84 x v) Q := by
        intro v hv
        rw [a0, a1]
        refine inner _ 0 _ rfl (Int.le_refl _) n0.1 (((s.ups rfl (Or.inl (by decide))).ups rfl (Or.inl (by decide))).ups rfl (Or.inl (by decide))) ?_ (fun p p0 p1 => ?_)
        · rw [ups_ne (by decide), ups_rowf, ups_rowf]
          exact h.item ⟨by omega, by omega⟩ ⟨by omega, by omega⟩ ⟨by omega, by omega⟩
        · by_cases e : p = x
          · rw [e, ups_hit]; exact hv
          · rw [ups_fn e, ups_ne (by decide), ups_ne (by decide)]; exact g p p0 (by omega)
      refine bR_takeMarket_102 ⟨⟨by omega, by omega⟩, by rw [s.2 38 rfl, e38]; exact ⟨by omega, by omega⟩, fun q => absurd q (by rw [s.2 38 rfl, e38]; omega), fun _ => ⟨(by omega), (by omega), (by omega), (by omega), (by omega), (by omega), (by omega), (by omega), (by omega), (by omega), by rw [a2]; exact ⟨by omega, by omega⟩, fun q => ⟨x0, (by omega), ?_⟩, fun q => ⟨x0, (by omega), ?_⟩⟩⟩
      · rw [a2] at q ⊢
        exact go _ (by rw [if_neg q])
      · rw [a2] at q
        exact go _ (by rw [if_pos q])
  refine key _ 0 υ _ rfl (Int.le_refl _) n1.1 Sm.refl ⟨⟨fun i i0 i1 => hz i (by omega) (by omega), fun i i0 i1 => hz i (by omega) (by omega)⟩, fun p p0 p1 => ?_, fun p t p0 p1 t0 t1 => ?_, hR⟩ (fun p p0 p1 => absurd p1 (by omega))
  · rw [if_neg (by omega), if_neg (by omega)]
    exact ⟨hz _ (by omega) (by omega), hz _ (by omega) (by omega)⟩
  · rw [if_neg (by omega)]
    exact hz _ (by omega) (by omega)
theorem tk217 (d : Nat) {M : MS} {υ : Mem} {Q : RV → Mem → Prop} (hM : MB M) (e39 : υ 64 39 = M.1 2) (e77 : ∀ j i, 0 ≤ j → j < M.1 2 → 0 ≤ i → i < 3 → υ 77 (3 * j + i) = M.2 2 j i) (hK : ∀ τ u2, Sm υ τ [85, 86, 87] [] → (∀ k, 0 ≤ k → k < M.1 2 → τ 85 k = M.2 2 k 0 ∧ τ 86 k = M.2 2 k 1 ∧ τ 87 k = M.2 2 k 2) → Ev (d + 1) mR_takeMarket 279 [vR 64, vI 0, u2] [] τ Q) (u2 : Option AV) : Ev (d + 1) mR_takeMarket 217 [vR 64, vI 0, u2] [] υ Q := by
  have n0 := hM.n.2.2.1
  have key : ∀ (n : Nat) (x : Int) (τ : Mem), (M.1 2 - x).toNat = n → 0 ≤ x → x ≤ M.1 2 → Sm υ τ [85, 86, 87] [] → (∀ k, 0 ≤ k → k < x → τ 85 k = M.2 2 k 0 ∧ τ 86 k = M.2 2 k 1 ∧ τ 87 k = M.2 2 k 2) → Ev (d + 1) mR_takeMarket 217 [vR 64, vI x, u2] [] τ Q := by
    intro n
    induction n with
    | zero =>
      intro x τ hn x0 x1 s h
      exact bR_takeMarket_217 ⟨⟨by omega, by omega⟩, by rw [s.2 39 rfl, e39]; exact ⟨by omega, by omega⟩, fun _ => hK τ _ s (fun i i0 i1 => h i i0 (by omega)), fun q => absurd q (by rw [s.2 39 rfl, e39]; omega)⟩
    | succ n ih =>
      intro x τ hn x0 x1 s h
      refine bR_takeMarket_217 ⟨⟨by omega, by omega⟩, by rw [s.2 39 rfl, e39]; exact ⟨by omega, by omega⟩, fun q => absurd q (by rw [s.2 39 rfl, e39]; omega), fun _ => ⟨(by omega), (by omega), x0, (by omega), (by omega), (by omega), (by omega), (by omega), ih (x + 1) _ (by omega) (by omega) (by omega) (((s.ups rfl (Or.inl (by decide))).ups rfl (Or.inl (by decide))).ups rfl (Or.inl (by decide))) (fun i i0 i1 => ?_)⟩⟩
      have a0 := e77 x 0 x0 (by omega) (by decide) (by decide)
      have a1 := e77 x 1 x0 (by omega) (by decide) (by decide)
      have a2 := e77 x 2 x0 (by omega) (by decide) (by decide)
      rw [Int.add_zero] at a0
      by_cases e : i = x
      · rw [e, ups_ne (by decide), ups_ne (by decide), ups_hit, ups_ne (by decide), ups_hit, ups_hit, s.1 77 rfl, a0]
        exact ⟨rfl, a1, a2⟩
      · rw [ups_ne (by decide), ups_ne (by decide), ups_fn e, ups_ne (by decide), ups_fn e, ups_ne (by decide), ups_fn e, ups_ne (by decide), ups_ne (by decide)]
        exact h i i0 (by omega)
  exact key _ 0 υ rfl (Int.le_refl _) n0.1 Sm.refl (fun i i0 i1 => absurd i1 (by omega))
theorem tk279 (d : Nat) {M : MS} {υ : Mem} {Q : RV → Mem → Prop} (hM : MB M) (e40 : υ 64 40 = M.1 3) (e78 : ∀ j i, 0 ≤ j → j < M.1 3 → 0 ≤ i → i < 2 → υ 78 (2 * j + i) = M.2 3 j i) (hK : ∀ τ, Sm υ τ [88, 89] [] → (∀ k, 0 ≤ k → k < M.1 3 → τ 88 k = M.2 3 k 0 ∧ τ 89 k = M.2 3 k 1) → Q (rI (τ 64 37)) (ups (ups (ups (ups τ 64 55 0) 64 60 0) 64 45 0) 64 63 0)) (u2 : Option AV) : Ev (d + 1) mR_takeMarket 279 [vR 64, vI 0, u2] [] υ Q := by
  have n0 := hM.n.2.2.2
  have key : ∀ (n : Nat) (x : Int) (τ : Mem), (M.1 3 - x).toNat = n → 0 ≤ x → x ≤ M.1 3 → Sm υ τ [88, 89] [] → (∀ k, 0 ≤ k → k < x → τ 88 k = M.2 3 k 0 ∧ τ 89 k = M.2 3 k 1) → Ev (d + 1) mR_takeMarket 279 [vR 64, vI x, u2] [] τ Q := by
    intro n
    induction n with
    | zero =>
      intro x τ hn x0 x1 s h
      exact bR_takeMarket_279 ⟨⟨by omega, by omega⟩, by rw [s.2 40 rfl, e40]; exact ⟨by omega, by omega⟩, fun _ => hK τ s (fun i i0 i1 => h i i0 (by omega)), fun q => absurd q (by rw [s.2 40 rfl, e40]; omega)⟩
    | succ n ih =>
      intro x τ hn x0 x1 s h
      refine bR_takeMarket_279 ⟨⟨by omega, by omega⟩, by rw [s.2 40 rfl, e40]; exact ⟨by omega, by omega⟩, fun q => absurd q (by rw [s.2 40 rfl, e40]; omega), fun _ => ⟨(by omega), (by omega), x0, (by omega), (by omega), (by omega), ih (x + 1) _ (by omega) (by omega) (by omega) ((s.ups rfl (Or.inl (by decide))).ups rfl (Or.inl (by decide))) (fun i i0 i1 => ?_)⟩⟩
      have a0 := e78 x 0 x0 (by omega) (by decide) (by decide)
      have a1 := e78 x 1 x0 (by omega) (by decide) (by decide)
      rw [Int.add_zero] at a0
      by_cases e : i = x
      · rw [e, ups_ne (by decide), ups_hit, ups_hit, s.1 78 rfl, a0]
        exact ⟨rfl, a1⟩
      · rw [ups_ne (by decide), ups_fn e, ups_fn e, ups_ne (by decide)]
        exact h i i0 (by omega)
  exact key _ 0 υ rfl (Int.le_refl _) n0.1 Sm.refl (fun i i0 i1 => absurd i1 (by omega))
theorem takeR (d : Nat) {M : MS} {ω : Mem} (hM : MB M) (mr : McR ω M) (hR : RG (ω 81)) {Q : RV → Mem → Prop} (hq : ∀ τ, Sm ω τ [64, 81, 82, 83, 84, 85, 86, 87, 88, 89] [37, 38, 39, 40, 45, 55, 60, 63] → (τ 64 55 = 0 ∧ τ 64 60 = 0 ∧ τ 64 45 = 0 ∧ τ 64 63 = 0) → MkR τ M → BgM (τ 81) (fun p => M.2 1 p 0) (fun p => M.2 1 p 1) (M.1 0) (M.1 1) (M.1 1) 0 → Q (rI (M.1 0)) τ) : Cl (d + 1) mR_takeMarket [aR 64] ω Q := by
  obtain ⟨⟨c0, c1, c2, c3⟩, r75, r76, r77, r78⟩ := mr
  refine bR_takeMarket_in ?_
  have s0 : Sm ω (ups (ups (ups (ups ω 64 37 (ω 64 21)) 64 38 (ω 64 22)) 64 39 (ω 64 23)) 64 40 (ω 64 24)) [64] [37, 38, 39, 40] := (((Sm.refl.ups rfl (Or.inr rfl)).ups rfl (Or.inr rfl)).ups rfl (Or.inr rfl)).ups rfl (Or.inr rfl)
  have q37 : (ups (ups (ups (ups ω 64 37 (ω 64 21)) 64 38 (ω 64 22)) 64 39 (ω 64 23)) 64 40 (ω 64 24)) 64 37 = M.1 0 := by rw [ups_fn (by decide), ups_fn (by decide), ups_fn (by decide), ups_hit, c0]
  have q38 : (ups (ups (ups (ups ω 64 37 (ω 64 21)) 64 38 (ω 64 22)) 64 39 (ω 64 23)) 64 40 (ω 64 24)) 64 38 = M.1 1 := by rw [ups_fn (by decide), ups_fn (by decide), ups_hit, c1]
  have q39 : (ups (ups (ups (ups ω 64 37 (ω 64 21)) 64 38 (ω 64 22)) 64 39 (ω 64 23)) 64 40 (ω 64 24)) 64 39 = M.1 2 := by rw [ups_fn (by decide), ups_hit, c2]
  have q40 : (ups (ups (ups (ups ω 64 37 (ω 64 21)) 64 38 (ω 64 22)) 64 39 (ω 64 23)) 64 40 (ω 64 24)) 64 40 = M.1 3 := by rw [ups_hit, c3]
  generalize (ups (ups (ups (ups ω 64 37 (ω 64 21)) 64 38 (ω 64 22)) 64 39 (ω 64 23)) 64 40 (ω 64 24)) = τ0 at *
  refine tk34 d (by rw [s0.1 81 rfl]; exact hR) (fun τ1 _ s1 z1 R1 => ?_) _
  refine tk56 d hM (by rw [s1.2 37 rfl, q37]) (fun j i j0 j1 i0 i1 => by rw [s1.1 75 rfl, s0.1 75 rfl]; exact r75 j i j0 j1 i0 i1) (fun τ2 _ s2 g2 => ?_) _
  refine tk102 d hM (by rw [s2.2 37 rfl, s1.2 37 rfl, q37]) (by rw [s2.2 38 rfl, s1.2 38 rfl, q38]) (fun j i j0 j1 i0 i1 => by rw [s2.1 76 rfl, s1.1 76 rfl, s0.1 76 rfl]; exact r76 j i j0 j1 i0 i1) (by rw [s2.1 81 rfl]; exact z1) (by rw [s2.1 81 rfl]; exact R1) (fun τ3 _ s3 bg g3 => ?_) _
  refine tk217 d hM (by rw [s3.2 39 rfl, s2.2 39 rfl, s1.2 39 rfl, q39]) (fun j i j0 j1 i0 i1 => by rw [s3.1 77 rfl, s2.1 77 rfl, s1.1 77 rfl, s0.1 77 rfl]; exact r77 j i j0 j1 i0 i1) (fun τ4 _ s4 g4 => ?_) _
  refine tk279 d hM (by rw [s4.2 40 rfl, s3.2 40 rfl, s2.2 40 rfl, s1.2 40 rfl, q40]) (fun j i j0 j1 i0 i1 => by rw [s4.1 78 rfl, s3.1 78 rfl, s2.1 78 rfl, s1.1 78 rfl, s0.1 78 rfl]; exact r78 j i j0 j1 i0 i1) (fun τ5 s5 g5 => ?_) _
  rw [s5.2 37 rfl, s4.2 37 rfl, s3.2 37 rfl, s2.2 37 rfl, s1.2 37 rfl, q37]
  have s6 : Sm τ5 (ups (ups (ups (ups τ5 64 55 0) 64 60 0) 64 45 0) 64 63 0) [64] [55, 60, 45, 63] := (((Sm.refl.ups rfl (Or.inr rfl)).ups rfl (Or.inr rfl)).ups rfl (Or.inr rfl)).ups rfl (Or.inr rfl)
  refine hq _ ((((((s0.mono (by decide) (by decide)).trans (s1.mono (by decide) (by decide))).trans (s2.mono (by decide) (by decide))).trans (s3.mono (by decide) (by decide))).trans (s4.mono (by decide) (by decide))).trans (s5.mono (by decide) (by decide)) |>.trans (s6.mono (by decide) (by decide))) ⟨?_, ?_, ?_, ?_⟩ ⟨⟨?_, ?_, ?_, ?_⟩, ?_, ?_, ?_, ?_⟩ ?_
  · rw [ups_fn (by decide), ups_fn (by decide), ups_fn (by decide), ups_hit]
  · rw [ups_fn (by decide), ups_fn (by decide), ups_hit]
  · rw [ups_fn (by decide), ups_hit]
  · rw [ups_hit]
  · rw [s6.2 37 rfl, s5.2 37 rfl, s4.2 37 rfl, s3.2 37 rfl, s2.2 37 rfl, s1.2 37 rfl, q37]
  · rw [s6.2 38 rfl, s5.2 38 rfl, s4.2 38 rfl, s3.2 38 rfl, s2.2 38 rfl, s1.2 38 rfl, q38]
  · rw [s6.2 39 rfl, s5.2 39 rfl, s4.2 39 rfl, s3.2 39 rfl, s2.2 39 rfl, s1.2 39 rfl, q39]
  · rw [s6.2 40 rfl, s5.2 40 rfl, s4.2 40 rfl, s3.2 40 rfl, s2.2 40 rfl, s1.2 40 rfl, q40]
  · rw [s6.1 82 rfl, s6.1 83 rfl, s5.1 82 rfl, s5.1 83 rfl, s4.1 82 rfl, s4.1 83 rfl, s3.1 82 rfl, s3.1 83 rfl]; exact g2
  · rw [s6.1 84 rfl, s5.1 84 rfl, s4.1 84 rfl]; exact g3
  · rw [s6.1 85 rfl, s6.1 86 rfl, s6.1 87 rfl, s5.1 85 rfl, s5.1 86 rfl, s5.1 87 rfl]; exact g4
  · rw [s6.1 88 rfl, s6.1 89 rfl]; exact g5
  · rw [s6.1 81 rfl, s5.1 81 rfl, s4.1 81 rfl]; exact bg
