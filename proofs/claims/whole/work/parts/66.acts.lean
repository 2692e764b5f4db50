/-! ===== ROWS WITHOUT THE LOG; ONE CELL CHANGED; WHAT IS KEPT ===== -/
def RowS (c m : Int → Int) : Prop :=
  (c 0 = m 72 ∧ c 1 = m 73) ∧
  (∀ p, 0 ≤ p → p < 6 → c (3 + 4 * p) = m (60 + p) ∧ c (3 + 4 * p + 1) = m (66 + p) ∧ c (3 + 4 * p + 2) = m (54 + p) ∧ c (3 + 4 * p + 3) = m (48 + p)) ∧
  (∀ i, 0 ≤ i → i < 48 → c (27 + i) = m i) ∧
  (∀ i, 0 ≤ i → i < 5 * m 73 → c (75 + i) = m (74 + i))
def LogR (c m : Int → Int) : Prop := c 2 = m 114 ∧ ∀ i, 0 ≤ i → i < m 114 → c (115 + i) = ((m (115 + 4 * (m 114 - 1 - i) + 3) * 1000 + m (115 + 4 * (m 114 - 1 - i) + 2)) * 8 + m (115 + 4 * (m 114 - 1 - i) + 1)) * 8 + m (115 + 4 * (m 114 - 1 - i))
theorem RowR.S {c m : Int → Int} (h : RowR c m) : RowS c m := ⟨⟨h.1.1, h.1.2.1⟩, h.2.1, h.2.2.1, h.2.2.2.1⟩
theorem RowR.L {c m : Int → Int} (h : RowR c m) : LogR c m := ⟨h.1.2.2, h.2.2.2.2⟩
theorem RowR.of {c m : Int → Int} (h : RowS c m) (g : LogR c m) : RowR c m := ⟨⟨h.1.1, h.1.2, g.1⟩, h.2.1, h.2.2.1, h.2.2.2, g.2⟩
/-- valid but for the log: things, persons, the last day, what may be given yet -/
def RowW (T P D B : Int) (m : Int → Int) : Prop :=
  (∀ i, 0 ≤ i → i < 72 → 0 ≤ m i) ∧ (∀ p, 0 ≤ p → p < 6 → m (48 + p) < 2 ^ T.toNat) ∧
  sumI (fun i => m (54 + i)) 6 + 999 * (sumI m 48 + m 73) ≤ B ∧ sumI (fun i => m (60 + i)) 6 ≤ 594 ∧ (∀ p, 0 ≤ p → p < 6 → m (66 + p) ≤ 99) ∧
  (0 ≤ m 72 ∧ m 72 ≤ D) ∧ (0 ≤ m 73 ∧ m 73 ≤ 8) ∧ (∀ k, 0 ≤ k → k < m 73 → PledV T P m k)
theorem RowV.W {T P : Int} {m : Int → Int} (h : RowV T P m) : RowW T P 999 47952 m := ⟨h.1, h.2.1, h.2.2.1, h.2.2.2.1, h.2.2.2.2.1, h.2.2.2.2.2.1, h.2.2.2.2.2.2.1, h.2.2.2.2.2.2.2.1⟩
def LogW (m : Int → Int) : Prop := (0 ≤ m 114 ∧ m 114 ≤ 60) ∧ (∀ i, 0 ≤ i → i < m 114 → LogV m i)
theorem RowV.L {T P : Int} {m : Int → Int} (h : RowV T P m) : LogW m := h.2.2.2.2.2.2.2.2
theorem RowV.of {T P : Int} {m : Int → Int} (h : RowW T P 999 47952 m) (g : LogW m) : RowV T P m := ⟨h.1, h.2.1, h.2.2.1, h.2.2.2.1, h.2.2.2.2.1, h.2.2.2.2.2.1, h.2.2.2.2.2.2.1, h.2.2.2.2.2.2.2, g⟩
theorem fu_hit {f : Int → Int} {i v : Int} : fu f i v i = v := if_pos rfl
theorem fu_ne {f : Int → Int} {i v j : Int} (h : j ≠ i) : fu f i v j = f j := if_neg h
theorem fu_comm {f : Int → Int} {i v j w : Int} (h : i ≠ j) : fu (fu f i v) j w = fu (fu f j w) i v := by
  funext k; unfold fu
  by_cases e : k = j
  · rw [if_pos e, if_neg (fun z => h (by omega)), if_pos e]
  · rw [if_neg e]
    by_cases e2 : k = i
    · rw [if_pos e2, if_pos e2]
    · rw [if_neg e2, if_neg e2, if_neg e]
/-- a cell of the class's row and one of the reference's that tell the same -/
def Cor (a b : Int) : Prop := (a = 0 ∧ b = 72) ∨ (∃ p, 0 ≤ p ∧ p < 6 ∧ ((a = 3 + 4 * p ∧ b = 60 + p) ∨ (a = 3 + 4 * p + 1 ∧ b = 66 + p) ∨ (a = 3 + 4 * p + 2 ∧ b = 54 + p) ∨ (a = 3 + 4 * p + 3 ∧ b = 48 + p))) ∨ (0 ≤ b ∧ b < 48 ∧ a = 27 + b)
theorem Cor.eq {c m : Int → Int} {a b : Int} (h : RowS c m) (hab : Cor a b) : c a = m b := by
  rcases hab with ⟨rfl, rfl⟩ | ⟨p, p0, p1, q⟩ | ⟨b0, b1, rfl⟩
  · exact h.1.1
  · obtain ⟨k1, k2, k3, k4⟩ := h.2.1 p p0 p1
    rcases q with ⟨rfl, rfl⟩ | ⟨rfl, rfl⟩ | ⟨rfl, rfl⟩ | ⟨rfl, rfl⟩
    · exact k1
    · exact k2
    · exact k3
    · exact k4
  · exact h.2.2.1 b b0 b1
theorem fu_cor {c m : Int → Int} {a b v i j : Int} (h : i = a ↔ j = b) (g : c i = m j) : fu c a v i = fu m b v j := by
  unfold fu
  by_cases e : i = a
  · rw [if_pos e, if_pos (h.mp e)]
  · rw [if_neg e, if_neg (fun z => e (h.mpr z))]; exact g
theorem RowS.upd {c m : Int → Int} {a b v : Int} (h : RowS c m) (hab : Cor a b) : RowS (fu c a v) (fu m b v) := by
  obtain ⟨⟨a1, a2⟩, k, e, f⟩ := h
  have hb : b ≠ 73 ∧ (a < 75 ∧ b < 73) ∧ a ≠ 1 := by
    rcases hab with ⟨rfl, rfl⟩ | ⟨p, p0, p1, q⟩ | ⟨b0, b1, rfl⟩
    · decide
    · omega
    · omega
  have q : ∀ i j : Int, ((i = 0 ∧ j = 72) ∨ (i = 1 ∧ j = 73) ∨ (∃ p, 0 ≤ p ∧ p < 6 ∧ ((i = 3 + 4 * p ∧ j = 60 + p) ∨ (i = 3 + 4 * p + 1 ∧ j = 66 + p) ∨ (i = 3 + 4 * p + 2 ∧ j = 54 + p) ∨ (i = 3 + 4 * p + 3 ∧ j = 48 + p))) ∨ (0 ≤ j ∧ j < 48 ∧ i = 27 + j)) → (i = a ↔ j = b) := by
    intro i j w
    rcases hab with ⟨rfl, rfl⟩ | ⟨p, p0, p1, q⟩ | ⟨b0, b1, rfl⟩
    · rcases w with w | w | ⟨r, r0, r1, w⟩ | w <;> omega
    · rcases w with w | w | ⟨r, r0, r1, w⟩ | w <;> omega
    · rcases w with w | w | ⟨r, r0, r1, w⟩ | w <;> omega
  refine ⟨⟨fu_cor (q 0 72 (Or.inl ⟨rfl, rfl⟩)) a1, fu_cor (q 1 73 (Or.inr (Or.inl ⟨rfl, rfl⟩))) a2⟩, fun p p0 p1 => ?_, fun i i0 i1 => ?_, fun i i0 i1 => ?_⟩
  · obtain ⟨k1, k2, k3, k4⟩ := k p p0 p1
    exact ⟨fu_cor (q _ _ (Or.inr (Or.inr (Or.inl ⟨p, p0, p1, Or.inl ⟨rfl, rfl⟩⟩)))) k1, fu_cor (q _ _ (Or.inr (Or.inr (Or.inl ⟨p, p0, p1, Or.inr (Or.inl ⟨rfl, rfl⟩)⟩)))) k2, fu_cor (q _ _ (Or.inr (Or.inr (Or.inl ⟨p, p0, p1, Or.inr (Or.inr (Or.inl ⟨rfl, rfl⟩))⟩)))) k3, fu_cor (q _ _ (Or.inr (Or.inr (Or.inl ⟨p, p0, p1, Or.inr (Or.inr (Or.inr ⟨rfl, rfl⟩))⟩)))) k4⟩
  · exact fu_cor (q _ _ (Or.inr (Or.inr (Or.inr ⟨i0, i1, rfl⟩)))) (e i i0 i1)
  · rw [fu_ne (show (73 : Int) ≠ b from fun z => hb.1 z.symm)] at i1
    rw [fu_ne (by omega), fu_ne (by omega)]; exact f i i0 i1
theorem RowS.sub {c m : Int → Int} {a b v : Int} (h : RowS c m) (hab : Cor a b) : RowS (fu c a (c a - v)) (fu m b (m b - v)) := by
  rw [Cor.eq h hab]; exact h.upd hab
theorem RowS.add {c m : Int → Int} {a b v : Int} (h : RowS c m) (hab : Cor a b) : RowS (fu c a (c a + v)) (fu m b (m b + v)) := by
  rw [Cor.eq h hab]; exact h.upd hab
theorem Cor.money {p : Int} (h : 0 ≤ p ∧ p < 6) : Cor (3 + p * 4 + 0) (60 + p) := Or.inr (Or.inl ⟨p, h.1, h.2, Or.inl ⟨(by omega), rfl⟩⟩)
theorem Cor.age {p : Int} (h : 0 ≤ p ∧ p < 6) : Cor (3 + p * 4 + 1) (66 + p) := Or.inr (Or.inl ⟨p, h.1, h.2, Or.inr (Or.inl ⟨(by omega), rfl⟩)⟩)
theorem Cor.joy {p : Int} (h : 0 ≤ p ∧ p < 6) : Cor (3 + p * 4 + 2) (54 + p) := Or.inr (Or.inl ⟨p, h.1, h.2, Or.inr (Or.inr (Or.inl ⟨(by omega), rfl⟩))⟩)
theorem Cor.had {p : Int} (h : 0 ≤ p ∧ p < 6) : Cor (3 + p * 4 + 3) (48 + p) := Or.inr (Or.inl ⟨p, h.1, h.2, Or.inr (Or.inr (Or.inr ⟨(by omega), rfl⟩))⟩)
theorem Cor.fst {p x : Int} (h : 0 ≤ p ∧ p < 6) (hx : 0 ≤ x ∧ x < 8) : Cor (27 + p * 8 + x) (8 * p + x) := Or.inr (Or.inr ⟨(by omega), (by omega), (by omega)⟩)
theorem Cor.day : Cor 0 72 := Or.inl ⟨rfl, rfl⟩
theorem LogR.upd {c m : Int → Int} {a b v w : Int} (h : LogR c m) (ha : a < 115 ∧ a ≠ 2) (hb : b < 114) : LogR (fu c a v) (fu m b w) := by
  refine ⟨?_, fun i i0 i1 => ?_⟩
  · rw [fu_ne (by omega), fu_ne (by omega)]; exact h.1
  · rw [fu_ne (show (114 : Int) ≠ b by omega)] at i1 ⊢
    rw [fu_ne (by omega), fu_ne (by omega), fu_ne (by omega), fu_ne (by omega), fu_ne (by omega)]; exact h.2 i i0 i1
theorem LogW.upd {m : Int → Int} {b w : Int} (h : LogW m) (hb : b < 114) : LogW (fu m b w) := by
  refine ⟨?_, fun i i0 i1 => ?_⟩
  · rw [fu_ne (by omega)]; exact h.1
  · rw [fu_ne (show (114 : Int) ≠ b by omega)] at i1
    unfold LogV
    rw [fu_ne (by omega), fu_ne (by omega), fu_ne (by omega), fu_ne (by omega)]; exact h.2 i i0 i1
theorem sum_sh {m : Int → Int} {i v o : Int} {n : Nat} (ho : 0 ≤ o) (hi : 0 ≤ i) : sumI (fun j => fu m i v (o + j)) n = if o ≤ i ∧ i < o + (n : Int) then sumI (fun j => m (o + j)) n + (v - m i) else sumI (fun j => m (o + j)) n := by
  by_cases h : o ≤ i
  · have e : (fun j => fu m i v (o + j)) = fu (fun j => m (o + j)) (i - o) v := by
      funext j; unfold fu
      by_cases e : j = i - o
      · rw [if_pos e, if_pos (by omega)]
      · rw [if_neg e, if_neg (by omega)]
    rw [e, sumI_upd (by omega), show o + (i - o) = i by omega]
    by_cases q : i < o + (n : Int)
    · rw [if_pos (by omega), if_pos ⟨h, q⟩]
    · rw [if_neg (by omega), if_neg (fun z => q z.2)]
  · rw [if_neg (fun z => h z.1)]
    exact sumI_congr (fun j j0 j1 => fu_ne (by omega))
theorem RowW.set {T P D B B' : Int} {m : Int → Int} {i v : Int} (h : RowW T P D B m) (hi : 0 ≤ i ∧ i < 72) (hv : 0 ≤ v) (hh : 48 ≤ i → i < 54 → v < 2 ^ T.toNat) (ha : 66 ≤ i → v ≤ 99) (hm : 60 ≤ i → i < 66 → sumI (fun j => m (60 + j)) 6 + (v - m i) ≤ 594)
    (hb : B + (if 54 ≤ i ∧ i < 60 then v - m i else 0) + 999 * (if i < 48 then v - m i else 0) ≤ B') : RowW T P D B' (fu m i v) := by
  obtain ⟨a, b, c, d, e, f, g, k⟩ := h
  refine ⟨fun j j0 j1 => ?_, fun p p0 p1 => ?_, ?_, ?_, fun p p0 p1 => ?_, ?_, ?_, fun j j0 j1 => ?_⟩
  · by_cases q : j = i
    · rw [q, fu_hit]; exact hv
    · rw [fu_ne q]; exact a j j0 j1
  · by_cases q : 48 + p = i
    · rw [q, fu_hit]; exact hh (by omega) (by omega)
    · rw [fu_ne q]; exact b p p0 p1
  · rw [sum_sh (by decide) hi.1, sumI_upd hi.1, fu_ne (show (73 : Int) ≠ i by omega)]
    by_cases q1 : 54 ≤ i ∧ i < 60
    · rw [if_pos q1, if_neg (by omega)] at hb
      rw [if_pos (by omega), if_neg (by omega)]; omega
    · rw [if_neg q1] at hb
      rw [if_neg (by omega)]
      by_cases q2 : i < 48
      · rw [if_pos q2] at hb
        rw [if_pos (by omega)]; omega
      · rw [if_neg q2] at hb
        rw [if_neg (by omega)]; omega
  · rw [sum_sh (by decide) hi.1]
    by_cases q : 60 ≤ i ∧ i < 60 + ((6 : Nat) : Int)
    · rw [if_pos q]; exact hm q.1 (by omega)
    · rw [if_neg q]; exact d
  · by_cases q : 66 + p = i
    · rw [q, fu_hit]; exact ha (by omega)
    · rw [fu_ne q]; exact e p p0 p1
  · rw [fu_ne (by omega)]; exact f
  · rw [fu_ne (by omega)]; exact g
  · rw [fu_ne (show (73 : Int) ≠ i by omega)] at j1
    unfold PledV
    rw [fu_ne (by omega), fu_ne (by omega), fu_ne (by omega), fu_ne (by omega), fu_ne (by omega), fu_ne (by omega)]; exact k j j0 j1
/-- rows that are the same where they are read -/
theorem RowS.cg {c m c' m' : Int → Int} (h : RowS c m) (hk : 0 ≤ m 73 ∧ m 73 ≤ 8) (hc : ∀ i, 0 ≤ i → i < 115 → c' i = c i) (hm : ∀ i, 0 ≤ i → i < 114 → m' i = m i) : RowS c' m' := by
  obtain ⟨⟨a1, a2⟩, b, e, f⟩ := h
  refine ⟨⟨?_, ?_⟩, fun p p0 p1 => ?_, fun i i0 i1 => ?_, fun i i0 i1 => ?_⟩
  · rw [hc 0 (by omega) (by omega), hm 72 (by omega) (by omega)]; exact a1
  · rw [hc 1 (by omega) (by omega), hm 73 (by omega) (by omega)]; exact a2
  · rw [hc _ (by omega) (by omega), hc _ (by omega) (by omega), hc _ (by omega) (by omega), hc _ (by omega) (by omega), hm _ (by omega) (by omega), hm _ (by omega) (by omega), hm _ (by omega) (by omega), hm _ (by omega) (by omega)]; exact b p p0 p1
  · rw [hc _ (by omega) (by omega), hm _ (by omega) (by omega)]; exact e i i0 i1
  · rw [hm 73 (by omega) (by omega)] at i1
    rw [hc _ (by omega) (by omega), hm _ (by omega) (by omega)]; exact f i i0 i1
/-! ===== what is kept ===== -/
def PastR (T P : Int) (c41 c42 : Int → Int) (n : Int) (r : Int → Int) : Prop :=
  (c41 2 = n ∧ 0 ≤ n ∧ n ≤ 40) ∧ (0 ≤ c41 1 ∧ c41 1 < 40) ∧
  ∀ j, 0 ≤ j → j < n → RowR (fun i => c42 ((c41 1 + 40 - n + j) % 40 * 175 + i)) (fun i => r (355 * j + i)) ∧ RowV T P (fun i => r (355 * j + i))
theorem pastI_iff {σ : Mem} : PastI σ ↔ PastR (σ 64 37) (σ 64 38) (σ 41) (σ 42) (σ 64 45) (σ 90) := Iff.rfl
/-- the class has kept a row -/
def KC (c41 c42 c c41' c42' : Int → Int) : Prop := c41' 1 = (c41 1 + 1) % 40 ∧ c41' 2 = min (c41 2 + 1) 40 ∧ (∀ i, 0 ≤ i → i < 175 → c42' (c41 1 * 175 + i) = c i) ∧ (∀ k i, 0 ≤ k → k < 40 → k ≠ c41 1 → 0 ≤ i → i < 175 → c42' (k * 175 + i) = c42 (k * 175 + i)) ∧ (RG c → RG c42 → RG c42')
/-- the reference has -/
def KR (n : Int) (r m : Int → Int) (n' : Int) (r' : Int → Int) : Prop := n' = min (n + 1) 40 ∧ (∀ j i, 0 ≤ j → j < n' - 1 → 0 ≤ i → i < 355 → r' (355 * j + i) = r (355 * (j + (n + 1 - n')) + i)) ∧ (∀ i, 0 ≤ i → i < 355 → r' (355 * (n' - 1) + i) = m i) ∧ (RG r → RG m → RG r')
theorem PastR.keep {T P : Int} {c41 c42 c c41' c42' : Int → Int} {n : Int} {r m : Int → Int} {n' : Int} {r' : Int → Int} (h : PastR T P c41 c42 n r) (hR : RowR c m) (hV : RowV T P m) (hC : KC c41 c42 c c41' c42') (hK : KR n r m n' r') : PastR T P c41' c42' n' r' := by
  obtain ⟨⟨p1, p2, p3⟩, ⟨p4, p5⟩, p6⟩ := h
  obtain ⟨a1, a2, a3, a4, -⟩ := hC
  obtain ⟨b1, b2, b3, -⟩ := hK
  refine ⟨⟨by rw [a2, p1, b1], (by omega), (by omega)⟩, (by omega), fun j j0 j1 => ?_⟩
  by_cases e : j = n' - 1
  · have e1 : (c41' 1 + 40 - n' + j) % 40 = c41 1 := by omega
    rw [e1, e]
    exact ⟨hR.cg hV.n73 hV.n114 (fun i i0 i1 => a3 i i0 i1) (fun i i0 i1 => b3 i i0 i1), hV.cg (fun i i0 i1 => b3 i i0 i1)⟩
  · obtain ⟨g1, g2⟩ := p6 (j + (n + 1 - n')) (by omega) (by omega)
    have e1 : (c41' 1 + 40 - n' + j) % 40 = (c41 1 + 40 - n + (j + (n + 1 - n'))) % 40 := by omega
    have e2 : (c41 1 + 40 - n + (j + (n + 1 - n'))) % 40 ≠ c41 1 := by omega
    rw [e1]
    exact ⟨g1.cg g2.n73 g2.n114 (fun i i0 i1 => a4 _ i (by omega) (by omega) e2 i0 i1) (fun i i0 i1 => b2 j i j0 (by omega) i0 i1), g2.cg (fun i i0 i1 => b2 j i j0 (by omega) i0 i1)⟩
theorem keepC {σ : Mem} (hP : (0 ≤ σ 41 1 ∧ σ 41 1 < 40) ∧ (0 ≤ σ 41 2 ∧ σ 41 2 ≤ 40)) (d : Nat) {Q : RV → Mem → Prop} (h : ∀ τ, Sm σ τ [41, 42] [] → KC (σ 41) (σ 42) (σ 38) (τ 41) (τ 42) → Q rV τ) : Cl (d + 2) mPa_keep [aR 41, aR 38] σ Q := by
  refine bPa_keep_in ⟨(by omega), (by omega), (by omega), ⟨by omega, by omega⟩, ⟨by omega, by omega⟩, h _ (((Sm.refl.su rfl (by decide)).ups rfl (Or.inl (by decide))).ups rfl (Or.inl (by decide))) ⟨?_, ?_, ?_, ?_, ?_⟩⟩
  · rw [ups_fn (by decide), ups_hit, Int.tmod_eq_emod_of_nonneg (by omega)]
  · rw [ups_hit]
  · intro i i0 i1
    rw [ups_ne (by decide), ups_ne (by decide), su_eq]
    unfold cpy
    rw [if_pos (by omega)]; congr 1; omega
  · intro k i k0 k1 k2 i0 i1
    rw [ups_ne (by decide), ups_ne (by decide), su_eq]
    unfold cpy
    rw [if_neg (by omega)]
  · intro h1 h2
    rw [ups_ne (by decide), ups_ne (by decide), su_eq]
    exact h1.ofcpy h2
theorem keepR {σ : Mem} (hn : 0 ≤ σ 64 45 ∧ σ 64 45 ≤ 40) (d : Nat) {Q : RV → Mem → Prop} (h : ∀ τ, Sm σ τ [64, 90] [45] → KR (σ 64 45) (σ 90) (σ 81) (τ 64 45) (τ 90) → Q rV τ) : Cl (d + 1) mR_keep [aR 64] σ Q := by
  -- the copy of the row that is now
  have cp : ∀ (ω : Mem) (a : Int), Sm σ ω [64, 90] [45] → ω 64 45 = a → 0 ≤ a ∧ a ≤ 39 → ω 81 = σ 81 → (∀ υ, Sm σ υ [64, 90] [45] → υ 64 45 = a + 1 → υ 90 = cpn (σ 81) (ω 90) (355 * a) 355 → Q rV υ) → Ev (d + 1) mR_keep 54 [vR 64, vI 0] [] ω Q := by
    intro ω a hs ha hr h81 g
    refine loop_cp (σ := ω) (a := 90) (f := σ 81) (o := 355 * a) (n := 355) (E := fun i υ => Ev (d + 1) mR_keep 54 [vR 64, vI i] [] υ Q) (by decide) (fun i i0 i1 w => ?_) ?_
    · refine bR_keep_54 ⟨⟨by omega, by omega⟩, fun q => absurd q (by omega), fun _ => ⟨i0, ?_, ?_, ?_⟩⟩
      · rw [su_ne (by decide), ha]; omega
      · rw [su_ne (by decide), ha]; omega
      · rw [su_ne (by decide), su_ne (by decide), ha, h81]; exact w
    · refine bR_keep_54 ⟨by decide, fun _ => ?_, fun q => absurd q (by decide)⟩
      rw [su_ne (by decide), ha]
      refine g _ ((hs.su rfl (by decide)).ups rfl (Or.inr rfl)) ups_hit ?_
      rw [ups_ne (by decide), su_eq]
  refine bR_keep_in ⟨⟨by omega, by omega⟩, fun hne => ?_, fun he => ?_⟩
  · refine cp σ (σ 64 45) Sm.refl rfl (by omega) rfl (fun υ hs h45 h90 => h υ hs ⟨(by omega), ?_, ?_, ?_⟩)
    · intro j i j0 j1 i0 i1
      rw [h90]; unfold cpn
      rw [if_neg (by omega)]; congr 1; omega
    · intro i i0 i1
      rw [h90]; unfold cpn
      rw [if_pos (by omega)]; congr 1; omega
    · intro h1 h2; rw [h90]; exact RG.ofcpn h2 h1
  · -- all of them move up
    have mv : ∀ υ, Sm σ υ [64, 90] [45] → υ 64 45 = 39 → υ 90 = (fun j => if 0 ≤ j ∧ j < 14200 - 355 then σ 90 (j + 355) else σ 90 j) → Ev (d + 1) mR_keep 54 [vR 64, vI 0] [] υ Q := by
      intro υ hs h45 h90
      refine cp υ 39 hs h45 (by decide) (hs.1 81 rfl) (fun τ hs2 g45 g90 => h τ hs2 ⟨(by omega), ?_, ?_, ?_⟩)
      · intro j i j0 j1 i0 i1
        rw [g90, h90]; unfold cpn
        rw [if_neg (by omega)]
        dsimp only
        rw [if_pos (by omega)]; congr 1; omega
      · intro i i0 i1
        rw [g90]; unfold cpn
        rw [if_pos (by omega)]; congr 1; omega
      · intro h1 h2; rw [g90, h90]
        refine RG.ofcpn h2 (fun j => ?_)
        split
        · exact h1 _
        · exact h1 _
    have key : Ev (d + 1) mR_keep 13 [vR 64, vI 355] [] (su σ 90 (fun j => if 0 ≤ j ∧ j < 355 - 355 then σ 90 (j + 355) else σ 90 j)) Q := by
      refine loop_up (G := fun x => Ev (d + 1) mR_keep 13 [vR 64, vI x] [] (su σ 90 (fun j => if 0 ≤ j ∧ j < x - 355 then σ 90 (j + 355) else σ 90 j)) Q) (hi := 14200) _ 355 rfl (by decide) (fun x x0 x1 g => ?_) ?_
      · refine bR_keep_13 ⟨⟨by omega, by omega⟩, fun q => absurd q (by omega), fun _ => ⟨(by omega), (by omega), (by omega), ?_⟩⟩
        have e : ups (su σ 90 (fun j => if 0 ≤ j ∧ j < x - 355 then σ 90 (j + 355) else σ 90 j)) 90 (x - 355) ((su σ 90 (fun j => if 0 ≤ j ∧ j < x - 355 then σ 90 (j + 355) else σ 90 j)) 90 x) = su σ 90 (fun j => if 0 ≤ j ∧ j < x + 1 - 355 then σ 90 (j + 355) else σ 90 j) := by
          rw [ups_su, su_eq]
          congr 1
          funext j; unfold fu
          by_cases q : j = x - 355
          · rw [if_pos q, if_neg (by omega), if_pos (by omega)]; congr 1; omega
          · rw [if_neg q]
            show (if 0 ≤ j ∧ j < x - 355 then σ 90 (j + 355) else σ 90 j) = _
            by_cases q2 : 0 ≤ j ∧ j < x - 355
            · rw [if_pos q2, if_pos (by omega)]
            · rw [if_neg q2, if_neg (by omega)]
        rw [e]; exact g
      · refine bR_keep_13 ⟨by decide, fun _ => ?_, fun q => absurd q (by decide)⟩
        refine mv _ ((Sm.refl.su rfl (by decide)).ups rfl (Or.inr rfl)) ?_ ?_
        · rw [ups_hit, su_ne (by decide), he]; decide
        · rw [ups_ne (by decide), su_eq]
    have e0 : su σ 90 (fun j => if 0 ≤ j ∧ j < (355 : Int) - 355 then σ 90 (j + 355) else σ 90 j) = σ := by
      have : (fun j => if 0 ≤ j ∧ j < (355 : Int) - 355 then σ 90 (j + 355) else σ 90 j) = σ 90 := by funext j; exact if_neg (by omega)
      rw [this, su_id]
    rw [e0] at key; exact key
