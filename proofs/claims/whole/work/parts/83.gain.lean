/-! ===== WHAT ONE HAVING CHANGES ===== -/
def gnB (m : Int → Int) (a b c x g : Int) : Int → Int := fu (fu (fu m a (m a - 1)) b (ins (fu m a (m a - 1) b) x)) c (fu (fu m a (m a - 1)) b (ins (fu m a (m a - 1) b) x) c + g)
def shK (m : Int → Int) (k : Int) : Int → Int := fun i => if 115 ≤ i ∧ i < 111 + k then m (i + 4) else m i
def addE (m : Int → Int) (p x g : Int) : Int → Int := fu (fu (fu (fu (fu m (115 + 4 * m 114) p) (115 + 4 * m 114 + 1) x) (115 + 4 * m 114 + 2) g) (115 + 4 * m 114 + 3) (m 72)) 114 (m 114 + 1)
def ntM (m : Int → Int) (p x g : Int) : Int → Int := if m 114 = 60 then addE (fu (shK m 240) 114 59) p x g else addE m p x g
/-- the reference's row, q: it is quiet -/
def gn1 (q : Int) (m : Int → Int) (p x g : Int) : Int → Int := if q = 0 then ntM (gnB m (8 * p + x) (48 + p) (54 + p) x g) p x g else gnB m (8 * p + x) (48 + p) (54 + p) x g
def gcA (c : Int → Int) (p x g : Int) : Int → Int := fu (fu (cpy c c 115 116 (min (c 2) 59)) 115 ((((c 0 * 1000 + g) * 8 + x) * 8) + p)) 2 (min (c 2) 59 + 1)
/-- the class's cells -/
def gc1 (c : Int → Int) (p x g : Int) : Int → Int := gcA (gnB c (27 + p * 8 + x) (3 + p * 4 + 3) (3 + p * 4 + 2) x g) p x g
theorem gnB_o {m : Int → Int} {a b c x g i : Int} (h1 : i ≠ a) (h2 : i ≠ b) (h3 : i ≠ c) : gnB m a b c x g i = m i := by unfold gnB; rw [fu_ne h3, fu_ne h2, fu_ne h1]
theorem addE_o {m : Int → Int} {p x g i : Int} (h : i < 114 ∨ 115 + 4 * m 114 + 3 < i ∨ (114 < i ∧ i < 115 + 4 * m 114)) (h0 : 0 ≤ m 114) : addE m p x g i = m i := by
  unfold addE; rw [fu_ne (by omega), fu_ne (by omega), fu_ne (by omega), fu_ne (by omega), fu_ne (by omega)]
theorem ntM_o {m : Int → Int} {p x g i : Int} (h0 : 0 ≤ m 114) (h : i < 114) : ntM m p x g i = m i := by
  unfold ntM; split
  · rw [addE_o (Or.inl h) (by rw [fu_hit]; decide), fu_ne (by omega)]
    unfold shK; rw [if_neg (by omega)]
  · exact addE_o (Or.inl h) h0
theorem gn1_o {q : Int} {m : Int → Int} {p x g i : Int} (h0 : 0 ≤ m 114) (hp : 0 ≤ p ∧ p < 6) (hx : 0 ≤ x ∧ x < 8) (h : i < 114) (h1 : i ≠ 8 * p + x) (h2 : i ≠ 48 + p) (h3 : i ≠ 54 + p) : gn1 q m p x g i = m i := by
  unfold gn1; split
  · rw [ntM_o (by rw [gnB_o (by omega) (by omega) (by omega)]; exact h0) h, gnB_o h1 h2 h3]
  · exact gnB_o h1 h2 h3
theorem RowS.ofgnB {c m : Int → Int} {a b d a' b' d' x g : Int} (h : RowS c m) (h1 : Cor a a') (h2 : Cor b b') (h3 : Cor d d') : RowS (gnB c a b d x g) (gnB m a' b' d' x g) := by
  have s1 := h.sub (v := 1) h1
  have e := Cor.eq s1 h2
  have s2 := s1.upd (v := ins (fu m a' (m a' - 1) b') x) h2
  unfold gnB
  rw [e]
  exact s2.add h3
theorem gcA_o {c : Int → Int} {p x g i : Int} (h : i < 115) (h2 : i ≠ 2) : gcA c p x g i = c i := by
  unfold gcA; rw [fu_ne h2, fu_ne (by omega)]; unfold cpy; rw [if_neg (by omega)]
theorem RowS.gn {c m : Int → Int} {p x g : Int} (q : Int) (h : RowS c m) (h8 : 0 ≤ m 73 ∧ m 73 ≤ 8) (h0 : 0 ≤ m 114) (hp : 0 ≤ p ∧ p < 6) (hx : 0 ≤ x ∧ x < 8) : RowS (gc1 c p x g) (gn1 q m p x g) := by
  have s := h.ofgnB (x := x) (g := g) (Cor.fst hp hx) (Cor.had hp) (Cor.joy hp)
  have s' : RowS (gc1 c p x g) (gnB m (8 * p + x) (48 + p) (54 + p) x g) := by
    obtain ⟨⟨a1, a2⟩, a3, a4, a5⟩ := s
    have e73 : gnB m (8 * p + x) (48 + p) (54 + p) x g 73 = m 73 := gnB_o (by omega) (by omega) (by omega)
    refine ⟨⟨?_, ?_⟩, fun p' p0 p1 => ?_, fun i i0 i1 => ?_, fun i i0 i1 => ?_⟩
    · unfold gc1; rw [gcA_o (by decide) (by decide)]; exact a1
    · unfold gc1; rw [gcA_o (by decide) (by decide)]; exact a2
    · unfold gc1; rw [gcA_o (by omega) (by omega), gcA_o (by omega) (by omega), gcA_o (by omega) (by omega), gcA_o (by omega) (by omega)]; exact a3 p' p0 p1
    · unfold gc1; rw [gcA_o (by omega) (by omega)]; exact a4 i i0 i1
    · rw [e73] at i1; unfold gc1; rw [gcA_o (by omega) (by omega)]; exact a5 i i0 (by rw [e73]; exact i1)
  unfold gn1; split
  · obtain ⟨⟨a1, a2⟩, a3, a4, a5⟩ := s'
    have e73 : gnB m (8 * p + x) (48 + p) (54 + p) x g 73 = m 73 := gnB_o (by omega) (by omega) (by omega)
    have e114 : gnB m (8 * p + x) (48 + p) (54 + p) x g 114 = m 114 := gnB_o (by omega) (by omega) (by omega)
    have o : ∀ i, i < 114 → ntM (gnB m (8 * p + x) (48 + p) (54 + p) x g) p x g i = gnB m (8 * p + x) (48 + p) (54 + p) x g i := fun i hi => ntM_o (by rw [e114]; exact h0) hi
    refine ⟨⟨by rw [o _ (by decide)]; exact a1, by rw [o _ (by decide)]; exact a2⟩, fun p' p0 p1 => ?_, fun i i0 i1 => ?_, fun i i0 i1 => ?_⟩
    · rw [o _ (by omega), o _ (by omega), o _ (by omega), o _ (by omega)]; exact a3 p' p0 p1
    · rw [o _ (by omega)]; exact a4 i i0 i1
    · rw [o _ (by decide)] at i1
      rw [o _ (by rw [e73] at i1; omega)]; exact a5 i i0 i1
  · exact s'
theorem LogR.gn {c m : Int → Int} {p x g : Int} (h : LogR c m) (hS : RowS c m) (hL : LogW m) (hp : 0 ≤ p ∧ p < 6) (hx : 0 ≤ x ∧ x < 8) (hg : 0 ≤ g ∧ g ≤ 999) (hd : 0 ≤ m 72 ∧ m 72 ≤ 999) : LogR (gc1 c p x g) (gn1 0 m p x g) ∧ LogW (gn1 0 m p x g) := by
  have hB : LogR (gnB c (27 + p * 8 + x) (3 + p * 4 + 3) (3 + p * 4 + 2) x g) (gnB m (8 * p + x) (48 + p) (54 + p) x g) := by
    unfold gnB
    exact ((h.upd ⟨by omega, by omega⟩ (by omega)).upd ⟨by omega, by omega⟩ (by omega)).upd ⟨by omega, by omega⟩ (by omega)
  have hW : LogW (gnB m (8 * p + x) (48 + p) (54 + p) x g) := by
    unfold gnB
    exact ((hL.upd (by omega)).upd (by omega)).upd (by omega)
  have c0 : gnB c (27 + p * 8 + x) (3 + p * 4 + 3) (3 + p * 4 + 2) x g 0 = gnB m (8 * p + x) (48 + p) (54 + p) x g 72 := by
    rw [gnB_o (by omega) (by omega) (by omega), gnB_o (by omega) (by omega) (by omega)]; exact hS.1.1
  have d0 : gnB m (8 * p + x) (48 + p) (54 + p) x g 72 = m 72 := gnB_o (by omega) (by omega) (by omega)
  unfold gn1 gc1
  rw [if_pos rfl]
  generalize gnB c (27 + p * 8 + x) (3 + p * 4 + 3) (3 + p * 4 + 2) x g = C at *
  generalize gnB m (8 * p + x) (48 + p) (54 + p) x g = M at *
  obtain ⟨b1, b2⟩ := hB
  obtain ⟨⟨w1, w2⟩, w3⟩ := hW
  -- M' : the log with a place free; k entries
  have core : ∀ (M' : Int → Int) (k : Int), M' 114 = k → 0 ≤ k → k ≤ 59 → M' 72 = M 72 → min (M 114) 59 = k → (∀ i j, 0 ≤ i → i < k → 0 ≤ j → j < 4 → M' (115 + 4 * (k - 1 - i) + j) = M (115 + 4 * (M 114 - 1 - i) + j)) → LogR (gcA C p x g) (addE M' p x g) ∧ LogW (addE M' p x g) := by
    intro M' k h1 h2 h3 h4 h5 h6
    have n1 : addE M' p x g 114 = k + 1 := by unfold addE; rw [fu_hit, h1]
    have e0 : addE M' p x g (115 + 4 * k) = p := by unfold addE; rw [h1, fu_ne (by omega), fu_ne (by omega), fu_ne (by omega), fu_ne (by omega), fu_hit]
    have e1 : addE M' p x g (115 + 4 * k + 1) = x := by unfold addE; rw [h1, fu_ne (by omega), fu_ne (by omega), fu_ne (by omega), fu_hit]
    have e2 : addE M' p x g (115 + 4 * k + 2) = g := by unfold addE; rw [h1, fu_ne (by omega), fu_ne (by omega), fu_hit]
    have e3 : addE M' p x g (115 + 4 * k + 3) = M 72 := by unfold addE; rw [h1, fu_ne (by omega), fu_hit, h4]
    have eo : ∀ i j, 0 ≤ i → i < k → 0 ≤ j → j < 4 → addE M' p x g (115 + 4 * (k - 1 - i) + j) = M (115 + 4 * (M 114 - 1 - i) + j) := fun i j i0 i1 j0 j1 => by
      rw [addE_o (Or.inr (Or.inr ⟨by omega, by omega⟩)) (by omega)]; exact h6 i j i0 i1 j0 j1
    refine ⟨⟨?_, fun i i0 i1 => ?_⟩, ⟨by rw [n1]; omega, fun i i0 i1 => ?_⟩⟩
    · rw [n1]; unfold gcA; rw [fu_hit, b1, h5]
    · rw [n1] at i1 ⊢
      by_cases q : i = 0
      · subst q
        rw [show 115 + 4 * (k + 1 - 1 - 0) = 115 + 4 * k by omega, e0, e1, e2, e3]
        unfold gcA
        rw [fu_ne (by decide), show (115 : Int) + 0 = 115 from rfl, fu_hit, c0]
      · have a := eo (i - 1) 0 (by omega) (by omega) (by decide) (by decide)
        have b := eo (i - 1) 1 (by omega) (by omega) (by decide) (by decide)
        have c' := eo (i - 1) 2 (by omega) (by omega) (by decide) (by decide)
        have d := eo (i - 1) 3 (by omega) (by omega) (by decide) (by decide)
        rw [show k - 1 - (i - 1) = k + 1 - 1 - i by omega] at a b c' d
        rw [Int.add_zero, Int.add_zero] at a
        rw [a, b, c', d]
        unfold gcA
        rw [fu_ne (by omega), fu_ne (by omega)]
        unfold cpy
        rw [b1, h5, if_pos ⟨by omega, by omega⟩, show 115 + (115 + i - 116) = 115 + (i - 1) by omega]
        exact b2 (i - 1) (by omega) (by omega)
    · rw [n1] at i1
      unfold LogV
      by_cases q : i = k
      · rw [q, e0, e1, e2, e3]
        exact ⟨hp, hx, hg, by rw [d0]; exact hd⟩
      · have a := eo (k - 1 - i) 0 (by omega) (by omega) (by decide) (by decide)
        have b := eo (k - 1 - i) 1 (by omega) (by omega) (by decide) (by decide)
        have c' := eo (k - 1 - i) 2 (by omega) (by omega) (by decide) (by decide)
        have d := eo (k - 1 - i) 3 (by omega) (by omega) (by decide) (by decide)
        rw [show k - 1 - (k - 1 - i) = i by omega] at a b c' d
        rw [Int.add_zero, Int.add_zero] at a
        rw [a, b, c', d]
        exact w3 (M 114 - 1 - (k - 1 - i)) (by omega) (by omega)
  unfold ntM
  by_cases q : M 114 = 60
  · rw [if_pos q]
    refine core _ 59 (fu_hit) (by decide) (by decide) ?_ (by rw [q]; decide) (fun i j i0 i1 j0 j1 => ?_)
    · rw [fu_ne (by decide)]; unfold shK; rw [if_neg (by decide)]
    · rw [fu_ne (by omega), q]
      unfold shK
      rw [if_pos ⟨by omega, by omega⟩]
      congr 1; omega
  · rw [if_neg q]
    exact core M (M 114) rfl w1 (by omega) rfl (by omega) (fun i j _ _ _ _ => rfl)
theorem RowW.cg {T P D B : Int} {m m' : Int → Int} (h : RowW T P D B m) (he : ∀ i, 0 ≤ i → i < 114 → m' i = m i) : RowW T P D B m' := by
  obtain ⟨a, b, c, d, e, f, g, k⟩ := h
  have s1 : sumI (fun i => m' (54 + i)) 6 = sumI (fun i => m (54 + i)) 6 := sumI_congr (fun i i0 i1 => he _ (by omega) (by omega))
  have s2 : sumI m' 48 = sumI m 48 := sumI_congr (fun i i0 i1 => he _ (by omega) (by omega))
  have s3 : sumI (fun i => m' (60 + i)) 6 = sumI (fun i => m (60 + i)) 6 := sumI_congr (fun i i0 i1 => he _ (by omega) (by omega))
  refine ⟨fun i i0 i1 => by rw [he i i0 (by omega)]; exact a i i0 i1, fun p p0 p1 => by rw [he _ (by omega) (by omega)]; exact b p p0 p1, by rw [s1, s2, he 73 (by decide) (by decide)]; exact c, by rw [s3]; exact d, fun p p0 p1 => by rw [he _ (by omega) (by omega)]; exact e p p0 p1, by rw [he 72 (by decide) (by decide)]; exact f, by rw [he 73 (by decide) (by decide)]; exact g, fun j j0 j1 => ?_⟩
  rw [he 73 (by decide) (by decide)] at j1
  have := k j j0 j1
  unfold PledV at this ⊢
  rw [he (74 + 5 * j) (by omega) (by omega), he (74 + 5 * j + 1) (by omega) (by omega), he (74 + 5 * j + 2) (by omega) (by omega), he (74 + 5 * j + 3) (by omega) (by omega), he (74 + 5 * j + 4) (by omega) (by omega), he 72 (by decide) (by decide)]
  exact this
theorem RowW.gn {T P D B : Int} {m : Int → Int} {p x g : Int} (q : Int) (h : RowW T P D B m) (hT : 0 ≤ T ∧ T ≤ 8) (h0 : 0 ≤ m 114) (hp : 0 ≤ p ∧ p < 6) (hx : 0 ≤ x ∧ x < T) (hg : 0 ≤ g ∧ g ≤ 999) (hc : 0 < m (8 * p + x)) : RowW T P D B (gn1 q m p x g) := by
  have r1 : RowW T P D (B - 999) (fu m (8 * p + x) (m (8 * p + x) - 1)) := h.set (by omega) (by omega) (fun z => by omega) (fun z => by omega) (fun z => by omega) (by rw [if_neg (by omega), if_pos (by omega)]; omega)
  have a1 := r1.1 (48 + p) (by omega) (by omega)
  have a2 := r1.2.1 p hp.1 hp.2
  have il := ins_lt (m := T.toNat) (s := fu m (8 * p + x) (m (8 * p + x) - 1) (48 + p)) (t := x) ⟨by omega, by omega⟩ ⟨by omega, by omega⟩ (by omega)
  have r2 := r1.set (i := 48 + p) (v := ins (fu m (8 * p + x) (m (8 * p + x) - 1) (48 + p)) x) (B' := B - 999) (by omega) il.1 (fun _ _ => il.2) (fun z => by omega) (fun z => by omega) (by rw [if_neg (by omega), if_neg (by omega)]; omega)
  have a3 := r2.1 (54 + p) (by omega) (by omega)
  have r3 := r2.set (i := 54 + p) (v := fu (fu m (8 * p + x) (m (8 * p + x) - 1)) (48 + p) (ins (fu m (8 * p + x) (m (8 * p + x) - 1) (48 + p)) x) (54 + p) + g) (B' := B) (by omega) (by omega) (fun z => by omega) (fun z => by omega) (fun z => by omega) (by rw [if_pos (by omega), if_neg (by omega)]; omega)
  have r4 : RowW T P D B (gnB m (8 * p + x) (48 + p) (54 + p) x g) := r3
  unfold gn1
  split
  · exact r4.cg (fun i i0 i1 => ntM_o (by rw [gnB_o (by omega) (by omega) (by omega)]; exact h0) i1)
  · exact r4
theorem RG.ofshK {m : Int → Int} (h : RG m) (k : Int) : RG (shK m k) := fun i => by
  unfold shK; split
  · exact h _
  · exact h _
theorem RG.ofgnB {m : Int → Int} {a b c x g : Int} (h : RG m) (h1 : rg (m a - 1)) (h2 : rg (ins (fu m a (m a - 1) b) x)) (h3 : rg (fu (fu m a (m a - 1)) b (ins (fu m a (m a - 1) b) x) c + g)) : RG (gnB m a b c x g) := ((h.offu h1).offu h2).offu h3

theorem RG.gc {m : Int → Int} {p x g : Int} (h : RG m) (h1 : rg (m (27 + p * 8 + x) - 1)) (h2 : rg (ins (fu m (27 + p * 8 + x) (m (27 + p * 8 + x) - 1) (3 + p * 4 + 3)) x)) (h3 : rg (fu (fu m (27 + p * 8 + x) (m (27 + p * 8 + x) - 1)) (3 + p * 4 + 3) (ins (fu m (27 + p * 8 + x) (m (27 + p * 8 + x) - 1) (3 + p * 4 + 3)) x) (3 + p * 4 + 2) + g)) (h4 : rg ((((m 0 * 1000 + g) * 8 + x) * 8) + p)) (h5 : 0 ≤ m 2) (hp : 0 ≤ p ∧ p < 6) (hx : 0 ≤ x ∧ x < 8) : RG (gc1 m p x g) := by
  have b := h.ofgnB (g := g) h1 h2 h3
  have e0 : gnB m (27 + p * 8 + x) (3 + p * 4 + 3) (3 + p * 4 + 2) x g 0 = m 0 := gnB_o (by omega) (by omega) (by omega)
  have e2 : gnB m (27 + p * 8 + x) (3 + p * 4 + 3) (3 + p * 4 + 2) x g 2 = m 2 := gnB_o (by omega) (by omega) (by omega)
  unfold gc1 gcA
  rw [e0, e2]
  exact ((b.ofcpy b).offu h4).offu ⟨by omega, by omega⟩
theorem RG.nt {m : Int → Int} {p x g : Int} (h : RG m) (hp : rg p) (hx : rg x) (hg : rg g) (hn : 0 ≤ m 114 ∧ m 114 ≤ 60) : RG (ntM m p x g) := by
  have ad : ∀ f : Int → Int, RG f → (0 ≤ f 114 ∧ f 114 ≤ 60) → RG (addE f p x g) := fun f hf hn => (((((hf.offu hp).offu hx).offu hg).offu (hf 72)).offu ⟨by omega, by omega⟩)
  unfold ntM
  split
  · exact ad _ ((h.ofshK 240).offu (by decide)) (by rw [fu_hit]; decide)
  · exact ad m h hn
theorem RG.gn {m : Int → Int} {p x g : Int} (q : Int) (h : RG m) (hp : 0 ≤ p ∧ p < 6) (hx : 0 ≤ x ∧ x < 8) (hg : 0 ≤ g ∧ g ≤ 999) (hn : 0 ≤ m 114 ∧ m 114 ≤ 60) (h1 : rg (m (8 * p + x) - 1)) (h2 : rg (ins (fu m (8 * p + x) (m (8 * p + x) - 1) (48 + p)) x)) (h3 : rg (fu (fu m (8 * p + x) (m (8 * p + x) - 1)) (48 + p) (ins (fu m (8 * p + x) (m (8 * p + x) - 1) (48 + p)) x) (54 + p) + g)) : RG (gn1 q m p x g) := by
  have b := h.ofgnB (g := g) h1 h2 h3
  unfold gn1; split
  · exact b.nt ⟨by omega, by omega⟩ ⟨by omega, by omega⟩ ⟨by omega, by omega⟩ (by rw [gnB_o (by omega) (by omega) (by omega)]; exact hn)
  · exact b
/-- the class gains -/
theorem gain37 {σ : Mem} (d : Nat) {p x g : Int} (hp : 0 ≤ p ∧ p < 6) (hx : 0 ≤ x ∧ x < 8) (h2 : 0 ≤ σ 38 2 ∧ σ 38 2 ≤ 60) {Q : RV → Mem → Prop} (h : ∀ τ, Sm σ τ [38] [] → τ 38 = gc1 (σ 38) p x g → Q rV τ) : Cl (d + 2) mSt_gain [aR 37, aI p, aI x, aI g] σ Q := by
  refine bSt_gain_r37_in ⟨(by omega), (by omega), fun μ4 e4 => ⟨(by omega), (by omega), fun μ8 e8 => ⟨(by omega), (by omega), fun μ12 e12 => ?_⟩⟩⟩
  have r12 : μ12 38 = gnB (σ 38) (27 + p * 8 + x) (3 + p * 4 + 3) (3 + p * 4 + 2) x g := by
    rw [e12, ups_row, e8, ups_row, e4, ups_row]; rfl
  have s12 : Sm σ μ12 [38] [] := by rw [e12, e8, e4]; exact ((Sm.refl.ups rfl (Or.inl (by decide))).ups rfl (Or.inl (by decide))).ups rfl (Or.inl (by decide))
  have v2 : μ12 38 2 = σ 38 2 := by rw [r12, gnB_o (by omega) (by omega) (by omega)]
  refine ⟨by rw [v2]; exact ⟨by omega, by omega⟩, (by omega), (by omega), (by omega), fun μ19 e19 μ23 e23 μ24 e24 => h μ24 ?_ ?_⟩
  · rw [e24, e23, e19]; exact ((s12.su rfl (by decide)).ups rfl (Or.inl (by decide))).ups rfl (Or.inl (by decide))
  · rw [e24, ups_row, e23, ups_row, e19, su_eq]
    have z : cpy (μ12 38) (μ12 38) 115 116 (min (μ12 38 2) 59) 0 = μ12 38 0 := by unfold cpy; rw [if_neg (by omega)]
    rw [z, r12]; rfl
theorem gain39 {σ : Mem} (d : Nat) {p x g : Int} (hp : 0 ≤ p ∧ p < 6) (hx : 0 ≤ x ∧ x < 8) (h2 : 0 ≤ σ 40 2 ∧ σ 40 2 ≤ 60) {Q : RV → Mem → Prop} (h : ∀ τ, Sm σ τ [40] [] → τ 40 = gc1 (σ 40) p x g → Q rV τ) : Cl (d + 2) mSt_gain [aR 39, aI p, aI x, aI g] σ Q := by
  refine bSt_gain_r39_in ⟨(by omega), (by omega), fun μ4 e4 => ⟨(by omega), (by omega), fun μ8 e8 => ⟨(by omega), (by omega), fun μ12 e12 => ?_⟩⟩⟩
  have r12 : μ12 40 = gnB (σ 40) (27 + p * 8 + x) (3 + p * 4 + 3) (3 + p * 4 + 2) x g := by
    rw [e12, ups_row, e8, ups_row, e4, ups_row]; rfl
  have s12 : Sm σ μ12 [40] [] := by rw [e12, e8, e4]; exact ((Sm.refl.ups rfl (Or.inl (by decide))).ups rfl (Or.inl (by decide))).ups rfl (Or.inl (by decide))
  have v2 : μ12 40 2 = σ 40 2 := by rw [r12, gnB_o (by omega) (by omega) (by omega)]
  refine ⟨by rw [v2]; exact ⟨by omega, by omega⟩, (by omega), (by omega), (by omega), fun μ19 e19 μ23 e23 μ24 e24 => h μ24 ?_ ?_⟩
  · rw [e24, e23, e19]; exact ((s12.su rfl (by decide)).ups rfl (Or.inl (by decide))).ups rfl (Or.inl (by decide))
  · rw [e24, ups_row, e23, ups_row, e19, su_eq]
    have z : cpy (μ12 40) (μ12 40) 115 116 (min (μ12 40 2) 59) 0 = μ12 40 0 := by unfold cpy; rw [if_neg (by omega)]
    rw [z, r12]; rfl
/-- the reference notes -/
theorem noteR {σ : Mem} (d : Nat) {p x g : Int} (hn : 0 ≤ σ 81 114 ∧ σ 81 114 ≤ 60) (hq : rg (σ 64 43)) {Q : RV → Mem → Prop} (h : ∀ τ, Sm σ τ [81] [] → τ 81 = (if σ 64 43 = 0 then ntM (σ 81) p x g else σ 81) → Q rV τ) : Cl (d + 1) mR_note [aR 64, aI p, aI x, aI g] σ Q := by
  have put : ∀ (τ : Mem) (u4 : Option AV), Sm σ τ [81] [] → σ 64 43 = 0 → (0 ≤ τ 81 114 ∧ τ 81 114 < 60) → ntM (σ 81) p x g = addE (τ 81) p x g → Ev (d + 1) mR_note 70 [vR 64, vI p, vI x, vI g, u4] [] τ Q := by
    intro τ u4 sm q0 hn' he
    refine bR_note_70 ⟨(by omega), (by omega), fun μ1 e1 => ⟨(by omega), (by omega), fun μ2 e2 => ⟨(by omega), (by omega), fun μ3 e3 => ⟨(by omega), (by omega), fun μ4 e4 μ5 e5 => h μ5 ?_ ?_⟩⟩⟩⟩
    · rw [e5, e4, e3, e2, e1]; exact ((((sm.ups rfl (Or.inl (by decide))).ups rfl (Or.inl (by decide))).ups rfl (Or.inl (by decide))).ups rfl (Or.inl (by decide))).ups rfl (Or.inl (by decide))
    · have a : μ3 81 72 = τ 81 72 := by rw [e3, ups_fn (by omega), e2, ups_fn (by omega), e1, ups_fn (by omega)]
      have b : μ4 81 114 = τ 81 114 := by rw [e4, ups_fn (by omega), e3, ups_fn (by omega), e2, ups_fn (by omega), e1, ups_fn (by omega)]
      rw [if_pos q0, he, e5, b, ups_row, e4, a, ups_row, e3, ups_row, e2, ups_row, e1, ups_row]; rfl
  refine bR_note_in ⟨hq, fun q0 => ⟨⟨by omega, by omega⟩, fun w => put σ _ Sm.refl q0 ⟨by omega, by omega⟩ (by unfold ntM; rw [if_neg w]), fun w => ?_⟩, fun q0 => h σ Sm.refl (if_neg q0).symm⟩
  refine loop_up (G := fun k => ∀ τ, Sm σ τ [81] [] → τ 81 = shK (σ 81) k → Ev (d + 1) mR_note 23 [vR 64, vI p, vI x, vI g, vI k] [] τ Q) (hi := 240) _ 4 rfl (by decide) (fun k k0 k1 go => ?_) ?_ σ Sm.refl ?_
  · intro τ sm he
    refine bR_note_23 ⟨⟨by omega, by omega⟩, fun q => absurd q (by omega), fun _ => ⟨(by omega), (by omega), (by omega), (by omega), fun μ1 e1 => go μ1 (by rw [e1]; exact sm.ups rfl (Or.inl (by decide))) ?_⟩⟩
    rw [e1, ups_row, he]
    funext i
    unfold fu shK
    by_cases c : i = 115 + k - 4
    · rw [if_pos c, if_neg (by omega), if_pos (by omega)]; congr 1; omega
    · rw [if_neg c]
      by_cases e : 115 ≤ i ∧ i < 111 + k
      · rw [if_pos e, if_pos (by omega)]
      · rw [if_neg e, if_neg (by omega)]
  · intro τ sm he
    have v : τ 81 114 = 60 := by rw [he]; unfold shK; rw [if_neg (by decide)]; exact w
    refine bR_note_23 ⟨by decide, fun _ => ?_, fun q => absurd q (by decide)⟩
    refine put _ _ (sm.ups rfl (Or.inl (by decide))) q0 (by rw [ups_hit, v]; decide) ?_
    unfold ntM
    rw [if_pos w, ups_row, he, show shK (σ 81) 240 114 = 60 from by rw [← he]; exact v]
    rfl
  · funext i
    unfold shK
    rw [if_neg (by omega)]
