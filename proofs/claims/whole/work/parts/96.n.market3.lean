/-! ===== THE MARKET READ, BY THE REFERENCE: CLAUSES, THE WHOLE ===== -/
def McR (ω : Mem) (M : MS) : Prop := (ω 64 21 = M.1 0 ∧ ω 64 22 = M.1 1 ∧ ω 64 23 = M.1 2 ∧ ω 64 24 = M.1 3) ∧ (∀ j i, 0 ≤ j → j < M.1 0 → 0 ≤ i → i < 2 → ω 75 (2 * j + i) = M.2 0 j i) ∧ (∀ j i, 0 ≤ j → j < M.1 1 → 0 ≤ i → i < 3 → ω 76 (3 * j + i) = M.2 1 j i) ∧ (∀ j i, 0 ≤ j → j < M.1 2 → 0 ≤ i → i < 3 → ω 77 (3 * j + i) = M.2 2 j i) ∧ (∀ j i, 0 ≤ j → j < M.1 3 → 0 ≤ i → i < 2 → ω 78 (2 * j + i) = M.2 3 j i)
abbrev mkS : List Nat := [64, 75, 76, 77, 78]
abbrev mkJ : List Int := [3, 4, 21, 22, 23, 24]
theorem FR_up {τ : Mem} {B : Int → Int} {N w j v : Int} (h : FR τ B N w) (h4 : j ≠ 4) (h2 : j ≠ 2) (h3 : j ≠ 3) : FR (ups τ 64 j v) B N w := by
  rcases h with e | ⟨e, t, r⟩
  · exact Or.inl (by rw [ups_fn (fun z => h4 z.symm)]; exact e)
  · refine Or.inr ⟨by rw [ups_fn (fun z => h4 z.symm)]; exact e, ⟨by rw [ups_fn (fun z => h2 z.symm)]; exact t.1, by rw [ups_fn (fun z => h3 z.symm)]; exact t.2.1, fun i i0 i1 => by rw [ups_ne (by decide)]; exact t.2.2 i i0 i1⟩, r⟩
theorem mcR_sm {υ τ : Mem} {M : MS} {S : List Nat} {J : List Int} (h : McR υ M) (s : Sm υ τ S J) (h1 : S.contains 75 = false ∧ S.contains 76 = false ∧ S.contains 77 = false ∧ S.contains 78 = false) (h2 : J.contains 21 = false ∧ J.contains 22 = false ∧ J.contains 23 = false ∧ J.contains 24 = false) : McR τ M := by
  unfold McR
  rw [s.1 75 h1.1, s.1 76 h1.2.1, s.1 77 h1.2.2.1, s.1 78 h1.2.2.2, s.2 21 h2.1, s.2 22 h2.2.1, s.2 23 h2.2.2.1, s.2 24 h2.2.2.2]
  exact h
theorem mCl_go {B : Int → Int} {N : Int} {M : MS} {a k : Int} (e : kOf (hr B N (sk B N a)) = k) (hk : 0 ≤ k) (hc : M.1 k < cst 3 k) : mCl B N M a = match mIt B N k 4 (sk B N a + 1) 0 (usM k) with
  | .inl w => .inl w
  | .inr r => .inr (r.1, mAdd M k r.2) := by
  unfold mCl
  rw [e, if_neg (fun q => by rcases q with q | q <;> omega)]
  all_goals (cases mIt B N k 4 (sk B N a + 1) 0 (usM k) <;> rfl)
theorem mCl_no {B : Int → Int} {N : Int} {M : MS} {a k : Int} (e : kOf (hr B N (sk B N a)) = k) (h : k = -1 ∨ cst 3 k ≤ M.1 k) : mCl B N M a = .inl (sk B N a) := by
  unfold mCl
  rw [e, if_pos h]
theorem add0 {B : Int → Int} {N : Int} (hB : BTp B N) (d : Nat) {a : Int} {M : MS} {τ : Mem} (hM : MV M) (ha : 0 ≤ a ∧ a ≤ N) (e : kOf (hr B N (sk B N a)) = 0) (hc : M.1 0 < 8) (ht : TqR τ B N (sk B N a)) (h4 : τ 64 4 = -1) (hm : McR τ M) (lt : sk B N a < N) {Q : RV → Mem → Prop} (h0 : ∀ w, mCl B N M a = .inl w → ∀ τ', Sm τ τ' mkS mkJ → FR τ' B N w → Q rV τ') (h1 : ∀ a' M', mCl B N M a = .inr (a', M') → ∀ τ', Sm τ τ' mkS mkJ → TqR τ' B N a' → τ' 64 4 = -1 → McR τ' M' → Q rV τ') : Cl (d + 4) mR_items [aR 64, aI 120, aR 75, aI (2 * M.1 0), aI 2] (ups τ 64 3 (sk B N a + 1)) (fun r τ5 => oV r (Q rV (ups τ5 64 21 (τ5 64 21 + 1)))) := by
  have hN := hB.1
  have r := (sk_r (B := B) (N := N) (a := a))
  have bk := (hM 0 (by decide) (by decide)).1
  have un := mCl_go (M := M) e (by decide) (show M.1 0 < cst 3 0 from hc)
  have t2 := ht.to (sk B N a + 1)
  have s2 : Sm τ (ups τ 64 3 (sk B N a + 1)) mkS mkJ := Sm.refl.ups rfl (Or.inr rfl)
  have f4 : (ups τ 64 3 (sk B N a + 1)) 64 4 = -1 := by rw [ups_fn (by decide)]; exact h4
  have m2 : McR (ups τ 64 3 (sk B N a + 1)) M := mcR_sm (S := [64]) (J := [3]) hm (Sm.refl.ups rfl (Or.inr rfl)) (by decide) (by decide)
  generalize (ups τ 64 3 (sk B N a + 1)) = τ2 at *
  refine itemsR75 hB d (C := M.1 0) ⟨bk.1, hc⟩ (a := sk B N a + 1) ⟨by omega, by omega⟩ t2 f4 (fun w ei τ5 s5 fr => ?_) (fun a' f ei τ5 s5 t5 lo hi => ?_)
  · rw [ei] at un
    exact h0 w un _ (((s2.trans (s5.mono (by decide) (by decide)))).ups rfl (Or.inr rfl)) (FR_up fr (by decide) (by decide) (by decide))
  · rw [ei] at un
    refine h1 a' _ un _ (((s2.trans (s5.mono (by decide) (by decide)))).ups rfl (Or.inr rfl)) (t5.sm (S := [64]) (J := [21]) (Sm.refl.ups rfl (Or.inr rfl)) rfl rfl rfl) (by rw [ups_fn (by decide), s5.2 4 rfl]; exact f4) ?_
    obtain ⟨⟨c0, c1, c2, c3⟩, r0, r1, r2, r3⟩ := m2
    refine ⟨⟨by rw [ups_hit, s5.2 21 rfl, c0]; show _ = fu M.1 0 (M.1 0 + 1) 0; rw [fu_hit], by rw [ups_fn (by decide), s5.2 22 rfl, c1]; show _ = fu M.1 0 (M.1 0 + 1) 1; rw [fu_ne (by decide)], by rw [ups_fn (by decide), s5.2 23 rfl, c2]; show _ = fu M.1 0 (M.1 0 + 1) 2; rw [fu_ne (by decide)], by rw [ups_fn (by decide), s5.2 24 rfl, c3]; show _ = fu M.1 0 (M.1 0 + 1) 3; rw [fu_ne (by decide)]⟩, ?_, fun j i j0 j1 i0 i1 => by
      change j < fu M.1 0 (M.1 0 + 1) 1 at j1
      rw [fu_ne (by decide)] at j1
      rw [ups_ne (by decide), s5.1 76 rfl, r1 j i j0 j1 i0 i1]
      show _ = (if (1 : Int) = 0 ∧ j = M.1 0 then f else M.2 1 j) i
      rw [if_neg (fun q => absurd q.1 (by decide))], fun j i j0 j1 i0 i1 => by
      change j < fu M.1 0 (M.1 0 + 1) 2 at j1
      rw [fu_ne (by decide)] at j1
      rw [ups_ne (by decide), s5.1 77 rfl, r2 j i j0 j1 i0 i1]
      show _ = (if (2 : Int) = 0 ∧ j = M.1 0 then f else M.2 2 j) i
      rw [if_neg (fun q => absurd q.1 (by decide))], fun j i j0 j1 i0 i1 => by
      change j < fu M.1 0 (M.1 0 + 1) 3 at j1
      rw [fu_ne (by decide)] at j1
      rw [ups_ne (by decide), s5.1 78 rfl, r3 j i j0 j1 i0 i1]
      show _ = (if (3 : Int) = 0 ∧ j = M.1 0 then f else M.2 3 j) i
      rw [if_neg (fun q => absurd q.1 (by decide))]⟩
    intro j i j0 j1 i0 i1
    change j < fu M.1 0 (M.1 0 + 1) 0 at j1
    rw [fu_hit] at j1
    rw [ups_ne (by decide)]
    show _ = (if (0 : Int) = 0 ∧ j = M.1 0 then f else M.2 0 j) i
    by_cases c : j = M.1 0
    · rw [if_pos ⟨rfl, c⟩, c]; exact lo i i0 i1
    · rw [if_neg (fun q => c q.2), hi _ (by omega)]; exact r0 j i j0 (by omega) i0 i1
theorem add1 {B : Int → Int} {N : Int} (hB : BTp B N) (d : Nat) {a : Int} {M : MS} {τ : Mem} (hM : MV M) (ha : 0 ≤ a ∧ a ≤ N) (e : kOf (hr B N (sk B N a)) = 1) (hc : M.1 1 < 6) (ht : TqR τ B N (sk B N a)) (h4 : τ 64 4 = -1) (hm : McR τ M) (lt : sk B N a < N) {Q : RV → Mem → Prop} (h0 : ∀ w, mCl B N M a = .inl w → ∀ τ', Sm τ τ' mkS mkJ → FR τ' B N w → Q rV τ') (h1 : ∀ a' M', mCl B N M a = .inr (a', M') → ∀ τ', Sm τ τ' mkS mkJ → TqR τ' B N a' → τ' 64 4 = -1 → McR τ' M' → Q rV τ') : Cl (d + 4) mR_items [aR 64, aI 112, aR 76, aI (3 * M.1 1), aI 3] (ups τ 64 3 (sk B N a + 1)) (fun r τ5 => oV r (Q rV (ups τ5 64 22 (τ5 64 22 + 1)))) := by
  have hN := hB.1
  have r := (sk_r (B := B) (N := N) (a := a))
  have bk := (hM 1 (by decide) (by decide)).1
  have un := mCl_go (M := M) e (by decide) (show M.1 1 < cst 3 1 from hc)
  have t2 := ht.to (sk B N a + 1)
  have s2 : Sm τ (ups τ 64 3 (sk B N a + 1)) mkS mkJ := Sm.refl.ups rfl (Or.inr rfl)
  have f4 : (ups τ 64 3 (sk B N a + 1)) 64 4 = -1 := by rw [ups_fn (by decide)]; exact h4
  have m2 : McR (ups τ 64 3 (sk B N a + 1)) M := mcR_sm (S := [64]) (J := [3]) hm (Sm.refl.ups rfl (Or.inr rfl)) (by decide) (by decide)
  generalize (ups τ 64 3 (sk B N a + 1)) = τ2 at *
  refine itemsR76 hB d (C := M.1 1) ⟨bk.1, hc⟩ (a := sk B N a + 1) ⟨by omega, by omega⟩ t2 f4 (fun w ei τ5 s5 fr => ?_) (fun a' f ei τ5 s5 t5 lo hi => ?_)
  · rw [ei] at un
    exact h0 w un _ (((s2.trans (s5.mono (by decide) (by decide)))).ups rfl (Or.inr rfl)) (FR_up fr (by decide) (by decide) (by decide))
  · rw [ei] at un
    refine h1 a' _ un _ (((s2.trans (s5.mono (by decide) (by decide)))).ups rfl (Or.inr rfl)) (t5.sm (S := [64]) (J := [22]) (Sm.refl.ups rfl (Or.inr rfl)) rfl rfl rfl) (by rw [ups_fn (by decide), s5.2 4 rfl]; exact f4) ?_
    obtain ⟨⟨c0, c1, c2, c3⟩, r0, r1, r2, r3⟩ := m2
    refine ⟨⟨by rw [ups_fn (by decide), s5.2 21 rfl, c0]; show _ = fu M.1 1 (M.1 1 + 1) 0; rw [fu_ne (by decide)], by rw [ups_hit, s5.2 22 rfl, c1]; show _ = fu M.1 1 (M.1 1 + 1) 1; rw [fu_hit], by rw [ups_fn (by decide), s5.2 23 rfl, c2]; show _ = fu M.1 1 (M.1 1 + 1) 2; rw [fu_ne (by decide)], by rw [ups_fn (by decide), s5.2 24 rfl, c3]; show _ = fu M.1 1 (M.1 1 + 1) 3; rw [fu_ne (by decide)]⟩, fun j i j0 j1 i0 i1 => by
      change j < fu M.1 1 (M.1 1 + 1) 0 at j1
      rw [fu_ne (by decide)] at j1
      rw [ups_ne (by decide), s5.1 75 rfl, r0 j i j0 j1 i0 i1]
      show _ = (if (0 : Int) = 1 ∧ j = M.1 1 then f else M.2 0 j) i
      rw [if_neg (fun q => absurd q.1 (by decide))], ?_, fun j i j0 j1 i0 i1 => by
      change j < fu M.1 1 (M.1 1 + 1) 2 at j1
      rw [fu_ne (by decide)] at j1
      rw [ups_ne (by decide), s5.1 77 rfl, r2 j i j0 j1 i0 i1]
      show _ = (if (2 : Int) = 1 ∧ j = M.1 1 then f else M.2 2 j) i
      rw [if_neg (fun q => absurd q.1 (by decide))], fun j i j0 j1 i0 i1 => by
      change j < fu M.1 1 (M.1 1 + 1) 3 at j1
      rw [fu_ne (by decide)] at j1
      rw [ups_ne (by decide), s5.1 78 rfl, r3 j i j0 j1 i0 i1]
      show _ = (if (3 : Int) = 1 ∧ j = M.1 1 then f else M.2 3 j) i
      rw [if_neg (fun q => absurd q.1 (by decide))]⟩
    intro j i j0 j1 i0 i1
    change j < fu M.1 1 (M.1 1 + 1) 1 at j1
    rw [fu_hit] at j1
    rw [ups_ne (by decide)]
    show _ = (if (1 : Int) = 1 ∧ j = M.1 1 then f else M.2 1 j) i
    by_cases c : j = M.1 1
    · rw [if_pos ⟨rfl, c⟩, c]; exact lo i i0 i1
    · rw [if_neg (fun q => c q.2), hi _ (by omega)]; exact r1 j i j0 (by omega) i0 i1
theorem add2 {B : Int → Int} {N : Int} (hB : BTp B N) (d : Nat) {a : Int} {M : MS} {τ : Mem} (hM : MV M) (ha : 0 ≤ a ∧ a ≤ N) (e : kOf (hr B N (sk B N a)) = 2) (hc : M.1 2 < 10) (ht : TqR τ B N (sk B N a)) (h4 : τ 64 4 = -1) (hm : McR τ M) (lt : sk B N a < N) {Q : RV → Mem → Prop} (h0 : ∀ w, mCl B N M a = .inl w → ∀ τ', Sm τ τ' mkS mkJ → FR τ' B N w → Q rV τ') (h1 : ∀ a' M', mCl B N M a = .inr (a', M') → ∀ τ', Sm τ τ' mkS mkJ → TqR τ' B N a' → τ' 64 4 = -1 → McR τ' M' → Q rV τ') : Cl (d + 4) mR_items [aR 64, aI 115, aR 77, aI (3 * M.1 2), aI 3] (ups τ 64 3 (sk B N a + 1)) (fun r τ5 => oV r (Q rV (ups τ5 64 23 (τ5 64 23 + 1)))) := by
  have hN := hB.1
  have r := (sk_r (B := B) (N := N) (a := a))
  have bk := (hM 2 (by decide) (by decide)).1
  have un := mCl_go (M := M) e (by decide) (show M.1 2 < cst 3 2 from hc)
  have t2 := ht.to (sk B N a + 1)
  have s2 : Sm τ (ups τ 64 3 (sk B N a + 1)) mkS mkJ := Sm.refl.ups rfl (Or.inr rfl)
  have f4 : (ups τ 64 3 (sk B N a + 1)) 64 4 = -1 := by rw [ups_fn (by decide)]; exact h4
  have m2 : McR (ups τ 64 3 (sk B N a + 1)) M := mcR_sm (S := [64]) (J := [3]) hm (Sm.refl.ups rfl (Or.inr rfl)) (by decide) (by decide)
  generalize (ups τ 64 3 (sk B N a + 1)) = τ2 at *
  refine itemsR77 hB d (C := M.1 2) ⟨bk.1, hc⟩ (a := sk B N a + 1) ⟨by omega, by omega⟩ t2 f4 (fun w ei τ5 s5 fr => ?_) (fun a' f ei τ5 s5 t5 lo hi => ?_)
  · rw [ei] at un
    exact h0 w un _ (((s2.trans (s5.mono (by decide) (by decide)))).ups rfl (Or.inr rfl)) (FR_up fr (by decide) (by decide) (by decide))
  · rw [ei] at un
    refine h1 a' _ un _ (((s2.trans (s5.mono (by decide) (by decide)))).ups rfl (Or.inr rfl)) (t5.sm (S := [64]) (J := [23]) (Sm.refl.ups rfl (Or.inr rfl)) rfl rfl rfl) (by rw [ups_fn (by decide), s5.2 4 rfl]; exact f4) ?_
    obtain ⟨⟨c0, c1, c2, c3⟩, r0, r1, r2, r3⟩ := m2
    refine ⟨⟨by rw [ups_fn (by decide), s5.2 21 rfl, c0]; show _ = fu M.1 2 (M.1 2 + 1) 0; rw [fu_ne (by decide)], by rw [ups_fn (by decide), s5.2 22 rfl, c1]; show _ = fu M.1 2 (M.1 2 + 1) 1; rw [fu_ne (by decide)], by rw [ups_hit, s5.2 23 rfl, c2]; show _ = fu M.1 2 (M.1 2 + 1) 2; rw [fu_hit], by rw [ups_fn (by decide), s5.2 24 rfl, c3]; show _ = fu M.1 2 (M.1 2 + 1) 3; rw [fu_ne (by decide)]⟩, fun j i j0 j1 i0 i1 => by
      change j < fu M.1 2 (M.1 2 + 1) 0 at j1
      rw [fu_ne (by decide)] at j1
      rw [ups_ne (by decide), s5.1 75 rfl, r0 j i j0 j1 i0 i1]
      show _ = (if (0 : Int) = 2 ∧ j = M.1 2 then f else M.2 0 j) i
      rw [if_neg (fun q => absurd q.1 (by decide))], fun j i j0 j1 i0 i1 => by
      change j < fu M.1 2 (M.1 2 + 1) 1 at j1
      rw [fu_ne (by decide)] at j1
      rw [ups_ne (by decide), s5.1 76 rfl, r1 j i j0 j1 i0 i1]
      show _ = (if (1 : Int) = 2 ∧ j = M.1 2 then f else M.2 1 j) i
      rw [if_neg (fun q => absurd q.1 (by decide))], ?_, fun j i j0 j1 i0 i1 => by
      change j < fu M.1 2 (M.1 2 + 1) 3 at j1
      rw [fu_ne (by decide)] at j1
      rw [ups_ne (by decide), s5.1 78 rfl, r3 j i j0 j1 i0 i1]
      show _ = (if (3 : Int) = 2 ∧ j = M.1 2 then f else M.2 3 j) i
      rw [if_neg (fun q => absurd q.1 (by decide))]⟩
    intro j i j0 j1 i0 i1
    change j < fu M.1 2 (M.1 2 + 1) 2 at j1
    rw [fu_hit] at j1
    rw [ups_ne (by decide)]
    show _ = (if (2 : Int) = 2 ∧ j = M.1 2 then f else M.2 2 j) i
    by_cases c : j = M.1 2
    · rw [if_pos ⟨rfl, c⟩, c]; exact lo i i0 i1
    · rw [if_neg (fun q => c q.2), hi _ (by omega)]; exact r2 j i j0 (by omega) i0 i1
theorem add3 {B : Int → Int} {N : Int} (hB : BTp B N) (d : Nat) {a : Int} {M : MS} {τ : Mem} (hM : MV M) (ha : 0 ≤ a ∧ a ≤ N) (e : kOf (hr B N (sk B N a)) = 3) (hc : M.1 3 < 6) (ht : TqR τ B N (sk B N a)) (h4 : τ 64 4 = -1) (hm : McR τ M) (lt : sk B N a < N) {Q : RV → Mem → Prop} (h0 : ∀ w, mCl B N M a = .inl w → ∀ τ', Sm τ τ' mkS mkJ → FR τ' B N w → Q rV τ') (h1 : ∀ a' M', mCl B N M a = .inr (a', M') → ∀ τ', Sm τ τ' mkS mkJ → TqR τ' B N a' → τ' 64 4 = -1 → McR τ' M' → Q rV τ') : Cl (d + 4) mR_items [aR 64, aI 99, aR 78, aI (2 * M.1 3), aI 2] (ups τ 64 3 (sk B N a + 1)) (fun r τ5 => oV r (Q rV (ups τ5 64 24 (τ5 64 24 + 1)))) := by
  have hN := hB.1
  have r := (sk_r (B := B) (N := N) (a := a))
  have bk := (hM 3 (by decide) (by decide)).1
  have un := mCl_go (M := M) e (by decide) (show M.1 3 < cst 3 3 from hc)
  have t2 := ht.to (sk B N a + 1)
  have s2 : Sm τ (ups τ 64 3 (sk B N a + 1)) mkS mkJ := Sm.refl.ups rfl (Or.inr rfl)
  have f4 : (ups τ 64 3 (sk B N a + 1)) 64 4 = -1 := by rw [ups_fn (by decide)]; exact h4
  have m2 : McR (ups τ 64 3 (sk B N a + 1)) M := mcR_sm (S := [64]) (J := [3]) hm (Sm.refl.ups rfl (Or.inr rfl)) (by decide) (by decide)
  generalize (ups τ 64 3 (sk B N a + 1)) = τ2 at *
  refine itemsR78 hB d (C := M.1 3) ⟨bk.1, hc⟩ (a := sk B N a + 1) ⟨by omega, by omega⟩ t2 f4 (fun w ei τ5 s5 fr => ?_) (fun a' f ei τ5 s5 t5 lo hi => ?_)
  · rw [ei] at un
    exact h0 w un _ (((s2.trans (s5.mono (by decide) (by decide)))).ups rfl (Or.inr rfl)) (FR_up fr (by decide) (by decide) (by decide))
  · rw [ei] at un
    refine h1 a' _ un _ (((s2.trans (s5.mono (by decide) (by decide)))).ups rfl (Or.inr rfl)) (t5.sm (S := [64]) (J := [24]) (Sm.refl.ups rfl (Or.inr rfl)) rfl rfl rfl) (by rw [ups_fn (by decide), s5.2 4 rfl]; exact f4) ?_
    obtain ⟨⟨c0, c1, c2, c3⟩, r0, r1, r2, r3⟩ := m2
    refine ⟨⟨by rw [ups_fn (by decide), s5.2 21 rfl, c0]; show _ = fu M.1 3 (M.1 3 + 1) 0; rw [fu_ne (by decide)], by rw [ups_fn (by decide), s5.2 22 rfl, c1]; show _ = fu M.1 3 (M.1 3 + 1) 1; rw [fu_ne (by decide)], by rw [ups_fn (by decide), s5.2 23 rfl, c2]; show _ = fu M.1 3 (M.1 3 + 1) 2; rw [fu_ne (by decide)], by rw [ups_hit, s5.2 24 rfl, c3]; show _ = fu M.1 3 (M.1 3 + 1) 3; rw [fu_hit]⟩, fun j i j0 j1 i0 i1 => by
      change j < fu M.1 3 (M.1 3 + 1) 0 at j1
      rw [fu_ne (by decide)] at j1
      rw [ups_ne (by decide), s5.1 75 rfl, r0 j i j0 j1 i0 i1]
      show _ = (if (0 : Int) = 3 ∧ j = M.1 3 then f else M.2 0 j) i
      rw [if_neg (fun q => absurd q.1 (by decide))], fun j i j0 j1 i0 i1 => by
      change j < fu M.1 3 (M.1 3 + 1) 1 at j1
      rw [fu_ne (by decide)] at j1
      rw [ups_ne (by decide), s5.1 76 rfl, r1 j i j0 j1 i0 i1]
      show _ = (if (1 : Int) = 3 ∧ j = M.1 3 then f else M.2 1 j) i
      rw [if_neg (fun q => absurd q.1 (by decide))], fun j i j0 j1 i0 i1 => by
      change j < fu M.1 3 (M.1 3 + 1) 2 at j1
      rw [fu_ne (by decide)] at j1
      rw [ups_ne (by decide), s5.1 77 rfl, r2 j i j0 j1 i0 i1]
      show _ = (if (2 : Int) = 3 ∧ j = M.1 3 then f else M.2 2 j) i
      rw [if_neg (fun q => absurd q.1 (by decide))], ?_⟩
    intro j i j0 j1 i0 i1
    change j < fu M.1 3 (M.1 3 + 1) 3 at j1
    rw [fu_hit] at j1
    rw [ups_ne (by decide)]
    show _ = (if (3 : Int) = 3 ∧ j = M.1 3 then f else M.2 3 j) i
    by_cases c : j = M.1 3
    · rw [if_pos ⟨rfl, c⟩, c]; exact lo i i0 i1
    · rw [if_neg (fun q => c q.2), hi _ (by omega)]; exact r3 j i j0 (by omega) i0 i1
theorem clauseR {B : Int → Int} {N : Int} (hB : BTp B N) (d : Nat) {a : Int} {M : MS} {ω : Mem} (hM : MV M) (ha : 0 ≤ a ∧ a ≤ N) (ht : TqR ω B N a) (h4 : ω 64 4 = -1) (hm : McR ω M) {Q : RV → Mem → Prop} (h0 : ∀ w, mCl B N M a = .inl w → ∀ τ', Sm ω τ' mkS mkJ → FR τ' B N w → Q rV τ') (h1 : ∀ a' M', mCl B N M a = .inr (a', M') → ∀ τ', Sm ω τ' mkS mkJ → TqR τ' B N a' → τ' 64 4 = -1 → McR τ' M' → Q rV τ') : Cl (d + 5) mR_clauseText [aR 64] ω Q := by
  have hN := hB.1
  have r := (sk_r (B := B) (N := N) (a := a))
  have r2 := r.2 ha.2
  have b := hB.r (a := sk B N a) (by omega)
  have bk0 := (hM 0 (by decide) (by decide)).1
  have bk1 := (hM 1 (by decide) (by decide)).1
  have bk2 := (hM 2 (by decide) (by decide)).1
  have bk3 := (hM 3 (by decide) (by decide)).1
  have m0 : cst 3 0 = 8 ∧ cst 3 1 = 6 ∧ cst 3 2 = 10 ∧ cst 3 3 = 6 := ⟨rfl, rfl, rfl, rfl⟩
  refine bR_clauseText_in (lookR hB (d + 2) ⟨by omega, by omega⟩ ht (fun τ s t => ?_))
  have s0 : Sm ω τ mkS mkJ := s.mono (by decide) (by decide)
  have g4 : τ 64 4 = -1 := by rw [s.2 4 rfl]; exact h4
  have m : McR τ M := mcR_sm hm s (by decide) (by decide)
  have h0' : ∀ w, mCl B N M a = .inl w → ∀ τ', Sm τ τ' mkS mkJ → FR τ' B N w → Q rV τ' := fun w e τ' s' f => h0 w e τ' (s0.trans s') f
  have h1' : ∀ a' M', mCl B N M a = .inr (a', M') → ∀ τ', Sm τ τ' mkS mkJ → TqR τ' B N a' → τ' 64 4 = -1 → McR τ' M' → Q rV τ' := fun a' M' e τ' s' => h1 a' M' e τ' (s0.trans s')
  obtain ⟨⟨c0, c1, c2, c3⟩, -⟩ := m
  have dead : mCl B N M a = .inl (sk B N a) → Cl (d + 4) mR_bad [aR 64] τ (fun r τ' => oV r (Q rV τ')) := fun e => badR (d + 3) g4 t (fun τ2 s2 t2 e2 => h0' _ e τ2 (s2.mono (by decide) (by decide)) (Or.inl e2))
  have m : McR τ M := mcR_sm hm s (by decide) (by decide)
  have a0 := fun e hc lt => add0 hB d (Q := Q) hM ha e hc t g4 m lt h0' h1'
  have a1 := fun e hc lt => add1 hB d (Q := Q) hM ha e hc t g4 m lt h0' h1'
  have a2 := fun e hc lt => add2 hB d (Q := Q) hM ha e hc t g4 m lt h0' h1'
  have a3 := fun e hc lt => add3 hB d (Q := Q) hM ha e hc t g4 m lt h0' h1'
  have lt : hr B N (sk B N a) ≠ -1 → sk B N a < N := fun z => (b.2.2 z).1
  have kk : kOf (hr B N (sk B N a)) = (if (120 : Int) = hr B N (sk B N a) then 0 else if (112 : Int) = hr B N (sk B N a) then 1 else if (115 : Int) = hr B N (sk B N a) then 2 else if (99 : Int) = hr B N (sk B N a) then 3 else -1) := rfl
  have no : ∀ k, kOf (hr B N (sk B N a)) = k → (k = -1 ∨ cst 3 k ≤ M.1 k) → mCl B N M a = .inl (sk B N a) := fun k e h => mCl_no e h
  generalize hr B N (sk B N a) = c at *
  have p167 : (c ≠ 99 ∨ 6 ≤ M.1 3) → mCl B N M a = .inl (sk B N a) → Ev (d + 5) mR_clauseText 167 [vR 64, vI c] [] τ Q := fun z e => bR_clauseText_167 ⟨⟨by omega, by omega⟩, fun _ => dead e, fun y => ⟨by rw [c3]; exact ⟨by omega, by omega⟩, fun _ => dead e, fun x => absurd x (by rw [c3]; omega)⟩⟩
  have p113 : (c ≠ 115 ∨ 10 ≤ M.1 2) → Ev (d + 5) mR_clauseText 167 [vR 64, vI c] [] τ Q → Ev (d + 5) mR_clauseText 113 [vR 64, vI c] [] τ Q := fun z e => bR_clauseText_113 ⟨⟨by omega, by omega⟩, fun _ => e, fun y => ⟨by rw [c2]; exact ⟨by omega, by omega⟩, fun _ => e, fun x => absurd x (by rw [c2]; omega)⟩⟩
  have p59 : (c ≠ 112 ∨ 6 ≤ M.1 1) → Ev (d + 5) mR_clauseText 113 [vR 64, vI c] [] τ Q → Ev (d + 5) mR_clauseText 59 [vR 64, vI c] [] τ Q := fun z e => bR_clauseText_59 ⟨⟨by omega, by omega⟩, fun _ => e, fun y => ⟨by rw [c1]; exact ⟨by omega, by omega⟩, fun _ => e, fun x => absurd x (by rw [c1]; omega)⟩⟩
  refine ⟨⟨by omega, by omega⟩, fun z => ?_, fun z => ⟨by rw [c0]; exact ⟨by omega, by omega⟩, fun y => ?_, fun y => ?_⟩⟩
  · rw [if_neg (fun q => z q.symm)] at kk
    by_cases z2 : c = 112
    · rw [if_pos z2.symm] at kk
      by_cases y : M.1 1 < 6
      · refine bR_clauseText_59 ⟨⟨by omega, by omega⟩, fun q => absurd z2 q, fun _ => ⟨by rw [c1]; exact ⟨by omega, by omega⟩, fun q => absurd q (by rw [c1]; omega), fun _ => ?_⟩⟩
        rw [c1, t.2.1, z2]
        exact a1 kk y (lt (by omega))
      · exact p59 (by omega) (p113 (by omega) (p167 (by omega) (no 1 kk (Or.inr (by omega)))))
    · rw [if_neg (fun q => z2 q.symm)] at kk
      by_cases z3 : c = 115
      · rw [if_pos z3.symm] at kk
        by_cases y : M.1 2 < 10
        · refine p59 (by omega) (bR_clauseText_113 ⟨⟨by omega, by omega⟩, fun q => absurd z3 q, fun _ => ⟨by rw [c2]; exact ⟨by omega, by omega⟩, fun q => absurd q (by rw [c2]; omega), fun _ => ?_⟩⟩)
          rw [c2, t.2.1, z3]
          exact a2 kk y (lt (by omega))
        · exact p59 (by omega) (p113 (by omega) (p167 (by omega) (no 2 kk (Or.inr (by omega)))))
      · rw [if_neg (fun q => z3 q.symm)] at kk
        by_cases z4 : c = 99
        · rw [if_pos z4.symm] at kk
          by_cases y : M.1 3 < 6
          · refine p59 (by omega) (p113 (by omega) (bR_clauseText_167 ⟨⟨by omega, by omega⟩, fun q => absurd z4 q, fun _ => ⟨by rw [c3]; exact ⟨by omega, by omega⟩, fun q => absurd q (by rw [c3]; omega), fun _ => ?_⟩⟩))
            rw [c3, t.2.1, z4]
            exact a3 kk y (lt (by omega))
          · exact p59 (by omega) (p113 (by omega) (p167 (by omega) (no 3 kk (Or.inr (by omega)))))
        · rw [if_neg (fun q => z4 q.symm)] at kk
          exact p59 (by omega) (p113 (by omega) (p167 (by omega) (no (-1) kk (Or.inl rfl))))
  · rw [if_pos z.symm] at kk
    rw [c0] at y
    exact p59 (by omega) (p113 (by omega) (p167 (by omega) (no 0 kk (Or.inr (by omega)))))
  · rw [if_pos z.symm] at kk
    rw [c0] at y
    rw [c0, t.2.1, z]
    exact a0 kk y (lt (by omega))
theorem allB_S {p : Int → Bool} {i : Int} (h : 0 ≤ i) : allB p (i + 1).toNat = (allB p i.toNat && p i) := by
  rw [show (i + 1).toNat = i.toNat + 1 by omega]
  show (allB p i.toNat && p (Int.ofNat i.toNat)) = _
  rw [show Int.ofNat i.toNat = i from Int.toNat_of_nonneg h]
abbrev b01 (b : Bool) : Int := if b = true then 1 else 0
theorem mwholeR {ω : Mem} {M : MS} (hM : MV M) (hm : McR ω M) (d : Nat) {Q : RV → Mem → Prop} (h1 : whM M = true → Q (rI 1) ω) (h0 : whM M = false → Q (rI 0) ω) : Cl (d + 2) mR_isWhole [aR 64] ω Q := by
  have b0 := (hM 0 (by decide) (by decide)).1
  have b1 := hM 1 (by decide) (by decide)
  have b2 := hM 2 (by decide) (by decide)
  have b3 := hM 3 (by decide) (by decide)
  have m0 : cst 3 0 = 8 ∧ cst 3 1 = 6 ∧ cst 3 2 = 10 ∧ cst 3 3 = 6 := ⟨rfl, rfl, rfl, rfl⟩
  obtain ⟨⟨c0, c1, c2, c3⟩, r0, r1, r2, r3⟩ := hm
  have fin : ∀ (n : Nat) (j : Int) (u3 : Option AV), 0 ≤ j → j + (n : Int) = M.1 1 → Ev (d + 2) mR_isWhole 125 [vR 64, vI (b01 (((decide (2 ≤ M.1 0 ∧ 1 ≤ M.1 1) && allB (jnOk M 2) (M.1 2).toNat) && allB (jnOk M 3) (M.1 3).toNat) && allB (lkOk M) j.toNat)), vI j, u3] [] ω Q := by
    intro n
    induction n with
    | zero =>
      intro j u3 j0 j1
      rw [show j = M.1 1 by omega]
      have e : (((decide (2 ≤ M.1 0 ∧ 1 ≤ M.1 1) && allB (jnOk M 2) (M.1 2).toNat) && allB (jnOk M 3) (M.1 3).toNat) && allB (lkOk M) (M.1 1).toNat) = whM M := by
        unfold whM
        cases decide (2 ≤ M.1 0 ∧ 1 ≤ M.1 1) <;> cases allB (jnOk M 2) (M.1 2).toNat <;> cases allB (jnOk M 3) (M.1 3).toNat <;> cases allB (lkOk M) (M.1 1).toNat <;> rfl
      rw [e]
      refine bR_isWhole_125 ⟨⟨by omega, by omega⟩, by rw [c1]; exact ⟨by omega, by omega⟩, fun _ => ?_, fun z => absurd z (by rw [c1]; omega)⟩
      cases q : whM M
      · exact ⟨Or.inl rfl, h0 q⟩
      · exact ⟨Or.inr rfl, h1 q⟩
    | succ n ih =>
      intro j u3 j0 j1
      have v2 := b1.2 j j0 (by omega) 2 (by decide) (by decide)
      have cc := cst67_r (j := 1 * 3 + 2) (by decide)
      have nx := ih (j + 1) (vI (ω 76 (3 * j + 2))) (by omega) (by omega)
      rw [allB_S j0, ← Bool.and_assoc] at nx
      have e2 := r1 j 2 j0 (by omega) (by decide) (by decide)
      generalize (((decide (2 ≤ M.1 0 ∧ 1 ≤ M.1 1) && allB (jnOk M 2) (M.1 2).toNat) && allB (jnOk M 3) (M.1 3).toNat) && allB (lkOk M) j.toNat) = bb at *
      refine bR_isWhole_125 ⟨⟨by omega, by omega⟩, by rw [c1]; exact ⟨by omega, by omega⟩, fun z => absurd z (by rw [c1]; omega), fun _ => ⟨(by omega), (by omega), by cases bb <;> decide, fun z => ?_, fun z => ?_⟩⟩
      · have : bb = false := by cases bb; rfl; exact absurd z (by decide)
        rw [this] at nx; exact nx
      · have : bb = true := by cases bb; exact absurd rfl z; rfl
        rw [this, Bool.true_and] at nx
        rw [e2] at nx ⊢
        refine ⟨⟨by omega, by omega⟩, fun y => ?_, fun y => ⟨by rw [c0]; exact ⟨by omega, by omega⟩, fun x => ?_, fun x => ?_⟩⟩
        · rw [show lkOk M j = true from decide_eq_true (Or.inl y)] at nx; exact nx
        · rw [c0] at x
          rw [show lkOk M j = false from decide_eq_false (fun q => by rcases q with q | q; exact y q; omega)] at nx; exact nx
        · rw [c0] at x
          rw [show lkOk M j = true from decide_eq_true (Or.inr x)] at nx; exact nx
  have l74 : ∀ (n : Nat) (j : Int) (u3 : Option AV), 0 ≤ j → j + (n : Int) = M.1 3 → Ev (d + 2) mR_isWhole 74 [vR 64, vI (b01 ((decide (2 ≤ M.1 0 ∧ 1 ≤ M.1 1) && allB (jnOk M 2) (M.1 2).toNat) && allB (jnOk M 3) j.toNat)), vI j, u3] [] ω Q := by
    intro n
    induction n with
    | zero =>
      intro j u3 j0 j1
      rw [show j = M.1 3 by omega]
      have nx := fin (M.1 1).toNat 0 u3 (by decide) (by omega)
      rw [show allB (lkOk M) (0 : Int).toNat = true from rfl, Bool.and_true] at nx
      exact bR_isWhole_74 ⟨⟨by omega, by omega⟩, by rw [c3]; exact ⟨by omega, by omega⟩, fun _ => nx, fun z => absurd z (by rw [c3]; omega)⟩
    | succ n ih =>
      intro j u3 j0 j1
      have v0 := b3.2 j j0 (by omega) 0 (by decide) (by decide)
      have v1 := b3.2 j j0 (by omega) 1 (by decide) (by decide)
      have cc0 := cst67_r (j := 3 * 3 + 0) (by decide)
      have cc1 := cst67_r (j := 3 * 3 + 1) (by decide)
      have nx := ih (j + 1) u3 (by omega) (by omega)
      rw [allB_S j0, ← Bool.and_assoc] at nx
      have e0 := r3 j 0 j0 (by omega) (by decide) (by decide)
      have e1 := r3 j 1 j0 (by omega) (by decide) (by decide)
      rw [Int.add_zero] at e0
      generalize ((decide (2 ≤ M.1 0 ∧ 1 ≤ M.1 1) && allB (jnOk M 2) (M.1 2).toNat) && allB (jnOk M 3) j.toNat) = bb at *
      refine bR_isWhole_74 ⟨⟨by omega, by omega⟩, by rw [c3]; exact ⟨by omega, by omega⟩, fun z => absurd z (by rw [c3]; omega), fun _ => ⟨by cases bb <;> decide, fun z => ?_, fun z => ?_⟩⟩
      · have : bb = false := by cases bb; rfl; exact absurd z (by decide)
        rw [this] at nx; exact nx
      · have : bb = true := by cases bb; exact absurd rfl z; rfl
        rw [this, Bool.true_and] at nx
        rw [e0, e1, c0]
        refine ⟨(by omega), (by omega), (by omega), (by omega), ⟨by omega, by omega⟩, ⟨by omega, by omega⟩, ⟨by omega, by omega⟩, fun y => ?_, fun y => ?_⟩
        · rw [show jnOk M 3 j = true from decide_eq_true y] at nx; exact nx
        · rw [show jnOk M 3 j = false from decide_eq_false y] at nx; exact nx
  have l23 : ∀ (n : Nat) (j : Int) (u3 : Option AV), 0 ≤ j → j + (n : Int) = M.1 2 → Ev (d + 2) mR_isWhole 23 [vR 64, vI (b01 (decide (2 ≤ M.1 0 ∧ 1 ≤ M.1 1) && allB (jnOk M 2) j.toNat)), vI j, u3] [] ω Q := by
    intro n
    induction n with
    | zero =>
      intro j u3 j0 j1
      rw [show j = M.1 2 by omega]
      have nx := l74 (M.1 3).toNat 0 u3 (by decide) (by omega)
      rw [show allB (jnOk M 3) (0 : Int).toNat = true from rfl, Bool.and_true] at nx
      exact bR_isWhole_23 ⟨⟨by omega, by omega⟩, by rw [c2]; exact ⟨by omega, by omega⟩, fun _ => nx, fun z => absurd z (by rw [c2]; omega)⟩
    | succ n ih =>
      intro j u3 j0 j1
      have v0 := b2.2 j j0 (by omega) 0 (by decide) (by decide)
      have v1 := b2.2 j j0 (by omega) 1 (by decide) (by decide)
      have cc0 := cst67_r (j := 2 * 3 + 0) (by decide)
      have cc1 := cst67_r (j := 2 * 3 + 1) (by decide)
      have nx := ih (j + 1) u3 (by omega) (by omega)
      rw [allB_S j0, ← Bool.and_assoc] at nx
      have e0 := r2 j 0 j0 (by omega) (by decide) (by decide)
      have e1 := r2 j 1 j0 (by omega) (by decide) (by decide)
      rw [Int.add_zero] at e0
      generalize (decide (2 ≤ M.1 0 ∧ 1 ≤ M.1 1) && allB (jnOk M 2) j.toNat) = bb at *
      refine bR_isWhole_23 ⟨⟨by omega, by omega⟩, by rw [c2]; exact ⟨by omega, by omega⟩, fun z => absurd z (by rw [c2]; omega), fun _ => ⟨by cases bb <;> decide, fun z => ?_, fun z => ?_⟩⟩
      · have : bb = false := by cases bb; rfl; exact absurd z (by decide)
        rw [this] at nx; exact nx
      · have : bb = true := by cases bb; exact absurd rfl z; rfl
        rw [this, Bool.true_and] at nx
        rw [e0, e1, c0]
        refine ⟨(by omega), (by omega), (by omega), (by omega), ⟨by omega, by omega⟩, ⟨by omega, by omega⟩, ⟨by omega, by omega⟩, fun y => ?_, fun y => ?_⟩
        · rw [show jnOk M 2 j = true from decide_eq_true y] at nx; exact nx
        · rw [show jnOk M 2 j = false from decide_eq_false y] at nx; exact nx
  have st := l23 (M.1 2).toNat 0 vU (by decide) (by omega)
  rw [show allB (jnOk M 2) (0 : Int).toNat = true from rfl, Bool.and_true] at st
  refine bR_isWhole_in ⟨by rw [c0]; exact ⟨by omega, by omega⟩, fun z => ?_, fun z => ⟨by rw [c1]; exact ⟨by omega, by omega⟩, fun y => ?_, fun y => ?_⟩⟩
  · rw [c0] at z
    rw [decide_eq_false (show ¬ (2 ≤ M.1 0 ∧ 1 ≤ M.1 1) by omega)] at st; exact st
  · rw [c1] at y
    rw [decide_eq_false (show ¬ (2 ≤ M.1 0 ∧ 1 ≤ M.1 1) by omega)] at st; exact st
  · rw [c0] at z
    rw [c1] at y
    rw [decide_eq_true (show (2 ≤ M.1 0 ∧ 1 ≤ M.1 1) by omega)] at st; exact st
theorem mreadR {B : Int → Int} {N : Int} (hB : BTp B N) (d : Nat) {Q : RV → Mem → Prop} : ∀ (n : Nat) (a : Int) (M : MS) (ω : Mem), 241 ≤ a + (n : Int) → MV M → 0 ≤ a ∧ a ≤ N → TqR ω B N a → ω 64 4 = -1 → McR ω M → (∀ w, mRd B N n a M = .inl w → ∀ τ, Sm ω τ mkS mkJ → Q (rI w) τ) → (∀ M', mRd B N n a M = .inr M' → ∀ τ, Sm ω τ mkS mkJ → McR τ M' → Q (rI (-1)) τ) → Ev (d + 6) mR_readMarket 32 [vR 64, vI 1] [] ω Q
  | 0, a, M, ω, hn, hM, ha, ht, h4, hm, h0, h1 => by
    have := hB.1
    omega
  | n + 1, a, M, ω, hn, hM, ha, ht, h4, hm, h0, h1 => by
    have hN := hB.1
    obtain ⟨p, q⟩ := mCl_r hB hM ha
    unfold mRd at h0 h1
    refine bR_readMarket_32 ⟨by decide, fun z => absurd z (by decide), fun _ => ⟨by rw [h4]; decide, fun z => absurd h4 z, fun _ => clauseR hB d hM ha ht h4 hm (fun w e τ s fr => ?_) (fun a' M' e τ s t f4 m => ?_)⟩⟩
    · rw [e] at h0
      have pw := p w e
      rcases fr with f | ⟨f4, t, f59, f1, f32⟩
      · refine ⟨by rw [f]; exact ⟨by omega, by omega⟩, fun z => bR_readMarket_32 ⟨by decide, fun _ => bR_readMarket_92 ⟨?_, fun y => ?_, fun y => absurd y ?_⟩, fun y => absurd rfl y⟩, fun z => absurd z (by omega)⟩
        · rw [ups_fn (by decide), f]; exact ⟨by omega, by omega⟩
        · rw [ups_fn (by decide), f]
          exact h0 w rfl _ (s.ups rfl (Or.inr rfl))
        · rw [ups_fn (by decide), f]; omega
      · refine ⟨by rw [f4]; decide, fun z => absurd f4 z, fun _ => lookR hB (d + 3) ⟨by omega, by omega⟩ t (fun τ2 s2 t2 => ?_)⟩
        rw [sk_id f32] at t2 ⊢
        have b := hB.r (a := w) (by omega)
        refine ⟨⟨by omega, by omega⟩, fun _ => ?_, fun z => absurd z f59⟩
        have t3 := t2.to (w + 0)
        rw [Int.add_zero] at t3
        rw [t2.2.1, Int.add_zero]
        have s3 : Sm ω (ups τ2 64 3 w) mkS mkJ := (s.trans (s2.mono (by decide) (by decide))).ups rfl (Or.inr rfl)
        have g4 : (ups τ2 64 3 w) 64 4 = -1 := by rw [ups_fn (by decide), s2.2 4 rfl]; exact f4
        refine bR_readMarket_32 ⟨by decide, fun _ => bR_readMarket_92 ⟨by rw [g4]; decide, fun y => absurd g4 y, fun _ => lookR hB (d + 3) ⟨by omega, by omega⟩ t3 (fun τ4 s4 t4 => ?_)⟩, fun y => absurd rfl y⟩
        rw [sk_id f32] at t4 ⊢
        refine ⟨⟨by omega, by omega⟩, fun _ => badR (d + 4) (by rw [s4.2 4 rfl]; exact g4) t4 (fun τ5 s5 t5 e5 => ?_), fun y => absurd y f1⟩
        rw [e5]
        exact h0 w rfl τ5 ((s3.trans (s4.mono (by decide) (by decide))).trans (s5.mono (by decide) (by decide)))
    · rw [e] at h0 h1
      dsimp only at h0 h1
      obtain ⟨q1, q2, q3⟩ := q a' M' e
      have b := hB.r (a := a') (by omega)
      refine ⟨by rw [f4]; decide, fun z => absurd f4 z, fun _ => lookR hB (d + 3) ⟨by omega, by omega⟩ t (fun τ2 s2 t2 => ?_)⟩
      rw [sk_id q2] at t2 ⊢
      have m2 : McR τ2 M' := mcR_sm m s2 (by decide) (by decide)
      have g4 : τ2 64 4 = -1 := by rw [s2.2 4 rfl]; exact f4
      have sA : Sm ω τ2 mkS mkJ := s.trans (s2.mono (by decide) (by decide))
      refine ⟨⟨by omega, by omega⟩, fun z => ?_, fun z => ?_⟩
      · have t3 := t2.to (a' + 0)
        rw [Int.add_zero] at t3
        rw [t2.2.1, Int.add_zero]
        have s3 : Sm ω (ups τ2 64 3 a') mkS mkJ := sA.ups rfl (Or.inr rfl)
        have k4' : (ups τ2 64 3 a') 64 4 = -1 := by rw [ups_fn (by decide)]; exact g4
        have m3 : McR (ups τ2 64 3 a') M' := mcR_sm (S := [64]) (J := [3]) m2 (Sm.refl.ups rfl (Or.inr rfl)) (by decide) (by decide)
        refine bR_readMarket_32 ⟨by decide, fun _ => bR_readMarket_92 ⟨by rw [k4']; decide, fun y => absurd k4' y, fun _ => lookR hB (d + 3) ⟨by omega, by omega⟩ t3 (fun τ4 s4 t4 => ?_)⟩, fun y => absurd rfl y⟩
        rw [sk_id q2] at t4 ⊢
        have sB : Sm ω τ4 mkS mkJ := s3.trans (s4.mono (by decide) (by decide))
        have l4 : τ4 64 4 = -1 := by rw [s4.2 4 rfl]; exact k4'
        have m4 : McR τ4 M' := mcR_sm m3 s4 (by decide) (by decide)
        refine ⟨⟨by omega, by omega⟩, fun y => badR (d + 4) l4 t4 (fun τ5 s5 t5 e5 => ?_), fun y => mwholeR q3 m4 (d + 3) (fun x => ⟨by decide, fun _ => ?_, fun q => absurd q (by decide)⟩) (fun x => ⟨by decide, fun q => absurd rfl q, fun _ => badR (d + 4) l4 t4 (fun τ5 s5 t5 e5 => ?_)⟩)⟩
        · rw [if_neg y, if_neg z] at h0
          rw [e5]
          exact h0 a' rfl τ5 (sB.trans (s5.mono (by decide) (by decide)))
        · rw [if_pos y, if_pos x] at h1
          rw [l4]
          exact h1 M' rfl τ4 sB m4
        · rw [if_pos y, if_neg (by rw [x]; decide)] at h0
          have : a' = N := by
            by_cases c : a' < N
            · have h2 := hB.2 a' (by omega) c
              have h3 : hr B N a' = B a' := if_pos c
              omega
            · omega
          rw [e5, this]
          exact h0 N rfl τ5 (sB.trans (s5.mono (by decide) (by decide)))
      · have n1 : ¬ hr B N a' = -1 := by omega
        have lt := (b.2.2 n1).1
        rw [if_neg n1, if_pos z] at h0 h1
        rw [t2.2.1]
        have t3 := t2.to (a' + 1)
        have s3 : Sm ω (ups τ2 64 3 (a' + 1)) mkS mkJ := sA.ups rfl (Or.inr rfl)
        refine mreadR hB d n (a' + 1) M' _ (by omega) q3 ⟨by omega, by omega⟩ t3 (by rw [ups_fn (by decide)]; exact g4) (mcR_sm (S := [64]) (J := [3]) m2 (Sm.refl.ups rfl (Or.inr rfl)) (by decide) (by decide)) (fun w e τ4 s4 => h0 w e τ4 (s3.trans s4)) (fun M'' e τ4 s4 m4 => h1 M'' e τ4 (s3.trans s4) m4)
theorem marketR {B : Int → Int} {N : Int} (hB : BTp B N) (d : Nat) {ω : Mem} (h2 : ω 64 2 = N) (h65 : ∀ i, 0 ≤ i → i < N → ω 65 i = B i) {Q : RV → Mem → Prop} (h0 : ∀ w, mRd B N 241 0 MS0 = .inl w → ∀ τ, Sm ω τ mkS mkJ → Q (rI w) τ) (h1 : ∀ M', mRd B N 241 0 MS0 = .inr M' → ∀ τ, Sm ω τ mkS mkJ → McR τ M' → Q (rI (-1)) τ) : Cl (d + 6) mR_readMarket [aR 64] ω Q := by
  have hN := hB.1
  refine bR_readMarket_in ?_
  have s0 : Sm ω (ups (ups (ups (ups (ups (ups ω 64 3 0) 64 4 (-1)) 64 21 0) 64 22 0) 64 23 0) 64 24 0) mkS mkJ := (((((Sm.refl.ups rfl (Or.inr rfl)).ups rfl (Or.inr rfl)).ups rfl (Or.inr rfl)).ups rfl (Or.inr rfl)).ups rfl (Or.inr rfl)).ups rfl (Or.inr rfl)
  have v3 : (ups (ups (ups (ups (ups (ups ω 64 3 0) 64 4 (-1)) 64 21 0) 64 22 0) 64 23 0) 64 24 0) 64 3 = 0 := by
    rw [ups_fn (by decide), ups_fn (by decide), ups_fn (by decide), ups_fn (by decide), ups_fn (by decide), ups_hit]
  have v4 : (ups (ups (ups (ups (ups (ups ω 64 3 0) 64 4 (-1)) 64 21 0) 64 22 0) 64 23 0) 64 24 0) 64 4 = -1 := by
    rw [ups_fn (by decide), ups_fn (by decide), ups_fn (by decide), ups_fn (by decide), ups_hit]
  have m0 : McR (ups (ups (ups (ups (ups (ups ω 64 3 0) 64 4 (-1)) 64 21 0) 64 22 0) 64 23 0) 64 24 0) MS0 := by
    refine ⟨⟨?_, ?_, ?_, ?_⟩, fun j i j0 j1 => absurd j1 (by show ¬ j < 0; omega), fun j i j0 j1 => absurd j1 (by show ¬ j < 0; omega), fun j i j0 j1 => absurd j1 (by show ¬ j < 0; omega), fun j i j0 j1 => absurd j1 (by show ¬ j < 0; omega)⟩
    · rw [ups_fn (by decide), ups_fn (by decide), ups_fn (by decide), ups_hit]; rfl
    · rw [ups_fn (by decide), ups_fn (by decide), ups_hit]; rfl
    · rw [ups_fn (by decide), ups_hit]; rfl
    · rw [ups_hit]; rfl
  exact mreadR hB d 241 0 MS0 _ (by decide) mv_0 ⟨by omega, by omega⟩ ⟨by rw [s0.2 2 rfl]; exact h2, v3, fun i i0 i1 => by rw [s0.1 65 rfl]; exact h65 i i0 i1⟩ v4 m0 (fun w e τ s => h0 w e τ (s0.trans s)) (fun M e τ s m => h1 M e τ (s0.trans s) m)
