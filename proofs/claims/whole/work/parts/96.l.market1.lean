/-! ===== THE MARKET READ: WHAT IT IS; THE CLASS ===== -/
/-- how many of each kind; by kind and number, the items -/
abbrev MS : Type := (Int → Int) × (Int → Int → Int → Int)
def kOf (c : Int) : Int := if cst 2 0 = c then 0 else if cst 2 1 = c then 1 else if cst 2 2 = c then 2 else if cst 2 3 = c then 3 else -1
def iOf (k c : Int) : Int := if cst 5 (k * 3 + 0) = c then 0 else if cst 5 (k * 3 + 1) = c then 1 else if cst 5 (k * 3 + 2) = c then 2 else -1
def usM (k : Int) : Int → Int := fun i => cst 4 (k * 3 + i)
theorem kOf_r (c : Int) : -1 ≤ kOf c ∧ kOf c < 4 := by
  unfold kOf; split
  · decide
  · split
    · decide
    · split
      · decide
      · split <;> decide
theorem iOf_r (k c : Int) : -1 ≤ iOf k c ∧ iOf k c < 3 := by
  unfold iOf; split
  · decide
  · split
    · decide
    · split <;> decide
theorem k4 {k : Int} (h : 0 ≤ k ∧ k < 4) : k = 0 ∨ k = 1 ∨ k = 2 ∨ k = 3 := by omega
theorem cst3r : ∀ k : Fin 4, 6 ≤ cst 3 (k.val : Int) ∧ cst 3 (k.val : Int) ≤ 10 := by decide +kernel
theorem cst3_r {k : Int} (h : 0 ≤ k ∧ k < 4) : 6 ≤ cst 3 k ∧ cst 3 k ≤ 10 := by
  have := cst3r ⟨k.toNat, by omega⟩
  rw [show ((k.toNat : Nat) : Int) = k from Int.toNat_of_nonneg h.1] at this
  exact this
theorem cst67 : ∀ j : Fin 12, (0 ≤ cst 6 (j.val : Int) ∧ cst 6 (j.val : Int) ≤ 1) ∧ (0 ≤ cst 7 (j.val : Int) ∧ cst 7 (j.val : Int) ≤ 99) ∧ (cst 6 (j.val : Int) ≤ cst 4 (j.val : Int) ∧ cst 4 (j.val : Int) ≤ cst 7 (j.val : Int)) := by decide +kernel
theorem cst67_r {j : Int} (h : 0 ≤ j ∧ j < 12) : (0 ≤ cst 6 j ∧ cst 6 j ≤ 1) ∧ (0 ≤ cst 7 j ∧ cst 7 j ≤ 99) ∧ (cst 6 j ≤ cst 4 j ∧ cst 4 j ≤ cst 7 j) := by
  have := cst67 ⟨j.toNat, by omega⟩
  rw [show ((j.toNat : Nat) : Int) = j from Int.toNat_of_nonneg h.1] at this
  exact this
/-- items of a clause, from the byte a on; g: those given -/
def mIt (B : Int → Int) (N k : Int) : Nat → Int → Int → (Int → Int) → Int ⊕ (Int × (Int → Int))
  | 0, a, _, _ => .inl a
  | n + 1, a, g, f => if iOf k (hr B N (sk B N a)) = -1 then .inr (sk B N a, f) else if bt g (iOf k (hr B N (sk B N a))) = true then .inl (sk B N a) else
    match nmr B N (cst 6 (k * 3 + iOf k (hr B N (sk B N a)))) (cst 7 (k * 3 + iOf k (hr B N (sk B N a)))) (sk B N a + 1) with
    | .inl w => .inl w
    | .inr r => mIt B N k n r.1 (ins g (iOf k (hr B N (sk B N a)))) (fu f (iOf k (hr B N (sk B N a))) r.2)
def mAdd (M : MS) (k : Int) (f : Int → Int) : MS := (fu M.1 k (M.1 k + 1), fun k' j => if k' = k ∧ j = M.1 k then f else M.2 k' j)
def mCl (B : Int → Int) (N : Int) (M : MS) (a : Int) : Int ⊕ (Int × MS) := if kOf (hr B N (sk B N a)) = -1 ∨ cst 3 (kOf (hr B N (sk B N a))) ≤ M.1 (kOf (hr B N (sk B N a))) then .inl (sk B N a) else
  match mIt B N (kOf (hr B N (sk B N a))) 4 (sk B N a + 1) 0 (usM (kOf (hr B N (sk B N a)))) with
  | .inl w => .inl w
  | .inr r => .inr (r.1, mAdd M (kOf (hr B N (sk B N a))) r.2)
def allB (p : Int → Bool) : Nat → Bool
  | 0 => true
  | n + 1 => allB p n && p (Int.ofNat n)
theorem allB_iff {p : Int → Bool} : ∀ {n : Nat}, allB p n = true ↔ ∀ i : Int, 0 ≤ i → i < (n : Int) → p i = true
  | 0 => ⟨fun _ i h0 h1 => absurd h1 (by omega), fun _ => rfl⟩
  | n + 1 => by
    have ih := allB_iff (p := p) (n := n)
    unfold allB
    rw [Bool.and_eq_true, ih]
    constructor
    · intro h i i0 i1
      by_cases c : i = (n : Int)
      · rw [c]; exact h.2
      · exact h.1 i i0 (by omega)
    · exact fun h => ⟨fun i i0 i1 => h i i0 (by omega), h (Int.ofNat n) (Int.ofNat_nonneg n) (by show ((n : Nat) : Int) < _; omega)⟩
abbrev lkOk (M : MS) (p : Int) : Bool := decide (M.2 1 p 2 = 8 ∨ M.2 1 p 2 < M.1 0)
abbrev jnOk (M : MS) (k j : Int) : Bool := decide (M.2 k j 0 ≠ M.2 k j 1 ∧ M.2 k j 0 < M.1 0 ∧ M.2 k j 1 < M.1 0)
def whM (M : MS) : Bool := decide (2 ≤ M.1 0 ∧ 1 ≤ M.1 1) && (allB (lkOk M) (M.1 1).toNat && (allB (jnOk M 2) (M.1 2).toNat && allB (jnOk M 3) (M.1 3).toNat))
def mRd (B : Int → Int) (N : Int) : Nat → Int → MS → Int ⊕ MS
  | 0, _, _ => .inl N
  | n + 1, a, M => match mCl B N M a with
    | .inl w => .inl w
    | .inr r => if hr B N r.1 = -1 then (if whM r.2 = true then .inr r.2 else .inl N) else if hr B N r.1 = 59 then mRd B N n (r.1 + 1) r.2 else .inl r.1
/-- all is in bounds -/
def MV (M : MS) : Prop := ∀ k, 0 ≤ k → k < 4 → (0 ≤ M.1 k ∧ M.1 k ≤ cst 3 k) ∧ ∀ j, 0 ≤ j → j < M.1 k → ∀ i, 0 ≤ i → i < 3 → cst 6 (k * 3 + i) ≤ M.2 k j i ∧ M.2 k j i ≤ cst 7 (k * 3 + i)
theorem mv_add {M : MS} {k : Int} {f : Int → Int} (h : MV M) (hk : 0 ≤ k ∧ k < 4) (hc : M.1 k < cst 3 k) (hf : ∀ i, 0 ≤ i → i < 3 → cst 6 (k * 3 + i) ≤ f i ∧ f i ≤ cst 7 (k * 3 + i)) : MV (mAdd M k f) := by
  intro k' k0 k1
  have h' := h k' k0 k1
  show (0 ≤ fu M.1 k (M.1 k + 1) k' ∧ fu M.1 k (M.1 k + 1) k' ≤ cst 3 k') ∧ ∀ j, 0 ≤ j → j < fu M.1 k (M.1 k + 1) k' → ∀ i, 0 ≤ i → i < 3 → cst 6 (k' * 3 + i) ≤ (if k' = k ∧ j = M.1 k then f else M.2 k' j) i ∧ (if k' = k ∧ j = M.1 k then f else M.2 k' j) i ≤ cst 7 (k' * 3 + i)
  by_cases e : k' = k
  · subst e
    rw [fu_hit]
    refine ⟨⟨by omega, by omega⟩, fun j j0 j1 i i0 i1 => ?_⟩
    by_cases c : j = M.1 k'
    · rw [if_pos ⟨rfl, c⟩]; exact hf i i0 i1
    · rw [if_neg (fun z => c z.2)]; exact h'.2 j j0 (by omega) i i0 i1
  · rw [fu_ne e]
    refine ⟨h'.1, fun j j0 j1 i i0 i1 => ?_⟩
    rw [if_neg (fun z => e z.1)]; exact h'.2 j j0 j1 i i0 i1
theorem mIt_r {B : Int → Int} {N : Int} (hB : BTp B N) {k : Int} (hk : 0 ≤ k ∧ k < 4) : ∀ (n : Nat) (a g : Int) (f : Int → Int), 0 ≤ a ∧ a ≤ N → (∀ i, 0 ≤ i → i < 3 → cst 6 (k * 3 + i) ≤ f i ∧ f i ≤ cst 7 (k * 3 + i)) → (∀ w, mIt B N k n a g f = .inl w → 0 ≤ w ∧ w ≤ N) ∧ ∀ a' f', mIt B N k n a g f = .inr (a', f') → (a ≤ a' ∧ a' ≤ N) ∧ ¬ hr B N a' = 32 ∧ ∀ i, 0 ≤ i → i < 3 → cst 6 (k * 3 + i) ≤ f' i ∧ f' i ≤ cst 7 (k * 3 + i)
  | 0, a, g, f, ha, hf => ⟨fun w h => by injection h with h; omega, fun a' f' h => by cases h⟩
  | n + 1, a, g, f, ha, hf => by
    have r := (sk_r (B := B) (N := N) (a := a))
    have r2 := r.2 ha.2
    have ir := iOf_r k (hr B N (sk B N a))
    have b := hB.r (a := sk B N a) (by omega)
    unfold mIt
    by_cases c1 : iOf k (hr B N (sk B N a)) = -1
    · rw [if_pos c1]
      exact ⟨fun w h => (by cases h), fun a' f' h => by injection h with h; injection h with h1 h2; rw [← h1, ← h2]; exact ⟨⟨by omega, by omega⟩, sk_n, hf⟩⟩
    · rw [if_neg c1]
      by_cases c2 : bt g (iOf k (hr B N (sk B N a))) = true
      · rw [if_pos c2]
        exact ⟨fun w h => by injection h with h; omega, fun a' f' h => by cases h⟩
      · rw [if_neg c2]
        -- there is a sign
        have lt : sk B N a < N := by
          by_cases c3 : hr B N (sk B N a) = -1
          · exfalso
            apply c1
            rw [c3]
            rcases k4 hk with e | e | e | e <;> subst e <;> rfl
          · exact (b.2.2 c3).1
        generalize iOf k (hr B N (sk B N a)) = i at *
        obtain ⟨p, q⟩ := nmr_r hB (lo := cst 6 (k * 3 + i)) (hi := cst 7 (k * 3 + i)) (a := sk B N a + 1) ⟨by omega, by omega⟩
        cases e : nmr B N (cst 6 (k * 3 + i)) (cst 7 (k * 3 + i)) (sk B N a + 1) with
        | inl w => exact ⟨fun w' h => by injection h with h; rw [← h]; exact p w e, fun a' f' h => by cases h⟩
        | inr x =>
          obtain ⟨a1, v⟩ := x
          have q1 := q a1 v e
          have ih := mIt_r hB hk n a1 (ins g i) (fu f i v) ⟨by omega, by omega⟩ (fun j j0 j1 => by
            by_cases c : j = i
            · rw [c, fu_hit]; exact q1.2
            · rw [fu_ne c]; exact hf j j0 j1)
          exact ⟨ih.1, fun a' f' h => by have := ih.2 a' f' h; exact ⟨⟨by omega, this.1.2⟩, this.2⟩⟩
theorem us_r {k : Int} (hk : 0 ≤ k ∧ k < 4) : ∀ i, 0 ≤ i → i < 3 → cst 6 (k * 3 + i) ≤ usM k i ∧ usM k i ≤ cst 7 (k * 3 + i) := fun i i0 i1 => (cst67_r (j := k * 3 + i) ⟨by omega, by omega⟩).2.2
theorem mCl_r {B : Int → Int} {N : Int} (hB : BTp B N) {M : MS} (hM : MV M) {a : Int} (ha : 0 ≤ a ∧ a ≤ N) : (∀ w, mCl B N M a = .inl w → 0 ≤ w ∧ w ≤ N) ∧ ∀ a' M', mCl B N M a = .inr (a', M') → (a < a' ∧ a' ≤ N) ∧ ¬ hr B N a' = 32 ∧ MV M' := by
  have r := (sk_r (B := B) (N := N) (a := a))
  have r2 := r.2 ha.2
  have kr := kOf_r (hr B N (sk B N a))
  have b := hB.r (a := sk B N a) (by omega)
  unfold mCl
  by_cases c : kOf (hr B N (sk B N a)) = -1 ∨ cst 3 (kOf (hr B N (sk B N a))) ≤ M.1 (kOf (hr B N (sk B N a)))
  · rw [if_pos c]
    exact ⟨fun w h => by injection h with h; omega, fun a' f' h => by cases h⟩
  · rw [if_neg c]
    have lt : sk B N a < N := by
      by_cases c3 : hr B N (sk B N a) = -1
      · exfalso
        apply c
        rw [c3]
        exact Or.inl rfl
      · exact (b.2.2 c3).1
    generalize kOf (hr B N (sk B N a)) = k at *
    have hk : 0 ≤ k ∧ k < 4 := by omega
    obtain ⟨p, q⟩ := mIt_r hB hk 4 (sk B N a + 1) 0 (usM k) ⟨by omega, by omega⟩ (us_r hk)
    cases e : mIt B N k 4 (sk B N a + 1) 0 (usM k) with
    | inl w => exact ⟨fun w' h => by injection h with h; rw [← h]; exact p w e, fun a' f' h => by cases h⟩
    | inr x =>
      obtain ⟨a1, f⟩ := x
      have q1 := q a1 f e
      refine ⟨fun w' h => (by cases h), fun a' M' h => ?_⟩
      injection h with h
      injection h with h1 h2
      rw [← h1, ← h2]
      exact ⟨⟨by omega, by omega⟩, q1.2.1, mv_add hM hk (by omega) q1.2.2⟩
theorem mRd_r {B : Int → Int} {N : Int} (hB : BTp B N) : ∀ (n : Nat) (a : Int) (M : MS), MV M → 0 ≤ a ∧ a ≤ N → (∀ w, mRd B N n a M = .inl w → 0 ≤ w ∧ w ≤ N) ∧ ∀ M', mRd B N n a M = .inr M' → MV M' ∧ whM M' = true
  | 0, a, M, hM, ha => by
    have := hB.1
    exact ⟨fun w h => by injection h with h; omega, fun M' h => by cases h⟩
  | n + 1, a, M, hM, ha => by
    have hN := hB.1
    obtain ⟨p, q⟩ := mCl_r hB hM ha
    unfold mRd
    cases e : mCl B N M a with
    | inl w => exact ⟨fun w' h => by injection h with h; rw [← h]; exact p w e, fun M' h => by cases h⟩
    | inr x =>
      obtain ⟨a1, M1⟩ := x
      have q1 := q a1 M1 e
      dsimp only
      by_cases c1 : hr B N a1 = -1
      · rw [if_pos c1]
        by_cases c2 : whM M1 = true
        · rw [if_pos c2]
          exact ⟨fun w h => (by cases h), fun M' h => by injection h with h; rw [← h]; exact ⟨q1.2.2, c2⟩⟩
        · rw [if_neg c2]
          exact ⟨fun w h => by injection h with h; omega, fun M' h => by cases h⟩
      · rw [if_neg c1]
        by_cases c2 : hr B N a1 = 59
        · rw [if_pos c2]
          have b := hB.r (a := a1) (by omega)
          have := b.2.2 c1
          exact mRd_r hB n (a1 + 1) M1 q1.2.2 ⟨by omega, by omega⟩
        · rw [if_neg c2]
          exact ⟨fun w h => by injection h with h; omega, fun M' h => by cases h⟩
/-! the class -/
def McC (υ : Mem) (M : MS) : Prop := (∀ k, 0 ≤ k → k < 4 → υ 18 k = M.1 k) ∧ ∀ k j i, 0 ≤ k → k < 4 → 0 ≤ j → j < M.1 k → 0 ≤ i → i < 3 → υ 19 (k * 30 + j * 3 + i) = M.2 k j i
theorem mcC_sm {υ τ : Mem} {M : MS} (h : McC υ M) (h18 : τ 18 = υ 18) (h19 : τ 19 = υ 19) : McC τ M := by unfold McC; rw [h18, h19]; exact h
theorem kindC (d : Nat) {c : Int} {υ : Mem} (hc : rg c) {Q : RV → Mem → Prop} (hq : Q (rI (kOf c)) υ) : Cl (d + 1) mMr_kindOf [aI c] υ Q := by
  unfold kOf at hq
  refine bMr_kindOf_in (bMr_kindOf_2 ⟨by decide, fun z => absurd z (by decide), fun _ => ⟨by decide, by decide, hc, fun z => ?_, fun z => ?_⟩⟩)
  · rw [if_neg z] at hq
    refine bMr_kindOf_2 ⟨by decide, fun z => absurd z (by decide), fun _ => ⟨by decide, by decide, hc, fun z => ?_, fun z => ?_⟩⟩
    · change ¬ cst 2 1 = c at z
      rw [if_neg z] at hq
      refine bMr_kindOf_2 ⟨by decide, fun z => absurd z (by decide), fun _ => ⟨by decide, by decide, hc, fun z => ?_, fun z => ?_⟩⟩
      · change ¬ cst 2 2 = c at z
        rw [if_neg z] at hq
        refine bMr_kindOf_2 ⟨by decide, fun z => absurd z (by decide), fun _ => ⟨by decide, by decide, hc, fun z => ?_, fun z => ?_⟩⟩
        · change ¬ cst 2 3 = c at z
          rw [if_neg z] at hq
          exact bMr_kindOf_2 ⟨by decide, fun _ => hq, fun z => absurd z (by decide)⟩
        · change cst 2 3 = c at z
          rw [if_pos z] at hq; exact hq
      · change cst 2 2 = c at z
        rw [if_pos z] at hq; exact hq
    · change cst 2 1 = c at z
      rw [if_pos z] at hq; exact hq
  · rw [if_pos z] at hq; exact hq
theorem cst5r : ∀ j : Fin 12, 0 ≤ cst 5 (j.val : Int) ∧ cst 5 (j.val : Int) ≤ 200 := by decide +kernel
theorem cst5_r {j : Int} (h : 0 ≤ j ∧ j < 12) : rg (cst 5 j) := by
  have := cst5r ⟨j.toNat, by omega⟩
  rw [show ((j.toNat : Nat) : Int) = j from Int.toNat_of_nonneg h.1] at this
  exact ⟨by omega, by omega⟩
theorem itemC (d : Nat) {k c : Int} {υ : Mem} (hk : 0 ≤ k ∧ k < 4) (hc : rg c) {Q : RV → Mem → Prop} (hq : Q (rI (iOf k c)) υ) : Cl (d + 1) mMr_itemOf [aI k, aI c] υ Q := by
  unfold iOf at hq
  refine bMr_itemOf_in (bMr_itemOf_2 ⟨by decide, fun z => absurd z (by decide), fun _ => ⟨(by omega), (by omega), cst5_r ⟨by omega, by omega⟩, hc, fun z => ?_, fun z => ?_⟩⟩)
  · rw [if_neg z] at hq
    refine bMr_itemOf_2 ⟨by decide, fun z => absurd z (by decide), fun _ => ⟨(by omega), (by omega), cst5_r ⟨by omega, by omega⟩, hc, fun z => ?_, fun z => ?_⟩⟩
    · change ¬ cst 5 (k * 3 + 1) = c at z
      rw [if_neg z] at hq
      refine bMr_itemOf_2 ⟨by decide, fun z => absurd z (by decide), fun _ => ⟨(by omega), (by omega), cst5_r ⟨by omega, by omega⟩, hc, fun z => ?_, fun z => ?_⟩⟩
      · change ¬ cst 5 (k * 3 + 2) = c at z
        rw [if_neg z] at hq
        exact bMr_itemOf_2 ⟨by decide, fun _ => hq, fun z => absurd z (by decide)⟩
      · change cst 5 (k * 3 + 2) = c at z
        rw [if_pos z] at hq; exact hq
    · change cst 5 (k * 3 + 1) = c at z
      rw [if_pos z] at hq; exact hq
  · rw [if_pos z] at hq; exact hq
theorem mcC_item {υ τ : Mem} {M : MS} {k i v : Int} {f : Int → Int} (h : McC υ (mAdd M k f)) (hM : MV M) (hk : 0 ≤ k ∧ k < 4) (hc : M.1 k < cst 3 k) (hi : 0 ≤ i ∧ i < 3) (h18 : τ 18 = υ 18) (h19 : τ 19 = fu (υ 19) (k * 30 + M.1 k * 3 + i) v) : McC τ (mAdd M k (fu f i v)) := by
  refine ⟨fun k' k0 k1 => by rw [h18]; exact h.1 k' k0 k1, fun k' j i' k0 k1 j0 j1 i0 i1 => ?_⟩
  have old := h.2 k' j i' k0 k1 j0 j1 i0 i1
  have c3 := cst3_r (k := k) hk
  have c3' := cst3_r (k := k') ⟨by omega, by omega⟩
  have b := (hM k hk.1 hk.2).1
  have b' := (hM k' k0 k1).1
  change j < fu M.1 k (M.1 k + 1) k' at j1
  have j9 : j ≤ 9 := by
    by_cases e : k' = k
    · rw [e, fu_hit] at j1; omega
    · rw [fu_ne e] at j1; omega
  rw [h19]
  show fu (υ 19) (k * 30 + M.1 k * 3 + i) v (k' * 30 + j * 3 + i') = (if k' = k ∧ j = M.1 k then fu f i v else M.2 k' j) i'
  change υ 19 (k' * 30 + j * 3 + i') = (if k' = k ∧ j = M.1 k then f else M.2 k' j) i' at old
  by_cases e : k' = k ∧ j = M.1 k
  · rw [if_pos e] at old ⊢
    by_cases e2 : i' = i
    · rw [e2, e.1, e.2, fu_hit, fu_hit]
    · rw [fu_ne e2, fu_ne (by rw [e.1, e.2]; omega)]; exact old
  · rw [if_neg e] at old ⊢
    rw [fu_ne (fun z => e (by omega))]; exact old
theorem readItemC {B : Int → Int} {N : Int} (hB : BTp B N) (d : Nat) {k i a : Int} {υ : Mem} (hk : 0 ≤ k ∧ k < 4) (hi : 0 ≤ i ∧ i < 3) (ha : 0 ≤ a ∧ a ≤ N) (ht : TqC υ B N a) (hc : 1 ≤ υ 18 k ∧ υ 18 k ≤ 10) {Q : RV → Mem → Prop} (h0 : ∀ w, nmr B N (cst 6 (k * 3 + i)) (cst 7 (k * 3 + i)) a = .inl w → ∀ τ, Sm υ τ [12, 19] [] → τ 12 1 = N → τ 12 3 = w → Q (rI 0) τ) (h1 : ∀ a' v, nmr B N (cst 6 (k * 3 + i)) (cst 7 (k * 3 + i)) a = .inr (a', v) → ∀ τ, Sm υ τ [12, 19] [] → TqC τ B N a' → τ 19 = fu (υ 19) (k * 30 + (υ 18 k - 1) * 3 + i) v → Q (rI 1) τ) : Cl (d + 3) mMr_readItem [aR 12, aR 17, aI k, aI i] υ Q := by
  have hN := hB.1
  have c67 := cst67_r (j := k * 3 + i) ⟨by omega, by omega⟩
  obtain ⟨p, q⟩ := num_r hB (n := 2) ha
  refine bMr_readItem_in (numC hB d (n := 2) (by decide) ⟨by omega, by omega⟩ ht (fun w e τ s e1 e2 => ⟨by decide, fun z => absurd rfl z, fun _ => h0 w (by unfold nmr; rw [e]) τ (s.mono (by decide) (by decide)) e1 e2⟩) (fun a' v e τ s t => ?_))
  have q1 := q a' v e
  have hv : v < 100 := by have := q1.2.2; omega
  refine ⟨⟨by omega, by omega⟩, fun _ => ⟨(by omega), (by omega), ⟨by omega, by omega⟩, fun z => ?_, fun z => ⟨⟨by omega, by omega⟩, fun y => ?_, fun y => ?_⟩⟩, fun z => absurd z (by omega)⟩
  · rw [t.2.1]
    refine failC (d + 1) t (fun τ2 s2 e1 e2 => ⟨by decide, h0 (a' - 1) (by unfold nmr; rw [e]; exact if_pos (Or.inl z)) τ2 ((s.mono (by decide) (by decide)).trans (s2.mono (by decide) (by decide))) e1 e2⟩)
  · have e18 : τ 18 = υ 18 := s.1 18 rfl
    refine bMk_tellNewest_in ⟨hk.1, hk.2, by rw [e18]; exact ⟨by omega, by omega⟩, fun x => absurd x (by rw [e18]; omega), fun _ => ⟨by rw [e18]; omega, by rw [e18]; omega, ?_⟩⟩
    have sA : Sm υ (ups τ 19 (k * 30 + (τ 18 k - 1) * 3 + i) v) [12, 19] [] := (s.mono (by decide) (by decide)).ups rfl (Or.inl (by decide))
    refine h1 a' v (by unfold nmr; rw [e]; exact if_neg (fun x => by dsimp only at x; omega)) _ sA (t.sm (S := [19]) (J := []) (Sm.refl.ups rfl (Or.inl (by decide))) rfl rfl) ?_
    rw [ups_row, e18, s.1 19 rfl]
  · rw [t.2.1]
    refine failC (d + 1) t (fun τ2 s2 e1 e2 => ⟨by decide, h0 (a' - 1) (by unfold nmr; rw [e]; exact if_pos (Or.inr y)) τ2 ((s.mono (by decide) (by decide)).trans (s2.mono (by decide) (by decide))) e1 e2⟩)
theorem itemsC {B : Int → Int} {N : Int} (hB : BTp B N) (d : Nat) {k : Int} {M : MS} (hM : MV M) (hk : 0 ≤ k ∧ k < 4) (hc : M.1 k < cst 3 k) {Q : RV → Mem → Prop} : ∀ (n : Nat) (a g : Int) (f : Int → Int) (υ : Mem) (u5 : Option AV), n ≤ 4 → 0 ≤ a ∧ a ≤ N → 0 ≤ g ∧ g < 8 → TqC υ B N a → McC υ (mAdd M k f) → (∀ w, mIt B N k n a g f = .inl w → ∀ τ, Sm υ τ [12, 19] [] → τ 12 1 = N → τ 12 3 = w → Q (rI 0) τ) → (∀ a' f', mIt B N k n a g f = .inr (a', f') → ∀ τ, Sm υ τ [12, 19] [] → TqC τ B N a' → McC τ (mAdd M k f') → Q (rI 1) τ) → Ev (d + 4) mMr_readClause 50 [vR 12, vR 17, vI k, vI g, vI (4 - (n : Int)), u5] [] υ Q
  | 0, a, g, f, υ, u5, hn, ha, hg, ht, hm, h0, h1 => by
    refine bMr_readClause_50 ⟨by decide, fun _ => ?_, fun z => absurd z (by decide)⟩
    rw [ht.2.1]
    exact failC (d + 2) ht (fun τ s e1 e2 => ⟨by decide, h0 a rfl τ (s.mono (by decide) (by decide)) e1 e2⟩)
  | n + 1, a, g, f, υ, u5, hn, ha, hg, ht, hm, h0, h1 => by
    have hN := hB.1
    have r := (sk_r (B := B) (N := N) (a := a))
    have r2 := r.2 ha.2
    have ir := iOf_r k (hr B N (sk B N a))
    have b := hB.r (a := sk B N a) (by omega)
    have b0 := (hM k hk.1 hk.2).1
    have c3 := cst3_r hk
    have e18 : υ 18 k = M.1 k + 1 := by rw [hm.1 k hk.1 hk.2]; exact fu_hit
    unfold mIt at h0 h1
    refine bMr_readClause_50 ⟨⟨by omega, by omega⟩, fun z => absurd z (by omega), fun _ => sgC hB (d + 2) ⟨by omega, by omega⟩ ht (fun τ s t => itemC (d + 2) hk ⟨by omega, by omega⟩ ⟨⟨by omega, by omega⟩, fun z => ?_, fun z => ?_⟩)⟩
    · rw [if_neg z] at h0 h1
      have lt : sk B N a < N := by
        by_cases c3 : hr B N (sk B N a) = -1
        · exfalso
          apply z
          rw [c3]
          rcases k4 hk with e | e | e | e <;> subst e <;> rfl
        · exact (b.2.2 c3).1
      generalize iOf k (hr B N (sk B N a)) = i at *
      have sh := i_shr1 (s := g) (t := i) ⟨by omega, by omega⟩ ⟨by omega, by omega⟩
      refine ⟨rg_and _ _, fun y => ?_, fun y => ?_⟩
      · have nb : ¬ bt g i = true := fun q => by rw [if_pos q] at sh; exact y sh
        rw [if_neg nb] at h0 h1
        rw [t.2.1]
        have t2 := t.to (sk B N a + 1)
        have s2 : Sm υ (ups τ 12 2 (sk B N a + 1)) [12] [] := s.ups rfl (Or.inl (by decide))
        generalize (ups τ 12 2 (sk B N a + 1)) = τ2 at *
        have f18 : τ2 18 = υ 18 := s2.1 18 rfl
        refine readItemC hB d hk (i := i) ⟨by omega, by omega⟩ ⟨by omega, by omega⟩ t2 (by rw [f18, e18]; exact ⟨by omega, by omega⟩) (fun w e τ3 s3 e1 e2 => ⟨by decide, fun q => absurd rfl q, fun _ => ?_⟩) (fun a' v e τ3 s3 t3 e19 => ⟨by decide, fun _ => ?_, fun q => absurd q (by decide)⟩)
        · rw [e] at h0
          exact h0 w rfl τ3 ((s2.mono (by decide) (by decide)).trans s3) e1 e2
        · rw [e] at h0 h1
          dsimp only at h0 h1
          rw [f18, e18, s2.1 19 rfl, show M.1 k + 1 - 1 = M.1 k by omega] at e19
          have sA : Sm υ τ3 [12, 19] [] := (s2.mono (by decide) (by decide)).trans s3
          have m2 := mcC_item (v := v) hm hM hk hc (i := i) ⟨by omega, by omega⟩ (sA.1 18 rfl) e19
          obtain ⟨-, q2⟩ := nmr_r hB (lo := cst 6 (k * 3 + i)) (hi := cst 7 (k * 3 + i)) (a := sk B N a + 1) ⟨by omega, by omega⟩
          have q3 := q2 a' v e
          have il := ins_lt (m := 3) (s := g) (t := i) ⟨by omega, by omega⟩ ⟨by omega, by omega⟩ (by decide)
          have := itemsC hB d hM hk hc n a' (ins g i) (fu f i v) τ3 (vI i) (by omega) ⟨by omega, by omega⟩ ⟨by omega, by omega⟩ t3 m2 (fun w e τ4 s4 e1 e2 => h0 w e τ4 (sA.trans s4) e1 e2) (fun a'' f'' e τ4 s4 t4 m4 => h1 a'' f'' e τ4 (sA.trans s4) t4 m4)
          rw [show (4 : Int) - (n : Int) = 4 - ((n + 1 : Nat) : Int) + 1 by omega] at this
          exact this
      · have nb : bt g i = true := by
          by_cases q : bt g i = true
          · exact q
          · rw [if_neg q, y] at sh; cases sh
        rw [if_pos nb] at h0
        rw [t.2.1]
        exact failC (d + 2) t (fun τ2 s2 e1 e2 => ⟨by decide, h0 _ rfl τ2 ((s.mono (by decide) (by decide)).trans (s2.mono (by decide) (by decide))) e1 e2⟩)
    · rw [if_pos z] at h1
      exact h1 _ f rfl τ (s.mono (by decide) (by decide)) t (mcC_sm hm (s.1 18 rfl) (s.1 19 rfl))
theorem clauseC {B : Int → Int} {N : Int} (hB : BTp B N) (d : Nat) {a : Int} {M : MS} {υ : Mem} (hM : MV M) (ha : 0 ≤ a ∧ a ≤ N) (ht : TqC υ B N a) (hm : McC υ M) {Q : RV → Mem → Prop} (h0 : ∀ w, mCl B N M a = .inl w → ∀ τ, Sm υ τ [12, 18, 19] [] → τ 12 1 = N → τ 12 3 = w → Q (rI 0) τ) (h1 : ∀ a' M', mCl B N M a = .inr (a', M') → ∀ τ, Sm υ τ [12, 18, 19] [] → TqC τ B N a' → McC τ M' → Q (rI 1) τ) : Cl (d + 4) mMr_readClause [aR 12, aR 17] υ Q := by
  have hN := hB.1
  have r := (sk_r (B := B) (N := N) (a := a))
  have r2 := r.2 ha.2
  have kr := kOf_r (hr B N (sk B N a))
  have b := hB.r (a := sk B N a) (by omega)
  unfold mCl at h0 h1
  refine bMr_readClause_in (sgC hB (d + 2) ⟨by omega, by omega⟩ ht (fun τ s t => kindC (d + 2) ⟨by omega, by omega⟩ ⟨⟨by omega, by omega⟩, fun z => ?_, fun z => ?_⟩))
  · rw [if_pos (Or.inl z)] at h0
    rw [t.2.1]
    exact failC (d + 2) t (fun τ2 s2 e1 e2 => ⟨by decide, h0 _ rfl τ2 ((s.mono (by decide) (by decide)).trans (s2.mono (by decide) (by decide))) e1 e2⟩)
  · have lt : sk B N a < N := by
      by_cases c3 : hr B N (sk B N a) = -1
      · exfalso
        apply z
        rw [c3]
        rfl
      · exact (b.2.2 c3).1
    generalize kOf (hr B N (sk B N a)) = k at *
    have hk : 0 ≤ k ∧ k < 4 := by omega
    have c3 := cst3_r hk
    have bk := (hM k hk.1 hk.2).1
    have e18 : τ 18 k = M.1 k := by rw [s.1 18 rfl]; exact hm.1 k hk.1 hk.2
    refine bMk_isFull_in ⟨hk.1, hk.2, by rw [e18]; exact ⟨by omega, by omega⟩, ⟨by omega, by omega⟩, fun y => ⟨by decide, fun _ => ?_, fun q => absurd rfl q⟩, fun y => ⟨by decide, fun q => absurd q (by decide), fun _ => ?_⟩⟩
    · rw [e18] at y
      rw [if_neg (fun q => by rcases q with q | q <;> omega)] at h0 h1
      rw [t.2.1]
      have t2 := t.to (sk B N a + 1)
      have s2 : Sm υ (ups τ 12 2 (sk B N a + 1)) [12] [] := s.ups rfl (Or.inl (by decide))
      generalize (ups τ 12 2 (sk B N a + 1)) = τ2 at *
      have f18 : τ2 18 k = M.1 k := by rw [s2.1 18 rfl]; exact hm.1 k hk.1 hk.2
      refine bMk_add_in ⟨hk.1, hk.2, (by omega), by rw [f18]; omega, (by omega), by rw [f18]; omega, ?_⟩
      rw [f18]
      have s3 : Sm υ (ups (su τ2 19 (cpy (cst 4) (τ2 19) (k * 3) (k * 30 + M.1 k * 3) 3)) 18 k (M.1 k + 1)) [12, 18, 19] [] := ((s2.mono (by decide) (by decide)).su rfl (by decide)).ups rfl (Or.inl (by decide))
      have t3 : TqC (ups (su τ2 19 (cpy (cst 4) (τ2 19) (k * 3) (k * 30 + M.1 k * 3) 3)) 18 k (M.1 k + 1)) B N (sk B N a + 1) := t2.sm (S := [18, 19]) (J := []) ((Sm.refl.su rfl (by decide)).ups rfl (Or.inl (by decide))) rfl rfl
      have m3 : McC (ups (su τ2 19 (cpy (cst 4) (τ2 19) (k * 3) (k * 30 + M.1 k * 3) 3)) 18 k (M.1 k + 1)) (mAdd M k (usM k)) := by
        refine ⟨fun k' k0 k1 => ?_, fun k' j i k0 k1 j0 j1 i0 i1 => ?_⟩
        · show _ = fu M.1 k (M.1 k + 1) k'
          by_cases e : k' = k
          · rw [e, ups_hit, fu_hit]
          · rw [ups_fn e, fu_ne e, su_ne (by decide), s2.1 18 rfl]; exact hm.1 k' k0 k1
        · have c3' := cst3_r (k := k') ⟨by omega, by omega⟩
          have b' := (hM k' k0 k1).1
          change j < fu M.1 k (M.1 k + 1) k' at j1
          show _ = (if k' = k ∧ j = M.1 k then usM k else M.2 k' j) i
          rw [ups_ne (by decide), su_eq]
          have j9 : j ≤ 9 := by
            by_cases e : k' = k
            · rw [e, fu_hit] at j1; omega
            · rw [fu_ne e] at j1; omega
          by_cases e : k' = k ∧ j = M.1 k
          · rw [if_pos e]
            unfold cpy usM
            rw [if_pos (by rw [e.1, e.2]; omega)]
            congr 1
            rw [e.1, e.2]; omega
          · rw [if_neg e]
            unfold cpy
            rw [if_neg (fun q => e (by omega)), s2.1 19 rfl]
            refine hm.2 k' j i k0 k1 j0 ?_ i0 i1
            by_cases e2 : k' = k
            · rw [e2, fu_hit] at j1; rw [e2] at e; rw [e2]; omega
            · rw [fu_ne e2] at j1; exact j1
      have hi := itemsC (Q := Q) hB d hM hk y 4 (sk B N a + 1) 0 (usM k) _ vU (by decide) ⟨by omega, by omega⟩ (by decide) t3 m3 (fun w e τ4 s4 e1 e2 => by
        rw [e] at h0
        exact h0 w rfl τ4 (s3.trans (s4.mono (by decide) (by decide))) e1 e2) (fun a' f' e τ4 s4 t4 m4 => by
        rw [e] at h1
        exact h1 a' _ rfl τ4 (s3.trans (s4.mono (by decide) (by decide))) t4 m4)
      exact hi
    · rw [e18] at y
      rw [if_pos (Or.inr y)] at h0
      rw [t.2.1]
      exact failC (d + 2) t (fun τ2 s2 e1 e2 => ⟨by decide, h0 _ rfl τ2 ((s.mono (by decide) (by decide)).trans (s2.mono (by decide) (by decide))) e1 e2⟩)
theorem told17 {υ : Mem} {M : MS} (hM : MV M) (hm : McC υ M) (d : Nat) {k j i : Int} (hk : 0 ≤ k ∧ k < 4) (hj : 0 ≤ j ∧ j < M.1 k) (hi : 0 ≤ i ∧ i < cst 8 k) (h8 : cst 8 k ≤ 3) {Q : RV → Mem → Prop} (h : Q (rI (M.2 k j i)) υ) : Cl (d + 1) mMk_told [aR 17, aI k, aI j, aI i] υ Q := by
  have c3 := cst3_r hk
  have bk := (hM k hk.1 hk.2).1
  have e18 := hm.1 k hk.1 hk.2
  have e19 := hm.2 k j i hk.1 hk.2 hj.1 hj.2 hi.1 (by omega)
  refine bMk_told_r17_in ⟨⟨by omega, by omega⟩, fun z => absurd z (by omega), fun _ => ⟨hk.1, hk.2, by rw [e18]; exact ⟨by omega, by omega⟩, fun z => absurd z (by rw [e18]; omega), fun _ => ⟨⟨by omega, by omega⟩, fun z => absurd z (by omega), fun _ => ⟨⟨by omega, by omega⟩, fun _ => ⟨(by omega), (by omega), ?_⟩, fun z => absurd z (by omega)⟩⟩⟩⟩
  rw [e19]; exact h
theorem joinsC {υ : Mem} {M : MS} (hM : MV M) (hm : McC υ M) (d : Nat) {k : Int} (hk : k = 2 ∨ k = 3) {Q : RV → Mem → Prop} (h1 : allB (jnOk M k) (M.1 k).toNat = true → Q (rI 1) υ) (h0 : allB (jnOk M k) (M.1 k).toNat = false → Q (rI 0) υ) : Cl (d + 2) mMk_joinsThings [aR 17, aI k] υ Q := by
  have hk4 : 0 ≤ k ∧ k < 4 := by omega
  have c3 := cst3_r hk4
  have bk := (hM k hk4.1 hk4.2)
  have b0 := (hM 0 (by decide) (by decide)).1
  have c30 := cst3_r (k := 0) (by decide)
  have e18 := hm.1 k hk4.1 hk4.2
  have e180 := hm.1 0 (by decide) (by decide)
  have c8 : 2 ≤ cst 8 k ∧ cst 8 k ≤ 3 := by rcases hk with e | e <;> subst e <;> decide
  refine bMk_joinsThings_in ?_
  have key : ∀ (n : Nat) (j : Int) (u3 u4 : Option AV), 0 ≤ j → j + (n : Int) = M.1 k → (∀ j', 0 ≤ j' → j' < j → jnOk M k j' = true) → Ev (d + 2) mMk_joinsThings 2 [vR 17, vI k, vI j, u3, u4] [] υ Q := by
    intro n
    induction n with
    | zero =>
      intro j u3 u4 j0 j1 lo
      refine bMk_joinsThings_2 ⟨hk4.1, hk4.2, ⟨by omega, by omega⟩, by rw [e18]; exact ⟨by omega, by omega⟩, fun _ => h1 (allB_iff.mpr (fun i i0 i1 => lo i i0 (by omega))), fun z => absurd z (by rw [e18]; omega)⟩
    | succ n ih =>
      intro j u3 u4 j0 j1 lo
      have v0 := bk.2 j j0 (by omega) 0 (by decide) (by decide)
      have v1 := bk.2 j j0 (by omega) 1 (by decide) (by decide)
      have c0 := cst67_r (j := k * 3 + 0) ⟨by omega, by omega⟩
      have c1 := cst67_r (j := k * 3 + 1) ⟨by omega, by omega⟩
      have no : jnOk M k j = false → Q (rI 0) υ := fun z => h0 (by
        cases c : allB (jnOk M k) (M.1 k).toNat
        · rfl
        · have := allB_iff.mp c j j0 (by omega)
          rw [z] at this; cases this)
      refine bMk_joinsThings_2 ⟨hk4.1, hk4.2, ⟨by omega, by omega⟩, by rw [e18]; exact ⟨by omega, by omega⟩, fun z => absurd z (by rw [e18]; omega), fun _ => told17 hM hm d hk4 (j := j) ⟨by omega, by omega⟩ (i := 0) (by omega) c8.2 (told17 hM hm d hk4 (j := j) ⟨by omega, by omega⟩ (i := 1) (by omega) c8.2 ⟨⟨by omega, by omega⟩, ⟨by omega, by omega⟩, fun z => no ?_, fun z => ⟨by rw [e180]; exact ⟨by omega, by omega⟩, fun y => ⟨fun x => ih (j + 1) _ _ (by omega) (by omega) (fun j' a b => ?_), fun x => no ?_⟩, fun y => no ?_⟩⟩)⟩
      · exact decide_eq_false (fun q => q.1 z)
      · by_cases e : j' = j
        · rw [e]
          rw [e180] at x y
          exact decide_eq_true ⟨z, y.2, x.2⟩
        · exact lo j' a (by omega)
      · rw [e180] at x
        exact decide_eq_false (fun q => x ⟨by omega, q.2.2⟩)
      · rw [e180] at y
        exact decide_eq_false (fun q => y ⟨by omega, q.2.1⟩)
  exact key (M.1 k).toNat 0 vU vU (by decide) (by omega) (fun j' a b => absurd b (by omega))
theorem wholeC {υ : Mem} {M : MS} (hM : MV M) (hm : McC υ M) (d : Nat) {Q : RV → Mem → Prop} (h1 : whM M = true → Q (rI 1) υ) (h0 : whM M = false → Q (rI 0) υ) : Cl (d + 3) mMk_isWhole [aR 17] υ Q := by
  have b0 := (hM 0 (by decide) (by decide)).1
  have b1 := (hM 1 (by decide) (by decide))
  have c30 := cst3_r (k := 0) (by decide)
  have c31 := cst3_r (k := 1) (by decide)
  have e180 := hm.1 0 (by decide) (by decide)
  have e181 := hm.1 1 (by decide) (by decide)
  unfold whM at h1 h0
  have no1 : ¬ (2 ≤ M.1 0 ∧ 1 ≤ M.1 1) → Q (rI 0) υ := fun z => h0 (by rw [decide_eq_false z]; rfl)
  refine bMk_isWhole_in ⟨by rw [e180]; exact ⟨by omega, by omega⟩, fun z => no1 (fun q => by rw [e180] at z; omega), fun z => ⟨by rw [e181]; exact ⟨by omega, by omega⟩, fun y => ?_, fun y => no1 (fun q => by rw [e181] at y; omega)⟩⟩
  rw [e180] at z
  rw [e181] at y
  rw [decide_eq_true (show 2 ≤ M.1 0 ∧ 1 ≤ M.1 1 from ⟨z, y⟩), Bool.true_and] at h1 h0
  have key : ∀ (n : Nat) (j : Int) (u2 : Option AV), 0 ≤ j → j + (n : Int) = M.1 1 → (∀ j', 0 ≤ j' → j' < j → lkOk M j' = true) → Ev (d + 3) mMk_isWhole 24 [vR 17, vI j, u2] [] υ Q := by
    intro n
    induction n with
    | zero =>
      intro j u2 j0 j1 lo
      have al : allB (lkOk M) (M.1 1).toNat = true := allB_iff.mpr (fun i i0 i1 => lo i i0 (by omega))
      rw [al, Bool.true_and] at h1 h0
      refine bMk_isWhole_24 ⟨⟨by omega, by omega⟩, by rw [e181]; exact ⟨by omega, by omega⟩, fun _ => joinsC hM hm d (Or.inl rfl) (fun q => ⟨by decide, fun x => absurd x (by decide), fun _ => ?_⟩) (fun q => ⟨by decide, fun _ => h0 (by rw [q]; rfl), fun x => absurd rfl x⟩), fun z => absurd z (by rw [e181]; omega)⟩
      rw [q, Bool.true_and] at h1 h0
      exact joinsC hM hm d (Or.inr rfl) (fun q => ⟨by decide, fun x => absurd x (by decide), fun _ => h1 q⟩) (fun q => ⟨by decide, fun _ => h0 q, fun x => absurd rfl x⟩)
    | succ n ih =>
      intro j u2 j0 j1 lo
      have v2 := b1.2 j j0 (by omega) 2 (by decide) (by decide)
      have c2 := cst67_r (j := 1 * 3 + 2) (by decide)
      have no : lkOk M j = false → Q (rI 0) υ := fun z => h0 (by
        cases c : allB (lkOk M) (M.1 1).toNat
        · rfl
        · have := allB_iff.mp c j j0 (by omega)
          rw [z] at this; cases this)
      have nx : lkOk M j = true → ∀ u2, Ev (d + 3) mMk_isWhole 24 [vR 17, vI (j + 1), u2] [] υ Q := fun z u2 => ih (j + 1) u2 (by omega) (by omega) (fun j' a b => by
        by_cases e : j' = j
        · rw [e]; exact z
        · exact lo j' a (by omega))
      refine bMk_isWhole_24 ⟨⟨by omega, by omega⟩, by rw [e181]; exact ⟨by omega, by omega⟩, fun z => absurd z (by rw [e181]; omega), fun _ => told17 hM hm (d + 1) (k := 1) (by decide) (j := j) ⟨by omega, by omega⟩ (i := 2) (by decide) (by decide) ⟨⟨by omega, by omega⟩, fun z => nx (decide_eq_true (Or.inl z)) _, fun z => ⟨by rw [e180]; exact ⟨by omega, by omega⟩, fun y => nx (decide_eq_true (Or.inr (by rw [e180] at y; exact y.2))) _, fun y => no (decide_eq_false (fun q => ?_))⟩⟩⟩
      rw [e180] at y
      rcases q with q | q
      · exact z q
      · exact y ⟨by omega, q⟩
  exact key (M.1 1).toNat 0 vU (by decide) (by omega) (fun j' a b => absurd b (by omega))
theorem mreadC {B : Int → Int} {N : Int} (hB : BTp B N) (d : Nat) {Q : RV → Mem → Prop} : ∀ (n : Nat) (i a : Int) (M : MS) (υ : Mem), 0 ≤ i → i + (n : Int) = 241 → MV M → 0 ≤ a ∧ a ≤ N → TqC υ B N a → McC υ M → (∀ w, mRd B N n a M = .inl w → ∀ τ, Sm υ τ [12, 18, 19] [] → τ 12 1 = N → τ 12 3 = w → Q (rI 0) τ) → (∀ M', mRd B N n a M = .inr M' → ∀ τ, Sm υ τ [12, 18, 19] [] → τ 12 1 = N → McC τ M' → Q (rI 1) τ) → Ev (d + 5) mMr_read 10 [vR 12, vR 17, vI i] [] υ Q
  | 0, i, a, M, υ, i0, hi, hM, ha, ht, hm, h0, h1 => by
    refine bMr_read_10 ⟨⟨by omega, by omega⟩, fun _ => ?_, fun z => absurd z (by omega)⟩
    rw [ht.1]
    exact failC (d + 3) ht (fun τ s e1 e2 => ⟨by decide, h0 N rfl τ (s.mono (by decide) (by decide)) e1 e2⟩)
  | n + 1, i, a, M, υ, i0, hi, hM, ha, ht, hm, h0, h1 => by
    have hN := hB.1
    obtain ⟨-, q⟩ := mCl_r hB hM ha
    unfold mRd at h0 h1
    refine bMr_read_10 ⟨⟨by omega, by omega⟩, fun z => absurd z (by omega), fun _ => clauseC hB d hM ha ht hm (fun w e τ s e1 e2 => ⟨by decide, fun z => absurd rfl z, fun _ => ?_⟩) (fun a' M' e τ s t m => ⟨by decide, fun _ => ?_, fun z => absurd z (by decide)⟩)⟩
    · rw [e] at h0
      exact h0 w rfl τ s e1 e2
    · rw [e] at h0 h1
      dsimp only at h0 h1
      obtain ⟨q1, q2, q3⟩ := q a' M' e
      refine overC hB (d + 2) ⟨by omega, by omega⟩ t (fun z τ2 s2 t2 => ⟨by decide, fun y => absurd y (by decide), fun _ => ?_⟩) (fun z τ2 s2 t2 => ⟨by decide, fun _ => ?_, fun y => absurd rfl y⟩)
      · rw [sk_id q2] at z t2
        rw [if_pos z] at h0 h1
        have sA : Sm υ τ2 [12, 18, 19] [] := s.trans (s2.mono (by decide) (by decide))
        have m2 := mcC_sm m (s2.1 18 rfl) (s2.1 19 rfl)
        refine wholeC q3 m2 (d + 1) (fun y => ⟨by decide, fun _ => ?_, fun x => absurd x (by decide)⟩) (fun y => ⟨by decide, fun x => absurd rfl x, fun _ => ?_⟩)
        · rw [if_pos y] at h1
          exact h1 M' rfl τ2 sA t2.1 m2
        · rw [if_neg (by rw [y]; decide)] at h0
          rw [t2.1]
          exact failC (d + 3) t2 (fun τ3 s3 e1 e2 => ⟨by decide, fun _ => h0 N rfl τ3 (sA.trans (s3.mono (by decide) (by decide))) e1 e2, fun x => absurd rfl x⟩)
      · rw [sk_id q2] at z t2
        rw [if_neg z] at h0 h1
        have m2 := mcC_sm m (s2.1 18 rfl) (s2.1 19 rfl)
        have sA : Sm υ τ2 [12, 18, 19] [] := s.trans (s2.mono (by decide) (by decide))
        have b := hB.r (a := a') (by omega)
        have lt := (b.2.2 z).1
        refine expC hB (d + 2) ⟨by omega, by omega⟩ (by decide) t2 (fun y τ3 s3 t3 => ⟨by decide, fun _ => ?_, fun x => absurd x (by decide)⟩) (fun y τ3 s3 e1 e2 => ⟨by decide, fun x => absurd rfl x, fun _ => ?_⟩)
        · rw [sk_id q2] at y t3
          rw [if_pos y] at h0 h1
          have sB : Sm υ τ3 [12, 18, 19] [] := sA.trans (s3.mono (by decide) (by decide))
          exact mreadC hB d n (i + 1) (a' + 1) M' τ3 (by omega) (by omega) q3 ⟨by omega, by omega⟩ t3 (mcC_sm m2 (s3.1 18 rfl) (s3.1 19 rfl)) (fun w e τ4 s4 e1 e2 => h0 w e τ4 (sB.trans s4) e1 e2) (fun M'' e τ4 s4 e1 m4 => h1 M'' e τ4 (sB.trans s4) e1 m4)
        · rw [sk_id q2] at y e2
          rw [if_neg y] at h0
          exact h0 a' rfl τ3 (sA.trans (s3.mono (by decide) (by decide))) e1 e2
def MS0 : MS := (fun _ => 0, fun _ _ _ => 0)
theorem mv_0 : MV MS0 := fun k k0 k1 => ⟨⟨Int.le_refl _, by have := cst3_r (k := k) ⟨k0, k1⟩; show (0 : Int) ≤ cst 3 k; omega⟩, fun j j0 j1 => absurd j1 (by show ¬ j < 0; omega)⟩
theorem marketC {B : Int → Int} {N : Int} (hB : BTp B N) (d : Nat) {υ : Mem} (h1' : υ 12 1 = N) (h13 : ∀ i, 0 ≤ i → i < N → υ 13 i = B i) {Q : RV → Mem → Prop} (h0 : ∀ w, mRd B N 241 0 MS0 = .inl w → ∀ τ, Sm υ τ [12, 18, 19] [] → τ 12 1 = N → τ 12 3 = w → Q (rI 0) τ) (h1 : ∀ M', mRd B N 241 0 MS0 = .inr M' → ∀ τ, Sm υ τ [12, 18, 19] [] → τ 12 1 = N → McC τ M' → Q (rI 1) τ) : Cl (d + 5) mMr_read [aR 12, aR 17] υ Q := by
  have hN := hB.1
  refine bMr_read_in (bMk_clear_in (d := d + 2) (bJ_fill_r18_in ?_))
  -- all counts are 0
  refine loop_up (G := fun i => ∀ τ, Sm υ τ [18] [] → (∀ k, 0 ≤ k → k < i → τ 18 k = 0) → Ev (d + 3) mJ_fill 5 [vR 18, vI 0, vI i, vI 4] [] τ _) (hi := 4) _ 0 rfl (by decide) (fun i i0 i1 g => ?_) ?_ υ Sm.refl (fun k a b => absurd b (by omega))
  · intro τ s lo
    refine bJ_fill_r18_5 ⟨⟨by omega, by omega⟩, by decide, fun z => absurd z (by omega), fun _ => ⟨i0, i1, g _ (s.ups rfl (Or.inl (by decide))) (fun k a b => ?_)⟩⟩
    by_cases e : k = i
    · rw [e, ups_hit]
    · rw [ups_fn e]; exact lo k a (by omega)
  · intro τ s lo
    refine bJ_fill_r18_5 ⟨by decide, by decide, fun _ => bTa_rewind_in (d := d + 3) ?_, fun z => absurd z (by decide)⟩
    have s2 : Sm υ (ups (ups τ 12 2 0) 12 3 (-1)) [12, 18, 19] [] := ((s.mono (by decide) (by decide)).ups rfl (Or.inl (by decide))).ups rfl (Or.inl (by decide))
    refine mreadC hB d 241 0 0 MS0 _ (by decide) (by decide) mv_0 ⟨by omega, by omega⟩ ⟨?_, ?_, fun i i0 i1 => ?_⟩ ⟨fun k k0 k1 => ?_, fun k j i k0 k1 j0 j1 => absurd j1 (by show ¬ j < 0; omega)⟩ (fun w e τ2 s3 e1 e2 => h0 w e τ2 (s2.trans s3) e1 e2) (fun M e τ2 s3 e1 m => h1 M e τ2 (s2.trans s3) e1 m)
    · rw [ups_fn (by decide), ups_fn (by decide), s.1 12 rfl]; exact h1'
    · rw [ups_fn (by decide), ups_hit]
    · rw [ups_ne (by decide), ups_ne (by decide), s.1 13 rfl]; exact h13 i i0 i1
    · rw [ups_ne (by decide), ups_ne (by decide)]; exact lo k k0 k1
