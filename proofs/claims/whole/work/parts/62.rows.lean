/-! ===== ROWS THAT ARE THE SAME WHERE THEY ARE READ; COPIES ===== -/
theorem RowR.cg {c m c' m' : Int → Int} (h : RowR c m) (hk : 0 ≤ m 73 ∧ m 73 ≤ 8) (hl : 0 ≤ m 114 ∧ m 114 ≤ 60) (hc : ∀ i, 0 ≤ i → i < 175 → c' i = c i) (hm : ∀ i, 0 ≤ i → i < 355 → m' i = m i) : RowR c' m' := by
  obtain ⟨⟨a1, a2, a3⟩, b, e, f, g⟩ := h
  refine ⟨⟨?_, ?_, ?_⟩, fun p p0 p1 => ?_, fun i i0 i1 => ?_, fun i i0 i1 => ?_, fun i i0 i1 => ?_⟩
  · rw [hc 0 (by omega) (by omega), hm 72 (by omega) (by omega)]; exact a1
  · rw [hc 1 (by omega) (by omega), hm 73 (by omega) (by omega)]; exact a2
  · rw [hc 2 (by omega) (by omega), hm 114 (by omega) (by omega)]; exact a3
  · rw [hc _ (by omega) (by omega), hc _ (by omega) (by omega), hc _ (by omega) (by omega), hc _ (by omega) (by omega), hm _ (by omega) (by omega), hm _ (by omega) (by omega), hm _ (by omega) (by omega), hm _ (by omega) (by omega)]; exact b p p0 p1
  · rw [hc _ (by omega) (by omega), hm _ (by omega) (by omega)]; exact e i i0 i1
  · rw [hm 73 (by omega) (by omega)] at i1
    rw [hc _ (by omega) (by omega), hm _ (by omega) (by omega)]; exact f i i0 i1
  · rw [hm 114 (by omega) (by omega)] at i1 ⊢
    rw [hc _ (by omega) (by omega), hm _ (by omega) (by omega), hm _ (by omega) (by omega), hm _ (by omega) (by omega), hm _ (by omega) (by omega)]; exact g i i0 i1
theorem RowV.cg {T P : Int} {m m' : Int → Int} (h : RowV T P m) (hm : ∀ i, 0 ≤ i → i < 355 → m' i = m i) : RowV T P m' := by
  obtain ⟨a, b, c, d, e, f, g, k, l, n⟩ := h
  have s1 : sumI (fun i => m' (54 + i)) 6 = sumI (fun i => m (54 + i)) 6 := sumI_congr (fun i i0 i1 => hm _ (by omega) (by omega))
  have s2 : sumI m' 48 = sumI m 48 := sumI_congr (fun i i0 i1 => hm _ (by omega) (by omega))
  have s3 : sumI (fun i => m' (60 + i)) 6 = sumI (fun i => m (60 + i)) 6 := sumI_congr (fun i i0 i1 => hm _ (by omega) (by omega))
  refine ⟨fun i i0 i1 => ?_, fun p p0 p1 => ?_, ?_, ?_, fun p p0 p1 => ?_, ?_, ?_, fun i i0 i1 => ?_, ?_, fun i i0 i1 => ?_⟩
  · rw [hm _ (by omega) (by omega)]; exact a i i0 i1
  · rw [hm _ (by omega) (by omega)]; exact b p p0 p1
  · rw [s1, s2, hm 73 (by omega) (by omega)]; exact c
  · rw [s3]; exact d
  · rw [hm _ (by omega) (by omega)]; exact e p p0 p1
  · rw [hm _ (by omega) (by omega)]; exact f
  · rw [hm _ (by omega) (by omega)]; exact g
  · rw [hm 73 (by omega) (by omega)] at i1
    unfold PledV
    rw [hm 72 (by omega) (by omega), hm _ (by omega) (by omega), hm _ (by omega) (by omega), hm _ (by omega) (by omega), hm _ (by omega) (by omega), hm _ (by omega) (by omega)]; exact k i i0 i1
  · rw [hm _ (by omega) (by omega)]; exact l
  · rw [hm 114 (by omega) (by omega)] at i1
    unfold LogV
    rw [hm _ (by omega) (by omega), hm _ (by omega) (by omega), hm _ (by omega) (by omega), hm _ (by omega) (by omega)]; exact n i i0 i1
theorem RowV.n73 {T P : Int} {m : Int → Int} (h : RowV T P m) : 0 ≤ m 73 ∧ m 73 ≤ 8 := h.2.2.2.2.2.2.1
theorem RowV.n114 {T P : Int} {m : Int → Int} (h : RowV T P m) : 0 ≤ m 114 ∧ m 114 ≤ 60 := h.2.2.2.2.2.2.2.2.1
theorem Sm.trans {σ τ υ : Mem} {S : List Nat} {J : List Int} (h : Sm σ τ S J) (g : Sm τ υ S J) : Sm σ υ S J := ⟨fun a ha => by rw [g.1 a ha, h.1 a ha], fun j hj => by rw [g.2 j hj, h.2 j hj]⟩
/-- what an act may change -/
def actL : List Nat := [0, 11, 12, 64, 17, 18, 19, 28, 39, 44, 45, 46, 47, 48, 49, 50, 51, 52, 53, 54, 62, 63, 73, 74, 75, 76, 77, 78, 91, 92, 100, 38, 41, 42, 43, 81, 90, 99]
def actJ : List Int := [0, 3, 4, 5, 14, 21, 22, 23, 24, 45, 48, 49, 50, 51, 52, 61, 63]
theorem Inv.act {σ τ : Mem} (h : Inv σ) (hs : Sm σ τ actL actJ) (h0 : τ 0 0 = σ 0 0) (h11 : τ 11 14 = σ 11 14) (h12 : τ 12 1 = σ 12 1) (hR : RowR (τ 38) (τ 81)) (hV : RowV (σ 64 37) (σ 64 38) (τ 81)) (hP : PastI τ) (hG : ImgI τ) (hC : CellI τ) : Inv τ := by
  obtain ⟨⟨a1, a2, -, -⟩, ⟨-, -, b3, -⟩, c1, d1, e1⟩ := h
  obtain ⟨f, k⟩ := hs
  refine ⟨⟨a1.cg h12 (k 2 rfl) (f 13 rfl) (f 65 rfl), a2.cg ⟨⟨f 15 rfl, f 16 rfl⟩, ⟨k 37 rfl, k 38 rfl, k 39 rfl, k 40 rfl⟩, f 82 rfl, f 83 rfl, f 84 rfl, f 85 rfl, f 86 rfl, f 87 rfl, f 88 rfl, f 89 rfl⟩, hR, ?_⟩, ⟨hP, hG, b3.cg (f 55 rfl) (k 55 rfl) (k 60 rfl) ⟨f 56 rfl, f 57 rfl, f 58 rfl, f 59 rfl, f 60 rfl, f 61 rfl⟩ ⟨f 93 rfl, f 94 rfl, f 95 rfl, f 96 rfl, f 97 rfl, f 98 rfl⟩ (k 37 rfl) (k 38 rfl), hC⟩, c1.cg (by rw [f 29 rfl]) (k 27 rfl) (f 30 rfl) (f 36 rfl) (f 79 rfl) (f 80 rfl), d1.cg (by rw [f 20 rfl]) (by rw [f 20 rfl]) (k 13 rfl) (k 42 rfl) ⟨f 21 rfl, f 27 rfl⟩ ⟨f 66 rfl, f 67 rfl, f 69 rfl, f 70 rfl, f 71 rfl, f 72 rfl⟩, e1.cg h11 (k 41 rfl) (k 43 rfl) (f 1 rfl) h0 (by rw [f 40 rfl]; exact e1.2.2.2.2)⟩
  rw [k 37 rfl, k 38 rfl]; exact hV
/-- the first i of f from o on in g -/
def cpn (f g : Int → Int) (o i : Int) : Int → Int := fun j => if o ≤ j ∧ j < o + i then f (j - o) else g j
theorem cpn_0 {f g : Int → Int} {o : Int} : cpn f g o 0 = g := by
  funext j; unfold cpn; exact if_neg (fun q => by omega)
theorem cpn_S {f g : Int → Int} {o i : Int} (hi : 0 ≤ i) : fu (cpn f g o i) (o + i) (f i) = cpn f g o (i + 1) := by
  funext j
  unfold fu cpn
  by_cases e : j = o + i
  · rw [if_pos e, if_pos (by omega), show j - o = i by omega]
  · rw [if_neg e]
    by_cases q : o ≤ j ∧ j < o + i
    · rw [if_pos q, if_pos (by omega)]
    · rw [if_neg q, if_neg (by omega)]
theorem su_id {σ : Mem} {a : Nat} : su σ a (σ a) = σ := by
  funext b; unfold su
  by_cases e : b = a
  · rw [if_pos e, e]
  · rw [if_neg e]
theorem ups_su {σ : Mem} {a : Nat} {h : Int → Int} {i v : Int} : ups (su σ a h) a i v = su σ a (fu h i v) := by
  funext b; unfold ups
  by_cases e : b = a
  · rw [e, su_eq, su_eq, su_eq]
  · rw [su_ne e, su_ne e, su_ne e]
/-- a loop that copies row f (elsewhere) into row a from o on -/
theorem loop_cp {σ : Mem} {a : Nat} {f : Int → Int} {o n : Int} {E : Int → Mem → Prop} (hn : 0 ≤ n) (step : ∀ i, 0 ≤ i → i < n → E (i + 1) (ups (su σ a (cpn f (σ a) o i)) a (o + i) (f i)) → E i (su σ a (cpn f (σ a) o i))) (fin : E n (su σ a (cpn f (σ a) o n))) : E 0 σ := by
  have key := loop_up (G := fun i => E i (su σ a (cpn f (σ a) o i))) (hi := n) _ 0 rfl hn (fun j j0 j1 h => by
    refine step j j0 j1 ?_
    rw [ups_su, cpn_S j0]
    exact h) fin
  have key2 : E 0 (su σ a (cpn f (σ a) o 0)) := key
  rw [cpn_0, su_id] at key2
  exact key2
theorem sumI_bd {f : Int → Int} {a b : Int} : ∀ {n : Nat}, (∀ i : Int, 0 ≤ i → i < (n : Int) → a ≤ f i ∧ f i ≤ b) → a * n ≤ sumI f n ∧ sumI f n ≤ b * n
  | 0, _ => by show a * (0 : Int) ≤ 0 ∧ 0 ≤ b * (0 : Int); simp
  | n + 1, h => by
    have h1 := sumI_bd (n := n) (fun i h0 h1 => h i h0 (by omega))
    have h2 := h (Int.ofNat n) (Int.ofNat_nonneg n) (by show ((n : Nat) : Int) < _; omega)
    show a * ((n + 1 : Nat) : Int) ≤ sumI f n + f (Int.ofNat n) ∧ sumI f n + f (Int.ofNat n) ≤ b * ((n + 1 : Nat) : Int)
    rw [Int.natCast_add, Int.mul_add, Int.mul_add]
    show a * (n : Int) + a * 1 ≤ _ ∧ _ ≤ b * (n : Int) + b * 1
    omega
theorem RG.ofcpy {f g : Int → Int} {s d n : Int} (hf : RG f) (hg : RG g) : RG (cpy f g s d n) := fun i => by
  unfold cpy; split
  · exact hf _
  · exact hg _
theorem RG.ofcpn {f g : Int → Int} {o n : Int} (hf : RG f) (hg : RG g) : RG (cpn f g o n) := fun i => by
  unfold cpn; split
  · exact hf _
  · exact hg _
theorem RG.offu {f : Int → Int} {i v : Int} (hf : RG f) (hv : rg v) : RG (fu f i v) := fun j => by
  unfold fu; split
  · exact hv
  · exact hf _
theorem ups_row {σ : Mem} {a : Nat} {i v : Int} : ups σ a i v a = fu (σ a) i v := su_eq
/-! ===== CASES richest, last ===== -/
def argm (f : Int → Int) : Nat → Int
  | 0 => 0
  | n + 1 => if f (argm f n) < f (Int.ofNat (n + 1)) then Int.ofNat (n + 1) else argm f n
theorem argm_r (f : Int → Int) : ∀ n : Nat, 0 ≤ argm f n ∧ argm f n ≤ (n : Int)
  | 0 => ⟨Int.le_refl _, Int.le_refl _⟩
  | n + 1 => by
    have h := argm_r f n
    unfold argm
    split
    · exact ⟨Int.ofNat_nonneg _, Int.le_refl _⟩
    · exact ⟨h.1, by omega⟩
theorem argm_S {f : Int → Int} {i : Int} (h : 1 ≤ i) : argm f (i + 1 - 1).toNat = if f (argm f (i - 1).toNat) < f i then i else argm f (i - 1).toNat := by
  rw [show (i + 1 - 1).toNat = (i - 1).toNat + 1 by omega]
  show (if f (argm f (i - 1).toNat) < f (Int.ofNat ((i - 1).toNat + 1)) then Int.ofNat ((i - 1).toNat + 1) else argm f (i - 1).toNat) = _
  rw [show Int.ofNat ((i - 1).toNat + 1) = i from by show (((i - 1).toNat + 1 : Nat) : Int) = i; omega]
theorem c_richest : ∀ (σ : Mem), Inv σ → Pair mF_richest mR_richest [] σ := by
  intro σ hI
  obtain ⟨⟨m1, m2, m3, m4⟩, ⟨n1, n2, n3, n4⟩, -⟩ := hI.1.2.1
  obtain ⟨-, r1, -⟩ := hI.1.2.2.1
  have hg := hI.mOK.2.2.2.2
  have hc := hI.2.1.2.2.2.1
  by_cases h0 : σ 64 38 = 0
  · refine pair_q (v := -1) hI (by decide) ?_ ?_
    · exact bF_richest_in (d := 996) (bF_richest_4 ⟨by decide, ⟨by omega, by omega⟩, fun _ => ⟨rfl, rfl⟩, fun q => absurd q (by omega)⟩)
    · exact bR_richest_in (d := 998) ⟨⟨by omega, by omega⟩, fun q => absurd h0 q, fun _ => bR_richest_15 ⟨by decide, ⟨by omega, by omega⟩, fun _ => ⟨rfl, rfl⟩, fun q => absurd q (by omega)⟩⟩
  · have ar := fun n => argm_r (fun p => σ 81 (60 + p)) n
    have aS := fun (i : Int) (h : 1 ≤ i) => argm_S (f := fun p => σ 81 (60 + p)) h
    have a0 : argm (fun p => σ 81 (60 + p)) 0 = 0 := rfl
    generalize hA : argm (fun p => σ 81 (60 + p)) = A at ar aS a0
    try dsimp only at aS
    have hv := ar (σ 64 38 - 1).toNat
    refine pair_q (v := A (σ 64 38 - 1).toNat) hI ⟨by omega, by omega⟩ ?_ ?_
    · have key : Ev 999 mF_richest 4 [vR 11, vI (A (1 - 1 : Int).toNat), vI 1] [] σ (fun r τ => r = rI (A (σ 64 38 - 1).toNat) ∧ τ = σ) := by
        refine loop_up (G := fun i => Ev 999 mF_richest 4 [vR 11, vI (A (i - 1).toNat), vI i] [] σ (fun r τ => r = rI (A (σ 64 38 - 1).toNat) ∧ τ = σ)) (hi := σ 64 38) _ 1 rfl (by omega) (fun j j0 j1 h => ?_) ?_
        · have hr := ar (j - 1).toNat
          have e1 := (r1 j (by omega) (by omega)).1
          have e2 := (r1 (A (j - 1).toNat) (by omega) (by omega)).1
          rw [show (3 + 4 * j : Int) = 3 + j * 4 + 0 by omega] at e1
          rw [show (3 + 4 * (A (j - 1).toNat) : Int) = 3 + (A (j - 1).toNat) * 4 + 0 by omega] at e2
          rw [aS j j0] at h
          refine bF_richest_4 (d := 996) ⟨⟨by omega, by omega⟩, ⟨by omega, by omega⟩, fun q => absurd q (by omega), fun _ => ⟨⟨by omega, by omega⟩, fun q => absurd q (by omega), fun _ => ⟨(by omega), (by omega), (by omega), (by omega), hc _, hc _, fun q => ?_, fun q => ?_⟩⟩⟩
          · rw [if_neg (by omega)] at h; exact h
          · rw [if_pos (by omega)] at h; exact h
        · exact bF_richest_4 (d := 996) ⟨⟨by omega, by omega⟩, ⟨by omega, by omega⟩, fun q => ⟨rfl, rfl⟩, fun q => absurd q (by omega)⟩
      rw [show (1 - 1 : Int).toNat = 0 from rfl, a0] at key
      exact bF_richest_in (d := 996) (bF_richest_4 ⟨by decide, ⟨by omega, by omega⟩, fun q => absurd q (by omega), fun _ => ⟨by decide, fun _ => key, fun q => absurd rfl q⟩⟩)
    · have key : Ev 999 mR_richest 15 [vR 64, vI (A (1 - 1 : Int).toNat), vI 1] [] σ (fun r τ => r = rI (A (σ 64 38 - 1).toNat) ∧ τ = σ) := by
        refine loop_up (G := fun i => Ev 999 mR_richest 15 [vR 64, vI (A (i - 1).toNat), vI i] [] σ (fun r τ => r = rI (A (σ 64 38 - 1).toNat) ∧ τ = σ)) (hi := σ 64 38) _ 1 rfl (by omega) (fun j j0 j1 h => ?_) ?_
        · have hr := ar (j - 1).toNat
          rw [aS j j0] at h
          refine bR_richest_15 (d := 998) ⟨⟨by omega, by omega⟩, ⟨by omega, by omega⟩, fun q => absurd q (by omega), fun _ => ⟨(by omega), (by omega), (by omega), (by omega), hg _, hg _, fun q => ?_, fun q => ?_⟩⟩
          · rw [if_neg (by omega)] at h; exact h
          · rw [if_pos (by omega)] at h; exact h
        · exact bR_richest_15 (d := 998) ⟨⟨by omega, by omega⟩, ⟨by omega, by omega⟩, fun q => ⟨rfl, rfl⟩, fun q => absurd q (by omega)⟩
      rw [show (1 - 1 : Int).toNat = 0 from rfl, a0] at key
      exact bR_richest_in (d := 998) ⟨⟨by omega, by omega⟩, fun _ => key, fun q => absurd q h0⟩
theorem c_last : ∀ (a : Int) (σ : Mem), Inv σ → rg a → Pair mF_last mR_last [aI a] σ := by
  intro a σ hI ha
  obtain ⟨⟨m1, m2, m3, m4⟩, ⟨n1, n2, n3, n4⟩, -⟩ := hI.1.2.1
  obtain ⟨⟨r1, r2, r3⟩, -, rf, rp, -⟩ := hI.1.2.2.1
  obtain ⟨v0, -, v1, -, -, -, v2, -⟩ := hI.1.2.2.2
  have hg := hI.mOK.2.2.2.2
  have hc := hI.2.1.2.2.2.1
  by_cases hx : 0 ≤ a ∧ a < σ 64 37
  · have s2 := sumI_nn (f := fun i => σ 81 (54 + i)) (n := 6) (fun i h0 h1 => v0 _ (by omega) (by omega))
    have one : ∀ i, 0 ≤ i → i < 48 → 0 ≤ σ 81 i ∧ σ 81 i ≤ 48 := fun i h0 h1 => by
      have := sumI_le (f := σ 81) h0 (n := 48) (fun i h0 h1 => v0 i h0 (by omega)) (by omega)
      have := v0 i h0 (by omega)
      omega
    have S_ := fun (i : Int) (h : 0 ≤ i) => sumI_S (f := fun p => σ 81 (8 * p + a)) h
    have U_ := fun (i : Int) (h : 0 ≤ i) => sumI_S (f := fun k => if σ 81 (74 + 5 * k + 2) = a then 1 else 0) h
    have bS := sumI_bd (f := fun p => σ 81 (8 * p + a)) (a := 0) (b := 48) (n := (σ 64 38).toNat) (fun i h0 h1 => one _ (by omega) (by omega))
    have bU := sumI_bd (f := fun k => if σ 81 (74 + 5 * k + 2) = a then (1 : Int) else 0) (a := 0) (b := 1) (n := (σ 81 73).toNat) (fun i h0 h1 => by split <;> decide)
    have zS : sumI (fun p => σ 81 (8 * p + a)) (0 : Int).toNat = 0 := rfl
    have zU : sumI (fun k => if σ 81 (74 + 5 * k + 2) = a then (1 : Int) else 0) (0 : Int).toNat = 0 := rfl
    generalize hS : sumI (fun p => σ 81 (8 * p + a)) = S at S_ bS zS
    generalize hU : sumI (fun k => if σ 81 (74 + 5 * k + 2) = a then (1 : Int) else 0) = U at U_ bU zU
    try dsimp only at S_ U_
    have hn : ((σ 64 38).toNat : Int) = σ 64 38 := by omega
    have hk : ((σ 81 73).toNat : Int) = σ 81 73 := by omega
    rw [hn] at bS; rw [hk] at bU
    refine pair_q (v := S (σ 64 38).toNat + U (σ 81 73).toNat) hI ⟨by omega, by omega⟩ ?_ ?_
    · refine bF_last_in (d := 995) ⟨ha, ⟨by omega, by omega⟩, fun _ => ?_, fun q => absurd (show 0 ≤ a ∧ a < σ 15 0 by omega) q⟩
      refine bSt_leftOf_in (d := 995) ?_
      have key : Ev 998 mSt_leftOf 4 [vR 37, vI a, vI (S (0 : Int).toNat), vI 0] [] σ (fun r4 τ5 => oI r4 (fun w6 => rI w6 = rI (S (σ 64 38).toNat + U (σ 81 73).toNat) ∧ τ5 = σ)) := by
        refine loop_up (G := fun i => Ev 998 mSt_leftOf 4 [vR 37, vI a, vI (S i.toNat), vI i] [] σ (fun r4 τ5 => oI r4 (fun w6 => rI w6 = rI (S (σ 64 38).toNat + U (σ 81 73).toNat) ∧ τ5 = σ))) (hi := σ 64 38) _ 0 rfl (by omega) (fun j j0 j1 h => ?_) ?_
        · refine bSt_leftOf_4 (d := 995) ⟨⟨by omega, by omega⟩, ⟨by omega, by omega⟩, fun q => absurd q (by omega), fun _ => ⟨(by omega), (by omega), ?_⟩⟩
          have e := rf (8 * j + a) (by omega) (by omega)
          rw [show (27 + (8 * j + a) : Int) = 27 + j * 8 + a by omega] at e
          rw [e, ← S_ j j0]; exact h
        · refine bSt_leftOf_4 (d := 995) ⟨⟨by omega, by omega⟩, ⟨by omega, by omega⟩, fun _ => ?_, fun q => absurd q (by omega)⟩
          have key2 : Ev 998 mSt_leftOf 32 [vR 37, vI a, vI (S (σ 64 38).toNat + U (0 : Int).toNat), vI 0] [] σ (fun r4 τ5 => oI r4 (fun w6 => rI w6 = rI (S (σ 64 38).toNat + U (σ 81 73).toNat) ∧ τ5 = σ)) := by
            refine loop_up (G := fun i => Ev 998 mSt_leftOf 32 [vR 37, vI a, vI (S (σ 64 38).toNat + U i.toNat), vI i] [] σ (fun r4 τ5 => oI r4 (fun w6 => rI w6 = rI (S (σ 64 38).toNat + U (σ 81 73).toNat) ∧ τ5 = σ))) (hi := σ 81 73) _ 0 rfl (by omega) (fun j j0 j1 h => ?_) ?_
            · have e := rp (5 * j + 2) (by omega) (by omega)
              rw [show (75 + (5 * j + 2) : Int) = 75 + j * 5 + 2 by omega, show (74 + (5 * j + 2) : Int) = 74 + 5 * j + 2 by omega] at e
              rw [U_ j j0] at h
              refine bSt_leftOf_32 (d := 995) ⟨⟨by omega, by omega⟩, ⟨by omega, by omega⟩, fun q => absurd q (by omega), fun _ => ⟨(by omega), (by omega), hc _, ha, fun q => ?_, fun q => ?_⟩⟩
              · rw [if_neg (by rw [← e]; exact q), ← Int.add_assoc] at h; exact h
              · rw [if_pos (by rw [← e]; exact q), ← Int.add_assoc] at h; exact h
            · exact bSt_leftOf_32 (d := 995) ⟨⟨by omega, by omega⟩, ⟨by omega, by omega⟩, fun _ => ⟨rfl, rfl⟩, fun q => absurd q (by omega)⟩
          rw [zU, Int.add_zero] at key2; exact key2
      rw [zS] at key; exact key
    · refine bR_last_in (d := 996) ⟨ha, hI.mOK, fun _ => ?_, fun q => absurd hx q⟩
      have key : Ev 999 mR_last 14 [vR 64, vI a, vI (S (0 : Int).toNat), vI 0] [] σ (fun r τ => r = rI (S (σ 64 38).toNat + U (σ 81 73).toNat) ∧ τ = σ) := by
        refine loop_up (G := fun i => Ev 999 mR_last 14 [vR 64, vI a, vI (S i.toNat), vI i] [] σ (fun r τ => r = rI (S (σ 64 38).toNat + U (σ 81 73).toNat) ∧ τ = σ)) (hi := σ 64 38) _ 0 rfl (by omega) (fun j j0 j1 h => ?_) ?_
        · refine bR_last_14 (d := 996) ⟨⟨by omega, by omega⟩, ⟨by omega, by omega⟩, fun q => absurd q (by omega), fun _ => ⟨(by omega), (by omega), ?_⟩⟩
          rw [← S_ j j0]; exact h
        · refine bR_last_14 (d := 996) ⟨⟨by omega, by omega⟩, ⟨by omega, by omega⟩, fun _ => ?_, fun q => absurd q (by omega)⟩
          have key2 : Ev 999 mR_last 39 [vR 64, vI a, vI (S (σ 64 38).toNat + U (0 : Int).toNat), vI 0] [] σ (fun r τ => r = rI (S (σ 64 38).toNat + U (σ 81 73).toNat) ∧ τ = σ) := by
            refine loop_up (G := fun i => Ev 999 mR_last 39 [vR 64, vI a, vI (S (σ 64 38).toNat + U i.toNat), vI i] [] σ (fun r τ => r = rI (S (σ 64 38).toNat + U (σ 81 73).toNat) ∧ τ = σ)) (hi := σ 81 73) _ 0 rfl (by omega) (fun j j0 j1 h => ?_) ?_
            · rw [U_ j j0] at h
              refine bR_last_39 (d := 996) ⟨⟨by omega, by omega⟩, ⟨by omega, by omega⟩, fun q => absurd q (by omega), fun _ => ⟨(by omega), (by omega), hg _, ha, fun q => ?_, fun q => ?_⟩⟩
              · rw [if_neg q, ← Int.add_assoc] at h; exact h
              · rw [if_pos q, ← Int.add_assoc] at h; exact h
            · exact bR_last_39 (d := 996) ⟨⟨by omega, by omega⟩, ⟨by omega, by omega⟩, fun _ => ⟨rfl, rfl⟩, fun q => absurd q (by omega)⟩
          rw [zU, Int.add_zero] at key2; exact key2
      rw [zS] at key; exact key
  · refine pair_q (v := -1) hI (by decide) ?_ ?_
    · exact bF_last_in (d := 995) ⟨ha, ⟨by omega, by omega⟩, fun q => absurd (show 0 ≤ a ∧ a < σ 64 37 by omega) hx, fun _ => ⟨rfl, rfl⟩⟩
    · exact bR_last_in (d := 996) ⟨ha, hI.mOK, fun q => absurd q hx, fun _ => ⟨rfl, rfl⟩⟩
