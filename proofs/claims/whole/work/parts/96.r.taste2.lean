/-! ===== A TASTE READ, BY THE CLASS ===== -/
def EmC (υ : Mem) (n : Int) (L : List Int) : Prop := υ 20 4 = n ∧ υ 27 n = (L.length : Int) ∧ ∀ (j : Nat) (v : Int), L[j]? = some v → υ 21 (n * 240 + (j : Int)) = v
def FrC (υ τ : Mem) (n : Int) : Prop := Sm υ τ [12, 21, 27] [] ∧ (∀ j, ¬ (n * 240 ≤ j ∧ j < n * 240 + 240) → τ 21 j = υ 21 j) ∧ (∀ j, j ≠ n → τ 27 j = υ 27 j)
theorem frC_of {υ τ : Mem} {n : Int} (s : Sm υ τ [12] []) : FrC υ τ n := ⟨s.mono (by decide) (by decide), fun j _ => by rw [s.1 21 rfl], fun j _ => by rw [s.1 27 rfl]⟩
theorem FrC.tr {υ τ ζ : Mem} {n : Int} (h : FrC υ τ n) (g : FrC τ ζ n) : FrC υ ζ n := ⟨h.1.trans g.1, fun j hj => by rw [g.2.1 j hj, h.2.1 j hj], fun j hj => by rw [g.2.2 j hj, h.2.2 j hj]⟩
theorem emC_sm {υ τ : Mem} {n : Int} {L : List Int} (h : EmC υ n L) (s : Sm υ τ [12] []) : EmC τ n L := by
  unfold EmC; rw [s.1 20 rfl, s.1 27 rfl, s.1 21 rfl]; exact h
theorem emitC {B : Int → Int} {N : Int} (d : Nat) {n a x : Int} {L : List Int} {υ : Mem} (hn : 0 ≤ n ∧ n < 5) (ht : TqC υ B N a) (hL : EmC υ n L) (hl : (L.length : Int) < 240) {Q : RV → Mem → Prop} (hq : ∀ τ, FrC υ τ n → TqC τ B N a → EmC τ n (L ++ [x]) → Q rV τ) : Cl (d + 1) mTs_emit [aR 20, aI x] υ Q := by
  obtain ⟨e1, e2, e3⟩ := hL
  refine bTs_emit_in ⟨by rw [e1]; omega, by rw [e1]; omega, by rw [e1, e2]; exact ⟨by omega, by omega⟩, fun z => absurd z (by rw [e1, e2]; omega), fun _ => ⟨by rw [e1, e2]; omega, ?_⟩⟩
  rw [e1, e2]
  have s : Sm υ (ups (ups υ 21 (n * 240 + (L.length : Int)) x) 27 n ((L.length : Int) + 1)) [12, 21, 27] [] := (Sm.refl.ups rfl (Or.inl (by decide))).ups rfl (Or.inl (by decide))
  refine hq _ ⟨s, fun j hj => by rw [ups_ne (by decide), ups_fn (by omega)], fun j hj => by rw [ups_fn hj, ups_ne (by decide)]⟩ (ht.sm (S := [21, 27]) (J := []) ((Sm.refl.ups rfl (Or.inl (by decide))).ups rfl (Or.inl (by decide))) rfl rfl) ⟨by rw [s.1 20 rfl]; exact e1, by rw [ups_hit, List.length_append]; rfl, fun j v hj => ?_⟩
  rw [ups_ne (by decide)]
  by_cases c : j = L.length
  · subst c
    rw [List.getElem?_append_right (Nat.le_refl _), Nat.sub_self] at hj
    injection hj with hj
    rw [ups_hit]; exact hj
  · have lt : j < L.length := by
      have := (List.getElem?_eq_some_iff.mp hj).1
      rw [List.length_append] at this
      have e : ([x] : List Int).length = 1 := rfl
      omega
    rw [List.getElem?_append_left lt] at hj
    rw [ups_fn (by omega)]
    exact e3 j v hj
def okO (l : Int) : Prop := l = 0 ∨ (rg l ∧ l ≠ 0 ∧ (opT l).map tokC = [-l])
theorem ok43 : okO 43 := Or.inr ⟨by decide, by decide, rfl⟩
theorem ok45 : okO 45 := Or.inr ⟨by decide, by decide, rfl⟩
theorem ok42 : okO 42 := Or.inr ⟨by decide, by decide, rfl⟩
theorem ok47 : okO 47 := Or.inr ⟨by decide, by decide, rfl⟩
theorem emitAnyC {B : Int → Int} {N : Int} (d : Nat) {n a l : Int} {L : List Int} {υ : Mem} (hn : 0 ≤ n ∧ n < 5) (hl : okO l) (ht : TqC υ B N a) (hL : EmC υ n L) (hlen : l ≠ 0 → (L.length : Int) < 240) {Q : RV → Mem → Prop} (hq : ∀ τ, FrC υ τ n → TqC τ B N a → EmC τ n (L ++ (opT l).map tokC) → Q rV τ) : Cl (d + 2) mTs_emitIfAny [aR 20, aI l] υ Q := by
  rcases hl with rfl | ⟨h1, h2, h3⟩
  · refine bTs_emitIfAny_in ⟨by decide, fun _ => hq υ (frC_of Sm.refl) ht ?_, fun z => absurd rfl z⟩
    rw [show (opT 0).map tokC = [] from rfl, List.append_nil]
    exact hL
  · rw [h3] at hq
    exact bTs_emitIfAny_in ⟨h1, fun z => absurd z h2, fun z => emitC d hn ht hL (hlen z) (fun τ f t e => hq τ f t e)⟩
def RdC (B : Int → Int) (N n : Int) (f : Int → RT) (run : Mem → (RV → Mem → Prop) → Prop) : Prop := ∀ (a : Int) (L : List Int) (υ : Mem) (Q : RV → Mem → Prop), 0 ≤ a → a ≤ N → (L.length : Int) ≤ a → TqC υ B N a → EmC υ n L → (∀ w, f a = .inl w → ∀ τ, FrC υ τ n → τ 12 1 = N → τ 12 3 = w → Q (rI 0) τ) → (∀ a' t, f a = .inr (a', t) → ∀ τ, FrC υ τ n → TqC τ B N a' → EmC τ n (L ++ t.map tokC) → Q (rI 1) τ) → run υ Q
theorem lsC (L : List Int) (x y : List Tok) : (L ++ x.map tokC) ++ y.map tokC = L ++ (x ++ y).map tokC := by rw [List.append_assoc, List.map_append]
theorem sumLC {B : Int → Int} {N : Int} (hB : BTp B N) (d : Nat) {n z : Int} (hn : 0 ≤ n ∧ n < 5) {at' : Int → RT} (hat : PosK N at') (hrun : RdC B N n at' (fun υ Q => Cl (d + 2) mTs_readAtom [aR 20, aI z] υ Q)) : ∀ (m : Nat) (i a l : Int) (L : List Int) (υ : Mem) (u4 u5 : Option AV) (Q : RV → Mem → Prop), 0 ≤ i → i + (m : Int) = 241 → (l = 0 ∨ l = 43 ∨ l = 45) → 0 ≤ a → a ≤ N → (L.length : Int) + (if l = 0 then 0 else 1) ≤ a → TqC υ B N a → EmC υ n L → (∀ w, smL B N at' m a l = .inl w → ∀ τ, FrC υ τ n → τ 12 1 = N → τ 12 3 = w → Q (rI 0) τ) → (∀ a' t, smL B N at' m a l = .inr (a', t) → ∀ τ, FrC υ τ n → TqC τ B N a' → EmC τ n (L ++ t.map tokC) → Q (rI 1) τ) → Ev (d + 3) mTs_readSum 14 [vR 20, vI z, vI l, vI i, u4, u5] [] υ Q := by
  have hN := hB.1
  intro m
  induction m with
  | zero =>
    intro i a l L υ u4 u5 Q i0 i1 hl a0 a1 hlen ht hL h0 h1
    have ok : okO l := by rcases hl with e | e | e <;> subst e; exact Or.inl rfl; exact ok43; exact ok45
    have hl2 : l ≠ 0 → (L.length : Int) < 240 := fun z => by rw [if_neg z] at hlen; omega
    exact bTs_readSum_14 ⟨⟨by omega, by omega⟩, fun _ => emitAnyC d hn ok ht hL hl2 (fun τ f t e => h1 a _ rfl τ f t e), fun y => absurd y (by omega)⟩
  | succ m ih =>
    intro i a l L υ u4 u5 Q i0 i1 hl a0 a1 hlen ht hL h0 h1
    have ok : okO l := by rcases hl with e | e | e <;> subst e; exact Or.inl rfl; exact ok43; exact ok45
    have hl2 : l ≠ 0 → (L.length : Int) < 240 := fun z => by rw [if_neg z] at hlen; omega
    have okr : rg l := by rcases hl with e | e | e <;> subst e <;> decide
    have r := (sk_r (B := B) (N := N) (a := a))
    have r2 := r.2 a1
    have b := hB.r (a := sk B N a) (by omega)
    have ol := opT_l l
    unfold smL at h0 h1
    refine bTs_readSum_14 ⟨⟨by omega, by omega⟩, fun y => absurd y (by omega), fun _ => sgC hB (d + 1) ⟨by omega, by omega⟩ ht (fun τ s t => ?_)⟩
    have fr := frC_of (n := n) s
    have hL' := emC_sm hL s
    have lt : hr B N (sk B N a) ≠ -1 → sk B N a < N := fun z => (b.2.2 z).1
    generalize hr B N (sk B N a) = c at *
    -- + or -
    have plus : (c = 43 ∨ c = 45) → Ev (d + 3) mTs_readSum 49 [vR 20, vI z, vI l, vI i, vI c, u5] [aI 1] τ Q := by
      intro hc
      rw [if_pos hc] at h0 h1
      have l2 := lt (by omega)
      obtain ⟨-, q1⟩ := hat (sk B N a + 1) (by omega) (by omega)
      refine bTs_readSum_49 ⟨by decide, fun _ => bTs_readSum_73 ⟨by decide, fun y => absurd y (by decide), fun _ => ?_⟩, fun y => absurd y (by decide)⟩
      rw [t.2.1]
      have t2 := t.to (sk B N a + 1)
      have s2 : Sm τ (ups τ 12 2 (sk B N a + 1)) [12] [] := Sm.refl.ups rfl (Or.inl (by decide))
      have hL2 := emC_sm hL' s2
      have fr2 := fr.tr (frC_of (n := n) s2)
      generalize (ups τ 12 2 (sk B N a + 1)) = τ2 at *
      refine emitAnyC d hn ok t2 hL2 hl2 (fun τ3 f3 t3 L3 => ?_)
      have len3 : (((L ++ (opT l).map tokC).length : Nat) : Int) = (L.length : Int) + (if l = 0 then 0 else 1) := by rw [List.length_append, List.length_map]; push_cast; rw [ol]
      refine bTs_readSum_99 (hrun (sk B N a + 1) (L ++ (opT l).map tokC) τ3 _ (by omega) (by omega) (by rw [len3]; omega) t3 L3 (fun w e τ4 f4 e1 e2 => ⟨by decide, fun y => absurd rfl y, fun _ => ?_⟩) (fun a1' t1 e τ4 f4 t4 L4 => ⟨by decide, fun _ => ⟨by decide, fun y => absurd y (by decide), fun _ => ?_⟩, fun y => absurd y (by decide)⟩))
      · rw [e] at h0
        exact h0 w rfl τ4 ((fr2.tr f3).tr f4) e1 e2
      · rw [e] at h0 h1
        have q1' := q1 a1' t1 e
        have len4 : (((L ++ (opT l).map tokC ++ t1.map tokC).length : Nat) : Int) = (L.length : Int) + (if l = 0 then 0 else 1) + (t1.length : Int) := by rw [List.length_append, List.length_map]; push_cast; rw [len3]
        refine emitAnyC d hn (l := 0) (Or.inl rfl) t4 L4 (fun q => absurd rfl q) (fun τ5 f5 t5 L5 => ?_)
        rw [show (opT 0).map tokC = [] from rfl, List.append_nil] at L5
        have fA := ((fr2.tr f3).tr f4).tr f5
        refine ih (i + 1) a1' c _ τ5 _ _ Q (by omega) (by omega) (by omega) (by omega) (by omega) (by rw [len4, if_neg (show ¬ c = 0 by omega)]; omega) t5 L5 (fun w e2 τ6 f6 e1 e3 => ?_) (fun a2 t2' e2 τ6 f6 t6 L6 => ?_)
        · refine h0 w ?_ τ6 (fA.tr f6) e1 e3
          show bnR (smL B N at' m a1' c) _ = _
          rw [e2]; rfl
        · refine h1 a2 (opT l ++ (t1 ++ t2')) ?_ τ6 (fA.tr f6) t6 ?_
          · show bnR (smL B N at' m a1' c) _ = _
            rw [e2]; rfl
          · rw [lsC, lsC] at L6
            exact L6
    -- the rest
    have rest : ¬ (c = 43 ∨ c = 45) → Ev (d + 3) mTs_readSum 49 [vR 20, vI z, vI l, vI i, vI c, u5] [aI 0] τ Q := by
      intro hc
      rw [if_neg hc] at h0 h1
      -- * or /
      have times : (c = 42 ∨ c = 47) → Ev (d + 3) mTs_readSum 73 [vR 20, vI z, vI l, vI i, vI c, vI 0] [] τ Q := by
        intro hc2
        rw [if_pos hc2] at h0 h1
        have l2 := lt (by omega)
        have okc : okO c := by rcases hc2 with e | e <;> subst e; exact ok42; exact ok47
        have oc := opT_l c
        rw [if_neg (show ¬ c = 0 by omega)] at oc
        obtain ⟨-, q1⟩ := hat (sk B N a + 1) (by omega) (by omega)
        refine bTs_readSum_73 ⟨by decide, fun _ => ?_, fun y => absurd rfl y⟩
        rw [t.2.1]
        have t2 := t.to (sk B N a + 1)
        have s2 : Sm τ (ups τ 12 2 (sk B N a + 1)) [12] [] := Sm.refl.ups rfl (Or.inl (by decide))
        have hL2 := emC_sm hL' s2
        have fr2 := fr.tr (frC_of (n := n) s2)
        generalize (ups τ 12 2 (sk B N a + 1)) = τ2 at *
        refine bTs_readSum_99 (hrun (sk B N a + 1) L τ2 _ (by omega) (by omega) (by split at hlen <;> omega) t2 hL2 (fun w e τ4 f4 e1 e2 => ⟨by decide, fun y => absurd rfl y, fun _ => ?_⟩) (fun a1' t1 e τ4 f4 t4 L4 => ⟨by decide, fun _ => ⟨by decide, fun _ => ?_, fun y => absurd rfl y⟩, fun y => absurd y (by decide)⟩))
        · rw [e] at h0
          exact h0 w rfl τ4 (fr2.tr f4) e1 e2
        · rw [e] at h0 h1
          have q1' := q1 a1' t1 e
          have len4 : (((L ++ t1.map tokC).length : Nat) : Int) = (L.length : Int) + (t1.length : Int) := by rw [List.length_append, List.length_map]; push_cast; rfl
          refine emitAnyC d hn okc t4 L4 (fun _ => by rw [len4]; split at hlen <;> omega) (fun τ5 f5 t5 L5 => ?_)
          have fA := (fr2.tr f4).tr f5
          have len5 : (((L ++ t1.map tokC ++ (opT c).map tokC).length : Nat) : Int) = (L.length : Int) + (t1.length : Int) + 1 := by rw [List.length_append, List.length_map]; push_cast; rw [len4, oc]
          refine ih (i + 1) a1' l _ τ5 _ _ Q (by omega) (by omega) hl (by omega) (by omega) (by rw [len5]; omega) t5 L5 (fun w e2 τ6 f6 e1 e3 => ?_) (fun a2 t2' e2 τ6 f6 t6 L6 => ?_)
          · refine h0 w ?_ τ6 (fA.tr f6) e1 e3
            show bnR (smL B N at' m a1' l) _ = _
            rw [e2]; rfl
          · refine h1 a2 (t1 ++ (opT c ++ t2')) ?_ τ6 (fA.tr f6) t6 ?_
            · show bnR (smL B N at' m a1' l) _ = _
              rw [e2]; rfl
            · rw [lsC, lsC] at L6
              exact L6
      refine bTs_readSum_49 ⟨by decide, fun y => absurd rfl y, fun _ => ⟨⟨by omega, by omega⟩, fun y => times (Or.inl y), fun y => ⟨fun x => times (Or.inr x), fun x => ?_⟩⟩⟩
      rw [if_neg (fun q => by rcases q with q | q; exact y q; exact x q)] at h1
      exact emitAnyC d hn ok t hL' hl2 (fun τ3 f3 t3 L3 => h1 _ _ rfl τ3 (fr.tr f3) t3 L3)
    refine ⟨⟨by omega, by omega⟩, fun y => plus (Or.inl y), fun y => ⟨fun x => rest (fun q => by rcases q with q | q; exact y q; exact x q), fun x => plus (Or.inr x)⟩⟩
theorem sumC {B : Int → Int} {N : Int} (hB : BTp B N) (d : Nat) {n z : Int} (hn : 0 ≤ n ∧ n < 5) {at' : Int → RT} (hat : PosK N at') (hrun : RdC B N n at' (fun υ Q => Cl (d + 2) mTs_readAtom [aR 20, aI z] υ Q)) : RdC B N n (smK B N at') (fun υ Q => Cl (d + 3) mTs_readSum [aR 20, aI z] υ Q) := by
  have hN := hB.1
  intro a L υ Q a0 a1 hlen ht hL h0 h1
  obtain ⟨-, q1⟩ := hat a a0 a1
  unfold smK at h0 h1
  refine bTs_readSum_in (hrun a L υ _ a0 a1 hlen ht hL (fun w e τ f e1 e2 => ⟨by decide, fun y => absurd rfl y, fun _ => ?_⟩) (fun a1' t1 e τ f t L1 => ⟨by decide, fun _ => ?_, fun y => absurd y (by decide)⟩))
  · rw [e] at h0
    exact h0 w rfl τ f e1 e2
  · rw [e] at h0 h1
    have q1' := q1 a1' t1 e
    have len4 : (((L ++ t1.map tokC).length : Nat) : Int) = (L.length : Int) + (t1.length : Int) := by rw [List.length_append, List.length_map]; push_cast; rfl
    refine sumLC hB d hn hat hrun 241 0 a1' 0 _ τ _ _ Q (by decide) (by decide) (Or.inl rfl) (by omega) (by omega) (by rw [len4, if_pos rfl]; omega) t L1 (fun w e2 τ6 f6 e1 e3 => ?_) (fun a2 t2' e2 τ6 f6 t6 L6 => ?_)
    · refine h0 w ?_ τ6 (f.tr f6) e1 e3
      show bnR (smL B N at' 241 a1' 0) _ = _
      rw [e2]; rfl
    · refine h1 a2 (t1 ++ t2') ?_ τ6 (f.tr f6) t6 ?_
      · show bnR (smL B N at' 241 a1' 0) _ = _
        rw [e2]; rfl
      · rw [lsC] at L6; exact L6
