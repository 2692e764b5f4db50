/-! ===== A TASTE READ, BY THE CLASS: CLAUSES ===== -/
def clP : Cla → List Int
  | (none, s) => s.map tokC
  | (some t, s) => t.map tokC ++ [-63] ++ s.map tokC
theorem clP_C (c : Cla) : clC c = clP c ++ [-59] := by
  obtain ⟨o, s⟩ := c
  cases o <;> rfl
theorem sm0C {B : Int → Int} {N : Int} (hB : BTp B N) {n : Int} (hn : 0 ≤ n ∧ n < 5) (d : Nat) : RdC B N n (smK B N (atK B N 6)) (fun υ Q => Cl (d + 16) mTs_readSum [aR 20, aI 0] υ Q) := smKC hB hn 6 d (by decide)
theorem un0C {B : Int → Int} {N : Int} (hB : BTp B N) {n : Int} (hn : 0 ≤ n ∧ n < 5) (d : Nat) : RdC B N n (unK B N 6) (fun υ Q => Cl (d + 63) mTs_readUnit [aR 20, aI 0, aI 0] υ Q) := unKC hB hn 6 d (by decide)
theorem csqC {B : Int → Int} {N : Int} (hB : BTp B N) (d : Nat) {n a : Int} (hn : 0 ≤ n ∧ n < 5) {L0 : List Int} {T : List Tok} {υ : Mem} (a0 : 0 ≤ a) (a1 : a ≤ N) (hlen : (L0.length : Int) + (T.length : Int) ≤ a) (ht : TqC υ B N a) (hL : EmC υ n (L0 ++ T.map tokC)) {Q : RV → Mem → Prop} (h0 : ∀ w, csq B N T a = .inl w → ∀ τ, FrC υ τ n → τ 12 1 = N → τ 12 3 = w → Q (rI 0) τ) (h1 : ∀ a' c, csq B N T a = .inr (a', c) → ∀ τ, FrC υ τ n → TqC τ B N a' → EmC τ n (L0 ++ clP c) → Q (rI 1) τ) : Cl (d + 44) mTs_readConsequence [aR 20] υ Q := by
  have hN := hB.1
  have r := (sk_r (B := B) (N := N) (a := a))
  have r2 := r.2 a1
  have b := hB.r (a := sk B N a) (by omega)
  have len0 : (((L0 ++ T.map tokC).length : Nat) : Int) = (L0.length : Int) + (T.length : Int) := by rw [List.length_append, List.length_map]; push_cast; rfl
  unfold csq at h0 h1
  refine bTs_readConsequence_in (expC hB (d + 41) ⟨by omega, by omega⟩ (by decide) ht (fun y τ s t => ⟨by decide, fun _ => ?_, fun q => absurd q (by decide)⟩) (fun y τ s e1 e2 => ⟨by decide, fun q => absurd rfl q, fun _ => h0 _ (if_neg y) τ (frC_of s) e1 e2⟩))
  rw [if_pos y] at h0 h1
  have lt := (b.2.2 (by omega)).1
  refine emitC (d + 42) hn t (emC_sm hL s) (by rw [len0]; omega) (fun τ2 f2 t2 L2 => ?_)
  have f02 := (frC_of (n := n) s).tr f2
  have len2 : (((L0 ++ T.map tokC ++ [-63]).length : Nat) : Int) = (L0.length : Int) + (T.length : Int) + 1 := by rw [List.length_append]; push_cast; rw [len0]; rfl
  refine sm0C hB hn (d + 27) (sk B N a + 1) _ τ2 _ (by omega) (by omega) (by rw [len2]; omega) t2 L2 (fun w e τ3 f3 e1 e2 => ?_) (fun a' t' e τ3 f3 t3 L3 => ?_)
  · rw [e] at h0
    exact ⟨Or.inl rfl, h0 w rfl τ3 (f02.tr f3) e1 e2⟩
  · rw [e] at h1
    refine ⟨Or.inr rfl, h1 a' _ rfl τ3 (f02.tr f3) t3 ?_⟩
    have e3 : L0 ++ clP (some T, t') = L0 ++ T.map tokC ++ [-63] ++ t'.map tokC := by
      show L0 ++ (T.map tokC ++ [-63] ++ t'.map tokC) = _
      rw [List.append_assoc, List.append_assoc, List.append_assoc]
    rw [e3]; exact L3
theorem claC {B : Int → Int} {N : Int} (hB : BTp B N) (d : Nat) {n a : Int} (hn : 0 ≤ n ∧ n < 5) {L : List Int} {υ : Mem} (a0 : 0 ≤ a) (a1 : a ≤ N) (hlen : (L.length : Int) ≤ a) (ht : TqC υ B N a) (hL : EmC υ n L) {Q : RV → Mem → Prop} (h0 : ∀ w, cla B N a = .inl w → ∀ τ, FrC υ τ n → τ 12 1 = N → τ 12 3 = w → Q (rI 0) τ) (h1 : ∀ a' c, cla B N a = .inr (a', c) → ∀ τ, FrC υ τ n → TqC τ B N a' → EmC τ n (L ++ clP c) → Q (rI 1) τ) : Cl (d + 125) mTs_readClause [aR 20] υ Q := by
  have hN := hB.1
  have r := (sk_r (B := B) (N := N) (a := a))
  have r2 := r.2 a1
  have b := hB.r (a := sk B N a) (by omega)
  unfold cla at h0 h1
  refine bTs_readClause_in (expC hB (d + 122) ⟨by omega, by omega⟩ (by decide) ht (fun y τ s t => ⟨by decide, fun q => absurd q (by decide), fun _ => ?_⟩) (fun y τ s e1 e2 => ⟨by decide, fun _ => h0 _ (if_pos y) τ (frC_of s) e1 e2, fun q => absurd rfl q⟩))
  rw [if_neg (fun q => q y)] at h0 h1
  have lt := (b.2.2 (by omega)).1
  have s' := (sk_r (B := B) (N := N) (a := sk B N a + 1))
  have s2' := s'.2 (by omega)
  have b2 := hB.r (a := sk B N (sk B N a + 1)) (by omega)
  generalize sk B N a = A at *
  refine expC hB (d + 122) ⟨by omega, by omega⟩ (by decide) t (fun y2 τ2 s2 t2 => ⟨by decide, fun _ => ?_, fun q => absurd q (by decide)⟩) (fun y2 τ2 s2 e1 e2 => ⟨by decide, fun q => absurd rfl q, fun _ => h0 _ (if_pos y2) τ2 (frC_of (s.trans s2)) e1 e2⟩)
  rw [if_neg (fun q => q y2)] at h0 h1
  have lt2 := (b2.2.2 (by omega)).1
  generalize sk B N (A + 1) = A2 at *
  have u := (sk_r (B := B) (N := N) (a := A2 + 1))
  have u2 := u.2 (by omega)
  have b3 := hB.r (a := sk B N (A2 + 1)) (by omega)
  refine sgC hB (d + 123) ⟨by omega, by omega⟩ t2 (fun τ3 s3 t3 => ?_)
  have fr3 : FrC υ τ3 n := frC_of ((s.trans s2).trans s3)
  have L3 : EmC τ3 n L := emC_sm hL ((s.trans s2).trans s3)
  generalize sk B N (A2 + 1) = A3 at *
  -- what goes on behind a condition's first unit
  have goOn : ∀ (b1 : Int) (t1 : List Tok) (τ4 : Mem) (Q' : Int → Mem → Prop), (A3 < b1 ∧ b1 ≤ N) → A3 + (t1.length : Int) ≤ b1 → FrC υ τ4 n → TqC τ4 B N b1 → EmC τ4 n (L ++ t1.map tokC) → (∀ w, bnR (moL B N (unK B N 6) 241 b1 false) (fun s => csq B N (t1 ++ s.2) s.1) = .inl w → ∀ τ, FrC υ τ n → τ 12 1 = N → τ 12 3 = w → Q (rI 0) τ) → (∀ a' c, bnR (moL B N (unK B N 6) 241 b1 false) (fun s => csq B N (t1 ++ s.2) s.1) = .inr (a', c) → ∀ τ, FrC υ τ n → TqC τ B N a' → EmC τ n (L ++ clP c) → Q (rI 1) τ) → Cl (d + 124) mTs_readMoreUnits [aR 20, aI 0] τ4 (fun r4 τ5 => oI r4 (fun w6 => (rg w6) ∧ ((w6 : Int) = 0 → Q (rI 0) τ5) ∧ ((w6 : Int) ≠ 0 → Cl (d + 124) mTs_readConsequence [aR 20] τ5 (fun r7 τ8 => oI r7 (fun w9 => (rg w9) ∧ ((w9 : Int) = 0 → Q (rI 0) τ8) ∧ ((w9 : Int) ≠ 0 → Q (rI 1) τ8)))))) := by
    intro b1 t1 τ4 Q' hb1 ht1 f4 t4 L4 h0 h1
    have len4 : (((L ++ t1.map tokC).length : Nat) : Int) = (L.length : Int) + (t1.length : Int) := by rw [List.length_append, List.length_map]; push_cast; rfl
    have mp := (moL_p hB (unK_p hB 6) 241 b1 false (by omega) (by omega)).2
    refine moreC hB (d + 80) hn (unK_p hB 6) (un0C hB hn (d + 60)) b1 _ τ4 _ (by omega) (by omega) (by rw [len4]; omega) t4 L4 (fun w e τ5 f5 e1 e2 => ⟨by decide, fun _ => ?_, fun q => absurd rfl q⟩) (fun b2 t2' e τ5 f5 t5 L5 => ⟨by decide, fun q => absurd q (by decide), fun _ => ?_⟩)
    · dsimp only at e
      rw [e] at h0
      exact h0 w rfl τ5 (f4.tr f5) e1 e2
    · dsimp only at e
      have mp' := mp b2 t2' e
      rw [if_neg (by decide)] at mp'
      rw [e] at h0 h1
      rw [lsC] at L5
      refine csqC hB (d + 80) hn (T := t1 ++ t2') (L0 := L) (a := b2) (by omega) (by omega) (by rw [List.length_append]; push_cast; omega) t5 L5 (fun w e2 τ6 f6 e1 e3 => ⟨by decide, fun _ => h0 w e2 τ6 ((f4.tr f5).tr f6) e1 e3, fun q => absurd rfl q⟩) (fun a' c e2 τ6 f6 t6 L6 => ⟨by decide, fun q => absurd q (by decide), fun _ => h1 a' c e2 τ6 ((f4.tr f5).tr f6) t6 L6⟩)
  have cond : (hr B N A3 = 33 ∨ hr B N A3 = 40) → Ev (d + 125) mTs_readClause 46 [vR 20, vI (hr B N A3)] [] τ3 Q := by
    intro hc
    rw [if_pos hc] at h0 h1
    obtain ⟨-, q1⟩ := unK_p hB 6 A3 (by omega) u2
    refine bTs_readClause_46 (un0C hB hn (d + 61) A3 L τ3 _ (by omega) u2 (by omega) t3 L3 (fun w e τ4 f4 e1 e2 => ⟨by decide, fun _ => ?_, fun q => absurd rfl q⟩) (fun b1 t1 e τ4 f4 t4 L4 => ⟨by decide, fun q => absurd q (by decide), fun _ => ?_⟩))
    · rw [e] at h0
      exact h0 w rfl τ4 (fr3.tr f4) e1 e2
    · rw [e] at h0 h1
      have q1' := q1 b1 t1 e
      exact goOn b1 t1 τ4 (fun _ _ => True) q1'.1 q1'.2.2 (fr3.tr f4) t4 L4 h0 h1
  refine ⟨⟨by omega, by omega⟩, fun z => cond (Or.inl z), fun z => ⟨fun z2 => ?_, fun z2 => cond (Or.inr z2)⟩⟩
  rw [if_neg (fun q => by rcases q with q | q; exact z q; exact z2 q)] at h0 h1
  obtain ⟨-, q1⟩ := sm_p hB 6 A3 (by omega) u2
  refine sm0C hB hn (d + 108) A3 L τ3 _ (by omega) u2 (by omega) t3 L3 (fun w e τ4 f4 e1 e2 => ⟨by decide, fun q => absurd rfl q, fun _ => ?_⟩) (fun b1 t1 e τ4 f4 t4 L4 => ⟨by decide, fun _ => ?_, fun q => absurd q (by decide)⟩)
  · rw [e] at h0
    exact h0 w rfl τ4 (fr3.tr f4) e1 e2
  · rw [e] at h0 h1
    have q1' := q1 b1 t1 e
    change (∀ w, (if cmK (hr B N (sk B N b1)) then bnR (cmG B N (smK B N (atK B N 6)) (sk B N b1)) (fun q => bnR (moL B N (unK B N 6) 241 q.1 false) (fun s => csq B N ((t1 ++ q.2) ++ s.2) s.1)) else Sum.inr (sk B N b1, (none, t1))) = .inl w → _) at h0
    change (∀ a' c, (if cmK (hr B N (sk B N b1)) then bnR (cmG B N (smK B N (atK B N 6)) (sk B N b1)) (fun q => bnR (moL B N (unK B N 6) 241 q.1 false) (fun s => csq B N ((t1 ++ q.2) ++ s.2) s.1)) else Sum.inr (sk B N b1, (none, t1))) = .inr (a', c) → _) at h1
    have r5 := (sk_r (B := B) (N := N) (a := b1))
    have r6 := r5.2 q1'.1.2
    have b5 := hB.r (a := sk B N b1) (by omega)
    have len4 : (((L ++ t1.map tokC).length : Nat) : Int) = (L.length : Int) + (t1.length : Int) := by rw [List.length_append, List.length_map]; push_cast; rfl
    have f04 := fr3.tr f4
    refine sgC hB (d + 123) ⟨by omega, by omega⟩ t4 (fun τ5 s5 t5 => ⟨⟨by omega, by omega⟩, fun y5 => ?_, fun y5 => ?_⟩)
    · rw [if_pos y5] at h0 h1
      have f05 := f04.tr (frC_of (n := n) s5)
      refine bTs_readUnit_in (d := d + 80) (sgC hB (d + 122) ⟨by omega, by omega⟩ t5 (fun τ6 s6 t6 => ⟨by decide, fun _ => bTs_readUnit_31 (d := d + 80) ⟨by decide, fun _ => ?_, fun q => absurd q (by decide)⟩, fun q => absurd q (by decide)⟩))
      rw [sk_sk] at t6 ⊢
      obtain ⟨-, q2⟩ := cmG_p hB (sm_p hB 6) (sk B N b1) (by omega) r6
      refine cmC hB (d + 80) hn (sm_p hB 6) (sm0C hB hn (d + 107)) (sk B N b1) _ τ6 _ (by omega) r6 (by rw [len4]; omega) t6 (emC_sm (emC_sm L4 s5) s6) (fun w e2 τ7 f7 e1 e3 => ⟨by decide, fun _ => ?_, fun q => absurd rfl q⟩) (fun b2 t2' e2 τ7 f7 t7 L7 => ⟨by decide, fun q => absurd q (by decide), fun _ => ?_⟩)
      · rw [e2] at h0
        exact h0 w rfl τ7 ((f05.tr (frC_of s6)).tr f7) e1 e3
      · rw [e2] at h0 h1
        have q2' := q2 b2 t2' e2
        rw [lsC] at L7
        exact goOn b2 (t1 ++ t2') τ7 (fun _ _ => True) ⟨by omega, by omega⟩ (by rw [List.length_append]; push_cast; omega) ((f05.tr (frC_of s6)).tr f7) t7 L7 h0 h1
    · rw [if_neg y5] at h1
      exact h1 _ _ rfl τ5 (f04.tr (frC_of s5)) t5 (emC_sm L4 s5)
theorem lawC {B : Int → Int} {N : Int} (hB : BTp B N) (d : Nat) {n : Int} (hn : 0 ≤ n ∧ n < 5) {Q : RV → Mem → Prop} : ∀ (m : Nat) (i a : Int) (L : List Int) (υ : Mem), 0 ≤ i → i + (m : Int) = 241 → 0 ≤ a → a ≤ N → (L.length : Int) ≤ a → TqC υ B N a → EmC υ n L → (∀ w, law B N m a = .inl w → ∀ τ, FrC υ τ n → τ 12 1 = N → τ 12 3 = w → Q (rI 0) τ) → (∀ cs, law B N m a = .inr cs → ∀ τ, FrC υ τ n → τ 12 1 = N → EmC τ n (L ++ cs.flatMap clC) → Q (rI 1) τ) → Ev (d + 126) mTs_readSpare 19 [vR 20, vI i] [] υ Q
  | 0, i, a, L, υ, i0, i1, a0, a1, hlen, ht, hL, h0, h1 => by
    refine bTs_readSpare_19 ⟨⟨by omega, by omega⟩, fun _ => ?_, fun z => absurd z (by omega)⟩
    rw [ht.1]
    exact failC (d + 124) ht (fun τ s e1 e2 => ⟨by decide, h0 N rfl τ (frC_of s) e1 e2⟩)
  | m + 1, i, a, L, υ, i0, i1, a0, a1, hlen, ht, hL, h0, h1 => by
    have hN := hB.1
    obtain ⟨-, q⟩ := cla_p hB a0 a1
    unfold law at h0 h1
    refine bTs_readSpare_19 ⟨⟨by omega, by omega⟩, fun z => absurd z (by omega), fun _ => claC hB d hn a0 a1 hlen ht hL (fun w e τ f e1 e2 => ⟨by decide, fun z => absurd rfl z, fun _ => ?_⟩) (fun a' c e τ f t L1 => ⟨by decide, fun _ => ?_, fun z => absurd z (by decide)⟩)⟩
    · rw [e] at h0
      exact h0 w rfl τ f e1 e2
    · rw [e] at h0 h1
      have q1 := q a' c e
      change (∀ w, (if hr B N (sk B N a') = -1 then Sum.inr [c] else if hr B N (sk B N a') = 59 then bnR (law B N m (sk B N a' + 1)) (fun cs => .inr (c :: cs)) else .inl (sk B N a')) = .inl w → _) at h0
      change (∀ cs, (if hr B N (sk B N a') = -1 then Sum.inr [c] else if hr B N (sk B N a') = 59 then bnR (law B N m (sk B N a' + 1)) (fun cs => .inr (c :: cs)) else .inl (sk B N a')) = .inr cs → _) at h1
      have lc : (clC c).length = (clP c).length + 1 := by rw [clP_C, List.length_append]; rfl
      have len1 : (((L ++ clP c).length : Nat) : Int) = (L.length : Int) + ((clP c).length : Int) := by rw [List.length_append]; push_cast; rfl
      have q1l := q1.2.1
      rw [lc] at q1l
      push_cast at q1l
      refine emitC (d + 124) hn t L1 (by rw [len1]; omega) (fun τ2 f2 t2 L2 => ?_)
      rw [List.append_assoc, ← clP_C] at L2
      have len2 : (((L ++ clC c).length : Nat) : Int) = (L.length : Int) + ((clC c).length : Int) := by rw [List.length_append]; push_cast; rfl
      have r := (sk_r (B := B) (N := N) (a := a'))
      have r2 := r.2 q1.1.2
      have b := hB.r (a := sk B N a') (by omega)
      have f02 := f.tr f2
      refine overC hB (d + 123) ⟨by omega, by omega⟩ t2 (fun z τ3 s3 t3 => ⟨by decide, fun y => absurd y (by decide), fun _ => ?_⟩) (fun z τ3 s3 t3 => ⟨by decide, fun _ => ?_, fun y => absurd rfl y⟩)
      · rw [if_pos z] at h1
        refine h1 [c] rfl τ3 (f02.tr (frC_of s3)) t3.1 ?_
        have e1 : (List.flatMap clC [c]) = clC c := by rw [List.flatMap_cons, List.flatMap_nil, List.append_nil]
        rw [e1]
        exact emC_sm L2 s3
      · rw [if_neg z] at h0 h1
        have lt := (b.2.2 z).1
        refine expC hB (d + 123) ⟨by omega, by omega⟩ (by decide) t3 (fun y τ4 s4 t4 => ⟨by decide, fun _ => ?_, fun y => absurd y (by decide)⟩) (fun y τ4 s4 e1 e2 => ⟨by decide, fun y => absurd rfl y, fun _ => ?_⟩)
        · rw [sk_sk] at y t4
          rw [if_pos y] at h0 h1
          have fA := (f02.tr (frC_of (n := n) s3)).tr (frC_of (n := n) s4)
          refine lawC hB d hn m (i + 1) (sk B N a' + 1) (L ++ clC c) τ4 (by omega) (by omega) (by omega) (by omega) (by rw [len2]; omega) t4 (emC_sm (emC_sm L2 s3) s4) (fun w e2 τ5 f5 e1 e3 => ?_) (fun cs e2 τ5 f5 e1 L5 => ?_)
          · rw [e2] at h0
            exact h0 w rfl τ5 (fA.tr f5) e1 e3
          · rw [e2] at h1
            refine h1 (c :: cs) rfl τ5 (fA.tr f5) e1 ?_
            rw [List.flatMap_cons, ← List.append_assoc]
            exact L5
        · rw [sk_sk] at y e2
          rw [if_neg y] at h0
          exact h0 _ rfl τ4 ((f02.tr (frC_of s3)).tr (frC_of s4)) e1 e2
theorem tasteC {B : Int → Int} {N : Int} (hB : BTp B N) (d : Nat) {n : Int} (hn : 0 ≤ n ∧ n < 5) {υ : Mem} (h20 : υ 20 4 = n) (h1' : υ 12 1 = N) (h13 : ∀ i, 0 ≤ i → i < N → υ 13 i = B i) {Q : RV → Mem → Prop} (h0 : ∀ w, law B N 241 0 = .inl w → ∀ τ, FrC υ τ n → τ 12 1 = N → τ 12 3 = w → Q (rI 0) τ) (h1 : ∀ cs, law B N 241 0 = .inr cs → ∀ τ, FrC υ τ n → τ 12 1 = N → EmC τ n (cs.flatMap clC) → Q (rI 1) τ) : Cl (d + 126) mTs_readSpare [aR 20] υ Q := by
  have hN := hB.1
  refine bTs_readSpare_in (bTa_rewind_in (d := d + 124) ?_)
  have s0 : Sm υ (ups (ups υ 12 2 0) 12 3 (-1)) [12] [] := (Sm.refl.ups rfl (Or.inl (by decide))).ups rfl (Or.inl (by decide))
  have t0 : TqC (ups (ups υ 12 2 0) 12 3 (-1)) B N 0 := ⟨by rw [ups_fn (by decide), ups_fn (by decide)]; exact h1', by rw [ups_fn (by decide), ups_hit], fun i i0 i1 => by rw [ups_ne (by decide), ups_ne (by decide)]; exact h13 i i0 i1⟩
  have e20 : (ups (ups υ 12 2 0) 12 3 (-1)) 20 4 = n := by rw [s0.1 20 rfl]; exact h20
  generalize (ups (ups υ 12 2 0) 12 3 (-1)) = υ1 at *
  rw [e20]
  refine ⟨hn.1, hn.2, ?_⟩
  have f1 : FrC υ (ups υ1 27 n 0) n := (frC_of (n := n) s0).tr ⟨Sm.refl.ups rfl (Or.inl (by decide)), fun j _ => by rw [ups_ne (by decide)], fun j hj => by rw [ups_fn hj]⟩
  exact lawC hB d hn 241 0 0 [] _ (by decide) (by decide) (Int.le_refl _) (by omega) (Int.le_refl _) (t0.sm (S := [27]) (J := []) (Sm.refl.ups rfl (Or.inl (by decide))) rfl rfl) ⟨by rw [ups_ne (by decide)]; exact e20, ups_hit, fun j v h => by cases h⟩ (fun w e τ f e1 e2 => h0 w e τ (f1.tr f) e1 e2) (fun cs e τ f e1 L => h1 cs e τ (f1.tr f) e1 L)
