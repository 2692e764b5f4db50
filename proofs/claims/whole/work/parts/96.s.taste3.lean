/-! ===== A TASTE READ, BY THE CLASS: ATOMS, UNITS, CLAUSES ===== -/
theorem letC {B : Int → Int} {N : Int} (hB : BTp B N) (d : Nat) {n z a c : Int} {L : List Int} {υ : Mem} (hn : 0 ≤ n ∧ n < 5) (hc : rg c) (a0 : 0 ≤ a) (lt : ltO c ≠ -1 → a < N) (a1 : a ≤ N) (hlen : (L.length : Int) ≤ a) (ht : TqC υ B N a) (hL : EmC υ n L) {Q : RV → Mem → Prop} (h1 : ltO c ≠ -1 → ∀ τ, FrC υ τ n → TqC τ B N (a + 1) → EmC τ n (L ++ [-1 - ltO c]) → Q (rI 1) τ) (h0 : ltO c = -1 → Cl (d + 2) mTa_number [aR 12, aI 4] υ (fun r1 τ2 => oI r1 (fun w3 => (rg w3) ∧ ((w3 : Int) ≠ (-1) → Cl (d + 2) mTs_emit [aR 20, aI w3] τ2 (fun r4 τ5 => oV r4 (Q (rI 1) τ5))) ∧ ((w3 : Int) = (-1) → Q (rI 0) τ2)))) : Ev (d + 3) mTs_readAtom 78 [vR 20, vI z, vI c, vI 0] [] υ Q := by
  have hN := hB.1
  have hit : ∀ i, ltO c = i → 0 ≤ i → Cl (d + 2) mTs_emit [aR 20, aI ((-1) - i)] (ups υ 12 2 ((υ 12 2) + 1)) (fun r6 τ7 => oV r6 (Q (rI 1) τ7)) := by
    intro i hi i0
    have lt' := lt (by omega)
    rw [ht.2.1]
    have s2 : Sm υ (ups υ 12 2 (a + 1)) [12] [] := Sm.refl.ups rfl (Or.inl (by decide))
    refine emitC (d + 1) hn (ht.to (a + 1)) (emC_sm hL s2) (by omega) (fun τ f t e => h1 (by omega) τ ((frC_of s2).tr f) t (by rw [hi]; exact e))
  have un : ltO c = (if cst 9 0 = c then 0 else if cst 9 1 = c then 1 else if cst 9 2 = c then 2 else if cst 9 3 = c then 3 else if cst 9 4 = c then 4 else if cst 9 5 = c then 5 else if cst 9 6 = c then 6 else -1) := rfl
  by_cases z0 : cst 9 0 = c
  · have e : ltO c = 0 := by rw [un, if_pos z0]
    exact bTs_readAtom_78 ⟨by decide, fun y => absurd y (by decide), fun _ => ⟨by decide, by decide, hc, fun y => absurd z0 y, fun _ => hit 0 e (by decide)⟩⟩
  by_cases z1 : cst 9 1 = c
  · have e : ltO c = 1 := by rw [un, if_neg z0, if_pos z1]
    exact bTs_readAtom_78 ⟨by decide, fun y => absurd y (by decide), fun _ => ⟨by decide, by decide, hc, fun _ => bTs_readAtom_78 ⟨by decide, fun y => absurd y (by decide), fun _ => ⟨by decide, by decide, hc, fun y => absurd z1 y, fun _ => hit 1 e (by decide)⟩⟩, fun y => absurd y z0⟩⟩
  by_cases z2 : cst 9 2 = c
  · have e : ltO c = 2 := by rw [un, if_neg z0, if_neg z1, if_pos z2]
    exact bTs_readAtom_78 ⟨by decide, fun y => absurd y (by decide), fun _ => ⟨by decide, by decide, hc, fun _ => bTs_readAtom_78 ⟨by decide, fun y => absurd y (by decide), fun _ => ⟨by decide, by decide, hc, fun _ => bTs_readAtom_78 ⟨by decide, fun y => absurd y (by decide), fun _ => ⟨by decide, by decide, hc, fun y => absurd z2 y, fun _ => hit 2 e (by decide)⟩⟩, fun y => absurd y z1⟩⟩, fun y => absurd y z0⟩⟩
  by_cases z3 : cst 9 3 = c
  · have e : ltO c = 3 := by rw [un, if_neg z0, if_neg z1, if_neg z2, if_pos z3]
    exact bTs_readAtom_78 ⟨by decide, fun y => absurd y (by decide), fun _ => ⟨by decide, by decide, hc, fun _ => bTs_readAtom_78 ⟨by decide, fun y => absurd y (by decide), fun _ => ⟨by decide, by decide, hc, fun _ => bTs_readAtom_78 ⟨by decide, fun y => absurd y (by decide), fun _ => ⟨by decide, by decide, hc, fun _ => bTs_readAtom_78 ⟨by decide, fun y => absurd y (by decide), fun _ => ⟨by decide, by decide, hc, fun y => absurd z3 y, fun _ => hit 3 e (by decide)⟩⟩, fun y => absurd y z2⟩⟩, fun y => absurd y z1⟩⟩, fun y => absurd y z0⟩⟩
  by_cases z4 : cst 9 4 = c
  · have e : ltO c = 4 := by rw [un, if_neg z0, if_neg z1, if_neg z2, if_neg z3, if_pos z4]
    exact bTs_readAtom_78 ⟨by decide, fun y => absurd y (by decide), fun _ => ⟨by decide, by decide, hc, fun _ => bTs_readAtom_78 ⟨by decide, fun y => absurd y (by decide), fun _ => ⟨by decide, by decide, hc, fun _ => bTs_readAtom_78 ⟨by decide, fun y => absurd y (by decide), fun _ => ⟨by decide, by decide, hc, fun _ => bTs_readAtom_78 ⟨by decide, fun y => absurd y (by decide), fun _ => ⟨by decide, by decide, hc, fun _ => bTs_readAtom_78 ⟨by decide, fun y => absurd y (by decide), fun _ => ⟨by decide, by decide, hc, fun y => absurd z4 y, fun _ => hit 4 e (by decide)⟩⟩, fun y => absurd y z3⟩⟩, fun y => absurd y z2⟩⟩, fun y => absurd y z1⟩⟩, fun y => absurd y z0⟩⟩
  by_cases z5 : cst 9 5 = c
  · have e : ltO c = 5 := by rw [un, if_neg z0, if_neg z1, if_neg z2, if_neg z3, if_neg z4, if_pos z5]
    exact bTs_readAtom_78 ⟨by decide, fun y => absurd y (by decide), fun _ => ⟨by decide, by decide, hc, fun _ => bTs_readAtom_78 ⟨by decide, fun y => absurd y (by decide), fun _ => ⟨by decide, by decide, hc, fun _ => bTs_readAtom_78 ⟨by decide, fun y => absurd y (by decide), fun _ => ⟨by decide, by decide, hc, fun _ => bTs_readAtom_78 ⟨by decide, fun y => absurd y (by decide), fun _ => ⟨by decide, by decide, hc, fun _ => bTs_readAtom_78 ⟨by decide, fun y => absurd y (by decide), fun _ => ⟨by decide, by decide, hc, fun _ => bTs_readAtom_78 ⟨by decide, fun y => absurd y (by decide), fun _ => ⟨by decide, by decide, hc, fun y => absurd z5 y, fun _ => hit 5 e (by decide)⟩⟩, fun y => absurd y z4⟩⟩, fun y => absurd y z3⟩⟩, fun y => absurd y z2⟩⟩, fun y => absurd y z1⟩⟩, fun y => absurd y z0⟩⟩
  by_cases z6 : cst 9 6 = c
  · have e : ltO c = 6 := by rw [un, if_neg z0, if_neg z1, if_neg z2, if_neg z3, if_neg z4, if_neg z5, if_pos z6]
    exact bTs_readAtom_78 ⟨by decide, fun y => absurd y (by decide), fun _ => ⟨by decide, by decide, hc, fun _ => bTs_readAtom_78 ⟨by decide, fun y => absurd y (by decide), fun _ => ⟨by decide, by decide, hc, fun _ => bTs_readAtom_78 ⟨by decide, fun y => absurd y (by decide), fun _ => ⟨by decide, by decide, hc, fun _ => bTs_readAtom_78 ⟨by decide, fun y => absurd y (by decide), fun _ => ⟨by decide, by decide, hc, fun _ => bTs_readAtom_78 ⟨by decide, fun y => absurd y (by decide), fun _ => ⟨by decide, by decide, hc, fun _ => bTs_readAtom_78 ⟨by decide, fun y => absurd y (by decide), fun _ => ⟨by decide, by decide, hc, fun _ => bTs_readAtom_78 ⟨by decide, fun y => absurd y (by decide), fun _ => ⟨by decide, by decide, hc, fun y => absurd z6 y, fun _ => hit 6 e (by decide)⟩⟩, fun y => absurd y z5⟩⟩, fun y => absurd y z4⟩⟩, fun y => absurd y z3⟩⟩, fun y => absurd y z2⟩⟩, fun y => absurd y z1⟩⟩, fun y => absurd y z0⟩⟩
  exact bTs_readAtom_78 ⟨by decide, fun y => absurd y (by decide), fun _ => ⟨by decide, by decide, hc, fun _ => bTs_readAtom_78 ⟨by decide, fun y => absurd y (by decide), fun _ => ⟨by decide, by decide, hc, fun _ => bTs_readAtom_78 ⟨by decide, fun y => absurd y (by decide), fun _ => ⟨by decide, by decide, hc, fun _ => bTs_readAtom_78 ⟨by decide, fun y => absurd y (by decide), fun _ => ⟨by decide, by decide, hc, fun _ => bTs_readAtom_78 ⟨by decide, fun y => absurd y (by decide), fun _ => ⟨by decide, by decide, hc, fun _ => bTs_readAtom_78 ⟨by decide, fun y => absurd y (by decide), fun _ => ⟨by decide, by decide, hc, fun _ => bTs_readAtom_78 ⟨by decide, fun y => absurd y (by decide), fun _ => ⟨by decide, by decide, hc, fun _ => bTs_readAtom_78 ⟨by decide, fun _ => h0 (by rw [un, if_neg z0, if_neg z1, if_neg z2, if_neg z3, if_neg z4, if_neg z5, if_neg z6]), fun y => absurd y (by decide)⟩, fun y => absurd y z6⟩⟩, fun y => absurd y z5⟩⟩, fun y => absurd y z4⟩⟩, fun y => absurd y z3⟩⟩, fun y => absurd y z2⟩⟩, fun y => absurd y z1⟩⟩, fun y => absurd y z0⟩⟩
theorem atomC {B : Int → Int} {N : Int} (hB : BTp B N) (d : Nat) {n z : Int} (hn : 0 ≤ n ∧ n < 5) {nest : Bool} {sm : Int → RT} (hz : rg z) (hnz : nest = true ↔ z < 6) (hps : nest = true → PosK N sm) (hrun : nest = true → RdC B N n sm (fun υ Q => Cl (d + 2) mTs_readSum [aR 20, aI (z + 1)] υ Q)) : RdC B N n (atG B N nest sm) (fun υ Q => Cl (d + 3) mTs_readAtom [aR 20, aI z] υ Q) := by
  have hN := hB.1
  intro a L υ Q a0 a1 hlen ht hL h0 h1
  have r := (sk_r (B := B) (N := N) (a := a))
  have r2 := r.2 a1
  have b := hB.r (a := sk B N a) (by omega)
  unfold atG at h0 h1
  refine bTs_readAtom_in (sgC hB (d + 1) ⟨by omega, by omega⟩ ht (fun τ s t => ⟨⟨by omega, by omega⟩, fun y => ?_, fun y => ?_⟩))
  · rw [if_neg y] at h0 h1
    have fr := frC_of (n := n) s
    refine letC hB d hn ⟨by omega, by omega⟩ (by omega) (fun q => ?_) r2 (by omega) t (emC_sm hL s) (fun q τ2 f2 t2 e2 => ?_) (fun q => ?_)
    · by_cases c3 : hr B N (sk B N a) = -1
      · exact absurd (by rw [c3]; rfl) q
      · exact (b.2.2 c3).1
    · rw [if_pos q] at h1
      exact h1 _ _ rfl τ2 (fr.tr f2) t2 e2
    · rw [if_neg (fun x => x q)] at h0 h1
      obtain ⟨p1, q1⟩ := num_r hB (n := 4) (a := sk B N a) ⟨by omega, by omega⟩
      refine numC hB d (n := 4) (by decide) ⟨by omega, by omega⟩ t (fun w e τ2 s2 e1 e2 => ⟨by decide, fun x => absurd rfl x, fun _ => ?_⟩) (fun a' v e τ2 s2 t2 => ?_)
      · rw [e] at h0
        exact h0 w rfl τ2 (frC_of (s.trans s2)) e1 e2
      · rw [e] at h1
        have q1' := q1 a' v e
        have hv : v < 10000 := by have := q1'.2.2; omega
        refine ⟨⟨by omega, by omega⟩, fun _ => emitC (d + 1) hn t2 (emC_sm hL (s.trans s2)) (by omega) (fun τ3 f3 t3 e3 => h1 a' _ rfl τ3 ((frC_of (s.trans s2)).tr f3) t3 e3), fun x => absurd x (by omega)⟩
  · rw [if_pos y] at h0 h1
    have lt := (b.2.2 (by omega)).1
    refine ⟨hz, fun x => ?_, fun x => ?_⟩
    · have hne : nest = true := hnz.mpr x
      rw [hne, if_neg (by decide)] at h0 h1
      rw [t.2.1]
      have t2 := t.to (sk B N a + 1)
      have s2 : Sm υ (ups τ 12 2 (sk B N a + 1)) [12] [] := s.ups rfl (Or.inl (by decide))
      obtain ⟨-, q1⟩ := hps hne (sk B N a + 1) (by omega) (by omega)
      refine hrun hne (sk B N a + 1) L _ _ (by omega) (by omega) (by omega) t2 (emC_sm hL s2) (fun w e τ3 f3 e1 e2 => ⟨by decide, fun _ => ?_, fun q => absurd rfl q⟩) (fun a' t' e τ3 f3 t3 L3 => ⟨by decide, fun q => absurd q (by decide), fun _ => ?_⟩)
      · rw [e] at h0
        exact h0 w rfl τ3 ((frC_of s2).tr f3) e1 e2
      · rw [e] at h0 h1
        have q1' := q1 a' t' e
        have fA := (frC_of (n := n) s2).tr f3
        refine expC hB d ⟨by omega, by omega⟩ (by decide) t3 (fun x2 τ4 s4 t4 => ⟨by decide, fun q => absurd q (by decide), fun _ => ?_⟩) (fun x2 τ4 s4 e1 e2 => ⟨by decide, fun _ => ?_, fun q => absurd rfl q⟩)
        · refine h1 (sk B N a' + 1) t' ?_ τ4 (fA.tr (frC_of s4)) t4 (emC_sm L3 s4)
          show (if hr B N (sk B N a') = 93 then _ else _) = _
          rw [if_pos x2]
        · refine h0 (sk B N a') ?_ τ4 (fA.tr (frC_of s4)) e1 e2
          show (if hr B N (sk B N a') = 93 then _ else _) = _
          rw [if_neg x2]
    · have hne : nest = false := by
        cases q : nest
        · rfl
        · have := hnz.mp q; omega
      rw [if_pos hne] at h0
      rw [t.2.1]
      exact failC (d + 1) t (fun τ2 s2 e1 e2 => ⟨by decide, h0 _ rfl τ2 (frC_of (s.trans s2)) e1 e2⟩)
theorem RdC.mono {B : Int → Int} {N n : Int} {f : Int → RT} {r1 r2 : Mem → (RV → Mem → Prop) → Prop} (h : RdC B N n f r1) (e : ∀ υ Q, r1 υ Q → r2 υ Q) : RdC B N n f r2 := fun a L υ Q a0 a1 hl ht hL h0 h1 => e υ Q (h a L υ Q a0 a1 hl ht hL h0 h1)
theorem smKC {B : Int → Int} {N : Int} (hB : BTp B N) {n : Int} (hn : 0 ≤ n ∧ n < 5) : ∀ (k : Nat) (d : Nat), k ≤ 6 → RdC B N n (smK B N (atK B N k)) (fun υ Q => Cl (d + 2 * k + 4) mTs_readSum [aR 20, aI (6 - (k : Int))] υ Q)
  | 0, d, hk => sumC hB (d + 1) hn (atK_p hB 0) (atomC hB d hn (nest := false) (z := 6 - ((0 : Nat) : Int)) (by decide) ⟨fun z => (by cases z), fun z => absurd z (by decide)⟩ (fun z => by cases z) (fun z => by cases z))
  | k + 1, d, hk => sumC hB (d + 2 * (k + 1) + 1) hn (atK_p hB (k + 1)) (atomC hB (d + 2 * (k + 1)) hn (nest := true) (z := 6 - ((k + 1 : Nat) : Int)) ⟨by omega, by omega⟩ ⟨fun _ => (by omega), fun _ => rfl⟩ (fun _ => sm_p hB k) (fun _ => by
      have := smKC hB hn k d (by omega)
      rw [show (6 : Int) - (k : Int) = 6 - ((k + 1 : Nat) : Int) + 1 by omega] at this
      exact this))
theorem cmC {B : Int → Int} {N : Int} (hB : BTp B N) (d : Nat) {n z x2 x3 : Int} {u4 : Option AV} (hn : 0 ≤ n ∧ n < 5) {sm : Int → RT} (hps : PosK N sm) (hrun : RdC B N n sm (fun υ Q => Cl (d + 43) mTs_readSum [aR 20, aI z] υ Q)) : RdC B N n (cmG B N sm) (fun υ Q => Ev (d + 44) mTs_readUnit 45 [vR 20, vI z, vI x2, vI x3, u4] [] υ Q) := by
  have hN := hB.1
  intro a L υ Q a0 a1 hlen ht hL h0 h1
  have r := (sk_r (B := B) (N := N) (a := a))
  have r2 := r.2 a1
  have b := hB.r (a := sk B N a) (by omega)
  unfold cmG at h0 h1
  refine bTs_readUnit_45 (sgC hB (d + 42) ⟨by omega, by omega⟩ ht (fun τ s t => ⟨⟨by omega, by omega⟩, fun y => ?_, fun y => ?_⟩))
  · rw [if_pos y] at h0 h1
    have lt := (b.2.2 (by omega)).1
    have oc : (opT (hr B N (sk B N a))).map tokC = [-(hr B N (sk B N a))] := by rcases y with e | e | e <;> rw [e] <;> rfl
    obtain ⟨-, q1⟩ := hps (sk B N a + 1) (by omega) (by omega)
    rw [t.2.1]
    have t2 := t.to (sk B N a + 1)
    have s2 : Sm υ (ups τ 12 2 (sk B N a + 1)) [12] [] := s.ups rfl (Or.inl (by decide))
    refine hrun (sk B N a + 1) L _ _ (by omega) (by omega) (by omega) t2 (emC_sm hL s2) (fun w e τ3 f3 e1 e2 => ⟨by decide, fun q => absurd rfl q, fun _ => ?_⟩) (fun a' t' e τ3 f3 t3 L3 => ⟨by decide, fun _ => ?_, fun q => absurd q (by decide)⟩)
    · rw [e] at h0
      exact h0 w rfl τ3 ((frC_of s2).tr f3) e1 e2
    · rw [e] at h1
      have q1' := q1 a' t' e
      have len : (((L ++ t'.map tokC).length : Nat) : Int) = (L.length : Int) + (t'.length : Int) := by rw [List.length_append, List.length_map]; push_cast; rfl
      refine emitC (d + 42) hn t3 L3 (by rw [len]; omega) (fun τ4 f4 t4 L4 => ?_)
      rw [← oc, lsC] at L4
      exact h1 a' _ rfl τ4 (((frC_of s2).tr f3).tr f4) t4 L4
  · rw [if_neg y] at h0
    rw [t.2.1]
    exact failC (d + 42) t (fun τ2 s2 e1 e2 => ⟨by decide, h0 _ rfl τ2 (frC_of (s.trans s2)) e1 e2⟩)
abbrev e01 (e : Bool) : Int := if e = true then 1 else 0
theorem e01_rg : ∀ e : Bool, rg (e01 e) := by decide
theorem e01_one : ∀ e : Bool, e01 e ≠ 0 → (1 : Int) = e01 e := by decide
theorem moLC {B : Int → Int} {N : Int} (hB : BTp B N) (d : Nat) {n z : Int} (hn : 0 ≤ n ∧ n < 5) {un : Int → RT} (hps : PosK N un) (hrun : RdC B N n un (fun υ Q => Cl (d + 43) mTs_readUnit [aR 20, aI z, aI 0] υ Q)) : ∀ (m : Nat) (i a : Int) (e : Bool) (L : List Int) (υ : Mem) (u4 : Option AV) (Q : RV → Mem → Prop), 0 ≤ i → i + (m : Int) = 241 → 0 ≤ a → a ≤ N → (L.length : Int) + (if e = true then 1 else 0) ≤ a → TqC υ B N a → EmC υ n L → (∀ w, moL B N un m a e = .inl w → ∀ τ, FrC υ τ n → τ 12 1 = N → τ 12 3 = w → Q (rI 0) τ) → (∀ a' t, moL B N un m a e = .inr (a', t) → ∀ τ, FrC υ τ n → TqC τ B N a' → EmC τ n (L ++ t.map tokC) → Q (rI 1) τ) → Ev (d + 44) mTs_readMoreUnits 4 [vR 20, vI z, vI (e01 e), vI i, u4] [] υ Q := by
  have hN := hB.1
  -- a | that waits
  have orE : ∀ (e : Bool) (a : Int) (L : List Int) (υ : Mem) (Q : RV → Mem → Prop), a ≤ N → (L.length : Int) + (if e = true then 1 else 0) ≤ a → TqC υ B N a → EmC υ n L → (∀ τ, FrC υ τ n → TqC τ B N a → EmC τ n (L ++ (orT e).map tokC) → Q (rI 1) τ) → (rg (e01 e)) ∧ ((e01 e : Int) = 0 → Q (rI 1) υ) ∧ ((e01 e : Int) ≠ 0 → Cl (d + 43) mTs_emit [aR 20, aI (-124)] υ (fun r1 τ2 => oV r1 (Q (rI 1) τ2))) := by
    intro e a L υ Q a1 hlen ht hL hq
    cases e
    · refine ⟨by decide, fun _ => hq υ (frC_of Sm.refl) ht ?_, fun q => absurd rfl q⟩
      rw [show (orT false).map tokC = [] from rfl, List.append_nil]; exact hL
    · refine ⟨by decide, fun q => absurd q (by decide), fun _ => emitC (d + 42) hn ht hL (by rw [if_pos rfl] at hlen; omega) (fun τ f t L' => hq τ f t L')⟩
  intro m
  induction m with
  | zero =>
    intro i a e L υ u4 Q i0 i1 a0 a1 hlen ht hL h0 h1
    exact bTs_readMoreUnits_4 ⟨⟨by omega, by omega⟩, fun _ => orE e a L υ Q a1 hlen ht hL (fun τ f t L' => h1 a _ rfl τ f t L'), fun y => absurd y (by omega)⟩
  | succ m ih =>
    intro i a e L υ u4 Q i0 i1 a0 a1 hlen ht hL h0 h1
    have r := (sk_r (B := B) (N := N) (a := a))
    have r2 := r.2 a1
    have b := hB.r (a := sk B N a) (by omega)
    have ol := orT_l e
    unfold moL at h0 h1
    refine bTs_readMoreUnits_4 ⟨⟨by omega, by omega⟩, fun y => absurd y (by omega), fun _ => sgC hB (d + 42) ⟨by omega, by omega⟩ ht (fun τ s t => ?_)⟩
    have fr := frC_of (n := n) s
    have hL' := emC_sm hL s
    have lt : hr B N (sk B N a) ≠ -1 → sk B N a < N := fun z => (b.2.2 z).1
    generalize hr B N (sk B N a) = c at *
    -- the unit behind
    have unit : ∀ (s0 : Int) (pre : List Tok) (e' : Bool) (τ2 : Mem), (c = 38 ∨ c = 124) → s0 = e01 e' → FrC υ τ2 n → TqC τ2 B N (sk B N a + 1) → EmC τ2 n (L ++ pre.map tokC) → (L.length : Int) + (pre.length : Int) + (if c = 124 then (0 : Int) else (if e = true then 1 else 0)) ≤ a → (e' = if c = 124 then true else e) → (∀ w, bnR (un (sk B N a + 1)) (fun r => bnR (moL B N un m r.1 e') (fun s => .inr (s.1, pre ++ (r.2 ++ ((if c = 38 then opT 38 else []) ++ s.2))))) = .inl w → ∀ τ, FrC υ τ n → τ 12 1 = N → τ 12 3 = w → Q (rI 0) τ) → (∀ a' t, bnR (un (sk B N a + 1)) (fun r => bnR (moL B N un m r.1 e') (fun s => .inr (s.1, pre ++ (r.2 ++ ((if c = 38 then opT 38 else []) ++ s.2))))) = .inr (a', t) → ∀ τ, FrC υ τ n → TqC τ B N a' → EmC τ n (L ++ t.map tokC) → Q (rI 1) τ) → Ev (d + 44) mTs_readMoreUnits 83 [vR 20, vI z, vI (e01 e), vI i, vI c] [aI s0] τ2 Q := by
      intro s0 pre e' τ2 hc hor f2 t2 L2 hl2 he' h0 h1
      have l2 := lt (by omega)
      obtain ⟨-, q1⟩ := hps (sk B N a + 1) (by omega) (by omega)
      have len2 : (((L ++ pre.map tokC).length : Nat) : Int) = (L.length : Int) + (pre.length : Int) := by rw [List.length_append, List.length_map]; push_cast; rfl
      refine bTs_readMoreUnits_83 (hrun (sk B N a + 1) _ τ2 _ (by omega) (by omega) (by rw [len2]; split at hl2 <;> (try split at hl2) <;> omega) t2 L2 (fun w ei τ3 f3 e1 e2 => ⟨by decide, fun q => absurd rfl q, fun _ => ?_⟩) (fun b1 t1 ei τ3 f3 t3 L3 => ⟨by decide, fun _ => ⟨⟨by omega, by omega⟩, fun x => ?_, fun x => ?_⟩, fun q => absurd q (by decide)⟩))
      · rw [ei] at h0
        exact h0 w rfl τ3 (f2.tr f3) e1 e2
      · rw [ei] at h0 h1
        rw [hor]
        have q1' := q1 b1 t1 ei
        have len3 : (((L ++ pre.map tokC ++ t1.map tokC).length : Nat) : Int) = (L.length : Int) + (pre.length : Int) + (t1.length : Int) := by rw [List.length_append, List.length_map]; push_cast; rw [len2]
        have c124 : c = 124 := by omega
        rw [if_pos c124] at hl2 he'
        refine ih (i + 1) b1 e' _ τ3 _ Q (by omega) (by omega) (by omega) (by omega) (by rw [len3, he', if_pos rfl]; omega) t3 L3 (fun w e2 τ6 f6 e1 e3 => ?_) (fun a2 t2' e2 τ6 f6 t6 L6 => ?_)
        · refine h0 w ?_ τ6 ((f2.tr f3).tr f6) e1 e3
          show bnR (moL B N un m b1 e') _ = _
          rw [e2]; rfl
        · refine h1 a2 (pre ++ (t1 ++ ([] ++ t2'))) ?_ τ6 ((f2.tr f3).tr f6) t6 ?_
          · show bnR (moL B N un m b1 e') _ = _
            rw [e2, if_neg x]; rfl
          · rw [lsC, lsC] at L6
            exact L6
      · rw [ei] at h0 h1
        have q1' := q1 b1 t1 ei
        have len3 : (((L ++ pre.map tokC ++ t1.map tokC).length : Nat) : Int) = (L.length : Int) + (pre.length : Int) + (t1.length : Int) := by rw [List.length_append, List.length_map]; push_cast; rw [len2]
        rw [if_neg (show ¬ c = 124 by omega)] at hl2 he'
        refine emitC (d + 42) hn t3 L3 (by rw [len3]; split at hl2 <;> omega) (fun τ5 f5 t5 L5 => ?_)
        rw [hor]
        have L5' : EmC τ5 n (L ++ pre.map tokC ++ t1.map tokC ++ (opT 38).map tokC) := L5
        have len5 : (((L ++ pre.map tokC ++ t1.map tokC ++ (opT 38).map tokC).length : Nat) : Int) = (L.length : Int) + (pre.length : Int) + (t1.length : Int) + 1 := by rw [List.length_append]; push_cast; rw [len3]; rfl
        refine ih (i + 1) b1 e' _ τ5 _ Q (by omega) (by omega) (by omega) (by omega) (by rw [len5, he']; omega) t5 L5' (fun w e2 τ6 f6 e1 e3 => ?_) (fun a2 t2' e2 τ6 f6 t6 L6 => ?_)
        · refine h0 w ?_ τ6 (((f2.tr f3).tr f5).tr f6) e1 e3
          show bnR (moL B N un m b1 e') _ = _
          rw [e2]; rfl
        · refine h1 a2 (pre ++ (t1 ++ (opT 38 ++ t2'))) ?_ τ6 (((f2.tr f3).tr f5).tr f6) t6 ?_
          · show bnR (moL B N un m b1 e') _ = _
            rw [e2, if_pos x]; rfl
          · rw [lsC, lsC, lsC] at L6
            exact L6
    refine ⟨⟨by omega, by omega⟩, fun y => ?_, fun y => ⟨fun x => ?_, fun x => ?_⟩⟩
    · rw [if_pos y] at h0 h1
      have t2 := t.to (sk B N a + 1)
      have s2 : Sm υ (ups τ 12 2 (sk B N a + 1)) [12] [] := s.ups rfl (Or.inl (by decide))
      refine bTs_readMoreUnits_37 ⟨⟨by omega, by omega⟩, fun _ => ?_, fun q => absurd q (by omega)⟩
      rw [t.2.1]
      have u := fun (s0 : Int) (hs : s0 = e01 e) => unit s0 [] e _ (Or.inl y) hs (frC_of s2) t2 (by rw [show (([] : List Tok).map tokC) = [] from rfl, List.append_nil]; exact emC_sm hL s2) (by rw [if_neg (show ¬ c = 124 by omega)]; exact (by rw [show (([] : List Tok).length : Int) = 0 from rfl]; omega)) (by rw [if_neg (show ¬ c = 124 by omega)]) (fun w h => h0 w (by rw [if_pos y] at h; exact h)) (fun a' t' h => h1 a' t' (by rw [if_pos y] at h; exact h))
      exact bTs_readMoreUnits_67 ⟨e01_rg e, fun q => u 1 (e01_one e q), fun q => ⟨⟨by omega, by omega⟩, fun _ => u 0 q.symm, fun q2 => absurd q2 (by omega)⟩⟩
    · rw [if_neg y, if_pos x] at h0 h1
      have t2 := t.to (sk B N a + 1)
      have s2 : Sm υ (ups τ 12 2 (sk B N a + 1)) [12] [] := s.ups rfl (Or.inl (by decide))
      have l2 := lt (by omega)
      refine bTs_readMoreUnits_37 ⟨⟨by omega, by omega⟩, fun q => absurd x q, fun _ => ?_⟩
      rw [t.2.1]
      have go : ∀ τ3, FrC υ τ3 n → TqC τ3 B N (sk B N a + 1) → EmC τ3 n (L ++ (orT e).map tokC) → Ev (d + 44) mTs_readMoreUnits 67 [vR 20, vI z, vI (e01 e), vI i, vI c] [] τ3 Q := by
        intro τ3 f3 t3 L3
        have u := unit 1 (orT e) true τ3 (Or.inr x) rfl f3 t3 L3 (by rw [if_pos x, ol]; omega) (by rw [if_pos x]) (fun w h => h0 w (by rw [if_neg y] at h; exact h)) (fun a' t' h => h1 a' t' (by rw [if_neg y] at h; exact h))
        exact bTs_readMoreUnits_67 ⟨e01_rg e, fun _ => u, fun _ => ⟨⟨by omega, by omega⟩, fun q => absurd x q, fun _ => u⟩⟩
      have L2 := emC_sm hL s2
      cases e
      · refine ⟨by decide, fun _ => go _ (frC_of s2) t2 ?_, fun q => absurd rfl q⟩
        rw [show (orT false).map tokC = [] from rfl, List.append_nil]; exact L2
      · refine ⟨by decide, fun q => absurd q (by decide), fun _ => emitC (d + 42) hn t2 L2 (by rw [if_pos rfl] at hlen; omega) (fun τ3 f3 t3 L3 => go τ3 ((frC_of s2).tr f3) t3 L3)⟩
    · rw [if_neg y, if_neg x] at h1
      exact orE e (sk B N a) L τ Q r2 (by omega) t hL' (fun τ3 f3 t3 L3 => h1 _ _ rfl τ3 (fr.tr f3) t3 L3)
theorem moreC {B : Int → Int} {N : Int} (hB : BTp B N) (d : Nat) {n z : Int} (hn : 0 ≤ n ∧ n < 5) {un : Int → RT} (hps : PosK N un) (hrun : RdC B N n un (fun υ Q => Cl (d + 43) mTs_readUnit [aR 20, aI z, aI 0] υ Q)) : RdC B N n (fun a => moL B N un 241 a false) (fun υ Q => Cl (d + 44) mTs_readMoreUnits [aR 20, aI z] υ Q) := by
  intro a L υ Q a0 a1 hlen ht hL h0 h1
  refine bTs_readMoreUnits_in ?_
  exact moLC hB d hn hps hrun 241 0 a false L υ vU Q (by decide) (by decide) a0 a1 (by rw [if_neg (by decide)]; omega) ht hL h0 h1
theorem unitC {B : Int → Int} {N : Int} (hB : BTp B N) (d : Nat) {n z : Int} (hn : 0 ≤ n ∧ n < 5) {nest : Bool} {un sm : Int → RT} (hz : rg z) (hnz : nest = true ↔ z < 6) (hpu : nest = true → PosK N un) (hps : PosK N sm) (hsum : RdC B N n sm (fun υ Q => Cl (d + 44) mTs_readSum [aR 20, aI z] υ Q)) (hun : nest = true → RdC B N n un (fun υ Q => Cl (d + 43) mTs_readUnit [aR 20, aI (z + 1), aI 0] υ Q)) (hmo : nest = true → RdC B N n (fun a => moL B N un 241 a false) (fun υ Q => Cl (d + 43) mTs_readMoreUnits [aR 20, aI (z + 1)] υ Q)) : RdC B N n (unG B N nest un sm) (fun υ Q => Cl (d + 45) mTs_readUnit [aR 20, aI z, aI 0] υ Q) := by
  have hN := hB.1
  intro a L υ Q a0 a1 hlen ht hL h0 h1
  have r := (sk_r (B := B) (N := N) (a := a))
  have r2 := r.2 a1
  have b := hB.r (a := sk B N a) (by omega)
  unfold unG at h0 h1
  refine bTs_readUnit_in (d := d + 1) (sgC hB (d + 43) ⟨by omega, by omega⟩ ht (fun τ s t => ⟨by decide, fun y => absurd rfl y, fun _ => ⟨⟨by omega, by omega⟩, fun y => ?_, fun y => ⟨fun x => ?_, fun x => ?_⟩⟩⟩))
  · rw [if_pos y] at h0 h1
    have lt := (b.2.2 (by omega)).1
    rw [y]
    refine bTs_readNestedUnit_in ⟨hz, fun x => ?_, fun x => ?_⟩
    · have hne : nest = true := hnz.mpr x
      rw [hne, if_neg (by decide)] at h0 h1
      rw [t.2.1]
      have t2 := t.to (sk B N a + 1)
      have s2 : Sm υ (ups τ 12 2 (sk B N a + 1)) [12] [] := s.ups rfl (Or.inl (by decide))
      obtain ⟨-, q1⟩ := hpu hne (sk B N a + 1) (by omega) (by omega)
      refine hun hne (sk B N a + 1) L _ _ (by omega) (by omega) (by omega) t2 (emC_sm hL s2) (fun w e τ3 f3 e1 e2 => ⟨by decide, fun q => absurd rfl q, fun _ => ?_⟩) (fun a' t' e τ3 f3 t3 L3 => ⟨by decide, fun _ => ⟨by decide, fun _ => ?_, fun q => absurd q (by decide)⟩, fun q => absurd q (by decide)⟩)
      · rw [e] at h0
        exact ⟨Or.inl rfl, h0 w rfl τ3 ((frC_of s2).tr f3) e1 e2⟩
      · rw [e] at h1
        have q1' := q1 a' t' e
        have len : (((L ++ t'.map tokC).length : Nat) : Int) = (L.length : Int) + (t'.length : Int) := by rw [List.length_append, List.length_map]; push_cast; rfl
        refine emitC (d + 42) hn t3 L3 (by rw [len]; omega) (fun τ4 f4 t4 L4 => ?_)
        have L4' : EmC τ4 n (L ++ t'.map tokC ++ (opT 33).map tokC) := L4
        rw [lsC] at L4'
        exact ⟨Or.inr rfl, h1 a' _ rfl τ4 (((frC_of s2).tr f3).tr f4) t4 L4'⟩
    · have hne : nest = false := by
        cases q : nest
        · rfl
        · have := hnz.mp q; omega
      rw [if_pos hne] at h0
      rw [t.2.1]
      exact failC (d + 42) t (fun τ2 s2 e1 e2 => ⟨by decide, Or.inl rfl, h0 _ rfl τ2 (frC_of (s.trans s2)) e1 e2⟩)
  · rw [if_neg y, if_neg x] at h0 h1
    refine bTs_readUnit_31 (d := d + 1) ⟨by decide, fun q => absurd rfl q, fun _ => ?_⟩
    obtain ⟨-, q1⟩ := hps (sk B N a) (by omega) r2
    refine hsum (sk B N a) L τ _ (by omega) r2 (by omega) t (emC_sm hL s) (fun w e τ3 f3 e1 e2 => ⟨by decide, fun q => absurd rfl q, fun _ => ?_⟩) (fun b1 t1 e τ3 f3 t3 L3 => ⟨by decide, fun _ => ?_, fun q => absurd q (by decide)⟩)
    · rw [e] at h0
      exact h0 w rfl τ3 ((frC_of s).tr f3) e1 e2
    · rw [e] at h0 h1
      have q1' := q1 b1 t1 e
      have len : (((L ++ t1.map tokC).length : Nat) : Int) = (L.length : Int) + (t1.length : Int) := by rw [List.length_append, List.length_map]; push_cast; rfl
      refine cmC hB (d + 1) hn hps hsum b1 _ τ3 Q (by omega) (by omega) (by rw [len]; omega) t3 L3 (fun w e2 τ6 f6 e1 e3 => ?_) (fun a2 t2' e2 τ6 f6 t6 L6 => ?_)
      · refine h0 w ?_ τ6 (((frC_of s).tr f3).tr f6) e1 e3
        show bnR (cmG B N sm b1) _ = _
        rw [e2]; rfl
      · refine h1 a2 (t1 ++ t2') ?_ τ6 (((frC_of s).tr f3).tr f6) t6 ?_
        · show bnR (cmG B N sm b1) _ = _
          rw [e2]; rfl
        · rw [lsC] at L6; exact L6
  · rw [if_neg y, if_pos x] at h0 h1
    have lt := (b.2.2 (by omega)).1
    rw [x]
    refine bTs_readNestedUnit_in ⟨hz, fun x => ?_, fun x => ?_⟩
    · have hne : nest = true := hnz.mpr x
      rw [hne, if_neg (by decide)] at h0 h1
      rw [t.2.1]
      have t2 := t.to (sk B N a + 1)
      have s2 : Sm υ (ups τ 12 2 (sk B N a + 1)) [12] [] := s.ups rfl (Or.inl (by decide))
      obtain ⟨-, q1⟩ := hpu hne (sk B N a + 1) (by omega) (by omega)
      refine hun hne (sk B N a + 1) L _ _ (by omega) (by omega) (by omega) t2 (emC_sm hL s2) (fun w e τ3 f3 e1 e2 => ⟨by decide, fun q => absurd rfl q, fun _ => ?_⟩) (fun b1 t1 e τ3 f3 t3 L3 => ⟨by decide, fun _ => ⟨by decide, fun q => absurd rfl q, fun _ => ?_⟩, fun q => absurd q (by decide)⟩)
      · rw [e] at h0
        exact ⟨Or.inl rfl, h0 w rfl τ3 ((frC_of s2).tr f3) e1 e2⟩
      · rw [e] at h0 h1
        have q1' := q1 b1 t1 e
        have len : (((L ++ t1.map tokC).length : Nat) : Int) = (L.length : Int) + (t1.length : Int) := by rw [List.length_append, List.length_map]; push_cast; rfl
        have fA := (frC_of (n := n) s2).tr f3
        have mp := (moL_p hB (hpu hne) 241 b1 false (by omega) (by omega)).2
        refine hmo hne b1 _ τ3 _ (by omega) (by omega) (by rw [len]; omega) t3 L3 (fun w e2 τ6 f6 e1 e3 => ⟨by decide, fun _ => ?_, fun q => absurd rfl q⟩) (fun b2 t2' e2 τ6 f6 t6 L6 => ⟨by decide, fun q => absurd q (by decide), fun _ => ?_⟩)
        · dsimp only at e2
          refine ⟨Or.inl rfl, h0 w ?_ τ6 (fA.tr f6) e1 e3⟩
          show bnR (moL B N un 241 b1 false) _ = _
          rw [e2]; rfl
        · dsimp only at e2
          have mp' := mp b2 t2' e2
          rw [lsC] at L6
          refine expC hB (d + 41) ⟨by omega, by omega⟩ (by decide) t6 (fun x2 τ7 s7 t7 => ⟨by decide, fun q => absurd q (by decide), fun _ => ?_⟩) (fun x2 τ7 s7 e1 e3 => ⟨by decide, fun _ => ?_, fun q => absurd rfl q⟩)
          · refine ⟨Or.inr rfl, h1 (sk B N b2 + 1) (t1 ++ t2') ?_ τ7 ((fA.tr f6).tr (frC_of s7)) t7 (emC_sm L6 s7)⟩
            show bnR (moL B N un 241 b1 false) _ = _
            rw [e2]
            show (if hr B N (sk B N b2) = 41 then _ else _) = _
            rw [if_pos x2]
          · refine ⟨Or.inl rfl, h0 (sk B N b2) ?_ τ7 ((fA.tr f6).tr (frC_of s7)) e1 e3⟩
            show bnR (moL B N un 241 b1 false) _ = _
            rw [e2]
            show (if hr B N (sk B N b2) = 41 then _ else _) = _
            rw [if_neg x2]
    · have hne : nest = false := by
        cases q : nest
        · rfl
        · have := hnz.mp q; omega
      rw [if_pos hne] at h0
      rw [t.2.1]
      exact failC (d + 42) t (fun τ2 s2 e1 e2 => ⟨by decide, Or.inl rfl, h0 _ rfl τ2 (frC_of (s.trans s2)) e1 e2⟩)
theorem unKC {B : Int → Int} {N : Int} (hB : BTp B N) {n : Int} (hn : 0 ≤ n ∧ n < 5) : ∀ (k : Nat) (d : Nat), k ≤ 6 → RdC B N n (unK B N k) (fun υ Q => Cl (d + 3 * k + 45) mTs_readUnit [aR 20, aI (6 - (k : Int)), aI 0] υ Q)
  | 0, d, hk => unitC hB d hn (nest := false) (z := 6 - ((0 : Nat) : Int)) (by decide) ⟨fun z => (by cases z), fun z => absurd z (by decide)⟩ (fun z => by cases z) (sm_p hB 0) ((smKC hB hn 0 (d + 40) hk).mono (fun υ Q h => h)) (fun z => by cases z) (fun z => by cases z)
  | k + 1, d, hk => unitC hB (d + 3 * k + 3) hn (nest := true) (z := 6 - ((k + 1 : Nat) : Int)) ⟨by omega, by omega⟩ ⟨fun _ => (by omega), fun _ => rfl⟩ (fun _ => unK_p hB k) (sm_p hB (k + 1)) (by
      have := smKC hB hn (k + 1) (d + 3 * k + 43 - 2 * (k + 1)) hk
      rw [show d + 3 * k + 43 - 2 * (k + 1) + 2 * (k + 1) + 4 = d + 3 * k + 3 + 44 by omega] at this
      exact this) (fun _ => by
      have := unKC hB hn k (d + 1) (by omega)
      rw [show (6 : Int) - (k : Int) = 6 - ((k + 1 : Nat) : Int) + 1 by omega, show d + 1 + 3 * k + 45 = d + 3 * k + 3 + 43 by omega] at this
      exact this) (fun _ => by
      have := unKC hB hn k d (by omega)
      rw [show (6 : Int) - (k : Int) = 6 - ((k + 1 : Nat) : Int) + 1 by omega] at this
      have m := moreC hB (d + 3 * k + 2) hn (unK_p hB k) this
      exact m)
