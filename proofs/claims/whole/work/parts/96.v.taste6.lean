/-! ===== A TASTE READ, BY THE REFERENCE: ATOMS, UNITS ===== -/
theorem plainR {B : Int → Int} {N : Int} (hB : BTp B N) (d : Nat) {A : Int} {ω : Mem} (a0 : 0 ≤ A) (a1 : A ≤ N) (ht : TqR ω B N A) (h4 : ω 64 4 = -1) {Q : RV → Mem → Prop} (h0 : dg (hr B N (nmF B N 4 A 0).1) → ∀ τ, Sm ω τ [64] [3, 4] → τ 64 4 = (nmF B N 4 A 0).1 → Q (rI (nmF B N 4 A 0).2) τ) (h1 : ¬ dg (hr B N (nmF B N 4 A 0).1) → ∀ τ, Sm ω τ [64] [3] → TqR τ B N (nmF B N 4 A 0).1 → Q (rI (nmF B N 4 A 0).2) τ) : Cl (d + 2) mR_plainNumber [aR 64] ω Q := by
  have hN := hB.1
  have fin : ∀ (a v n : Int) (τ : Mem), 0 ≤ a → a ≤ N → Sm ω τ [64] [3] → TqR τ B N a → nmF B N 4 A 0 = (a, v) → Ev (d + 2) mR_plainNumber 48 [vR 64, vI v, vI n] [] τ Q := by
    intro a v n τ a0 a1 s t e
    rw [e] at h0 h1
    have b := hB.r (a := a) a0
    refine bR_plainNumber_48 (hereR hB d ⟨by omega, by omega⟩ t ⟨⟨by omega, by omega⟩, fun z => ?_, fun z => h1 z τ s t⟩)
    exact badR d (by rw [s.2 4 rfl]; exact h4) t (fun τ2 s2 t2 e2 => h0 z τ2 ((s.mono (by decide) (by decide)).trans (s2.mono (by decide) (by decide))) e2)
  have loop : ∀ (k : Nat) (a v : Int) (τ : Mem), k ≤ 4 → 0 ≤ a → a ≤ N → Sm ω τ [64] [3] → TqR τ B N a → nmF B N 4 A 0 = nmF B N k a v → Ev (d + 2) mR_plainNumber 4 [vR 64, vI v, vI (4 - (k : Int))] [] τ Q := by
    intro k
    induction k with
    | zero =>
      intro a v τ hk a0 a1 s t e
      exact bR_plainNumber_4 ⟨by decide, fun _ => fin a v _ τ a0 a1 s t e, fun z => absurd z (by decide)⟩
    | succ k ih =>
      intro a v τ hk a0 a1 s t e
      have b := hB.r (a := a) a0
      have hS : nmF B N (k + 1) a v = if dg (hr B N a) then nmF B N k (a + 1) (v * 10 + hr B N a - 48) else (a, v) := rfl
      rw [hS] at e
      refine bR_plainNumber_4 ⟨⟨by omega, by omega⟩, fun z => absurd z (by omega), fun _ => hereR hB d ⟨by omega, by omega⟩ t ⟨⟨by omega, by omega⟩, fun z => hereR hB d ⟨by omega, by omega⟩ t ?_, fun z => ?_⟩⟩
      · rw [if_pos z] at e
        have lt := (b.2.2 (by omega)).1
        show Ev (d + 2) mR_plainNumber 4 [vR 64, vI (10 * v + hr B N a - 48), vI (4 - ((k + 1 : Nat) : Int) + 1)] [] (ups τ 64 3 (τ 64 3 + 1)) Q
        rw [t.2.1, show (10 * v + hr B N a - 48 : Int) = v * 10 + hr B N a - 48 by omega, show (4 : Int) - ((k + 1 : Nat) : Int) + 1 = 4 - (k : Int) by omega]
        exact ih (a + 1) _ _ (by omega) (by omega) (by omega) (s.ups rfl (Or.inr rfl)) (t.to _) e
      · rw [if_neg z] at e
        exact fin a v _ τ a0 a1 s t e
  exact bR_plainNumber_in (loop 4 A 0 ω (Nat.le_refl _) a0 a1 Sm.refl ht rfl)
theorem letR (d : Nat) {c : Int} {ω : Mem} (hc : rg c) {Q : RV → Mem → Prop} (hq : Q (rI (ltO c)) ω) : Cl (d + 1) mR_letterOf [aI c] ω Q := by
  change Q (rI (if (118 : Int) = c then 0 else if (114 : Int) = c then 1 else if (100 : Int) = c then 2 else if (103 : Int) = c then 3 else if (109 : Int) = c then 4 else if (108 : Int) = c then 5 else if (104 : Int) = c then 6 else -1)) ω at hq
  have nn : ∀ {x : Int}, c ≠ x → ¬ x = c := fun h e => h e.symm
  refine bR_letterOf_in ⟨hc, fun z0 => ⟨fun z1 => ⟨fun z2 => ⟨fun z3 => ⟨fun z4 => ⟨fun z5 => ⟨fun z6 => ?_, fun z6 => ?_⟩, fun z5 => ?_⟩, fun z4 => ?_⟩, fun z3 => ?_⟩, fun z2 => ?_⟩, fun z1 => ?_⟩, fun z0 => ?_⟩
  · rw [if_neg (nn z0), if_neg (nn z1), if_neg (nn z2), if_neg (nn z3), if_neg (nn z4), if_neg (nn z5), if_neg (nn z6)] at hq; exact hq
  · rw [if_neg (nn z0), if_neg (nn z1), if_neg (nn z2), if_neg (nn z3), if_neg (nn z4), if_neg (nn z5), if_pos z6.symm] at hq; exact hq
  · rw [if_neg (nn z0), if_neg (nn z1), if_neg (nn z2), if_neg (nn z3), if_neg (nn z4), if_pos z5.symm] at hq; exact hq
  · rw [if_neg (nn z0), if_neg (nn z1), if_neg (nn z2), if_neg (nn z3), if_pos z4.symm] at hq; exact hq
  · rw [if_neg (nn z0), if_neg (nn z1), if_neg (nn z2), if_pos z3.symm] at hq; exact hq
  · rw [if_neg (nn z0), if_neg (nn z1), if_pos z2.symm] at hq; exact hq
  · rw [if_neg (nn z0), if_pos z1.symm] at hq; exact hq
  · rw [if_pos z0.symm] at hq; exact hq
theorem ltO_dg {c : Int} (h : dg c) : ltO c = -1 := by
  show (if (118 : Int) = c then (0 : Int) else if (114 : Int) = c then 1 else if (100 : Int) = c then 2 else if (103 : Int) = c then 3 else if (109 : Int) = c then 4 else if (108 : Int) = c then 5 else if (104 : Int) = c then 6 else -1) = -1
  rw [if_neg (by omega), if_neg (by omega), if_neg (by omega), if_neg (by omega), if_neg (by omega), if_neg (by omega), if_neg (by omega)]
theorem ltO_91 {c : Int} (h : c = 91) : ltO c = -1 := by subst h; rfl
/-- a bracket's end -/
theorem closesR {B : Int → Int} {N : Int} (hB : BTp B N) (d : Nat) {p D a c : Int} {M : List Tok} {ω : Mem} (hc : rg c) (a0 : 0 ≤ a) (a1 : a ≤ N) (hlen : (M.length : Int) ≤ 240) (h : Lv ω B N p (D + 1) a M) {Q : RV → Mem → Prop} (h1 : hr B N (sk B N a) = c → ∀ τ, FrR ω τ p → Lv τ B N p D (sk B N a + 1) M → Q rV τ) (h0 : hr B N (sk B N a) ≠ c → ∀ τ, FrR ω τ p → Fl τ p (sk B N a) 240 → Q rV τ) : Cl (d + 3) mR_closes [aR 64, aI c] ω Q := by
  have hN := hB.1
  have r := (sk_r (B := B) (N := N) (a := a))
  have r2 := r.2 a1
  have b := hB.r (a := sk B N a) (by omega)
  refine bR_closes_in ⟨by rw [h.2.1]; decide, fun z => absurd h.2.1 z, fun _ => lookR hB d ⟨by omega, by omega⟩ h.1 (fun τ s t => ⟨⟨by omega, by omega⟩, hc, fun z => ?_, fun z => ?_⟩)⟩
  · have g := lv_mv (lv_lk h s t) (sk B N a + 1)
    rw [t.2.1]
    refine h1 z _ (frR_of (((s.mono (by decide) (by decide)).ups rfl (Or.inr rfl)).ups rfl (Or.inr rfl))) ⟨g.1.sm (S := [64]) (J := [5]) (Sm.refl.ups rfl (Or.inr rfl)) rfl rfl rfl, by rw [ups_fn (by decide)]; exact g.2.1, ?_, emR_sm g.2.2.2 (Sm.refl.ups rfl (Or.inr rfl))⟩
    rw [ups_hit, (lv_lk h s t).2.2.1]; omega
  · have g := lv_lk h s t
    refine badR (d + 1) g.2.1 t (fun τ2 s2 t2 e2 => h0 z _ (frR_of ((((s.mono (by decide) (by decide)).trans (s2.mono (by decide) (by decide))).ups rfl (Or.inr rfl)).ups rfl (Or.inr rfl))) ?_)
    have f2 : Fl τ2 p (sk B N a) 240 := lv_fl g (s2.mono (by decide) (by decide)) e2 hlen
    exact fl_sm f2 ((Sm.refl.ups rfl (Or.inr rfl)).ups rfl (Or.inr rfl))
theorem closesF (d : Nat) {p w X c : Int} {ω : Mem} (hw : 0 ≤ w ∧ w ≤ 1000) (h : Fl ω p w X) {Q : RV → Mem → Prop} (hq : ∀ τ, FrR ω τ p → Fl τ p w X → Q rV τ) : Cl (d + 3) mR_closes [aR 64, aI c] ω Q :=
  bR_closes_in ⟨by rw [h.1]; exact ⟨by omega, by omega⟩, fun _ => hq _ (frR_of ((Sm.refl.ups rfl (Or.inr rfl)).ups rfl (Or.inr rfl))) (fl_sm h ((Sm.refl.ups rfl (Or.inr rfl)).ups rfl (Or.inr rfl))), fun z => absurd z (by rw [h.1]; omega)⟩
theorem opensR {B : Int → Int} {N : Int} (hB : BTp B N) (d : Nat) {p D a : Int} {M : List Tok} {ω : Mem} (hD : 0 ≤ D ∧ D ≤ 6) (a0 : 0 ≤ a) (a1 : a ≤ N) (hlen : (M.length : Int) ≤ 240) (h : Lv ω B N p D a M) {Q : RV → Mem → Prop} (h1 : D ≠ 6 → ∀ τ, FrR ω τ p → Lv τ B N p (D + 1) (a + 1) M → Q rV τ) (h0 : D = 6 → ∀ τ, FrR ω τ p → Fl τ p a 240 → Q rV τ) : Cl (d + 2) mR_opens [aR 64] ω Q := by
  have hN := hB.1
  refine bR_opens_in ⟨by rw [h.2.2.1]; exact ⟨by omega, by omega⟩, fun z => ?_, fun z => ?_⟩
  · rw [h.2.2.1] at z ⊢
    rw [h.1.2.1]
    have t2 : TqR (ups ω 64 5 (D + 1)) B N a := h.1.sm (S := [64]) (J := [5]) (Sm.refl.ups rfl (Or.inr rfl)) rfl rfl rfl
    refine h1 z _ (frR_of ((Sm.refl.ups rfl (Or.inr rfl)).ups rfl (Or.inr rfl))) ⟨t2.to _, ?_, ?_, emR_sm h.2.2.2 ((Sm.refl.ups rfl (Or.inr rfl)).ups rfl (Or.inr rfl))⟩
    · rw [ups_fn (by decide), ups_fn (by decide)]; exact h.2.1
    · rw [ups_fn (by decide), ups_hit]
  · rw [h.2.2.1] at z
    refine badR d h.2.1 h.1 (fun τ2 s2 t2 e2 => h0 z _ (frR_of (((s2.mono (by decide) (by decide)).ups rfl (Or.inr rfl)).ups rfl (Or.inr rfl))) ?_)
    have f2 : Fl τ2 p a 240 := lv_fl h (s2.mono (by decide) (by decide)) e2 hlen
    exact fl_sm f2 ((Sm.refl.ups rfl (Or.inr rfl)).ups rfl (Or.inr rfl))
theorem atomR {B : Int → Int} {N : Int} (hB : BTp B N) (d : Nat) {p D X : Int} (hp : 0 ≤ p ∧ p < 5) (hX : 241 ≤ X ∧ X < 500) (hD : 0 ≤ D ∧ D ≤ 6) {nest : Bool} {sm : Int → RT} (hnz : nest = true ↔ D ≠ 6) (hps : nest = true → PosK N sm) (hrun : nest = true → RdR B N p (D + 1) X sm (fun ω Q => Cl (d + 3) mR_sum [aR 64] ω Q)) : RdR B N p D X (atG B N nest sm) (fun ω Q => Cl (d + 4) mR_atom [aR 64] ω Q) := by
  have hN := hB.1
  intro a M ω Q a0 a1 hlen h h0 h1
  have r := (sk_r (B := B) (N := N) (a := a))
  have r2 := r.2 a1
  have b := hB.r (a := sk B N a) (by omega)
  unfold atG at h0 h1
  refine bR_atom_in (lookR hB (d + 1) ⟨by omega, by omega⟩ h.1 (fun τ s t => ?_))
  have fr : FrR ω τ p := frR_of (s.mono (by decide) (by decide))
  have g := lv_lk h s t
  refine ⟨⟨by omega, by omega⟩, fun z => ?_, fun z => letR (d + 2) ⟨by omega, by omega⟩ ⟨by have := ltO_r (hr B N (sk B N a)); exact ⟨by omega, by omega⟩, fun y => ⟨fun x => ?_, fun x => ?_⟩, fun y => letR (d + 2) ⟨by omega, by omega⟩ ?_⟩⟩
  · rw [if_neg (show ¬ hr B N (sk B N a) = 91 by omega), if_neg (fun q => q (ltO_dg z))] at h0 h1
    unfold num at h0 h1
    rw [sk_sk] at h0 h1
    have lt := (b.2.2 (by omega)).1
    have nr := nmF_r hB 4 (sk B N a) 0 (by omega) (Int.le_refl _)
    have nr2 := nr.2.1 r2
    have ne : ¬ (nmF B N 4 (sk B N a) 0).1 = sk B N a := by
      have e : nmF B N 4 (sk B N a) 0 = nmF B N 3 (sk B N a + 1) (0 * 10 + hr B N (sk B N a) - 48) := if_pos z
      have := (nmF_r hB 3 (sk B N a + 1) (0 * 10 + hr B N (sk B N a) - 48) (by omega) (by omega)).1.1
      rw [e]; omega
    refine plainR hB (d + 1) (by omega) r2 t g.2.1 (fun q τ2 s2 e2 => ?_) (fun q τ2 s2 t2 => ?_)
    · rw [if_pos (Or.inr q)] at h0
      have f2 : Fl τ2 p (nmF B N 4 (sk B N a) 0).1 240 := lv_fl g (s2.mono (by decide) (by decide)) e2 (by omega)
      refine putF (d + 2) hp f2 (by decide) (fun τ3 f3 g3 => h0 _ rfl τ3 ((fr.tr (frR_of (s2.mono (by decide) (by decide)))).tr f3) (fl_X g3 (by omega)))
    · rw [if_neg (fun x => by rcases x with x | x; exact ne x; exact q x)] at h1
      refine putR (d + 2) hp (lv_lk g s2 t2) (by omega) (fun τ3 f3 g3 => h1 _ _ rfl τ3 ((fr.tr (frR_of (s2.mono (by decide) (by decide)))).tr f3) g3)
  · -- nothing that begins so
    rw [if_neg x, if_neg (fun q => q y)] at h0
    refine badR (d + 2) g.2.1 t (fun τ2 s2 t2 e2 => h0 (sk B N a) ?_ τ2 (fr.tr (frR_of (s2.mono (by decide) (by decide)))) (fl_X (lv_fl g (s2.mono (by decide) (by decide)) e2 (show (M.length : Int) ≤ 240 by omega)) (by omega)))
    have e : num B N 4 (sk B N a) = .inl (sk B N a) := by
      unfold num
      rw [sk_sk]
      have e2 : nmF B N 4 (sk B N a) 0 = (sk B N a, 0) := if_neg z
      rw [e2]
      exact if_pos (Or.inl rfl)
    rw [e]; rfl
  · rw [if_pos x] at h0 h1
    have lt := (b.2.2 (by omega)).1
    refine opensR hB (d + 1) hD (by omega) r2 (by omega) g (fun y6 τ2 f2 g2 => ⟨by rw [g2.2.1]; decide, fun q => absurd g2.2.1 q, fun _ => ?_⟩) (fun y6 τ2 f2 g2 => ⟨by rw [g2.1]; exact ⟨by omega, by omega⟩, fun _ => ?_, fun q => absurd q (by rw [g2.1]; omega)⟩)
    · have hne : nest = true := hnz.mpr y6
      rw [hne, if_neg (by decide)] at h0 h1
      obtain ⟨p1, q1⟩ := hps hne (sk B N a + 1) (by omega) (by omega)
      refine hrun hne (sk B N a + 1) M τ2 _ (by omega) (by omega) (by omega) g2 (fun w e τ3 f3 g3 => ?_) (fun b1 t1 e τ3 f3 g3 => ?_)
      · rw [e] at h0
        have pw := p1 w e
        exact closesF d ⟨by omega, by omega⟩ g3 (fun τ4 f4 g4 => h0 w rfl τ4 (((fr.tr f2).tr f3).tr f4) g4)
      · rw [e] at h0 h1
        have q1' := q1 b1 t1 e
        have len : (((M ++ t1).length : Nat) : Int) = (M.length : Int) + (t1.length : Int) := by rw [List.length_append]; push_cast; rfl
        refine closesR hB d (by decide) (by omega) (by omega) (by rw [len]; omega) g3 (fun y4 τ4 f4 g4 => h1 _ _ ?_ τ4 (((fr.tr f2).tr f3).tr f4) g4) (fun y4 τ4 f4 g4 => h0 _ ?_ τ4 (((fr.tr f2).tr f3).tr f4) (fl_X g4 (by omega)))
        · show (if hr B N (sk B N b1) = 93 then _ else _) = _
          rw [if_pos y4]
        · show (if hr B N (sk B N b1) = 93 then _ else _) = _
          rw [if_neg y4]
    · have hne : nest = false := by
        cases q : nest
        · rfl
        · exact absurd y6 (hnz.mp q)
      rw [if_pos hne] at h0
      exact h0 _ rfl τ2 (fr.tr f2) (fl_X g2 (by omega))
  · have n91 : ¬ hr B N (sk B N a) = 91 := fun q => y (ltO_91 q)
    rw [if_neg n91, if_pos y] at h1
    have lt : sk B N a < N := by
      by_cases c3 : hr B N (sk B N a) = -1
      · exact absurd (by rw [c3]; rfl) y
      · exact (b.2.2 c3).1
    have g2 := lv_mv g (sk B N a + 1)
    rw [t.2.1]
    refine putR (d + 2) hp g2 (by omega) (fun τ3 f3 g3 => h1 _ _ rfl τ3 ((fr.tr (frR_of (Sm.refl.ups rfl (Or.inr rfl)))).tr f3) g3)
theorem smKR {B : Int → Int} {N : Int} (hB : BTp B N) {p : Int} (hp : 0 ≤ p ∧ p < 5) : ∀ (k : Nat) (d : Nat), k ≤ 6 → RdR B N p (6 - (k : Int)) (243 + 2 * (k : Int)) (smK B N (atK B N k)) (fun ω Q => Cl (d + 3 * k + 6) mR_sum [aR 64] ω Q)
  | 0, d, hk => (sumR hB (d + 1) hp (D := 6 - ((0 : Nat) : Int)) (X := 241) (by decide) (atK_p hB 0) (atomR hB d hp (by decide) (by decide) (nest := false) ⟨fun z => (by cases z), fun z => absurd rfl z⟩ (fun z => by cases z) (fun z => by cases z))).mono (by decide) (fun _ _ h => h)
  | k + 1, d, hk => (sumR hB (d + 3 * k + 4) hp (D := 6 - ((k + 1 : Nat) : Int)) (X := 243 + 2 * (k : Int)) ⟨by omega, by omega⟩ (atK_p hB (k + 1)) (atomR hB (d + 3 * k + 3) hp ⟨by omega, by omega⟩ ⟨by omega, by omega⟩ (nest := true) ⟨fun _ => (by omega), fun _ => rfl⟩ (fun _ => sm_p hB k) (fun _ => by
      have := smKR hB hp k d (by omega)
      rw [show (6 : Int) - (k : Int) = 6 - ((k + 1 : Nat) : Int) + 1 by omega] at this
      exact this))).mono (by omega) (fun _ _ h => h)
