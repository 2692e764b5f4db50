/-! ===== A TASTE READ, BY THE REFERENCE: COMPARISONS, CONDITIONS ===== -/
theorem compareR {B : Int → Int} {N : Int} (hB : BTp B N) (d : Nat) {p D X : Int} (hp : 0 ≤ p ∧ p < 5) (hX : 241 ≤ X ∧ X < 500) {sm : Int → RT} (hps : PosK N sm) (hrun : RdR B N p D X sm (fun ω Q => Cl (d + 64) mR_sum [aR 64] ω Q)) : RdR B N p D (X + 1) (cmG B N sm) (fun ω Q => Cl (d + 65) mR_compare [aR 64] ω Q) := by
  have hN := hB.1
  intro a M ω Q a0 a1 hlen h h0 h1
  have r := (sk_r (B := B) (N := N) (a := a))
  have r2 := r.2 a1
  have b := hB.r (a := sk B N a) (by omega)
  unfold cmG at h0 h1
  refine bR_compare_in ⟨by rw [h.2.1]; decide, fun z => absurd h.2.1 z, fun _ => lookR hB (d + 62) ⟨by omega, by omega⟩ h.1 (fun τ s t => ?_)⟩
  have fr : FrR ω τ p := frR_of (s.mono (by decide) (by decide))
  have g := lv_lk h s t
  refine bR_compare_16 ⟨⟨by omega, by omega⟩, fun y => ?_, fun y => ?_⟩
  · rw [if_pos y] at h0 h1
    have lt := (b.2.2 (by omega)).1
    have g2 := lv_mv g (sk B N a + 1)
    rw [t.2.1]
    have f2 : FrR ω (ups τ 64 3 (sk B N a + 1)) p := fr.tr (frR_of (Sm.refl.ups rfl (Or.inr rfl)))
    obtain ⟨p1, q1⟩ := hps (sk B N a + 1) (by omega) (by omega)
    refine hrun (sk B N a + 1) M _ _ (by omega) (by omega) (by omega) g2 (fun w e τ3 f3 g3 => ?_) (fun b1 t1 e τ3 f3 g3 => ?_)
    · rw [e] at h0
      have pt : ∀ op, Cl (d + 64) mR_put [aR 64, aI op, aI 0] τ3 (fun r6 τ7 => oV r6 (Q rV τ7)) := fun op => putF (d + 63) hp g3 (by omega) (fun τ4 f4 g4 => h0 w rfl τ4 ((f2.tr f3).tr f4) g4)
      exact ⟨fun _ => ⟨fun _ => pt 8, fun _ => pt 7⟩, fun _ => pt 6⟩
    · rw [e] at h1
      have q1' := q1 b1 t1 e
      have len : (((M ++ t1).length : Nat) : Int) = (M.length : Int) + (t1.length : Int) := by rw [List.length_append]; push_cast; rfl
      have pt : ∀ op, opT (hr B N (sk B N a)) = [(op, 0)] → Cl (d + 64) mR_put [aR 64, aI op, aI 0] τ3 (fun r6 τ7 => oV r6 (Q rV τ7)) := fun op eo => putR (d + 63) hp g3 (by rw [len]; omega) (fun τ4 f4 g4 => h1 b1 (t1 ++ opT (hr B N (sk B N a))) rfl τ4 ((f2.tr f3).tr f4) (by rw [eo, ← List.append_assoc]; exact g4))
      refine ⟨fun z => ⟨fun z2 => pt 8 ?_, fun z2 => pt 7 ?_⟩, fun z => pt 6 ?_⟩
      · have e2 : hr B N (sk B N a) = 62 := by omega
        rw [e2]; rfl
      · rw [z2]; rfl
      · rw [z]; rfl
  · rw [if_neg y] at h0
    exact badR (d + 63) g.2.1 t (fun τ2 s2 t2 e2 => h0 _ rfl τ2 (fr.tr (frR_of (s2.mono (by decide) (by decide)))) (fl_X (lv_fl g (s2.mono (by decide) (by decide)) e2 (show (M.length : Int) ≤ 240 by omega)) (by omega)))
/-- what goes on behind the units joined by and -/
def KA (g : Nat) (K : RV → Mem → Prop) : Bool → RV → Mem → Prop
  | true => fun r6 τ7 => oV r6 (Cl (g + 66) mR_put [aR 64, aI 11, aI 0] τ7 (fun r8 τ9 => oV r8 (Ev (g + 67) mR_goOnOr 0 [vR 64] [] τ9 K)))
  | false => fun r1 τ2 => oV r1 (Cl (g + 67) mR_goOnOr [aR 64] τ2 K)
theorem orF {N : Int} (hN : 0 ≤ N ∧ N ≤ 240) (g : Nat) {p w X : Int} {τ : Mem} (hw : 0 ≤ w ∧ w ≤ N) (h : Fl τ p w X) {K : RV → Mem → Prop} (hq : K rV τ) : Ev (g + 67) mR_goOnOr 0 [vR 64] [] τ K :=
  bR_goOnOr_0 (d := g + 1) ⟨by rw [h.1]; exact ⟨by omega, by omega⟩, fun _ => hq, fun z => absurd z (by rw [h.1]; omega)⟩
theorem KA_fail {N : Int} (hN : 0 ≤ N ∧ N ≤ 240) (g : Nat) {p w X : Int} {e : Bool} {τ : Mem} (hp : 0 ≤ p ∧ p < 5) (hw : 0 ≤ w ∧ w ≤ N) (h : Fl τ p w X) (hX : X < 519) {K : RV → Mem → Prop} (hq : ∀ τ', FrR τ τ' p → Fl τ' p w (X + 1) → K rV τ') : KA g K e rV τ := by
  cases e
  · show Cl (g + 67) mR_goOnOr [aR 64] τ K
    exact bR_goOnOr_in (d := g + 1) (orF hN g hw h (hq τ (frR_of Sm.refl) (fl_X h (by omega))))
  · show Cl (g + 66) mR_put [aR 64, aI 11, aI 0] τ (fun r8 τ9 => oV r8 (Ev (g + 67) mR_goOnOr 0 [vR 64] [] τ9 K))
    exact putF (g + 65) hp h hX (fun τ2 f2 g2 => orF hN g hw g2 (hq τ2 f2 g2))
theorem andF {N : Int} (hN : 0 ≤ N ∧ N ≤ 240) (g : Nat) {p w X : Int} {τ : Mem} (hw : 0 ≤ w ∧ w ≤ N) (h : Fl τ p w X) {K : RV → Mem → Prop} (hq : K rV τ) : Ev (g + 66) mR_goOnAnd 0 [vR 64] [] τ K :=
  bR_goOnAnd_0 (d := g) ⟨by rw [h.1]; exact ⟨by omega, by omega⟩, fun _ => hq, fun z => absurd z (by rw [h.1]; omega)⟩
theorem moLR {B : Int → Int} {N : Int} (hB : BTp B N) (f : Nat) {p D U : Int} (hp : 0 ≤ p ∧ p < 5) (hU : 241 ≤ U ∧ U < 500) {un : Int → RT} (hps : PosK N un) (hun : ∀ x : Nat, RdR B N p D U un (fun ω Q => Cl (f + x + 65) mR_unit [aR 64] ω Q)) (y : Nat) {K : RV → Mem → Prop} : ∀ (m : Nat) (a : Int) (e : Bool) (M : List Tok) (τ : Mem) (x : Nat), 241 ≤ a + (m : Int) → 0 ≤ a → a ≤ N → (M.length : Int) + (if e = true then 1 else 0) ≤ a → Lv τ B N p D a M → (∀ w, moL B N un m a e = .inl w → ∀ τ', FrR τ τ' p → Fl τ' p w (U + 2) → K rV τ') → (∀ a' t, moL B N un m a e = .inr (a', t) → ∀ τ', FrR τ τ' p → Lv τ' B N p D a' (M ++ t) → K rV τ') → Ev (f + x + 66) mR_goOnAnd 0 [vR 64] [] τ (KA (f + y) K e) := by
  have hN := hB.1
  intro m
  induction m with
  | zero => intro a e M τ x hn; omega
  | succ m ih =>
    intro a e M τ x hn a0 a1 hlen h h0 h1
    have r := (sk_r (B := B) (N := N) (a := a))
    have r2 := r.2 a1
    have b := hB.r (a := sk B N a) (by omega)
    have oe := orT_l e
    have eh : (0 : Int) ≤ (if e = true then 1 else 0) := by split <;> decide
    unfold moL at h0 h1
    refine bR_goOnAnd_0 (d := f + x) ⟨by rw [h.2.1]; decide, fun z => absurd h.2.1 z, fun _ => lookR hB (f + x + 63) ⟨by omega, by omega⟩ h.1 (fun τ2 s t => ⟨⟨by omega, by omega⟩, fun z => ?_, fun z => ?_⟩)⟩
    · -- nothing more to be joined by and
      have g := lv_lk h s t
      have fr : FrR τ τ2 p := frR_of (s.mono (by decide) (by decide))
      rw [if_neg z] at h0 h1
      have orL : ∀ τ3, FrR τ τ3 p → Lv τ3 B N p D (sk B N a) (M ++ orT e) → Ev (f + y + 67) mR_goOnOr 0 [vR 64] [] τ3 K := by
        intro τ3 f3 g3
        refine bR_goOnOr_0 (d := f + y + 1) ⟨by rw [g3.2.1]; decide, fun z => absurd g3.2.1 z, fun _ => lookR hB (f + y + 64) ⟨by omega, by omega⟩ g3.1 (fun τ4 s4 t4 => ?_)⟩
        rw [sk_sk] at t4 ⊢
        have g4 := lv_lk g3 s4 t4
        have f4 : FrR τ τ4 p := f3.tr (frR_of (s4.mono (by decide) (by decide)))
        refine ⟨⟨by omega, by omega⟩, fun q => ?_, fun q => ?_⟩
        · rw [if_neg q] at h1
          exact h1 _ _ rfl τ4 f4 g4
        · rw [if_pos q] at h0 h1
          have lt := (b.2.2 (by omega)).1
          have g5 := lv_mv g4 (sk B N a + 1)
          have f5 : FrR τ (ups τ4 64 3 (sk B N a + 1)) p := f4.tr (frR_of (Sm.refl.ups rfl (Or.inr rfl)))
          rw [t4.2.1]
          have len : (((M ++ orT e).length : Nat) : Int) = (M.length : Int) + (if e = true then 1 else 0) := by rw [List.length_append]; push_cast; rw [oe]
          obtain ⟨p1, q1⟩ := hps (sk B N a + 1) (by omega) (by omega)
          refine hun (y + 1) (sk B N a + 1) (M ++ orT e) _ _ (by omega) (by omega) (by rw [len]; omega) g5 (fun w ei τ6 f6 g6 => ?_) (fun b1 t1 ei τ6 f6 g6 => ?_)
          · rw [ei] at h0
            have pw := p1 w ei
            exact bR_goOnAnd_in (d := f + y) (andF hN (f + y) pw g6 (KA_fail hN (f + y) (e := true) hp pw g6 (by omega) (fun τ7 f7 g7 => h0 w rfl τ7 ((f5.tr f6).tr f7) (fl_X g7 (by omega)))))
          · rw [ei] at h0 h1
            have q1' := q1 b1 t1 ei
            have len6 : (((M ++ orT e ++ t1).length : Nat) : Int) = (M.length : Int) + (if e = true then 1 else 0) + (t1.length : Int) := by rw [List.length_append]; push_cast; rw [len]
            refine bR_goOnAnd_in (d := f + y) (ih b1 true _ τ6 y (by omega) (by omega) (by omega) (by rw [len6, if_pos rfl]; omega) g6 (fun w e2 τ7 f7 g7 => ?_) (fun a2 t2 e2 τ7 f7 g7 => ?_))
            · refine h0 w ?_ τ7 ((f5.tr f6).tr f7) g7
              show bnR (moL B N un m b1 true) _ = _
              rw [e2]; rfl
            · refine h1 a2 (orT e ++ (t1 ++ t2)) ?_ τ7 ((f5.tr f6).tr f7) ?_
              · show bnR (moL B N un m b1 true) _ = _
                rw [e2]; rfl
              · rw [List.append_assoc, List.append_assoc] at g7
                exact g7
      cases e
      · show Cl (f + y + 67) mR_goOnOr [aR 64] τ2 K
        refine bR_goOnOr_in (d := f + y + 1) (orL τ2 fr ?_)
        rw [show orT false = [] from rfl, List.append_nil]; exact g
      · show Cl (f + y + 66) mR_put [aR 64, aI 11, aI 0] τ2 (fun r8 τ9 => oV r8 (Ev (f + y + 67) mR_goOnOr 0 [vR 64] [] τ9 K))
        rw [if_pos rfl] at hlen
        exact putR (f + y + 65) hp g (by omega) (fun τ3 f3 g3 => orL τ3 (fr.tr f3) g3)
    · rw [if_pos z] at h0 h1
      have lt := (b.2.2 (by omega)).1
      have g := lv_mv (lv_lk h s t) (sk B N a + 1)
      have f2 : FrR τ (ups τ2 64 3 (sk B N a + 1)) p := frR_of ((s.mono (by decide) (by decide)).ups rfl (Or.inr rfl))
      rw [t.2.1]
      obtain ⟨p1, q1⟩ := hps (sk B N a + 1) (by omega) (by omega)
      refine hun x (sk B N a + 1) M _ _ (by omega) (by omega) (by omega) g (fun w ei τ3 f3 g3 => ?_) (fun b1 t1 ei τ3 f3 g3 => ?_)
      · rw [ei] at h0
        have pw := p1 w ei
        exact putF (f + x + 64) hp g3 (by omega) (fun τ4 f4 g4 => andF hN (f + x) pw g4 (KA_fail hN (f + y) hp pw g4 (by omega) (fun τ7 f7 g7 => h0 w rfl τ7 (((f2.tr f3).tr f4).tr f7) (fl_X g7 (by omega)))))
      · rw [ei] at h0 h1
        have q1' := q1 b1 t1 ei
        have len3 : (((M ++ t1).length : Nat) : Int) = (M.length : Int) + (t1.length : Int) := by rw [List.length_append]; push_cast; rfl
        refine putR (f + x + 64) hp g3 (by rw [len3]; omega) (fun τ4 f4 g4 => ?_)
        have g4' : Lv τ4 B N p D b1 (M ++ t1 ++ opT 38) := g4
        have len4 : (((M ++ t1 ++ opT 38).length : Nat) : Int) = (M.length : Int) + (t1.length : Int) + 1 := by rw [List.length_append]; push_cast; rw [len3]; rfl
        refine ih b1 e _ τ4 x (by omega) (by omega) (by omega) (by rw [len4]; omega) g4' (fun w e2 τ7 f7 g7 => ?_) (fun a2 t2 e2 τ7 f7 g7 => ?_)
        · refine h0 w ?_ τ7 (((f2.tr f3).tr f4).tr f7) g7
          show bnR (moL B N un m b1 e) _ = _
          rw [e2]; rfl
        · refine h1 a2 (t1 ++ (opT 38 ++ t2)) ?_ τ7 (((f2.tr f3).tr f4).tr f7) ?_
          · show bnR (moL B N un m b1 e) _ = _
            rw [e2]; rfl
          · rw [List.append_assoc, List.append_assoc] at g7
            exact g7
/-- behind a unit: and, or -/
theorem moreR {B : Int → Int} {N : Int} (hB : BTp B N) (f : Nat) {p D U : Int} (hp : 0 ≤ p ∧ p < 5) (hU : 241 ≤ U ∧ U < 500) {un : Int → RT} (hps : PosK N un) (hun : ∀ x : Nat, RdR B N p D U un (fun ω Q => Cl (f + x + 65) mR_unit [aR 64] ω Q)) (y : Nat) : RdR B N p D (U + 2) (fun a => moL B N un 241 a false) (fun ω Q => Cl (f + y + 67) mR_goOnAnd [aR 64] ω (fun r3 τ4 => oV r3 (Cl (f + y + 67) mR_goOnOr [aR 64] τ4 Q))) := by
  intro a M ω Q a0 a1 hlen h h0 h1
  exact bR_goOnAnd_in (d := f + y + 1) (moLR hB f hp hU hps hun y 241 a false M ω (y + 1) (by omega) a0 a1 (by rw [if_neg (by decide)]; omega) h h0 h1)
theorem moreF {N : Int} (hN : 0 ≤ N ∧ N ≤ 240) (g : Nat) {p w X : Int} {τ : Mem} (hw : 0 ≤ w ∧ w ≤ N) (h : Fl τ p w X) {K : RV → Mem → Prop} (hq : K rV τ) : Cl (g + 67) mR_goOnAnd [aR 64] τ (fun r3 τ4 => oV r3 (Cl (g + 67) mR_goOnOr [aR 64] τ4 K)) :=
  bR_goOnAnd_in (d := g + 1) (andF hN (g + 1) hw h (bR_goOnOr_in (d := g + 1) (orF hN g hw h hq)))
def cdt (B : Int → Int) (N : Int) (un : Int → RT) (a : Int) : RT := bnR (un a) (fun r => bnR (moL B N un 241 r.1 false) (fun s => .inr (s.1, r.2 ++ s.2)))
theorem cdt_b {α : Type} {B : Int → Int} {N : Int} {un : Int → RT} {a : Int} (k : Int × List Tok → Int ⊕ α) : bnR (un a) (fun r => bnR (moL B N un 241 r.1 false) (fun s => k (s.1, r.2 ++ s.2))) = bnR (cdt B N un a) k := by
  unfold cdt
  cases un a with
  | inl w => rfl
  | inr r =>
    show bnR (moL B N un 241 r.1 false) _ = bnR (bnR (moL B N un 241 r.1 false) _) k
    cases moL B N un 241 r.1 false with
    | inl w => rfl
    | inr s => rfl
theorem cdt_p {B : Int → Int} {N : Int} (hB : BTp B N) {un : Int → RT} (hun : PosK N un) : PosK N (cdt B N un) := by
  intro a a0 a1
  obtain ⟨p1, q1⟩ := hun a a0 a1
  unfold cdt
  constructor
  · intro w h
    rcases bnR_l h with e | ⟨⟨b1, t1⟩, e, h⟩
    · exact p1 w e
    · have t1' := q1 b1 t1 e
      have ih := moL_p hB hun 241 b1 false (by omega) (by omega)
      rcases bnR_l h with e2 | ⟨s, e2, h⟩
      · exact ih.1 w e2
      · cases h
  · intro a' t h
    obtain ⟨⟨b1, t1⟩, e, h⟩ := bnR_r h
    have t1' := q1 b1 t1 e
    have ih := moL_p hB hun 241 b1 false (by omega) (by omega)
    obtain ⟨⟨b2, t2⟩, e2, h⟩ := bnR_r h
    have t2' := ih.2 b2 t2 e2
    rw [if_neg (by decide)] at t2'
    injection h with h
    injection h with h1 h2
    dsimp only at h1 h2
    rw [← h1, ← h2, List.length_append]
    exact ⟨⟨by omega, by omega⟩, (by omega), by push_cast; omega⟩
theorem condR {B : Int → Int} {N : Int} (hB : BTp B N) (f : Nat) {p D U : Int} (hp : 0 ≤ p ∧ p < 5) (hU : 241 ≤ U ∧ U < 500) {un : Int → RT} (hps : PosK N un) (hun : ∀ x : Nat, RdR B N p D U un (fun ω Q => Cl (f + x + 65) mR_unit [aR 64] ω Q)) (y : Nat) : RdR B N p D (U + 2) (cdt B N un) (fun ω Q => Cl (f + y + 68) mR_condition [aR 64] ω Q) := by
  have hN := hB.1
  intro a M ω Q a0 a1 hlen h h0 h1
  obtain ⟨p1, q1⟩ := hps a a0 a1
  unfold cdt at h0 h1
  refine bR_condition_in (d := f + y + 2) (hun (y + 2) a M ω _ a0 a1 hlen h (fun w e τ f1 g1 => ?_) (fun b1 t1 e τ f1 g1 => ?_))
  · rw [e] at h0
    exact moreF hN (f + y) (p1 w e) g1 (h0 w rfl τ f1 (fl_X g1 (by omega)))
  · rw [e] at h0 h1
    have q1' := q1 b1 t1 e
    have len : (((M ++ t1).length : Nat) : Int) = (M.length : Int) + (t1.length : Int) := by rw [List.length_append]; push_cast; rfl
    refine moreR hB f hp hU hps hun y b1 _ τ _ (by omega) (by omega) (by rw [len]; omega) g1 (fun w e2 τ2 f2 g2 => ?_) (fun a2 t2 e2 τ2 f2 g2 => ?_)
    · refine h0 w ?_ τ2 (f1.tr f2) g2
      show bnR (moL B N un 241 b1 false) _ = _
      rw [show moL B N un 241 b1 false = .inl w from e2]; rfl
    · refine h1 a2 (t1 ++ t2) ?_ τ2 (f1.tr f2) ?_
      · show bnR (moL B N un 241 b1 false) _ = _
        rw [show moL B N un 241 b1 false = .inr (a2, t2) from e2]; rfl
      · rw [List.append_assoc] at g2; exact g2
theorem unitR {B : Int → Int} {N : Int} (hB : BTp B N) (d : Nat) {p D X U V : Int} (hp : 0 ≤ p ∧ p < 5) (hX : 241 ≤ X ∧ X < 500) (hU : 0 ≤ U ∧ U < 500) (hV : X + 1 ≤ V ∧ U + 2 ≤ V) (hD : 0 ≤ D ∧ D ≤ 6) {nest : Bool} {un sm : Int → RT} (hnz : nest = true ↔ D ≠ 6) (hpu : nest = true → PosK N un) (hps : PosK N sm) (hsum : RdR B N p D X sm (fun ω Q => Cl (d + 65) mR_sum [aR 64] ω Q)) (hcmp : RdR B N p D (X + 1) (cmG B N sm) (fun ω Q => Cl (d + 65) mR_compare [aR 64] ω Q)) (hun : nest = true → RdR B N p (D + 1) U un (fun ω Q => Cl (d + 65) mR_unit [aR 64] ω Q)) (hcd : nest = true → RdR B N p (D + 1) (U + 2) (cdt B N un) (fun ω Q => Cl (d + 65) mR_condition [aR 64] ω Q)) : RdR B N p D V (unG B N nest un sm) (fun ω Q => Cl (d + 66) mR_unit [aR 64] ω Q) := by
  have hN := hB.1
  intro a M ω Q a0 a1 hlen h h0 h1
  have r := (sk_r (B := B) (N := N) (a := a))
  have r2 := r.2 a1
  have b := hB.r (a := sk B N a) (by omega)
  unfold unG at h0 h1
  refine bR_unit_in (lookR hB (d + 63) ⟨by omega, by omega⟩ h.1 (fun τ s t => ?_))
  have fr : FrR ω τ p := frR_of (s.mono (by decide) (by decide))
  have g := lv_lk h s t
  have shut : D = 6 → nest = false := by
    intro y6
    cases q : nest
    · rfl
    · exact absurd y6 (hnz.mp q)
  refine ⟨⟨by omega, by omega⟩, fun y => ⟨fun x => ?_, fun x => ?_⟩, fun y => ?_⟩
  · rw [if_neg y, if_neg x] at h0 h1
    obtain ⟨p1, q1⟩ := hps (sk B N a) (by omega) r2
    refine hsum (sk B N a) M τ _ (by omega) r2 (by omega) g (fun w e τ2 f2 g2 => ?_) (fun b1 t1 e τ2 f2 g2 => ?_)
    · rw [e] at h0
      have pw := p1 w e
      exact ⟨by rw [g2.1]; exact ⟨by omega, by omega⟩, fun _ => h0 w rfl τ2 (fr.tr f2) (fl_X g2 (by omega)), fun q => absurd q (by rw [g2.1]; omega)⟩
    · rw [e] at h0 h1
      have q1' := q1 b1 t1 e
      have len : (((M ++ t1).length : Nat) : Int) = (M.length : Int) + (t1.length : Int) := by rw [List.length_append]; push_cast; rfl
      refine ⟨by rw [g2.2.1]; decide, fun q => absurd g2.2.1 q, fun _ => hcmp b1 _ τ2 _ (by omega) (by omega) (by rw [len]; omega) g2 (fun w e2 τ3 f3 g3 => ?_) (fun a2 t2 e2 τ3 f3 g3 => ?_)⟩
      · refine h0 w ?_ τ3 ((fr.tr f2).tr f3) (fl_X g3 (by omega))
        show bnR (cmG B N sm b1) _ = _
        rw [e2]; rfl
      · refine h1 a2 (t1 ++ t2) ?_ τ3 ((fr.tr f2).tr f3) ?_
        · show bnR (cmG B N sm b1) _ = _
          rw [e2]; rfl
        · rw [List.append_assoc] at g3; exact g3
  · rw [if_neg y, if_pos x] at h0 h1
    have lt := (b.2.2 (by omega)).1
    refine opensR hB (d + 63) hD (by omega) r2 (by omega) g (fun y6 τ2 f2 g2 => ⟨by rw [g2.2.1]; decide, fun q => absurd g2.2.1 q, fun _ => ?_⟩) (fun y6 τ2 f2 g2 => ⟨by rw [g2.1]; exact ⟨by omega, by omega⟩, fun _ => ?_, fun q => absurd q (by rw [g2.1]; omega)⟩)
    · have hne : nest = true := hnz.mpr y6
      rw [hne, if_neg (by decide)] at h0 h1
      rw [cdt_b (fun s => if hr B N (sk B N s.1) = 41 then .inr (sk B N s.1 + 1, s.2) else .inl (sk B N s.1))] at h0 h1
      obtain ⟨p1, q1⟩ := cdt_p hB (hpu hne) (sk B N a + 1) (by omega) (by omega)
      refine hcd hne (sk B N a + 1) M τ2 _ (by omega) (by omega) (by omega) g2 (fun w e τ3 f3 g3 => ?_) (fun b1 t1 e τ3 f3 g3 => ?_)
      · rw [e] at h0
        have pw := p1 w e
        exact closesF (d + 62) ⟨by omega, by omega⟩ g3 (fun τ4 f4 g4 => h0 w rfl τ4 (((fr.tr f2).tr f3).tr f4) (fl_X g4 (by omega)))
      · rw [e] at h0 h1
        have q1' := q1 b1 t1 e
        have len : (((M ++ t1).length : Nat) : Int) = (M.length : Int) + (t1.length : Int) := by rw [List.length_append]; push_cast; rfl
        refine closesR hB (d + 62) (by decide) (by omega) (by omega) (by rw [len]; omega) g3 (fun y4 τ4 f4 g4 => h1 _ _ ?_ τ4 (((fr.tr f2).tr f3).tr f4) g4) (fun y4 τ4 f4 g4 => h0 _ ?_ τ4 (((fr.tr f2).tr f3).tr f4) (fl_X g4 (by omega)))
        · show (if hr B N (sk B N b1) = 41 then _ else _) = _
          rw [if_pos y4]
        · show (if hr B N (sk B N b1) = 41 then _ else _) = _
          rw [if_neg y4]
    · rw [if_pos (shut y6)] at h0
      exact h0 _ rfl τ2 (fr.tr f2) (fl_X g2 (by omega))
  · rw [if_pos y] at h0 h1
    have lt := (b.2.2 (by omega)).1
    refine opensR hB (d + 63) hD (by omega) r2 (by omega) g (fun y6 τ2 f2 g2 => ⟨by rw [g2.2.1]; decide, fun q => absurd g2.2.1 q, fun _ => ?_⟩) (fun y6 τ2 f2 g2 => ⟨by rw [g2.1]; exact ⟨by omega, by omega⟩, fun _ => ?_, fun q => absurd q (by rw [g2.1]; omega)⟩)
    · have hne : nest = true := hnz.mpr y6
      rw [hne, if_neg (by decide)] at h0 h1
      obtain ⟨p1, q1⟩ := hpu hne (sk B N a + 1) (by omega) (by omega)
      refine hun hne (sk B N a + 1) M τ2 _ (by omega) (by omega) (by omega) g2 (fun w e τ3 f3 g3 => ?_) (fun b1 t1 e τ3 f3 g3 => ?_)
      · rw [e] at h0
        refine putF (d + 64) hp g3 (by omega) (fun τ4 f4 g4 => h0 w rfl _ ((((fr.tr f2).tr f3).tr f4).tr (frR_of (Sm.refl.ups rfl (Or.inr rfl)))) (fl_X (fl_sm g4 (Sm.refl.ups rfl (Or.inr rfl))) (by omega)))
      · rw [e] at h1
        have q1' := q1 b1 t1 e
        have len : (((M ++ t1).length : Nat) : Int) = (M.length : Int) + (t1.length : Int) := by rw [List.length_append]; push_cast; rfl
        refine putR (d + 64) hp g3 (by rw [len]; omega) (fun τ4 f4 g4 => h1 b1 (t1 ++ opT 33) rfl _ ((((fr.tr f2).tr f3).tr f4).tr (frR_of (Sm.refl.ups rfl (Or.inr rfl)))) ?_)
        have s5 : Sm τ4 (ups τ4 64 5 (τ4 64 5 - 1)) [64] [5] := Sm.refl.ups rfl (Or.inr rfl)
        refine ⟨g4.1.sm s5 rfl rfl rfl, by rw [s5.2 4 rfl]; exact g4.2.1, by rw [ups_hit, g4.2.2.1]; omega, ?_⟩
        rw [← List.append_assoc]
        exact emR_sm g4.2.2.2 (s5.mono (by decide) (by decide))
    · rw [if_pos (shut y6)] at h0
      exact h0 _ rfl τ2 (fr.tr f2) (fl_X g2 (by omega))
theorem smKR' {B : Int → Int} {N : Int} (hB : BTp B N) {p : Int} (hp : 0 ≤ p ∧ p < 5) (k e : Nat) (hk : k ≤ 6) (he : 3 * k + 6 ≤ e) : RdR B N p (6 - (k : Int)) (243 + 2 * (k : Int)) (smK B N (atK B N k)) (fun ω Q => Cl e mR_sum [aR 64] ω Q) := by
  obtain ⟨d, rfl⟩ : ∃ d, e = d + 3 * k + 6 := ⟨e - (3 * k + 6), by omega⟩
  exact smKR hB hp k d hk
theorem unKR {B : Int → Int} {N : Int} (hB : BTp B N) {p : Int} (hp : 0 ≤ p ∧ p < 5) : ∀ (k : Nat) (e : Nat), k ≤ 6 → 4 * k + 66 ≤ e → RdR B N p (6 - (k : Int)) (244 + 2 * (k : Int)) (unK B N k) (fun ω Q => Cl e mR_unit [aR 64] ω Q)
  | 0, e, hk, he => by
    obtain ⟨d, rfl⟩ : ∃ d, e = d + 66 := ⟨e - 66, by omega⟩
    exact unitR hB d hp (D := 6 - ((0 : Nat) : Int)) (X := 243 + 2 * ((0 : Nat) : Int)) (U := 0) (V := 244 + 2 * ((0 : Nat) : Int)) (by decide) (by decide) (by decide) (by decide) (nest := false) ⟨fun z => (by cases z), fun z => absurd rfl z⟩ (fun z => by cases z) (sm_p hB 0) (smKR' hB hp 0 (d + 65) hk (by omega)) (compareR hB d hp (by decide) (sm_p hB 0) (smKR' hB hp 0 (d + 64) hk (by omega))) (fun z => by cases z) (fun z => by cases z)
  | k + 1, e, hk, he => by
    obtain ⟨d, rfl⟩ : ∃ d, e = d + (4 * k + 4) + 66 := ⟨e - (4 * k + 4 + 66), by omega⟩
    have ed : (6 : Int) - (k : Int) = 6 - ((k + 1 : Nat) : Int) + 1 := by omega
    have un : ∀ e, 4 * k + 66 ≤ e → RdR B N p (6 - ((k + 1 : Nat) : Int) + 1) (244 + 2 * (k : Int)) (unK B N k) (fun ω Q => Cl e mR_unit [aR 64] ω Q) := fun e he => by
      have := unKR hB hp k e (by omega) he
      rw [ed] at this
      exact this
    refine unitR hB (d + (4 * k + 4)) hp (D := 6 - ((k + 1 : Nat) : Int)) (X := 243 + 2 * ((k + 1 : Nat) : Int)) (U := 244 + 2 * (k : Int)) (V := 244 + 2 * ((k + 1 : Nat) : Int)) ⟨by omega, by omega⟩ ⟨by omega, by omega⟩ ⟨by omega, by omega⟩ ⟨by omega, by omega⟩ (nest := true) ⟨fun _ => (by omega), fun _ => rfl⟩ (fun _ => unK_p hB k) (sm_p hB (k + 1)) (smKR' hB hp (k + 1) _ hk (by omega)) (compareR hB _ hp ⟨by omega, by omega⟩ (sm_p hB (k + 1)) (smKR' hB hp (k + 1) _ hk (by omega))) (fun _ => un _ (by omega)) (fun _ => ?_)
    have c := condR hB (4 * k + 1) hp ⟨by omega, by omega⟩ (unK_p hB k) (fun x => un _ (by omega)) d
    rw [show 4 * k + 1 + d + 68 = d + (4 * k + 4) + 65 by omega] at c
    exact c
