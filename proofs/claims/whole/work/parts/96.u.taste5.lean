/-! ===== A TASTE READ, BY THE REFERENCE: SUMS ===== -/
def EmR (ω : Mem) (p : Int) (M : List Tok) : Prop := ω 64 14 = p ∧ ω 68 p = (M.length : Int) ∧ LiesP (ω 66) (ω 67) (520 * p) M
def FrR (ω τ : Mem) (p : Int) : Prop := Sm ω τ [64, 66, 67, 68] [3, 4, 5] ∧ (∀ j, ¬ (520 * p ≤ j ∧ j < 520 * p + 520) → τ 66 j = ω 66 j ∧ τ 67 j = ω 67 j) ∧ (∀ j, j ≠ p → τ 68 j = ω 68 j)
theorem frR_of {ω τ : Mem} {p : Int} (s : Sm ω τ [64] [3, 4, 5]) : FrR ω τ p := ⟨s.mono (by decide) (by decide), fun j _ => by rw [s.1 66 rfl, s.1 67 rfl]; exact ⟨rfl, rfl⟩, fun j _ => by rw [s.1 68 rfl]⟩
theorem FrR.tr {ω τ ζ : Mem} {p : Int} (h : FrR ω τ p) (g : FrR τ ζ p) : FrR ω ζ p := ⟨h.1.trans g.1, fun j hj => by rw [(g.2.1 j hj).1, (g.2.1 j hj).2]; exact h.2.1 j hj, fun j hj => by rw [g.2.2 j hj, h.2.2 j hj]⟩
/-- all is well so far -/
def Lv (ω : Mem) (B : Int → Int) (N p D a : Int) (M : List Tok) : Prop := TqR ω B N a ∧ ω 64 4 = -1 ∧ ω 64 5 = D ∧ EmR ω p M
/-- it went wrong -/
def Fl (ω : Mem) (p w X : Int) : Prop := ω 64 4 = w ∧ (0 ≤ ω 68 p ∧ ω 68 p ≤ X) ∧ ω 64 14 = p
theorem emR_sm {ω τ : Mem} {p : Int} {M : List Tok} (h : EmR ω p M) (s : Sm ω τ [64] [3, 4, 5]) : EmR τ p M := by
  unfold EmR; rw [s.2 14 rfl, s.1 68 rfl, s.1 66 rfl, s.1 67 rfl]; exact h
theorem lv_fl {ω τ : Mem} {B : Int → Int} {N p D a w X : Int} {M : List Tok} (h : Lv ω B N p D a M) (s : Sm ω τ [64] [3, 4, 5]) (e : τ 64 4 = w) (hX : (M.length : Int) ≤ X) : Fl τ p w X := ⟨e, by rw [s.1 68 rfl, h.2.2.2.2.1]; exact ⟨by omega, hX⟩, by rw [s.2 14 rfl]; exact h.2.2.2.1⟩
theorem lv_mv {ω : Mem} {B : Int → Int} {N p D a : Int} {M : List Tok} (h : Lv ω B N p D a M) (a' : Int) : Lv (ups ω 64 3 a') B N p D a' M := ⟨h.1.to a', by rw [ups_fn (by decide)]; exact h.2.1, by rw [ups_fn (by decide)]; exact h.2.2.1, emR_sm h.2.2.2 (Sm.refl.ups rfl (Or.inr rfl))⟩
theorem lv_lk {ω τ : Mem} {B : Int → Int} {N p D a a' : Int} {M : List Tok} (h : Lv ω B N p D a M) (s : Sm ω τ [64] [3]) (t : TqR τ B N a') : Lv τ B N p D a' M := ⟨t, by rw [s.2 4 rfl]; exact h.2.1, by rw [s.2 5 rfl]; exact h.2.2.1, emR_sm h.2.2.2 (s.mono (by decide) (by decide))⟩
theorem putR {B : Int → Int} {N : Int} (d : Nat) {p D a : Int} {x y : Int} {M : List Tok} {ω : Mem} (hp : 0 ≤ p ∧ p < 5) (h : Lv ω B N p D a M) (hl : (M.length : Int) < 520) {Q : RV → Mem → Prop} (hq : ∀ τ, FrR ω τ p → Lv τ B N p D a (M ++ [(x, y)]) → Q rV τ) : Cl (d + 1) mR_put [aR 64, aI x, aI y] ω Q := by
  obtain ⟨t, h4, h5, e1, e2, e3⟩ := h
  refine bR_put_in ⟨by rw [e1]; omega, by rw [e1]; omega, by rw [e1, e2]; omega, by rw [e1, e2]; omega, ?_⟩
  rw [e1, e2]
  have s : Sm ω (ups (ups (ups ω 66 (520 * p + (M.length : Int)) x) 67 (520 * p + (M.length : Int)) y) 68 p ((M.length : Int) + 1)) [66, 67, 68] [] := ((Sm.refl.ups rfl (Or.inl (by decide))).ups rfl (Or.inl (by decide))).ups rfl (Or.inl (by decide))
  refine hq _ ⟨s.mono (by decide) (by decide), fun j hj => ⟨by rw [ups_ne (by decide), ups_ne (by decide), ups_fn (by omega)], by rw [ups_ne (by decide), ups_fn (by omega), ups_ne (by decide)]⟩, fun j hj => by rw [ups_fn hj, ups_ne (by decide), ups_ne (by decide)]⟩ ⟨t.sm s rfl rfl rfl, by rw [s.2 4 rfl]; exact h4, by rw [s.2 5 rfl]; exact h5, by rw [s.2 14 rfl]; exact e1, by rw [ups_hit, List.length_append]; rfl, fun j v hj => ?_⟩
  rw [ups_ne (show (66 : Nat) ≠ 68 by decide), ups_ne (show (67 : Nat) ≠ 68 by decide)]
  by_cases c : j = M.length
  · subst c
    rw [List.getElem?_append_right (Nat.le_refl _), Nat.sub_self] at hj
    injection hj with hj
    rw [← hj]
    refine ⟨?_, ?_⟩
    · rw [ups_ne (by decide)]; exact ups_hit
    · exact ups_hit
  · have lt : j < M.length := by
      have := (List.getElem?_eq_some_iff.mp hj).1
      rw [List.length_append] at this
      have e : ([(x, y)] : List Tok).length = 1 := rfl
      omega
    rw [List.getElem?_append_left lt] at hj
    have ne : 520 * p + Int.ofNat j ≠ 520 * p + (M.length : Int) := by show 520 * p + ((j : Nat) : Int) ≠ _; omega
    rw [ups_ne (by decide), ups_fn ne, ups_fn ne, ups_ne (by decide)]
    exact e3 j v hj
theorem putF (d : Nat) {p w X x y : Int} {ω : Mem} (hp : 0 ≤ p ∧ p < 5) (h : Fl ω p w X) (hX : X < 519) {Q : RV → Mem → Prop} (hq : ∀ τ, FrR ω τ p → Fl τ p w (X + 1) → Q rV τ) : Cl (d + 1) mR_put [aR 64, aI x, aI y] ω Q := by
  obtain ⟨e4, e2, e1⟩ := h
  refine bR_put_in ⟨by rw [e1]; omega, by rw [e1]; omega, by rw [e1]; omega, by rw [e1]; omega, ?_⟩
  rw [e1]
  have s : Sm ω (ups (ups (ups ω 66 (520 * p + ω 68 p) x) 67 (520 * p + ω 68 p) y) 68 p (ω 68 p + 1)) [66, 67, 68] [] := ((Sm.refl.ups rfl (Or.inl (by decide))).ups rfl (Or.inl (by decide))).ups rfl (Or.inl (by decide))
  exact hq _ ⟨s.mono (by decide) (by decide), fun j hj => ⟨by rw [ups_ne (by decide), ups_ne (by decide), ups_fn (by omega)], by rw [ups_ne (by decide), ups_fn (by omega), ups_ne (by decide)]⟩, fun j hj => by rw [ups_fn hj, ups_ne (by decide), ups_ne (by decide)]⟩ ⟨by rw [s.2 4 rfl]; exact e4, by rw [ups_hit]; omega, by rw [s.2 14 rfl]; exact e1⟩
def RdR (B : Int → Int) (N p D X : Int) (f : Int → RT) (run : Mem → (RV → Mem → Prop) → Prop) : Prop := ∀ (a : Int) (M : List Tok) (ω : Mem) (Q : RV → Mem → Prop), 0 ≤ a → a ≤ N → (M.length : Int) ≤ a → Lv ω B N p D a M → (∀ w, f a = .inl w → ∀ τ, FrR ω τ p → Fl τ p w X → Q rV τ) → (∀ a' t, f a = .inr (a', t) → ∀ τ, FrR ω τ p → Lv τ B N p D a' (M ++ t) → Q rV τ) → run ω Q
theorem fl_X {ω : Mem} {p w X X' : Int} (h : Fl ω p w X) (hx : X ≤ X') : Fl ω p w X' := ⟨h.1, ⟨h.2.1.1, by have := h.2.1.2; omega⟩, h.2.2⟩
theorem fl_sm {ω τ : Mem} {p w X : Int} (h : Fl ω p w X) (s : Sm ω τ [64] [3, 5]) : Fl τ p w X := ⟨by rw [s.2 4 rfl]; exact h.1, by rw [s.1 68 rfl]; exact h.2.1, by rw [s.2 14 rfl]; exact h.2.2⟩
theorem RdR.mono {B : Int → Int} {N p D X X' : Int} {f : Int → RT} {r1 r2 : Mem → (RV → Mem → Prop) → Prop} (h : RdR B N p D X f r1) (hx : X ≤ X') (e : ∀ υ Q, r1 υ Q → r2 υ Q) : RdR B N p D X' f r2 := fun a L υ Q a0 a1 hl hL h0 h1 => e υ Q (h a L υ Q a0 a1 hl hL (fun w e τ f l => h0 w e τ f (fl_X l hx)) h1)
/-- what a sum does behind a term -/
def TL (d : Nat) (Q : RV → Mem → Prop) (l : Int) : RV → Mem → Prop := if l = 0 then (fun r1 τ2 => oV r1 ((rg (τ2 64 4)) ∧ (((τ2 64 4) : Int) ≠ (-1) → Ev (d + 4) mR_sum 21 [vR 64, vI (-1)] [] τ2 Q) ∧ (((τ2 64 4) : Int) = (-1) → Cl (d + 3) mR_look [aR 64] τ2 (fun r3 τ4 => oI r3 (fun w5 => Ev (d + 4) mR_sum 21 [vR 64, vI w5] [] τ4 Q)))))
  else (fun r1 τ2 => oV r1 ((rg l) ∧ ((l : Int) ≠ 43 → Ev (d + 4) mR_sum 59 [vR 64, vI l] [aI 3, aR 64] τ2 Q) ∧ ((l : Int) = 43 → Ev (d + 4) mR_sum 59 [vR 64, vI l] [aI 2, aR 64] τ2 Q)))
theorem TL_fail {B : Int → Int} {N : Int} (hB : BTp B N) (d : Nat) {p w X l : Int} {τ : Mem} (hp : 0 ≤ p ∧ p < 5) (hl : l = 0 ∨ l = 43 ∨ l = 45) (hw : 0 ≤ w ∧ w ≤ N) (h : Fl τ p w X) (hX : X < 519) {Q : RV → Mem → Prop} (hq : ∀ τ', FrR τ τ' p → Fl τ' p w (X + 1) → Q rV τ') : TL d Q l rV τ := by
  have hN := hB.1
  have stop : ∀ τ', FrR τ τ' p → Fl τ' p w (X + 1) → Ev (d + 4) mR_sum 21 [vR 64, vI (-1)] [] τ' Q := fun τ' f g => bR_sum_21 ⟨by decide, fun z => absurd z (by decide), fun _ => ⟨fun _ => hq τ' f g, fun z => absurd z (by decide)⟩⟩
  have pt : ∀ op, Ev (d + 4) mR_sum 59 [vR 64, vI l] [aI op, aR 64] τ Q := fun op => bR_sum_59 (putF (d + 2) hp h hX (fun τ2 f2 g2 => ⟨by rw [g2.1]; exact ⟨by omega, by omega⟩, fun _ => stop τ2 f2 g2, fun z => absurd z (by rw [g2.1]; omega)⟩))
  unfold TL
  rcases hl with e | e | e <;> subst e
  · rw [if_pos rfl]
    exact ⟨by rw [h.1]; exact ⟨by omega, by omega⟩, fun _ => stop τ (frR_of Sm.refl) (fl_X h (by omega)), fun z => absurd z (by rw [h.1]; omega)⟩
  · rw [if_neg (by decide)]
    exact ⟨by decide, fun z => absurd rfl z, fun _ => pt 2⟩
  · rw [if_neg (by decide)]
    exact ⟨by decide, fun _ => pt 3, fun z => absurd z (by decide)⟩
theorem TL_live {B : Int → Int} {N : Int} (hB : BTp B N) (d : Nat) {p D a l : Int} {M : List Tok} {τ : Mem} (hp : 0 ≤ p ∧ p < 5) (hl : l = 0 ∨ l = 43 ∨ l = 45) (ha : 0 ≤ a ∧ a ≤ N) (h32 : ¬ hr B N a = 32) (h : Lv τ B N p D a M) (hlen : (M.length : Int) < 520) {Q : RV → Mem → Prop} (hq : ∀ τ', FrR τ τ' p → Lv τ' B N p D a (M ++ opT l) → Ev (d + 4) mR_sum 21 [vR 64, vI (hr B N a)] [] τ' Q) : TL d Q l rV τ := by
  have hN := hB.1
  have go : ∀ τ2, FrR τ τ2 p → Lv τ2 B N p D a (M ++ opT l) → Cl (d + 3) mR_look [aR 64] τ2 (fun r3 τ4 => oI r3 (fun w5 => Ev (d + 4) mR_sum 21 [vR 64, vI w5] [] τ4 Q)) := by
    intro τ2 f2 g2
    refine lookR hB (d + 1) ⟨by omega, by omega⟩ g2.1 (fun τ3 s3 t3 => ?_)
    rw [sk_id h32] at t3 ⊢
    exact hq τ3 (f2.tr (frR_of (s3.mono (by decide) (by decide)))) (lv_lk g2 s3 t3)
  have pt : ∀ op, opT l = [(op, 0)] → Ev (d + 4) mR_sum 59 [vR 64, vI l] [aI op, aR 64] τ Q := fun op e => bR_sum_59 (putR (d + 2) hp h hlen (fun τ2 f2 g2 => ⟨by rw [g2.2.1]; decide, fun z => absurd g2.2.1 z, fun _ => go τ2 f2 (by rw [e]; exact g2)⟩))
  unfold TL
  rcases hl with e | e | e <;> subst e
  · rw [if_pos rfl]
    refine ⟨by rw [h.2.1]; decide, fun z => absurd h.2.1 z, fun _ => go τ (frR_of Sm.refl) ?_⟩
    rw [show opT 0 = [] from rfl, List.append_nil]; exact h
  · rw [if_neg (by decide)]
    exact ⟨by decide, fun z => absurd rfl z, fun _ => pt 2 rfl⟩
  · rw [if_neg (by decide)]
    exact ⟨by decide, fun _ => pt 3 rfl, fun z => absurd z (by decide)⟩
theorem term21F {B : Int → Int} {N : Int} (hB : BTp B N) (d : Nat) {p w X l : Int} {τ : Mem} (hp : 0 ≤ p ∧ p < 5) (hl : l = 0 ∨ l = 43 ∨ l = 45) (hw : 0 ≤ w ∧ w ≤ N) (h : Fl τ p w X) (hX : X < 519) {Q : RV → Mem → Prop} (hq : ∀ τ', FrR τ τ' p → Fl τ' p w (X + 1) → Q rV τ') : Ev (d + 4) mR_term 21 [vR 64, vI (-1)] [] τ (TL (d + 1) Q l) :=
  bR_term_21 ⟨by decide, fun z => absurd z (by decide), fun _ => ⟨fun _ => TL_fail hB (d + 1) hp hl hw h hX hq, fun z => absurd z (by decide)⟩⟩
theorem atomTerm {B : Int → Int} {N : Int} (hB : BTp B N) (d : Nat) {p D X a l : Int} {M : List Tok} {ω : Mem} (hp : 0 ≤ p ∧ p < 5) (hX : 240 ≤ X ∧ X < 500) (hl : l = 0 ∨ l = 43 ∨ l = 45) {at' : Int → RT} (hat : PosK N at') (hrun : RdR B N p D X at' (fun ω Q => Cl (d + 3) mR_atom [aR 64] ω Q)) (a0 : 0 ≤ a) (a1 : a ≤ N) (hlen : (M.length : Int) ≤ a) (h : Lv ω B N p D a M) {Q : RV → Mem → Prop} (h0 : ∀ w, at' a = .inl w → ∀ τ, FrR ω τ p → Fl τ p w (X + 2) → Q rV τ) (h1 : ∀ a' t, at' a = .inr (a', t) → ∀ τ, FrR ω τ p → Lv τ B N p D (sk B N a') (M ++ t) → Ev (d + 4) mR_term 21 [vR 64, vI (hr B N (sk B N a'))] [] τ (TL (d + 1) Q l)) : Cl (d + 4) mR_term [aR 64] ω (TL (d + 1) Q l) := by
  have hN := hB.1
  obtain ⟨p1, q1⟩ := hat a a0 a1
  refine bR_term_in (hrun a M ω _ a0 a1 hlen h (fun w e τ f g => ?_) (fun a' t e τ f g => ?_))
  · have pw := p1 w e
    refine ⟨by rw [g.1]; exact ⟨by omega, by omega⟩, fun _ => term21F hB d hp hl pw g (by omega) (fun τ' f' g' => h0 w e τ' (f.tr f') (fl_X g' (by omega))), fun z => absurd z (by rw [g.1]; omega)⟩
  · have q1' := q1 a' t e
    refine ⟨by rw [g.2.1]; decide, fun z => absurd g.2.1 z, fun _ => lookR hB (d + 1) ⟨by omega, by omega⟩ g.1 (fun τ3 s3 t3 => ?_)⟩
    exact h1 a' t e τ3 (f.tr (frR_of (s3.mono (by decide) (by decide)))) (lv_lk g s3 t3)
theorem sumLR {B : Int → Int} {N : Int} (hB : BTp B N) (d : Nat) {p D X : Int} (hp : 0 ≤ p ∧ p < 5) (hX : 240 ≤ X ∧ X < 500) {at' : Int → RT} (hat : PosK N at') (hrun : RdR B N p D X at' (fun ω Q => Cl (d + 3) mR_atom [aR 64] ω Q)) {Q : RV → Mem → Prop} : ∀ (n : Nat) (a l : Int) (M : List Tok) (τ : Mem), 241 ≤ a + (n : Int) → (l = 0 ∨ l = 43 ∨ l = 45) → 0 ≤ a → a ≤ N → (M.length : Int) + (if l = 0 then 0 else 1) ≤ a → Lv τ B N p D (sk B N a) M → (∀ w, smL B N at' n a l = .inl w → ∀ τ', FrR τ τ' p → Fl τ' p w (X + 2) → Q rV τ') → (∀ a' t, smL B N at' n a l = .inr (a', t) → ∀ τ', FrR τ τ' p → Lv τ' B N p D a' (M ++ t) → Q rV τ') → Ev (d + 4) mR_term 21 [vR 64, vI (hr B N (sk B N a))] [] τ (TL (d + 1) Q l) := by
  have hN := hB.1
  intro n
  induction n with
  | zero => intro a l M τ hn; omega
  | succ n ih =>
    intro a l M τ hn hl a0 a1 hlen h h0 h1
    have r := (sk_r (B := B) (N := N) (a := a))
    have r2 := r.2 a1
    have b := hB.r (a := sk B N a) (by omega)
    have ol := opT_l l
    have nsp := sk_n (B := B) (N := N) (a := a)
    unfold smL at h0 h1
    have lt : hr B N (sk B N a) ≠ -1 → sk B N a < N := fun z => (b.2.2 z).1
    have hlen2 : (M.length : Int) < 520 := by split at hlen <;> omega
    -- behind the term
    have behind : ¬ (hr B N (sk B N a) = 42 ∨ hr B N (sk B N a) = 47) → TL (d + 1) Q l rV τ := by
      intro hc2
      refine TL_live hB (d + 1) hp hl ⟨by omega, by omega⟩ nsp h hlen2 (fun τ2 f2 g2 => ?_)
      have len2 : (((M ++ opT l).length : Nat) : Int) = (M.length : Int) + (if l = 0 then 0 else 1) := by rw [List.length_append]; push_cast; rw [ol]
      -- + or -
      have plus : (hr B N (sk B N a) = 43 ∨ hr B N (sk B N a) = 45) → Ev (d + 1 + 4) mR_sum 33 [vR 64, vI (hr B N (sk B N a))] [] τ2 Q := by
        intro hc
        rw [if_pos hc] at h0 h1
        have l2 := lt (by omega)
        obtain ⟨-, q1⟩ := hat (sk B N a + 1) (by omega) (by omega)
        have g3 := lv_mv g2 (sk B N a + 1)
        have f3 : FrR τ (ups τ2 64 3 (sk B N a + 1)) p := f2.tr (frR_of (Sm.refl.ups rfl (Or.inr rfl)))
        refine bR_sum_33 ?_
        rw [g2.1.2.1]
        generalize (ups τ2 64 3 (sk B N a + 1)) = τ3 at *
        have hcc : hr B N (sk B N a) = 0 ∨ hr B N (sk B N a) = 43 ∨ hr B N (sk B N a) = 45 := Or.inr hc
        have hne : ¬ hr B N (sk B N a) = 0 := by omega
        have eT : TL (d + 1) Q (hr B N (sk B N a)) = (fun r1 τ2 => oV r1 ((rg (hr B N (sk B N a))) ∧ ((hr B N (sk B N a) : Int) ≠ 43 → Ev (d + 1 + 4) mR_sum 59 [vR 64, vI (hr B N (sk B N a))] [aI 3, aR 64] τ2 Q) ∧ ((hr B N (sk B N a) : Int) = 43 → Ev (d + 1 + 4) mR_sum 59 [vR 64, vI (hr B N (sk B N a))] [aI 2, aR 64] τ2 Q))) := if_neg hne
        rw [← eT]
        generalize hr B N (sk B N a) = c at *
        refine atomTerm hB d hp hX hcc hat hrun (a := sk B N a + 1) (by omega) (by omega) (by rw [len2]; omega) g3 (fun w e τ4 f4 g4 => ?_) (fun b1 t1 e τ4 f4 g4 => ?_)
        · rw [e] at h0
          exact h0 w rfl τ4 (f3.tr f4) g4
        · rw [e] at h0 h1
          have q1' := q1 b1 t1 e
          have len4 : (((M ++ opT l ++ t1).length : Nat) : Int) = (M.length : Int) + (if l = 0 then 0 else 1) + (t1.length : Int) := by rw [List.length_append]; push_cast; rw [len2]
          refine ih b1 c _ τ4 (by omega) hcc (by omega) (by omega) (by rw [len4, if_neg hne]; omega) g4 (fun w e2 τ5 f5 g5 => ?_) (fun a2 t2 e2 τ5 f5 g5 => ?_)
          · refine h0 w ?_ τ5 ((f3.tr f4).tr f5) g5
            show bnR (smL B N at' n b1 c) _ = _
            rw [e2]; rfl
          · refine h1 a2 (opT l ++ (t1 ++ t2)) ?_ τ5 ((f3.tr f4).tr f5) ?_
            · show bnR (smL B N at' n b1 c) _ = _
              rw [e2]; rfl
            · rw [List.append_assoc, List.append_assoc] at g5
              exact g5
      refine bR_sum_21 ⟨⟨by omega, by omega⟩, fun z => plus (Or.inl z), fun z => ⟨fun z2 => ?_, fun z2 => plus (Or.inr z2)⟩⟩
      rw [if_neg (fun q => by rcases q with q | q; exact z q; exact z2 q), if_neg hc2] at h1
      exact h1 _ _ rfl τ2 f2 g2
    -- * or /
    have times : (hr B N (sk B N a) = 42 ∨ hr B N (sk B N a) = 47) → Ev (d + 4) mR_term 33 [vR 64, vI (hr B N (sk B N a))] [] τ (TL (d + 1) Q l) := by
      intro hc2
      rw [if_neg (show ¬ (hr B N (sk B N a) = 43 ∨ hr B N (sk B N a) = 45) by omega), if_pos hc2] at h0 h1
      have l2 := lt (by omega)
      have oc := opT_l (hr B N (sk B N a))
      rw [if_neg (show ¬ hr B N (sk B N a) = 0 by omega)] at oc
      obtain ⟨p1, q1⟩ := hat (sk B N a + 1) (by omega) (by omega)
      have g3 := lv_mv h (sk B N a + 1)
      have f3 : FrR τ (ups τ 64 3 (sk B N a + 1)) p := frR_of (Sm.refl.ups rfl (Or.inr rfl))
      refine bR_term_33 ?_
      rw [h.1.2.1]
      generalize (ups τ 64 3 (sk B N a + 1)) = τ3 at *
      generalize hr B N (sk B N a) = c at *
      have M3 : (M.length : Int) ≤ sk B N a + 1 := by split at hlen <;> omega
      refine hrun (sk B N a + 1) M τ3 _ (by omega) (by omega) M3 g3 (fun w e τ4 f4 g4 => ?_) (fun b1 t1 e τ4 f4 g4 => ?_)
      · rw [e] at h0
        have pw := p1 w e
        have pt : ∀ op, Ev (d + 4) mR_term 59 [vR 64, vI c] [aI op, aR 64] τ4 (TL (d + 1) Q l) := fun op => bR_term_59 (putF (d + 2) hp g4 (by omega) (fun τ5 f5 g5 => ⟨by rw [g5.1]; exact ⟨by omega, by omega⟩, fun _ => term21F hB d hp hl pw g5 (by omega) (fun τ6 f6 g6 => h0 w rfl τ6 (((f3.tr f4).tr f5).tr f6) (fl_X g6 (by omega))), fun z => absurd z (by rw [g5.1]; omega)⟩))
        exact ⟨⟨by omega, by omega⟩, fun _ => pt 5, fun _ => pt 4⟩
      · rw [e] at h0 h1
        have q1' := q1 b1 t1 e
        have len4 : (((M ++ t1).length : Nat) : Int) = (M.length : Int) + (t1.length : Int) := by rw [List.length_append]; push_cast; rfl
        have pt : ∀ op, opT c = [(op, 0)] → Ev (d + 4) mR_term 59 [vR 64, vI c] [aI op, aR 64] τ4 (TL (d + 1) Q l) := by
          intro op eo
          refine bR_term_59 (putR (d + 2) hp g4 (by rw [len4]; split at hlen <;> omega) (fun τ5 f5 g5 => ⟨by rw [g5.2.1]; decide, fun z => absurd g5.2.1 z, fun _ => lookR hB (d + 1) ⟨by omega, by omega⟩ g5.1 (fun τ6 s6 t6 => ?_)⟩))
          rw [← eo] at g5
          have g6 := lv_lk g5 s6 t6
          have fA := (((f3.tr f4).tr f5).tr (frR_of (p := p) (s6.mono (by decide) (by decide))))
          have len5 : (((M ++ t1 ++ opT c).length : Nat) : Int) = (M.length : Int) + (t1.length : Int) + 1 := by rw [List.length_append]; push_cast; rw [len4, oc]
          refine ih b1 l _ τ6 (by omega) hl (by omega) (by omega) (by rw [len5]; omega) g6 (fun w e2 τ7 f7 g7 => ?_) (fun a2 t2 e2 τ7 f7 g7 => ?_)
          · refine h0 w ?_ τ7 (fA.tr f7) g7
            show bnR (smL B N at' n b1 l) _ = _
            rw [e2]; rfl
          · refine h1 a2 (t1 ++ (opT c ++ t2)) ?_ τ7 (fA.tr f7) ?_
            · show bnR (smL B N at' n b1 l) _ = _
              rw [e2]; rfl
            · rw [List.append_assoc, List.append_assoc] at g7
              exact g7
        refine ⟨⟨by omega, by omega⟩, fun z => pt 5 ?_, fun z => pt 4 ?_⟩
        · rcases hc2 with e | e
          · exact absurd e z
          · rw [e]; rfl
        · rw [z]; rfl
    refine bR_term_21 ⟨⟨by omega, by omega⟩, fun z => times (Or.inl z), fun z => ⟨fun z2 => behind (fun q => by rcases q with q | q; exact z q; exact z2 q), fun z2 => times (Or.inr z2)⟩⟩
theorem sumR {B : Int → Int} {N : Int} (hB : BTp B N) (d : Nat) {p D X : Int} (hp : 0 ≤ p ∧ p < 5) (hX : 240 ≤ X ∧ X < 500) {at' : Int → RT} (hat : PosK N at') (hrun : RdR B N p D X at' (fun ω Q => Cl (d + 3) mR_atom [aR 64] ω Q)) : RdR B N p D (X + 2) (smK B N at') (fun ω Q => Cl (d + 5) mR_sum [aR 64] ω Q) := by
  have hN := hB.1
  intro a M ω Q a0 a1 hlen h h0 h1
  obtain ⟨-, q1⟩ := hat a a0 a1
  have eT : TL (d + 1) Q 0 = (fun r1 τ2 => oV r1 ((rg (τ2 64 4)) ∧ (((τ2 64 4) : Int) ≠ (-1) → Ev (d + 1 + 4) mR_sum 21 [vR 64, vI (-1)] [] τ2 Q) ∧ (((τ2 64 4) : Int) = (-1) → Cl (d + 1 + 3) mR_look [aR 64] τ2 (fun r3 τ4 => oI r3 (fun w5 => Ev (d + 1 + 4) mR_sum 21 [vR 64, vI w5] [] τ4 Q))))) := if_pos rfl
  refine bR_sum_in (d := d + 1) ?_
  rw [← eT]
  unfold smK at h0 h1
  refine atomTerm hB d hp hX (Or.inl rfl) hat hrun a0 a1 hlen h (fun w e τ f g => ?_) (fun b1 t1 e τ f g => ?_)
  · rw [e] at h0
    exact h0 w rfl τ f g
  · rw [e] at h0 h1
    have q1' := q1 b1 t1 e
    have len4 : (((M ++ t1).length : Nat) : Int) = (M.length : Int) + (t1.length : Int) := by rw [List.length_append]; push_cast; rfl
    refine sumLR hB d hp hX hat hrun 241 b1 0 _ τ (by omega) (Or.inl rfl) (by omega) (by omega) (by rw [len4, if_pos rfl]; omega) g (fun w e2 τ5 f5 g5 => ?_) (fun a2 t2 e2 τ5 f5 g5 => ?_)
    · refine h0 w ?_ τ5 (f.tr f5) g5
      show bnR (smL B N at' 241 b1 0) _ = _
      rw [e2]; rfl
    · refine h1 a2 (t1 ++ t2) ?_ τ5 (f.tr f5) ?_
      · show bnR (smL B N at' 241 b1 0) _ = _
        rw [e2]; rfl
      · rw [List.append_assoc] at g5; exact g5
