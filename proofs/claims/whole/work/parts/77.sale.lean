/-! ===== QUESTIONS WITH WORK ASIDE; CASES joy, sale, awaits ===== -/
theorem Inv.quiet {σ τ : Mem} (h : Inv σ) (hs : Sm σ τ (81 :: scrSL) scrSJ) (he : ∀ i, 0 ≤ i → i < 355 → τ 81 i = σ 81 i) (hg : RG (τ 81)) : Inv τ := by
  have hV := h.1.2.2.2
  obtain ⟨C1, C2, C3, C4, C5, C6⟩ := h.2.1.2.2.2
  refine h.act (hs.mono (by decide) (by decide)) (by rw [hs.1 0 rfl]) (by rw [hs.1 11 rfl]) (by rw [hs.1 12 rfl]) ?_ (hV.cg he) (h.2.1.1.sm hs (by decide) (by decide)) (h.2.1.2.1.sm hs (by decide) (by decide)) ⟨?_, hg, ?_, ?_, ?_, ?_⟩
  · rw [hs.1 38 rfl]
    exact h.1.2.2.1.cg hV.n73 hV.n114 (fun _ _ _ => rfl) he
  · rw [hs.1 38 rfl]; exact C1
  · rw [hs.1 42 rfl]; exact C3
  · rw [hs.1 90 rfl]; exact C4
  · rw [hs.1 43 rfl]; exact C5
  · rw [hs.1 99 rfl]; exact C6
theorem pair_v {F R : Nat} {as : List AV} {σ : Mem} {v : Int} (hI : Inv σ) (hv : rg v)
    (hF : Cl 999 F (aR 11 :: as) σ (fun r τ => r = rI v ∧ Sm σ τ scrSL scrSJ))
    (hRf : ∀ τ, Inv τ → Sm σ τ scrSL scrSJ → Cl 999 R (aR 64 :: as) τ (fun r ω => r = rI v ∧ Sm τ ω (81 :: scrSL) scrSJ ∧ (∀ i, 0 ≤ i → i < 355 → ω 81 i = τ 81 i) ∧ RG (ω 81))) : Pair F R as σ := by
  refine Cl.mono hF (fun r τ h => ?_)
  obtain ⟨rfl, hs⟩ := h
  have hI2 := hI.scrS hs
  refine ⟨⟨hs.1 0 rfl, hs.1 1 rfl⟩, Cl.mono (hRf τ hI2 hs) (fun r ω g => ?_)⟩
  obtain ⟨rfl, gs, ge, gg⟩ := g
  exact ⟨⟨rfl, hv⟩, ⟨by rw [gs.1 0 rfl, hs.1 0 rfl], by rw [gs.1 1 rfl, hs.1 1 rfl]⟩, hI2.quiet gs ge gg⟩
theorem RowW.ltB {T P D B : Int} {m : Int → Int} (h : RowW T P D B m) (hT : 0 ≤ T ∧ T ≤ 8) (hD : D ≤ 5000) {p : Int} (hp : 0 ≤ p ∧ p < 6) : LtB (m 72) (m (66 + p)) (m (60 + p)) (bcF (m (48 + p))) ∧ st8 (m (48 + p)) ∧ bcF (m (48 + p)) ≤ T ∧ (0 ≤ m (66 + p) ∧ m (66 + p) ≤ 99) := by
  have a1 := h.1 (48 + p) (by omega) (by omega)
  have a2 := h.2.1 p hp.1 hp.2
  have a3 := p2_le hT
  have s8 : st8 (m (48 + p)) := ⟨a1, (by omega)⟩
  have b := bcF_r s8
  have c := bcF_T hT ⟨a1, a2⟩
  have d := h.m594 hp.1 hp.2
  have e := h.2.2.2.2.2.1
  have f1 := h.1 (66 + p) (by omega) (by omega)
  have f2 := h.2.2.2.2.1 p hp.1 hp.2
  exact ⟨⟨(by omega), (by omega), (by omega), b⟩, s8, c, f1, f2⟩
theorem joyM_cg {σ τ : Mem} {o : Option (List Cla)} {m : Int → Int} {p x : Int} (h1 : τ 64 39 = σ 64 39) (h2 : τ 82 = σ 82 ∧ τ 83 = σ 83 ∧ τ 84 = σ 84 ∧ τ 85 = σ 85 ∧ τ 86 = σ 86 ∧ τ 87 = σ 87) : joyM τ o m p x = joyM σ o m p x := by
  obtain ⟨a, b, c, d, e, f⟩ := h2
  unfold joyM
  rw [spv_cg h1 ⟨d, e, f⟩, a, b, c]
theorem joyM_r {σ : Mem} (hM : MarkI σ) (o : Option (List Cla)) (m : Int → Int) (p x : Int) : 0 ≤ joyM σ o m p x ∧ joyM σ o m p x ≤ 999 := by
  have := jV_r (whF_r o (ltr (σ 82 x) (σ 83 x) (m 72) (m (66 + p)) (m (60 + p)) (if σ 84 p = x then 1 else 0) (bcF (m (48 + p))))) (spv_r hM (m (48 + p)) x)
  exact ⟨this.1, this.2.1⟩
/-- the eye looks at one as it is now, and tells a joy -/
theorem joyC {σ : Mem} {o : Option (List Cla)} (hM : MarkI σ) (hH : Held σ o) {T P D B : Int} {m : Int → Int} (hS : RowS (σ 38) m) (hW : RowW T P D B m) (hT : T = σ 64 37) (hD : D ≤ 4000) (d : Nat) {p x : Int} (hp : 0 ≤ p ∧ p < σ 64 38) (hx : 0 ≤ x ∧ x < σ 64 37) {k : Int} (hk : 0 ≤ k ∧ k ≤ 100) {Q : RV → Mem → Prop}
    (hQ : ∀ τ, Sm σ τ [28, 45, 46] [] → Cl (d + 5) mEy_delight [aR 44, aI x, aI (τ 38 (3 + p * 4 + 3))] τ (fun r τ' => τ' = τ ∧ r = rI (jV (whF o (ltr (σ 82 x) (σ 83 x) (m 72 + k) (min 99 (m (66 + p) + k)) (m (60 + p)) (if σ 84 p = x then 1 else 0) (bcF (m (48 + p))))) (spv σ (m (48 + p)) x))) → Q rV τ) : Cl (d + 5) mEy_look [aR 44, aR 37, aI p, aI k, aI 0] σ Q := by
  subst hT
  have nT := hM.2.1.1
  have nP := hM.2.1.2.1
  obtain ⟨b1, b2, b3, b4⟩ := hW.ltB nT (by omega) (p := p) (by omega)
  have e0 : σ 38 0 = m 72 := hS.1.1
  have e1 : σ 38 (3 + p * 4 + 1) = m (66 + p) := Cor.eq hS (Cor.age (by omega))
  have e2 : σ 38 (3 + p * 4 + 0) = m (60 + p) := Cor.eq hS (Cor.money (by omega))
  have e3 : σ 38 (3 + p * 4 + 3) = m (48 + p) := Cor.eq hS (Cor.had (by omega))
  have f72 := hW.2.2.2.2.2.1
  refine look37 hM hH d (D := m 72 + k) (G := min 99 (m (66 + p) + k)) (M := m (60 + p)) (h0 := bcF (m (48 + p))) hp hk (by decide) (by rw [e0]) (by rw [e1]) (by rw [e1]; exact b4) e2 (by rw [e3]) ⟨(by omega), (by omega), b1.2.2.1, b1.2.2.2⟩ b3 (fun τ sm ht => hQ τ sm ?_)
  have hw := ht (bcF (m (48 + p))) x (Int.le_refl _) (by omega) hx.1 hx.2
  rw [sm.1 38 rfl, e3]
  refine delightC (hM.sm' sm (by decide)) (d + 2) (by omega) b2 hw (whF_r _ _) ⟨rfl, ?_⟩
  rw [spv_cg (by rw [sm.1 64 rfl]) ⟨sm.1 85 rfl, sm.1 86 rfl, sm.1 87 rfl⟩]
theorem c_joy : ∀ (a b c : Int) (σ : Mem), Inv σ → rg a → rg b → rg c → Pair mF_joy mR_joy [aI a, aI b, aI c] σ := by
  intro p x w σ hI ha hb hc
  have hM := hI.1.2.1
  obtain ⟨o, hH⟩ := hI.heldO
  obtain ⟨⟨m1, m2, m3, m4⟩, ⟨n1, n2, n3, n4⟩, -⟩ := hI.1.2.1
  have hR := hI.1.2.2.1
  have hV := hI.1.2.2.2
  have C2 := hI.2.1.2.2.2.2.1
  by_cases hx : (0 ≤ p ∧ p < σ 64 38) ∧ (0 ≤ x ∧ x < σ 64 37) ∧ (0 ≤ w ∧ w ≤ 2)
  · obtain ⟨x1, x2, x3⟩ := hx
    obtain ⟨b1, b2, b3, b4⟩ := hV.W.ltB n1 (by decide) (p := p) (by omega)
    have e0 : σ 38 0 = σ 81 72 := hR.S.1.1
    have e1 : σ 38 (3 + p * 4 + 1) = σ 81 (66 + p) := Cor.eq hR.S (Cor.age (by omega))
    have e2 : σ 38 (3 + p * 4 + 0) = σ 81 (60 + p) := Cor.eq hR.S (Cor.money (by omega))
    have e3 : σ 38 (3 + p * 4 + 3) = σ 81 (48 + p) := Cor.eq hR.S (Cor.had (by omega))
    have wr := whF_r o (ltr (σ 82 x) (σ 83 x) (σ 81 72) (σ 81 (66 + p)) (σ 81 (60 + p)) (if σ 84 p = x then 1 else 0) (bcF (σ 81 (48 + p))))
    have sr := spv_r hM (σ 81 (48 + p)) x
    have jr := joyM_r hM o (σ 81) p x
    have bc := bcF_r b2
    refine pair_v (v := if w = 0 then whF o (ltr (σ 82 x) (σ 83 x) (σ 81 72) (σ 81 (66 + p)) (σ 81 (60 + p)) (if σ 84 p = x then 1 else 0) (bcF (σ 81 (48 + p)))) else if w = 1 then spv σ (σ 81 (48 + p)) x else joyM σ o (σ 81) p x) hI (by split; exact ⟨by omega, by omega⟩; split; exact ⟨by omega, by omega⟩; exact ⟨by omega, by omega⟩) ?_ (fun τ hI2 hs => ?_)
    · have lk : ∀ (Q : RV → Mem → Prop), (∀ τ, Sm σ τ [28, 45, 46] [] → τ 46 (bcF (σ 81 (48 + p)) * 8 + x) = whF o (ltr (σ 82 x) (σ 83 x) (σ 81 72) (σ 81 (66 + p)) (σ 81 (60 + p)) (if σ 84 p = x then 1 else 0) (bcF (σ 81 (48 + p)))) → Q rV τ) → Cl 998 mEy_look [aR 44, aR 37, aI p, aI 0, aI 0] σ Q := fun Q hQ =>
        look37 hM hH 993 (D := σ 81 72) (G := σ 81 (66 + p)) (M := σ 81 (60 + p)) (h0 := bcF (σ 81 (48 + p))) x1 (by decide) (by decide) (by rw [e0, Int.add_zero]) (by rw [e1]; omega) (by rw [e1]; exact b4) e2 (by rw [e3]) b1 b3 (fun τ sm ht => hQ τ sm (ht _ x (Int.le_refl _) (by omega) x2.1 x2.2))
      refine bF_joy_in (d := 993) ⟨ha, hb, ⟨by omega, by omega⟩, ⟨by omega, by omega⟩, fun _ => ⟨hc, fun q => absurd q (by omega), fun _ => ⟨fun _ => ⟨(by omega), (by omega), fun n1 => lk _ (fun τ sm ht => ?_), fun w1 => ?_⟩, fun q => absurd q (by omega)⟩⟩, fun q => absurd (show 0 ≤ p ∧ p < σ 15 1 ∧ 0 ≤ x ∧ x < σ 15 0 by omega) q⟩
      · rw [e3]
        have ss : Sm σ τ scrSL scrSJ := sm.mono (by decide) (by decide)
        refine ⟨fun n0 => delightC (hM.sm' sm (by decide)) 995 (by omega) b2 ht wr ⟨?_, ss⟩, fun w0 => ⟨(by omega), (by omega), ?_, ss⟩⟩
        · rw [spv_cg (by rw [sm.1 64 rfl]) ⟨sm.1 85 rfl, sm.1 86 rfl, sm.1 87 rfl⟩, if_neg n0, if_neg n1]; rfl
        · rw [ht, if_pos w0]
      · rw [e3]
        refine spoiltC hM 996 hb (by omega) ⟨?_, Sm.refl⟩
        rw [if_neg (by omega), if_pos w1]
    · have hM2 := hI2.1.2.1
      have hH2 := hH.sm hs (by decide) rfl
      have e64 : τ 64 37 = σ 64 37 ∧ τ 64 38 = σ 64 38 := ⟨hs.2 37 rfl, hs.2 38 rfl⟩
      have e81 := hs.1 81 rfl
      have ej : joyM τ o (σ 81) p x = joyM σ o (σ 81) p x := joyM_cg (hs.2 39 rfl) ⟨hs.1 82 rfl, hs.1 83 rfl, hs.1 84 rfl, hs.1 85 rfl, hs.1 86 rfl, hs.1 87 rfl⟩
      have es : spv τ (σ 81 (48 + p)) x = spv σ (σ 81 (48 + p)) x := spv_cg (hs.2 39 rfl) ⟨hs.1 85 rfl, hs.1 86 rfl, hs.1 87 rfl⟩ _ _
      have fin : ∀ ω, Sm τ ω [73, 74] [] → Sm τ ω (81 :: scrSL) scrSJ ∧ (∀ i, 0 ≤ i → i < 355 → ω 81 i = τ 81 i) ∧ RG (ω 81) := fun ω sm => ⟨sm.mono (by decide) (by decide), fun i _ _ => by rw [sm.1 81 rfl], by rw [sm.1 81 rfl, e81]; exact C2⟩
      refine bR_joy_in (d := 991) ⟨ha, hI2.mOK, fun _ => ⟨hb, fun _ => ⟨hc, fun _ => ⟨fun n0 => ⟨fun n1 => ?_, fun w1 => ⟨(by omega), (by omega), ?_⟩⟩, fun w0 => ?_⟩, fun q => absurd x3 q⟩, fun q => absurd (by rw [e64.1]; exact x2) q⟩, fun q => absurd (by rw [e64.2]; exact x1) q⟩
      · refine joyR hM2 hH2 991 (by rw [e64.2]; exact x1) (by rw [e64.1]; exact x2) (by rw [e81]; exact b2) (by rw [e81]; exact b1) (fun ω sm => ⟨?_, fin ω sm⟩)
        rw [e81, ej, if_neg n0, if_neg n1]
      · rw [e81]
        refine spoiltR hM2 996 hb (by omega) ⟨?_, (fin τ Sm.refl).1, fun i _ _ => by rw [e81], (fin τ Sm.refl).2.2⟩
        rw [es, if_neg n0, if_pos w1]
      · refine wholeR hM2 hH2 992 (by rw [e64.2]; exact x1) (by rw [e64.1]; exact x2) (by rw [e81]; exact b1) (fun ω sm => ⟨?_, fin ω sm⟩)
        rw [e81, hs.1 82 rfl, hs.1 83 rfl, hs.1 84 rfl, if_pos w0]
  · refine pair_q (v := -1) hI (by decide) ?_ ?_
    · exact bF_joy_in (d := 993) ⟨ha, hb, ⟨by omega, by omega⟩, ⟨by omega, by omega⟩, fun h1 => ⟨hc, fun _ => ⟨rfl, rfl⟩, fun h2 => ⟨fun h3 => absurd (by omega) hx, fun _ => ⟨rfl, rfl⟩⟩⟩, fun _ => ⟨rfl, rfl⟩⟩
    · exact bR_joy_in (d := 991) ⟨ha, hI.mOK, fun h1 => ⟨hb, fun h2 => ⟨hc, fun h3 => absurd ⟨h1, h2, h3⟩ hx, fun _ => ⟨rfl, rfl⟩⟩, fun _ => ⟨rfl, rfl⟩⟩, fun _ => ⟨rfl, rfl⟩⟩
/-! the sale -/
/-- the most of others than b (0: nobody) -/
def mxo (f : Int → Int) (b : Int) : Nat → Int
  | 0 => 0
  | n + 1 => if (n : Int) ≠ b then max (mxo f b n) (f (n : Int)) else mxo f b n
theorem mxo_S {f : Int → Int} {b i : Int} (h : 0 ≤ i) : mxo f b (i + 1).toNat = if i ≠ b then max (mxo f b i.toNat) (f i) else mxo f b i.toNat := by
  rw [show (i + 1).toNat = i.toNat + 1 by omega]
  show (if ((i.toNat : Nat) : Int) ≠ b then max (mxo f b i.toNat) (f ((i.toNat : Nat) : Int)) else mxo f b i.toNat) = _
  rw [show ((i.toNat : Nat) : Int) = i from Int.toNat_of_nonneg h]
theorem mxo_r {f : Int → Int} {b : Int} (hf : ∀ i, 0 ≤ f i ∧ f i ≤ 999) : ∀ n : Nat, 0 ≤ mxo f b n ∧ mxo f b n ≤ 999
  | 0 => by show (0 : Int) ≤ 0 ∧ (0 : Int) ≤ 999; decide
  | n + 1 => by
    have := mxo_r (b := b) hf n
    have := hf (n : Int)
    unfold mxo; split <;> omega
/-- before b comes, the most of all -/
theorem mxo_all {f : Int → Int} {b : Int} (hf : ∀ i, 0 ≤ f i ∧ f i ≤ 999) : ∀ n : Nat, 1 ≤ n → (n : Int) ≤ b → mxo f b n = f (argm f (n - 1))
  | 0, h, _ => absurd h (by decide)
  | 1, _, hb => by
    unfold mxo mxo
    rw [if_pos (show ((0 : Nat) : Int) ≠ b by omega)]
    have := hf 0
    show max 0 (f ((0 : Nat) : Int)) = f 0
    show max 0 (f 0) = f 0
    omega
  | n + 2, _, hb => by
    have ih := mxo_all (b := b) hf (n + 1) (by omega) (by omega)
    rw [show n + 1 - 1 = n by omega] at ih
    unfold mxo
    rw [if_pos (show ((n + 1 : Nat) : Int) ≠ b by omega), ih, show n + 2 - 1 = n + 1 by omega]
    show max (f (argm f n)) (f ((n + 1 : Nat) : Int)) = f (if f (argm f n) < f ((n + 1 : Nat) : Int) then ((n + 1 : Nat) : Int) else argm f n)
    split <;> omega
theorem c_sale : ∀ (a b : Int) (σ : Mem), Inv σ → rg a → rg b → Pair mF_sale mR_sale [aI a, aI b] σ := by
  intro x w σ hI ha hb
  have hM := hI.1.2.1
  obtain ⟨o, hH⟩ := hI.heldO
  obtain ⟨⟨m1, m2, m3, m4⟩, ⟨n1, n2, n3, n4⟩, nn, -⟩ := hI.1.2.1
  have hR := hI.1.2.2.1
  have hV := hI.1.2.2.2
  have C2 := hI.2.1.2.2.2.2.1
  by_cases hx : (0 ≤ x ∧ x < σ 64 37) ∧ (0 ≤ w ∧ w ≤ 1)
  · obtain ⟨x1, x2⟩ := hx
    have hP1 : 0 < σ 64 38 := nn.1 (by omega)
    have fr : ∀ p, 0 ≤ joyM σ o (σ 81) p x ∧ joyM σ o (σ 81) p x ≤ 999 := fun p => joyM_r hM o (σ 81) p x
    generalize hf : (fun p => joyM σ o (σ 81) p x) = f at *
    have fe : ∀ p, joyM σ o (σ 81) p x = f p := fun p => by rw [← hf]
    have fr' : ∀ p, 0 ≤ f p ∧ f p ≤ 999 := fun p => by rw [← fe]; exact fr p
    have ar := fun n => argm_r f n
    have aS := fun (i : Int) (h : 1 ≤ i) => argm_S (f := f) h
    have bw := ar (σ 64 38 - 1).toNat
    have mr := mxo_r (b := argm f (σ 64 38 - 1).toNat) fr' (σ 64 38).toNat
    refine pair_v (v := if w = 0 then argm f (σ 64 38 - 1).toNat else mxo f (argm f (σ 64 38 - 1).toNat) (σ 64 38).toNat) hI (by split; exact ⟨by omega, by omega⟩; exact ⟨by omega, by omega⟩) ?_ (fun τ hI2 hs => ?_)
    · refine bF_sale_in (d := 993) ⟨ha, ⟨by omega, by omega⟩, fun _ => ⟨hb, fun q => absurd q (by omega), fun _ => ⟨fun _ => ?_, fun q => absurd q (by omega)⟩⟩, fun q => absurd (show 0 ≤ x ∧ x < σ 15 0 by omega) q⟩
      -- a person's joy
      have step : ∀ (p w3 w4 w5 : Int) (τ : Mem) (u7 : Option AV), 0 ≤ p → p < σ 64 38 → (-1 ≤ w4 ∧ w4 ≤ 999) → (0 ≤ w5 ∧ w5 ≤ 999) → Sm σ τ scrSL scrSJ → (∀ τ' u, Sm σ τ' scrSL scrSJ → (f p ≤ w4 → Ev 999 mF_sale 33 [vR 11, vI x, vI w, vI w3, vI w4, vI (max w5 (f p)), vI (p + 1), u] [] τ' (fun r τ => r = rI (if w = 0 then argm f (σ 64 38 - 1).toNat else mxo f (argm f (σ 64 38 - 1).toNat) (σ 64 38).toNat) ∧ Sm σ τ scrSL scrSJ)) ∧ (w4 < f p → Ev 999 mF_sale 33 [vR 11, vI x, vI w, vI p, vI (f p), vI (max w4 0), vI (p + 1), u] [] τ' (fun r τ => r = rI (if w = 0 then argm f (σ 64 38 - 1).toNat else mxo f (argm f (σ 64 38 - 1).toNat) (σ 64 38).toNat) ∧ Sm σ τ scrSL scrSJ))) → Ev 999 mF_sale 33 [vR 11, vI x, vI w, vI w3, vI w4, vI w5, vI p, u7] [] τ (fun r τ => r = rI (if w = 0 then argm f (σ 64 38 - 1).toNat else mxo f (argm f (σ 64 38 - 1).toNat) (σ 64 38).toNat) ∧ Sm σ τ scrSL scrSJ) := by
        intro p w3 w4 w5 τ u7 p0 p1 h4 h5 sm go
        have e15 : τ 15 1 = σ 64 38 := by rw [sm.1 15 rfl]; exact m2
        have e37 := sm.2 37 rfl
        have e38 := sm.2 38 rfl
        refine bF_sale_33 (d := 993) ⟨⟨by omega, by omega⟩, by rw [e15]; exact ⟨by omega, by omega⟩, fun q => absurd q (by rw [e15]; omega), fun _ => ?_⟩
        refine joyC ((hI.scrS sm).1.2.1) (hH.sm sm (by decide) rfl) (T := σ 64 37) (P := σ 64 38) (D := 999) (B := 47952) (m := σ 81) (by rw [sm.1 38 rfl]; exact hR.S) hV.W e37.symm (by decide) 993 (by rw [e38]; exact ⟨p0, p1⟩) (by rw [e37]; exact x1) (k := 0) (by decide) (fun τ1 s1 hd => ⟨(by omega), (by omega), Cl.mono hd (fun r τ2 hr => ?_)⟩)
        obtain ⟨rfl, rfl⟩ := hr
        obtain ⟨-, -, -, b4⟩ := hV.W.ltB n1 (by decide) (p := p) (by omega)
        have ev : jV (whF o (ltr (τ 82 x) (τ 83 x) (σ 81 72 + 0) (min 99 (σ 81 (66 + p) + 0)) (σ 81 (60 + p)) (if τ 84 p = x then 1 else 0) (bcF (σ 81 (48 + p))))) (spv τ (σ 81 (48 + p)) x) = f p := by
          rw [← fe p]
          unfold joyM
          rw [spv_cg (σ := σ) (τ := τ) (sm.2 39 rfl) ⟨sm.1 85 rfl, sm.1 86 rfl, sm.1 87 rfl⟩, sm.1 82 rfl, sm.1 83 rfl, sm.1 84 rfl, Int.add_zero, Int.add_zero, show min 99 (σ 81 (66 + p)) = σ 81 (66 + p) by omega]
        rw [ev]
        have fp := fr' p
        have s2 : Sm σ τ2 scrSL scrSJ := sm.trans (s1.mono (by decide) (by decide))
        exact ⟨⟨by omega, by omega⟩, ⟨by omega, by omega⟩, fun q => ⟨⟨by omega, by omega⟩, (go τ2 _ s2).1 q⟩, fun q => (go τ2 _ s2).2 q⟩
      refine step 0 (-1) (-1) 0 σ vU (by decide) hP1 (by decide) (by decide) Sm.refl (fun τ1 u1 s1 => ⟨fun q => absurd (fr' 0).1 (by omega), fun _ => ?_⟩)
      have z0 : argm f (1 - 1 : Int).toNat = 0 := rfl
      have z1 : mxo f 0 (1 : Int).toNat = 0 := rfl
      have key : ∀ τ u7, Sm σ τ scrSL scrSJ → Ev 999 mF_sale 33 [vR 11, vI x, vI w, vI (argm f (1 - 1 : Int).toNat), vI (f (argm f (1 - 1 : Int).toNat)), vI (mxo f (argm f (1 - 1 : Int).toNat) (1 : Int).toNat), vI 1, u7] [] τ (fun r τ => r = rI (if w = 0 then argm f (σ 64 38 - 1).toNat else mxo f (argm f (σ 64 38 - 1).toNat) (σ 64 38).toNat) ∧ Sm σ τ scrSL scrSJ) := by
        refine loop_up (G := fun i => ∀ τ u7, Sm σ τ scrSL scrSJ → Ev 999 mF_sale 33 [vR 11, vI x, vI w, vI (argm f (i - 1).toNat), vI (f (argm f (i - 1).toNat)), vI (mxo f (argm f (i - 1).toNat) i.toNat), vI i, u7] [] τ (fun r τ => r = rI (if w = 0 then argm f (σ 64 38 - 1).toNat else mxo f (argm f (σ 64 38 - 1).toNat) (σ 64 38).toNat) ∧ Sm σ τ scrSL scrSJ)) (hi := σ 64 38) _ 1 rfl (by omega) (fun j j0 j1 g => ?_) ?_
        · intro τ u7 sm
          have a1 := ar (j - 1).toNat
          have a2 := fr' (argm f (j - 1).toNat)
          have a3 := mxo_r (b := argm f (j - 1).toNat) fr' j.toNat
          refine step j _ _ _ τ u7 (by omega) j1 (by omega) a3 sm (fun τ' u s' => ⟨fun q => ?_, fun q => ?_⟩)
          · have g1 := g τ' u s'
            rw [aS j j0, if_neg (by omega), mxo_S (by omega), if_pos (by omega)] at g1
            exact g1
          · have g1 := g τ' u s'
            rw [aS j j0, if_pos (by omega), mxo_S (by omega), if_neg (by omega), mxo_all fr' j.toNat (by omega) (by omega), show j.toNat - 1 = (j - 1).toNat by omega] at g1
            rw [show max (f (argm f (j - 1).toNat)) 0 = f (argm f (j - 1).toNat) by omega]
            exact g1
        · intro τ u7 sm
          have e15 : τ 15 1 = σ 64 38 := by rw [sm.1 15 rfl]; exact m2
          refine bF_sale_33 (d := 993) ⟨⟨by omega, by omega⟩, by rw [e15]; exact ⟨by omega, by omega⟩, fun _ => ⟨hb, fun q => ⟨?_, sm⟩, fun q => ⟨?_, sm⟩⟩, fun q => absurd q (by rw [e15]; omega)⟩
          · rw [if_neg q]
          · rw [if_pos q]
      have := key τ1 u1 s1
      rw [z0, z1] at this
      rw [show max (-1 : Int) 0 = 0 by decide]
      exact this
    · have hM2 := hI2.1.2.1
      have hH2 := hH.sm hs (by decide) rfl
      have e64 : τ 64 37 = σ 64 37 ∧ τ 64 38 = σ 64 38 := ⟨hs.2 37 rfl, hs.2 38 rfl⟩
      have e81 := hs.1 81 rfl
      have fin : ∀ ω, Sm τ ω [73, 74] [] → Sm τ ω (81 :: scrSL) scrSJ ∧ (∀ i, 0 ≤ i → i < 355 → ω 81 i = τ 81 i) ∧ RG (ω 81) := fun ω sm => ⟨sm.mono (by decide) (by decide), fun i _ _ => by rw [sm.1 81 rfl], by rw [sm.1 81 rfl, e81]; exact C2⟩
      have jo : ∀ (ω : Mem) (p : Int) (Q : RV → Mem → Prop), Sm τ ω [73, 74] [] → 0 ≤ p → p < σ 64 38 → (∀ ω', Sm τ ω' [73, 74] [] → Q (rI (f p)) ω') → Cl 998 mR_joyOf [aR 64, aI p, aI x] ω Q := by
        intro ω p Q sm p0 p1 hQ
        obtain ⟨b1, b2, b3, b4⟩ := hV.W.ltB n1 (by decide) (p := p) (by omega)
        have w81 : ω 81 = σ 81 := by rw [sm.1 81 rfl, e81]
        refine joyR (hM2.sm' sm (by decide)) (hH2.sm sm (by decide) rfl) 991 (by rw [sm.1 64 rfl, e64.2]; exact ⟨p0, p1⟩) (by rw [sm.1 64 rfl, e64.1]; exact x1) (by rw [w81]; exact b2) (by rw [w81]; exact b1) (fun ω' s' => ?_)
        have e : joyM ω o (ω 81) p x = f p := by
          rw [w81, ← fe p]
          exact joyM_cg (by rw [sm.1 64 rfl]; exact hs.2 39 rfl) ⟨by rw [sm.1 82 rfl, hs.1 82 rfl], by rw [sm.1 83 rfl, hs.1 83 rfl], by rw [sm.1 84 rfl, hs.1 84 rfl], by rw [sm.1 85 rfl, hs.1 85 rfl], by rw [sm.1 86 rfl, hs.1 86 rfl], by rw [sm.1 87 rfl, hs.1 87 rfl]⟩
        rw [e]
        exact hQ ω' (sm.trans s')
      refine bR_sale_in (d := 991) ⟨ha, hI2.mOK, fun _ => ⟨hb, fun _ => ?_, fun q => absurd x2 q⟩, fun q => absurd (by rw [e64.1]; exact x1) q⟩
      have z0 : argm f (1 - 1 : Int).toNat = 0 := rfl
      have key : ∀ ω u5, Sm τ ω [73, 74] [] → Ev 999 mR_sale 24 [vR 64, vI x, vI w, vI (argm f (1 - 1 : Int).toNat), vI 1, u5] [] ω (fun r ω => r = rI (if w = 0 then argm f (σ 64 38 - 1).toNat else mxo f (argm f (σ 64 38 - 1).toNat) (σ 64 38).toNat) ∧ Sm τ ω (81 :: scrSL) scrSJ ∧ (∀ i, 0 ≤ i → i < 355 → ω 81 i = τ 81 i) ∧ RG (ω 81)) := by
        refine loop_up (G := fun i => ∀ ω u5, Sm τ ω [73, 74] [] → Ev 999 mR_sale 24 [vR 64, vI x, vI w, vI (argm f (i - 1).toNat), vI i, u5] [] ω (fun r ω => r = rI (if w = 0 then argm f (σ 64 38 - 1).toNat else mxo f (argm f (σ 64 38 - 1).toNat) (σ 64 38).toNat) ∧ Sm τ ω (81 :: scrSL) scrSJ ∧ (∀ i, 0 ≤ i → i < 355 → ω 81 i = τ 81 i) ∧ RG (ω 81))) (hi := σ 64 38) _ 1 rfl (by omega) (fun j j0 j1 g => ?_) ?_
        · intro ω u5 sm
          have a1 := ar (j - 1).toNat
          have a2 := fr' (argm f (j - 1).toNat)
          have a3 := fr' j
          have e38 : ω 64 38 = σ 64 38 := by rw [sm.1 64 rfl]; exact e64.2
          rw [aS j j0] at g
          refine bR_sale_24 (d := 991) ⟨⟨by omega, by omega⟩, by rw [e38]; exact ⟨by omega, by omega⟩, fun q => absurd q (by rw [e38]; omega), fun _ => jo ω j _ sm (by omega) j1 (fun ω1 s1 => jo ω1 _ _ s1 (by omega) (by omega) (fun ω2 s2 => ⟨⟨by omega, by omega⟩, ⟨by omega, by omega⟩, fun q => ?_, fun q => ?_⟩))⟩
          · rw [if_neg (by omega)] at g; exact g ω2 u5 s2
          · rw [if_pos q] at g; exact g ω2 u5 s2
        · intro ω u5 sm
          have e38 : ω 64 38 = σ 64 38 := by rw [sm.1 64 rfl]; exact e64.2
          refine bR_sale_24 (d := 991) ⟨⟨by omega, by omega⟩, by rw [e38]; exact ⟨by omega, by omega⟩, fun _ => ?_, fun q => absurd q (by rw [e38]; omega)⟩
          have z1 : mxo f (argm f (σ 64 38 - 1).toNat) (0 : Int).toNat = 0 := rfl
          have key2 : ∀ ω, Sm τ ω [73, 74] [] → Ev 999 mR_sale 68 [vR 64, vI x, vI w, vI (argm f (σ 64 38 - 1).toNat), vI (mxo f (argm f (σ 64 38 - 1).toNat) (0 : Int).toNat), vI 0] [] ω (fun r ω => r = rI (if w = 0 then argm f (σ 64 38 - 1).toNat else mxo f (argm f (σ 64 38 - 1).toNat) (σ 64 38).toNat) ∧ Sm τ ω (81 :: scrSL) scrSJ ∧ (∀ i, 0 ≤ i → i < 355 → ω 81 i = τ 81 i) ∧ RG (ω 81)) := by
            refine loop_up (G := fun i => ∀ ω, Sm τ ω [73, 74] [] → Ev 999 mR_sale 68 [vR 64, vI x, vI w, vI (argm f (σ 64 38 - 1).toNat), vI (mxo f (argm f (σ 64 38 - 1).toNat) i.toNat), vI i] [] ω (fun r ω => r = rI (if w = 0 then argm f (σ 64 38 - 1).toNat else mxo f (argm f (σ 64 38 - 1).toNat) (σ 64 38).toNat) ∧ Sm τ ω (81 :: scrSL) scrSJ ∧ (∀ i, 0 ≤ i → i < 355 → ω 81 i = τ 81 i) ∧ RG (ω 81))) (hi := σ 64 38) _ 0 rfl (by omega) (fun j j0 j1 g => ?_) ?_
            · intro ω sm
              have e38 : ω 64 38 = σ 64 38 := by rw [sm.1 64 rfl]; exact e64.2
              have a3 := mxo_r (b := argm f (σ 64 38 - 1).toNat) fr' j.toNat
              have a4 := fr' j
              rw [mxo_S j0] at g
              refine bR_sale_68 (d := 991) ⟨⟨by omega, by omega⟩, by rw [e38]; exact ⟨by omega, by omega⟩, fun q => absurd q (by rw [e38]; omega), fun _ => ⟨⟨by omega, by omega⟩, fun q => ?_, fun q => jo ω j _ sm j0 j1 (fun ω1 s1 => ⟨⟨by omega, by omega⟩, ⟨by omega, by omega⟩, ?_⟩)⟩⟩
              · rw [if_neg (fun z => z q)] at g; exact g ω sm
              · rw [if_pos q] at g; exact g ω1 s1
            · intro ω sm
              have e38 : ω 64 38 = σ 64 38 := by rw [sm.1 64 rfl]; exact e64.2
              refine bR_sale_68 (d := 991) ⟨⟨by omega, by omega⟩, by rw [e38]; exact ⟨by omega, by omega⟩, fun _ => ⟨hb, fun q => ⟨?_, fin ω sm⟩, fun q => ⟨?_, fin ω sm⟩⟩, fun q => absurd q (by rw [e38]; omega)⟩
              · rw [if_neg q]
              · rw [if_pos q]
          have := key2 ω sm
          rw [z1] at this; exact this
      have := key τ vU Sm.refl
      rw [z0] at this; exact this
  · refine pair_q (v := -1) hI (by decide) ?_ ?_
    · exact bF_sale_in (d := 993) ⟨ha, ⟨by omega, by omega⟩, fun h1 => ⟨hb, fun _ => ⟨rfl, rfl⟩, fun h2 => ⟨fun h3 => absurd (by omega) hx, fun _ => ⟨rfl, rfl⟩⟩⟩, fun _ => ⟨rfl, rfl⟩⟩
    · exact bR_sale_in (d := 991) ⟨ha, hI.mOK, fun h1 => ⟨hb, fun h2 => absurd ⟨h1, h2⟩ hx, fun _ => ⟨rfl, rfl⟩⟩, fun _ => ⟨rfl, rfl⟩⟩
