/-! ===== WHOLE AND JOY, both sides ===== -/
def Held (σ : Mem) (o : Option (List Cla)) : Prop := match o with
  | none => σ 20 5 = -1 ∧ σ 64 42 = -1
  | some cs => ∃ n, (0 ≤ n ∧ n < 4) ∧ σ 20 5 = n ∧ σ 64 42 = n ∧ (n < σ 20 4 ∧ σ 20 4 ≤ 4) ∧ (∀ c ∈ cs, okCl c) ∧ TextC σ n cs ∧ TextM σ n cs
theorem Inv.heldO {σ : Mem} (h : Inv σ) : ∃ o, Held σ o := by
  obtain ⟨⟨t1, t2, t3⟩, ⟨t4, t5, t6⟩, t7⟩ := h.2.2.2.1
  by_cases e : σ 64 42 = -1
  · exact ⟨none, by rw [t4]; exact e, e⟩
  · obtain ⟨cs, h1, h2, h3⟩ := t7 (σ 64 42) (by omega) t6
    exact ⟨some cs, σ 64 42, (by omega), t4, rfl, (by omega), h1, h2, h3⟩
theorem Held.cg {σ τ : Mem} {o : Option (List Cla)} (h : Held σ o) (h1 : τ 20 = σ 20) (h2 : τ 64 42 = σ 64 42) (h3 : τ 21 = σ 21 ∧ τ 27 = σ 27) (h4 : τ 66 = σ 66 ∧ τ 67 = σ 67 ∧ τ 69 = σ 69 ∧ τ 70 = σ 70 ∧ τ 71 = σ 71 ∧ τ 72 = σ 72) : Held τ o := by
  obtain ⟨a1, a2⟩ := h3
  obtain ⟨b1, b2, b3, b4, b5, b6⟩ := h4
  match o, h with
  | none, h => unfold Held; rw [h1, h2]; exact h
  | some cs, h => unfold Held TextC TextM; rw [h1, h2, a1, a2, b1, b2, b3, b4, b5, b6]; exact h
theorem Held.sm {σ τ : Mem} {o : Option (List Cla)} {S : List Nat} {J : List Int} (h : Held σ o) (hs : Sm σ τ S J) (d : ∀ a ∈ ([20, 21, 27, 66, 67, 69, 70, 71, 72] : List Nat), S.contains a = false) (e : J.contains 42 = false) : Held τ o :=
  h.cg (hs.1 20 (d 20 (by decide))) (hs.2 42 e) ⟨hs.1 21 (d 21 (by decide)), hs.1 27 (d 27 (by decide))⟩ ⟨hs.1 66 (d 66 (by decide)), hs.1 67 (d 67 (by decide)), hs.1 69 (d 69 (by decide)), hs.1 70 (d 70 (by decide)), hs.1 71 (d 71 (by decide)), hs.1 72 (d 72 (by decide))⟩
def ltr (v r d g m l h : Int) : Int → Int := fun j => if j = 0 then v else if j = 1 then r else if j = 2 then d else if j = 3 then g else if j = 4 then m else if j = 5 then l else h
def whF (o : Option (List Cla)) (f : Int → Int) : Int := match o with
  | none => max 0 (min 999 ((f 0 + f 1 * f 2) * (1 + f 5)))
  | some cs => max 0 (min 999 (wth f cs))
theorem whF_r (o : Option (List Cla)) (f : Int → Int) : 0 ≤ whF o f ∧ whF o f ≤ 999 := by
  unfold whF; split <;> omega
/-- numbers that letters may have -/
def LtB (d g m h : Int) : Prop := (0 ≤ d ∧ d ≤ 5000) ∧ (0 ≤ g ∧ g ≤ 99) ∧ (0 ≤ m ∧ m ≤ 1000) ∧ (0 ≤ h ∧ h ≤ 8)
theorem ltr_r {v r d g m l h : Int} (hv : 0 ≤ v ∧ v ≤ 99) (hr : 0 ≤ r ∧ r ≤ 9) (hl : l = 0 ∨ l = 1) (hb : LtB d g m h) : ∀ j, 0 ≤ j → j < 7 → -1000000 ≤ ltr v r d g m l h j ∧ ltr v r d g m l h j ≤ 1000000 := by
  intro j j0 j1
  obtain ⟨b1, b2, b3, b4⟩ := hb
  unfold ltr
  repeat' split
  all_goals omega
theorem wth_r {lt : Int → Int} (hl : ∀ j, 0 ≤ j → j < 7 → -1000000 ≤ lt j ∧ lt j ≤ 1000000) : ∀ (cs : List Cla), (∀ c ∈ cs, okCl c) → -1000000 ≤ wth lt cs ∧ wth lt cs ≤ 1000000
  | [], _ => by show (-1000000 : Int) ≤ 0 ∧ (0 : Int) ≤ 1000000; decide
  | (none, s) :: r, h => by
    have h1 : chkL [] s = some [false] := (h _ List.mem_cons_self).1
    obtain ⟨v, hv, hr, -⟩ := (TyS.evL' hl (ty := []) (s := []) (l := s) trivial h1).one
    show -1000000 ≤ (evL lt [] s).headD 0 ∧ (evL lt [] s).headD 0 ≤ 1000000
    rw [hv]; exact hr
  | (some t, s) :: r, h => by
    have h1 : chkL [] s = some [false] := (h _ List.mem_cons_self).1
    obtain ⟨v, hv, hr, -⟩ := (TyS.evL' hl (ty := []) (s := []) (l := s) trivial h1).one
    have ih := wth_r hl r (fun c hc => h c (List.mem_cons_of_mem _ hc))
    show -1000000 ≤ (if (evL lt [] t).headD 0 ≠ 0 then (evL lt [] s).headD 0 else wth lt r) ∧ (if (evL lt [] t).headD 0 ≠ 0 then (evL lt [] s).headD 0 else wth lt r) ≤ 1000000
    split
    · rw [hv]; exact hr
    · exact ih
theorem mul_b {a b A B : Int} (ha : 0 ≤ a ∧ a ≤ A) (hb : 0 ≤ b ∧ b ≤ B) : 0 ≤ a * b ∧ a * b ≤ A * B := ⟨Int.mul_nonneg ha.1 hb.1, Int.mul_le_mul ha.2 hb.2 hb.1 (Int.le_trans ha.1 ha.2)⟩
/-- what the class's market tells -/
theorem toldX {σ : Mem} (hM : MarkI σ) (d : Nat) {x : Int} (hx : 0 ≤ x ∧ x < σ 64 37) {Q : RV → Mem → Prop} (h : Q (rI (σ 82 x)) σ) : Cl (d + 1) mMk_told [aR 14, aI 0, aI x, aI 0] σ Q := by
  obtain ⟨⟨m1, m2, m3, m4⟩, ⟨n1, n2, n3, n4⟩, -, m5, -⟩ := hM
  obtain ⟨k1, k2, k3, k4⟩ := m5 x hx.1 hx.2
  have c0 : cst 8 0 = 2 := by decide
  refine bMk_told_r14_in ⟨⟨by omega, by omega⟩, fun q => absurd q (by omega), fun _ => ⟨by decide, by decide, by rw [m1]; exact ⟨by omega, by omega⟩, fun q => absurd q (by omega), fun _ => ⟨by decide, fun q => absurd q (by decide), fun _ => ⟨by decide, fun _ => ⟨(by omega), (by omega), ?_⟩, fun q => absurd q (by decide)⟩⟩⟩⟩
  rw [show (0 * 30 + x * 3 + 0 : Int) = 3 * x by omega, k1]; exact h
theorem toldR {σ : Mem} (hM : MarkI σ) (d : Nat) {x : Int} (hx : 0 ≤ x ∧ x < σ 64 37) {Q : RV → Mem → Prop} (h : Q (rI (σ 83 x)) σ) : Cl (d + 1) mMk_told [aR 14, aI 0, aI x, aI 1] σ Q := by
  obtain ⟨⟨m1, m2, m3, m4⟩, ⟨n1, n2, n3, n4⟩, -, m5, -⟩ := hM
  obtain ⟨k1, k2, k3, k4⟩ := m5 x hx.1 hx.2
  refine bMk_told_r14_in ⟨⟨by omega, by omega⟩, fun q => absurd q (by omega), fun _ => ⟨by decide, by decide, by rw [m1]; exact ⟨by omega, by omega⟩, fun q => absurd q (by omega), fun _ => ⟨by decide, fun q => absurd q (by decide), fun _ => ⟨by decide, fun _ => ⟨(by omega), (by omega), ?_⟩, fun q => absurd q (by decide)⟩⟩⟩⟩
  rw [show (0 * 30 + x * 3 + 1 : Int) = 3 * x + 1 by omega, k2]; exact h
theorem toldL {σ : Mem} (hM : MarkI σ) (d : Nat) {p : Int} (hp : 0 ≤ p ∧ p < σ 64 38) {Q : RV → Mem → Prop} (h : ∀ w, rg w → (∀ x, 0 ≤ x → x < σ 64 37 → (w = x ↔ σ 84 p = x)) → Q (rI w) σ) : Cl (d + 1) mMk_told [aR 14, aI 1, aI p, aI 2] σ Q := by
  obtain ⟨⟨m1, m2, m3, m4⟩, ⟨n1, n2, n3, n4⟩, -, -, m5, -⟩ := hM
  have k := m5 p hp.1 hp.2
  refine bMk_told_r14_in ⟨⟨by omega, by omega⟩, fun q => absurd q (by omega), fun _ => ⟨by decide, by decide, by rw [m2]; exact ⟨by omega, by omega⟩, fun q => absurd q (by omega), fun _ => ⟨by decide, fun q => absurd q (by decide), fun _ => ⟨by decide, fun _ => ⟨(by omega), (by omega), ?_⟩, fun q => absurd q (by decide)⟩⟩⟩⟩
  rw [show (1 * 30 + p * 3 + 2 : Int) = 30 + 3 * p + 2 by omega]
  exact h _ (by rcases k with k | k <;> exact ⟨by omega, by omega⟩) (fun x x0 x1 => by rcases k with k | k <;> omega)
theorem MarkI.sm' {σ τ : Mem} {S : List Nat} (h : MarkI σ) (hs : Sm σ τ S []) (d : ∀ a ∈ ([64, 15, 16, 82, 83, 84, 85, 86, 87, 88, 89] : List Nat), S.contains a = false) : MarkI τ := h.sm hs (fun a ha => d a (List.mem_cons_of_mem _ ha)) (fun _ _ => rfl)
theorem weighE {σ : Mem} {o : Option (List Cla)} (hM : MarkI σ) (hH : Held σ o) (d : Nat) {p x D G M h : Int} (hp : 0 ≤ p ∧ p < σ 64 38) (hx : 0 ≤ x ∧ x < σ 64 37) (hl : σ 45 2 = D ∧ σ 45 3 = G ∧ σ 45 4 = M ∧ σ 45 6 = h) (hb : LtB D G M h) {Q : RV → Mem → Prop}
    (hQ : ∀ τ, Sm σ τ [28, 45] [] → (τ 45 2 = D ∧ τ 45 3 = G ∧ τ 45 4 = M ∧ τ 45 6 = h) → Q (rI (whF o (ltr (σ 82 x) (σ 83 x) D G M (if σ 84 p = x then 1 else 0) h))) τ) : Cl (d + 4) mEy_weigh [aR 44, aI p, aI x] σ Q := by
  obtain ⟨l2, l3, l4, l6⟩ := hl
  have s1 : Sm σ (ups σ 45 0 (σ 82 x)) [28, 45] [] := Sm.refl.ups rfl (Or.inl (by decide))
  have s2 : Sm σ (ups (ups σ 45 0 (σ 82 x)) 45 1 (σ 83 x)) [28, 45] [] := s1.ups rfl (Or.inl (by decide))
  have hx1 : ∀ τ, Sm σ τ [28, 45] [] → 0 ≤ x ∧ x < τ 64 37 := fun τ s => by rw [s.1 64 rfl]; exact hx
  have hp1 : ∀ τ, Sm σ τ [28, 45] [] → 0 ≤ p ∧ p < τ 64 38 := fun τ s => by rw [s.1 64 rfl]; exact hp
  have mv := hM.2.2.2.1 x hx.1 hx.2
  have nT := hM.2.1.1
  refine bEy_weigh_in (toldX hM (d + 2) hx (toldR (hM.sm' s1 (by decide)) (d + 2) (hx1 _ s1) ?_))
  rw [s1.1 83 rfl]
  refine toldL (hM.sm' s2 (by decide)) (d + 2) (hp1 _ s2) (fun w hw hwx => ?_)
  rw [s2.1 64 rfl, s2.1 84 rfl] at hwx
  -- what is worked out behind
  have fin : ∀ l : Int, (l = 0 ∨ l = 1) → l = (if σ 84 p = x then 1 else 0) → Ev (d + 4) mEy_weigh 56 [vR 44, vI p, vI x, vU] [aI l, aI 5, aR 45] (ups (ups σ 45 0 (σ 82 x)) 45 1 (σ 83 x)) Q := by
    intro l hl01 hle
    have s3 : Sm σ (ups (ups (ups σ 45 0 (σ 82 x)) 45 1 (σ 83 x)) 45 5 l) [28, 45] [] := s2.ups rfl (Or.inl (by decide))
    have e : ∀ j, 0 ≤ j → j < 7 → (ups (ups (ups σ 45 0 (σ 82 x)) 45 1 (σ 83 x)) 45 5 l) 45 j = ltr (σ 82 x) (σ 83 x) D G M l h j := by
      intro j j0 j1
      have w : j = 0 ∨ j = 1 ∨ j = 2 ∨ j = 3 ∨ j = 4 ∨ j = 5 ∨ j = 6 := by omega
      rcases w with rfl | rfl | rfl | rfl | rfl | rfl | rfl
      · rw [ups_fn (by decide), ups_fn (by decide), ups_hit]; rfl
      · rw [ups_fn (by decide), ups_hit]; rfl
      · rw [ups_fn (by decide), ups_fn (by decide), ups_fn (by decide)]; exact l2
      · rw [ups_fn (by decide), ups_fn (by decide), ups_fn (by decide)]; exact l3
      · rw [ups_fn (by decide), ups_fn (by decide), ups_fn (by decide)]; exact l4
      · rw [ups_hit]; rfl
      · rw [ups_fn (by decide), ups_fn (by decide), ups_fn (by decide)]; exact l6
    have hlr := ltr_r (h := h) mv.2.2.1 mv.2.2.2 hl01 hb
    have hQ' : ∀ τ, Sm σ τ [28, 45] [] → (τ 45 2 = D ∧ τ 45 3 = G ∧ τ 45 4 = M ∧ τ 45 6 = h) → Q (rI (whF o (ltr (σ 82 x) (σ 83 x) D G M l h))) τ := by rw [hle]; exact hQ
    have u2 := e 2 (by decide) (by decide)
    have u3 := e 3 (by decide) (by decide)
    have u4 := e 4 (by decide) (by decide)
    have u6 := e 6 (by decide) (by decide)
    have u0 := e 0 (by decide) (by decide)
    have u1 := e 1 (by decide) (by decide)
    have u5 := e 5 (by decide) (by decide)
    have s20 := s2.1 20 rfl
    match o, hH, hQ' with
    | none, hH, hQ' =>
      refine bEy_weigh_56 ⟨by decide, by decide, by rw [s20, hH.1]; decide, fun _ => ?_, fun q => absurd (by rw [s20]; exact hH.1) q⟩
      rw [u0, u1, u2, u5]
      have e2 : ltr (σ 82 x) (σ 83 x) D G M l h 0 = σ 82 x := rfl
      have e3 : ltr (σ 82 x) (σ 83 x) D G M l h 1 = σ 83 x := rfl
      have e4 : ltr (σ 82 x) (σ 83 x) D G M l h 2 = D := rfl
      have e5 : ltr (σ 82 x) (σ 83 x) D G M l h 5 = l := rfl
      have b1 := mul_b (a := σ 83 x) (b := D) mv.2.2.2 hb.1
      have b2 := mul_b (a := σ 82 x + σ 83 x * D) (b := 1 + l) (A := 100000) (B := 2) (by omega) (by omega)
      have hv := hQ' _ s3 ⟨u2, u3, u4, u6⟩
      unfold whF at hv
      rw [e2, e3, e4, e5] at hv ⊢
      exact ⟨⟨by omega, by omega⟩, ⟨by omega, by omega⟩, hv⟩
    | some cs, hH, hQ' =>
      obtain ⟨n, a1, a2, a3, a4, a5, a6, a7⟩ := hH
      refine bEy_weigh_56 ⟨by decide, by decide, by rw [s20, a2]; exact ⟨by omega, by omega⟩, fun q => absurd q (by rw [s20, a2]; omega), fun _ => ?_⟩
      have hT : TextC (ups (ups (ups σ 45 0 (σ 82 x)) 45 1 (σ 83 x)) 45 5 l) n cs := by unfold TextC; rw [s3.1 27 rfl, s3.1 21 rfl]; exact a6
      refine worthC (lt := ltr (σ 82 x) (σ 83 x) D G M l h) hlr a1 (by rw [s3.1 20 rfl]; exact a2) (by rw [s3.1 20 rfl]; exact a4) a5 hT e d (fun τ' sm => ?_)
      have hr := wth_r hlr cs a5
      refine ⟨⟨by omega, by omega⟩, ⟨by omega, by omega⟩, hQ' τ' (s3.trans (sm.mono (by decide) (by decide))) ?_⟩
      rw [sm.1 45 rfl]; exact ⟨u2, u3, u4, u6⟩
  refine ⟨hw, ⟨by omega, by omega⟩, fun q => fin 0 (Or.inl rfl) ?_, fun q => fin 1 (Or.inr rfl) ?_⟩
  · rw [if_neg (fun z => q ((hwx x hx.1 hx.2).mpr z))]
  · rw [if_pos ((hwx x hx.1 hx.2).mp q)]
/-- the eye looks at one so many days on, with what it had and so many more -/
theorem look37 {σ : Mem} {o : Option (List Cla)} (hM : MarkI σ) (hH : Held σ o) (d : Nat) {p k j D G M h0 : Int} (hp : 0 ≤ p ∧ p < σ 64 38) (hk : 0 ≤ k ∧ k ≤ 100) (hj : 0 ≤ j ∧ j ≤ 8) (hD : σ 38 0 + k = D) (hG : min 99 (σ 38 (3 + p * 4 + 1) + k) = G) (hG2 : 0 ≤ σ 38 (3 + p * 4 + 1) ∧ σ 38 (3 + p * 4 + 1) ≤ 99) (hMo : σ 38 (3 + p * 4 + 0) = M) (hh : bcF (σ 38 (3 + p * 4 + 3)) = h0) (hb : LtB D G M h0) (hT : h0 ≤ σ 64 37) {Q : RV → Mem → Prop}
    (hQ : ∀ τ, Sm σ τ [28, 45, 46] [] → (∀ h x, h0 ≤ h → h ≤ min (σ 64 37) (h0 + j) → 0 ≤ x → x < σ 64 37 → τ 46 (h * 8 + x) = whF o (ltr (σ 82 x) (σ 83 x) D G M (if σ 84 p = x then 1 else 0) h)) → Q rV τ) : Cl (d + 5) mEy_look [aR 44, aR 37, aI p, aI k, aI j] σ Q := by
  have nT := hM.2.1.1
  have nP := hM.2.1.2.1
  have m1 := hM.1.1
  have b0 : 0 ≤ h0 := hb.2.2.2.1
  have eD : (ups (ups (ups σ 45 2 (σ 38 0 + k)) 45 3 (min 99 (σ 38 (3 + p * 4 + 1) + k))) 45 4 (σ 38 (3 + p * 4 + 0))) 45 2 = D := by rw [ups_fn (by decide), ups_fn (by decide), ups_hit]; exact hD
  have eG : (ups (ups (ups σ 45 2 (σ 38 0 + k)) 45 3 (min 99 (σ 38 (3 + p * 4 + 1) + k))) 45 4 (σ 38 (3 + p * 4 + 0))) 45 3 = G := by rw [ups_fn (by decide), ups_hit]; exact hG
  have eM : (ups (ups (ups σ 45 2 (σ 38 0 + k)) 45 3 (min 99 (σ 38 (3 + p * 4 + 1) + k))) 45 4 (σ 38 (3 + p * 4 + 0))) 45 4 = M := by rw [ups_hit]; exact hMo
  have s0 : Sm σ (ups (ups (ups σ 45 2 (σ 38 0 + k)) 45 3 (min 99 (σ 38 (3 + p * 4 + 1) + k))) 45 4 (σ 38 (3 + p * 4 + 0))) [28, 45, 46] [] := ((Sm.refl.ups rfl (Or.inl (by decide))).ups rfl (Or.inl (by decide))).ups rfl (Or.inl (by decide))
  refine bEy_look_r44_r37_in ⟨(by omega), (by omega), ⟨by omega, by omega⟩, (by omega), (by omega), (by omega), (by omega), ⟨by omega, by omega⟩, by rw [hh]; exact ⟨by omega, by omega⟩, ?_⟩
  generalize hσ1 : (ups (ups (ups σ 45 2 (σ 38 0 + k)) 45 3 (min 99 (σ 38 (3 + p * 4 + 1) + k))) 45 4 (σ 38 (3 + p * 4 + 0))) = σ1 at *
  rw [hh, m1]
  -- rows up to h are there
  refine loop_up (G := fun h => ∀ τ u8, Sm σ τ [28, 45, 46] [] → (τ 45 2 = D ∧ τ 45 3 = G ∧ τ 45 4 = M) → (∀ h' x, h0 ≤ h' → h' < h → 0 ≤ x → x < σ 64 37 → τ 46 (h' * 8 + x) = whF o (ltr (σ 82 x) (σ 83 x) D G M (if σ 84 p = x then 1 else 0) h')) → Ev (d + 5) mEy_look 72 [vR 44, vR 37, vI p, vI k, vI j, vI h0, vI (min (σ 64 37) (h0 + j)), vI h, u8] [] τ Q) (hi := min (σ 64 37) (h0 + j) + 1) _ h0 rfl (by omega) (fun h hh0 hh1 g => ?_) ?_ σ1 _ s0 ⟨eD, eG, eM⟩ (fun h' x a b => absurd b (by omega))
  · intro τ u8 sm hl ht
    refine bEy_look_r44_r37_72 ⟨⟨by omega, by omega⟩, ⟨by omega, by omega⟩, fun q => absurd q (by omega), fun _ => ?_⟩
    have sm1 : Sm σ (ups τ 45 6 h) [28, 45, 46] [] := sm.ups rfl (Or.inl (by decide))
    refine loop_up (G := fun x => ∀ τ', Sm σ τ' [28, 45, 46] [] → (τ' 45 2 = D ∧ τ' 45 3 = G ∧ τ' 45 4 = M ∧ τ' 45 6 = h) → (∀ h' y, h0 ≤ h' → (h' < h ∧ y < σ 64 37) ∨ (h' = h ∧ y < x) → 0 ≤ y → τ' 46 (h' * 8 + y) = whF o (ltr (σ 82 y) (σ 83 y) D G M (if σ 84 p = y then 1 else 0) h')) → Ev (d + 5) mEy_look 91 [vR 44, vR 37, vI p, vI k, vI j, vI h0, vI (min (σ 64 37) (h0 + j)), vI h, vI x] [] τ' Q) (hi := σ 64 37) _ 0 rfl nT.1 (fun x x0 x1 g2 => ?_) ?_ (ups τ 45 6 h) sm1 ?_ ?_
    · intro τ' s' hl' ht'
      have e15 : τ' 15 0 = σ 64 37 := by rw [s'.1 15 rfl]; exact m1
      refine bEy_look_r44_r37_91 ⟨⟨by omega, by omega⟩, by rw [e15]; exact ⟨by omega, by omega⟩, fun q => absurd q (by rw [e15]; omega), fun _ => ?_⟩
      refine weighE (hM.sm' s' (by decide)) (hH.sm s' (by decide) rfl) d (by rw [s'.1 64 rfl]; exact hp) (by rw [s'.1 64 rfl]; exact ⟨x0, x1⟩) hl' (by obtain ⟨b1, b2, b3, b4⟩ := hb; exact ⟨b1, b2, b3, (by omega)⟩) (fun τ2 s2 hl2 => ⟨(by omega), (by omega), g2 _ ?_ ?_ (fun h' y a b c => ?_)⟩)
      · exact (s'.trans (s2.mono (by decide) (by decide))).ups rfl (Or.inl (by decide))
      · rw [ups_ne (by decide)]; exact hl2
      · rw [s'.1 82 rfl, s'.1 83 rfl, s'.1 84 rfl]
        by_cases e : h' = h ∧ y = x
        · rw [e.1, e.2, ups_hit]
        · rw [ups_fn (show h' * 8 + y ≠ h * 8 + x by omega), s2.1 46 rfl]
          exact ht' h' y a (by omega) c
    · intro τ' s' hl' ht'
      have e15 : τ' 15 0 = σ 64 37 := by rw [s'.1 15 rfl]; exact m1
      refine bEy_look_r44_r37_91 ⟨⟨by omega, by omega⟩, by rw [e15]; exact ⟨by omega, by omega⟩, fun _ => g τ' _ s' ⟨hl'.1, hl'.2.1, hl'.2.2.1⟩ (fun h' y a b c d => ht' h' y a (by omega) c), fun q => absurd q (by rw [e15]; omega)⟩
    · rw [ups_fn (by decide), ups_fn (by decide), ups_fn (by decide), ups_hit]; exact ⟨hl.1, hl.2.1, hl.2.2, rfl⟩
    · intro h' y a b c
      rw [ups_ne (by decide)]
      exact ht h' y a (by omega) c (by omega)
  · intro τ u8 sm hl ht
    exact bEy_look_r44_r37_72 ⟨⟨by omega, by omega⟩, ⟨by omega, by omega⟩, fun _ => hQ τ sm (fun h x a b c d => ht h x a (by omega) c d), fun q => absurd q (by omega)⟩
/-- the eye looks at one so many days on, with what it had and so many more -/
theorem look39 {σ : Mem} {o : Option (List Cla)} (hM : MarkI σ) (hH : Held σ o) (d : Nat) {p k j D G M h0 : Int} (hp : 0 ≤ p ∧ p < σ 64 38) (hk : 0 ≤ k ∧ k ≤ 100) (hj : 0 ≤ j ∧ j ≤ 8) (hD : σ 40 0 + k = D) (hG : min 99 (σ 40 (3 + p * 4 + 1) + k) = G) (hG2 : 0 ≤ σ 40 (3 + p * 4 + 1) ∧ σ 40 (3 + p * 4 + 1) ≤ 99) (hMo : σ 40 (3 + p * 4 + 0) = M) (hh : bcF (σ 40 (3 + p * 4 + 3)) = h0) (hb : LtB D G M h0) (hT : h0 ≤ σ 64 37) {Q : RV → Mem → Prop}
    (hQ : ∀ τ, Sm σ τ [28, 45, 46] [] → (∀ h x, h0 ≤ h → h ≤ min (σ 64 37) (h0 + j) → 0 ≤ x → x < σ 64 37 → τ 46 (h * 8 + x) = whF o (ltr (σ 82 x) (σ 83 x) D G M (if σ 84 p = x then 1 else 0) h)) → Q rV τ) : Cl (d + 5) mEy_look [aR 44, aR 39, aI p, aI k, aI j] σ Q := by
  have nT := hM.2.1.1
  have nP := hM.2.1.2.1
  have m1 := hM.1.1
  have b0 : 0 ≤ h0 := hb.2.2.2.1
  have eD : (ups (ups (ups σ 45 2 (σ 40 0 + k)) 45 3 (min 99 (σ 40 (3 + p * 4 + 1) + k))) 45 4 (σ 40 (3 + p * 4 + 0))) 45 2 = D := by rw [ups_fn (by decide), ups_fn (by decide), ups_hit]; exact hD
  have eG : (ups (ups (ups σ 45 2 (σ 40 0 + k)) 45 3 (min 99 (σ 40 (3 + p * 4 + 1) + k))) 45 4 (σ 40 (3 + p * 4 + 0))) 45 3 = G := by rw [ups_fn (by decide), ups_hit]; exact hG
  have eM : (ups (ups (ups σ 45 2 (σ 40 0 + k)) 45 3 (min 99 (σ 40 (3 + p * 4 + 1) + k))) 45 4 (σ 40 (3 + p * 4 + 0))) 45 4 = M := by rw [ups_hit]; exact hMo
  have s0 : Sm σ (ups (ups (ups σ 45 2 (σ 40 0 + k)) 45 3 (min 99 (σ 40 (3 + p * 4 + 1) + k))) 45 4 (σ 40 (3 + p * 4 + 0))) [28, 45, 46] [] := ((Sm.refl.ups rfl (Or.inl (by decide))).ups rfl (Or.inl (by decide))).ups rfl (Or.inl (by decide))
  refine bEy_look_r44_r39_in ⟨(by omega), (by omega), ⟨by omega, by omega⟩, (by omega), (by omega), (by omega), (by omega), ⟨by omega, by omega⟩, by rw [hh]; exact ⟨by omega, by omega⟩, ?_⟩
  generalize hσ1 : (ups (ups (ups σ 45 2 (σ 40 0 + k)) 45 3 (min 99 (σ 40 (3 + p * 4 + 1) + k))) 45 4 (σ 40 (3 + p * 4 + 0))) = σ1 at *
  rw [hh, m1]
  -- rows up to h are there
  refine loop_up (G := fun h => ∀ τ u8, Sm σ τ [28, 45, 46] [] → (τ 45 2 = D ∧ τ 45 3 = G ∧ τ 45 4 = M) → (∀ h' x, h0 ≤ h' → h' < h → 0 ≤ x → x < σ 64 37 → τ 46 (h' * 8 + x) = whF o (ltr (σ 82 x) (σ 83 x) D G M (if σ 84 p = x then 1 else 0) h')) → Ev (d + 5) mEy_look 72 [vR 44, vR 39, vI p, vI k, vI j, vI h0, vI (min (σ 64 37) (h0 + j)), vI h, u8] [] τ Q) (hi := min (σ 64 37) (h0 + j) + 1) _ h0 rfl (by omega) (fun h hh0 hh1 g => ?_) ?_ σ1 _ s0 ⟨eD, eG, eM⟩ (fun h' x a b => absurd b (by omega))
  · intro τ u8 sm hl ht
    refine bEy_look_r44_r39_72 ⟨⟨by omega, by omega⟩, ⟨by omega, by omega⟩, fun q => absurd q (by omega), fun _ => ?_⟩
    have sm1 : Sm σ (ups τ 45 6 h) [28, 45, 46] [] := sm.ups rfl (Or.inl (by decide))
    refine loop_up (G := fun x => ∀ τ', Sm σ τ' [28, 45, 46] [] → (τ' 45 2 = D ∧ τ' 45 3 = G ∧ τ' 45 4 = M ∧ τ' 45 6 = h) → (∀ h' y, h0 ≤ h' → (h' < h ∧ y < σ 64 37) ∨ (h' = h ∧ y < x) → 0 ≤ y → τ' 46 (h' * 8 + y) = whF o (ltr (σ 82 y) (σ 83 y) D G M (if σ 84 p = y then 1 else 0) h')) → Ev (d + 5) mEy_look 91 [vR 44, vR 39, vI p, vI k, vI j, vI h0, vI (min (σ 64 37) (h0 + j)), vI h, vI x] [] τ' Q) (hi := σ 64 37) _ 0 rfl nT.1 (fun x x0 x1 g2 => ?_) ?_ (ups τ 45 6 h) sm1 ?_ ?_
    · intro τ' s' hl' ht'
      have e15 : τ' 15 0 = σ 64 37 := by rw [s'.1 15 rfl]; exact m1
      refine bEy_look_r44_r39_91 ⟨⟨by omega, by omega⟩, by rw [e15]; exact ⟨by omega, by omega⟩, fun q => absurd q (by rw [e15]; omega), fun _ => ?_⟩
      refine weighE (hM.sm' s' (by decide)) (hH.sm s' (by decide) rfl) d (by rw [s'.1 64 rfl]; exact hp) (by rw [s'.1 64 rfl]; exact ⟨x0, x1⟩) hl' (by obtain ⟨b1, b2, b3, b4⟩ := hb; exact ⟨b1, b2, b3, (by omega)⟩) (fun τ2 s2 hl2 => ⟨(by omega), (by omega), g2 _ ?_ ?_ (fun h' y a b c => ?_)⟩)
      · exact (s'.trans (s2.mono (by decide) (by decide))).ups rfl (Or.inl (by decide))
      · rw [ups_ne (by decide)]; exact hl2
      · rw [s'.1 82 rfl, s'.1 83 rfl, s'.1 84 rfl]
        by_cases e : h' = h ∧ y = x
        · rw [e.1, e.2, ups_hit]
        · rw [ups_fn (show h' * 8 + y ≠ h * 8 + x by omega), s2.1 46 rfl]
          exact ht' h' y a (by omega) c
    · intro τ' s' hl' ht'
      have e15 : τ' 15 0 = σ 64 37 := by rw [s'.1 15 rfl]; exact m1
      refine bEy_look_r44_r39_91 ⟨⟨by omega, by omega⟩, by rw [e15]; exact ⟨by omega, by omega⟩, fun _ => g τ' _ s' ⟨hl'.1, hl'.2.1, hl'.2.2.1⟩ (fun h' y a b c d => ht' h' y a (by omega) c), fun q => absurd q (by rw [e15]; omega)⟩
    · rw [ups_fn (by decide), ups_fn (by decide), ups_fn (by decide), ups_hit]; exact ⟨hl.1, hl.2.1, hl.2.2, rfl⟩
    · intro h' y a b c
      rw [ups_ne (by decide)]
      exact ht h' y a (by omega) c (by omega)
  · intro τ u8 sm hl ht
    exact bEy_look_r44_r39_72 ⟨⟨by omega, by omega⟩, ⟨by omega, by omega⟩, fun _ => hQ τ sm (fun h x a b c d => ht h x a (by omega) c d), fun q => absurd q (by omega)⟩
def jV (w s : Int) : Int := Int.tdiv (w * (10 - s)) 10
theorem jV_r {w s : Int} (hw : 0 ≤ w ∧ w ≤ 999) (hs : 0 ≤ s ∧ s ≤ 10) : 0 ≤ jV w s ∧ jV w s ≤ 999 ∧ rg (w * (10 - s)) := by
  have := mul_b (a := w) (b := 10 - s) (A := 999) (B := 10) hw (by omega)
  unfold jV
  rw [Int.tdiv_eq_ediv_of_nonneg this.1]
  exact ⟨(by omega), (by omega), ⟨by omega, by omega⟩⟩
theorem delightC {σ : Mem} (hM : MarkI σ) (d : Nat) {x s w : Int} (hx : 0 ≤ x ∧ x < 8) (hs : st8 s) (hw : σ 46 (bcF s * 8 + x) = w) (hr : 0 ≤ w ∧ w ≤ 999) {Q : RV → Mem → Prop} (h : Q (rI (jV w (spv σ s x))) σ) : Cl (d + 3) mEy_delight [aR 44, aI x, aI s] σ Q := by
  have hb := bcF_r hs
  have sr := spv_r hM s x
  have jr := jV_r hr sr
  refine bEy_delight_in (spoiltC hM d ⟨by omega, by omega⟩ (by omega) ⟨(by omega), (by omega), ?_, ?_⟩)
  · rw [hw]; exact jr.2.2
  · rw [hw]; exact h
/-- the reference's whole -/
theorem wholeR {σ : Mem} {o : Option (List Cla)} (hM : MarkI σ) (hH : Held σ o) (d : Nat) {p x : Int} (hp : 0 ≤ p ∧ p < σ 64 38) (hx : 0 ≤ x ∧ x < σ 64 37) (hb : LtB (σ 81 72) (σ 81 (66 + p)) (σ 81 (60 + p)) (bcF (σ 81 (48 + p)))) {Q : RV → Mem → Prop}
    (hQ : ∀ τ, Sm σ τ [73, 74] [] → Q (rI (whF o (ltr (σ 82 x) (σ 83 x) (σ 81 72) (σ 81 (66 + p)) (σ 81 (60 + p)) (if σ 84 p = x then 1 else 0) (bcF (σ 81 (48 + p)))))) τ) : Cl (d + 6) mR_wholeOf [aR 64, aI p, aI x] σ Q := by
  have mv := hM.2.2.2.1 x hx.1 hx.2
  have ml := hM.2.2.2.2.1 p hp.1 hp.2
  have nT := hM.2.1.1
  have nP := hM.2.1.2.1
  have b1 := mul_b (a := σ 83 x) (b := σ 81 72) mv.2.2.2 hb.1
  match o, hH, hQ with
  | none, hH, hQ =>
    refine bR_wholeOf_in ⟨(by omega), (by omega), by rw [hH.2]; decide, fun q => absurd hH.2 q, fun _ => ⟨(by omega), (by omega), ⟨by omega, by omega⟩, ⟨by omega, by omega⟩, fun q => ?_, fun q => ?_⟩⟩
    · have := hQ σ Sm.refl
      rw [if_neg q] at this
      refine ⟨⟨by omega, by omega⟩, ⟨by omega, by omega⟩, ?_⟩
      have e : whF none (ltr (σ 82 x) (σ 83 x) (σ 81 72) (σ 81 (66 + p)) (σ 81 (60 + p)) 0 (bcF (σ 81 (48 + p)))) = max 0 (min 999 ((σ 82 x + σ 83 x * σ 81 72) * (1 + 0))) := rfl
      rw [e, show (σ 82 x + σ 83 x * σ 81 72) * (1 + 0) = σ 82 x + σ 83 x * σ 81 72 by omega] at this
      exact this
    · have := hQ σ Sm.refl
      rw [if_pos q] at this
      refine ⟨⟨by omega, by omega⟩, ⟨by omega, by omega⟩, ?_⟩
      have e : whF none (ltr (σ 82 x) (σ 83 x) (σ 81 72) (σ 81 (66 + p)) (σ 81 (60 + p)) 1 (bcF (σ 81 (48 + p)))) = max 0 (min 999 ((σ 82 x + σ 83 x * σ 81 72) * (1 + 1))) := rfl
      rw [e, show (σ 82 x + σ 83 x * σ 81 72) * (1 + 1) = 2 * (σ 82 x + σ 83 x * σ 81 72) by omega] at this
      exact this
  | some cs, hH, hQ =>
    obtain ⟨n, a1, a2, a3, a4, a5, a6, a7⟩ := hH
    have fin : ∀ l : Int, (l = 0 ∨ l = 1) → l = (if σ 84 p = x then 1 else 0) → Ev (d + 6) mR_wholeOf 138 [vR 64, vI p, vI x, vI (σ 82 x + σ 83 x * σ 81 72)] [aI l, aI 5, aR 73] (ups (ups (ups (ups (ups σ 73 0 (σ 82 x)) 73 1 (σ 83 x)) 73 2 (σ 81 72)) 73 3 (σ 81 (66 + p))) 73 4 (σ 81 (60 + p))) Q := by
      intro l hl01 hle
      rw [← hle] at hQ
      have s5 : Sm σ (ups (ups (ups (ups (ups σ 73 0 (σ 82 x)) 73 1 (σ 83 x)) 73 2 (σ 81 72)) 73 3 (σ 81 (66 + p))) 73 4 (σ 81 (60 + p))) [73, 74] [] := ((((Sm.refl.ups rfl (Or.inl (by decide))).ups rfl (Or.inl (by decide))).ups rfl (Or.inl (by decide))).ups rfl (Or.inl (by decide))).ups rfl (Or.inl (by decide))
      refine bR_wholeOf_138 ⟨by decide, by decide, (by omega), (by omega), ?_⟩
      rw [s5.1 64 rfl, s5.1 81 rfl, a3]
      have s7 : Sm σ (ups (ups (ups (ups (ups (ups (ups σ 73 0 (σ 82 x)) 73 1 (σ 83 x)) 73 2 (σ 81 72)) 73 3 (σ 81 (66 + p))) 73 4 (σ 81 (60 + p))) 73 5 l) 73 6 (bcF (σ 81 (48 + p)))) [73, 74] [] := (s5.ups rfl (Or.inl (by decide))).ups rfl (Or.inl (by decide))
      have hT : TextM (ups (ups (ups (ups (ups (ups (ups σ 73 0 (σ 82 x)) 73 1 (σ 83 x)) 73 2 (σ 81 72)) 73 3 (σ 81 (66 + p))) 73 4 (σ 81 (60 + p))) 73 5 l) 73 6 (bcF (σ 81 (48 + p)))) n cs := by
        unfold TextM; rw [s7.1 69 rfl, s7.1 66 rfl, s7.1 67 rfl, s7.1 70 rfl, s7.1 71 rfl, s7.1 72 rfl]; exact a7
      have hlr := ltr_r (h := bcF (σ 81 (48 + p))) mv.2.2.1 mv.2.2.2 hl01 hb
      refine worthR (lt := ltr (σ 82 x) (σ 83 x) (σ 81 72) (σ 81 (66 + p)) (σ 81 (60 + p)) l (bcF (σ 81 (48 + p)))) hlr a1 a5 hT ?_ d (fun τ' sm => ?_)
      · intro j j0 j1
        have w : j = 0 ∨ j = 1 ∨ j = 2 ∨ j = 3 ∨ j = 4 ∨ j = 5 ∨ j = 6 := by omega
        rcases w with rfl | rfl | rfl | rfl | rfl | rfl | rfl
        · rw [ups_fn (by decide), ups_fn (by decide), ups_fn (by decide), ups_fn (by decide), ups_fn (by decide), ups_fn (by decide), ups_hit]; rfl
        · rw [ups_fn (by decide), ups_fn (by decide), ups_fn (by decide), ups_fn (by decide), ups_fn (by decide), ups_hit]; rfl
        · rw [ups_fn (by decide), ups_fn (by decide), ups_fn (by decide), ups_fn (by decide), ups_hit]; rfl
        · rw [ups_fn (by decide), ups_fn (by decide), ups_fn (by decide), ups_hit]; rfl
        · rw [ups_fn (by decide), ups_fn (by decide), ups_hit]; rfl
        · rw [ups_fn (by decide), ups_hit]; rfl
        · rw [ups_hit]; rfl
      · have hr := wth_r hlr cs a5
        exact ⟨⟨by omega, by omega⟩, ⟨by omega, by omega⟩, hQ τ' (s7.trans (sm.mono (by decide) (by decide)))⟩
    refine bR_wholeOf_in ⟨(by omega), (by omega), by rw [a3]; exact ⟨by omega, by omega⟩, fun _ => ⟨(by omega), (by omega), (by omega), (by omega), (by omega), (by omega), ⟨by omega, by omega⟩, ⟨by omega, by omega⟩, fun q => fin 0 (Or.inl rfl) (by rw [if_neg q]), fun q => fin 1 (Or.inr rfl) (by rw [if_pos q])⟩, fun q => absurd (a3.symm.trans q) (by omega)⟩
/-- joy of a thing to one, by the reference's row -/
def joyM (σ : Mem) (o : Option (List Cla)) (m : Int → Int) (p x : Int) : Int := jV (whF o (ltr (σ 82 x) (σ 83 x) (m 72) (m (66 + p)) (m (60 + p)) (if σ 84 p = x then 1 else 0) (bcF (m (48 + p))))) (spv σ (m (48 + p)) x)
theorem spv_cg {σ τ : Mem} (h1 : τ 64 39 = σ 64 39) (h2 : τ 85 = σ 85 ∧ τ 86 = σ 86 ∧ τ 87 = σ 87) (s x : Int) : spv τ s x = spv σ s x := by
  obtain ⟨a, b, c⟩ := h2
  unfold spv spS; rw [h1, a, b, c]
theorem joyR {σ : Mem} {o : Option (List Cla)} (hM : MarkI σ) (hH : Held σ o) (d : Nat) {p x : Int} (hp : 0 ≤ p ∧ p < σ 64 38) (hx : 0 ≤ x ∧ x < σ 64 37) (hs : st8 (σ 81 (48 + p))) (hb : LtB (σ 81 72) (σ 81 (66 + p)) (σ 81 (60 + p)) (bcF (σ 81 (48 + p)))) {Q : RV → Mem → Prop}
    (hQ : ∀ τ, Sm σ τ [73, 74] [] → Q (rI (joyM σ o (σ 81) p x)) τ) : Cl (d + 7) mR_joyOf [aR 64, aI p, aI x] σ Q := by
  have nP := hM.2.1.2.1
  have nT := hM.2.1.1
  refine bR_joyOf_in (wholeR hM hH d hp hx hb (fun τ sm => ⟨(by omega), (by omega), ?_⟩))
  rw [sm.1 81 rfl]
  have hM2 := hM.sm' sm (by decide)
  have e := spv_cg (σ := σ) (τ := τ) (by rw [sm.1 64 rfl]) ⟨sm.1 85 rfl, sm.1 86 rfl, sm.1 87 rfl⟩ (σ 81 (48 + p)) x
  refine spoiltR hM2 (d + 4) ⟨by omega, by omega⟩ (by omega) ?_
  rw [e]
  have jr := jV_r (whF_r o (ltr (σ 82 x) (σ 83 x) (σ 81 72) (σ 81 (66 + p)) (σ 81 (60 + p)) (if σ 84 p = x then 1 else 0) (bcF (σ 81 (48 + p))))) (spv_r hM (σ 81 (48 + p)) x)
  exact ⟨jr.2.2, hQ τ sm⟩
