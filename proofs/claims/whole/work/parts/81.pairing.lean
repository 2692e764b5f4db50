/-! ===== THE MATCH; CASE pairing ===== -/
/-- the best of what is there, from the first thing on -/
def scn (f : Int → Int × Int) (g : Int → Int) (H K pl : Int) : Nat → Int × Int
  | 0 => (-1, 0)
  | n + 1 => if (bt H (Int.ofNat n) = true ∧ bt K (Int.ofNat n) = false) ∧ (scn f g H K pl n).1 < g (Int.ofNat n) + (f (ins K (Int.ofNat n))).1 then (g (Int.ofNat n) + (f (ins K (Int.ofNat n))).1, Int.ofNat n * pl + (f (ins K (Int.ofNat n))).2) else scn f g H K pl n
theorem scn_S {f : Int → Int × Int} {g : Int → Int} {H K pl i : Int} (h : 0 ≤ i) : scn f g H K pl (i + 1).toNat = if (bt H i = true ∧ bt K i = false) ∧ (scn f g H K pl i.toNat).1 < g i + (f (ins K i)).1 then (g i + (f (ins K i)).1, i * pl + (f (ins K i)).2) else scn f g H K pl i.toNat := by
  rw [show (i + 1).toNat = i.toNat + 1 by omega]
  show (if (bt H (Int.ofNat i.toNat) = true ∧ bt K (Int.ofNat i.toNat) = false) ∧ (scn f g H K pl i.toNat).1 < g (Int.ofNat i.toNat) + (f (ins K (Int.ofNat i.toNat))).1 then (g (Int.ofNat i.toNat) + (f (ins K (Int.ofNat i.toNat))).1, Int.ofNat i.toNat * pl + (f (ins K (Int.ofNat i.toNat))).2) else scn f g H K pl i.toNat) = _
  rw [show Int.ofNat i.toNat = i from Int.toNat_of_nonneg h]
/-- or none of them -/
def cmb (f : Int → Int × Int) (g : Int → Int) (H K pl : Int) (T : Nat) : Int × Int := if (scn f g H K pl T).1 < (f K).1 then ((f K).1, 8 * pl + (f K).2) else scn f g H K pl T
def bmt (G : Int → Int → Int) (H T P : Int) : Nat → Int → Int × Int
  | 0, _ => (0, 0)
  | n + 1, K => cmb (bmt G H T P n) (G (P - ((n + 1 : Nat) : Int))) H K (10 ^ n) T.toNat
theorem scn_r {f : Int → Int × Int} {g : Int → Int} {H K pl B : Int} (hf : ∀ K, (0 ≤ (f K).1 ∧ (f K).1 ≤ B) ∧ 0 ≤ (f K).2 ∧ (f K).2 < pl) (hg : ∀ t, 0 ≤ g t ∧ g t ≤ 999) : ∀ n : Nat, n ≤ 8 → (-1 ≤ (scn f g H K pl n).1 ∧ (scn f g H K pl n).1 ≤ B + 999) ∧ 0 ≤ (scn f g H K pl n).2 ∧ (scn f g H K pl n).2 < 9 * pl
  | 0, _ => by
    have := hf 0
    show (-1 ≤ (-1 : Int) ∧ (-1 : Int) ≤ B + 999) ∧ 0 ≤ (0 : Int) ∧ (0 : Int) < 9 * pl
    omega
  | n + 1, hn => by
    have ih := scn_r (H := H) (K := K) hf hg n (by omega)
    have a := hf (ins K (Int.ofNat n))
    have b := hg (Int.ofNat n)
    have c : Int.ofNat n * pl ≤ 7 * pl := Int.mul_le_mul_of_nonneg_right (by show ((n : Nat) : Int) ≤ 7; omega) (by omega)
    have e : 0 ≤ Int.ofNat n * pl := Int.mul_nonneg (Int.ofNat_nonneg n) (by omega)
    unfold scn
    split
    · refine ⟨⟨?_, ?_⟩, ?_, ?_⟩ <;> dsimp only <;> omega
    · exact ih
theorem cmb_r {f : Int → Int × Int} {g : Int → Int} {H K pl B : Int} {T : Nat} (hf : ∀ K, (0 ≤ (f K).1 ∧ (f K).1 ≤ B) ∧ 0 ≤ (f K).2 ∧ (f K).2 < pl) (hg : ∀ t, 0 ≤ g t ∧ g t ≤ 999) (hT : T ≤ 8) : (0 ≤ (cmb f g H K pl T).1 ∧ (cmb f g H K pl T).1 ≤ B + 999) ∧ 0 ≤ (cmb f g H K pl T).2 ∧ (cmb f g H K pl T).2 < pl * 10 := by
  have a := scn_r (H := H) (K := K) hf hg T hT
  have b := hf K
  unfold cmb
  split
  · refine ⟨⟨?_, ?_⟩, ?_, ?_⟩ <;> dsimp only <;> omega
  · omega
theorem bmt_r {G : Int → Int → Int} {H T P : Int} (hG : ∀ p t, 0 ≤ G p t ∧ G p t ≤ 999) (hT : T ≤ 8) : ∀ (n : Nat) (K : Int), (0 ≤ (bmt G H T P n K).1 ∧ (bmt G H T P n K).1 ≤ 999 * n) ∧ 0 ≤ (bmt G H T P n K).2 ∧ (bmt G H T P n K).2 < 10 ^ n
  | 0, K => by show ((0 : Int) ≤ 0 ∧ (0 : Int) ≤ 999 * ((0 : Nat) : Int)) ∧ (0 : Int) ≤ 0 ∧ (0 : Int) < 10 ^ 0; decide
  | n + 1, K => by
    have ih := bmt_r hG hT (H := H) (P := P) n
    have := cmb_r (H := H) (K := K) (g := G (P - ((n + 1 : Nat) : Int))) (T := T.toNat) ih (hG _) (by omega)
    rw [Int.pow_succ, show bmt G H T P (n + 1) K = cmb (bmt G H T P n) (G (P - ((n + 1 : Nat) : Int))) H K (10 ^ n) T.toNat from rfl]
    omega
/-- the class goes over the sets -/
theorem matchC {σ : Mem} (hM : MarkI σ) (d : Nat) {f : Int → Int × Int} {g : Int → Int} {H pl B : Int} (hf : ∀ K, (0 ≤ (f K).1 ∧ (f K).1 ≤ B) ∧ 0 ≤ (f K).2 ∧ (f K).2 < pl) (hg : ∀ t, 0 ≤ g t ∧ g t ≤ 999) (hB : B ≤ 10000)
    (h54 : ∀ t, 0 ≤ t → t < σ 64 37 → σ 54 t = if bt H t = true then g t else -1) (h51 : ∀ K, 0 ≤ K → K < i_shl 1 (σ 64 37) → σ 51 K = (f K).1 ∧ σ 53 K = (f K).2) {Q : RV → Mem → Prop}
    (hQ : ∀ τ, Sm σ τ [51, 53] [] → (∀ K, 0 ≤ K → K < i_shl 1 (σ 64 37) → τ 51 K = (cmb f g H K pl (σ 64 37).toNat).1 ∧ τ 53 K = (cmb f g H K pl (σ 64 37).toNat).2) → Q rV τ) : Cl (d + 2) mSe_matchPerson [aR 50, aI pl] σ Q := by
  have nT := hM.2.1.1
  have m1 := hM.1.1
  have sh := shl_T nT
  refine bSe_matchPerson_in ?_
  refine loop_up (G := fun i => ∀ τ u3 u4 u5 u6, Sm σ τ [51, 53] [] → (∀ K, 0 ≤ K → K < i → τ 51 K = (cmb f g H K pl (σ 64 37).toNat).1 ∧ τ 53 K = (cmb f g H K pl (σ 64 37).toNat).2) → (∀ K, i ≤ K → K < i_shl 1 (σ 64 37) → τ 51 K = (f K).1 ∧ τ 53 K = (f K).2) → Ev (d + 2) mSe_matchPerson 2 [vR 50, vI pl, vI i, u3, u4, u5, u6] [] τ Q) (hi := i_shl 1 (σ 64 37)) _ 0 rfl (by omega) (fun K K0 K1 k => ?_) ?_ σ vU vU vU vU Sm.refl (fun K a b => absurd b (by omega)) h51
  · intro τ u3 u4 u5 u6 sm lo up
    have e15 : τ 15 0 = σ 64 37 := by rw [sm.1 15 rfl]; exact m1
    refine bSe_matchPerson_2 ⟨⟨by omega, by omega⟩, by rw [e15]; exact ⟨by omega, by omega⟩, fun q => absurd q (by rw [e15]; omega), fun _ => ?_⟩
    have key : ∀ u6, Ev (d + 2) mSe_matchPerson 21 [vR 50, vI pl, vI K, vI (scn f g H K pl (0 : Int).toNat).1, vI (scn f g H K pl (0 : Int).toNat).2, vI 0, u6] [] τ Q := by
      refine loop_up (G := fun t => ∀ u6, Ev (d + 2) mSe_matchPerson 21 [vR 50, vI pl, vI K, vI (scn f g H K pl t.toNat).1, vI (scn f g H K pl t.toNat).2, vI t, u6] [] τ Q) (hi := σ 64 37) _ 0 rfl nT.1 (fun t t0 t1 g2 => ?_) ?_
      · intro u6
        have sr := scn_r (H := H) (K := K) hf hg t.toNat (by omega)
        have gt := hg t
        have fi := hf (ins K t)
        have e54 : τ 54 t = if bt H t = true then g t else -1 := by rw [sm.1 54 rfl]; exact h54 t t0 t1
        have il := ins_lt (m := (σ 64 37).toNat) (s := K) (t := t) (by rw [← sh.1]; exact ⟨by omega, by omega⟩) ⟨by omega, by omega⟩ (by omega)
        rw [← sh.1] at il
        have g3 := g2 (vI (ins K t))
        rw [scn_S t0] at g3
        refine bSe_matchPerson_21 ⟨⟨by omega, by omega⟩, by rw [e15]; exact ⟨by omega, by omega⟩, fun q => absurd q (by rw [e15]; omega), fun _ => ⟨by show rg (ins K t); exact ⟨by omega, by omega⟩, ⟨by omega, by omega⟩, fun q => ?_, fun q => ⟨t0, (by omega), by rw [e54]; split <;> exact ⟨by omega, by omega⟩, fun q2 => ?_, fun q2 => ⟨il.1, by show ins K t < 256; omega, ?_, ⟨by omega, by omega⟩, fun q3 => ?_, fun q3 => ?_⟩⟩⟩⟩
        · rw [if_neg (fun z => ?_)] at g3
          · exact g3
          · have b : bt (ins K t) t = true := by rw [bt_ins ⟨by omega, by omega⟩ ⟨by omega, by omega⟩ t0, decide_eq_true rfl, Bool.or_true]
            rw [show ins K t = K from q, z.1.2] at b; cases b
        · rw [e54] at q2
          rw [if_neg (fun z => ?_)] at g3
          · exact g3
          · rw [if_pos z.1.1] at q2; omega
        all_goals rw [e54] at q2
        all_goals have hH : bt H t = true := by (cases c : bt H t; (rw [c, if_neg (by decide)] at q2; exact absurd rfl q2); rfl)
        all_goals have hK : bt K t = false := by (cases c : bt K t; rfl; exact absurd (ins_in (s := K) (t := t) ⟨by omega, by omega⟩ ⟨by omega, by omega⟩ c) q)
        all_goals have big : K < ins K t := by (have a : rem (ins K t) t = K := rem_ins ⟨by omega, by omega⟩ ⟨by omega, by omega⟩ hK; have b : bt (ins K t) t = true := (by rw [bt_ins ⟨by omega, by omega⟩ ⟨by omega, by omega⟩ t0, decide_eq_true rfl, Bool.or_true]); have c := rem_in (S := ins K t) (t := t) ⟨by omega, by omega⟩ ⟨by omega, by omega⟩ b; omega)
        all_goals have e51 := up (ins K t) (by omega) il.2
        · show rg (τ 54 t + τ 51 (ins K t))
          rw [e54, if_pos hH, e51.1]; exact ⟨by omega, by omega⟩
        · have q4 : τ 54 t + τ 51 (ins K t) ≤ (scn f g H K pl t.toNat).1 := q3
          rw [e54, if_pos hH, e51.1] at q4
          rw [if_neg (fun z => by omega)] at g3
          exact g3
        · have q4 : (scn f g H K pl t.toNat).1 < τ 54 t + τ 51 (ins K t) := q3
          rw [e54, if_pos hH, e51.1] at q4
          rw [if_pos ⟨⟨hH, hK⟩, q4⟩] at g3
          show Ev (d + 2) mSe_matchPerson 21 [vR 50, vI pl, vI K, vI (τ 54 t + τ 51 (ins K t)), vI (t * pl + τ 53 (ins K t)), vI (t + 1), vI (ins K t)] [] τ Q
          rw [e54, if_pos hH, e51.1, e51.2]
          exact g3
      · intro u6
        have sr := scn_r (H := H) (K := K) hf hg (σ 64 37).toNat (by omega)
        have fK := hf K
        have eK := up K (Int.le_refl _) K1
        have next : ∀ v w u3 u4 u5 u6, v = (cmb f g H K pl (σ 64 37).toNat).1 → w = (cmb f g H K pl (σ 64 37).toNat).2 → Ev (d + 2) mSe_matchPerson 2 [vR 50, vI pl, vI (K + 1), u3, u4, u5, u6] [] (ups (ups τ 51 K v) 53 K w) Q := by
          intro v w u3 u4 u5 u6 hv hw
          refine k _ _ _ _ _ ((sm.ups rfl (Or.inl (by decide))).ups rfl (Or.inl (by decide))) (fun U u0 u1 => ?_) (fun U u0 u1 => ?_)
          · by_cases e : U = K
            · rw [e]; exact ⟨by rw [ups_ne (by decide), ups_hit]; exact hv, by rw [ups_hit]; exact hw⟩
            · rw [ups_ne (by decide), ups_fn e, ups_fn e, ups_ne (by decide)]; exact lo U u0 (by omega)
          · have e : U ≠ K := (by omega)
            rw [ups_ne (by decide), ups_fn e, ups_fn e, ups_ne (by decide)]; exact up U (by omega) u1
        refine bSe_matchPerson_21 ⟨⟨by omega, by omega⟩, by rw [e15]; exact ⟨by omega, by omega⟩, fun _ => ⟨(by omega), (by omega), by rw [eK.1]; exact ⟨by omega, by omega⟩, ⟨by omega, by omega⟩, fun q => ?_, fun q => ?_⟩, fun q => absurd q (by rw [e15]; omega)⟩
        · rw [eK.1] at q
          exact next _ _ _ _ _ _ (by unfold cmb; rw [if_neg (by omega)]) (by unfold cmb; rw [if_neg (by omega)])
        · rw [eK.1] at q
          exact next _ _ _ _ _ _ (by unfold cmb; rw [if_pos q, eK.1]) (by unfold cmb; rw [if_pos q, eK.2])
    exact key u6
  · intro τ u3 u4 u5 u6 sm lo up
    have e15 : τ 15 0 = σ 64 37 := by rw [sm.1 15 rfl]; exact m1
    exact bSe_matchPerson_2 ⟨⟨by omega, by omega⟩, by rw [e15]; exact ⟨by omega, by omega⟩, fun _ => hQ τ sm lo, fun q => absurd q (by rw [e15]; omega)⟩

theorem fill51 {σ : Mem} (d : Nat) {Q : RV → Mem → Prop} (h : ∀ τ, Sm σ τ [51] [] → (∀ K, 0 ≤ K → K < 256 → τ 51 K = 0) → Q rV τ) : Cl (d + 1) mJ_fill [aR 51, aI 0] σ Q := by
  refine bJ_fill_r51_in ?_
  refine loop_up (G := fun i => ∀ τ, Sm σ τ [51] [] → (∀ K, 0 ≤ K → K < i → τ 51 K = 0) → Ev (d + 1) mJ_fill 5 [vR 51, vI 0, vI i, vI 256] [] τ Q) (hi := 256) _ 0 rfl (by decide) (fun i i0 i1 g => ?_) ?_ σ Sm.refl (fun K a b => absurd b (by omega))
  · intro τ sm lo
    refine bJ_fill_r51_5 ⟨⟨by omega, by omega⟩, by decide, fun q => absurd q (by omega), fun _ => ⟨i0, i1, g _ (sm.ups rfl (Or.inl (by decide))) (fun K a b => ?_)⟩⟩
    by_cases e : K = i
    · rw [e, ups_hit]
    · rw [ups_fn e]; exact lo K a (by omega)
  · intro τ sm lo
    exact bJ_fill_r51_5 ⟨by decide, by decide, fun _ => h τ sm lo, fun q => absurd q (by decide)⟩
theorem fill53 {σ : Mem} (d : Nat) {Q : RV → Mem → Prop} (h : ∀ τ, Sm σ τ [53] [] → (∀ K, 0 ≤ K → K < 256 → τ 53 K = 0) → Q rV τ) : Cl (d + 1) mJ_fill [aR 53, aI 0] σ Q := by
  refine bJ_fill_r53_in ?_
  refine loop_up (G := fun i => ∀ τ, Sm σ τ [53] [] → (∀ K, 0 ≤ K → K < i → τ 53 K = 0) → Ev (d + 1) mJ_fill 5 [vR 53, vI 0, vI i, vI 256] [] τ Q) (hi := 256) _ 0 rfl (by decide) (fun i i0 i1 g => ?_) ?_ σ Sm.refl (fun K a b => absurd b (by omega))
  · intro τ sm lo
    refine bJ_fill_r53_5 ⟨⟨by omega, by omega⟩, by decide, fun q => absurd q (by omega), fun _ => ⟨i0, i1, g _ (sm.ups rfl (Or.inl (by decide))) (fun K a b => ?_)⟩⟩
    by_cases e : K = i
    · rw [e, ups_hit]
    · rw [ups_fn e]; exact lo K a (by omega)
  · intro τ sm lo
    exact bJ_fill_r53_5 ⟨by decide, by decide, fun _ => h τ sm lo, fun q => absurd q (by decide)⟩

/-- the row kept: the first with the most -/
def upk (a c : Int × Int) : Int × Int := if a.1 = -1 ∨ a.2 < c.2 then c else a
def accs (a : Int × Int) (R S : Int) (s : Int × Int) : Int × Int := if s.1 = -1 then a else upk a (R + s.2, S + s.1)
theorem acc_step {a c s : Int × Int} {R S : Int} (hR : 0 ≤ R) (hs : -1 ≤ s.1 ∧ 0 ≤ s.2) (hc : 0 ≤ c.1 ∧ 0 ≤ c.2) : upk (accs a R S s) (R + c.2, S + c.1) = accs a R S (if s.1 < c.1 then c else s) := by
  obtain ⟨a1, a2⟩ := a
  obtain ⟨c1, c2⟩ := c
  obtain ⟨s1, s2⟩ := s
  dsimp only at *
  unfold accs upk
  dsimp only
  by_cases h1 : s1 = -1
  · subst h1
    rw [if_pos rfl, if_pos (show (-1 : Int) < c1 by omega), if_neg (show ¬ c1 = -1 by omega)]
  · rw [if_neg h1]
    by_cases h2 : s1 < c1
    · rw [if_pos h2]
      dsimp only
      rw [if_neg (show ¬ c1 = -1 by omega)]
      by_cases h3 : a1 = -1 ∨ a2 < S + s1
      · rw [if_pos h3]
        dsimp only
        rw [if_pos (Or.inr (by omega)), if_pos (by omega)]
      · rw [if_neg h3]
    · rw [if_neg h2]
      dsimp only
      rw [if_neg h1]
      by_cases h3 : a1 = -1 ∨ a2 < S + s1
      · rw [if_pos h3]
        dsimp only
        rw [if_neg (by omega)]
      · rw [if_neg h3]
        dsimp only
        rw [if_neg (by omega)]
/-- may be kept -/
def AccK (a : Int × Int) : Prop := rg a.1 ∧ (a.1 ≠ -1 → rg a.2)
theorem AccK.up {a c : Int × Int} (ha : AccK a) (hc : rg c.1 ∧ rg c.2) : AccK (upk a c) := by
  unfold upk
  split
  · exact ⟨hc.1, fun _ => hc.2⟩
  · exact ha
theorem rowb {row t B : Int} (h : (row + 1) * (B * 10) ≤ 1000000) (ht : 0 ≤ t ∧ t ≤ 8) (hB : 0 ≤ B) : (10 * row + t + 1) * B ≤ 1000000 := by
  have a : (10 * row + t + 1) * B ≤ (10 * row + 10) * B := Int.mul_le_mul_of_nonneg_right (by omega) hB
  have b : (row + 1) * (B * 10) = (10 * row + 10) * B := by rw [Int.mul_comm B 10, ← Int.mul_assoc, show (row + 1) * 10 = 10 * row + 10 by omega]
  omega
theorem tryR {τ : Mem} (hI : Inv τ) {o : Option (List Cla)} (hH : Held τ o) {H : Int} : ∀ (n d : Nat) (K L row sum : Int) (ω : Mem) (Q : RV → Mem → Prop), (n : Int) ≤ τ 64 38 → st8 K → st8 L → (∀ u, 0 ≤ u → u < τ 64 37 → bt L u = (bt H u && !bt K u)) → 0 ≤ row → (row + 1) * 10 ^ n ≤ 1000000 → (0 ≤ sum ∧ sum + 999 * (n : Int) ≤ 5994) → Sm τ ω [64, 73, 74] [51, 52] → AccK (ω 64 51, ω 64 52) →
    (∀ ω', Sm τ ω' [64, 73, 74] [51, 52] → (ω' 64 51, ω' 64 52) = upk (ω 64 51, ω 64 52) (row * 10 ^ n + (bmt (fun p x => joyM τ o (τ 81) p x) H (τ 64 37) (τ 64 38) n K).2, sum + (bmt (fun p x => joyM τ o (τ 81) p x) H (τ 64 37) (τ 64 38) n K).1) → Q rV ω') → Cl (d + n + 8) mR_tryMatch [aR 64, aI (τ 64 38 - n), aI L, aI row, aI sum] ω Q := by
  have hM := hI.1.2.1
  obtain ⟨⟨m1, m2, m3, m4⟩, ⟨n1, n2, n3, n4⟩, -⟩ := hI.1.2.1
  have hV := hI.1.2.2.2
  have hG : ∀ p t, 0 ≤ joyM τ o (τ 81) p t ∧ joyM τ o (τ 81) p t ≤ 999 := fun p t => joyM_r hM o (τ 81) p t
  intro n
  induction n with
  | zero =>
    intro d K L row sum ω Q hn hK hL hb hr hr2 hs sm hA h
    have e38 : ω 64 38 = τ 64 38 := sm.2 38 rfl
    have z : row * 10 ^ 0 + (bmt (fun p x => joyM τ o (τ 81) p x) H (τ 64 37) (τ 64 38) 0 K).2 = row := by show row * 1 + 0 = row; omega
    have z2 : sum + (bmt (fun p x => joyM τ o (τ 81) p x) H (τ 64 37) (τ 64 38) 0 K).1 = sum := by show sum + 0 = sum; omega
    rw [z, z2] at h
    have r2 : row + 1 ≤ 1000000 := by have e : (row + 1) * 10 ^ 0 = row + 1 := Int.mul_one _; omega
    have fin : Q rV (ups (ups ω 64 51 row) 64 52 sum) ∨ ¬ (ω 64 51 = -1 ∨ ω 64 52 < sum) := by
      by_cases c : ω 64 51 = -1 ∨ ω 64 52 < sum
      · refine Or.inl (h _ ((sm.ups rfl (Or.inr rfl)).ups rfl (Or.inr rfl)) ?_)
        rw [ups_fn (show (51 : Int) ≠ 52 by decide), ups_hit, ups_hit]
        unfold upk
        exact (if_pos c).symm
      · exact Or.inr c
    have keep : ¬ (ω 64 51 = -1 ∨ ω 64 52 < sum) → Q rV ω := fun c => h ω sm (by unfold upk; exact (if_neg c).symm)
    refine bR_tryMatch_in ⟨⟨by omega, by omega⟩, by rw [e38]; exact ⟨by omega, by omega⟩, fun q => absurd (by rw [e38]; omega) q, fun _ => ⟨hA.1, fun q => ?_, fun q => ⟨⟨by omega, by omega⟩, hA.2 q, fun w => ?_, fun w => ?_⟩⟩⟩
    · rcases fin with f | f
      · exact f
      · exact absurd (Or.inl q) f
    · exact keep (fun z => by rcases z with z | z; exact q z; omega)
    · rcases fin with f | f
      · exact f
      · exact absurd (Or.inr w) f
  | succ n ih =>
    intro d K L row sum ω Q hn hK hL hb hr hr2 hs sm hA h
    have e38 : ω 64 38 = τ 64 38 := sm.2 38 rfl
    have e37 : ω 64 37 = τ 64 37 := sm.2 37 rfl
    have br := bmt_r (H := H) (T := τ 64 37) (P := τ 64 38) hG (by omega) n
    generalize hf : bmt (fun p x => joyM τ o (τ 81) p x) H (τ 64 37) (τ 64 38) n = f at *
    have un : bmt (fun p x => joyM τ o (τ 81) p x) H (τ 64 37) (τ 64 38) (n + 1) K = cmb f (fun x => joyM τ o (τ 81) (τ 64 38 - ((n + 1 : Nat) : Int)) x) H K (10 ^ n) (τ 64 37).toNat := by rw [← hf]; rfl
    rw [un] at h
    have hpl : (10 : Int) ^ (n + 1) = 10 ^ n * 10 := Int.pow_succ _ _
    have p10 : 0 < (10 : Int) ^ n := Int.pow_pos (by decide)
    rw [hpl] at hr2 h
    generalize (10 : Int) ^ n = B at *
    generalize hg : (fun x => joyM τ o (τ 81) (τ 64 38 - ((n + 1 : Nat) : Int)) x) = g at *
    have gr : ∀ t, 0 ≤ g t ∧ g t ≤ 999 := fun t => by rw [← hg]; exact hG _ t
    generalize hR : row * (B * 10) = R at *
    have R0 : 0 ≤ R := by rw [← hR]; exact Int.mul_nonneg hr (by omega)
    have R1 : R + B * 10 ≤ 1000000 := by have := Int.add_mul row 1 (B * 10); omega
    have rowt : ∀ t : Int, (10 * row + t) * B = R + t * B := fun t => by rw [Int.add_mul, ← hR, Int.mul_comm B 10, ← Int.mul_assoc, Int.mul_comm row 10]
    refine bR_tryMatch_in ⟨⟨by omega, by omega⟩, by rw [e38]; exact ⟨by omega, by omega⟩, fun _ => ?_, fun q => absurd q (by rw [e38]; omega)⟩
    -- one more choice
    have one : ∀ (ω1 : Mem) (t : Int) (K' L' s1 : Int) (Q1 : RV → Mem → Prop), (0 ≤ t ∧ t ≤ 8) → st8 K' → st8 L' → (∀ u, 0 ≤ u → u < τ 64 37 → bt L' u = (bt H u && !bt K' u)) → (0 ≤ s1 ∧ s1 ≤ sum + 999) → Sm τ ω1 [64, 73, 74] [51, 52] → AccK (ω1 64 51, ω1 64 52) → (∀ ω', Sm τ ω' [64, 73, 74] [51, 52] → (ω' 64 51, ω' 64 52) = upk (ω1 64 51, ω1 64 52) (R + (t * B + (f K').2), s1 + (f K').1) → Q1 rV ω') → Cl (d + n + 8) mR_tryMatch [aR 64, aI (τ 64 38 - ((n + 1 : Nat) : Int) + 1), aI L', aI (10 * row + t), aI s1] ω1 Q1 := by
      intro ω1 t K' L' s1 Q1 ht hK' hL' hb' hs1 s' hA' hq
      rw [show τ 64 38 - ((n + 1 : Nat) : Int) + 1 = τ 64 38 - (n : Int) by omega]
      refine ih d K' L' (10 * row + t) s1 ω1 Q1 (by omega) hK' hL' hb' (by omega) (rowb hr2 ht (by omega)) (by omega) s' hA' (fun ω' sω e => hq ω' sω ?_)
      rw [e, rowt t, Int.add_assoc]
    have rgc : ∀ (t K' s1 : Int), (0 ≤ t ∧ t ≤ 8) → (0 ≤ s1 ∧ s1 ≤ sum + 999) → rg (R + (t * B + (f K').2)) ∧ rg (s1 + (f K').1) := by
      intro t K' s1 ht hs1
      have a := br K'
      have b : t * B ≤ 8 * B := Int.mul_le_mul_of_nonneg_right ht.2 (by omega)
      have c : 0 ≤ t * B := Int.mul_nonneg ht.1 (by omega)
      exact ⟨⟨by omega, by omega⟩, ⟨by omega, by omega⟩⟩
    refine loop_up (G := fun t => ∀ ω', Sm τ ω' [64, 73, 74] [51, 52] → AccK (ω' 64 51, ω' 64 52) → (ω' 64 51, ω' 64 52) = accs (ω 64 51, ω 64 52) R sum (scn f g H K B t.toNat) → Ev (d + n + 1 + 8) mR_tryMatch 40 [vR 64, vI (τ 64 38 - ((n + 1 : Nat) : Int)), vI L, vI row, vI sum, vI t] [] ω' Q) (hi := τ 64 37) _ 0 rfl n1.1 (fun t t0 t1 k => ?_) ?_ ω sm hA ?_
    · intro ω' s' hA' hac
      have f37 : ω' 64 37 = τ 64 37 := s'.2 37 rfl
      have sr := scn_r (H := H) (K := K) br gr t.toNat (by omega)
      have scS := scn_S (f := f) (g := g) (H := H) (K := K) (pl := B) t0
      refine bR_tryMatch_40 ⟨⟨by omega, by omega⟩, by rw [f37]; exact ⟨by omega, by omega⟩, fun q => absurd q (by rw [f37]; omega), fun _ => ⟨fun q => ?_, fun q => ?_⟩⟩
      · have hbL := (hb_bt (s := L) (t := t) ⟨by omega, by omega⟩ ⟨by omega, by omega⟩).mp q
        have hbb := hb t t0 t1
        rw [hbL] at hbb
        have hH2 : bt H t = true := by cases c : bt H t; (rw [c] at hbb; cases hbb); rfl
        have hK2 : bt K t = false := by cases c : bt K t; rfl; (rw [c, hH2] at hbb; cases hbb)
        have hI3 : Inv ω' := hI.scrS (s'.mono (by decide) (by decide))
        have w81 : ω' 81 = τ 81 := s'.1 81 rfl
        have f38 : ω' 64 38 = τ 64 38 := s'.2 38 rfl
        obtain ⟨b1, b2, b3, b4⟩ := hV.W.ltB n1 (by decide) (p := τ 64 38 - ((n + 1 : Nat) : Int)) (by omega)
        refine joyR hI3.1.2.1 (hH.sm s' (by decide) rfl) (d + n + 1) (by rw [f38]; exact ⟨by omega, by omega⟩) (by rw [f37]; exact ⟨by omega, by omega⟩) (by rw [w81]; exact b2) (by rw [w81]; exact b1) (fun ω2 s2 => ?_)
        have ej : joyM ω' o (ω' 81) (τ 64 38 - ((n + 1 : Nat) : Int)) t = g t := by
          rw [w81, ← hg]
          exact joyM_cg (s'.2 39 rfl) ⟨s'.1 82 rfl, s'.1 83 rfl, s'.1 84 rfl, s'.1 85 rfl, s'.1 86 rfl, s'.1 87 rfl⟩
        rw [ej]
        have gt := gr t
        have s3 : Sm τ ω2 [64, 73, 74] [51, 52] := s'.trans (s2.mono (by decide) (by decide))
        have i64 : ω2 64 = ω' 64 := s2.1 64 rfl
        have il := ins_lt (m := 8) hK (t := t) ⟨by omega, by omega⟩ (by decide)
        have sl := shl_T (T := t) ⟨by omega, by omega⟩
        have rl := dif_lt (m := 8) (s := L) (t := i_shl 1 t) hL ⟨by omega, by omega⟩ (by decide)
        refine one ω2 t (ins K t) (rem L t) (sum + g t) _ ⟨by omega, by omega⟩ il rl (fun u u0 u1 => ?_) ⟨by omega, by omega⟩ s3 (by rw [i64]; exact hA') (fun ω3 s4 e => k ω3 s4 ?_ ?_)
        · rw [bt_rem hL ⟨by omega, by omega⟩ ⟨by omega, by omega⟩, bt_ins ⟨by omega, by omega⟩ ⟨by omega, by omega⟩ u0, hb u u0 u1, Bool.not_or, Bool.and_assoc]
        · rw [e, i64]; exact AccK.up hA' (rgc t _ _ ⟨by omega, by omega⟩ ⟨by omega, by omega⟩)
        · have hac2 := hac
          rw [e, i64, hac2, scS]
          have fi := br (ins K t)
          have tB : 0 ≤ t * B := Int.mul_nonneg t0 (by omega)
          have := acc_step (a := (ω 64 51, ω 64 52)) (c := (g t + (f (ins K t)).1, t * B + (f (ins K t)).2)) (s := scn f g H K B t.toNat) (R := R) (S := sum) R0 ⟨sr.1.1, sr.2.1⟩ ⟨by dsimp only; omega, by dsimp only; omega⟩
          dsimp only at this
          rw [← Int.add_assoc sum] at this
          rw [this]
          congr 1
          by_cases c : (scn f g H K B t.toNat).1 < g t + (f (ins K t)).1
          · rw [if_pos c, if_pos ⟨⟨hH2, hK2⟩, c⟩]
          · rw [if_neg c, if_neg (fun z => c z.2)]
      · refine k ω' s' hA' ?_
        rw [hac, scS, if_neg (fun z => ?_)]
        have hbb := hb t t0 t1
        rw [z.1.1, z.1.2] at hbb
        exact q ((hb_bt (s := L) (t := t) ⟨by omega, by omega⟩ ⟨by omega, by omega⟩).mpr hbb)
    · intro ω' s' hA' hac
      have f37 : ω' 64 37 = τ 64 37 := s'.2 37 rfl
      have sr := scn_r (H := H) (K := K) br gr (τ 64 37).toNat (by omega)
      refine bR_tryMatch_40 ⟨⟨by omega, by omega⟩, by rw [f37]; exact ⟨by omega, by omega⟩, fun _ => ?_, fun q => absurd q (by rw [f37]; omega)⟩
      refine one ω' 8 K L sum _ (by decide) hK hL hb ⟨by omega, by omega⟩ s' hA' (fun ω3 s4 e => h ω3 s4 ?_)
      have fK := br K
      have cr := cmb_r (H := H) (K := K) (g := g) (T := (τ 64 37).toNat) br gr (by omega)
      rw [e, hac]
      have := acc_step (a := (ω 64 51, ω 64 52)) (c := ((f K).1, 8 * B + (f K).2)) (s := scn f g H K B (τ 64 37).toNat) (R := R) (S := sum) R0 ⟨sr.1.1, sr.2.1⟩ ⟨by dsimp only; omega, by dsimp only; omega⟩
      dsimp only at this
      rw [this]
      show accs _ R sum (cmb f g H K B (τ 64 37).toNat) = _
      unfold accs
      rw [if_neg (by omega)]
    · show _ = accs _ R sum (-1, 0)
      unfold accs
      rw [if_pos rfl]
