/-! ===== THE LAW'S START, walked ===== -/
theorem nbf {a b : Nat} (h : Nat.beq a b = false) : a ≠ b := by intro q; subst q; rw [Nat.beq_refl] at h; cases h
theorem m0_at {L : Nat} {X : Nat → Int32} {a : Nat} (h0 : a ≠ 0) (h1 : a ≠ 1) (i : Int) (h : ¬ ((a = 20 ∧ i = 5) ∨ (a = 64 ∧ i = 42))) : mem0 L X a i = 0 := by
  unfold mem0
  rw [if_neg h0, if_neg h1, if_neg (fun q => h (Or.inl q)), if_neg (fun q => h (Or.inr q))]
theorem m0_neg {L : Nat} {X : Nat → Int32} {a : Nat} (i : Int) (h : (a = 20 ∧ i = 5) ∨ (a = 64 ∧ i = 42)) : mem0 L X a i = -1 := by
  unfold mem0
  rcases h with ⟨rfl, rfl⟩ | ⟨rfl, rfl⟩ <;> simp
theorem CW_Rel {G : GP} {H : Heap} (h : CW G 101 kF2 H) : Rel G (mem0 (gL G) (gX G)) H := by
  refine ⟨fun a ha => ?_, h.2.2.2.1⟩
  have hc := List.all_eq_true.mp m0_chk a (List.mem_range.mpr ha)
  by_cases h11 : 11 ≤ a
  · have hw := h.2.2.1 a h11 ha
    unfold CWc at hw
    unfold CR
    split at hw
    · rename_i n w e
      rw [e] at hc ⊢
      simp only [Bool.and_eq_true, Bool.not_eq_true'] at hc
      show H[gA G a]? = _
      rw [hw]
      refine congrArg some (arrV_fn (fun j _ => ?_))
      rw [m0_at (nbf hc.1.1.2) (nbf hc.1.1.1) _ (by rintro (⟨q, -⟩ | ⟨q, -⟩); exact nbf hc.1.2 q; exact nbf hc.2 q)]
      rfl
    · rename_i n w e
      rw [e] at hc ⊢
      simp only [Bool.and_eq_true, Bool.not_eq_true'] at hc
      refine ⟨hw.1, fun j hj => ?_⟩
      rw [hw.2 j hj]
      refine congrArg some (arrV_fn (fun i _ => ?_))
      rw [m0_at (nbf hc.1.1.2) (nbf hc.1.1.1) _ (by rintro (⟨q, -⟩ | ⟨q, -⟩); exact nbf hc.1.2 q; exact nbf hc.2 q)]
      rfl
    · rename_i n w e
      rw [e] at hc ⊢
      simp only [Bool.and_eq_true, Bool.not_eq_true'] at hc
      show H[gA G a]? = _
      rw [hw]
      refine congrArg some (arrV_fn (fun j _ => ?_))
      rw [m0_at (nbf hc.1.1.2) (nbf hc.1.1.1) _ (by rintro (⟨q, -⟩ | ⟨q, -⟩); exact nbf hc.1.2 q; exact nbf hc.2 q)]
      rfl
    · rename_i c w e
      rw [e] at hc ⊢
      simp only [Bool.and_eq_true, Bool.not_eq_true', List.all_eq_true, List.mem_range] at hc
      obtain ⟨⟨hc1, hc0⟩, hcf⟩ := hc
      have hc1 := nbf hc1
      have hc0 := nbf hc0
      refine t_OB.to hw (fun k hk => ?_)
      have hk' := hcf k hk
      split at hk'
      · rename_i eg
        have hV : fval (gA G) (mem0 (gL G) (gX G)) a c.toNat k = .ref (gA G (rf a k)) := by unfold fval; rw [eg]; rfl
        rw [hV]
        split at hk'
        · rename_i b eb; rw [eb]; have := nb hk'; subst this; rfl
        · cases hk'
      · rename_i eg
        have hV : fval (gA G) (mem0 (gL G) (gX G)) a c.toNat k = .long (Int64.ofInt (mem0 (gL G) (gX G) a (Int.ofNat k))) := by unfold fval; rw [eg]; rfl
        rw [hV]
        simp only [Bool.and_eq_true, decide_eq_true_eq, beq_iff_eq] at hk'
        rw [Option.isNone_iff_eq_none.mp hk'.1.1, m0_at hc0 hc1 _ hk'.1.2]
        show dfl c.toNat k = _
        unfold dfl
        rw [hk'.2, p_J]; rfl
      · rename_i e1 e2
        have hV : fval (gA G) (mem0 (gL G) (gX G)) a c.toNat k = .int (Int32.ofInt (mem0 (gL G) (gX G) a (Int.ofNat k))) := by
          unfold fval
          split
          · rename_i q; exact absurd q e1
          · rename_i q; exact absurd q e2
          · rfl
        rw [hV]
        split at hk'
        · rename_i ek
          rw [ek]
          simp only [Bool.and_eq_true, decide_eq_true_eq, Bool.or_eq_true, beq_iff_eq] at hk'
          rw [m0_at hc0 hc1 _ hk'.1]
          show dfl c.toNat k = _
          unfold dfl
          rcases hk'.2 with q | q
          · rw [q, p_I]; rfl
          · rw [q, p_Z]; rfl
        · rename_i w' ek
          rw [ek]
          simp only [Bool.and_eq_true, decide_eq_true_eq] at hk'
          rw [m0_neg _ hk'.2, hk'.1]
          rfl
        · cases hk'
    · rename_i n0 n1 n2 n4
      split <;> first | trivial | (rename_i e; exact absurd e (by first | exact n0 _ _ | exact n1 _ _ | exact n2 _ _ | exact n4 _ _)) | (rename_i e; rw [e] at hc; have := nb hc; omega)
  · unfold CR
    split <;> rename_i e
    · have := shp_new a ha (by rw [e]; simp); omega
    · have := shp_new a ha (by rw [e]; simp); omega
    · have := shp_new a ha (by rw [e]; simp); omega
    · have := shp_scr a ha (by rw [e])
      subst this
      refine ⟨rfl, fun j hj => ?_⟩
      show Int32.ofInt (gX G j).toInt = _
      rw [Int32.ofInt_toInt]
    · have := shp_new a ha (by rw [e]; simp); omega
    · trivial
theorem ks_end {G : GP} {l : Launch} {E : Nat → List Value → Prop} {d M pc : Nat} {ls st : List AV} {nx : Nat} {F : KF} (hE : E pc (st.map (cv (gA G)))) : KSX l G E d M pc ls st nx F nx F :=
  fun p e R s m args below meth c H locs cells slots Z als hC hW hl hL hn hc hs hend => by
    have key := hend pc _ H locs hW hl hE
    rw [Nat.sub_self, Nat.sub_self, Nat.add_zero, Nat.add_zero] at key
    exact key
def lE (G : GP) (q a : Nat) : Nat → List Value → Prop := fun pc S => pc = q ∧ S = [.ref (gA G a)]
set_option maxRecDepth 100000 in
theorem pre_1 {G : GP} {l : Launch} : KSX l G (lE G 7 11) 4 mL_law 0 [] [] 11 [] 64 kF1 := by
  obtain ⟨d0, c0⟩ := ent_k (M := mL_law) (pc := 0) List.mem_cons_self rfl
  obtain ⟨d1, c1⟩ := ent_k (M := mL_law) (pc := 3) List.mem_cons_self rfl
  obtain ⟨d2, c2⟩ := ent_k (M := mL_law) (pc := 4) List.mem_cons_self rfl
  refine ks_new (x := 10) d0 (by decide +kernel) (by decide) (by decide +kernel) (by decide) (by decide) ?_
  refine ks_same (pc' := 4) (st' := [aR 11, aR 11]) ?_ (fun p e R s m args below meth c H locs cells slots Z als hC hW hL hn kk => lv_dup hC.1 hC.2.1 d1 rfl kk)
  exact ks_call (x := mF_init) (y := 1) (z := 2) (a := 11) (tl := []) (nx1 := 64) (F1 := kF1) d2 (Or.inl (by decide +kernel)) (by decide +kernel) (by decide) (by decide) (by decide +kernel) (by decide +kernel) (by decide) rfl (ctr_ok 300 3 mF_init 0 [aR 11] [] 12 [] 64 kF1 (by decide) kr1 |>.2) (by decide) (Nat.le_refl _) (ks_end ⟨rfl, rfl⟩)
set_option maxRecDepth 100000 in
theorem pre_2 {G : GP} {l : Launch} : KSX l G (lE G 15 64) 4 mL_law 8 [] [] 64 kF1 100 kF2 := by
  obtain ⟨d0, c0⟩ := ent_k (M := mL_law) (pc := 8) List.mem_cons_self rfl
  obtain ⟨d1, c1⟩ := ent_k (M := mL_law) (pc := 11) List.mem_cons_self rfl
  obtain ⟨d2, c2⟩ := ent_k (M := mL_law) (pc := 12) List.mem_cons_self rfl
  refine ks_new (x := 11) d0 (by decide +kernel) (by decide) (by decide +kernel) (by decide) (by decide) ?_
  refine ks_same (pc' := 12) (st' := [aR 64, aR 64]) ?_ (fun p e R s m args below meth c H locs cells slots Z als hC hW hL hn kk => lv_dup hC.1 hC.2.1 d1 rfl kk)
  exact ks_call (x := mR_init) (y := 1) (z := 2) (a := 64) (tl := []) (nx1 := 100) (F1 := kF2) d2 (Or.inl (by decide +kernel)) (by decide +kernel) (by decide) (by decide) (by decide +kernel) (by decide +kernel) (by decide) rfl (ctr_ok 300 3 mR_init 0 [aR 64] [] 65 kF1 100 kF2 (by decide) kr2 |>.2) (by decide) (Nat.le_refl _) (ks_end ⟨rfl, rfl⟩)
/-- the law's first locals -/
def lo0 : Lo := [vR 1, vR 11, vR 64, vR 100, vI 0, vU, vU]
set_option maxRecDepth 100000 in
theorem pre_all {G : GP} {p : Program} {l : Launch} {e : Env} {R : Room} {s : State} {m : MethodId} {args : Array Value} {below : List Frame} {meth : Method} {c : Code} {Z : State → Prop} (hC : CxK G 4 mL_law p R s m args meth c) (hb0 : gB G = s.heap.size) (hH : gH G = s.heap) (hcells : 90 ≤ R.cells) (hslots : sl 101 - sl 11 ≤ R.slots)
    (kk : ∀ (H : Heap) (locs : List Loc) (als : Array Slot), Rel G (mem0 (gL G) (gX G)) H → (∀ q ∈ locs, gB G ≤ q.base) → LR (gA G) lo0 als → W p l e R s m args below meth c H locs 90 (sl 101 - sl 11) Z (F0 m 23 als [])) : W p l e R s m args below meth c s.heap [] 0 0 Z (entryFrame m [Value.ref (gA G 1)].toArray 7) := by
  obtain ⟨hex, hbb, hml, hown, hts, hKx, hKg, hA, hin, hfr, hlo⟩ := hC
  have hW0 : CW G 11 [] s.heap := ⟨by decide, by rw [gA_at hA (Nat.le_refl _)]; omega, fun a h1 h2 => by omega, fun q _ => by rw [hH], fun a k v h => by cases h⟩
  obtain ⟨d7, -⟩ := ent_k (M := mL_law) (pc := 7) List.mem_cons_self rfl
  obtain ⟨d15, -⟩ := ent_k (M := mL_law) (pc := 15) List.mem_cons_self rfl
  obtain ⟨d16, -⟩ := ent_k (M := mL_law) (pc := 16) List.mem_cons_self rfl
  obtain ⟨d17, -⟩ := ent_k (M := mL_law) (pc := 17) List.mem_cons_self rfl
  obtain ⟨d19, -⟩ := ent_k (M := mL_law) (pc := 19) List.mem_cons_self rfl
  obtain ⟨d20, -⟩ := ent_k (M := mL_law) (pc := 20) List.mem_cons_self rfl
  obtain ⟨d21, -⟩ := ent_k (M := mL_law) (pc := 21) List.mem_cons_self rfl
  rw [lg_entry_eq]
  have hL := LR.entry (gA G) [aR 1] (n := 7) (by decide)
  have eL : entL [aR 1] 7 = [vR 1, vU, vU, vU, vU, vU, vU] := rfl
  rw [eL] at hL
  have ea : ([aR 1].map (cv (gA G))) = [Value.ref (gA G 1)] := rfl
  rw [ea] at hL
  generalize (lg_sl [Value.ref (gA G 1)] ++ List.replicate (7 - (lg_sl [Value.ref (gA G 1)]).length) Slot.unset).toArray = als at hL ⊢
  have hmt : (mtb mL_law).2.1 = 7 := by decide +kernel
  have s1 := sl_le (show 11 ≤ 64 by decide)
  have s2 := sl_le (show 64 ≤ 100 by decide)
  have s3 := sl_le (show 100 ≤ 101 by decide)
  refine pre_1 (G := G) (l := l) p e R s m args below meth c s.heap [] 0 0 Z als ⟨hex, hbb, hml, hown, hts, hKx, hKg, hA, hin, hfr, hlo⟩ hW0 (fun q h => by cases h) (fun k v h => by simp at h) (by rw [hL.1, hmt]; rfl) (by omega) (by omega) (fun pc1 S1 H1 locs1 hW1 hl1 hE1 => ?_)
  obtain ⟨rfl, rfl⟩ := hE1
  refine lv_astore_n hex hbb d7 rfl hL (by decide) rfl (fun als1 hL1 => ?_)
  have hL1 := LR.st1 (ls := [vR 1, vU, vU, vU, vU, vU, vU]) (k := 1) (v := aR 11) (by decide) hL1
  refine pre_2 (G := G) (l := l) p e R s m args below meth c H1 locs1 _ _ Z als1 ⟨hex, hbb, hml, hown, hts, hKx, hKg, hA, hin, hfr, hlo⟩ hW1 hl1 (fun k v h => by simp at h) (by rw [hL1.1, hmt]; rfl) (by omega) (by omega) (fun pc2 S2 H2 locs2 hW2 hl2 hE2 => ?_)
  obtain ⟨rfl, rfl⟩ := hE2
  refine lv_astore_n hex hbb d15 rfl hL1 (by decide) rfl (fun als2 hL2 => ?_)
  have hL2 := LR.st1 (k := 2) (v := aR 64) (by decide) hL2
  refine lv_iconst hex hbb d16 (v := 1) (by decide) ?_
  have es : sl 101 - sl 100 = 1 := by decide +kernel
  refine va_newaK (atype := .long) (N := 1) (h := H2.size) hex hbb (hts _ (kob_ok (by show Cond.arrayClass .long ∈ kOBs; simp [kOBs]))) rfl d17 rfl (by decide) (by decide) (by decide) (by omega) (by omega) rfl (fun H3 cA c1 z1 o1 hAr hNm => ?_)
  have hcA : cA = gT G 1 := Option.some.inj (hNm.symm.trans hKx.2.2.1.2)
  subst hcA
  have hW3 := CW.arrL (w := 0) (n := 1) hW2 (by decide +kernel) (by decide) hA c1 z1 o1
  have e3 : Value.ref H2.size = .ref (gA G 100) := by rw [hW2.2.1]
  rw [e3]
  refine lv_astore_n hex hbb d19 rfl hL2 (by decide) rfl (fun als3 hL3 => ?_)
  have hL3 := LR.st1 (k := 3) (v := aR 100) (by decide) hL3
  refine lv_iconst hex hbb d20 (v := 0) (by decide) ?_
  refine lv_istore hex hbb d21 hL3 (by decide) rfl (fun als4 hL4 => ?_)
  have hL4 := LR.st1 (k := 4) (v := aI 0) (by decide) hL4
  have key := kk H3 locs2 als4 (CW_Rel hW3) hl2 hL4
  have c9 : 0 + (64 - 11) + (100 - 64) + 1 = 90 := by decide
  have s9 : 0 + (sl 64 - sl 11) + (sl 100 - sl 64) + 1 = sl 101 - sl 11 := by omega
  rw [c9, s9]
  exact key
