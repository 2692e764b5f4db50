/-! ===== SOUNDNESS: fields, and what is written ===== -/
theorem fd_link {o k x y : Nat} (h : memF FLk o k x y = true) : FLw (o, k, x, y) ∈ TB := fl_ok (List.mem_map.mpr ⟨_, memF_ok _ h, rfl⟩)
theorem ofn {i : Int} (h : 0 ≤ i) : Int.ofNat i.toNat = i := Int.toNat_of_nonneg h
theorem ofn_eq {j : Nat} {i : Int} (h0 : 0 ≤ i) : (Int.ofNat j = i) ↔ j = i.toNat := by
  show ((j : Nat) : Int) = i ↔ _
  omega
theorem div_of {j w i : Int} (h0 : 0 ≤ i) (h1 : i < w) : (j * w + i) / w = j := by
  rw [Int.add_comm, Int.add_mul_ediv_right _ _ (by omega), Int.ediv_eq_zero_of_lt h0 h1, Int.zero_add]
theorem grid_eq {j q w i k : Int} (h0 : 0 ≤ i) (h1 : i < w) (h2 : 0 ≤ k) (h3 : k < w) (h : j * w + i = q * w + k) : j = q ∧ i = k := by
  have e : j = q := by rw [← div_of (j := j) h0 h1, h, div_of h2 h3]
  subst e
  exact ⟨rfl, by omega⟩
section SND4
variable {G : GP} {E : Nat → Lo → List AV → Mem → Prop}
variable {l : Launch} {d M pc pc' : Nat} {ls ls' : Lo} {st st' : List AV} {σ σ' : Mem} {Q : RV → Mem → Prop}
theorem sx_mem (hs : σ' 0 2 = σ 0 2) (h : SX l G E d M pc' ls st' σ' Q) (hw : ∀ (p : Program) (e : Env) (R : Room) (s : State) (m : MethodId) (args : Array Value) (below : List Frame) (meth : Method) (c : Code) (H : Heap) (locs : List Loc) (cells slots : Nat) (Z : State → Prop) (als : Array Slot), Cx G d M p R s m args c → Rel G σ H → LR (gA G) ls als → (∀ q ∈ locs, gB G ≤ q.base) → ls.length = (mtb M).2.1 →
      (∀ (H' : Heap) (locs' : List Loc), Rel G σ' H' → (∀ q ∈ locs', gB G ≤ q.base) → W p l e R s m args below meth c H' locs' cells slots Z (F0 m pc' als (st'.map (cv (gA G))))) → W p l e R s m args below meth c H locs cells slots Z (F0 m pc als (st.map (cv (gA G))))) : SX l G E d M pc ls st σ Q := by
  intro p e R s m args below meth c cb kc sb ks e0 Z hC hc1 hs1 hend H locs als hR hl hL hn hz hk
  refine hw p e R s m args below meth c H locs _ _ Z als hC hR hL hl hn (fun H' locs' hR' hl' => ?_)
  rw [← hs]
  exact h p e R s m args below meth c cb kc sb ks e0 Z hC hc1 hs1 hend H' locs' als hR' hl' hL hn (by rw [hs]; exact hz) (by rw [hs]; exact hk)
theorem sx_gf {a x y z k : Nat} {v : Int} {r : List AV} (hd : decode (byt M) pc = .ok (.getfield k, 3)) (hm : memF FLk (own M) k x y = true) (hv : v = Int.ofNat y) (hz : z = fg x y) (hx : x < 12) (hy : y < fN x) (h : gf σ a x y z v (fun w => SX l G E d M (pc + 3) ls (w :: r) σ Q)) : SX l G E d M pc ls (.inr (.inl a) :: r) σ Q := by
  unfold gf at h
  cases ho : okObj a x with
  | false => rw [ho] at h; exact h.elim
  | true =>
    rw [ho] at h
    have key : ∀ w : AV, cv (gA G) w = fval (gA G) σ a x y → SX l G E d M (pc + 3) ls (w :: r) σ Q → SX l G E d M pc ls (.inr (.inl a) :: r) σ Q := by
      intro w hw h
      refine sx_rd h (fun p e R s m args below meth c H locs cells slots Z als hC hR hL k => ?_)
      obtain ⟨cell, q1, q2, q3, q4⟩ := CR_4 ho (hR.1 a (okObj_lt ho))
      have hts := hC.2.2.2.2.1
      obtain ⟨hS, hfc, kC, hkC, hkind⟩ := hC.2.2.2.2.2.1.1 x hx
      obtain ⟨cf, kf, fi, f, hi, hsl⟩ := hS y hy
      refine W.getf (v := cv (gA G) w) hC.1 hC.2.1 hC.2.2.2.1 (hts _ (fd_link hm)) hi (u_facts hfc hkC (u_lays hts (u_in hx) hy) hi).1 q1 (by rw [q3]; exact fun h => by cases h) ?_ rfl rfl hd k
      rw [hsl, q4 y hy, hw]
    subst hv; subst hz
    change (match fg x y with
      | 1 => _
      | 2 => _
      | _ => _) at h
    split at h
    · rename_i e; exact key _ (by unfold fval; rw [e]; rfl) h
    · rename_i e; exact key _ (by unfold fval; rw [e]; rfl) h
    · rename_i e1 e2
      refine key _ ?_ h
      unfold fval
      split
      · rename_i e; exact absurd e e1
      · rename_i e; exact absurd e e2
      · rfl
theorem ups_ne {a b : Nat} {i v : Int} (h : b ≠ a) : ups σ a i v b = σ b := su_ne h
theorem ups_at {a : Nat} {i v : Int} (j : Int) : ups σ a i v a j = if j = i then v else σ a j := by unfold ups; rw [su_eq]; rfl
theorem foot_1 {a : Nat} (h : (shp a).1 ≠ 1) : foot a = [a] := by
  unfold foot
  split
  · rename_i n w e; rw [e] at h; exact absurd rfl h
  · rfl
theorem sx_pfG {a x y k : Nat} {w : AV} {v : Int} {ty : FieldType} {r : List AV} (hd : decode (byt M) pc = .ok (.putfield k, 3)) (hm : memF FLk (own M) k x y = true) (hx : x < 12) (hy : y < fN x) (hfin : (fT x y).2.2.2 = false) (ho : okObj a x = true) (hp : parseFieldDescriptor (fT x y).2.2.1 = some ty) (hn : narrow ty (cv (gA G) w) = cv (gA G) w) (hf : fits ty (cv (gA G) w) = true)
    (hw : fval (gA G) (ups σ a (Int.ofNat y) v) a x y = cv (gA G) w) (h : SX l G E d M (pc + 3) ls r (ups σ a (Int.ofNat y) v) Q) : SX l G E d M pc ls (w :: .inr (.inl a) :: r) σ Q := by
  have ha := okObj_lt ho
  have ha2 := okObj_new ho
  refine sx_mem (by rw [ups_ne (by omega)]) h (fun p e R s m args below meth c H locs cells slots Z als hC hR hL hl hn2 kk => ?_)
  obtain ⟨cell, q1, q2, q3, q4⟩ := CR_4 ho (hR.1 a ha)
  have hts := hC.2.2.2.2.1
  obtain ⟨hS, hfc, kC, hkC, hkind⟩ := hC.2.2.2.2.2.1.1 x hx
  obtain ⟨cf, kf, fi, f, hi, hsl⟩ := hS y hy
  have hlay := hts _ (u_in hx _ (u_in_lay hy))
  unfold u_lay at hlay
  rw [if_neg (by rw [hfin]; decide)] at hlay
  have h6 := u_store hfc hkC hkind hlay hi hp hn hf
  have hap : ∀ i j, i < fN x → j < fN x → i ≠ j → gI G x i ≠ gI G x j := by
    intro i j hi' hj' hne
    obtain ⟨_, _, _, fa, hia, ea⟩ := hS i hi'
    obtain ⟨_, _, _, fb, hib, eb⟩ := hS j hj'
    rw [← ea, ← eb]
    refine u_apart (u_lays hts (u_in hx) hi') (u_lays hts (u_in hx) hj') hia hib ?_
    obtain ⟨t1, ht1⟩ := Option.isSome_iff_exists.mp (f_desc x hx i hi').2.2.2
    obtain ⟨t2, ht2⟩ := Option.isSome_iff_exists.mp (f_desc x hx j hj').2.2.2
    rw [(State.fieldFound?_type hia ht1).1, (State.fieldFound?_type hib ht2).1]
    exact f_names x hx i hi' j hj' hne
  refine W.putK hC.1 hC.2.1 (f := f) ⟨hC.2.2.2.1, hts _ (fd_link hm), ⟨_, _, _, hi⟩, (u_facts hfc hkC (u_lays hts (u_in hx) hy) hi).1⟩ (by rw [q2]; exact h6) q1 q3 (by rw [hsl]; exact k2_hasslot (q4 y hy)) rfl rfl hd (fun H' e1 e2 e3 => ?_)
  rw [hsl] at e1
  refine kk H' _ (Rel.put hC.2.2.2.2.2.2.1 hR ha ha2 (by rw [okObj_5 ho]; simp) (x := a) (by rw [foot_1 (by rw [okObj_5 ho]; simp)]; exact List.mem_singleton.mpr rfl) e3 ?_) (t_lc hl (by have := hC.2.2.2.2.2.2.1.2 a ha2; show gB G ≤ gA G a; omega))
  have hsh : ∃ w', shp a = (4, Int.ofNat x, w') := by
    have h5 := okObj_5 ho
    unfold okObj at ho
    split at ho
    · rename_i n w' e
      have := eq_of_beq ho
      subst this
      exact ⟨w', e⟩
    · cases ho
  obtain ⟨w', hsh⟩ := hsh
  have goal : t_OB (gA G a) (gC G x) (fN x) (gI G x) H' (fun k => fval (gA G) (ups σ a (Int.ofNat y) v) a x k) := by
    refine ⟨_, e1, q2, q3, fun j hj => ?_⟩
    rw [t_set q4 hap hy (cv (gA G) w) j hj]
    unfold updV
    by_cases hjy : j = y
    · subst hjy; dsimp only; rw [if_pos rfl, hw]
    · rw [if_neg hjy]
      unfold fval
      have hne : ¬ Int.ofNat j = Int.ofNat y := fun e => hjy (Int.ofNat.inj e)
      dsimp only
      rw [ups_at, if_neg hne]
  unfold CR
  rw [hsh]
  exact goal
theorem sx_pf {x y z k : Nat} {v : Int} {st : List AV} (hd : decode (byt M) pc = .ok (.putfield k, 3)) (hm : memF FLk (own M) k x y = true) (hv : v = Int.ofNat y) (hz : z = fg x y) (hx : x < 12) (hy : y < fN x) (hfin : (fT x y).2.2.2 = false) (h : pf σ st x z v (fun r σ => SX l G E d M (pc + 3) ls r σ Q)) : SX l G E d M pc ls st σ Q := by
  subst hv
  have hD := f_desc x hx y hy
  have up : ∀ (a : Nat) (w : Int), ups σ a (Int.ofNat y) w a (Int.ofNat y) = w := fun a w => by rw [ups_at, if_pos rfl]
  unfold pf at h
  split at h
  · rename_i w a r
    cases ho : okObj a x with
    | false => rw [ho] at h; exact h.elim
    | true =>
      rw [ho] at h
      simp only [cond_true] at h
      split at h
      · exact sx_pfG hd hm hx hy hfin ho (by rw [hD.1 hz.symm]; exact p_I) rfl rfl (by unfold fval; rw [← hz, up]; rfl) h
      · rcases h.1 with rfl | rfl
        · exact sx_pfG hd hm hx hy hfin ho (by rw [hD.2.2.1 hz.symm]; exact p_Z) (by show narrow .boolean (.int _) = .int _; decide +kernel) (by show fits .boolean (.int _) = true; decide +kernel) (by unfold fval; rw [← hz, up]; rfl) h.2
        · exact sx_pfG hd hm hx hy hfin ho (by rw [hD.2.2.1 hz.symm]; exact p_Z) (by show narrow .boolean (.int _) = .int _; decide +kernel) (by show fits .boolean (.int _) = true; decide +kernel) (by unfold fval; rw [← hz, up]; rfl) h.2
      · exact h.elim
  · rename_i w a r
    cases ho : okObj a x with
    | false => rw [ho] at h; exact h.elim
    | true =>
      rw [ho] at h
      simp only [cond_true] at h
      split at h
      · exact sx_pfG hd hm hx hy hfin ho (by rw [hD.2.1 hz.symm]; exact p_J) rfl rfl (by unfold fval; rw [← hz, up]; rfl) h
      · exact h.elim
  · exact h.elim
theorem sx_gs {x k : Nat} (hd : decode (byt M) pc = .ok (.getstatic k, 3)) (hm : memS SLk (own M) k x = true) (h1 : 2 ≤ x) (h2 : x ≤ 10) (h : SX l G E d M (pc + 3) ls (.inr (.inl x) :: st) σ Q) : SX l G E d M pc ls st σ Q := by
  refine sx_rd h (fun p e R s m args below meth c H locs cells slots Z als hC hR hL kk => ?_)
  obtain ⟨cf, kf, fi, f, a, cell, g1, g2, g3, g4, g5, g6, g7, g8⟩ := (hC.2.2.2.2.2.1.2.2.2.2.2.2 x h1 h2).1
  have hw : SLw (own M, k, x) ∈ TB := sl_ok (List.mem_map.mpr ⟨_, memS_ok _ hm, rfl⟩)
  exact W.gets hC.1 hC.2.1 hC.2.2.2.1 (hC.2.2.2.2.1 _ hw) g1 g2 g3 g4 ((hR.2 a (Nat.not_le.mp g8)).trans g5) (fun e => by rw [e] at g6; cases g6) g7 rfl hd kk
theorem sx_wrI {i w : Int} {v : AV} {r : List AV} (hd : decode (byt M) pc = .ok (.iastore, 1)) (h : wrI σ w i v (fun σ' => SX l G E d M (pc + 1) ls r σ' Q)) : SX l G E d M pc ls (.inl w :: .inl i :: v :: r) σ Q := by
  unfold wrI at h
  split at h
  · rename_i a
    have hlm := shp_lim a
    split at h
    · rename_i n w' e
      have ha : a < 101 := shp_lt (by rw [e]; simp)
      have ha2 : 11 ≤ a := shp_new a ha (by rw [e]; simp)
      rw [e] at hlm; simp only at hlm
      refine sx_mem (by rw [ups_ne (by omega)]) h.2 (fun p ee R s m args below meth c H locs cells slots Z als hC hR hL hl hn2 kk => ?_)
      have c1 := CR_0 e (hR.1 a ha)
      obtain ⟨e1, e2⟩ := i32_ix h.1.1 (by omega)
      refine W.iast hC.1 hC.2.1 c1 (hC.2.2.2.2.2.1.2.1.1 _ _) (fun q => by cases q) ?_ rfl rfl hd (fun H' q1 q2 q3 => ?_)
      · rw [e1, arrV_size]; rintro (z | z)
        · exact e2 z
        · omega
      · refine kk H' _ (Rel.put hC.2.2.2.2.2.2.1 hR ha ha2 (by rw [e]; simp) (x := a) (by rw [foot_1 (by rw [e]; simp)]; exact List.mem_singleton.mpr rfl) q3 ?_) (t_lc hl (by have := hC.2.2.2.2.2.2.1.2 a ha2; show gB G ≤ gA G a; omega))
        unfold CR; rw [e]
        show H'[gA G a]? = _
        rw [q1, e1, arrV_store]
        refine congrArg some (arrV_fn (fun j hj => ?_))
        rw [su_eq]
        unfold updV fu
        by_cases hji : j = i.toNat
        · rw [if_pos hji, if_pos ((ofn_eq h.1.1).mpr hji)]
        · rw [if_neg hji, if_neg (fun q => hji ((ofn_eq h.1.1).mp q))]
    · exact h.elim
  · rename_i o q
    have hlm := shp_lim o
    split at h
    · rename_i n w' e
      have ha : o < 101 := shp_lt (by rw [e]; simp)
      have ha2 : 11 ≤ o := shp_new o ha (by rw [e]; simp)
      rw [e] at hlm; simp only at hlm
      obtain ⟨⟨⟨hq0, hq1⟩, hi0, hi1⟩, h⟩ := h
      refine sx_mem (by rw [ups_ne (by omega)]) h (fun p ee R s m args below meth c H locs cells slots Z als hC hR hL hl hn2 kk => ?_)
      have hC1 := CR_1 e (hR.1 o ha)
      have c1 := hC1.2 q.toNat (by omega)
      obtain ⟨e1, e2⟩ := i32_ix hi0 (by omega)
      have hxf : o + 1 + q.toNat ∈ foot o := by
        unfold foot; rw [e]
        exact List.mem_map.mpr ⟨q.toNat + 1, List.mem_range.mpr (by omega), by omega⟩
      have hA := hC.2.2.2.2.2.2.1
      refine W.iast hC.1 hC.2.1 c1 (hC.2.2.2.2.2.1.2.1.1 _ _) (fun q => by cases q) ?_ rfl rfl hd (fun H' q1 q2 q3 => ?_)
      · rw [e1, arrV_size]; rintro (z | z)
        · exact e2 z
        · omega
      · refine kk H' _ (Rel.put hA hR ha ha2 (by rw [e]; simp) hxf q3 ?_) (t_lc hl (by have := hA.2 (o + 1 + q.toNat) (by omega); show gB G ≤ gA G (o + 1 + q.toNat); omega))
        unfold CR; rw [e]
        refine ⟨(q3 _ (ad_ne hA (by omega) (by omega))).trans hC1.1, fun j hj => ?_⟩
        by_cases hjq : j = q.toNat
        · subst hjq
          rw [q1, e1, arrV_store]
          refine congrArg some (arrV_fn (fun k hk => ?_))
          rw [su_eq]
          unfold updV fu
          rw [ofn hq0]
          by_cases hji : k = i.toNat
          · rw [if_pos hji, if_pos (by rw [(ofn_eq hi0).mpr hji])]
          · rw [if_neg hji, if_neg (fun z => hji ((ofn_eq hi0).mp (by omega)))]
        · rw [q3 _ (ad_ne hA (by omega) (by omega)), hC1.2 j hj]
          refine congrArg some (arrV_fn (fun k hk => ?_))
          rw [su_eq]
          unfold fu
          rw [if_neg]
          intro z
          have := grid_eq (i := Int.ofNat k) (Int.ofNat_nonneg k) (by show ((k : Nat) : Int) < w'; omega) hi0 hi1 z
          exact hjq ((ofn_eq hq0).mp this.1)
    · exact h.elim
  · exact h.elim
theorem sx_last {a : Nat} {n w' i w : Int} {r : List AV} (hd : decode (byt M) pc = .ok (.lastore, 1)) (e : shp a = (2, n, w')) (hi : 0 ≤ i ∧ i < n) (h : SX l G E d M (pc + 1) ls r (ups σ a i w) Q) : SX l G E d M pc ls (.inr (.inr (.inl w)) :: .inl i :: .inr (.inl a) :: r) σ Q := by
  have hlm := shp_lim a
  have ha : a < 101 := shp_lt (by rw [e]; simp)
  have ha2 : 11 ≤ a := shp_new a ha (by rw [e]; simp)
  rw [e] at hlm; simp only at hlm
  refine sx_mem (by rw [ups_ne (by omega)]) h (fun p ee R s m args below meth c H locs cells slots Z als hC hR hL hl hn2 kk => ?_)
  have c1 := CR_2 e (hR.1 a ha)
  obtain ⟨e1, e2⟩ := i32_ix hi.1 (by omega)
  refine W.last hC.1 hC.2.1 c1 (hC.2.2.2.2.2.1.2.2.1.1 _ _) (fun q => by cases q) ?_ rfl rfl hd (fun H' q1 q2 q3 => ?_)
  · rw [e1, arrV_size]; rintro (z | z)
    · exact e2 z
    · omega
  · refine kk H' _ (Rel.put hC.2.2.2.2.2.2.1 hR ha ha2 (by rw [e]; simp) (x := a) (by rw [foot_1 (by rw [e]; simp)]; exact List.mem_singleton.mpr rfl) q3 ?_) (t_lc hl (by have := hC.2.2.2.2.2.2.1.2 a ha2; show gB G ≤ gA G a; omega))
    unfold CR; rw [e]
    show H'[gA G a]? = _
    rw [q1, e1, arrV_store]
    refine congrArg some (arrV_fn (fun j hj => ?_))
    rw [su_eq]
    unfold updV fu
    by_cases hji : j = i.toNat
    · rw [if_pos hji, if_pos ((ofn_eq hi.1).mpr hji)]
    · rw [if_neg hji, if_neg (fun q => hji ((ofn_eq hi.1).mp q))]
end SND4
