/-! ===== THE CONSTRUCTORS: every step; what the law's start leaves ===== -/
section CTA
variable {G : GP} {l : Launch} {E : Nat → List Value → Prop} {d M pc pc' : Nat} {ls st st' : List AV} {nx nx' : Nat} {F F' : KF}
theorem ks_new {x k : Nat} (hd : decode (byt M) pc = .ok (.new k, 3)) (hm : memK kCLk (own M) k (oC x) = true) (hx : x < 12) (ho : okObj nx x = true) (hlt : nx < 101) (hle : nx + 1 ≤ nx') (h : KSX l G E d M (pc + 3) ls (.inr (.inl nx) :: st) (nx + 1) F nx' F') : KSX l G E d M pc ls st nx F nx' F' := by
  refine ks_grow (Nat.le_succ _) hle h (fun p e R s m args below meth c H locs cells slots Z als hC hW hl hn hc hs kk => ?_)
  obtain ⟨hex, hbb, hml, hown, hts, hKx, hKg, hA, hin, hfr, hlo⟩ := hC
  have e1 : nx + 1 - nx = 1 := by omega
  have e2 : sl (nx + 1) - sl nx = fN x := by rw [sl_S, f_slot x hx nx hlt ho]; omega
  rw [e1] at hc kk; rw [e2] at hs kk
  have hw : ∀ w ∈ wCls x, w ∈ TB := fun w hw => kcs_ok (List.mem_flatMap.mpr ⟨x, List.mem_range.mpr hx, hw⟩)
  have hKn := hKx.1 x hx
  refine W.newcK (h := H.size) hex hbb hown (hts _ (kcl_ok (List.mem_map.mpr ⟨_, memK_ok _ hm, rfl⟩))) (hts _ (hw _ (by simp [wCls]))) (hts _ (hw _ (by simp [wCls]))) rfl hd hc hs hKn.2.1 rfl (fun H1 kC hkC c1 z1 o1 => ?_)
  have hob : t_OB H.size (gC G x) (fN x) (gI G x) H1 (fun k => dfl x k) := by
    have hD := f_desc x hx
    refine (u_born (fun k => ((parseFieldDescriptor (fT x k).2.2.1).getD .int)) hts (u_in hx) hKn hkC c1 (fun k hk => ?_)).to (fun k hk => ?_)
    · obtain ⟨t, ht⟩ := Option.isSome_iff_exists.mp (hD k hk).2.2.2
      rw [ht]; rfl
    · obtain ⟨t, ht⟩ := Option.isSome_iff_exists.mp (hD k hk).2.2.2
      unfold dfl
      rw [ht]; rfl
  have key := kk H1 locs (CW.obj hW ho hlt hA hob z1 o1) hl
  have e3 : (cv (gA G) (.inr (.inl nx)) : Value) = .ref H.size := by show Value.ref (gA G nx) = _; rw [hW.2.1]
  rw [List.map_cons, e3] at key
  exact key
theorem ks_arr {n w c : Int} {r : List AV} (hd : decode (byt M) pc = .ok (.newarray .int, 2)) (e0 : shp nx = (0, n, w)) (hcn : c = n) (hlt : nx < 101) (hle : nx + 1 ≤ nx') (h : KSX l G E d M (pc + 2) ls (.inr (.inl nx) :: r) (nx + 1) F nx' F') : KSX l G E d M pc ls (.inl c :: r) nx F nx' F' := by
  subst hcn
  refine ks_grow (Nat.le_succ _) hle h (fun p e R s m args below meth cc H locs cells slots Z als hC hW hl hn hc hs kk => ?_)
  obtain ⟨hex, hbb, hml, hown, hts, hKx, hKg, hA, hin, hfr, hlo⟩ := hC
  have hg := List.all_eq_true.mp grid_sl nx (List.mem_range.mpr hlt)
  rw [e0] at hg
  simp only [Bool.and_eq_true, decide_eq_true_eq] at hg
  have e1 : nx + 1 - nx = 1 := by omega
  have e2 : sl (nx + 1) - sl nx = c.toNat := by
    have : slt nx = c.toNat := by unfold slt; rw [e0]; rfl
    rw [sl_S, this]; omega
  rw [e1] at hc kk; rw [e2] at hs kk
  obtain ⟨i1, i2⟩ := i32_ix hg.1 (by omega)
  refine va_newaK (N := c.toNat) (h := H.size) hex hbb (hts _ (kob_ok (by show Cond.arrayClass .int ∈ kOBs; simp [kOBs]))) rfl hd rfl i2 i1 (by show c.toNat * 4 ≤ _; omega) hc hs rfl (fun H1 cA c1 z1 o1 hAr hNm => ?_)
  have hcA : cA = gT G 0 := Option.some.inj (hNm.symm.trans hKx.2.1.2)
  subst hcA
  have key := kk H1 locs (CW.arr hW e0 hlt hA c1 z1 o1) hl
  have e3 : (cv (gA G) (.inr (.inl nx)) : Value) = .ref H.size := by show Value.ref (gA G nx) = _; rw [hW.2.1]
  rw [List.map_cons, e3] at key
  exact key
theorem ks_grid {n w c b : Int} {k : Nat} {r : List AV} (hd : decode (byt M) pc = .ok (.multianewarray k 2, 4)) (hm : memK kCLk (own M) k "[[I" = true) (e0 : shp nx = (1, n, w)) (hcn : c = n) (hbw : b = w) (hlt : nx < 101) (hle : nx + 1 + n.toNat ≤ nx') (h : KSX l G E d M (pc + 4) ls (.inr (.inl nx) :: r) (nx + 1 + n.toNat) F nx' F') : KSX l G E d M pc ls (.inl b :: .inl c :: r) nx F nx' F' := by
  subst hcn; subst hbw
  refine ks_grow (by omega) hle h (fun p e R s m args below meth cc H locs cells slots Z als hC hW hl hn hc hs kk => ?_)
  obtain ⟨hex, hbb, hml, hown, hts, hKx, hKg, hA, hin, hfr, hlo⟩ := hC
  have hg := List.all_eq_true.mp grid_sl nx (List.mem_range.mpr hlt)
  rw [e0] at hg
  simp only [Bool.and_eq_true, Nat.beq_eq, Nat.ble_eq, decide_eq_true_eq] at hg
  obtain ⟨⟨⟨⟨⟨⟨g1, g2⟩, g3⟩, g4⟩, g5⟩, g6⟩, g7⟩ := hg
  have e1 : nx + 1 + c.toNat - nx = 1 + c.toNat := by omega
  have e2 : sl (nx + 1 + c.toNat) - sl nx = c.toNat + c.toNat * b.toNat := by rw [g1]; omega
  rw [e1] at hc kk; rw [e2] at hs kk
  obtain ⟨i1, i2⟩ := i32_ix g4 (by omega)
  obtain ⟨j1, j2⟩ := i32_ix g6 (by omega)
  obtain ⟨⟨kA, hkA, hkind⟩, -⟩ := hKg
  obtain ⟨-, kB, hkB, cI, hkindB⟩ := hKx.2.1.1 0 (fun _ => .null)
  refine W_multi hex hbb hown (hts _ (kcl_ok (List.mem_map.mpr ⟨_, memK_ok _ hm, rfl⟩))) (cA := gT G 2) (cB := gT G 0) hKx.2.2.2.1.2 hkA hkind hkB hkindB i2 j2 i1 j1 (by omega) (by omega) hc hs hd (fun H1 locs1 z1 c1 r1 o1 hl1 => ?_)
  have hb3 : gB G ≤ H.size := by
    have := gA_at hA hW.1.1
    rw [hW.2.1, this]; omega
  have key := kk H1 locs1 (CW.grid hW e0 hlt hA c1 r1 z1 o1) (fun q hq => by
    rcases hl1 q hq with h | h
    · exact hl q h
    · rw [h]; exact hb3)
  have e3 : (cv (gA G) (.inr (.inl nx)) : Value) = .ref H.size := by show Value.ref (gA G nx) = _; rw [hW.2.1]
  rw [List.map_cons, e3] at key
  rw [Nat.add_assoc, Nat.add_assoc]
  exact key
set_option maxHeartbeats 4000000 in
theorem ctr_ok : ∀ (f d M pc : Nat) (ls st : List AV) (nx : Nat) (F : KF) (nx' : Nat) (F' : KF), M ∈ mIni → ctr f d M pc ls st nx F = some (nx', F') → nx ≤ nx' ∧ KSX l G (rE M) d M pc ls st nx F nx' F'
  | 0, _, _, _, _, _, _, _, _, _, _, h => by unfold ctr at h; cases h
  | f + 1, d, M, pc, ls, st, nx, F, nx', F', hM, h => by
    unfold ctr at h
    split at h
    · cases h
    · rename_i i n x y z v he
      obtain ⟨hd, hc⟩ := ent_k (List.mem_cons_of_mem _ hM) he
      simp only at hd
      have IH := fun d M pc ls st nx F nx' F' => ctr_ok f d M pc ls st nx F nx' F'
      cases i with
      | aload_n k =>
        have e := nb hc; subst e
        dsimp only at h
        split at h
        · rename_i a ea
          obtain ⟨h1, h2⟩ := IH _ _ _ _ _ _ _ _ _ hM h
          exact ⟨h1, ks_same h2 (fun p e R s m args below meth c H locs cells slots Z als hC hW hL hn kk => lv_aload_n hC.1 hC.2.1 hd rfl (hL k.val _ ea) kk)⟩
        · cases h
      | iconst k =>
        have e := nb hc; subst e
        obtain ⟨h1, h2⟩ := IH _ _ _ _ _ _ _ _ _ hM h
        exact ⟨h1, ks_same h2 (fun p e R s m args below meth c H locs cells slots Z als hC hW hL hn kk => lv_iconst hC.1 hC.2.1 hd rfl kk)⟩
      | bipush k =>
        simp only [chkC, Bool.and_eq_true, Nat.beq_eq, decide_eq_true_eq] at hc
        obtain ⟨⟨e, c1⟩, c2⟩ := hc; subst e
        obtain ⟨h1, h2⟩ := IH _ _ _ _ _ _ _ _ _ hM h
        exact ⟨h1, ks_same h2 (fun p e R s m args below meth c H locs cells slots Z als hC hW hL hn kk => lv_bipush hC.1 hC.2.1 hd (i32_push8 c1 c2) kk)⟩
      | sipush k =>
        simp only [chkC, Bool.and_eq_true, Nat.beq_eq, decide_eq_true_eq] at hc
        obtain ⟨⟨e, c1⟩, c2⟩ := hc; subst e
        obtain ⟨h1, h2⟩ := IH _ _ _ _ _ _ _ _ _ hM h
        exact ⟨h1, ks_same h2 (fun p e R s m args below meth c H locs cells slots Z als hC hW hL hn kk => lv_sipush hC.1 hC.2.1 hd (i32_push16 c1 c2) kk)⟩
      | dup =>
        have e := nb hc; subst e
        dsimp only at h
        split at h
        · obtain ⟨h1, h2⟩ := IH _ _ _ _ _ _ _ _ _ hM h
          exact ⟨h1, ks_same h2 (fun p e R s m args below meth c H locs cells slots Z als hC hW hL hn kk => lv_dup hC.1 hC.2.1 hd rfl kk)⟩
        · cases h
      | new k =>
        simp only [chkC, Bool.and_eq_true, Nat.beq_eq, Nat.blt_eq] at hc
        obtain ⟨⟨e, c1⟩, c2⟩ := hc; subst e
        dsimp only at h
        cases hb : (okObj nx x && Nat.blt nx 101) with
        | false => rw [hb] at h; cases h
        | true =>
          rw [hb] at h
          rw [Bool.and_eq_true, Nat.blt_eq] at hb
          obtain ⟨h1, h2⟩ := IH _ _ _ _ _ _ _ _ _ hM h
          exact ⟨by omega, ks_new hd c1 c2 hb.1 hb.2 h1 h2⟩
      | newarray t =>
        have e := nb hc; subst e
        cases t with
        | int =>
          dsimp only at h
          split at h
          · rename_i c r n' w' e0
            cases hb : (decide (c = n') && Nat.blt nx 101) with
            | false => rw [hb] at h; cases h
            | true =>
              rw [hb] at h
              rw [Bool.and_eq_true, Nat.blt_eq, decide_eq_true_eq] at hb
              obtain ⟨h1, h2⟩ := IH _ _ _ _ _ _ _ _ _ hM h
              exact ⟨by omega, ks_arr hd e0 hb.1 hb.2 h1 h2⟩
          · cases h
        | _ => cases h
      | multianewarray k q =>
        simp only [chkC, Bool.and_eq_true, Nat.beq_eq] at hc
        obtain ⟨⟨e, e2⟩, c1⟩ := hc; subst e; subst e2
        dsimp only at h
        split at h
        · rename_i w c r n' w' e0
          cases hb : (decide (c = n') && decide (w = w') && Nat.blt nx 101) with
          | false => rw [hb] at h; cases h
          | true =>
            rw [hb] at h
            rw [Bool.and_eq_true, Bool.and_eq_true, Nat.blt_eq, decide_eq_true_eq, decide_eq_true_eq] at hb
            obtain ⟨h1, h2⟩ := IH _ _ _ _ _ _ _ _ _ hM h
            exact ⟨by omega, ks_grid hd c1 e0 hb.1.1 hb.1.2 hb.2 h1 h2⟩
        · cases h
      | putfield k =>
        simp only [chkC, Bool.and_eq_true, Nat.beq_eq, Nat.blt_eq, beq_iff_eq] at hc
        obtain ⟨⟨⟨⟨⟨⟨e, c1⟩, c2⟩, c3⟩, c4⟩, c5⟩, c6⟩ := hc; subst e
        dsimp only at h
        split at h
        · rename_i b a r
          cases hb : (okObj a x && Nat.blt a nx && Nat.beq z 1) with
          | false => rw [hb] at h; cases h
          | true =>
            rw [hb] at h
            rw [Bool.and_eq_true, Bool.and_eq_true, Nat.blt_eq, Nat.beq_eq] at hb
            obtain ⟨h1, h2⟩ := IH _ _ _ _ _ _ _ _ _ hM h
            have hr := f_ref x c3 y c4 (c2.symm.trans hb.2)
            cases hp : parseFieldDescriptor (fT x y).2.2.1 with
            | none => rw [hp] at hr; cases hr
            | some ty =>
              rw [hp] at hr
              have hr2 : ty.isReference = true := Option.some.inj hr
              exact ⟨h1, ks_put hM hd c1 c3 c4 c5 c6 hb.1.1 hb.1.2 hp (ref_fit hr2 _).1 (ref_fit hr2 _).2 h2 h1⟩
        · rename_i w a r
          cases hb : (okObj a x && Nat.blt a nx && Nat.beq z 0) with
          | false => rw [hb] at h; cases h
          | true =>
            rw [hb] at h
            rw [Bool.and_eq_true, Bool.and_eq_true, Nat.blt_eq, Nat.beq_eq] at hb
            obtain ⟨h1, h2⟩ := IH _ _ _ _ _ _ _ _ _ hM h
            exact ⟨h1, ks_put hM hd c1 c3 c4 c5 c6 hb.1.1 hb.1.2 (ty := .int) (by rw [(f_desc x c3 y c4).1 (c2.symm.trans hb.2)]; exact p_I) rfl rfl h2 h1⟩
        · cases h
      | getfield k =>
        simp only [chkC, Bool.and_eq_true, Nat.beq_eq, Nat.blt_eq] at hc
        obtain ⟨⟨⟨e, c1⟩, c3⟩, c4⟩ := hc; subst e
        dsimp only at h
        split at h
        · rename_i a r
          cases hb : (okObj a x && Nat.blt a nx) with
          | false => rw [hb] at h; cases h
          | true =>
            rw [hb] at h
            rw [Bool.and_eq_true, Nat.blt_eq] at hb
            simp only [cond_true] at h
            split at h
            · rename_i b eb
              obtain ⟨h1, h2⟩ := IH _ _ _ _ _ _ _ _ _ hM h
              refine ⟨h1, ks_same h2 (fun p e R s m args below meth c H locs cells slots Z als hC hW hL hn kk => ?_)⟩
              obtain ⟨hex, hbb, hml, hown, hts, hKx, hKg, hA, hin, hfr, hlo⟩ := hC
              have h4 := hW.2.2.1 a (okObj_new hb.1) hb.2
              have hsh : ∃ w', shp a = (4, Int.ofNat x, w') := by
                have ho' := hb.1
                unfold okObj at ho'
                split at ho'
                · rename_i n w' e
                  have := eq_of_beq ho'
                  subst this
                  exact ⟨w', e⟩
                · cases ho'
              obtain ⟨w', hsh⟩ := hsh
              unfold CWc at h4
              rw [hsh] at h4
              obtain ⟨cell, q1, q2, q3, q4⟩ := h4
              obtain ⟨hS, hfc, kC, hkC, hkind⟩ := hKx.1 x c3
              obtain ⟨cf, kf, fi, f, hi, hsl⟩ := hS y c4
              refine W.getf (v := cv (gA G) (.inr (.inl b))) hex hbb hown (hts _ (kfl_ok (List.mem_map.mpr ⟨_, memF_ok _ c1, rfl⟩))) hi (u_facts hfc hkC (u_lays hts (u_in c3) c4) hi).1 q1 (by rw [q3]; exact fun h => by cases h) ?_ rfl rfl hd kk
              have q5 := q4 y c4
              dsimp only at q5
              rw [eb] at q5
              rw [hsl]; exact q5
            · cases h
        · cases h
      | invokespecial k =>
        simp only [chkC, Bool.and_eq_true, Nat.beq_eq] at hc
        obtain ⟨e, c1⟩ := hc; subst e
        dsimp only at h
        split at h
        · cases h
        · rename_i d'
          split at h
          · split at h
            · rename_i a
              obtain ⟨h1, h2⟩ := IH _ _ _ _ _ _ _ _ _ hM h
              refine ⟨h1, ks_same h2 (fun p e R s m args below meth c H locs cells slots Z als hC hW hL hn kk => ?_)⟩
              obtain ⟨hex, hbb, hml, hown, hts, hKx, hKg, hA, hin, hfr, hlo⟩ := hC
              exact W.objInit hex hbb hown (hts _ (kol_ok (List.mem_map.mpr ⟨_, memP_ok _ c1, rfl⟩))) (hts _ (kob_ok (by simp [kOBs]))) (hts _ (kob_ok (by simp [kOBs]))) rfl (by show als.size = _; rw [hn, hml]) rfl hd (by omega) (by show 2 * 0 + 0 + 12 ≤ _; omega) kk
            · cases h
          · rename_i hz1
            have c2 : (memS kMLk (own M) k x = true ∨ memS kNLk (own M) k x = true) ∧ memN mIni x = true := by
              split at c1
              · exact absurd rfl hz1
              · rw [Bool.and_eq_true] at c1; exact ⟨Or.inl c1.1, c1.2⟩
              · rw [Bool.and_eq_true] at c1; exact ⟨Or.inr c1.1, c1.2⟩
              · cases c1
            cases hb : (Nat.ble y st.length && Nat.ble (widS (st.drop y)) 8 && Nat.beq y (mtb x).1 && Nat.ble (widS (st.take y).reverse) (mtb x).2.1 && (st.take y).reverse.all (fun v => Nat.beq (wid v) 1)) with
            | false => rw [hb] at h; cases h
            | true =>
              rw [hb] at h
              simp only [Bool.and_eq_true, Nat.ble_eq, Nat.beq_eq, List.all_eq_true] at hb
              obtain ⟨⟨⟨⟨b1, b2⟩, b3⟩, b4⟩, b5⟩ := hb
              simp only [cond_true] at h
              split at h
              · rename_i a tl htl
                split at h
                · rename_i nx1 F1 hcal
                  obtain ⟨g1, g2⟩ := IH _ _ _ _ _ _ _ _ _ (memN_ok _ c2.2) hcal
                  obtain ⟨h1, h2⟩ := IH _ _ _ _ _ _ _ _ _ hM h
                  exact ⟨Nat.le_trans g1 h1, ks_call (z := z) hd c2.1 c2.2 b1 b2 b3 b4 b5 htl g2 g1 h1 h2⟩
                · cases h
              · cases h
      | return_ =>
        have e := nb hc; subst e
        dsimp only at h
        split at h
        · cases h
          refine ⟨Nat.le_refl _, fun p e R s m args below meth c H locs cells slots Z als hC hW hl hL hn hc hs hend => ?_⟩
          have key := hend pc [] H locs hW hl ⟨hd, rfl⟩
          rw [Nat.sub_self, Nat.sub_self, Nat.add_zero, Nat.add_zero] at key
          exact key
        · cases h
      | astore_n k => exact absurd h (by simp)
      | istore k => exact absurd h (by simp)
      | _ => cases hc
end CTA
