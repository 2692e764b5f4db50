/-! ===== SOUNDNESS: every step ===== -/
section ALL
variable {G : GP} {E : Nat → Lo → List AV → Mem → Prop} {l : Launch} {d M pc pc' : Nat} {ls ls' : Lo} {st st' : List AV} {σ σ' : Mem} {Q Q' : RV → Mem → Prop}
theorem SX.mono (h : SX l G E d M pc ls st σ Q) (hq : ∀ r τ, Q r τ → Q' r τ) : SX l G E d M pc ls st σ Q' :=
  fun p e R s m args below meth c cb kc sb ks e0 Z hC hc1 hs1 hend => h p e R s m args below meth c cb kc sb ks e0 Z hC hc1 hs1 ⟨fun pc als H locs r τ hQ => hend.1 pc als H locs r τ (hq r τ hQ), hend.2⟩
theorem sx_kS {S : List Value} (hS : st'.map (cv (gA G)) = S) (h : SX l G E d M pc' ls st' σ Q) (hw : ∀ (p : Program) (e : Env) (R : Room) (s : State) (m : MethodId) (args : Array Value) (below : List Frame) (meth : Method) (c : Code) (H : Heap) (locs : List Loc) (cells slots : Nat) (Z : State → Prop) (als : Array Slot), p.tables.exec = Jvm.exec → c.code = byt M →
      W p l e R s m args below meth c H locs cells slots Z (F0 m pc' als S) → W p l e R s m args below meth c H locs cells slots Z (F0 m pc als (st.map (cv (gA G))))) : SX l G E d M pc ls st σ Q := by
  subst hS; exact sx_k h hw
theorem sx_rdS {S : List Value} (hS : st'.map (cv (gA G)) = S) (h : SX l G E d M pc' ls st' σ Q) (hw : ∀ (p : Program) (e : Env) (R : Room) (s : State) (m : MethodId) (args : Array Value) (below : List Frame) (meth : Method) (c : Code) (H : Heap) (locs : List Loc) (cells slots : Nat) (Z : State → Prop) (als : Array Slot), Cx G d M p R s m args c → LR (gA G) ls als →
      W p l e R s m args below meth c H locs cells slots Z (F0 m pc' als S) → W p l e R s m args below meth c H locs cells slots Z (F0 m pc als (st.map (cv (gA G))))) : SX l G E d M pc ls st σ Q := by
  subst hS; exact sx_rd h (fun p e R s m args below meth c H locs cells slots Z als hC _ hL k => hw p e R s m args below meth c H locs cells slots Z als hC hL k)
theorem sx_end {r : RV} (hst : st = r.toList) (hret : retOk M pc r) (hQ : Q r σ) : SX l G E d M pc ls st σ Q := by
  subst hst
  exact fun p e R s m args below meth c cb kc sb ks e0 Z hC hc1 hs1 hend H locs als hR hl hL hn hz hk => hend.1 pc als H locs r σ hQ hR hl hz hret
theorem sx_lst {k : Nat} {x : Int} {r : List AV} (hk : k + 1 < ls.length) (h : SX l G E d M pc' ((setL none (k + 1) (setL none k ls)).set k (vJ x)) r σ Q)
    (hw : ∀ (p : Program) (e : Env) (R : Room) (s : State) (m : MethodId) (args : Array Value) (below : List Frame) (meth : Method) (c : Code) (H : Heap) (locs : List Loc) (cells slots : Nat) (Z : State → Prop) (als : Array Slot), p.tables.exec = Jvm.exec → c.code = byt M → lv_has als ls.length (lvl (gA G) 0 ls) →
      (∀ als' : Array Slot, lv_has als' ls.length ((k, Value.long (Int64.ofInt x)) :: (lvl (gA G) 0 ls).filter (fun q => !(q.1 == k) && (!(q.1 == k + 1) && !(q.1 + 1 == k && q.2.category == 2)))) → W p l e R s m args below meth c H locs cells slots Z (F0 m pc' als' (r.map (cv (gA G))))) → W p l e R s m args below meth c H locs cells slots Z (F0 m pc als (Value.long (Int64.ofInt x) :: r.map (cv (gA G))))) : SX l G E d M pc ls (.inr (.inr (.inl x)) :: r) σ Q :=
  fun p e R s m args below meth c cb kc sb ks e0 Z hC hc1 hs1 hend H locs als hR hl hL hn hz hk2 => hw p e R s m args below meth c H locs _ _ Z als hC.1 hC.2.1 hL (fun als' hl' => h p e R s m args below meth c cb kc sb ks e0 Z hC hc1 hs1 hend H locs als' hR hl (LR.st2 hk hl') (by rw [List.length_set, setL_len, setL_len]; exact hn) hz hk2)
theorem sx_inc {k : Nat} {w c : Int} (hk : k < ls.length) (he : ls[k]? = some (some (.inl w))) (hd : decode (byt M) pc = .ok (.iinc k c, 3)) (h : SX l G E d M (pc + 3) (setL (vI (w + c)) k ls) st σ Q) : SX l G E d M pc ls st σ Q := by
  refine sx_st k hk h (fun p e R s m args below meth cc H locs cells slots Z als hx hb hl kk => ?_)
  obtain ⟨j, hj⟩ := List.getElem?_of_mem ((lvl_mem (ad := gA G) ls 0 (k, cv (gA G) (.inl w))).mpr ⟨k, .inl w, he, by simp⟩)
  exact lv_iinc (x := Int32.ofInt w) (v := Int32.ofInt (w + c)) hx hb hd hl hj (by rw [Int32.ofInt_add]) hk rfl kk
theorem cv_i (ad : Nat → Nat) (x : Int) : cv ad (.inl x) = .int (Int32.ofInt x) := rfl
theorem cv_j (ad : Nat → Nat) (x : Int) : cv ad (.inr (.inr (.inl x))) = .long (Int64.ofInt x) := rfl
theorem sI {ad : Nat → Nat} {x : Int} {y : Int32} {r : List AV} (h : Int32.ofInt x = y) : ((.inl x : AV) :: r).map (cv ad) = .int y :: r.map (cv ad) := by rw [List.map_cons, cv_i, h]
theorem sJ {ad : Nat → Nat} {x : Int} {y : Int64} {r : List AV} (h : Int64.ofInt x = y) : ((.inr (.inr (.inl x)) : AV) :: r).map (cv ad) = .long y :: r.map (cv ad) := by rw [List.map_cons, cv_j, h]
def PRS (l : Launch) (G : GP) : Prop := ∀ (E : Nat → Lo → List AV → Mem → Prop) (M pc k : Nat) (ls : Lo) (st : List AV) (σ : Mem) (Q : RV → Mem → Prop), decode (byt M) pc = .ok (.invokestatic k, 3) → (∃ (n x y : Nat) (v : Int), lks (mcode M) pc = some (.invokestatic k, n, (x, y, 7), v)) → own M = 13 → prs σ st (fun r σ => SX l G E 1000 M (pc + 3) ls r σ Q) → SX l G E 1000 M pc ls st σ Q
set_option maxHeartbeats 4000000 in
theorem sx_stp (hA : AdOk (gA G) (gB G)) (hp : d = 1000 → PRS l G) (hd1 : d ≤ 1000) (h : stp (clX (SX l G noE) d) (fun pc ls st σ => SX l G E d M pc ls st σ Q) Q d M pc ls st σ) : SX l G E d M pc ls st σ Q := by
  unfold stp at h
  split at h
  · exact h.elim
  · rename_i i n x y z v he
    obtain ⟨hd, hc⟩ := entry_ok he
    simp only at hd
    cases i with
    | iconst k =>
      have e := nb hc; subst e
      exact sx_kS (sI rfl) h (fun p e R s m args below meth c H locs cells slots Z als hx hb kk => lv_iconst hx hb hd rfl kk)
    | bipush k =>
      simp only [chkE, Bool.and_eq_true, Nat.beq_eq, decide_eq_true_eq] at hc
      obtain ⟨⟨e, h1⟩, h2⟩ := hc; subst e
      exact sx_kS (sI rfl) h (fun p e R s m args below meth c H locs cells slots Z als hx hb kk => lv_bipush hx hb hd (i32_push8 h1 h2) kk)
    | sipush k =>
      simp only [chkE, Bool.and_eq_true, Nat.beq_eq, decide_eq_true_eq] at hc
      obtain ⟨⟨e, h1⟩, h2⟩ := hc; subst e
      exact sx_kS (sI rfl) h (fun p e R s m args below meth c H locs cells slots Z als hx hb kk => lv_sipush hx hb hd (i32_push16 h1 h2) kk)
    | lconst k =>
      simp only [chkE, Bool.and_eq_true, Nat.beq_eq, beq_iff_eq] at hc
      obtain ⟨e, h1⟩ := hc; subst e; subst h1
      exact sx_kS (sJ rfl) h (fun p e R s m args below meth c H locs cells slots Z als hx hb kk => lv_lconst hx hb hd rfl kk)
    | ldc k =>
      simp only [chkE, Bool.and_eq_true, Nat.beq_eq] at hc
      obtain ⟨e, h1⟩ := hc; subst e
      exact sx_rdS (sI rfl) h (fun p e R s m args below meth c H locs cells slots Z als hC hL kk => lv_ldc hC.1 hC.2.1 hC.2.2.2.1 (hC.2.2.2.2.1 _ (cl_ok (List.mem_map.mpr ⟨_, memC_ok _ h1, rfl⟩))) hd kk)
    | ldc_w k =>
      simp only [chkE, Bool.and_eq_true, Nat.beq_eq] at hc
      obtain ⟨e, h1⟩ := hc; subst e
      exact sx_rdS (sI rfl) h (fun p e R s m args below meth c H locs cells slots Z als hC hL kk => lv_ldcw hC.1 hC.2.1 hC.2.2.2.1 (hC.2.2.2.2.1 _ (cl_ok (List.mem_map.mpr ⟨_, memC_ok _ h1, rfl⟩))) hd kk)
    | ldc2_w k =>
      simp only [chkE, Bool.and_eq_true, Nat.beq_eq] at hc
      obtain ⟨e, h1⟩ := hc; subst e
      exact sx_rdS (sJ rfl) h (fun p e R s m args below meth c H locs cells slots Z als hC hL kk => lv_ldc2 hC.1 hC.2.1 hC.2.2.2.1 (hC.2.2.2.2.1 _ (cj_ok (List.mem_map.mpr ⟨_, memC_ok _ h1, rfl⟩))) hd kk)
    | iload k =>
      have e := nb hc; subst e
      exact sx_ldI h (fun w e hg => sx_rdS (sI rfl) hg (fun p ee R s m args below meth c H locs cells slots Z als hC hL kk => lv_iload hC.1 hC.2.1 hd (hL.at e) kk))
    | iload_n k =>
      have e := nb hc; subst e
      exact sx_ldI h (fun w e hg => sx_rdS (sI rfl) hg (fun p ee R s m args below meth c H locs cells slots Z als hC hL kk => lv_iload_n hC.1 hC.2.1 hd rfl (hL.at e) kk))
    | lload k =>
      have e := nb hc; subst e
      exact sx_ldJ h (fun w e hg => sx_rdS (sJ rfl) hg (fun p ee R s m args below meth c H locs cells slots Z als hC hL kk => lv_lload hC.1 hC.2.1 hd (hL.at e) kk))
    | lload_n k =>
      have e := nb hc; subst e
      exact sx_ldJ h (fun w e hg => sx_rdS (sJ rfl) hg (fun p ee R s m args below meth c H locs cells slots Z als hC hL kk => lv_lload_n hC.1 hC.2.1 hd rfl (hL.at e) kk))
    | aload k =>
      have e := nb hc; subst e
      exact sx_ldA h (fun w e ⟨a, ha⟩ hg => sx_rdS (by rw [List.map_cons, ha]) hg (fun p ee R s m args below meth c H locs cells slots Z als hC hL kk => lv_aload hC.1 hC.2.1 hd (by rw [← ha]; exact hL.at e) kk))
    | aload_n k =>
      have e := nb hc; subst e
      exact sx_ldA h (fun w e ⟨a, ha⟩ hg => sx_rdS (by rw [List.map_cons, ha]) hg (fun p ee R s m args below meth c H locs cells slots Z als hC hL kk => lv_aload_n hC.1 hC.2.1 hd rfl (by rw [← ha]; exact hL.at e) kk))
    | istore k =>
      have e := nb hc; subst e
      exact sx_stI h (fun w r e hk hg => by subst e; exact sx_st k hk hg (fun p e R s m args below meth c H locs cells slots Z als hx hb hl kk => lv_istore hx hb hd hl hk rfl kk))
    | istore_n k =>
      have e := nb hc; subst e
      exact sx_stI h (fun w r e hk hg => by subst e; exact sx_st k.val hk hg (fun p e R s m args below meth c H locs cells slots Z als hx hb hl kk => lv_istore_n hx hb hd rfl hl hk rfl kk))
    | lstore k =>
      have e := nb hc; subst e
      exact sx_stJ h (fun w r e hk hg => by subst e; exact sx_lst hk hg (fun p e R s m args below meth c H locs cells slots Z als hx hb hl kk => lv_lstore hx hb hd hl hk rfl kk))
    | lstore_n k =>
      have e := nb hc; subst e
      exact sx_stJ h (fun w r e hk hg => by subst e; exact sx_lst hk hg (fun p e R s m args below meth c H locs cells slots Z als hx hb hl kk => lv_lstore_n hx hb hd rfl hl hk rfl kk))
    | astore k =>
      have e := nb hc; subst e
      exact sx_stA h (fun w r e hk ⟨a, ha⟩ hg => by
        subst e
        exact sx_st k hk hg (fun p e R s m args below meth c H locs cells slots Z als hx hb hl kk => by
          rw [List.map_cons, ha]; rw [ha] at kk
          exact lv_astore hx hb hd hl hk rfl kk))
    | astore_n k =>
      have e := nb hc; subst e
      exact sx_stA h (fun w r e hk ⟨a, ha⟩ hg => by
        subst e
        exact sx_st k.val hk hg (fun p e R s m args below meth c H locs cells slots Z als hx hb hl kk => by
          rw [List.map_cons, ha]; rw [ha] at kk
          exact lv_astore_n hx hb hd rfl hl hk rfl kk))
    | iinc k c =>
      have e := nb hc; subst e
      exact sx_ldI h (fun w e hg => by
        cases hb : stOk ls k with
        | false => rw [hb] at hg; exact hg.elim
        | true => rw [hb] at hg; exact sx_inc (by unfold stOk at hb; exact Nat.le_of_ble_eq_true hb) e hd hg)
    | iadd =>
      have e := nb hc; subst e
      exact sx_two h (fun a b r e hg => by subst e; exact sx_kS (sI (Int32.ofInt_add ..)) hg (fun p e R s m args below meth c H locs cells slots Z als hx hb kk => lv_iadd hx hb hd kk))
    | isub =>
      have e := nb hc; subst e
      exact sx_two h (fun a b r e hg => by subst e; exact sx_kS (sI (Int32.ofInt_sub ..)) hg (fun p e R s m args below meth c H locs cells slots Z als hx hb kk => lv_isub hx hb hd kk))
    | imul =>
      have e := nb hc; subst e
      exact sx_two h (fun a b r e hg => by subst e; exact sx_kS (sI (Int32.ofInt_mul ..)) hg (fun p e R s m args below meth c H locs cells slots Z als hx hb kk => lv_imul hx hb hd kk))
    | idiv =>
      have e := nb hc; subst e
      exact sx_two h (fun a b r e hg => by subst e; exact sx_kS (sI (i32_div hg.1.1 hg.1.2.1)) hg.2 (fun p e R s m args below meth c H locs cells slots Z als hx hb kk => lv_idiv hx hb hd (i32_ne0 hg.1.2.1 hg.1.2.2) kk))
    | irem =>
      have e := nb hc; subst e
      exact sx_two h (fun a b r e hg => by subst e; exact sx_kS (sI (i32_rem hg.1.1 hg.1.2.1)) hg.2 (fun p e R s m args below meth c H locs cells slots Z als hx hb kk => lv_irem hx hb hd (i32_ne0 hg.1.2.1 hg.1.2.2) kk))
    | iand =>
      have e := nb hc; subst e
      exact sx_two h (fun a b r e hg => by subst e; exact sx_kS (sI (Int32.ofInt_toInt _)) hg (fun p e R s m args below meth c H locs cells slots Z als hx hb kk => lv_iand hx hb hd kk))
    | ior =>
      have e := nb hc; subst e
      exact sx_two h (fun a b r e hg => by subst e; exact sx_kS (sI (Int32.ofInt_toInt _)) hg (fun p e R s m args below meth c H locs cells slots Z als hx hb kk => lv_ior hx hb hd kk))
    | ixor =>
      have e := nb hc; subst e
      exact sx_two h (fun a b r e hg => by subst e; exact sx_kS (sI (Int32.ofInt_toInt _)) hg (fun p e R s m args below meth c H locs cells slots Z als hx hb kk => lv_ixor hx hb hd kk))
    | ishl =>
      have e := nb hc; subst e
      exact sx_two h (fun a b r e hg => by subst e; exact sx_kS (sI (Int32.ofInt_toInt _)) hg (fun p e R s m args below meth c H locs cells slots Z als hx hb kk => lv_ishl hx hb hd kk))
    | ishr =>
      have e := nb hc; subst e
      exact sx_two h (fun a b r e hg => by subst e; exact sx_kS (sI (Int32.ofInt_toInt _)) hg (fun p e R s m args below meth c H locs cells slots Z als hx hb kk => lv_ishr hx hb hd kk))
    | iushr =>
      have e := nb hc; subst e
      exact sx_two h (fun a b r e hg => by subst e; exact sx_kS (sI (Int32.ofInt_toInt _)) hg (fun p e R s m args below meth c H locs cells slots Z als hx hb kk => lv_iushr hx hb hd rfl kk))
    | ineg =>
      have e := nb hc; subst e
      exact sx_one h (fun a r e hg => by subst e; exact sx_kS (sI (Int32.ofInt_neg ..)) hg (fun p e R s m args below meth c H locs cells slots Z als hx hb kk => lv_ineg hx hb hd kk))
    | i2l =>
      have e := nb hc; subst e
      exact sx_one h (fun a r e hg => by subst e; exact sx_kS (sJ rfl) hg.2 (fun p e R s m args below meth c H locs cells slots Z als hx hb kk => lv_i2l hx hb hd (i64_of32 hg.1) kk))
    | l2i =>
      have e := nb hc; subst e
      exact sx_oneJ h (fun a r e hg => by subst e; exact sx_kS (sI rfl) hg (fun p e R s m args below meth c H locs cells slots Z als hx hb kk => lv_l2i hx hb hd (i32_of64 a) kk))
    | ladd =>
      have e := nb hc; subst e
      exact sx_twoJ h (fun a b r e hg => by subst e; exact sx_kS (sJ (Int64.ofInt_add ..)) hg (fun p e R s m args below meth c H locs cells slots Z als hx hb kk => lv_ladd hx hb hd kk))
    | lsub =>
      have e := nb hc; subst e
      exact sx_twoJ h (fun a b r e hg => by subst e; exact sx_kS (sJ (Int64.ofInt_sub ..)) hg (fun p e R s m args below meth c H locs cells slots Z als hx hb kk => lv_lsub hx hb hd kk))
    | lmul =>
      have e := nb hc; subst e
      exact sx_twoJ h (fun a b r e hg => by subst e; exact sx_kS (sJ (Int64.ofInt_mul ..)) hg (fun p e R s m args below meth c H locs cells slots Z als hx hb kk => lv_lmul hx hb hd kk))
    | ldiv =>
      have e := nb hc; subst e
      exact sx_twoJ h (fun a b r e hg => by subst e; exact sx_kS (sJ (i64_div hg.1.1 hg.1.2.1)) hg.2 (fun p e R s m args below meth c H locs cells slots Z als hx hb kk => lv_ldiv hx hb hd (i64_ne0 hg.1.2.1 hg.1.2.2) kk))
    | lrem =>
      have e := nb hc; subst e
      exact sx_twoJ h (fun a b r e hg => by subst e; exact sx_kS (sJ (i64_rem hg.1.1 hg.1.2.1)) hg.2 (fun p e R s m args below meth c H locs cells slots Z als hx hb kk => lv_lrem hx hb hd (i64_ne0 hg.1.2.1 hg.1.2.2) kk))
    | land =>
      have e := nb hc; subst e
      exact sx_twoJ h (fun a b r e hg => by subst e; exact sx_kS (sJ (Int64.ofInt_toInt _)) hg (fun p e R s m args below meth c H locs cells slots Z als hx hb kk => lv_land hx hb hd kk))
    | lor =>
      have e := nb hc; subst e
      exact sx_twoJ h (fun a b r e hg => by subst e; exact sx_kS (sJ (Int64.ofInt_toInt _)) hg (fun p e R s m args below meth c H locs cells slots Z als hx hb kk => lv_lor hx hb hd kk))
    | lcmp =>
      have e := nb hc; subst e
      exact sx_twoJ h (fun a b r e hg => by subst e; exact sx_kS (sI (lcmp_of hg.1.1 hg.1.2).symm) hg.2 (fun p e R s m args below meth c H locs cells slots Z als hx hb kk => W.lcmp hx hb hd kk))
    | lushr =>
      have e := nb hc; subst e
      dsimp only at h
      split at h
      · exact sx_kS (sJ (Int64.ofInt_toInt _)) h (fun p e R s m args below meth c H locs cells slots Z als hx hb kk => lv_lushr hx hb hd rfl kk)
      · exact h.elim
    | lshl =>
      have e := nb hc; subst e
      dsimp only at h
      split at h
      · exact sx_kS (sJ (Int64.ofInt_toInt _)) h (fun p e R s m args below meth c H locs cells slots Z als hx hb kk => lv_lshl hx hb hd rfl kk)
      · exact h.elim
    | dup =>
      have e := nb hc; subst e
      dsimp only at h
      split at h
      · rename_i w r
        cases hb : Nat.beq (wid w) 1 with
        | false => rw [hb] at h; exact h.elim
        | true => rw [hb] at h; exact sx_k h (fun p e R s m args below meth c H locs cells slots Z als hx hb' kk => lv_dup hx hb' hd (by rw [cv_cat]; exact nb hb) kk)
      · exact h.elim
    | pop =>
      have e := nb hc; subst e
      dsimp only at h
      split at h
      · rename_i w r
        cases hb : Nat.beq (wid w) 1 with
        | false => rw [hb] at h; exact h.elim
        | true => rw [hb] at h; exact sx_k h (fun p e R s m args below meth c H locs cells slots Z als hx hb' kk => lv_pop hx hb' hd (by rw [cv_cat]; exact nb hb) kk)
      · exact h.elim
    | dup2 =>
      have e := nb hc; subst e
      dsimp only at h
      split at h
      · exact sx_k h (fun p e R s m args below meth c H locs cells slots Z als hx hb' kk => lv_dup2_2 hx hb' hd rfl kk)
      · rename_i a b r _
        cases hb : (Nat.beq (wid a) 1 && Nat.beq (wid b) 1) with
        | false => rw [hb] at h; exact h.elim
        | true =>
          rw [hb] at h
          rw [Bool.and_eq_true] at hb
          exact sx_k h (fun p e R s m args below meth c H locs cells slots Z als hx hb' kk => lv_dup2_11 hx hb' hd (by rw [cv_cat]; exact nb hb.1) (by rw [cv_cat]; exact nb hb.2) kk)
      · exact h.elim
    | goto off =>
      simp only [chkE, Bool.and_eq_true, Nat.beq_eq, decide_eq_true_eq] at hc
      obtain ⟨e, h1⟩ := hc; subst e
      exact sx_k h (fun p e R s m args below meth c H locs cells slots Z als hx hb kk => lv_goto hx hb hd (tg_ok h1) kk)
    | ifCond cc off =>
      simp only [chkE, Bool.and_eq_true, Nat.beq_eq, decide_eq_true_eq] at hc
      obtain ⟨e, h1⟩ := hc; subst e
      exact sx_one h (fun a r e hg => by subst e; exact sx_br0 h1 hg.1 hd hg.2.1 hg.2.2)
    | if_icmp cc off =>
      simp only [chkE, Bool.and_eq_true, Nat.beq_eq, decide_eq_true_eq] at hc
      obtain ⟨e, h1⟩ := hc; subst e
      exact sx_two h (fun a b r e hg => by subst e; exact sx_br h1 hg.1.1 hg.1.2 hd hg.2.1 hg.2.2)
    | tableswitch dd lo hi offs =>
      simp only [chkE, Bool.and_eq_true, decide_eq_true_eq, List.all_eq_true] at hc
      exact sx_one h (fun a r e hg => by subst e; exact sx_tsw hg.1 hd hc.1.1 hc.1.2 hc.2 hg.2)
    | lookupswitch dd ps =>
      simp only [chkE] at hc
      rw [Bool.and_eq_true, Bool.and_eq_true, decide_eq_true_eq, List.all_eq_true (l := ps.toList)] at hc
      exact sx_one h (fun a r e hg => by subst e; exact sx_lsw hg.1 hd hc.1.1 hc.1.2 (fun o ho => of_decide_eq_true (hc.2 o ho)) hg.2)
    | getfield k =>
      simp only [chkE, Bool.and_eq_true, Nat.beq_eq, beq_iff_eq, Nat.blt_eq] at hc
      obtain ⟨⟨⟨⟨⟨e, h1⟩, h2⟩, h3⟩, h4⟩, h5⟩ := hc; subst e
      dsimp only at h
      split at h
      · exact sx_gf hd h1 h2 h3 h4 h5 h
      · exact h.elim
    | putfield k =>
      simp only [chkE, Bool.and_eq_true, Nat.beq_eq, beq_iff_eq, Nat.blt_eq, Bool.not_eq_true'] at hc
      obtain ⟨⟨⟨⟨⟨⟨e, h1⟩, h2⟩, h3⟩, h4⟩, h5⟩, h6⟩ := hc; subst e
      exact sx_pf hd h1 h2 h3 h4 h5 h6 h
    | getstatic k =>
      simp only [chkE, Bool.and_eq_true, Nat.beq_eq, Nat.ble_eq] at hc
      obtain ⟨⟨⟨e, h1⟩, h2⟩, h3⟩ := hc; subst e
      exact sx_gs hd h1 h2 h3 h
    | iaload =>
      have e := nb hc; subst e
      dsimp only at h
      split at h
      · exact sx_rdI hd h
      · exact h.elim
    | caload =>
      have e := nb hc; subst e
      dsimp only at h
      split at h
      · split at h
        · rename_i e; exact sx_caldA e h.1 hd h.2
        · exact h.elim
      · exact h.elim
    | laload =>
      have e := nb hc; subst e
      dsimp only at h
      split at h
      · split at h
        · rename_i e; exact sx_laldA e h.1 hd h.2
        · exact h.elim
      · exact h.elim
    | aaload =>
      have e := nb hc; subst e
      dsimp only at h
      split at h
      · split at h
        · rename_i e; exact sx_aaldA e h.1 hd h.2
        · exact h.elim
      · exact h.elim
    | iastore =>
      have e := nb hc; subst e
      dsimp only at h
      split at h
      · exact sx_wrI hd h
      · exact h.elim
    | lastore =>
      have e := nb hc; subst e
      dsimp only at h
      split at h
      · split at h
        · rename_i e; exact sx_last hd e h.1 h.2
        · exact h.elim
      · exact h.elim
    | arraylength =>
      have e := nb hc; subst e
      dsimp only at h
      split at h
      · exact sx_lenA hd h
      · exact h.elim
    | invokevirtual k =>
      simp only [chkE, Bool.and_eq_true, Nat.beq_eq] at hc
      obtain ⟨⟨e, h1⟩, h2⟩ := hc; subst e
      refine sx_inv hA hd1 (fun r σ h => h) h (fun d' K e k1 k2 k3 k4 k5 k6 k7 => ?_)
      subst e
      exact sx_callV hd h1 h2 (by omega) hA k1 k2 k3 k4 k5 k6 k7
    | invokestatic k =>
      simp only [chkE, Bool.and_eq_true, Nat.beq_eq] at hc
      obtain ⟨e, h1⟩ := hc; subst e
      dsimp only at h
      split at h
      · split at h
        · exact h.elim
        · exact sx_acp hd h1 (by omega) h
      · cases hb : Nat.beq d 1000 with
        | false => rw [hb] at h; exact h.elim
        | true =>
          rw [hb] at h
          have e := nb hb; subst e
          exact hp rfl E M pc k ls st σ Q hd ⟨_, _, _, _, he⟩ (nb h1) h
      · rename_i z0 z1
        have h1 : (memS MLk (own M) k x && memN mSta x) = true := by
          split at h1
          · exact absurd rfl z0
          · exact absurd rfl z1
          · exact h1
        rw [Bool.and_eq_true] at h1
        refine sx_inv hA hd1 (fun r σ h => h) h (fun d' K e k1 k2 k3 k4 k5 k6 k7 => ?_)
        subst e
        exact sx_callS hd h1.1 h1.2 (by omega) hA k1 k2 k3 k4 k6 k7
    | ireturn =>
      simp only [chkE, Bool.and_eq_true, Nat.beq_eq, Bool.or_eq_true] at hc
      obtain ⟨⟨e, h1⟩, h2⟩ := hc; subst e
      dsimp only at h
      split at h
      · rename_i w
        split at h
        · exact sx_end (r := rI w) rfl ⟨hd, Or.inr ⟨by unfold rty; rw [← h1]; rfl, h.1⟩⟩ h.2
        · rename_i z3
          have hz : z = 1 := by
            rcases h2 with h2 | h2
            · exact h2
            · exact absurd h2 (by first | exact z3 | exact fun q => z3 q)
          exact sx_end (r := rI w) rfl ⟨hd, Or.inl (by unfold rty; rw [← h1, hz]; rfl)⟩ h
      · exact h.elim
    | lreturn =>
      simp only [chkE, Bool.and_eq_true, Nat.beq_eq] at hc
      obtain ⟨e, h1⟩ := hc; subst e
      dsimp only at h
      split at h
      · rename_i w
        exact sx_end (r := rJ w) rfl ⟨hd, by unfold rty; rw [h1]; rfl⟩ h
      · exact h.elim
    | return_ =>
      simp only [chkE, Bool.and_eq_true, Nat.beq_eq] at hc
      obtain ⟨e, h1⟩ := hc; subst e
      dsimp only at h
      split at h
      · exact sx_end (r := rV) rfl ⟨hd, by unfold rty; rw [h1]; rfl⟩ h
      · exact h.elim
    | invokespecial k => exact absurd hc (by simp [chkE])
    | _ => exact h.elim
/-- a place where the walk is left for another -/
theorem sx_exit (h : E pc ls st σ) : SX l G E d M pc ls st σ Q :=
  fun p e R s m args below meth c cb kc sb ks e0 Z hC hc1 hs1 hend H locs als hR hl hL hn hz hk => hend.2 pc ls st σ als H locs h hR hl hL hz
theorem sx_ev (hA : AdOk (gA G) (gB G)) (hp : d = 1000 → PRS l G) (hd1 : d ≤ 1000) (h : Ev d M pc ls st σ Q) : SX l G E d M pc ls st σ Q := by
  refine h (fun d M pc ls st σ Q => d ≤ 1000 → (d = 1000 → PRS l G) → ∀ E, SX l G E d M pc ls st σ Q) (fun d M pc ls st σ Q hs hd hp E => ?_) hd1 hp E
  refine sx_stp hA hp hd (stp_m (fun x a σ K K' hk => ?_) (fun pc ls st σ q => q hd hp E) (fun _ _ q => q) hs)
  unfold clX
  cases d with
  | zero => exact id
  | succ d => exact fun q => (q (by omega) (fun e => absurd e (by omega)) noE).mono hk
/-- from here to the next cut, seen from the machine -/
def wpX (X Y : Cfg) (d M : Nat) (Q : RV → Mem → Prop) : Nat → Nat → Lo → List AV → Mem → Prop
  | 0, pc, ls, st, σ => Y d M pc ls st σ Q
  | n + 1, pc, ls, st, σ => bif cuts M pc then Y d M pc ls st σ Q else stp (clX X d) (wpX X Y d M Q n) Q d M pc ls st σ
theorem wpX_sx (hA : AdOk (gA G) (gB G)) (hp : d = 1000 → PRS l G) (hd1 : d ≤ 1000) : ∀ (n pc : Nat) (ls : Lo) (st : List AV) (σ : Mem), wpX (SX l G noE) (SX l G E) d M Q n pc ls st σ → SX l G E d M pc ls st σ Q
  | 0, _, _, _, _, h => h
  | n + 1, pc, ls, st, σ, h => by
    unfold wpX at h
    cases hc : cuts M pc with
    | true => rw [hc] at h; exact h
    | false =>
      rw [hc] at h
      exact sx_stp hA hp hd1 (stp_m (fun x a σ K K' hk => by
        unfold clX
        cases d with
        | zero => exact id
        | succ d => exact fun q => q.mono hk) (fun pc ls st σ q => wpX_sx hA hp hd1 n pc ls st σ q) (fun _ _ q => q) h)
theorem blkX (hA : AdOk (gA G) (gB G)) (hp : d = 1000 → PRS l G) (hd1 : d ≤ 1000) (n : Nat) (h : stp (clX (SX l G noE) d) (wpX (SX l G noE) (SX l G E) d M Q n) Q d M pc ls st σ) : SX l G E d M pc ls st σ Q :=
  sx_stp hA hp hd1 (stp_m (fun x a σ K K' hk => by
        unfold clX
        cases d with
        | zero => exact id
        | succ d => exact fun q => q.mono hk) (fun pc ls st σ q => wpX_sx hA hp hd1 n pc ls st σ q) (fun _ _ q => q) h)
abbrev CS (l : Launch) (G : GP) (d M : Nat) (args : List AV) (σ : Mem) (K : RV → Mem → Prop) : Prop := SX l G noE d M 0 (entL args (mtb M).2.1) [] σ K
theorem clS {args : List AV} {K : RV → Mem → Prop} (hA : AdOk (gA G) (gB G)) (hd : d < 1000) (h : Cl d M args σ K) : CS l G d M args σ K := sx_ev hA (fun e => absurd e (Nat.ne_of_lt hd)) (Nat.le_of_lt hd) h
end ALL
