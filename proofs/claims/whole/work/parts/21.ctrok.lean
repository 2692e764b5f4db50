/-! ===== THE CONSTRUCTORS: what the run by number says holds of the machine ===== -/
def Kg (G : GP) (U : State) : Prop := (∃ kA : Class, U.vm.classes[gT G 2]? = some kA ∧ kA.kind = .array (gT G 0) (.array .int)) ∧ ∀ q ∈ kNLk, va_Nw (kNLw q) U
theorem Kg.warm {G : GP} {s U : State} (hW : s.WarmedH U.vm) (h : Kg G s) : Kg G U := by
  obtain ⟨⟨kA, h1, h2⟩, h3⟩ := h
  obtain ⟨k', hk', he⟩ := hW.alike.2.2 _ _ h1
  exact ⟨⟨k', hk', by rw [he]; exact h2⟩, fun q hq => va_Nw.warmM hW (h3 q hq)⟩
def kPc (G : GP) (as : List AV) (nx : Nat) (F : KF) : Array Value → State → Prop := va_Pc (as.map (cv (gA G))) (fun U => CW G nx F U.heap ∧ Kx G U ∧ Kg G U)
def kQc (G : GP) (nx : Nat) (F : KF) : Array Value → State → Outcome → State → Prop := fun _ _ o t => o = .returned none ∧ CW G nx F t.heap
def rmK (d mc ms : Nat) : Room := { frames := d, cells := mc, slots := ms, locals := 64 * d }
def mckN (x : Nat) : Bool := (yof x).cls == cnm (own x) && plainFor (yof x) && !((yof x).cls == "java/lang/invoke/MethodHandle") && !((yof x).cls == "java/lang/invoke/VarHandle") && Nat.ble (mtb x).2.1 45 && decide ((parseMethodDescriptor (yof x).desc).map (fun d => d.parameters.length) = some ((mtb x).1 - 1)) && Nat.ble 1 (mtb x).1 && (yof x).name == "<init>" && Nat.beq (mtb x).2.2.1 0
set_option maxRecDepth 100000 in
theorem mN_ok : mIni.all mckN = true := by decide +kernel
set_option maxRecDepth 100000 in
theorem f_ref : ∀ x, x < 12 → ∀ y, y < fN x → fg x y = 1 → (parseFieldDescriptor (fT x y).2.2.1).map FieldType.isReference = some true := by decide +kernel
theorem ref_fit {ty : FieldType} (h : ty.isReference = true) (a : Nat) : narrow ty (.ref a) = .ref a ∧ fits ty (.ref a) = true := by
  cases ty <;> first | exact ⟨rfl, rfl⟩ | (simp [FieldType.isReference] at h)
set_option maxRecDepth 100000 in
theorem f_slot : ∀ x, x < 12 → ∀ a, a < 101 → okObj a x = true → slt a = fN x := by decide +kernel
theorem ent_k {M pc : Nat} {e : Ent} (hM : M ∈ mL_law :: mIni) (h : lkp (kco M) pc = some e) : decode (byt M) pc = .ok (e.1, e.2.1) ∧ chkC (own M) pc e = true := by
  have h3 := List.all_eq_true.mp (kck_all M hM) _ (lkp_mem _ h)
  rw [Bool.and_eq_true, decide_eq_true_eq] at h3
  exact h3
section CTO
variable {G : GP} {l : Launch}
def CxK (G : GP) (d M : Nat) (p : Program) (R : Room) (s : State) (m : MethodId) (args : Array Value) (meth : Method) (c : Code) : Prop :=
  p.tables.exec = Jvm.exec ∧ c.code = byt M ∧ c.maxLocals = (mtb M).2.1 ∧ s.vm.findClass (cnm (own M)) = some m.cls ∧ (∀ w ∈ TB, w.before args s = true) ∧ Kx G s ∧ Kg G s ∧ AdOk (gA G) (gB G) ∧ (M ∈ mIni → meth.name = "<init>") ∧ d ≤ R.frames ∧ 64 * d ≤ R.locals
/-- from a place of a constructor on -/
def rE (M : Nat) : Nat → List Value → Prop := fun pc S => decode (byt M) pc = .ok (.return_, 1) ∧ S = []
def KSX (l : Launch) (G : GP) (E : Nat → List Value → Prop) (d M pc : Nat) (ls st : List AV) (nx : Nat) (F : KF) (nx' : Nat) (F' : KF) : Prop :=
  ∀ (p : Program) (e : Env) (R : Room) (s : State) (m : MethodId) (args : Array Value) (below : List Frame) (meth : Method) (c : Code) (H : Heap) (locs : List Loc) (cells slots : Nat) (Z : State → Prop) (als : Array Slot),
    CxK G d M p R s m args meth c → CW G nx F H → (∀ q ∈ locs, gB G ≤ q.base) → (∀ (k : Nat) (v : AV), ls[k]? = some v → als[k]? = some (.val (cv (gA G) v))) → als.size = (mtb M).2.1 → cells + (nx' - nx) ≤ R.cells → slots + (sl nx' - sl nx) ≤ R.slots →
    (∀ (pc' : Nat) (S : List Value) (H' : Heap) (locs' : List Loc), CW G nx' F' H' → (∀ q ∈ locs', gB G ≤ q.base) → E pc' S → W p l e R s m args below meth c H' locs' (cells + (nx' - nx)) (slots + (sl nx' - sl nx)) Z (F0 m pc' als S)) →
    W p l e R s m args below meth c H locs cells slots Z (F0 m pc als (st.map (cv (gA G))))
variable {E : Nat → List Value → Prop} {d M pc pc' : Nat} {ls st st' : List AV} {nx nx' : Nat} {F F' : KF}
theorem ks_same (h : KSX l G E d M pc' ls st' nx F nx' F') (hw : ∀ (p : Program) (e : Env) (R : Room) (s : State) (m : MethodId) (args : Array Value) (below : List Frame) (meth : Method) (c : Code) (H : Heap) (locs : List Loc) (cells slots : Nat) (Z : State → Prop) (als : Array Slot), CxK G d M p R s m args meth c → CW G nx F H → (∀ (k : Nat) (v : AV), ls[k]? = some v → als[k]? = some (.val (cv (gA G) v))) → als.size = (mtb M).2.1 →
      W p l e R s m args below meth c H locs cells slots Z (F0 m pc' als (st'.map (cv (gA G)))) → W p l e R s m args below meth c H locs cells slots Z (F0 m pc als (st.map (cv (gA G))))) : KSX l G E d M pc ls st nx F nx' F' :=
  fun p e R s m args below meth c H locs cells slots Z als hC hW hl hL hn hc hs hend => hw p e R s m args below meth c H locs cells slots Z als hC hW hL hn (h p e R s m args below meth c H locs cells slots Z als hC hW hl hL hn hc hs hend)
/-- something is made -/
theorem ks_grow {nx1 : Nat} {F1 : KF} (h1 : nx ≤ nx1) (h2 : nx1 ≤ nx') (h : KSX l G E d M pc' ls st' nx1 F1 nx' F') (hw : ∀ (p : Program) (e : Env) (R : Room) (s : State) (m : MethodId) (args : Array Value) (below : List Frame) (meth : Method) (c : Code) (H : Heap) (locs : List Loc) (cells slots : Nat) (Z : State → Prop) (als : Array Slot), CxK G d M p R s m args meth c → CW G nx F H → (∀ q ∈ locs, gB G ≤ q.base) → als.size = (mtb M).2.1 → cells + (nx1 - nx) ≤ R.cells → slots + (sl nx1 - sl nx) ≤ R.slots →
      (∀ (H' : Heap) (locs' : List Loc), CW G nx1 F1 H' → (∀ q ∈ locs', gB G ≤ q.base) → W p l e R s m args below meth c H' locs' (cells + (nx1 - nx)) (slots + (sl nx1 - sl nx)) Z (F0 m pc' als (st'.map (cv (gA G))))) → W p l e R s m args below meth c H locs cells slots Z (F0 m pc als (st.map (cv (gA G))))) : KSX l G E d M pc ls st nx F nx' F' := by
  intro p e R s m args below meth c H locs cells slots Z als hC hW hl hL hn hc hs hend
  have s1 := sl_le h1
  have s2 := sl_le h2
  refine hw p e R s m args below meth c H locs cells slots Z als hC hW hl hn (by omega) (by omega) (fun H' locs' hW' hl' => ?_)
  refine h p e R s m args below meth c H' locs' _ _ Z als hC hW' hl' hL hn (by omega) (by omega) (fun pc2 S2 H2 locs2 hW2 hl2 hd => ?_)
  rw [show cells + (nx1 - nx) + (nx' - nx1) = cells + (nx' - nx) by omega, show slots + (sl nx1 - sl nx) + (sl nx' - sl nx1) = slots + (sl nx' - sl nx) by omega]
  exact hend pc2 S2 H2 locs2 hW2 hl2 hd
theorem ctr_met {x : Nat} {as : List AV} (hx : x ∈ mIni) (hA : AdOk (gA G) (gB G)) (hw : widS as ≤ (mtb x).2.1) (hsz : as.length ≤ (mtb x).2.1) (h1 : ∀ (k : Nat) (v : AV), as[k]? = some v → (entL as (mtb x).2.1)[k]? = some (some v)) (h : KSX l G (rE x) d x 0 as [] nx F nx' F') :
    Met l (yof x) (mws x) (rmK d (nx' - nx) (sl nx' - sl nx)) (kPc G as nx F) (kQc G nx' F') (nx' - nx) (sl nx' - sl nx) (fun q => gB G ≤ q) := by
  have hck := List.all_eq_true.mp mN_ok x hx
  simp only [mckN, Bool.and_eq_true, decide_eq_true_eq, Nat.ble_eq, Nat.beq_eq, beq_iff_eq] at hck
  obtain ⟨⟨⟨⟨⟨⟨⟨⟨hcls, hpl⟩, -⟩, -⟩, -⟩, -⟩, -⟩, hnm⟩, hrt⟩ := hck
  refine va_MetF (cc := byt x) (maxL := (mtb x).2.1) (ret := rty x) hpl rfl ?_
  intro p e s m args' below meth c s₁ B hml hv
  obtain ⟨rfl, hR, hK, hKg⟩ := hv
  have hts : ∀ w ∈ mws x, w.before (as.map (cv (gA G))).toArray s = true := atoms_spec (ws := mws x) B.pre
  have hown : s.vm.findClass (cnm (own x)) = some m.cls := hcls ▸ findClass_of_methodNamed B.named
  have hlocks := B.notSynchronized
  have hr := B.returns
  have hin : meth.name = "<init>" := (name_of_methodNamed B.named B.method).1.trans hnm
  rw [lg_entry_eq]
  have hL := LR.entry (gA G) as hw
  have key := h p e (rmK d (nx' - nx) (sl nx' - sl nx)) s m (as.map (cv (gA G))).toArray below meth c s.heap [] 0 0 (MQ below (kQc G nx' F') (as.map (cv (gA G))).toArray s (nx' - nx) (sl nx' - sl nx) (fun q => gB G ≤ q)) _
    ⟨B.exec, B.bytes, hml, hown, fun w hw => hts w (List.mem_cons_of_mem _ hw), hK, hKg, hA, fun _ => hin, Nat.le_refl _, Nat.le_refl _⟩ hR (fun q hq => by cases hq) (fun k v hk => hL.at (h1 k v hk)) (by rw [hL.1, entL_len as _ hw]) (by show 0 + _ ≤ _; rw [Nat.zero_add]; exact Nat.le_refl _) (by show 0 + _ ≤ _; rw [Nat.zero_add]; exact Nat.le_refl _)
    (fun pc2 S2 H2 locs2 hW2 hl2 hd => by
      obtain ⟨hd, rfl⟩ := hd
      rw [Nat.zero_add, Nat.zero_add]
      exact W.vret B.exec B.bytes (hr.trans (by unfold rty; rw [hrt]; rfl)) (fun t ht hW => ⟨rfl, by rw [ht]; exact hW2⟩) hl2 hd hlocks)
  exact key
theorem entL_w1 : ∀ (as : List AV) (n : Nat), (∀ v ∈ as, wid v = 1) → widS as ≤ n → ∀ (k : Nat) (v : AV), as[k]? = some v → (entL as n)[k]? = some (some v)
  | [], _, _, _, k, v, h => by simp at h
  | w :: r, n, hw, hn, k, v, h => by
    have h1 : wid w = 1 := hw w List.mem_cons_self
    have h2 : wid w + widS r ≤ n := hn
    match n, h2 with
    | 0, h2 => omega
    | n + 1, h2 =>
      have e : entL (w :: r) (n + 1) = some w :: entL r n := by
        match w, h1 with
        | .inl _, _ => rfl
        | .inr (.inl _), _ => rfl
        | .inr (.inr (.inl _)), h1 => simp [wid] at h1
        | .inr (.inr (.inr _)), _ => rfl
      rw [e]
      cases k with
      | zero => simpa using h
      | succ k => simpa using entL_w1 r n (fun v hv => hw v (List.mem_cons_of_mem _ hv)) (by omega) k v (by simpa using h)
/-- a constructor is called -/
theorem ks_call {x y k z : Nat} {a : Nat} {tl : List AV} {nx1 : Nat} {F1 : KF} (hd : decode (byt M) pc = .ok (.invokespecial k, 3)) (hz : memS kMLk (own M) k x = true ∨ memS kNLk (own M) k x = true) (hx : memN mIni x = true) (hy : y ≤ st.length) (hW8 : widS (st.drop y) ≤ 8) (hyx : y = (mtb x).1) (hw : widS (st.take y).reverse ≤ (mtb x).2.1) (hw1 : ∀ v ∈ (st.take y).reverse, wid v = 1) (htl : (st.take y).reverse = .inr (.inl a) :: tl)
    (hcal : KSX l G (rE x) d x 0 (.inr (.inl a) :: tl) [] nx F nx1 F1) (hle : nx ≤ nx1) (hle2 : nx1 ≤ nx') (h : KSX l G E (d + 1) M (pc + 3) ls (st.drop y) nx1 F1 nx' F') : KSX l G E (d + 1) M pc ls st nx F nx' F' := by
  have hxm := memN_ok _ hx
  have hck := List.all_eq_true.mp mN_ok x hxm
  simp only [mckN, Bool.and_eq_true, decide_eq_true_eq, Nat.ble_eq, Nat.beq_eq, beq_iff_eq, Bool.not_eq_true'] at hck
  obtain ⟨⟨⟨⟨⟨⟨⟨⟨hcls, hpl⟩, hm1⟩, hm2⟩, h45⟩, hpar⟩, hone⟩, hnm⟩, hrt⟩ := hck
  have hmh : (yof x).cls ≠ "java/lang/invoke/MethodHandle" := by simpa using hm1
  have hvh : (yof x).cls ≠ "java/lang/invoke/VarHandle" := by simpa using hm2
  have hrty : rty x = none := by unfold rty; rw [hrt]; rfl
  have hlen : tl.length + 1 = y := by
    have := congrArg List.length htl
    simp only [List.length_reverse, List.length_take, List.length_cons] at this
    omega
  rw [htl] at hw hw1
  refine ks_grow hle hle2 h (fun p e R s m args below meth c H locs cells slots Z als hC hW hl hn hc hs kk => ?_)
  obtain ⟨hex, hbb, hml, hown, hts, hKx, hKg, hA, hin, hfr, hlo⟩ := hC
  have hM := ctr_met hxm hA hw (by
    have : ∀ q : List AV, (∀ v ∈ q, wid v = 1) → q.length ≤ widS q := by
      intro q
      induction q with
      | nil => intro _; exact Nat.le_refl _
      | cons v r ih =>
        intro hq
        have := ih (fun v hv => hq v (List.mem_cons_of_mem _ hv))
        have h1 := hq v List.mem_cons_self
        show r.length + 1 ≤ wid v + widS r
        omega
    exact Nat.le_trans (this _ hw1) hw) (entL_w1 _ _ hw1 hw) hcal
  have hwI : ∀ w ∈ wIni x, w ∈ TB := fun w hw => kii_ok (List.mem_flatMap.mpr ⟨x, hxm, hw⟩)
  have hG : GoodIn TB (mws x) := by
    intro w hw
    have : w ∈ TB := by
      rcases List.mem_cons.mp hw with rfl | h
      · exact hwI _ (by simp [wIni])
      · exact h
    exact ⟨this, good_TB this⟩
  have hmw : mws x = Cond.code (yof x) (byt x) (mtb x).2.1 none :: TB := by unfold mws; rw [hrty]
  have hini : (Cond.initialized (yof x).cls).before args s = true := by rw [hcls]; exact hts _ (hwI _ (by simp [wIni]))
  have hinst : (Cond.instanceMethod (yof x)).before args s = true := hts _ (hwI _ (by simp [wIni]))
  have hWs : ∀ q : List AV, ((q.map (cv (gA G))).map fun v => v.category).sum = widS q := by
    intro q
    induction q with
    | nil => rfl
    | cons v r ih => simp only [List.map_cons, List.sum_cons, ih, cv_cat]; rfl
  have hstack : st.map (cv (gA G)) = (tl.map (cv (gA G))).reverse ++ .ref (gA G a) :: (st.drop y).map (cv (gA G)) := by
    rw [st_split (cv (gA G)) y, htl]
    simp [cv]
  have hpre : PreS s H (kPc G (.inr (.inl a) :: tl) nx F) (.ref (gA G a) :: tl.map (cv (gA G))) := ⟨fun _ _ _ _ h => h, fun U hU hW' => ⟨rfl, by rw [hU]; exact hW, Kx.moved hW'.alike hKx, Kg.warm hW' hKg⟩⟩
  have hrun : va_Run p l e R s m args below meth c H locs cells slots (nx1 - nx) (sl nx1 - sl nx) (F0 m pc als (st.map (cv (gA G)))) ((st.drop y).map (cv (gA G))) (kQc G nx1 F1 (Value.ref (gA G a) :: tl.map (cv (gA G))).toArray) (fun q => gB G ≤ q) := by
    rcases hz with hz | hz
    · exact va_runI (cc := byt M) (nL := (mtb M).2.1) (Ts := TB) (own := cnm (own M)) (b := gA G a) (As := tl.map (cv (gA G))) ⟨hex, hbb, hml, hown, hts⟩ hM (cwI (ws' := TB) ((mtb x).1 - 1) hts hG hmw rfl rfl hini (hts _ (kml_ok (List.mem_map.mpr ⟨_, memS_ok _ hz, rfl⟩))) hinst hnm ⟨hmh, hvh, hpar⟩ ⟨by show d + 1 ≤ _; exact hfr, by show 8 + (_ + 11) + 64 * d ≤ _; omega⟩)
        hpre rfl (by rw [List.length_map]; omega) hn hstack (by show 2 * 0 + _ ≤ 8; rw [hWs]; omega) hd ⟨hc, hs⟩
    · exact va_runIN (cc := byt M) (nL := (mtb M).2.1) (Ts := TB) (own := cnm (own M)) (b := gA G a) (As := tl.map (cv (gA G))) ⟨hex, hbb, hml, hown, hts⟩ hM ⟨va_cnB (ws' := TB) ((mtb x).1 - 1) hts hG hmw rfl rfl (hKg.2 _ (memS_ok _ hz)) hini ⟨hmh, hvh, hpar⟩ ⟨by show d + 1 ≤ _; exact hfr, by show 8 + (_ + 11) + 64 * d ≤ _; omega⟩, hnm, hinst⟩
        hpre rfl (by rw [List.length_map]; omega) hn hstack (by show 2 * 0 + _ ≤ 8; rw [hWs]; omega) hd ⟨hc, hs⟩
  intro T hT X
  obtain ⟨v, st₀, t, T', L, h0, X', hL', e1, e2, ⟨hv, hR'⟩, stp⟩ := hrun T hT X
  cases hv
  obtain ⟨t2, a1, b1⟩ := kk T'.heap (locs ++ L) (by rw [e1]; exact hR') (fun q hq => by
    rcases List.mem_append.mp hq with h | h
    · exact hl q h
    · exact hL' q h) T' rfl X'
  exact ⟨t2, stp t2 a1, b1⟩
theorem ks_put {x y k a : Nat} {v : AV} {r : List AV} {ty : FieldType} (hM : M ∈ mIni) (hd : decode (byt M) pc = .ok (.putfield k, 3)) (hm : memF kFLk (own M) k x y = true) (hx : x < 12) (hy : y < fN x) (hoc : oC x = cnm (own M)) (hdc : (fT x y).1 = cnm (own M)) (ho : okObj a x = true) (ha : a < nx) (hp : parseFieldDescriptor (fT x y).2.2.1 = some ty) (hn : narrow ty (cv (gA G) v) = cv (gA G) v) (hf : fits ty (cv (gA G) v) = true)
    (h : KSX l G E d M (pc + 3) ls r nx ((a, y, v) :: F) nx' F') (hle : nx ≤ nx') : KSX l G E d M pc ls (v :: .inr (.inl a) :: r) nx F nx' F' := by
  refine ks_grow (Nat.le_refl _) hle h (fun p e R s m args below meth c H locs cells slots Z als hC hW hl hn2 hc hs kk => ?_)
  obtain ⟨hex, hbb, hml, hown, hts, hKx, hKg, hA, hin, hfr, hlo⟩ := hC
  have h4 := hW.2.2.1 a (okObj_new ho) ha
  have hsh : ∃ w', shp a = (4, Int.ofNat x, w') := by
    have ho' := ho
    unfold okObj at ho'
    split at ho'
    · rename_i n w' e
      have := eq_of_beq ho'
      subst this
      exact ⟨w', e⟩
    · cases ho'
  obtain ⟨w', hsh⟩ := hsh
  unfold CWc at h4
  rw [hsh] at h4
  obtain ⟨cell, q1, q2, q3, q4⟩ := h4
  obtain ⟨hS, hfc, kC, hkC, hkind⟩ := hKx.1 x hx
  obtain ⟨cf, kf, fi, f, hi, hsl⟩ := hS y hy
  have hlay := hts _ (u_in hx _ (u_in_lay hy))
  have hst := (u_facts hfc hkC (u_lays hts (u_in hx) hy) hi).1
  have hap : ∀ i j, i < fN x → j < fN x → i ≠ j → gI G x i ≠ gI G x j := by
    intro i j hi' hj' hne
    obtain ⟨_, _, _, fa, hia, ea⟩ := hS i hi'
    obtain ⟨_, _, _, fb, hib, eb⟩ := hS j hj'
    rw [← ea, ← eb]
    refine u_apart (u_lays hts (u_in hx) hi') (u_lays hts (u_in hx) hj') hia hib ?_
    obtain ⟨t1, ht1⟩ := Option.isSome_iff_exists.mp (f_desc x hx i hi').2.2.2
    obtain ⟨t2, ht2⟩ := Option.isSome_iff_exists.mp (f_desc x hx j hj').2.2.2
    rw [(State.fieldFound?_type hia ht1).1, (State.fieldFound?_type hib ht2).1]
    exact f_names x hx i hi' j hj' hne
  have hlt : f.slot < cell.slots.size := by rw [hsl]; exact k2_hasslot (q4 y hy)
  have hfl := hts _ (kfl_ok (List.mem_map.mpr ⟨_, memF_ok _ hm, rfl⟩))
  have fin : ∀ (H' : Heap) (locs' : List Loc), H'[gA G a]? = some (cell.setSlot f.slot (cv (gA G) v)) → H'.size = H.size → (∀ q : Nat, q ≠ gA G a → H'[q]? = H[q]?) → (∀ q ∈ locs', gB G ≤ q.base) → W p l e R s m args below meth c H' locs' cells slots Z (F0 m (pc + 3) als (r.map (cv (gA G)))) := by
    intro H' locs' e1 e2 e3 hl'
    rw [hsl] at e1
    have key := kk H' locs' (CW.put hW ho ha hy hA (fun V hV => by
      obtain ⟨cell', q1', q2', q3', q4'⟩ := hV
      cases q1.symm.trans q1'
      exact ⟨_, e1, q2, q3, t_set q4' hap hy (cv (gA G) v)⟩) e2 e3) hl'
    rw [Nat.sub_self, Nat.sub_self, Nat.add_zero, Nat.add_zero] at key
    exact key
  have hb3 : gB G ≤ gA G a := by have := hA.2 a (okObj_new ho); omega
  unfold u_lay at hlay
  cases hfin : (fT x y).2.2.2 with
  | false =>
    rw [if_neg (by rw [hfin]; decide)] at hlay
    have h6 := u_store hfc hkC hkind hlay hi hp hn hf
    exact W.putK hex hbb (f := f) ⟨hown, hfl, ⟨_, _, _, hi⟩, hst⟩ (by rw [q2]; exact h6) q1 q3 hlt rfl rfl hd (fun H' e1 e2 e3 => fin H' _ e1 e2 e3 (t_lc hl hb3))
  | true =>
    rw [if_pos hfin] at hlay
    have hcf : m.cls = cf := by
      obtain ⟨_, _, c', _, _, _, -, -, hf', -, -, -, hown2, -⟩ := Cond.laysFinal_spec hlay
      have e1 : c' = cf := by have := hi.symm.trans hf'; simp at this; exact this.1.symm
      rw [hdc] at hown2
      rw [← e1]; exact Option.some.inj (hown.symm.trans hown2)
    have h6 := u_fits hfc hkC hkind (Or.inr hlay) hi hp hn hf
    exact W.putFinK hex hbb hown hfl hi hst hcf (hin hM) (by rw [q2]; exact h6) q1 q3 hlt rfl rfl hd (fun H' e1 e2 e3 => fin H' _ e1 e2 e3 (t_lc hl hb3))
end CTO
