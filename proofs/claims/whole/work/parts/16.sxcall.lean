/-! ===== SOUNDNESS: System.arraycopy, and calls ===== -/
section CPY
theorem i32_nn {x : Int} (h0 : 0 ≤ x) (h1 : x < 2147483648) : (Int32.ofInt x).toInt = x ∧ (Int32.ofInt x).toNatClampNeg = x.toNat ∧ ¬ Int32.ofInt x < 0 := ⟨i32_to ⟨by omega, by omega⟩, (i32_ix h0 h1).1, (i32_ix h0 h1).2⟩
theorem cpy_va {f g : Int → Int} {sp dp n : Int} (h0 : 0 ≤ sp) (h1 : 0 ≤ dp) (h2 : 0 ≤ n) (j : Nat) : va_cpy (fun j => f (Int.ofNat j)) (fun j => g (Int.ofNat j)) sp.toNat dp.toNat n.toNat j = cpy f g sp dp n (Int.ofNat j) := by
  unfold va_cpy cpy
  have e : Int.ofNat j = ((j : Nat) : Int) := rfl
  by_cases h : dp.toNat ≤ j ∧ j < dp.toNat + n.toNat
  · rw [if_pos h, if_pos (by rw [e]; omega)]
    show f (Int.ofNat (sp.toNat + (j - dp.toNat))) = f (sp + (Int.ofNat j - dp))
    congr 1
    show (((sp.toNat + (j - dp.toNat) : Nat)) : Int) = sp + (((j : Nat) : Int) - dp)
    omega
  · rw [if_neg h, if_neg (by rw [e]; omega)]
variable {G : GP} {E : Nat → Lo → List AV → Mem → Prop} {l : Launch} {d M pc pc' : Nat} {ls ls' : Lo} {st st' : List AV} {σ σ' : Mem} {Q : RV → Mem → Prop}
theorem sx_cpyG {a b : Nat} {n dp sp : Int} {k : Nat} {nb wb : Int} {na : Nat} {f : Int → Int} (hd : decode (byt M) pc = .ok (.invokestatic k, 3)) (hm : memP ACk (own M) k = true) (hdp : 1 ≤ d) (eb : shp b = (0, nb, wb))
    (hA : ∀ (s : State) (H : Heap), Kx G s → AdOk (gA G) (gB G) → Rel G σ H → rdc s H (gA G a) .int na (fun j => .int (Int32.ofInt (f (Int.ofNat j)))))
    (h0 : 0 ≤ sp ∧ 0 ≤ dp ∧ 0 ≤ n) (h1 : sp + n ≤ Int.ofNat na) (h2 : dp + n ≤ nb) (hna : na ≤ 100000) (h : SX l G E d M (pc + 3) ls [] (su σ b (cpy f (σ b) sp dp n)) Q) : SX l G E d M pc ls [.inl n, .inl dp, .inr (.inl b), .inl sp, .inr (.inl a)] σ Q := by
  have hb : b < 101 := shp_lt (by rw [eb]; simp)
  have hb2 : 11 ≤ b := shp_new b hb (by rw [eb]; simp)
  have hlm := shp_lim b
  rw [eb] at hlm; simp only at hlm
  have h1' : sp + n ≤ ((na : Nat) : Int) := h1
  refine sx_mem (by rw [su_ne (by omega)]) h (fun p ee R s m args below meth c H locs cells slots Z als hC hR hL hl hn2 kk => ?_)
  obtain ⟨hx, hbb, hml, hown, hts, hK, hAd, hfr, hlo, -⟩ := hC
  obtain ⟨cs, q1, q2, q3, q4, -, q6⟩ := hA s H hK hAd hR
  obtain ⟨q2a, ks, hks, sc, hsk⟩ := q2
  have c1 := CR_0 eb (hR.1 b hb)
  obtain ⟨-, kd, hkd, dc, hdk⟩ := hK.2.1.1 nb.toNat (fun j => .int (Int32.ofInt (σ b (Int.ofNat j))))
  obtain ⟨s1, s2, s3⟩ := i32_nn h0.1 (by omega)
  obtain ⟨d1, d2, d3⟩ := i32_nn h0.2.1 (by omega)
  obtain ⟨n1, n2, n3⟩ := i32_nn h0.2.2 (by omega)
  intro T hT X
  have w1 : ∀ w ∈ ACs, w ∈ TB := fun w hw => as_ok hw
  obtain ⟨vm', X', step⟩ := X.arraycopy hx hown (hts _ (ac_ok (List.mem_map.mpr ⟨_, memP_ok _ hm, rfl⟩))) (hts _ (w1 _ (by simp [ACs]))) (hts _ (w1 _ (by simp [ACs]))) (hts _ (w1 _ (by simp [ACs])))
    (src := gA G a) (dst := gA G b) (cs := cs) (cd := arrV (gT G 0) nb.toNat (fun j => .int (Int32.ofInt (σ b (Int.ofNat j))))) (srcPos := Int32.ofInt sp) (destPos := Int32.ofInt dp) (n := Int32.ofInt n) (by rw [hT]; exact q1) (by rw [hT]; exact c1)
    q2a (fun _ h => by cases h) q3 (fun h => by cases h) hks hkd hsk hdk (by decide) s3 d3 n3
    (by rw [s1, n1]; omega)
    (by rw [d1, n1, arrV_size]; omega)
    (fun vm₁ _ i hi => by
      rw [n2] at hi
      have e : cs.slots.getD ((Int32.ofInt sp).toNatClampNeg + i) .null = .int (Int32.ofInt (f (Int.ofNat (sp.toNat + i)))) := by
        rw [s2, Array.getD_eq_getD_getElem?, q6 _ (by omega)]
        rfl
      refine ⟨by rw [e]; rfl, by rw [e]; exact trivial⟩)
    (g := F0 m pc als (List.map (cv (gA G)) [.inl n, .inl dp, .inr (.inl b), .inl sp, .inr (.inl a)])) rfl (by rw [hml, ← hn2]; exact hL.1) (rest := []) rfl (by rw [hbb]; exact hd) (by omega) (by
      have e9 : nativeFrameWords "java/lang/System" "arraycopy" 5 = 7 := by decide +kernel
      rw [e9]
      show 2 * 0 + 0 + (7 + 11) ≤ _
      omega)
  have e1 : copied cs (arrV (gT G 0) nb.toNat (fun j => .int (Int32.ofInt (σ b (Int.ofNat j))))) (Int32.ofInt sp) (Int32.ofInt dp) (Int32.ofInt n) = arrV (gT G 0) nb.toNat (fun j => .int (Int32.ofInt (va_cpy (fun j => f (Int.ofNat j)) (fun j => σ b (Int.ofNat j)) (Int32.ofInt sp).toNatClampNeg (Int32.ofInt dp).toNatClampNeg (Int32.ofInt n).toNatClampNeg j))) :=
    va_copiedX (fun z : Int => .int (Int32.ofInt z)) cs (gT G 0) (fun j => f (Int.ofNat j)) (fun j => σ b (Int.ofNat j)) q6 (by rw [s2, n2]; omega)
  rw [e1, s2, d2, n2] at X' step
  have hlt : gA G b < H.size := (Array.getElem?_eq_some_iff.mp c1).1
  have oq : ∀ (cl : Cell) (q : Nat), q ≠ gA G b → (H.setIfInBounds (gA G b) cl)[q]? = H[q]? := fun cl q hq => by simp [Array.getElem?_setIfInBounds, Ne.symm hq]
  have hself : ∀ cl : Cell, (H.setIfInBounds (gA G b) cl)[gA G b]? = some cl := fun cl => by simp [Array.getElem?_setIfInBounds, hlt]
  have hb3 : gB G ≤ gA G b := by have := hAd.2 b hb2; omega
  obtain ⟨t, a1, b1⟩ := kk (H.setIfInBounds (gA G b) (arrV (gT G 0) nb.toNat (fun j => .int (Int32.ofInt (va_cpy (fun j => f (Int.ofNat j)) (fun j => σ b (Int.ofNat j)) sp.toNat dp.toNat n.toNat j))))) (locs ++ (cs.stretch sp.toNat n.toNat).zipIdx.map fun q => ⟨gA G b, dp.toNat + q.2⟩)
    (Rel.put hAd hR hb hb2 (by rw [eb]; simp) (x := b) (by rw [foot_1 (by rw [eb]; simp)]; exact List.mem_singleton.mpr rfl) (oq _) (by
      unfold CR; rw [eb]
      show (H.setIfInBounds (gA G b) _)[gA G b]? = _
      rw [hself]
      refine congrArg some (arrV_fn (fun j _ => ?_))
      rw [su_eq, cpy_va h0.1 h0.2.1 h0.2.2]))
    (fun q hq => by
      rcases List.mem_append.mp hq with h | h
      · exact hl q h
      · obtain ⟨z, -, hz⟩ := List.mem_map.mp h
        rw [← hz]
        exact hb3) _ (by rw [← hT]; rfl) X'
  exact ⟨t, step t a1, b1⟩
theorem sx_acp {k : Nat} {st : List AV} (hd : decode (byt M) pc = .ok (.invokestatic k, 3)) (hm : memP ACk (own M) k = true) (hdp : 1 ≤ d) (h : acp σ st (fun r σ => SX l G E d M (pc + 3) ls r σ Q)) : SX l G E d M pc ls st σ Q := by
  unfold acp at h
  split at h
  · rename_i n dp b sp a
    have hl := shp_lim a
    split at h
    · rename_i na wa nb wb ea eb
      rw [ea] at hl; simp only at hl
      exact sx_cpyG hd hm hdp eb (na := na.toNat) (f := σ a) (fun s H hK _ hR => arr_rd (CR_0 ea (hR.1 a (shp_lt (by rw [ea]; simp)))) hK.2.1.1) h.1.1 (by have := h.1.2.1; show _ ≤ ((na.toNat : Nat) : Int); omega) h.1.2.2 (by omega) h.2
    · rename_i na wa nb wb ea eb
      rw [ea] at hl; simp only at hl
      have ha := shp_cst a (shp_lt (by rw [ea]; simp)) (by rw [ea]; exact Or.inr rfl)
      refine sx_cpyG hd hm hdp eb (na := na.toNat) (f := cst a) (fun s H hK _ hR => ?_) h.1.1 (by have := h.1.2.1; show _ ≤ ((na.toNat : Nat) : Int); omega) h.1.2.2 (by omega) h.2
      have hT := (hK.2.2.2.2.2.2 a ha.1 ha.2).2
      rw [ea] at hT
      exact T_rd hT hR.2
    · exact h.elim
  · exact h.elim
end CPY
/-! ===== a method's contract out of its walk ===== -/
def mws (M : Nat) : List Cond := Cond.code (yof M) (byt M) (mtb M).2.1 (rty M) :: TB
def rmd (d : Nat) : Room := { frames := d, cells := 0, slots := 0, locals := 64 * d }
theorem good_TB {w : Cond} (h : w ∈ TB) : (w.onTables && w.keeps) = true ∨ ∃ ty, w = .arrayClass ty := good_of_word (List.mem_filter.mp h).2
def cPc (G : GP) (args : List AV) (σ : Mem) : Array Value → State → Prop := va_Pc (args.map (cv (gA G))) (fun U => Rel G σ U.heap ∧ Kx G U)
def cQc (G : GP) (K : RV → Mem → Prop) (z : Int) : Array Value → State → Outcome → State → Prop := fun _ _ o t => ∃ (r : RV) (τ : Mem), K r τ ∧ o = .returned (r.map (cv (gA G))) ∧ Rel G τ t.heap ∧ τ 0 2 = z
/-- the arguments' first places -/
theorem entL_len : ∀ (as : List AV) (n : Nat), widS as ≤ n → (entL as n).length = n
  | [], n, _ => by simp [entL]
  | .inr (.inr (.inl x)) :: r, n, h => by
    match n, h with
    | 0, h => have h2 : 2 + widS r ≤ 0 := h; omega
    | 1, h => have h2 : 2 + widS r ≤ 1 := h; omega
    | n + 2, h =>
      have := entL_len r n (by have h2 := h; simp [widS, wid] at h2; omega)
      simp [entL, this]
  | .inl x :: r, n, h => by
    match n, h with
    | 0, h => have h2 : 1 + widS r ≤ 0 := h; omega
    | n + 1, h =>
      have := entL_len r n (by have h2 := h; simp [widS, wid] at h2; omega)
      simp [entL, this]
  | .inr (.inl x) :: r, n, h => by
    match n, h with
    | 0, h => have h2 : 1 + widS r ≤ 0 := h; omega
    | n + 1, h =>
      have := entL_len r n (by have h2 := h; simp [widS, wid] at h2; omega)
      simp [entL, this]
  | .inr (.inr (.inr x)) :: r, n, h => by
    match n, h with
    | 0, h => have h2 : 1 + widS r ≤ 0 := h; omega
    | n + 1, h =>
      have := entL_len r n (by have h2 := h; simp [widS, wid] at h2; omega)
      simp [entL, this]
theorem entL_lvl (ad : Nat → Nat) : ∀ (as : List AV) (n i : Nat), widS as ≤ n → lvl ad i (entL as n) = lv_args i (as.map (cv ad))
  | [], n, i, _ => by
    have h : ∀ n i, lvl ad i (List.replicate n none) = [] := by
      intro n
      induction n with
      | zero => intro i; rfl
      | succ n ih => intro i; exact ih (i + 1)
    exact h n i
  | .inr (.inr (.inl x)) :: r, n, i, h => by
    match n, h with
    | 0, h => have h2 : 2 + widS r ≤ 0 := h; omega
    | 1, h => have h2 : 2 + widS r ≤ 1 := h; omega
    | n + 2, h =>
      have := entL_lvl ad r n (i + 2) (by have h2 : 2 + widS r ≤ n + 2 := h; omega)
      show (i, _) :: lvl ad (i + 2) (entL r n) = (i, _) :: lv_args (i + 2) (r.map (cv ad))
      rw [this]
  | .inl x :: r, n, i, h => by
    match n, h with
    | 0, h => have h2 : 1 + widS r ≤ 0 := h; omega
    | n + 1, h =>
      have := entL_lvl ad r n (i + 1) (by have h2 : 1 + widS r ≤ n + 1 := h; omega)
      show (i, _) :: lvl ad (i + 1) (entL r n) = (i, _) :: lv_args (i + 1) (r.map (cv ad))
      rw [this]
  | .inr (.inl x) :: r, n, i, h => by
    match n, h with
    | 0, h => have h2 : 1 + widS r ≤ 0 := h; omega
    | n + 1, h =>
      have := entL_lvl ad r n (i + 1) (by have h2 : 1 + widS r ≤ n + 1 := h; omega)
      show (i, _) :: lvl ad (i + 1) (entL r n) = (i, _) :: lv_args (i + 1) (r.map (cv ad))
      rw [this]
  | .inr (.inr (.inr (o, x))) :: r, n, i, h => by
    match n, h with
    | 0, h => have h2 : 1 + widS r ≤ 0 := h; omega
    | n + 1, h =>
      have := entL_lvl ad r n (i + 1) (by have h2 : 1 + widS r ≤ n + 1 := h; omega)
      show (i, _) :: lvl ad (i + 1) (entL r n) = (i, _) :: lv_args (i + 1) (r.map (cv ad))
      rw [this]
theorem lg_len (ad : Nat → Nat) : ∀ as : List AV, (lg_sl (as.map (cv ad))).length = widS as
  | [] => rfl
  | v :: r => by
    have ih := lg_len ad r
    have e : lg_sl ((v :: r).map (cv ad)) = (if (cv ad v).category = 2 then [.val (cv ad v), .second] else [.val (cv ad v)]) ++ lg_sl (r.map (cv ad)) := rfl
    rw [e, List.length_append, ih]
    show _ = wid v + widS r
    rw [cv_cat]
    match v with
    | .inl _ => rfl
    | .inr (.inl _) => rfl
    | .inr (.inr (.inl x)) => rfl
    | .inr (.inr (.inr (o, i))) => rfl
theorem LR.entry (ad : Nat → Nat) (as : List AV) {n : Nat} (h : widS as ≤ n) : LR ad (entL as n) ((lg_sl (as.map (cv ad)) ++ List.replicate (n - (lg_sl (as.map (cv ad))).length) Slot.unset).toArray) := by
  unfold LR
  rw [entL_len as n h, entL_lvl ad as n 0 h]
  exact lv_entry _ (by rw [lg_len]; exact h)
def mck (x : Nat) : Bool := (yof x).cls == cnm (own x) && plainFor (yof x) && !((yof x).cls == "java/lang/invoke/MethodHandle") && !((yof x).cls == "java/lang/invoke/VarHandle") && Nat.ble (mtb x).2.1 45
def mckI (x : Nat) : Bool := mck x && decide ((parseMethodDescriptor (yof x).desc).map (fun d => d.parameters.length) = some ((mtb x).1 - 1)) && Nat.ble 1 (mtb x).1 && Nat.ble 1 (mtb x).2.2.2 && Nat.ble (mtb x).2.2.2 12 && cnm (own x) == oC ((mtb x).2.2.2 - 1)
def mckS (x : Nat) : Bool := mck x && decide ((parseMethodDescriptor (yof x).desc).map (fun d => d.parameters.length) = some (mtb x).1)
set_option maxRecDepth 100000 in
theorem mI_ok : mIns.all mckI = true := by decide +kernel
set_option maxRecDepth 100000 in
theorem mS_ok : mSta.all mckS = true := by decide +kernel
theorem mck_ok {x : Nat} (h : mck x = true) : (yof x).cls = cnm (own x) ∧ plainFor (yof x) = true ∧ ((yof x).cls ≠ "java/lang/invoke/MethodHandle" ∧ (yof x).cls ≠ "java/lang/invoke/VarHandle") ∧ (mtb x).2.1 ≤ 45 := by
  simp only [mck, Bool.and_eq_true, Bool.not_eq_true', beq_iff_eq, Nat.ble_eq] at h
  obtain ⟨⟨⟨⟨h1, h2⟩, h3⟩, h4⟩, h5⟩ := h
  exact ⟨h1, h2, ⟨by simpa using h3, by simpa using h4⟩, h5⟩
section MET
variable {G : GP} {E : Nat → Lo → List AV → Mem → Prop} {l : Launch} {d M pc pc' : Nat} {ls ls' : Lo} {st st' : List AV} {σ σ' : Mem} {Q : RV → Mem → Prop}
theorem met_of {x : Nat} {as : List AV} {K : RV → Mem → Prop} (hx : mck x = true) (hA : AdOk (gA G) (gB G)) (hd : d < 1000) (hw : widS as ≤ (mtb x).2.1) (h : SX l G noE d x 0 (entL as (mtb x).2.1) [] σ K) :
    Met l (yof x) (mws x) (rmd d) (cPc G as σ) (cQc G K (σ 0 2)) 0 0 (fun q => gB G ≤ q) := by
  obtain ⟨hcls, hpl, -, -⟩ := mck_ok hx
  refine va_MetF (cc := byt x) (maxL := (mtb x).2.1) (ret := rty x) hpl rfl ?_
  intro p e s m args' below meth c s₁ B hml hv
  obtain ⟨rfl, hR, hK⟩ := hv
  have hts : ∀ w ∈ mws x, w.before (as.map (cv (gA G))).toArray s = true := atoms_spec (ws := mws x) B.pre
  have hown : s.vm.findClass (cnm (own x)) = some m.cls := hcls ▸ findClass_of_methodNamed B.named
  have hlocks := B.notSynchronized
  have hr := B.returns
  rw [lg_entry_eq]
  have key := h p e (rmd d) s m (as.map (cv (gA G))).toArray below meth c 0 0 0 0 (σ 0 2) (MQ below (cQc G K (σ 0 2)) (as.map (cv (gA G))).toArray s 0 0 (fun q => gB G ≤ q))
    ⟨B.exec, B.bytes, hml, hown, fun w hw => hts w (List.mem_cons_of_mem _ hw), hK, hA, Nat.le_refl _, Nat.le_refl _, fun e => absurd e (Nat.ne_of_lt hd)⟩ (by simp) (by simp) ⟨by
      intro pc als H locs r τ hQ hR' hl hz hret
      simp only [Nat.zero_mul, Nat.add_zero]
      have hz' : τ 0 2 = σ 0 2 := by rcases hz with h | h
                                     · omega
                                     · exact h
      match r, hQ, hret with
      | none, hQ, hret => exact W.vret B.exec B.bytes (hr.trans hret.2) (fun t ht hW => ⟨none, τ, hQ, rfl, by rw [ht]; exact hR', hz'⟩) hl hret.1 hlocks
      | some (.inl w), hQ, hret =>
        rcases hret.2 with h | ⟨h, h01⟩
        · exact W.iret (v := Int32.ofInt w) B.exec B.bytes (hr.trans h) (fun t ht hW => ⟨some (.inl w), τ, hQ, rfl, by rw [ht]; exact hR', hz'⟩) hl hret.1 hlocks
        · exact W.zret (v := Int32.ofInt w) (ty := .boolean) B.exec B.bytes (hr.trans h) (by rcases h01 with rfl | rfl <;> decide +kernel) (fun t ht hW => ⟨some (.inl w), τ, hQ, rfl, by rw [ht]; exact hR', hz'⟩) hl hret.1 hlocks
      | some (.inr (.inr (.inl w))), hQ, hret => exact W.lret (v := Int64.ofInt w) B.exec B.bytes (hr.trans hret.2) (fun t ht hW => ⟨some (.inr (.inr (.inl w))), τ, hQ, rfl, by rw [ht]; exact hR', hz'⟩) hl hret.1 hlocks
      | some (.inr (.inl w)), hQ, hret => exact hret.elim
      | some (.inr (.inr (.inr w))), hQ, hret => exact hret.elim, fun _ _ _ _ _ _ _ h => h.elim⟩
    s.heap [] _ hR (fun q hq => by cases hq) (LR.entry (gA G) as hw) (entL_len as _ hw) (Or.inr rfl) (Or.inl ⟨rfl, rfl, hd⟩)
  simp only [Nat.zero_mul, Nat.add_zero] at key
  exact key
theorem sx_run {x y : Nat} {K : RV → Mem → Prop} {a : Array Value}
    (hr : ∀ (p : Program) (e : Env) (R : Room) (s : State) (m : MethodId) (args : Array Value) (below : List Frame) (meth : Method) (c : Code) (H : Heap) (locs : List Loc) (cells slots : Nat) (als : Array Slot), Cx G d M p R s m args c → Rel G σ H → LR (gA G) ls als → ls.length = (mtb M).2.1 → cells ≤ R.cells → slots ≤ R.slots →
      va_Run p l e R s m args below meth c H locs cells slots 0 0 (F0 m pc als (st.map (cv (gA G)))) ((st.drop y).map (cv (gA G))) (cQc G K (σ 0 2) a) (fun q => gB G ≤ q))
    (hK : ∀ r τ, K r τ → SX l G E d M (pc + 3) ls (r.toList ++ st.drop y) τ Q) : SX l G E d M pc ls st σ Q := by
  intro p e R s m args below meth c cb kc sb ks e0 Z hC hc1 hs1 hend H locs als hR hl hL hn hz hk
  have hcz : cb + kc * (σ 0 2).toNat ≤ R.cells := by
    rcases hk with h | h
    · rw [h.1, Nat.zero_mul, Nat.add_zero]; exact Nat.le_trans (Nat.le_add_right _ _) hc1
    · exact Nat.le_trans (Nat.add_le_add_left (Nat.mul_le_mul_left _ h.2) _) hc1
  have hsz : sb + ks * (σ 0 2).toNat ≤ R.slots := by
    rcases hk with h | h
    · rw [h.2.1, Nat.zero_mul, Nat.add_zero]; exact Nat.le_trans (Nat.le_add_right _ _) hs1
    · exact Nat.le_trans (Nat.add_le_add_left (Nat.mul_le_mul_left _ h.2) _) hs1
  intro T hT X
  obtain ⟨v, st₀, t, T', L, h0, X', hL', e1, e2, ⟨r, τ, hKr, hv, hR', hz'⟩, stp⟩ := hr p e R s m args below meth c H locs _ _ als hC hR hL hn hcz hsz T hT X
  cases hv
  have hW := hK r τ hKr p e R s m args below meth c cb kc sb ks e0 Z hC hc1 hs1 hend T'.heap (locs ++ L) als (by rw [e1]; exact hR') (fun q hq => by
    rcases List.mem_append.mp hq with h | h
    · exact hl q h
    · exact hL' q h) hL hn (by rw [hz']; exact hz) (by rw [hz']; exact hk)
  rw [hz'] at hW
  obtain ⟨t2, a1, b1⟩ := hW T' rfl X'
  refine ⟨t2, stp t2 ?_, b1⟩
  have e9 : (Option.map (cv (gA G)) r).toList ++ (st.drop y).map (cv (gA G)) = (r.toList ++ st.drop y).map (cv (gA G)) := by cases r <;> simp
  rw [e9]
  exact a1
theorem st_split (f : AV → Value) (y : Nat) : st.map f = ((st.take y).reverse.map f).reverse ++ (st.drop y).map f := by
  rw [List.map_reverse, List.reverse_reverse, ← List.map_append, List.take_append_drop]
theorem sx_callS {x y k : Nat} {K : RV → Mem → Prop} (hd : decode (byt M) pc = .ok (.invokestatic k, 3)) (hm : memS MLk (own M) k x = true) (hx : memN mSta x = true) (hd1 : d < 1000) (hA : AdOk (gA G) (gB G)) (hy : y ≤ st.length) (hW8 : widS (st.drop y) ≤ 8) (hyx : y = (mtb x).1) (hw : widS (st.take y).reverse ≤ (mtb x).2.1)
    (h : SX l G noE d x 0 (entL (st.take y).reverse (mtb x).2.1) [] σ K) (hK : ∀ r τ, K r τ → SX l G E (d + 1) M (pc + 3) ls (r.toList ++ st.drop y) τ Q) : SX l G E (d + 1) M pc ls st σ Q := by
  have hxm := memN_ok _ hx
  have hck := List.all_eq_true.mp mS_ok x hxm
  simp only [mckS, Bool.and_eq_true, decide_eq_true_eq] at hck
  obtain ⟨hcls, hpl, hmh, hml45⟩ := mck_ok hck.1
  have hM := met_of hck.1 hA hd1 hw h
  refine sx_run (x := x) (y := y) (K := K) (a := ((st.take y).reverse.map (cv (gA G))).toArray) (fun p e R s m args below meth c H locs cells slots als hC hR hL hn hcz hsz => ?_) hK
  obtain ⟨hex, hbb, hml, hown, hts, hKx, hAd, hfr, hlo, -⟩ := hC
  have hwS : ∀ w ∈ wSta x, w ∈ TB := fun w hw => si_ok (List.mem_flatMap.mpr ⟨x, hxm, hw⟩)
  have hTB : ∀ w ∈ va_wsS (cnm (own M)) k (yof x) (mws x), w ∈ TB := by
    intro w hw
    unfold va_wsS mws at hw
    rcases List.mem_append.mp hw with h | h
    · simp only [List.mem_cons, List.not_mem_nil, or_false] at h
      rcases h with rfl | rfl | rfl
      · exact ml_ok (List.mem_map.mpr ⟨_, memS_ok _ hm, rfl⟩)
      · exact hwS _ (by simp [wSta])
      · rw [hcls]; exact hwS _ (by simp [wSta])
    · rcases List.mem_cons.mp h with rfl | h
      · exact hwS _ (by simp [wSta])
      · exact h
  exact va_runS (cc := byt M) (nL := (mtb M).2.1) (Ts := TB) (own := cnm (own M)) ⟨hex, hbb, hml, hown, hts⟩ hM (va_cwS (ws' := TB) y hts (fun w hw => ⟨hTB w hw, good_TB (hTB w hw)⟩) rfl rfl rfl ⟨hmh.1, hmh.2, by rw [hyx]; exact hck.2⟩ ⟨by show d + 1 ≤ _; exact hfr, by show 8 + (_ + 11) + 64 * d ≤ _; omega⟩)
    ⟨fun _ _ _ _ h => h, fun U hU hW => ⟨rfl, by rw [hU]; exact hR, Kx.moved hW.alike hKx⟩⟩ rfl (by rw [List.length_map, List.length_reverse, List.length_take]; omega) (by show als.size = _; rw [hL.1, hn]) (st_split _ _) (by
      show 2 * 0 + _ ≤ 8
      have : ∀ q : List AV, ((q.map (cv (gA G))).map fun v => v.category).sum = widS q := by
        intro q
        induction q with
        | nil => rfl
        | cons v r ih => simp only [List.map_cons, List.sum_cons, ih, cv_cat]; rfl
      rw [this]; omega) hd ⟨hcz, hsz⟩
theorem sx_callV {x y k : Nat} {K : RV → Mem → Prop} (hd : decode (byt M) pc = .ok (.invokevirtual k, 3)) (hm : memS MLk (own M) k x = true) (hx : memN mIns x = true) (hd1 : d < 1000) (hA : AdOk (gA G) (gB G)) (hy : y ≤ st.length) (hW8 : widS (st.drop y) ≤ 8) (hyx : y = (mtb x).1) (hw : widS (st.take y).reverse ≤ (mtb x).2.1) (hrc : rcv (mtb x).2.2.2 (st.take y).reverse = true)
    (h : SX l G noE d x 0 (entL (st.take y).reverse (mtb x).2.1) [] σ K) (hK : ∀ r τ, K r τ → SX l G E (d + 1) M (pc + 3) ls (r.toList ++ st.drop y) τ Q) : SX l G E (d + 1) M pc ls st σ Q := by
  have hxm := memN_ok _ hx
  have hck := List.all_eq_true.mp mI_ok x hxm
  simp only [mckI, Bool.and_eq_true, decide_eq_true_eq, Nat.ble_eq, beq_iff_eq] at hck
  obtain ⟨⟨⟨⟨⟨hck0, hnp⟩, hn1⟩, hc1⟩, hc12⟩, hoc⟩ := hck
  obtain ⟨hcls, hpl, hmh, hml45⟩ := mck_ok hck0
  have hM := met_of hck0 hA hd1 hw h
  obtain ⟨ci, hci⟩ : ∃ ci, (mtb x).2.2.2 = ci + 1 := ⟨(mtb x).2.2.2 - 1, by omega⟩
  rw [hci] at hrc hoc hc12
  obtain ⟨a, tl, htl, hob⟩ : ∃ (a : Nat) (tl : List AV), (st.take y).reverse = .inr (.inl a) :: tl ∧ okObj a ci = true := by
    unfold rcv at hrc
    simp only at hrc
    split at hrc
    · rename_i a tl e; exact ⟨a, tl, e, hrc⟩
    · cases hrc
  have hlen : tl.length + 1 = y := by
    have := congrArg List.length htl
    simp only [List.length_reverse, List.length_take, List.length_cons] at this
    omega
  refine sx_run (x := x) (y := y) (K := K) (a := ((st.take y).reverse.map (cv (gA G))).toArray) (fun p e R s m args below meth c H locs cells slots als hC hR hL hn hcz hsz => ?_) hK
  obtain ⟨hex, hbb, hml, hown, hts, hKx, hAd, hfr, hlo, -⟩ := hC
  have hwI : ∀ w ∈ wIns x, w ∈ TB := fun w hw => ii_ok (List.mem_flatMap.mpr ⟨x, hxm, hw⟩)
  have hTB : ∀ w ∈ wsV (cnm (own M)) k (cnm (own x)) (yof x) (mws x), w ∈ TB := by
    intro w hw
    unfold wsV mws at hw
    rcases List.mem_append.mp hw with h | h
    · simp only [List.mem_cons, List.not_mem_nil, or_false] at h
      rcases h with rfl | rfl | rfl | rfl
      · exact ml_ok (List.mem_map.mpr ⟨_, memS_ok _ hm, rfl⟩)
      · exact hwI _ (by simp [wIns])
      · exact hwI _ (by simp [wIns])
      · exact hwI _ (by simp [wIns])
    · rcases List.mem_cons.mp h with rfl | h
      · exact hwI _ (by simp [wIns])
      · exact h
  obtain ⟨cell, q1, q2, q3, -⟩ := CR_4 hob (hR.1 a (okObj_lt hob))
  have hfc : s.vm.findClass (cnm (own x)) = some cell.cls := by
    rw [q2, hoc, show ci + 1 - 1 = ci from rfl]
    exact (hKx.1 ci (by omega)).2.1
  rw [htl] at hM
  have hrun := va_runV (p := p) (l := l) (e := e) (R := R) (s := s) (m := m) (args := args) (below := below) (meth := meth) (c := c) (H := H) (locs := locs) (cells := cells) (slots := slots) (g := F0 m pc als (st.map (cv (gA G)))) (rest := (st.drop y).map (cv (gA G))) (b := gA G a) (As := tl.map (cv (gA G))) (cc := byt M) (nL := (mtb M).2.1) (Ts := TB) (own := cnm (own M)) (C := cnm (own x)) ⟨hex, hbb, hml, hown, hts⟩ hM (cwV (ws' := TB) ((mtb x).1 - 1) hts (fun w hw => ⟨hTB w hw, good_TB (hTB w hw)⟩) rfl rfl rfl ⟨hcls, hmh.1, hmh.2, hnp⟩ ⟨by show d + 1 ≤ _; exact hfr, by show 8 + (_ + 11) + 64 * d ≤ _; omega⟩)
    ⟨fun _ _ _ _ h => h, ⟨cell, q1, by rw [q3]; rfl, hfc⟩, fun U hU hW => ⟨rfl, by rw [hU]; exact hR, Kx.moved hW.alike hKx⟩⟩ rfl (by rw [List.length_map]; omega) (by show als.size = _; rw [hL.1, hn]) (by
      show st.map _ = _
      rw [st_split (cv (gA G)) y, htl]
      simp [cv]) (by
      show 2 * 0 + _ ≤ 8
      have : ∀ q : List AV, ((q.map (cv (gA G))).map fun v => v.category).sum = widS q := by
        intro q
        induction q with
        | nil => rfl
        | cons v r ih => simp only [List.map_cons, List.sum_cons, ih, cv_cat]; rfl
      rw [this]; omega) hd ⟨hcz, hsz⟩
  rw [htl]
  exact hrun
theorem sx_inv {x y : Nat} {g : List AV → Mem → Prop} (hA : AdOk (gA G) (gB G)) (hd1 : d ≤ 1000) (hg : ∀ r σ, g r σ → SX l G E d M (pc + 3) ls r σ Q) (h : inv (clX (SX l G noE) d) g x y st σ)
    (hgo : ∀ (d' : Nat) (K : RV → Mem → Prop), d = d' + 1 → y ≤ st.length → widS (st.drop y) ≤ 8 → y = (mtb x).1 → widS (st.take y).reverse ≤ (mtb x).2.1 → rcv (mtb x).2.2.2 (st.take y).reverse = true → SX l G noE d' x 0 (entL (st.take y).reverse (mtb x).2.1) [] σ K → (∀ r τ, K r τ → SX l G E d M (pc + 3) ls (r.toList ++ st.drop y) τ Q) → SX l G E d M pc ls st σ Q) : SX l G E d M pc ls st σ Q := by
  unfold inv at h
  cases hb : (Nat.ble y st.length && Nat.ble (widS (st.drop y)) 8 && Nat.beq y (mtb x).1 && rcv (mtb x).2.2.2 (st.take y).reverse && Nat.ble (widS (st.take y).reverse) (mtb x).2.1) with
  | false => rw [hb] at h; exact h.elim
  | true =>
    rw [hb] at h
    simp only [Bool.and_eq_true, Nat.ble_eq, Nat.beq_eq] at hb
    obtain ⟨⟨⟨⟨h1, h2⟩, h3⟩, h4⟩, h5⟩ := hb
    cases d with
    | zero =>
      exfalso
      simp only [cond_true] at h
      split at h <;> exact h
    | succ d' =>
      simp only [cond_true] at h
      split at h
      · refine hgo d' _ rfl h1 h2 h3 h5 h4 h (fun r τ hr => ?_)
        unfold oV at hr; split at hr
        · exact hg _ _ hr
        · exact hr.elim
      · refine hgo d' _ rfl h1 h2 h3 h5 h4 h (fun r τ hr => ?_)
        unfold oJ at hr; split at hr
        · exact hg _ _ hr
        · exact hr.elim
      · refine hgo d' _ rfl h1 h2 h3 h5 h4 h (fun r τ hr => ?_)
        unfold oI at hr; split at hr
        · exact hg _ _ hr
        · exact hr.elim
end MET
