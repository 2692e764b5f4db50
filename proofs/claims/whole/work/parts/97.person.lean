/-! ===== FirstTimes.person AND FirstTimesLaw.person: the exception thrown and caught ===== -/
theorem bF_person_sx {l : Launch} {G : GP} {E : Nat → Lo → List AV → Mem → Prop} {d : Nat} {x1 x2 : Int} {σ : Mem} {Q : RV → Mem → Prop} (hA : AdOk (gA G) (gB G)) (hd : (d + 3) < 1000) (h : (rg x1) ∧ (rg (σ 15 1)) ∧ (((0 : Int) ≤ x1 ∧ (x1 : Int) < (σ 15 1)) → (rg x2) ∧ ((x2 : Int) < 0 → SX l G E (d + 3) mF_person 20 [vR 11, vI x1, vI x2, vU] [] σ Q) ∧ ((0 : Int) ≤ x2 → ((x2 : Int) ≤ 4 → ((x2 : Int) ≠ 0 → ((x2 : Int) ≠ 1 → ((x2 : Int) ≠ 2 → ((x2 : Int) ≠ 3 → ((0 : Int) ≤ ((3 + (x1 * 4)) + 3)) ∧ ((((3 + (x1 * 4)) + 3) : Int) < 175) ∧ Q (rI (σ 38 ((3 + (x1 * 4)) + 3))) σ) ∧ ((x2 : Int) = 3 → ((0 : Int) ≤ ((3 + (x1 * 4)) + 2)) ∧ ((((3 + (x1 * 4)) + 2) : Int) < 175) ∧ Q (rI (σ 38 ((3 + (x1 * 4)) + 2))) σ)) ∧ ((x2 : Int) = 2 → Cl (d + 2) mMk_told [aR 14, aI 1, aI x1, aI 2] σ (fun r10 τ11 => oI r10 (fun w12 => (rg w12) ∧ ((8 : Int) ≤ w12 → Q (rI (-1)) τ11) ∧ ((w12 : Int) < 8 → Q (rI w12) τ11))))) ∧ ((x2 : Int) = 1 → ((0 : Int) ≤ ((3 + (x1 * 4)) + 1)) ∧ ((((3 + (x1 * 4)) + 1) : Int) < 175) ∧ Q (rI (σ 38 ((3 + (x1 * 4)) + 1))) σ)) ∧ ((x2 : Int) = 0 → ((0 : Int) ≤ ((3 + (x1 * 4)) + 0)) ∧ ((((3 + (x1 * 4)) + 0) : Int) < 175) ∧ Q (rI (σ 38 ((3 + (x1 * 4)) + 0))) σ)) ∧ ((4 : Int) < x2 → SX l G E (d + 3) mF_person 20 [vR 11, vI x1, vI x2, vU] [] σ Q))) ∧ (¬ ((0 : Int) ≤ x1 ∧ (x1 : Int) < (σ 15 1)) → SX l G E (d + 3) mF_person 20 [vR 11, vI x1, vI x2, vU] [] σ Q)) : SX l G E (d + 3) mF_person 0 [vR 11, vI x1, vI x2, vU] [] σ Q := blkX hA (fun e => absurd e (by omega)) (by omega) 72 (show CS l G (d + 2) mMk_hasPerson [aR 14, aI x1] σ (fun r1 τ2 => oI r1 (fun w3 => (rg w3) ∧ ((w3 : Int) = 0 → SX l G E (d + 3) mF_person 20 [vR 11, vI x1, vI x2, vU] [] τ2 Q) ∧ ((w3 : Int) ≠ 0 → (rg x2) ∧ ((x2 : Int) < 0 → SX l G E (d + 3) mF_person 20 [vR 11, vI x1, vI x2, vU] [] τ2 Q) ∧ ((0 : Int) ≤ x2 → ((rg x2 ∧ rg 4)) ∧ ((x2 : Int) ≤ 4 → (rg x2) ∧ ((x2 : Int) ≠ 0 → ((rg x2 ∧ rg 1)) ∧ ((x2 : Int) ≠ 1 → ((rg x2 ∧ rg 2)) ∧ ((x2 : Int) ≠ 2 → ((rg x2 ∧ rg 3)) ∧ ((x2 : Int) ≠ 3 → CS l G (d + 2) mSt_hadBy [aR 37, aI x1] τ2 (fun r34 τ35 => oI r34 (fun w36 => Q (rI w36) τ35))) ∧ ((x2 : Int) = 3 → CS l G (d + 2) mSt_joyBy [aR 37, aI x1] τ2 (fun r37 τ38 => oI r37 (fun w39 => Q (rI w39) τ38)))) ∧ ((x2 : Int) = 2 → CS l G (d + 2) mMk_told [aR 14, aI 1, aI x1, aI 2] τ2 (fun r40 τ41 => oI r40 (fun w42 => ((rg w42 ∧ rg 8)) ∧ ((8 : Int) ≤ w42 → Q (rI (-1)) τ41) ∧ ((w42 : Int) < 8 → Q (rI w42) τ41))))) ∧ ((x2 : Int) = 1 → CS l G (d + 2) mSt_ageOf [aR 37, aI x1] τ2 (fun r43 τ44 => oI r43 (fun w45 => Q (rI w45) τ44)))) ∧ ((x2 : Int) = 0 → CS l G (d + 2) mSt_moneyOf [aR 37, aI x1] τ2 (fun r46 τ47 => oI r46 (fun w48 => Q (rI w48) τ47)))) ∧ ((4 : Int) < x2 → SX l G E (d + 3) mF_person 20 [vR 11, vI x1, vI x2, vU] [] τ2 Q))))) from (clS hA (by omega) (cMk_hasPerson ⟨h.1, ⟨h.2.1, ⟨fun h1 => ⟨(by decide), ⟨fun h3 => (absurd h3 (by decide)), fun h4 => ⟨(h.2.2.1 h1).1, ⟨fun h5 => ((h.2.2.1 h1).2.1 h5), fun h6 => ⟨⟨(h.2.2.1 h1).1, (by decide)⟩, ⟨fun h7 => ⟨(h.2.2.1 h1).1, ⟨fun h9 => ⟨⟨(h.2.2.1 h1).1, (by decide)⟩, ⟨fun h11 => ⟨⟨(h.2.2.1 h1).1, (by decide)⟩, ⟨fun h13 => ⟨⟨(h.2.2.1 h1).1, (by decide)⟩, ⟨fun h15 => (clS hA (by omega) (bSt_hadBy_r37_in ⟨(((((((h.2.2.1 h1).2.2 h6).1 h7).1 h9).1 h11).1 h13).1 h15).1, ⟨(((((((h.2.2.1 h1).2.2 h6).1 h7).1 h9).1 h11).1 h13).1 h15).2.1, (((((((h.2.2.1 h1).2.2 h6).1 h7).1 h9).1 h11).1 h13).1 h15).2.2⟩⟩)), fun h16 => (clS hA (by omega) (bSt_joyBy_r37_in ⟨(((((((h.2.2.1 h1).2.2 h6).1 h7).1 h9).1 h11).1 h13).2 h16).1, ⟨(((((((h.2.2.1 h1).2.2 h6).1 h7).1 h9).1 h11).1 h13).2 h16).2.1, (((((((h.2.2.1 h1).2.2 h6).1 h7).1 h9).1 h11).1 h13).2 h16).2.2⟩⟩))⟩⟩, fun h14 => (clS hA (by omega) (Cl.mono ((((((h.2.2.1 h1).2.2 h6).1 h7).1 h9).1 h11).2 h14) (fun r10 τ11 => oI_m (fun w12 h17 => ⟨⟨h17.1, (by decide)⟩, ⟨fun h18 => (h17.2.1 h18), fun h19 => (h17.2.2 h19)⟩⟩))))⟩⟩, fun h12 => (clS hA (by omega) (bSt_ageOf_r37_in ⟨(((((h.2.2.1 h1).2.2 h6).1 h7).1 h9).2 h12).1, ⟨(((((h.2.2.1 h1).2.2 h6).1 h7).1 h9).2 h12).2.1, (((((h.2.2.1 h1).2.2 h6).1 h7).1 h9).2 h12).2.2⟩⟩))⟩⟩, fun h10 => (clS hA (by omega) (bSt_moneyOf_r37_in ⟨((((h.2.2.1 h1).2.2 h6).1 h7).2 h10).1, ⟨((((h.2.2.1 h1).2.2 h6).1 h7).2 h10).2.1, ((((h.2.2.1 h1).2.2 h6).1 h7).2 h10).2.2⟩⟩))⟩⟩, fun h8 => (((h.2.2.1 h1).2.2 h6).2 h8)⟩⟩⟩⟩⟩⟩, fun h2 => ⟨(by decide), ⟨fun h20 => (h.2.2.2 h2), fun h21 => (absurd (by decide) h21)⟩⟩⟩⟩⟩)))
theorem person_A {l : Launch} {G : GP} (hA : AdOk (gA G) (gB G)) {σ : Mem} {p w : Int} (h1 : rg p) (h2 : rg w) (h3 : 0 ≤ σ 15 1 ∧ σ 15 1 ≤ 6) (hP : psOk σ p w) (hr : rg (σ 16 (30 + p * 3 + 2))) :
    SX l G noE 998 mF_person 0 (entL [.inr (.inl 11), .inl p, .inl w] (mtb mF_person).2.1) [] σ (fun r τ => r = rI (pval σ p w) ∧ τ = σ) := by
  obtain ⟨a1, a2, a3, a4⟩ := hP
  refine bF_person_sx (d := 995) hA (by decide) ⟨h1, ⟨by omega, by omega⟩, fun _ => ⟨h2, fun q => absurd q (by omega), fun _ => ⟨fun _ => ⟨fun n0 => ⟨fun n1 => ⟨fun n2 => ⟨fun n3 => ⟨by omega, by omega, ?_, rfl⟩, fun e3 => ⟨by omega, by omega, ?_, rfl⟩⟩, fun e2 => ?_⟩, fun e1 => ⟨by omega, by omega, ?_, rfl⟩⟩, fun e0 => ⟨by omega, by omega, ?_, rfl⟩⟩, fun q => absurd q (by omega)⟩⟩, fun q => absurd ⟨a1, a2⟩ q⟩
  · unfold pval; rw [if_neg n0, if_neg n1, if_neg n2, if_neg n3]
  · unfold pval; rw [if_neg n0, if_neg n1, if_neg n2, if_pos e3]
  · have e5 : σ 16 (((1 * 30) + (p * 3)) + 2) = σ 16 (30 + p * 3 + 2) := by congr 1
    refine bMk_told_r14_in (d := 996) ⟨h1, fun q => absurd q (by omega), fun _ => ⟨by decide, by decide, ⟨by omega, by omega⟩, fun q => absurd q (by omega), fun _ => ⟨by decide, fun q => absurd q (by decide), fun _ => ⟨by decide, fun _ => ⟨by omega, by omega, ?_⟩, fun q => absurd q (by decide)⟩⟩⟩⟩
    rw [e5]
    refine ⟨hr, fun q => ⟨?_, rfl⟩, fun q => ⟨?_, rfl⟩⟩
    · unfold pval; rw [if_neg n0, if_neg n1, if_pos e2, if_neg (by omega)]
    · unfold pval; rw [if_neg n0, if_neg n1, if_pos e2, if_pos q]
  · unfold pval; rw [if_neg n0, if_pos e1]
  · unfold pval; rw [if_pos e0]; rw [Int.add_zero]
theorem person_B {l : Launch} {G : GP} (hA : AdOk (gA G) (gB G)) {σ : Mem} {p w : Int} (h1 : rg p) (h2 : rg w) (h3 : 0 ≤ σ 15 1 ∧ σ 15 1 ≤ 6) (hP : ¬ psOk σ p w) :
    SX l G (fun pc ls st τ => pc = 20 ∧ ls.length = 4 ∧ st = [] ∧ τ = σ) 998 mF_person 0 (entL [.inr (.inl 11), .inl p, .inl w] (mtb mF_person).2.1) [] σ (fun _ _ => False) := by
  have hx : SX l G (fun pc ls st τ => pc = 20 ∧ ls.length = 4 ∧ st = [] ∧ τ = σ) 998 mF_person 20 [vR 11, vI p, vI w, vU] [] σ (fun _ _ => False) := sx_exit ⟨rfl, rfl, rfl, rfl⟩
  exact bF_person_sx (d := 995) hA (by decide) ⟨h1, ⟨by omega, by omega⟩, fun a => ⟨h2, fun _ => hx, fun b => ⟨fun c => absurd ⟨a.1, a.2, b, c⟩ hP, fun _ => hx⟩⟩, fun _ => hx⟩
theorem CR.grow {G : GP} {σ : Mem} {H H1 : Heap} {a : Nat} (hH : ∀ q : Nat, q < H.size → H1[q]? = H[q]?) : CR G σ H a → CR G σ H1 a := by
  unfold CR
  split
  · intro h; rw [hH _ (Array.getElem?_eq_some_iff.mp h).1]; exact h
  · rintro ⟨h, h2⟩
    exact ⟨by rw [hH _ (Array.getElem?_eq_some_iff.mp h).1]; exact h, fun j hj => by rw [hH _ (Array.getElem?_eq_some_iff.mp (h2 j hj)).1]; exact h2 j hj⟩
  · intro h; rw [hH _ (Array.getElem?_eq_some_iff.mp h).1]; exact h
  · exact id
  · intro h
    obtain ⟨cell, q1, -⟩ := id h
    exact t_OB.kept h (hH _ (Array.getElem?_eq_some_iff.mp q1).1)
  · exact id
theorem Rel.grow {G : GP} {σ : Mem} {H H1 : Heap} (hA : AdOk (gA G) (gB G)) (h : Rel G σ H) (hH : ∀ q : Nat, q < H.size → H1[q]? = H[q]?) : Rel G σ H1 := by
  have hB : gB G < H.size := by
    obtain ⟨cell, q1, -⟩ := CR_4 (G := G) (σ := σ) (H := H) (a := 11) (x := 10) (by decide) (h.1 11 (by decide))
    have := (Array.getElem?_eq_some_iff.mp q1).1
    have e := hA.2 11 (Nat.le_refl _)
    omega
  exact ⟨fun a ha => (h.1 a ha).grow hH, fun q hq => by rw [hH q (by omega)]; exact h.2 q hq⟩
theorem Rel.exc {G : GP} {σ : Mem} {H : Heap} {v : Int} (h : Rel G σ H) : Rel G (ups σ 0 2 v) H := by
  refine ⟨fun a ha => ?_, h.2⟩
  by_cases h0 : a = 0
  · subst h0; exact trivial
  · exact (h.1 a ha).congr (fun _ _ => rfl) (ups_ne h0) (by unfold ups; rw [su_eq]; exact if_neg (by decide))
def rmX (d : Nat) : Room := { frames := d, cells := 1, slots := 6, locals := 64 * d }
def yL : MethodName := ⟨"FirstTimesLaw", "person", "(LFirstTimes;II[J)I"⟩
def hhL : List (Nat × Nat × Nat × Nat) := [(0, 10, 13, 13)]
def pze : List Cond := [.codeWith yL method_3_code 5 (some .int) hhL, .static yL, .initialized "FirstTimesLaw", .methodLink "FirstTimesLaw" 42 yL, .methodLink "FirstTimesLaw" 7 (yof mF_person), .classLink "FirstTimesLaw" 13 xNS, .classLink "FirstTimes" 133 xNS, .initialized xNS] ++ xat.filter goodWord
theorem pq1 : (Cond.codeWith yL method_3_code 5 (some .int) hhL) ∈ lw_tbl := by decide +kernel
theorem pq2 : (Cond.static yL) ∈ lw_tbl := by decide +kernel
theorem pq3 : (Cond.initialized "FirstTimesLaw") ∈ lw_tbl := by decide +kernel
theorem pq4 : (Cond.methodLink "FirstTimesLaw" 42 yL) ∈ lw_tbl := by decide +kernel
theorem pq5 : (Cond.methodLink "FirstTimesLaw" 7 (yof mF_person)) ∈ lw_tbl := by decide +kernel
theorem pq6 : (Cond.classLink "FirstTimesLaw" 13 xNS) ∈ lw_tbl := by decide +kernel
theorem pq7 : (Cond.classLink "FirstTimes" 133 xNS) ∈ lw_tbl := by decide +kernel
theorem pq8 : (Cond.initialized xNS) ∈ lw_tbl := by decide +kernel
theorem pq9 : ∀ w ∈ xat.filter goodWord, w ∈ lw_tbl := by decide +kernel
theorem pze_g : pze.all goodWord = true := by decide +kernel
theorem pze_t : ∀ w ∈ pze, w ∈ lw_tbl := by
  intro w hw
  unfold pze at hw
  rcases List.mem_append.mp hw with h | h
  · simp only [List.mem_cons, List.not_mem_nil, or_false] at h
    rcases h with rfl | rfl | rfl | rfl | rfl | rfl | rfl | rfl
    · exact pq1
    · exact pq2
    · exact pq3
    · exact pq4
    · exact pq5
    · exact pq6
    · exact pq7
    · exact pq8
  · exact pq9 w h
theorem pze_ok {w : Cond} (h : w ∈ pze) : w ∈ TB := List.mem_filter.mpr ⟨pze_t w h, List.all_eq_true.mp pze_g w h⟩
set_option maxRecDepth 1000000 in
theorem pxo : (Cond.classLink "FirstTimes" 133 xNS :: Cond.initialized xNS :: vx_atX "FirstTimes" 137 xNS 13 xrx xnm).all vx_ot = true := by decide +kernel
theorem px_mem : memN mIns mF_person = true := by decide +kernel
theorem px_mck : mckI mF_person = true := List.all_eq_true.mp mI_ok mF_person (memN_ok _ px_mem)
def pPc (G : GP) (args : List AV) (σ : Mem) : Array Value → State → Prop := va_Pc (args.map (cv (gA G))) (fun U => Rel G σ U.heap ∧ Kx G U ∧ KE G U)
theorem z_at {G : GP} {C n d : String} {U : State} {H : Heap} (h : vx_Zq C n d (fun q => gB G ≤ q) U (gH G)) (hR : ∀ q : Nat, q < gB G → H[q]? = (gH G)[q]?) : vx_Zq C n d (fun q => gB G ≤ q) U H := h.kept (fun a _ hn => hR a (Nat.not_le.mp hn))
/-- it throws -/
theorem person_X {l : Launch} (hfl : l.stackTraces = false) {G : GP} (hA : AdOk (gA G) (gB G)) {σ : Mem} {p w : Int} (h1 : rg p) (h2 : rg w) (h3 : 0 ≤ σ 15 1 ∧ σ 15 1 ≤ 6) (hP : ¬ psOk σ p w) :
    vx_Met l (yof mF_person) (mws mF_person) (rmX 998) (pPc G [.inr (.inl 11), .inl p, .inl w] σ) (fun _ _ _ _ => False) (fun E _ t => E = xNS ∧ Rel G σ t.heap) 1 6 (fun q => gB G ≤ q) := by
  have hck := px_mck
  simp only [mckI, Bool.and_eq_true, decide_eq_true_eq, Nat.ble_eq, beq_iff_eq] at hck
  obtain ⟨hcls, hpl, -, -⟩ := mck_ok hck.1.1.1.1.1
  refine vx_ofW (cc := byt mF_person) (maxL := (mtb mF_person).2.1) (ret := rty mF_person) (by decide +kernel) rfl ?_
  intro p' e s m args' below meth c s₁ B hml ht hv
  obtain ⟨rfl, hR, hK, hE⟩ := hv
  have hts : ∀ w' ∈ mws mF_person, w'.before (([.inr (.inl 11), .inl p, .inl w] : List AV).map (cv (gA G))).toArray s = true := atoms_spec (ws := mws mF_person) B.pre
  have htb : ∀ w' ∈ TB, w'.before (([.inr (.inl 11), .inl p, .inl w] : List AV).map (cv (gA G))).toArray s = true := fun w hw => hts w (List.mem_cons_of_mem _ hw)
  have hown : s.vm.findClass (cnm (own mF_person)) = some m.cls := hcls ▸ findClass_of_methodNamed B.named
  have hlocks := B.notSynchronized
  rw [lg_entry_eq]
  have key := person_B (l := l) hA h1 h2 h3 hP p' e (rmX 998) s m (([.inr (.inl 11), .inl p, .inl w] : List AV).map (cv (gA G))).toArray below meth c 0 0 0 0 (σ 0 2) (vx_MQ below (fun _ _ _ _ => False) (fun E _ t => E = xNS ∧ Rel G σ t.heap) (([.inr (.inl 11), .inl p, .inl w] : List AV).map (cv (gA G))).toArray s 1 6 (fun q => gB G ≤ q))
    ⟨B.exec, B.bytes, hml, hown, htb, hK, hA, Nat.le_refl _, Nat.le_refl _, fun e => absurd e (by decide)⟩ (by simp) (by simp) ⟨fun _ _ _ _ _ _ q => q.elim, by
      intro pc ls st τ als H locs hEx hR' hl hL hz
      obtain ⟨rfl, hlen, rfl, rfl⟩ := hEx
      simp only [Nat.zero_mul, Nat.add_zero]
      intro T hT X
      have hsz : s.heap.size ≤ H.size := by rw [← hT]; exact (vx_frame (U := T) X.same).1
      obtain ⟨sa, hstr⟩ := hE.2.1
      refine vx_throwSX (rx := xrx) (ix := 13) (x0 := by decide +kernel) (x1 := by decide +kernel) (x2 := by decide +kernel) (x5 := by decide +kernel) (cc := byt mF_person) (pc := 20) (own := "FirstTimes") (cls := xNS) (text := xTx) (names := xnm) (ik := 133) (is := 135) (ic := 137) (sa := sa) (A := fun q => gB G ≤ q) B.exec B.bytes hfl hown (by decide +kernel) (by decide +kernel) (htb _ (pze_ok (by simp [pze]))) (htb _ (pze_ok (by simp [pze]))) hstr ?_ (List.all_eq_true.mp pxo) (z_at hE.2.2.1 hR.2) (z_at hE.2.2.2 hR.2) ⟨hsz, fun q hq hn => by rw [hR'.2 q (Nat.not_le.mp hn), hR.2 q (Nat.not_le.mp hn)], hl⟩ (by show als.size = _; rw [hL.1, hlen, hml]; decide +kernel) rfl rfl rfl rfl rfl (fun x hx => (ht x hx).elim) (by decide) (by show 0 + (13 * (2 + 1) + 43) ≤ 64 * 998; decide) (by decide) (by decide) hlocks (fun t hv h4 h5 => ⟨rfl, ?_⟩) hl (by decide) (by decide) T hT X
      · refine vx_hat (B := xbad) (fun w hw => htb w (pze_ok (List.mem_append_right _ hw))) (fun w hw => hw) (fun w hw => va_Nw.use ?_ (hE.1.1 w hw))
        have := List.all_eq_true.mp xbad_ok w hw
        unfold xok at this
        split at this
        · rfl
        · rfl
        · cases this
      · exact hR'.grow hA h5⟩
    s.heap [] _ hR (fun q hq => by cases hq) (LR.entry (gA G) [.inr (.inl 11), .inl p, .inl w] (by show (3 : Nat) ≤ (mtb mF_person).2.1; decide +kernel)) (entL_len [.inr (.inl 11), .inl p, .inl w] _ (by show (3 : Nat) ≤ (mtb mF_person).2.1; decide +kernel)) (Or.inr rfl) (Or.inl ⟨rfl, rfl, by decide⟩)
  simp only [Nat.zero_mul, Nat.add_zero] at key
  exact key
abbrev lpAs (p w : Int) : List AV := [.inr (.inl 11), .inl p, .inl w, .inr (.inl 100)]
def wsLp : List Cond := Cond.codeWith yL method_3_code 5 (some .int) hhL :: TB
theorem lp_front {p : Program} {l : Launch} {e : Env} {R : Room} {s : State} {m : MethodId} {args : Array Value} {below : List Frame} {meth : Method} {c : Code} {H : Heap} {locs : List Loc} {cells slots : Nat} {Z : State → Prop} {G : GP} {x w : Int} {als : Array Slot} (hx : p.tables.exec = Jvm.exec) (hb : c.code = method_3_code) (hL : LR (gA G) [vR 11, vI x, vI w, vR 100, vU] als)
    (kk : W p l e R s m args below meth c H locs cells slots Z (F0 m 5 als [.int (Int32.ofInt w), .int (Int32.ofInt x), .ref (gA G 11), .int (Int32.ofInt 0), .ref (gA G 100)])) : W p l e R s m args below meth c H locs cells slots Z (F0 m 0 als []) :=
  lv_aload_n (k := 3) (i := 3) hx hb (by decide +kernel) rfl (hL.at (k := 3) rfl) (lv_iconst (n := 0) (v := Int32.ofInt 0) hx hb (by decide +kernel) rfl (lv_aload_n (k := 0) (i := 0) hx hb (by decide +kernel) rfl (hL.at (k := 0) rfl) (lv_iload_n (k := 1) (i := 1) hx hb (by decide +kernel) rfl (hL.at (k := 1) rfl) (lv_iload_n (k := 2) (i := 2) hx hb (by decide +kernel) rfl (hL.at (k := 2) rfl) kk))))
theorem lp_wsV : ∀ w' ∈ wsV "FirstTimesLaw" 7 (cnm (own mF_person)) (yof mF_person) (mws mF_person), w' ∈ TB := by
  have hwI : ∀ w ∈ wIns mF_person, w ∈ TB := fun w hw => ii_ok (List.mem_flatMap.mpr ⟨mF_person, memN_ok _ px_mem, hw⟩)
  intro w' hw
  unfold wsV mws at hw
  rcases List.mem_append.mp hw with h | h
  · simp only [List.mem_cons, List.not_mem_nil, or_false] at h
    rcases h with rfl | rfl | rfl | rfl
    · exact pze_ok (by simp [pze])
    · exact hwI _ (by simp [wIns])
    · exact hwI _ (by simp [wIns])
    · exact hwI _ (by simp [wIns])
  · rcases List.mem_cons.mp h with rfl | h
    · exact hwI _ (by simp [wIns])
    · exact h
theorem lp_cls {G : GP} {σ : Mem} {s : State} {H : Heap} (hR : Rel G σ H) (hK : Kx G s) : ∃ cell : Cell, H[gA G 11]? = some cell ∧ cell.vm.isStatics = false ∧ s.vm.findClass (cnm (own mF_person)) = some cell.cls := by
  obtain ⟨cell, q1, q2, q3, -⟩ := CR_4 (G := G) (σ := σ) (H := H) (a := 11) (x := 10) (by decide) (hR.1 11 (by decide))
  exact ⟨cell, q1, by rw [q3]; rfl, by rw [q2]; exact (hK.1 10 (by decide)).2.1⟩
theorem lp_A {l : Launch} {G : GP} (hA : AdOk (gA G) (gB G)) {σ : Mem} {p w : Int} (h1 : rg p) (h2 : rg w) (h3 : 0 ≤ σ 15 1 ∧ σ 15 1 ≤ 6) (hP : psOk σ p w) (hv : rg (pval σ p w)) (hr : rg (σ 16 (30 + p * 3 + 2))) :
    Met l yL wsLp (rmd 999) (pPc G (lpAs p w) σ) (cQc G (fun r τ => r = rI 0 ∧ τ = ups σ 100 0 (pval σ p w)) (σ 0 2)) 0 0 (fun q => gB G ≤ q) := by
  have hck := px_mck
  simp only [mckI, Bool.and_eq_true, decide_eq_true_eq, Nat.ble_eq, beq_iff_eq] at hck
  have hM := met_of (l := l) hck.1.1.1.1.1 hA (by decide) (by show (3 : Nat) ≤ (mtb mF_person).2.1; decide +kernel) (person_A (l := l) hA h1 h2 h3 hP hr)
  obtain ⟨hcls, hpl, hmh, -⟩ := mck_ok hck.1.1.1.1.1
  refine va_MetW (cc := method_3_code) (maxL := 5) (ret := some .int) (hh := hhL) (by decide +kernel) rfl ?_
  intro p' e s m args' below meth c s₁ B hml hvv
  obtain ⟨rfl, hR, hK, hE⟩ := hvv
  have hts : ∀ w' ∈ wsLp, w'.before ((lpAs p w).map (cv (gA G))).toArray s = true := atoms_spec (ws := wsLp) B.pre
  have htb : ∀ w' ∈ TB, w'.before ((lpAs p w).map (cv (gA G))).toArray s = true := fun w hw => hts w (List.mem_cons_of_mem _ hw)
  have hown : s.vm.findClass "FirstTimesLaw" = some m.cls := findClass_of_methodNamed B.named
  have hlocks := B.notSynchronized
  rw [lg_entry_eq]
  have hL := LR.entry (gA G) (lpAs p w) (n := 5) (by show (4 : Nat) ≤ 5; decide)
  refine lp_front B.exec B.bytes hL ?_
  obtain ⟨cell, q1, q2, q3⟩ := lp_cls hR hK
  intro T hT X
  obtain ⟨v, st₀, t, T', L, h0, X', hL', e1, e2, ⟨r, τ, ⟨hr1, hr2⟩, hv1, hR', hz'⟩, stp⟩ := va_runV (b := gA G 11) (As := [.int (Int32.ofInt p), .int (Int32.ofInt w)]) (rest := [.int (Int32.ofInt 0), .ref (gA G 100)]) (cc := method_3_code) (nL := 5) (Ts := TB) (own := "FirstTimesLaw") (C := cnm (own mF_person)) ⟨B.exec, B.bytes, hml, hown, htb⟩ hM (cwV (ws' := TB) 2 htb (fun w hw => ⟨lp_wsV w hw, good_TB (lp_wsV w hw)⟩) rfl rfl rfl ⟨hcls, hmh.1, hmh.2, hck.1.1.1.1.2⟩ ⟨by decide, by decide⟩)
    ⟨fun _ _ _ _ h => h, ⟨cell, q1, q2, q3⟩, fun U hU hW => ⟨rfl, by rw [hU]; exact hR, Kx.moved hW.alike hK⟩⟩ (g := F0 m 5 ((lg_sl ((lpAs p w).map (cv (gA G))) ++ List.replicate (5 - (lg_sl ((lpAs p w).map (cv (gA G)))).length) Slot.unset).toArray) [.int (Int32.ofInt w), .int (Int32.ofInt p), .ref (gA G 11), .int (Int32.ofInt 0), .ref (gA G 100)]) rfl rfl hL.1 rfl (by show (2 * 0 + (1 + (1 + 0)) : Nat) ≤ 8; decide) (by show decode method_3_code 5 = _; decide +kernel) ⟨Nat.zero_le _, Nat.zero_le _⟩ T hT X
  subst hr1; have hr2' := hr2.symm; subst hr2'; cases hv1
  have key : W p' l e (rmd 999) s m ((lpAs p w).map (cv (gA G))).toArray below meth c T'.heap ([] ++ L) 0 0 (MQ below (cQc G (fun r τ => r = rI 0 ∧ τ = ups σ 100 0 (pval σ p w)) (σ 0 2)) ((lpAs p w).map (cv (gA G))).toArray s 0 0 (fun q => gB G ≤ q)) (F0 m 8 ((lg_sl ((lpAs p w).map (cv (gA G))) ++ List.replicate (5 - (lg_sl ((lpAs p w).map (cv (gA G)))).length) Slot.unset).toArray) [.int (Int32.ofInt (pval σ p w)), .int (Int32.ofInt 0), .ref (gA G 100)]) := by
    have hR2 : Rel G σ T'.heap := by rw [e1]; exact hR'
    have e9 : shp 100 = (2, 1, 0) := by decide
    have c1 := CR_2 e9 (hR2.1 100 (by decide))
    refine lv_i2l B.exec B.bytes (by decide +kernel) (i64_of32 hv) ?_
    refine W.last B.exec B.bytes c1 (hK.2.2.1.1 _ _) (fun q => by cases q) ?_ rfl rfl (by show decode method_3_code 9 = _; decide +kernel) (fun H' z1 z2 z3 => ?_)
    · rw [arrV_size]; decide
    · have hRn : Rel G (ups σ 100 0 (pval σ p w)) H' := Rel.put hA hR2 (by decide) (by decide) (by rw [e9]; decide) (x := 100) (by rw [foot_1 (by rw [e9]; simp)]; exact List.mem_singleton.mpr rfl) z3 (by
        unfold CR; rw [e9]
        show H'[gA G 100]? = _
        rw [z1, arrV_store]
        refine congrArg some (arrV_fn (fun j hj => ?_))
        rw [su_eq]
        unfold updV fu
        have t0 : (Int32.ofInt 0).toNatClampNeg = 0 := by decide
        rw [t0]
        by_cases hji : j = 0
        · subst hji; rfl
        · rw [if_neg hji, if_neg (fun q => hji (by have : ((j : Nat) : Int) = 0 := q; omega))])
      refine lv_goto B.exec B.bytes (by show decode method_3_code 10 = Except.ok (Instr.goto 7, 3); decide +kernel) (tgt := 17) (by show ((10 : Nat) : Int) + 7 = ((17 : Nat) : Int); decide) (lv_iconst (n := 0) (v := Int32.ofInt 0) B.exec B.bytes (by show decode method_3_code 17 = _; decide +kernel) rfl ?_)
      exact W.iret (v := Int32.ofInt 0) B.exec B.bytes B.returns (fun t ht hW => ⟨rI 0, _, ⟨rfl, rfl⟩, rfl, by rw [ht]; exact hRn, by rw [ups_ne (by decide)]⟩) (t_lc (fun q hq => hL' q (by simpa using hq)) (by have := hA.2 100 (by decide); show gB G ≤ gA G 100; omega)) (by decide +kernel) hlocks
  obtain ⟨t2, a1, b1⟩ := key T' rfl X'
  exact ⟨t2, stp t2 a1, b1⟩
theorem lp_B {l : Launch} (hfl : l.stackTraces = false) {G : GP} (hA : AdOk (gA G) (gB G)) {σ : Mem} {p w : Int} (h1 : rg p) (h2 : rg w) (h3 : 0 ≤ σ 15 1 ∧ σ 15 1 ≤ 6) (hP : ¬ psOk σ p w) :
    Met l yL wsLp (rmX 999) (pPc G (lpAs p w) σ) (fun _ _ o t => o = .returned (some (.int (Int32.ofInt 1))) ∧ Rel G σ t.heap) 1 6 (fun q => gB G ≤ q) := by
  have hck := px_mck
  simp only [mckI, Bool.and_eq_true, decide_eq_true_eq, Nat.ble_eq, beq_iff_eq] at hck
  have hM := person_X hfl hA h1 h2 h3 hP
  obtain ⟨hcls, hpl, hmh, -⟩ := mck_ok hck.1.1.1.1.1
  refine va_MetW (cc := method_3_code) (maxL := 5) (ret := some .int) (hh := hhL) (by decide +kernel) rfl ?_
  intro p' e s m args' below meth c s₁ B hml hvv
  obtain ⟨rfl, hR, hK, hE⟩ := hvv
  have hts : ∀ w' ∈ wsLp, w'.before ((lpAs p w).map (cv (gA G))).toArray s = true := atoms_spec (ws := wsLp) B.pre
  have htb : ∀ w' ∈ TB, w'.before ((lpAs p w).map (cv (gA G))).toArray s = true := fun w hw => hts w (List.mem_cons_of_mem _ hw)
  have hown : s.vm.findClass "FirstTimesLaw" = some m.cls := findClass_of_methodNamed B.named
  have hlocks := B.notSynchronized
  rw [lg_entry_eq]
  have hL := LR.entry (gA G) (lpAs p w) (n := 5) (by show (4 : Nat) ≤ 5; decide)
  refine lp_front B.exec B.bytes hL ?_
  obtain ⟨cell, q1, q2, q3⟩ := lp_cls hR hK
  intro T hT X
  rcases vx_runV (b := gA G 11) (As := [.int (Int32.ofInt p), .int (Int32.ofInt w)]) (rest := [.int (Int32.ofInt 0), .ref (gA G 100)]) (cc := method_3_code) (nL := 5) (Ts := TB) (own := "FirstTimesLaw") (C := cnm (own mF_person)) ⟨B.exec, B.bytes, hml, hown, htb⟩ hM (cwV (ws' := TB) 2 htb (fun w hw => ⟨lp_wsV w hw, good_TB (lp_wsV w hw)⟩) rfl rfl rfl ⟨hcls, hmh.1, hmh.2, hck.1.1.1.1.2⟩ ⟨by decide, by decide⟩)
    ⟨fun _ U0 _ _ h => ⟨h.1, h.2.1, h.2.2.1, KE.warm (s := U0) (State.WarmedH.refl U0) h.2.2.2⟩, ⟨cell, q1, q2, q3⟩, fun U hU hW => ⟨rfl, by rw [hU]; exact hR, Kx.moved hW.alike hK, KE.warm hW hE⟩⟩ (g := F0 m 5 ((lg_sl ((lpAs p w).map (cv (gA G))) ++ List.replicate (5 - (lg_sl ((lpAs p w).map (cv (gA G)))).length) Slot.unset).toArray) [.int (Int32.ofInt w), .int (Int32.ofInt p), .ref (gA G 11), .int (Int32.ofInt 0), .ref (gA G 100)]) rfl rfl hL.1 rfl (by show (2 * 0 + (1 + (1 + 0)) : Nat) ≤ 8; decide) (by show decode method_3_code 5 = _; decide +kernel) ⟨by decide, by decide⟩ T hT X with ⟨v, st₀, t, T', L, h0, X', hL', e1, e2, hQ, stp⟩ | ⟨q, st₀, t, T', L, E, ce, h0, X', hL', e1, e2, ⟨hEq, hR'⟩, hce, hcv, hcl, stp⟩
  · exact hQ.elim
  · subst hEq
    have key : W p' l e (rmX 999) s m ((lpAs p w).map (cv (gA G))).toArray below meth c T'.heap ([] ++ L) (0 + 1) (0 + 6) (MQ below (fun _ _ o t => o = .returned (some (.int (Int32.ofInt 1))) ∧ Rel G σ t.heap) ((lpAs p w).map (cv (gA G))).toArray s 1 6 (fun q => gB G ≤ q)) (F0 m 13 ((lg_sl ((lpAs p w).map (cv (gA G))) ++ List.replicate (5 - (lg_sl ((lpAs p w).map (cv (gA G)))).length) Slot.unset).toArray) [.ref q]) := by
      refine lv_astore B.exec B.bytes (by show decode method_3_code 13 = Except.ok (Instr.astore 4, 2); decide +kernel) hL (by show (4 : Nat) < 5; decide) rfl (fun als' _ => lv_iconst (n := 1) (v := Int32.ofInt 1) B.exec B.bytes (by decide +kernel) rfl ?_)
      exact W.iret (v := Int32.ofInt 1) B.exec B.bytes B.returns (fun t' ht hW => ⟨rfl, by rw [ht, e1]; exact hR'⟩) (fun q hq => hL' q (by simpa using hq)) (by decide +kernel) hlocks
    obtain ⟨t2, a1, b1⟩ := vx_catch (name := xNS) (E := xNS) (own := "FirstTimesLaw") hown [] ⟨0, 10, 13, 13⟩ [] (vx_table (x := yL) B (hts _ List.mem_cons_self)) (fun z hz => by cases hz) (by show covers _ 5 = true; decide) (by decide) (htb _ (pze_ok (by simp [pze]))) (va_Nw.use rfl hE.1.2) (by rw [e1]; exact hce) hcv hcl key T' rfl X'
    exact ⟨t2, stp.trans a1, b1⟩
def p42c : Bool := (List.range 321).all (fun M => (mcode M).all (fun s => s.2.all (fun q => match q.2 with
  | (.invokestatic k, _, (_, _, 7), _) => Nat.beq k 42
  | _ => true)))
set_option maxRecDepth 1000000 in
theorem p42_ok : p42c = true := by decide +kernel
theorem p42 {M pc k : Nat} (h : ∃ (n x y : Nat) (v : Int), lks (mcode M) pc = some (.invokestatic k, n, (x, y, 7), v)) : k = 42 := by
  obtain ⟨n, x, y, v, h⟩ := h
  by_cases hM : M < 321
  · obtain ⟨s, h1, h2⟩ := lks_mem _ h
    exact Nat.beq_eq.mp (List.all_eq_true.mp (List.all_eq_true.mp (List.all_eq_true.mp p42_ok M (List.mem_range.mpr hM)) s h1) _ h2)
  · have h0 : mcode M = [] := by
      unfold mcode mrow
      rw [show Nat.blt M 321 = false from by rw [Bool.eq_false_iff]; intro q; rw [Nat.blt_eq] at q; exact hM q]
      rfl
    rw [h0] at h
    cases h
theorem lp_wsS : ∀ w' ∈ va_wsS "FirstTimesLaw" 42 yL wsLp, w' ∈ TB := by
  intro w' hw
  unfold va_wsS wsLp at hw
  rcases List.mem_append.mp hw with h | h
  · simp only [List.mem_cons, List.not_mem_nil, or_false] at h
    rcases h with rfl | rfl | rfl
    · exact pze_ok (by simp [pze])
    · exact pze_ok (by simp [pze])
    · exact pze_ok (by simp [pze, yL])
  · rcases List.mem_cons.mp h with rfl | h
    · exact pze_ok (by simp [pze])
    · exact h
theorem prs_ok {l : Launch} (hfl : l.stackTraces = false) {G : GP} (hA : AdOk (gA G) (gB G)) : PRS l G := by
  intro E M pc k ls st σ Q hd hent hown h
  have hk := p42 hent
  subst hk
  unfold prs at h
  split at h
  · rename_i w p
    obtain ⟨⟨h1, h2, h3, h4, h5⟩, hPA, hPB⟩ := h
    have hst : ∀ f : AV → Value, ([.inr (.inl 100), .inl w, .inl p, .inr (.inl 11)] : List AV).map f = ((lpAs p w).map f).reverse ++ [] := fun f => rfl
    by_cases hP : psOk σ p w
    · obtain ⟨g1, g2, g3⟩ := hPA hP
      refine sx_run (y := 4) (x := 0) (K := fun r τ => r = rI 0 ∧ τ = ups σ 100 0 (pval σ p w)) (a := ((lpAs p w).map (cv (gA G))).toArray) (fun p' e R s m args below meth c H locs cells slots als hC hR hL hn hcz hsz => ?_) (fun r τ hr => by obtain ⟨rfl, rfl⟩ := hr; exact g3)
      obtain ⟨hex, hbb, hml, hown', hts, hKx, hAd, hfr, hlo, hke⟩ := hC
      rw [hown] at hown'
      exact vx_runSW (cc := byt M) (nL := (mtb M).2.1) (Ts := TB) (own := "FirstTimesLaw") ⟨hex, hbb, hml, hown', hts⟩ (lp_A (l := l) hA h1 h2 h3 hP g1 g2) (vx_cwSW (ws' := TB) 4 hts (fun w hw => ⟨lp_wsS w hw, good_TB (lp_wsS w hw)⟩) rfl rfl rfl ⟨by decide, by decide, by decide +kernel⟩ ⟨by show 999 + 1 ≤ _; exact hfr, by show 8 + (5 + 11) + 64 * 999 ≤ _; omega⟩)
        ⟨fun _ U0 _ _ h => ⟨h.1, h.2.1, h.2.2.1, KE.warm (s := U0) (State.WarmedH.refl U0) h.2.2.2⟩, fun U hU hW => ⟨rfl, by rw [hU]; exact hR, Kx.moved hW.alike hKx, KE.warm hW (hke rfl)⟩⟩ rfl rfl (by show als.size = _; rw [hL.1, hn]) (hst _) (by show (2 * 0 + 0 : Nat) ≤ 8; decide) hd ⟨hcz, hsz⟩
    · have g3 := hPB hP
      intro p' e R s m args below meth c cb kc sb ks e0 Z hC hc1 hs1 hend H locs als hR hl hL hn hz hk
      have hC' := hC
      obtain ⟨hex, hbb, hml, hown', hts, hKx, hAd, hfr, hlo, hke⟩ := hC
      rw [hown] at hown'
      rcases hk with hk | ⟨⟨hk1, hk2⟩, hk3⟩
      · exact absurd hk.2.2 (by decide)
      have e6 : (ups σ 0 2 (σ 0 2 + 1)) 0 2 = σ 0 2 + 1 := by unfold ups; rw [su_eq]; exact if_pos rfl
      have e7 : (σ 0 2 + 1).toNat = (σ 0 2).toNat + 1 := by omega
      have ec : cb + kc * (σ 0 2).toNat + kc ≤ cb + kc * 600 := by
        have : kc * ((σ 0 2).toNat + 1) ≤ kc * 600 := Nat.mul_le_mul_left _ (by omega)
        rw [Nat.mul_add, Nat.mul_one] at this
        omega
      have es : sb + ks * (σ 0 2).toNat + ks ≤ sb + ks * 600 := by
        have : ks * ((σ 0 2).toNat + 1) ≤ ks * 600 := Nat.mul_le_mul_left _ (by omega)
        rw [Nat.mul_add, Nat.mul_one] at this
        omega
      intro T hT X
      obtain ⟨v, st₀, t, T', L, h0, X', hL', e1, e2, ⟨hv1, hR'⟩, stp⟩ := vx_runSW (cc := byt M) (nL := (mtb M).2.1) (Ts := TB) (own := "FirstTimesLaw") (As := (lpAs p w).map (cv (gA G))) (rest := []) ⟨hex, hbb, hml, hown', hts⟩ (lp_B (l := l) hfl hA h1 h2 h3 hP) (vx_cwSW (ws' := TB) 4 hts (fun w hw => ⟨lp_wsS w hw, good_TB (lp_wsS w hw)⟩) rfl rfl rfl ⟨by decide, by decide, by decide +kernel⟩ ⟨by show 999 + 1 ≤ _; exact hfr, by show 8 + (5 + 11) + 64 * 999 ≤ _; omega⟩)
        ⟨fun _ U0 _ _ h => ⟨h.1, h.2.1, h.2.2.1, KE.warm (s := U0) (State.WarmedH.refl U0) h.2.2.2⟩, fun U hU hW => ⟨rfl, by rw [hU]; exact hR, Kx.moved hW.alike hKx, KE.warm hW (hke rfl)⟩⟩ (g := F0 m pc als (([.inr (.inl 100), .inl w, .inl p, .inr (.inl 11)] : List AV).map (cv (gA G)))) rfl rfl (by show als.size = _; rw [hL.1, hn]) (hst _) (by show (2 * 0 + 0 : Nat) ≤ 8; decide) hd ⟨by omega, by omega⟩ T hT X
      cases hv1
      have hW := g3 p' e R s m args below meth c cb kc sb ks e0 Z hC' hc1 hs1 hend T'.heap (locs ++ L) als (Rel.exc (by rw [e1]; exact hR')) (fun q hq => by
        rcases List.mem_append.mp hq with h | h
        · exact hl q h
        · exact hL' q h) hL hn (Or.inl rfl) (Or.inr ⟨⟨hk1, hk2⟩, by rw [e6]; omega⟩)
      rw [e6, e7, Nat.mul_add, Nat.mul_add, Nat.mul_one, Nat.mul_one] at hW
      obtain ⟨t2, a1, b1⟩ := hW T' rfl (stand_widen X' (by omega) (by omega))
      exact ⟨t2, stp t2 a1, b1⟩
  · exact h.elim
