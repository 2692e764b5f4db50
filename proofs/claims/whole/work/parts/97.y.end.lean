/-! ===== THE LAW FROM ITS START: all that is owed is one walk of the abstract machine ===== -/
def R_law : String := "FirstTimesLaw"
def lw_P (b : Addr) (xs : List Int32) (args : Array Value) (s : State) : Prop := args = #[.ref b] ∧ s.IntsAt b xs ∧ xs.length ≤ 3072 ∧ (Jvm.Cond.and given_1 narrow_1).before args s = true
def lw_Q (_ : Array Value) (s : State) (o : Outcome) (t : State) : Prop := o = .returned (some (.int 1)) ∧ Framed s o t [] 601024 7293034
def lw_Z (below : List Frame) (a : Array Value) (s : State) : State → Prop := fun t => ∃ o, t.status = .running ∧ Ended t below o ∧ lw_Q a s o t
/-- the law's own end, with 1 on the stack, nothing written that was there before, its room as the claim has it -/
theorem lw_ret {p : Program} {l : Launch} {e : Env} {s : State} {m : MethodId} {below : List Frame} {meth : Method} {c : Code} {b : Nat} (hx : p.tables.exec = Jvm.exec) (hb : c.code = code) (hr : meth.sig.returnType = ret) (hlocks : meth.locks = false) {pc : Nat} {H : Heap} {ls : Array Slot} (hdg : decode code pc = .ok (.ireturn, 1)) : W p l e room_1 s m #[Value.ref b] below meth c H [] 601024 7293034 (lw_Z below #[Value.ref b] s) (F0 m pc ls [.int 1]) := by
  intro T hT X
  obtain ⟨fs, hret, hrun, hended, hW, hframe⟩ := X.leave (v := some (.int 1)) (hlocks := hlocks) (fun h => by rw [hr] at h; cases h)
  have hmeth' : T.vm.method? m = some meth := X.method'
  refine ⟨T.setFrames fs, ?_, .returned (some (.int 1)), hrun, hended, rfl, ⟨_, rfl⟩, hW, hframe⟩
  jvm_step X.here [X.here.top, hx, hb, hdg, hmeth', hr, ret, narrow_b1]
  (try refine ⟨rfl, ?_⟩); (try refine ⟨rfl, ?_⟩)
  first | (intro acts; rw [hret _ acts rfl rfl rfl]) | rw [hret _ _ rfl rfl rfl]
  exact Steps.refl _
/-- what holds at the law's entry: the machine, the code, the tables' words (any of lw_tbl by 'hts w (by decide +kernel)'), the script of L ints xs at the cell b, what the Statement gives of the start (any of its parts by flat_of_before) -/
def lw_At (p : Program) (s : State) (m : MethodId) (meth : Method) (c : Code) (b L : Nat) (xs : Nat → Int32) : Prop :=
  p.tables.exec = Jvm.exec ∧ c.code = code ∧ meth.sig.returnType = ret ∧ c.maxLocals = 7 ∧ s.vm.findClass R_law = some m.cls ∧ (∀ w ∈ lw_tbl, w.before #[Value.ref b] s = true) ∧ va_X b L xs s s.heap ∧ b < s.heap.size ∧ meth.locks = false ∧ (Jvm.Cond.and given_1 narrow_1).before #[Value.ref b] s = true
set_option maxRecDepth 1000000 in
theorem xbad_t : ∀ w ∈ Cond.castable xNS xNS :: xbad, w ∈ lw_tbl := by decide +kernel
def xwt : List Cond := [.stringRef "FirstTimes" 135 xTx, .laysStatic Bundle.tN "UNASSIGNED_STACK" Bundle.steD, .laysStatic Bundle.tN "SUPPRESSED_SENTINEL" Bundle.listD, .initialized Bundle.tN]
set_option maxRecDepth 1000000 in
theorem xwt_t : ∀ w ∈ xwt, w ∈ lw_tbl := by decide +kernel
def xwg : List Cond := [.exactly (.string "FirstTimes" 135) "java/lang/String", .isRef (.static Bundle.tN "UNASSIGNED_STACK" Bundle.steD), .isRef (.static Bundle.tN "SUPPRESSED_SENTINEL" Bundle.listD)]
set_option maxRecDepth 1000000 in
theorem xwg_t : ∀ w ∈ xwg, w ∈ flatC (Jvm.Cond.and given_1 narrow_1) := by decide +kernel
theorem start_KE {G : GP} {s : State} {args : Array Value} (hB : gB G = s.heap.size) (hH : gH G = s.heap) (hts : ∀ w ∈ lw_tbl, w.before args s = true) (hgv : (Jvm.Cond.and given_1 narrow_1).before args s = true) : KE G s := by
  have hg : ∀ w ∈ xwg, w.before args s = true := fun w hw => flat_of_before _ hgv w (xwg_t w hw)
  have ht : ∀ w ∈ xwt, w.before args s = true := fun w hw => hts w (xwt_t w hw)
  have hA : ∀ a : Nat, a < s.heap.size → ¬ (gB G ≤ a) := fun a ha => by rw [hB]; exact Nat.not_le.mpr ha
  refine ⟨⟨fun w hw => va_Nw.of ?_ (hts w (xbad_t w (List.mem_cons_of_mem _ hw))), va_Nw.of rfl (hts _ (xbad_t _ List.mem_cons_self))⟩, ?_, ?_, ?_⟩
  · have := List.all_eq_true.mp xbad_ok w hw
    unfold xok at this
    split at this
    · rfl
    · rfl
    · cases this
  · obtain ⟨a, c, cA, kA, q1, -⟩ := Cond.exactly_spec (hg _ (by simp [xwg]) : (Cond.exactly (.string "FirstTimes" 135) "java/lang/String").before args s = true)
    exact ⟨a, vk_R.of (ht _ (by simp [xwt])) q1⟩
  · rw [hH]; exact vx_Zqof (ht _ (by simp [xwt])) (ht _ (by simp [xwt])) (hg _ (by simp [xwg])) hA
  · rw [hH]; exact vx_Zqof (ht _ (by simp [xwt])) (ht _ (by simp [xwt])) (hg _ (by simp [xwg])) hA
/-- the walk that is owed -/
def Owed : Prop := ∀ (L : Nat) (X : Nat → Int32), L ≤ 3072 → Ev 1000 mL_law 23 lo0 [] (mem0 L X) (fun r τ => r = rI 1 ∧ τ 0 2 ≤ 600)
set_option maxRecDepth 100000 in
theorem whole_from (howed : Owed) {p : Program} {e : Env} {s : State} {m : MethodId} {below : List Frame} {meth : Method} {c : Code} (l : Launch) (hflags : l.flags = flags0) {b L : Nat} {xs : Nat → Int32} (hL : L ≤ 3072) (C0 : lw_At p s m meth c b L xs) : W p l e room_1 s m #[Value.ref b] below meth c s.heap [] 0 0 (lw_Z below #[Value.ref b] s) (entryFrame m ([Value.ref b] : List Value).toArray 7) := by
  obtain ⟨hex, hbc, hret, hml, hown, hts, hX, hbl, hlocks, hgv⟩ := C0
  have hfl : l.stackTraces = false := by unfold Launch.stackTraces; rw [hflags]; decide
  obtain ⟨G, g1, g2, g3, g4, g5, hA, hK, hKg⟩ := start_G hts hX hbl hL hgv
  subst g2; subst g3; subst g4
  have hTB : ∀ w ∈ TB, w.before #[Value.ref (gA G 1)] s = true := fun w hw => hts w (List.mem_filter.mp hw).1
  have hKE := start_KE g1 g5 hts hgv
  have hb2 : c.code = byt mL_law := hbc
  have hm2 : c.maxLocals = (mtb mL_law).2.1 := by rw [hml]; decide +kernel
  have ho2 : s.vm.findClass (cnm (own mL_law)) = some m.cls := hown
  refine pre_all (l := l) ⟨hex, hb2, hm2, ho2, hTB, hK, hKg, hA, fun q => ?_, by decide, by decide⟩ g1 g5 (by decide) (by decide +kernel) (fun H locs als hR hl hLR => ?_)
  · exact absurd (memN_of q) (by decide +kernel)
  · have key := sx_ev (E := noE) hA (fun _ => prs_ok hfl hA) (Nat.le_refl 1000) (howed (gL G) (gX G) hL) p e room_1 s m #[Value.ref (gA G 1)] below meth c 90 1 (sl 101 - sl 11) 6 0 (lw_Z below #[Value.ref (gA G 1)] s)
      ⟨hex, hb2, hm2, ho2, hTB, hK, hA, by decide, by decide, fun _ => hKE⟩ (by decide) (by decide +kernel) ⟨?_, fun _ _ _ _ _ _ _ q => q.elim⟩ H locs als hR hl hLR (by decide +kernel) (Or.inl rfl) (Or.inr ⟨⟨by decide, by decide⟩, by show (mem0 _ _ 0 2).toNat ≤ 600; exact Nat.zero_le _⟩)
    · exact key
    · intro pc als' H' locs' r τ hQ hR' hl' hz hret'
      obtain ⟨rfl, h6⟩ := hQ
      have e1 : ((rI 1 : RV).toList.map (cv (gA G))) = [Value.int 1] := rfl
      rw [e1]
      refine va_forget (fun q hq => by have := hl' q hq; omega) (W.widen (k := 601024) (n := 7293034) ?_ ?_ (lw_ret hex hbc hret hlocks hret'.1))
      · have : (τ 0 2).toNat ≤ 600 := by omega
        omega
      · have : (τ 0 2).toNat ≤ 600 := by omega
        have e9 : sl 101 - sl 11 ≤ 100000 := by decide +kernel
        omega
