/-! ===== new int[n][k]: what it makes ===== -/
section MULTI
/-- the state behind i rows of the grid -/
def mgS (S : State) (cA cB : ClassId) (n k : Nat) : Nat → State
  | 0 => S.pushCell (arrV cA n (fun _ => .null))
  | i + 1 => ((mgS S cA cB n k i).pushCell (arrV cB k (fun _ => .int 0))).setCell S.heap.size (arrV cA n (fun j => if j < i + 1 then .ref (S.heap.size + 1 + j) else .null))
def mgR (h : Nat) (i : Nat) : Nat → Value := fun j => if j < i then .ref (h + 1 + j) else .null
theorem mgR_up {cA : ClassId} {n h i : Nat} : (arrV cA n (mgR h i)).setSlot i (.ref (h + 1 + i)) = arrV cA n (mgR h (i + 1)) := by
  rw [arrV_store]
  refine arrV_fn (fun j _ => ?_)
  unfold updV mgR
  by_cases e : j = i
  · subst e; rw [if_pos rfl, if_pos (by omega)]
  · rw [if_neg e]
    by_cases hj : j < i
    · rw [if_pos hj, if_pos (by omega)]
    · rw [if_neg hj, if_neg (by omega)]
theorem mgR_0 {cA : ClassId} {n h : Nat} : arrV cA n (fun _ => .null) = arrV cA n (mgR h 0) := arrV_fn (fun j _ => by unfold mgR; rw [if_neg (by omega)])
theorem mgS_facts (S : State) (cA cB : ClassId) (n k : Nat) : ∀ i, (mgS S cA cB n k i).heap.size = S.heap.size + 1 + i ∧ (mgS S cA cB n k i).heap[S.heap.size]? = some (arrV cA n (mgR S.heap.size i)) ∧ (mgS S cA cB n k i).vm = S.vm ∧ (mgS S cA cB n k i).slotsUsed = S.slotsUsed + n + i * k ∧
    (∀ a, a < S.heap.size → (mgS S cA cB n k i).heap[a]? = S.heap[a]?) ∧ ∀ j, j < i → (mgS S cA cB n k i).heap[S.heap.size + 1 + j]? = some (arrV cB k (fun _ => .int 0))
  | 0 => by
    refine ⟨by simp [mgS], ?_, rfl, ?_, fun a ha => State.heap_pushCell_of_lt _ _ ha, fun j hj => absurd hj (Nat.not_lt_zero _)⟩
    · rw [← mgR_0]; exact State.heap_pushCell_size _ _
    · show (S.pushCell _).slotsUsed = _
      have : (arrV cA n (fun _ => Value.null)).slots.size = n := arrV_size _ _ _
      simp [this]
  | i + 1 => by
    obtain ⟨a1, a2, a3, a4, a5, a6⟩ := mgS_facts S cA cB n k i
    have hlt : S.heap.size < (mgS S cA cB n k i).heap.size := by omega
    have hb : ((mgS S cA cB n k i).pushCell (arrV cB k (fun _ => .int 0))).heap[S.heap.size]? = some (arrV cA n (mgR S.heap.size i)) := by rw [State.heap_pushCell_of_lt (h := hlt)]; exact a2
    refine ⟨?_, ?_, ?_, ?_, fun a ha => ?_, fun j hj => ?_⟩
    · simp [mgS, State.setCell, a1]; omega
    · exact State.heap_setCell_self hb
    · simp [mgS, a3]
    · have e1 : (arrV cB k (fun _ => Value.int 0)).slots.size = k := arrV_size _ _ _
      simp [mgS, a4, e1, Nat.succ_mul]; omega
    · show (((mgS S cA cB n k i).pushCell _).setCell S.heap.size _).heap[a]? = _
      have ha2 : a < (mgS S cA cB n k i).heap.size := by omega
      rw [State.heap_setCell_other (Nat.ne_of_gt ha), State.heap_pushCell_of_lt (h := ha2)]
      exact a5 a ha
    · show (((mgS S cA cB n k i).pushCell _).setCell S.heap.size _).heap[S.heap.size + 1 + j]? = _
      have hne : S.heap.size ≠ S.heap.size + 1 + j := by omega
      rw [State.heap_setCell_other hne]
      by_cases e : j = i
      · subst e
        rw [← a1]
        exact State.heap_pushCell_size _ _
      · have hj2 : S.heap.size + 1 + j < (mgS S cA cB n k i).heap.size := by omega
        rw [State.heap_pushCell_of_lt (h := hj2)]
        exact a6 j (by omega)
theorem mgS_top (S : State) (f : JFrame) (cA cB : ClassId) (n k : Nat) : ∀ i, mgS (S.setTop f) cA cB n k i = (mgS S cA cB n k i).setTop f
  | 0 => rfl
  | i + 1 => by simp only [mgS, mgS_top S f cA cB n k i, State.heap_setTop, State.pushCell_setTop, State.setCell_setTop]
section WPP
variable {E : CtlPost} {e : Env} {d : Bool} {acts : List Action} {S : State}
theorem wp_na {c comp : ClassId} {kl : Class} {ty : FieldType} {n : Nat} {v : Value} (hk : S.vm.classes[c]? = some kl) (hkind : kl.kind = .array comp ty) (hl : ¬ n > e.platform.arrayLengthLimit) (hh : ¬ n * componentBytes ty > e.platform.maxHeapBytes) (hf : fits ty v = true) (hd : v.isDefault = true)
    (h1 : S.heap.size < e.platform.maxCells) (h2 : S.slotsUsed + n ≤ e.platform.maxSlots) {Q : Addr → Pre} (hq : Q S.heap.size d acts (S.pushCell (arrV c n (fun _ => v)))) : Jvm.Sem.wp (Jvm.newArray c n v) Q E e d acts S := by
  rw [← arrV_new] at hq
  have f1 : ∀ (i : Nat) (w : Value), (Array.replicate n v)[i]? = some w → S.fitsSlot c .none i w = true := by
    intro i w hw
    rw [Array.getElem?_replicate] at hw
    split at hw
    · cases hw; simp [State.fitsSlot, State.slotType?, hk, hkind, hf]
    · cases hw
  have f2 : allocActs (Array.replicate n v) S.heap.size acts = acts := by
    have : ((Array.replicate n v).all (·.isDefault)) = true := by rw [Array.all_replicate]; split <;> simp [hd]
    unfold allocActs; rw [if_pos this]
  simp only [Jvm.newArray, Jvm.arrayFits, wp_bind', W.ask, W.ite, hl, if_false, wp_pure', W.theClass, hk, hkind, hh, W.alloc, W.stop, Option.some.injEq, exists_eq_left', Array.size_replicate, f2]
  rw [if_neg (by omega)]
  exact ⟨h1, h2, f1, hq⟩
theorem wp_grid {cA cB cc : ClassId} {kA kB : Class} {n k : Int32} {N K : Nat} (hN : n.toNatClampNeg = N) (hK : k.toNatClampNeg = K) (hkA : S.vm.classes[cA]? = some kA) (hA : kA.kind = .array cB (.array .int)) (hkB : S.vm.classes[cB]? = some kB) (hB : kB.kind = .array cc .int) (hn : ¬ n < 0) (hk : ¬ k < 0)
    (l1 : ¬ N > e.platform.arrayLengthLimit) (l2 : ¬ N * 4 > e.platform.maxHeapBytes) (l3 : ¬ K > e.platform.arrayLengthLimit) (l4 : ¬ K * 4 > e.platform.maxHeapBytes)
    (hc : S.heap.size + 1 + N ≤ e.platform.maxCells) (hs : S.slotsUsed + N + N * K ≤ e.platform.maxSlots) {Q : Addr → Pre} (hq : ∀ d' acts', Q S.heap.size d' acts' (mgS S cA cB N K N)) : Jvm.Sem.wp (multianewarray.make cA [n, k]) Q E e d acts S := by
  have hfind : ([k].find? (· < 0)) = none := by simp [hk]
  rw [multianewarray.make]
  simp only [wp_bind', W.ite, hn, if_false, wp_pure', W.theClass, hkA, hA, Option.some.injEq, exists_eq_left', hN]
  refine wp_na hkA hA l1 l2 rfl rfl (by omega) (by have := Nat.zero_le (N * K); omega) ?_
  simp only [hfind]
  rw [ite_self, wp_bind', Std.Legacy.Range.forIn_eq_forIn_range']
  have hsz : ([:N] : Std.Legacy.Range).size = N := by simp [Std.Legacy.Range.size]
  rw [hsz]
  show Jvm.Sem.wp (forIn (List.range' 0 N 1) PUnit.unit _) _ E e d acts _
  refine wp_forIn_inv (fun rest s' => ∃ i, i ≤ N ∧ rest = List.range' i (N - i) ∧ s' = mgS S cA cB N K i) _ _ ⟨0, Nat.zero_le _, rfl, rfl⟩ ?_ ?_
  · rintro x rest s' d' acts' Q' ⟨i, hi, hl, rfl⟩ hnext
    have hlt : i < N := by
      by_cases h : i < N
      · exact h
      · rw [show N - i = 0 by omega] at hl; simp at hl
    rw [show N - i = (N - (i + 1)) + 1 by omega, List.range'_succ] at hl
    obtain ⟨rfl, hrest⟩ := List.cons.inj hl
    obtain ⟨f1, f2, f3, f4, f5, f6⟩ := mgS_facts S cA cB N K x
    have hmul : x * K + K ≤ N * K := by
      have := Nat.mul_le_mul_right K (show x + 1 ≤ N from hlt)
      rwa [Nat.succ_mul] at this
    simp only [wp_bind']
    rw [multianewarray.make]
    simp only [wp_bind', W.ite, hk, if_false, wp_pure', W.theClass, f3, hkB, hB, Option.some.injEq, exists_eq_left', hK]
    refine wp_na (by rw [f3]; exact hkB) hB l3 l4 rfl rfl (by omega) (by omega) ?_
    have hlt0 : S.heap.size < (mgS S cA cB N K x).heap.size := by omega
    simp only [wp_bind', W.writeLoc, wp_pure']
    refine ⟨arrV cA N (mgR S.heap.size x), by rw [State.heap_pushCell_of_lt (h := hlt0)]; exact f2, by simp [arrV], by rw [arrV_size]; exact hlt, ?_, hnext _ _ _ ⟨x + 1, hlt, hrest, ?_⟩⟩
    · simp [State.fitsSlot, State.slotType?, f3, hkA, hA, arrV]
      rfl
    · rw [f1, mgR_up]; rfl
  · rintro s' d' acts' ⟨i, hi, hl, rfl⟩
    have hiN : i = N := by
      by_cases h : i < N
      · rw [show N - i = (N - (i + 1)) + 1 by omega, List.range'_succ] at hl; cases hl
      · omega
    subst hiN
    simp only [wp_pure']
    exact hq _ _
end WPP
section MGW
variable {p : Program} {l : Launch} {e : Env} {R : Room} {s : State} {m : MethodId} {args : Array Value} {below : List Frame} {meth : Method} {c : Code} {locs : List Loc} {cells slots : Nat}
theorem mgS_stand {T : State} (X : Stand p l e R s m args below meth c T locs cells slots) (cA cB : ClassId) (n k : Nat) : ∀ i, Stand p l e R s m args below meth c (mgS T cA cB n k i) (locs ++ (List.range i).map fun j => ⟨T.heap.size, j⟩) (cells + 1 + i) (slots + n + i * k)
  | 0 => by
    have h := X.pushed (arrV cA n (fun _ => .null))
    rw [arrV_size] at h
    simpa [mgS] using h
  | i + 1 => by
    have Xi := mgS_stand X cA cB n k i
    obtain ⟨a1, a2, a3, a4, a5, a6⟩ := mgS_facts T cA cB n k i
    have hlt : T.heap.size < (mgS T cA cB n k i).heap.size := by omega
    have hcell : ((mgS T cA cB n k i).pushCell (arrV cB k (fun _ => .int 0))).heap[T.heap.size]? = some (arrV cA n (mgR T.heap.size i)) := by rw [State.heap_pushCell_of_lt (h := hlt)]; exact a2
    have h := (Xi.pushed (arrV cB k (fun _ => .int 0))).stored hcell i (.ref (T.heap.size + 1 + i))
    rw [arrV_size, mgR_up] at h
    have e2 : (locs ++ (List.range (i + 1)).map fun j => (⟨T.heap.size, j⟩ : Loc)) = (locs ++ (List.range i).map fun j => (⟨T.heap.size, j⟩ : Loc)) ++ [⟨T.heap.size, i⟩] := by simp [List.range_succ, List.append_assoc]
    have e3 : slots + n + (i + 1) * k = slots + n + i * k + k := by rw [Nat.succ_mul]; omega
    rw [e2, e3]
    exact h
theorem W_multi {cc : ByteArray} {H : Heap} {Q : State → Prop} (hexec : p.tables.exec = Jvm.exec) (hb : c.code = cc) {own : String} {index : Nat} (hown : s.vm.findClass own = some m.cls) (hclink : (Cond.classLink own index "[[I").before args s = true)
    {cA cB cI : ClassId} {kA kB : Class} (hnm : s.vm.findClass "[[I" = some cA) (hkA : s.vm.classes[cA]? = some kA) (hA : kA.kind = .array cB (.array .int)) (hkB : s.vm.classes[cB]? = some kB) (hB : kB.kind = .array cI .int)
    {pc : Nat} {ls : Array Slot} {rest : List Value} {n k : Int32} {N K : Nat} (hn : ¬ n < 0) (hk : ¬ k < 0) (hN : n.toNatClampNeg = N) (hK : k.toNatClampNeg = K) (b1 : N ≤ 1000) (b2 : K ≤ 100000) (hcells : cells + (1 + N) ≤ R.cells) (hslots : slots + (N + N * K) ≤ R.slots) (hdg : decode cc pc = .ok (.multianewarray index 2, 4))
    (kk : ∀ (H' : Heap) (locs' : List Loc), H'.size = H.size + 1 + N → H'[H.size]? = some (arrV cA N (fun j => .ref (H.size + 1 + j))) → (∀ j, j < N → H'[H.size + 1 + j]? = some (arrV cB K (fun _ => .int 0))) → (∀ q : Nat, q < H.size → H'[q]? = H[q]?) → (∀ q ∈ locs', q ∈ locs ∨ q.base = H.size) →
      W p l e R s m args below meth c H' locs' (cells + 1 + N) (slots + N + N * K) Q (F0 m (pc + 4) ls (.ref H.size :: rest))) : W p l e R s m args below meth c H locs cells slots Q (F0 m pc ls (.int k :: .int n :: rest)) := by
  intro T hT X
  have hpl : e.platform.magicAccessors = ({} : Platform).magicAccessors := by rw [X.admits.platform]
  obtain ⟨c0, hfc0, hcl⟩ := Cond.classLink_spec hown hclink e.platform hpl
  cases hnm.symm.trans hfc0
  obtain ⟨hg₁, hwarm₁, hready₁⟩ := State.classEntry (e := e) X.warmed hcl
  generalize T.vm.noted m.cls index (.cls cA) = vm₁ at hg₁ hwarm₁ hready₁
  have hal : s.vm.Alike vm₁ := hwarm₁.alike
  obtain ⟨kA₁, hkA₁, heA⟩ := hal.2.2 _ _ hkA
  obtain ⟨kB₁, hkB₁, heB⟩ := hal.2.2 _ _ hkB
  have hA₁ : kA₁.kind = .array cB (.array .int) := by rw [heA]; exact hA
  have hB₁ : kB₁.kind = .array cI .int := by rw [heB]; exact hB
  have X₁ := X.noted hwarm₁
  obtain ⟨hr1, hr2⟩ := X.roomAbove hcells hslots
  have XF := mgS_stand X₁ cA cB N K N
  obtain ⟨f1, f2, f3, f4, f5, f6⟩ := mgS_facts (T.setVm vm₁) cA cB N K N
  have hsz : (T.setVm vm₁).heap.size = H.size := by rw [← hT]; rfl
  have hheap : (T.setVm vm₁).heap = H := hT
  rw [hsz] at f1 f2 f6
  obtain ⟨t2, a1, b1'⟩ := kk (mgS (T.setVm vm₁) cA cB N K N).heap (locs ++ (List.range N).map fun j => ⟨(T.setVm vm₁).heap.size, j⟩) f1 (by rw [f2]; exact congrArg some (arrV_fn (fun j hj => by unfold mgR; rw [if_pos hj]))) f6 (fun q hq => by rw [f5 q (by rw [hsz]; exact hq), hheap]) (fun q hq => by
    rcases List.mem_append.mp hq with h | h
    · exact Or.inl h
    · obtain ⟨z, -, hz⟩ := List.mem_map.mp h
      right; rw [← hz]; exact hsz) _ rfl XF
  refine ⟨t2, ?_, b1'⟩
  have l1 : ¬ N > e.platform.arrayLengthLimit := by rw [Launch.admits_arrayLengthLimit X.admits]; omega
  have l2 : ¬ N * 4 > e.platform.maxHeapBytes := by rw [Launch.admits_maxHeapBytes X.admits]; omega
  have l3 : ¬ K > e.platform.arrayLengthLimit := by rw [Launch.admits_arrayLengthLimit X.admits]; omega
  have l4 : ¬ K * 4 > e.platform.maxHeapBytes := by rw [Launch.admits_maxHeapBytes X.admits]; omega
  jvm_step X.here [hexec, hb, hdg]
  simp only [multianewarray.sem, wp_bind', W.resolveClassAt_links (State.method?_setTop (F0 m pc ls (.int k :: .int n :: rest)) X.here.top) hg₁]
  rw [W.popN, if_neg (by decide)]
  refine ⟨F0 m pc ls (.int k :: .int n :: rest), State.topJava?_setTop' (s := T.setVm vm₁) _ X.here.top, [.int n, .int k], rest, rfl, rfl, ?_⟩
  simp only [List.mapM_cons, List.mapM_nil, wp_bind', wp_pure']
  refine wp_grid hN hK hkA₁ hA₁ hkB₁ hB₁ hn hk l1 l2 l3 l4 (by show T.heap.size + 1 + N ≤ _; omega) (by show T.slotsUsed + N + N * K ≤ _; omega) (fun d' acts' => ?_)
  have eS : ((T.setTop (F0 m pc ls (.int k :: .int n :: rest))).setVm vm₁).setTop { F0 m pc ls (.int k :: .int n :: rest) with stack := rest } = (T.setVm vm₁).setTop { F0 m pc ls (.int k :: .int n :: rest) with stack := rest } := by
    show ((T.setVm vm₁).setTop _).setTop _ = _
    rw [State.setTop_setTop]
  rw [eS, mgS_top]
  simp only [wp_bind', W.mark, W.pushRef, State.topJava?_setTop' _ XF.here.top, Option.some.injEq, exists_eq_left', State.setTop_setTop, State.heap_setTop]
  intro acts
  simp [jvm, XF.here.top]
  rw [← hheap] at a1
  exact a1
end MGW
end MULTI
