/-! ===== THE LAW'S START: what the tables give; the first memory ===== -/
def stm (x : Nat) : Term := .static (stn x).1 (stn x).2.1 (stn x).2.2
def sty (x : Nat) : FieldType := if (shp x).1 = 3 then .char else .int
def stw (x : Nat) : List Cond := [.arrayOf (stm x) (sty x), .eq (.length (stm x)) (.int (Int32.ofNat (shp x).2.1.toNat))] ++ (List.range (shp x).2.1.toNat).map (fun j => .eq (.elem (stm x) (.int (Int32.ofNat j))) (.int (Int32.ofInt (cst x (Int.ofNat j)))))
def stv (x : Nat) : List Cond := [.laysStatic (stn x).1 (stn x).2.1 (stn x).2.2, .initialized (stn x).1]
set_option maxRecDepth 1000000 in
theorem stw_ok : ((List.range 11).drop 2).all (fun x => (stw x).all (fun w => decide (w ∈ flatC (Jvm.Cond.and given_1 narrow_1)))) = true := by decide +kernel
set_option maxRecDepth 1000000 in
theorem stv_ok : ((List.range 11).drop 2).all (fun x => (stv x).all (fun w => decide (w ∈ lw_tbl))) = true := by decide +kernel
set_option maxRecDepth 100000 in
theorem st_len : ((List.range 11).drop 2).all (fun x => Nat.blt (shp x).2.1.toNat 100) = true := by decide +kernel
theorem over_spec {args : Array Value} {s : State} (h : (Cond.arrayOver (.array .int)).before args s = true) :
    ∃ (cB cA : ClassId) (k : Class), s.vm.findClass "[I" = some cB ∧ s.vm.classes[cA]? = some k ∧ k.kind = .array cB (.array .int) ∧ s.vm.findClass "[[I" = some cA := by
  have e1 : (FieldType.array .int).toString = "[I" := by decide +kernel
  have e2 : "[" ++ (FieldType.array .int).toString = "[[I" := by decide +kernel
  simp only [Cond.before, Cond.holds, Cond.value, beq_iff_eq] at h
  cases hc : s.vm.findClass (FieldType.array .int).toString with
  | none => simp [hc] at h
  | some comp =>
    simp only [hc, Option.bind_some, Option.bind_eq_some_iff, Option.map_eq_some_iff] at h
    obtain ⟨c, hi, k, hk, hb⟩ := h
    obtain ⟨hlt, hp, -⟩ := Array.findIdx?_eq_some_iff_getElem.mp hi
    rw [(Array.getElem?_eq_some_iff.mp hk).2] at hp
    rw [e1] at hc
    cases hkind : k.kind with
    | array component ty =>
      rw [hkind] at hb hp
      simp at hb hp
      exact ⟨comp, c, k, hc, hk, by rw [hkind, hp, hb.1], by rw [← e2]; exact hb.2⟩
    | _ => rw [hkind] at hb; simp at hb
theorem start_G {s : State} {b L : Nat} {xs : Nat → Int32} (hts : ∀ w ∈ lw_tbl, w.before #[Value.ref b] s = true) (hX : va_X b L xs s s.heap) (hb : b < s.heap.size) (hL : L ≤ 3072) (hgv : (Jvm.Cond.and given_1 narrow_1).before #[Value.ref b] s = true) :
    ∃ G : GP, gB G = s.heap.size ∧ gA G 1 = b ∧ gL G = L ∧ gX G = xs ∧ gH G = s.heap ∧ AdOk (gA G) (gB G) ∧ Kx G s ∧ Kg G s := by
  have hTB : ∀ w ∈ TB, w.before #[Value.ref b] s = true := fun w hw => hts w (List.mem_filter.mp hw).1
  have hcl : ∀ k, ∃ q : ClassId × (Nat → Nat), k < 12 → u_Kn s (oC k) (fT k) (fN k) q.1 q.2 := by
    intro k
    by_cases hk : k < 12
    · have hw : ∀ w ∈ wCls k, w ∈ TB := fun w hw => kcs_ok (List.mem_flatMap.mpr ⟨k, List.mem_range.mpr hk, hw⟩)
      obtain ⟨cC, iS, h⟩ := u_known hTB (u_in hk) (hTB _ (hw _ (by simp [wCls])) : (Cond.instantiable (oC k) (fN k)).before #[Value.ref b] s = true)
      exact ⟨(cC, iS), fun _ => h⟩
    · exact ⟨(0, fun _ => 0), fun h => absurd h hk⟩
  obtain ⟨cB, cA, kA, h1, h2, h3, h4⟩ := over_spec (hts _ kao_ok)
  obtain ⟨cI, kI, cc, i1, i2, i3⟩ := Cond.arrayClass_spec (hTB _ (kob_ok (by simp [kOBs])) : (Cond.arrayClass .int).before #[Value.ref b] s = true)
  obtain ⟨cJ, kJ, cj, j1, j2, j3⟩ := Cond.arrayClass_spec (hTB _ (kob_ok (by simp [kOBs])) : (Cond.arrayClass .long).before #[Value.ref b] s = true)
  have eI : cI = cB := by
    have e1 : "[" ++ FieldType.int.toString = "[I" := by decide +kernel
    rw [e1] at i1
    exact Option.some.inj (i1.symm.trans h1)
  subst eI
  have hst : ∀ x, ∃ t : Nat, 2 ≤ x → x ≤ 10 → t < s.heap.size ∧ va_Z (stn x).1 (stn x).2.1 (stn x).2.2 (.ref t) (fun q => s.heap.size ≤ q) s s.heap ∧ va_T (sty x) t (shp x).2.1.toNat (fun j => .int (Int32.ofInt (cst x (Int.ofNat j)))) (fun q => s.heap.size ≤ q) s s.heap := by
    intro x
    by_cases hx : 2 ≤ x ∧ x ≤ 10
    · have hmem : x ∈ (List.range 11).drop 2 := by
        have : x = 2 ∨ x = 3 ∨ x = 4 ∨ x = 5 ∨ x = 6 ∨ x = 7 ∨ x = 8 ∨ x = 9 ∨ x = 10 := by omega
        rcases this with rfl | rfl | rfl | rfl | rfl | rfl | rfl | rfl | rfl <;> decide
      have w1 : ∀ w ∈ stw x, w.before #[Value.ref b] s = true := fun w hw => flat_of_before _ hgv w (of_decide_eq_true (List.all_eq_true.mp (List.all_eq_true.mp stw_ok x hmem) w hw))
      have w2 : ∀ w ∈ stv x, w.before #[Value.ref b] s = true := fun w hw => hts w (of_decide_eq_true (List.all_eq_true.mp (List.all_eq_true.mp stv_ok x hmem) w hw))
      have hN : (shp x).2.1.toNat < 100 := by
        have := List.all_eq_true.mp st_len x hmem
        rwa [Nat.blt_eq] at this
      obtain ⟨t, ht, hT⟩ := va_Tof (tm := stm x) (ty := sty x) (N := (shp x).2.1.toNat) (A := fun q => s.heap.size ≤ q) (f := fun j => .int (Int32.ofInt (cst x (Int.ofNat j)))) (by omega : (shp x).2.1.toNat < 2 ^ 31) (w1 _ (by simp [stw])) (va_eqt (w1 _ (by simp [stw]))) (fun j hj => va_eqt (w1 _ (by
        unfold stw
        exact List.mem_append_right _ (List.mem_map.mpr ⟨j, List.mem_range.mpr hj, rfl⟩)))) (fun a ha => Nat.not_le.mpr ha)
      refine ⟨t, fun _ _ => ⟨?_, va_Zref (w2 _ (by simp [stv])) (w2 _ (by simp [stv])) ht (fun a ha => Nat.not_le.mpr ha), hT⟩⟩
      obtain ⟨c, q1, -⟩ := hT
      exact (Array.getElem?_eq_some_iff.mp q1).1
    · exact ⟨0, fun h1 h2 => absurd ⟨h1, h2⟩ hx⟩
  refine ⟨(fun k => (Classical.choose (hcl k)).1, fun k => (Classical.choose (hcl k)).2, fun a => if a = 1 then b else if 2 ≤ a ∧ a ≤ 10 then Classical.choose (hst a) else if a = 0 then 0 else s.heap.size + (a - 11), s.heap.size, fun k => if k = 0 then cI else if k = 1 then cJ else cA, s.heap, L, xs), rfl, rfl, rfl, rfl, rfl, ⟨fun a ha => ?_, fun a ha => ?_⟩, ⟨fun k hk => Classical.choose_spec (hcl k) hk, ⟨fun n z => ⟨fun k h => (by cases h), kI, i2, cc, i3⟩, i1⟩, ⟨fun n z => ⟨fun k h => (by cases h), kJ, j2, cj, j3⟩, j1⟩, ⟨fun n z => ⟨fun k h => (by cases h), kA, h2, cI, h3⟩, by show s.vm.findClass ("[" ++ (FieldType.array .int).toString) = _; rw [show "[" ++ (FieldType.array .int).toString = "[[I" by decide +kernel]; exact h4⟩, hX, hL, fun x h1 h2 => ?_⟩, ⟨⟨kA, h2, h3⟩, fun q hq => va_Nw.of rfl (hts _ (knl_ok (List.mem_map.mpr ⟨q, hq, rfl⟩)))⟩⟩
  · show (if a = 1 then b else if 2 ≤ a ∧ a ≤ 10 then Classical.choose (hst a) else if a = 0 then 0 else s.heap.size + (a - 11)) < s.heap.size
    by_cases e1 : a = 1
    · rw [if_pos e1]; exact hb
    · rw [if_neg e1]
      by_cases e2 : 2 ≤ a ∧ a ≤ 10
      · rw [if_pos e2]; exact (Classical.choose_spec (hst a) e2.1 e2.2).1
      · rw [if_neg e2, if_pos (by omega)]; omega
  · show (if a = 1 then b else if 2 ≤ a ∧ a ≤ 10 then Classical.choose (hst a) else if a = 0 then 0 else s.heap.size + (a - 11)) = s.heap.size + (a - 11)
    rw [if_neg (by omega), if_neg (by omega), if_neg (by omega)]
  · have key := Classical.choose_spec (hst x) h1 h2
    show va_Z _ _ _ (.ref (if x = 1 then b else if 2 ≤ x ∧ x ≤ 10 then Classical.choose (hst x) else if x = 0 then 0 else s.heap.size + (x - 11))) _ s s.heap ∧ va_T _ (if x = 1 then b else if 2 ≤ x ∧ x ≤ 10 then Classical.choose (hst x) else if x = 0 then 0 else s.heap.size + (x - 11)) _ _ _ s s.heap
    rw [if_neg (by omega), if_pos ⟨h1, h2⟩]
    exact ⟨key.2.1, key.2.2⟩
def kF1 : KF := ((ctr 300 3 mF_init 0 [aR 11] [] 12 []).getD (0, [])).2
def kF2 : KF := ((ctr 300 3 mR_init 0 [aR 64] [] 65 kF1).getD (0, [])).2
def isS (o : Option (Nat × KF)) (k : Nat) : Bool := match o with
  | some (n, _) => Nat.beq n k
  | none => false
theorem kr_of {o : Option (Nat × KF)} {n : Nat} (h : isS o n = true) : o = some (n, (o.getD (0, [])).2) := by
  unfold isS at h
  split at h
  · have := nb h; subst this; rfl
  · cases h
set_option maxRecDepth 1000000 in
theorem kr1b : isS (ctr 300 3 mF_init 0 [aR 11] [] 12 []) 64 = true := by decide +kernel
theorem kr1 : ctr 300 3 mF_init 0 [aR 11] [] 12 [] = some (64, kF1) := kr_of kr1b
set_option maxRecDepth 1000000 in
theorem kr2b : isS (ctr 300 3 mR_init 0 [aR 64] [] 65 kF1) 100 = true := by decide +kernel
theorem kr2 : ctr 300 3 mR_init 0 [aR 64] [] 65 kF1 = some (100, kF2) := kr_of kr2b
/-- the memory at the law's start: all is 0 but what holds no taste yet; the script -/
def mem0 (L : Nat) (X : Nat → Int32) : Mem := fun a i => if a = 0 then (if i = 0 then Int.ofNat L else 0) else if a = 1 then (X i.toNat).toInt else if a = 20 ∧ i = 5 then -1 else if a = 64 ∧ i = 42 then -1 else 0
set_option maxRecDepth 1000000 in
theorem m0_chk : (List.range 101).all (fun a => match shp a with
  | (4, c, _) => !(Nat.beq a 1) && !(Nat.beq a 0) && (List.range (fN c.toNat)).all (fun k => match fg c.toNat k with
    | 1 => (match kget kF2 a k with
      | some (.inr (.inl b)) => Nat.beq b (rf a k)
      | _ => false)
    | 2 => (kget kF2 a k).isNone && decide (¬ ((a = 20 ∧ Int.ofNat k = 5) ∨ (a = 64 ∧ Int.ofNat k = 42))) && ((fT c.toNat k).2.2.1 == "J")
    | _ => (match kget kF2 a k with
      | none => decide (¬ ((a = 20 ∧ Int.ofNat k = 5) ∨ (a = 64 ∧ Int.ofNat k = 42))) && ((fT c.toNat k).2.2.1 == "I" || (fT c.toNat k).2.2.1 == "Z")
      | some (.inl w) => decide (w = -1) && decide ((a = 20 ∧ Int.ofNat k = 5) ∨ (a = 64 ∧ Int.ofNat k = 42))
      | _ => false))
  | (6, _, _) => Nat.beq a 1
  | (0, _, _) => !(Nat.beq a 1) && !(Nat.beq a 0) && !(Nat.beq a 20) && !(Nat.beq a 64)
  | (1, _, _) => !(Nat.beq a 1) && !(Nat.beq a 0) && !(Nat.beq a 20) && !(Nat.beq a 64)
  | (2, _, _) => !(Nat.beq a 1) && !(Nat.beq a 0) && !(Nat.beq a 20) && !(Nat.beq a 64)
  | _ => true) = true := by decide +kernel
