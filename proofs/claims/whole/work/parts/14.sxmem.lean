/-! ===== SOUNDNESS: instructions that read and write the memory ===== -/
section TABF
theorem nb {a b : Nat} (h : Nat.beq a b = true) : a = b := Nat.eq_of_beq_eq_true h
theorem in32 {i : Int} (h : 0 ≤ i) : Int32.ofNat i.toNat = Int32.ofInt i := by
  obtain ⟨n, rfl⟩ := Int.eq_ofNat_of_zero_le h
  first | rfl | simp [Int32.ofInt_natCast] | exact (Int32.ofInt_eq_ofNat).symm
set_option maxRecDepth 100000 in
theorem f_desc : ∀ x, x < 12 → ∀ y, y < fN x → (fg x y = 0 → (fT x y).2.2.1 = "I") ∧ (fg x y = 2 → (fT x y).2.2.1 = "J") ∧ (fg x y = 3 → (fT x y).2.2.1 = "Z") ∧ (parseFieldDescriptor (fT x y).2.2.1).isSome = true := by decide +kernel
set_option maxRecDepth 100000 in
theorem f_names : ∀ x, x < 12 → ∀ a, a < fN x → ∀ b, b < fN x → a ≠ b → (fT x a).2.1 ≠ (fT x b).2.1 := by decide +kernel
theorem p_I : parseFieldDescriptor "I" = some .int := by decide +kernel
theorem p_J : parseFieldDescriptor "J" = some .long := by decide +kernel
theorem p_Z : parseFieldDescriptor "Z" = some .boolean := by decide +kernel
theorem u_in {x : Nat} (hx : x < 12) : ∀ w ∈ u_ws (oC x) (fT x) (fN x), w ∈ TB := fun w hw => ly_ok (List.mem_flatMap.mpr ⟨x, List.mem_range.mpr hx, hw⟩)
end TABF
section SND3
variable {G : GP} {E : Nat → Lo → List AV → Mem → Prop}
theorem CR_0 {σ : Mem} {H : Heap} {a : Nat} {n w : Int} (he : shp a = (0, n, w)) (h : CR G σ H a) : H[gA G a]? = some (arrV (gT G 0) n.toNat (fun j => .int (Int32.ofInt (σ a (Int.ofNat j))))) := by unfold CR at h; rw [he] at h; exact h
theorem CR_1 {σ : Mem} {H : Heap} {a : Nat} {n w : Int} (he : shp a = (1, n, w)) (h : CR G σ H a) : H[gA G a]? = some (arrV (gT G 2) n.toNat (fun j => .ref (gA G (a + 1 + j)))) ∧ ∀ j, j < n.toNat → H[gA G (a + 1 + j)]? = some (arrV (gT G 0) w.toNat (fun i => .int (Int32.ofInt (σ a (Int.ofNat j * w + Int.ofNat i))))) := by unfold CR at h; rw [he] at h; exact h
theorem CR_2 {σ : Mem} {H : Heap} {a : Nat} {n w : Int} (he : shp a = (2, n, w)) (h : CR G σ H a) : H[gA G a]? = some (arrV (gT G 1) n.toNat (fun j => .long (Int64.ofInt (σ a (Int.ofNat j))))) := by unfold CR at h; rw [he] at h; exact h
theorem CR_6 {σ : Mem} {H : Heap} {a : Nat} {n w : Int} (he : shp a = (6, n, w)) (h : CR G σ H a) : σ 0 0 = Int.ofNat (gL G) ∧ ∀ j, j < gL G → Int32.ofInt (σ a (Int.ofNat j)) = gX G j := by unfold CR at h; rw [he] at h; exact h
theorem CR_4 {σ : Mem} {H : Heap} {a x : Nat} (he : okObj a x = true) (h : CR G σ H a) : t_OB (gA G a) (gC G x) (fN x) (gI G x) H (fun k => fval (gA G) σ a x k) := by
  unfold okObj at he
  unfold CR at h
  split at he
  · rename_i n w e
    rw [e] at h
    have : n.toNat = x := by
      have := eq_of_beq he
      rw [this]; rfl
    subst this
    exact h
  · cases he
set_option maxRecDepth 100000 in
theorem shp_cst : ∀ a, a < 101 → ((shp a).1 = 3 ∨ (shp a).1 = 7) → 2 ≤ a ∧ a ≤ 10 := by decide +kernel
set_option maxRecDepth 100000 in
theorem shp_scr : ∀ a, a < 101 → (shp a).1 = 6 → a = 1 := by decide +kernel
theorem okObj_lt {a x : Nat} (he : okObj a x = true) : a < 101 := by
  unfold okObj at he
  split at he
  · rename_i n w e
    exact shp_lt (by rw [e]; simp)
  · cases he
theorem okObj_new {a x : Nat} (he : okObj a x = true) : 11 ≤ a := by
  have h1 := okObj_lt he
  unfold okObj at he
  split at he
  · rename_i n w e
    exact shp_new a h1 (by rw [e]; simp)
  · cases he
theorem okObj_5 {a x : Nat} (he : okObj a x = true) : (shp a).1 = 4 := by
  unfold okObj at he
  split at he
  · rename_i n w e; rw [e]
  · cases he
/-- what a read of a cell of ints (or the like) takes -/
abbrev rdc (U : State) (H : Heap) (q : Nat) (ty : FieldType) (n : Nat) (f : Nat → Value) : Prop := ∃ cell : Cell, H[q]? = some cell ∧ U.isArrayOf cell ty ∧ cell.vm ≠ .unknown ∧ n ≤ cell.slots.size ∧ cell.slots.size.toInt32 = Int32.ofNat n ∧ ∀ j, j < n → cell.slots[j]? = some (f j)
theorem arr_rd {U : State} {H : Heap} {q : Nat} {ty : FieldType} {n : Nat} {f : Nat → Value} {cA : ClassId} (h1 : H[q]? = some (arrV cA n f)) (h2 : ArrOfT U cA ty) : rdc U H q ty n f :=
  ⟨_, h1, h2 n f, (fun q => by cases q), by rw [arrV_size]; exact Nat.le_refl _, by rw [arrV_size], fun j hj => arrV_read _ _ hj⟩
theorem T_rd {ty : FieldType} {q n : Nat} {f : Nat → Value} {B : Nat} {U : State} {H H0 : Heap} (h : va_T ty q n f (fun q => B ≤ q) U H0) (hH : ∀ q : Nat, q < B → H[q]? = H0[q]?) : rdc U H q ty n f := by
  obtain ⟨c, h1, h2, h3, h4, h5, h6, h7⟩ := h
  exact ⟨c, (hH q (Nat.not_le.mp h7)).trans h1, h2, h3, h4, h5, h6⟩
theorem X_rd {q n : Nat} {f : Nat → Int32} {B : Nat} {U : State} {H H0 : Heap} (h : va_X q n f U H0) (hH : ∀ q : Nat, q < B → H[q]? = H0[q]?) (hq : q < B) : rdc U H q .int n (fun j => .int (f j)) := by
  obtain ⟨c, h1, h2, h3, h4, h5⟩ := h
  exact ⟨c, (hH q hq).trans h1, h2, h3, by omega, by rw [h4], h5⟩
variable {l : Launch} {d M pc pc' : Nat} {ls ls' : Lo} {st st' : List AV} {σ σ' : Mem} {Q : RV → Mem → Prop}
theorem sx_iald {q : Nat} {i w : Int} {n : Nat} {f : Nat → Value} {v : AV} {r : List AV} (hA : ∀ (s : State) (H : Heap), Kx G s → AdOk (gA G) (gB G) → Rel G σ H → rdc s H q .int n f) (hn : n ≤ 1000000) (h0 : 0 ≤ i) (h1 : i.toNat < n) (hv : f i.toNat = .int (Int32.ofInt w)) (hq : cv (gA G) v = .ref q) (hd : decode (byt M) pc = .ok (.iaload, 1))
    (h : SX l G E d M (pc + 1) ls (.inl w :: r) σ Q) : SX l G E d M pc ls (.inl i :: v :: r) σ Q := by
  refine sx_rd h (fun p e R s m args below meth c H locs cells slots Z als hC hR hL k => ?_)
  obtain ⟨cell, c1, c2, c3, c4, -, c6⟩ := hA s H hC.2.2.2.2.2.1 hC.2.2.2.2.2.2.1 hR
  obtain ⟨e1, e2⟩ := i32_ix h0 (by omega)
  refine W.iald (v := .int (Int32.ofInt w)) hC.1 hC.2.1 c1 c2 c3 ?_ ?_ rfl (by show _ :: cv (gA G) v :: _ = _; rw [hq]; rfl) hd k
  · rw [e1]; rintro (z | z)
    · exact e2 z
    · omega
  · rw [e1, c6 _ h1, hv]
theorem sx_cald {q : Nat} {i w : Int} {n : Nat} {f : Nat → Value} {v : AV} {r : List AV} (hA : ∀ (s : State) (H : Heap), Kx G s → AdOk (gA G) (gB G) → Rel G σ H → rdc s H q .char n f) (hn : n ≤ 1000000) (h0 : 0 ≤ i) (h1 : i.toNat < n) (hv : f i.toNat = .int (Int32.ofInt w)) (hq : cv (gA G) v = .ref q) (hd : decode (byt M) pc = .ok (.caload, 1))
    (h : SX l G E d M (pc + 1) ls (.inl w :: r) σ Q) : SX l G E d M pc ls (.inl i :: v :: r) σ Q := by
  refine sx_rd h (fun p e R s m args below meth c H locs cells slots Z als hC hR hL k => ?_)
  obtain ⟨cell, c1, c2, c3, c4, -, c6⟩ := hA s H hC.2.2.2.2.2.1 hC.2.2.2.2.2.2.1 hR
  obtain ⟨e1, e2⟩ := i32_ix h0 (by omega)
  refine W.cald (v := .int (Int32.ofInt w)) hC.1 hC.2.1 c1 c2 c3 ?_ ?_ rfl (by show _ :: cv (gA G) v :: _ = _; rw [hq]; rfl) hd k
  · rw [e1]; rintro (z | z)
    · exact e2 z
    · omega
  · rw [e1, c6 _ h1, hv]
theorem sx_lald {q : Nat} {i w : Int} {n : Nat} {f : Nat → Value} {v : AV} {r : List AV} (hA : ∀ (s : State) (H : Heap), Kx G s → AdOk (gA G) (gB G) → Rel G σ H → rdc s H q .long n f) (hn : n ≤ 1000000) (h0 : 0 ≤ i) (h1 : i.toNat < n) (hv : f i.toNat = .long (Int64.ofInt w)) (hq : cv (gA G) v = .ref q) (hd : decode (byt M) pc = .ok (.laload, 1))
    (h : SX l G E d M (pc + 1) ls (.inr (.inr (.inl w)) :: r) σ Q) : SX l G E d M pc ls (.inl i :: v :: r) σ Q := by
  refine sx_rd h (fun p e R s m args below meth c H locs cells slots Z als hC hR hL k => ?_)
  obtain ⟨cell, c1, c2, c3, c4, -, c6⟩ := hA s H hC.2.2.2.2.2.1 hC.2.2.2.2.2.2.1 hR
  obtain ⟨e1, e2⟩ := i32_ix h0 (by omega)
  refine W.lald (v := .long (Int64.ofInt w)) hC.1 hC.2.1 c1 c2 c3 ?_ ?_ rfl (by show _ :: cv (gA G) v :: _ = _; rw [hq]; rfl) hd k
  · rw [e1]; rintro (z | z)
    · exact e2 z
    · omega
  · rw [e1, c6 _ h1, hv]
theorem sx_aald {q : Nat} {i : Int} {n : Nat} {f : Nat → Value} {v w : AV} {r : List AV} (hA : ∀ (s : State) (H : Heap), Kx G s → AdOk (gA G) (gB G) → Rel G σ H → rdc s H q (.array .int) n f) (hn : n ≤ 1000000) (h0 : 0 ≤ i) (h1 : i.toNat < n) (hv : f i.toNat = cv (gA G) w) (hq : cv (gA G) v = .ref q) (hd : decode (byt M) pc = .ok (.aaload, 1))
    (h : SX l G E d M (pc + 1) ls (w :: r) σ Q) : SX l G E d M pc ls (.inl i :: v :: r) σ Q := by
  refine sx_rd h (fun p e R s m args below meth c H locs cells slots Z als hC hR hL k => ?_)
  obtain ⟨cell, c1, c2, c3, c4, -, c6⟩ := hA s H hC.2.2.2.2.2.1 hC.2.2.2.2.2.2.1 hR
  obtain ⟨e1, e2⟩ := i32_ix h0 (by omega)
  refine W.aald (v := cv (gA G) w) hC.1 hC.2.1 c1 c2 rfl c3 ?_ ?_ rfl (by show _ :: cv (gA G) v :: _ = _; rw [hq]; rfl) hd k
  · rw [e1]; rintro (z | z)
    · exact e2 z
    · omega
  · rw [e1, c6 _ h1, hv]
theorem sx_alen {q : Nat} {ty : FieldType} {n : Nat} {f : Nat → Value} {v : AV} {r : List AV} {w : Int} (hA : ∀ (s : State) (H : Heap), Kx G s → AdOk (gA G) (gB G) → Rel G σ H → rdc s H q ty n f ∧ Int32.ofNat n = Int32.ofInt w) (hq : cv (gA G) v = .ref q) (hd : decode (byt M) pc = .ok (.arraylength, 1))
    (h : SX l G E d M (pc + 1) ls (.inl w :: r) σ Q) : SX l G E d M pc ls (v :: r) σ Q := by
  refine sx_rd h (fun p e R s m args below meth c H locs cells slots Z als hC hR hL k => ?_)
  obtain ⟨⟨cell, c1, c2, c3, c4, c5, c6⟩, e0⟩ := hA s H hC.2.2.2.2.2.1 hC.2.2.2.2.2.2.1 hR
  exact W.alen (n := Int32.ofInt w) hC.1 hC.2.1 c1 c2 (by rw [c5, e0]) rfl (by show cv (gA G) v :: _ = _; rw [hq]) hd k
theorem sx_rdI {i : Int} {v : AV} {r : List AV} (hd : decode (byt M) pc = .ok (.iaload, 1)) (h : rdI σ i v (fun w => SX l G E d M (pc + 1) ls (.inl w :: r) σ Q)) : SX l G E d M pc ls (.inl i :: v :: r) σ Q := by
  have ei : 0 ≤ i → Int.ofNat i.toNat = i := fun h => Int.toNat_of_nonneg h
  unfold rdI at h
  split at h
  · rename_i a
    have hl := shp_lim a
    split at h
    · rename_i n w e
      rw [e] at hl; simp only at hl
      exact sx_iald (fun s H hK _ hR => arr_rd (CR_0 e (hR.1 a (shp_lt (by rw [e]; simp)))) hK.2.1.1) (by omega) h.1.1 (by omega) (by rw [ei h.1.1]) rfl hd h.2
    · rename_i n w e
      have ha1 := shp_scr a (shp_lt (by rw [e]; simp)) (by rw [e])
      intro p ee R s m args below meth c cb kc sb ks e0 Z hC hc1 hs1 hend H locs als hR hl2 hL hn hz hk
      have h6 := CR_6 e (hR.1 a (shp_lt (by rw [e]; simp)))
      have hLL := hC.2.2.2.2.2.1.2.2.2.2.2.1
      have hi : i.toNat < gL G := by
        have := h.1.2
        rw [h6.1] at this
        have h0 := h.1.1
        have : i < ((gL G : Nat) : Int) := this
        omega
      refine sx_iald (n := gL G) (f := fun j => .int (gX G j)) (w := σ a i) (fun s H hK hA hR => ?_) (by omega) h.1.1 hi ?_ rfl hd h.2 p ee R s m args below meth c cb kc sb ks e0 Z hC hc1 hs1 hend H locs als hR hl2 hL hn hz hk
      · subst ha1
        exact X_rd hK.2.2.2.2.1 hR.2 (hA.1 1 (by omega))
      · have := h6.2 i.toNat hi
        rw [ei h.1.1] at this
        rw [← this]
    · rename_i n w e
      rw [e] at hl; simp only at hl
      have ha := shp_cst a (shp_lt (by rw [e]; simp)) (by rw [e]; exact Or.inr rfl)
      refine sx_iald (n := n.toNat) (f := fun j => .int (Int32.ofInt (cst a (Int.ofNat j)))) (fun s H hK hA hR => ?_) (by omega) h.1.1 (by omega) (by rw [ei h.1.1]) rfl hd h.2
      have hT := (hK.2.2.2.2.2.2 a ha.1 ha.2).2
      rw [e] at hT
      exact T_rd hT hR.2
    · exact h.elim
  · rename_i o q
    have hl := shp_lim o
    split at h
    · rename_i n w e
      rw [e] at hl
      simp only at hl
      have eq : Int.ofNat q.toNat = q := Int.toNat_of_nonneg h.1.1.1
      refine sx_iald (fun s H hK _ hR => arr_rd ((CR_1 e (hR.1 o (shp_lt (by rw [e]; simp)))).2 q.toNat (by omega)) hK.2.1.1) (by omega) h.1.2.1 (by omega) ?_ rfl hd h.2
      simp only [eq, ei h.1.2.1]
    · exact h.elim
  · exact h.elim
theorem sx_lenA {v : AV} {r : List AV} (hd : decode (byt M) pc = .ok (.arraylength, 1)) (h : lenA σ v (fun w => SX l G E d M (pc + 1) ls (.inl w :: r) σ Q)) : SX l G E d M pc ls (v :: r) σ Q := by
  unfold lenA at h
  split at h
  · rename_i a
    have hl := shp_lim a
    split at h
    · rename_i n w e
      rw [e] at hl; simp only at hl
      exact sx_alen (fun s H hK _ hR => ⟨arr_rd (CR_0 e (hR.1 a (shp_lt (by rw [e]; simp)))) hK.2.1.1, in32 hl.2.2.1⟩) rfl hd h
    · rename_i n w e
      have ha1 := shp_scr a (shp_lt (by rw [e]; simp)) (by rw [e])
      subst ha1
      exact sx_alen (n := gL G) (fun s H hK hA hR => ⟨X_rd hK.2.2.2.2.1 hR.2 (hA.1 1 (by omega)), by rw [(CR_6 e (hR.1 1 (by omega))).1]; exact in32 (i := Int.ofNat (gL G)) (Int.ofNat_nonneg _)⟩) rfl hd h
    · exact h.elim
  · rename_i o q
    have hl := shp_lim o
    split at h
    · rename_i n w e
      rw [e] at hl; simp only at hl
      exact sx_alen (fun s H hK _ hR => ⟨arr_rd ((CR_1 e (hR.1 o (shp_lt (by rw [e]; simp)))).2 q.toNat (by have := h.1; omega)) hK.2.1.1, in32 hl.2.2.2⟩) rfl hd h.2
    · exact h.elim
  · exact h.elim
theorem sx_caldA {i : Int} {a : Nat} {n w : Int} {r : List AV} (e : shp a = (3, n, w)) (hi : 0 ≤ i ∧ i < n) (hd : decode (byt M) pc = .ok (.caload, 1)) (h : SX l G E d M (pc + 1) ls (.inl (cst a i) :: r) σ Q) : SX l G E d M pc ls (.inl i :: .inr (.inl a) :: r) σ Q := by
  have hl := shp_lim a
  rw [e] at hl; simp only at hl
  have ha := shp_cst a (shp_lt (by rw [e]; simp)) (by rw [e]; exact Or.inl rfl)
  refine sx_cald (n := n.toNat) (f := fun j => .int (Int32.ofInt (cst a (Int.ofNat j)))) (fun s H hK hA hR => ?_) (by omega) hi.1 (by omega) (by rw [show Int.ofNat i.toNat = i from Int.toNat_of_nonneg hi.1]) rfl hd h
  have hT := (hK.2.2.2.2.2.2 a ha.1 ha.2).2
  rw [e] at hT
  exact T_rd hT hR.2
theorem sx_laldA {i : Int} {a : Nat} {n w : Int} {r : List AV} (e : shp a = (2, n, w)) (hi : 0 ≤ i ∧ i < n) (hd : decode (byt M) pc = .ok (.laload, 1)) (h : SX l G E d M (pc + 1) ls (.inr (.inr (.inl (σ a i))) :: r) σ Q) : SX l G E d M pc ls (.inl i :: .inr (.inl a) :: r) σ Q := by
  have hl := shp_lim a
  rw [e] at hl; simp only at hl
  exact sx_lald (fun s H hK _ hR => arr_rd (CR_2 e (hR.1 a (shp_lt (by rw [e]; simp)))) hK.2.2.1.1) (by omega) hi.1 (by omega) (by rw [show Int.ofNat i.toNat = i from Int.toNat_of_nonneg hi.1]) rfl hd h
theorem sx_aaldA {i : Int} {a : Nat} {n w : Int} {r : List AV} (e : shp a = (1, n, w)) (hi : 0 ≤ i ∧ i < n) (hd : decode (byt M) pc = .ok (.aaload, 1)) (h : SX l G E d M (pc + 1) ls (.inr (.inr (.inr (a, i))) :: r) σ Q) : SX l G E d M pc ls (.inl i :: .inr (.inl a) :: r) σ Q := by
  have hl := shp_lim a
  rw [e] at hl; simp only at hl
  exact sx_aald (w := .inr (.inr (.inr (a, i)))) (fun s H hK _ hR => arr_rd (CR_1 e (hR.1 a (shp_lt (by rw [e]; simp)))).1 hK.2.2.2.1.1) (by omega) hi.1 (by omega) rfl rfl hd h
end SND3
