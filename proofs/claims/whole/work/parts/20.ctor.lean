/-! ===== THE CONSTRUCTORS, run by number; what they leave ===== -/
abbrev KF : Type := List (Nat × Nat × AV)
def kget : KF → Nat → Nat → Option AV
  | [], _, _ => none
  | (a, k, v) :: r, x, y => bif (Nat.beq a x && Nat.beq k y) then some v else kget r x y
def slt (a : Nat) : Nat := match shp a with
  | (0, n, _) => n.toNat
  | (1, n, _) => n.toNat
  | (2, n, _) => n.toNat
  | (5, n, _) => n.toNat
  | (4, c, _) => fN c.toNat
  | _ => 0
def sl : Nat → Nat
  | 0 => 0
  | k + 1 => sl k + slt k
def ctr : Nat → Nat → Nat → Nat → List AV → List AV → Nat → KF → Option (Nat × KF)
  | 0, _, _, _, _, _, _, _ => none
  | f + 1, d, M, pc, ls, st, nx, F => match lkp (kco M) pc with
    | none => none
    | some (i, n, (x, y, z), _) => match i with
      | .aload_n k => (match ls[k.val]? with
        | some (.inr (.inl a)) => ctr f d M (pc + n) ls (.inr (.inl a) :: st) nx F
        | _ => none)
      | .iconst k => ctr f d M (pc + n) ls (.inl k :: st) nx F
      | .bipush k => ctr f d M (pc + n) ls (.inl k :: st) nx F
      | .sipush k => ctr f d M (pc + n) ls (.inl k :: st) nx F
      | .dup => (match st with
        | .inr (.inl a) :: r => ctr f d M (pc + n) ls (.inr (.inl a) :: .inr (.inl a) :: r) nx F
        | _ => none)
      | .new _ => bif (okObj nx x && Nat.blt nx 101) then ctr f d M (pc + n) ls (.inr (.inl nx) :: st) (nx + 1) F else none
      | .newarray .int => (match st, shp nx with
        | .inl c :: r, (0, n', _) => bif (decide (c = n') && Nat.blt nx 101) then ctr f d M (pc + n) ls (.inr (.inl nx) :: r) (nx + 1) F else none
        | _, _ => none)
      | .multianewarray _ _ => (match st, shp nx with
        | .inl w :: .inl c :: r, (1, n', w') => bif (decide (c = n') && decide (w = w') && Nat.blt nx 101) then ctr f d M (pc + n) ls (.inr (.inl nx) :: r) (nx + 1 + n'.toNat) F else none
        | _, _ => none)
      | .putfield _ => (match st with
        | .inr (.inl b) :: .inr (.inl a) :: r => bif (okObj a x && Nat.blt a nx && Nat.beq z 1) then ctr f d M (pc + n) ls r nx ((a, y, .inr (.inl b)) :: F) else none
        | .inl w :: .inr (.inl a) :: r => bif (okObj a x && Nat.blt a nx && Nat.beq z 0) then ctr f d M (pc + n) ls r nx ((a, y, .inl w) :: F) else none
        | _ => none)
      | .getfield _ => (match st with
        | .inr (.inl a) :: r => bif (okObj a x && Nat.blt a nx) then (match kget F a y with
          | some (.inr (.inl b)) => ctr f d M (pc + n) ls (.inr (.inl b) :: r) nx F
          | _ => none) else none
        | _ => none)
      | .invokespecial _ => (match d with
        | 0 => none
        | d' + 1 => (match z with
          | 1 => (match st with
            | [.inr (.inl _)] => ctr f (d' + 1) M (pc + n) ls [] nx F
            | _ => none)
          | _ => bif (Nat.ble y st.length && Nat.ble (widS (st.drop y)) 8 && Nat.beq y (mtb x).1 && Nat.ble (widS (st.take y).reverse) (mtb x).2.1 && (st.take y).reverse.all (fun v => Nat.beq (wid v) 1)) then (match (st.take y).reverse with
            | .inr (.inl a) :: tl => (match ctr f d' x 0 (.inr (.inl a) :: tl) [] nx F with
              | some (nx', F') => ctr f (d' + 1) M (pc + n) ls (st.drop y) nx' F'
              | none => none)
            | _ => none) else none))
      | .return_ => (match st with
        | [] => some (nx, F)
        | _ => none)
      | _ => none
def dfl (c k : Nat) : Value := match parseFieldDescriptor (fT c k).2.2.1 with
  | some ty => defaultValue ty
  | none => .null
def CWc (G : GP) (F : KF) (H : Heap) (a : Nat) : Prop := match shp a with
  | (0, n, _) => H[gA G a]? = some (arrV (gT G 0) n.toNat (fun _ => .int 0))
  | (1, n, w) => H[gA G a]? = some (arrV (gT G 2) n.toNat (fun j => .ref (gA G (a + 1 + j)))) ∧ ∀ j, j < n.toNat → H[gA G (a + 1 + j)]? = some (arrV (gT G 0) w.toNat (fun _ => .int 0))
  | (2, n, _) => H[gA G a]? = some (arrV (gT G 1) n.toNat (fun _ => .long 0))
  | (4, c, _) => t_OB (gA G a) (gC G c.toNat) (fN c.toNat) (gI G c.toNat) H (fun k => match kget F a k with
    | some v => cv (gA G) v
    | none => dfl c.toNat k)
  | _ => True
def CW (G : GP) (nx : Nat) (F : KF) (H : Heap) : Prop := (11 ≤ nx ∧ nx ≤ 101) ∧ H.size = gA G nx ∧ (∀ a, 11 ≤ a → a < nx → CWc G F H a) ∧ (∀ q : Nat, q < gB G → H[q]? = (gH G)[q]?) ∧ ∀ a k v, kget F a k = some v → a < nx
theorem CWc.ext {G : GP} {F : KF} {H H1 : Heap} {a : Nat} (h : CWc G F H a) (hH : ∀ q : Nat, q < H.size → H1[q]? = H[q]?) : CWc G F H1 a := by
  have lt : ∀ {q : Nat} {c : Cell}, H[q]? = some c → q < H.size := fun e => (Array.getElem?_eq_some_iff.mp e).1
  unfold CWc at *
  split at h
  · rw [hH _ (lt h)]; exact h
  · refine ⟨by rw [hH _ (lt h.1)]; exact h.1, fun j hj => by rw [hH _ (lt (h.2 j hj))]; exact h.2 j hj⟩
  · rw [hH _ (lt h)]; exact h
  · obtain ⟨cell, q, r⟩ := h
    exact ⟨cell, by rw [hH _ (lt q)]; exact q, r⟩
  · trivial
theorem gA_at {G : GP} (hA : AdOk (gA G) (gB G)) {a : Nat} (h : 11 ≤ a) : gA G a = gB G + (a - 11) := hA.2 a h
set_option maxRecDepth 100000 in
theorem grid_sl : (List.range 101).all (fun a => match shp a with
  | (1, n, w) => Nat.beq (sl (a + 1 + n.toNat)) (sl a + n.toNat + n.toNat * w.toNat) && Nat.ble (a + 1 + n.toNat) 101 && (List.range n.toNat).all (fun j => decide (shp (a + 1 + j) = (5, w, 0))) && decide (0 ≤ n) && decide (n ≤ 1000) && decide (0 ≤ w) && decide (w ≤ 100000)
  | (0, n, _) => decide (0 ≤ n) && decide (n ≤ 100000)
  | _ => true) = true := by decide +kernel
theorem sl_S (k : Nat) : sl (k + 1) = sl k + slt k := rfl
theorem sl_le : ∀ {a b : Nat}, a ≤ b → sl a ≤ sl b := by
  intro a b h
  induction h with
  | refl => exact Nat.le_refl _
  | step _ ih => rw [sl_S]; omega
section CTR
variable {G : GP}
theorem CW.obj {nx x : Nat} {F : KF} {H H1 : Heap} (h : CW G nx F H) (ho : okObj nx x = true) (hlt : nx < 101) (hA : AdOk (gA G) (gB G)) (hc : t_OB H.size (gC G x) (fN x) (gI G x) H1 (fun k => dfl x k)) (hz : H1.size = H.size + 1) (hH : ∀ q : Nat, q < H.size → H1[q]? = H[q]?) : CW G (nx + 1) F H1 := by
  obtain ⟨⟨h1, h2⟩, h3, h4, h5, h6⟩ := h
  have e1 := gA_at hA h1
  refine ⟨⟨by omega, by omega⟩, by rw [hz, h3, e1, gA_at hA (by omega)]; omega, fun a ha hb => ?_, fun q hq => by rw [hH q (by rw [h3, e1]; omega)]; exact h5 q hq, fun a k v hk => by have := h6 a k v hk; omega⟩
  by_cases e : a = nx
  · subst e
    have hsh : ∃ w', shp a = (4, Int.ofNat x, w') := by
      unfold okObj at ho
      split at ho
      · rename_i n w' e
        have := eq_of_beq ho
        subst this
        exact ⟨w', e⟩
      · cases ho
    obtain ⟨w', hsh⟩ := hsh
    unfold CWc
    rw [hsh]
    show t_OB (gA G a) (gC G x) (fN x) (gI G x) H1 _
    rw [← h3]
    refine hc.to (fun k _ => ?_)
    cases hk : kget F a k with
    | none => rfl
    | some v => have := h6 a k v hk; omega
  · exact (h4 a ha (by omega)).ext hH
theorem CW.arr {nx : Nat} {F : KF} {H H1 : Heap} {n w : Int} (h : CW G nx F H) (e0 : shp nx = (0, n, w)) (hlt : nx < 101) (hA : AdOk (gA G) (gB G)) (hc : H1[H.size]? = some (arrV (gT G 0) n.toNat (fun _ => .int 0))) (hz : H1.size = H.size + 1) (hH : ∀ q : Nat, q < H.size → H1[q]? = H[q]?) : CW G (nx + 1) F H1 := by
  obtain ⟨⟨h1, h2⟩, h3, h4, h5, h6⟩ := h
  have e1 := gA_at hA h1
  refine ⟨⟨by omega, by omega⟩, by rw [hz, h3, e1, gA_at hA (by omega)]; omega, fun a ha hb => ?_, fun q hq => by rw [hH q (by rw [h3, e1]; omega)]; exact h5 q hq, fun a k v hk => by have := h6 a k v hk; omega⟩
  by_cases e : a = nx
  · subst e
    unfold CWc
    rw [e0]
    show H1[gA G a]? = _
    rw [← h3]; exact hc
  · exact (h4 a ha (by omega)).ext hH
theorem CW.arrL {nx : Nat} {F : KF} {H H1 : Heap} {n w : Int} (h : CW G nx F H) (e0 : shp nx = (2, n, w)) (hlt : nx < 101) (hA : AdOk (gA G) (gB G)) (hc : H1[H.size]? = some (arrV (gT G 1) n.toNat (fun _ => .long 0))) (hz : H1.size = H.size + 1) (hH : ∀ q : Nat, q < H.size → H1[q]? = H[q]?) : CW G (nx + 1) F H1 := by
  obtain ⟨⟨h1, h2⟩, h3, h4, h5, h6⟩ := h
  have e1 := gA_at hA h1
  refine ⟨⟨by omega, by omega⟩, by rw [hz, h3, e1, gA_at hA (by omega)]; omega, fun a ha hb => ?_, fun q hq => by rw [hH q (by rw [h3, e1]; omega)]; exact h5 q hq, fun a k v hk => by have := h6 a k v hk; omega⟩
  by_cases e : a = nx
  · subst e
    unfold CWc
    rw [e0]
    show H1[gA G a]? = _
    rw [← h3]; exact hc
  · exact (h4 a ha (by omega)).ext hH
theorem CW.grid {nx : Nat} {F : KF} {H H1 : Heap} {n w : Int} (h : CW G nx F H) (e0 : shp nx = (1, n, w)) (hlt : nx < 101) (hA : AdOk (gA G) (gB G)) (hc : H1[H.size]? = some (arrV (gT G 2) n.toNat (fun j => .ref (H.size + 1 + j)))) (hr : ∀ j, j < n.toNat → H1[H.size + 1 + j]? = some (arrV (gT G 0) w.toNat (fun _ => .int 0))) (hz : H1.size = H.size + 1 + n.toNat) (hH : ∀ q : Nat, q < H.size → H1[q]? = H[q]?) : CW G (nx + 1 + n.toNat) F H1 := by
  obtain ⟨⟨h1, h2⟩, h3, h4, h5, h6⟩ := h
  have e1 := gA_at hA h1
  have hg := List.all_eq_true.mp grid_sl nx (List.mem_range.mpr hlt)
  rw [e0] at hg
  simp only [Bool.and_eq_true, Nat.beq_eq, Nat.ble_eq, decide_eq_true_eq, List.all_eq_true, List.mem_range] at hg
  obtain ⟨⟨⟨⟨⟨⟨g1, g2⟩, g3⟩, -⟩, -⟩, -⟩, -⟩ := hg
  refine ⟨⟨by omega, by omega⟩, by rw [hz, h3, e1, gA_at hA (by omega)]; omega, fun a ha hb => ?_, fun q hq => by rw [hH q (by rw [h3, e1]; omega)]; exact h5 q hq, fun a k v hk => by have := h6 a k v hk; omega⟩
  by_cases e : a = nx
  · subst e
    have ea : ∀ j, gA G (a + 1 + j) = H.size + 1 + j := fun j => by rw [h3, e1, gA_at hA (by omega)]; omega
    unfold CWc
    rw [e0]
    refine ⟨?_, fun j hj => ?_⟩
    · rw [← h3, hc]
      exact congrArg some (arrV_fn (fun j _ => by rw [ea j]))
    · rw [ea j]; exact hr j hj
  · by_cases e2 : a < nx
    · exact (h4 a ha e2).ext hH
    · have := g3 (a - nx - 1) (by omega)
      rw [show nx + 1 + (a - nx - 1) = a by omega] at this
      unfold CWc
      rw [this]
      trivial
theorem CW.put {nx a x y : Nat} {F : KF} {H H1 : Heap} {v : AV} (h : CW G nx F H) (ho : okObj a x = true) (ha : a < nx) (hy : y < fN x) (hA : AdOk (gA G) (gB G))
    (hc : ∀ V : Nat → Value, t_OB (gA G a) (gC G x) (fN x) (gI G x) H V → t_OB (gA G a) (gC G x) (fN x) (gI G x) H1 (updV V y (cv (gA G) v))) (hz : H1.size = H.size) (hH : ∀ q : Nat, q ≠ gA G a → H1[q]? = H[q]?) : CW G nx ((a, y, v) :: F) H1 := by
  obtain ⟨⟨h1, h2⟩, h3, h4, h5, h6⟩ := h
  have ha11 := okObj_new ho
  have e1 := gA_at hA ha11
  have hsh : ∃ w', shp a = (4, Int.ofNat x, w') := by
    have ho' := ho
    unfold okObj at ho'
    split at ho'
    · rename_i n w' e
      have := eq_of_beq ho'
      subst this
      exact ⟨w', e⟩
    · cases ho'
  obtain ⟨w', hsh⟩ := hsh
  have kg : ∀ b k, kget ((a, y, v) :: F) b k = if b = a ∧ k = y then some v else kget F b k := by
    intro b k
    show (bif (Nat.beq a b && Nat.beq y k) then some v else kget F b k) = _
    by_cases hb : b = a ∧ k = y
    · rw [if_pos hb, hb.1, hb.2]; simp
    · rw [if_neg hb]
      have : (Nat.beq a b && Nat.beq y k) = false := by
        rw [Bool.and_eq_false_iff]
        by_cases h1 : b = a
        · right
          rw [Bool.eq_false_iff]; intro q; rw [Nat.beq_eq] at q; exact hb ⟨h1, q.symm⟩
        · left
          rw [Bool.eq_false_iff]; intro q; rw [Nat.beq_eq] at q; exact h1 q.symm
      rw [this]; rfl
  refine ⟨⟨h1, h2⟩, hz.trans h3, fun b hb1 hb2 => ?_, fun q hq => by rw [hH q (by omega)]; exact h5 q hq, fun b k w hk => ?_⟩
  · by_cases e : b = a
    · subst e
      have h4' := h4 b hb1 hb2
      unfold CWc at h4' ⊢
      rw [hsh] at h4' ⊢
      refine t_OB.to (hc _ h4') (fun k _ => ?_)
      unfold updV
      rw [kg]
      by_cases hk : k = y
      · rw [if_pos hk, if_pos ⟨rfl, hk⟩]
      · rw [if_neg hk, if_neg (fun q => hk q.2)]
    · have h4' := h4 b hb1 hb2
      have hne : ∀ z ∈ foot b, gA G z ≠ gA G a := by
        intro z hz2 he
        by_cases h5 : (shp b).1 = 5
        · have hfb : foot b = [b] := foot_1 (by rw [h5]; decide)
          rw [hfb, List.mem_singleton] at hz2
          subst hz2
          exact ad_ne hA ha11 e he
        · have := foot_dis b (by omega) a (okObj_lt ho) e h5 (by rw [hsh]; simp) z hz2
          rw [foot_1 (a := a) (by rw [hsh]; simp), List.mem_singleton] at this
          exact ad_ne hA ha11 this he
      unfold CWc at h4' ⊢
      unfold foot at hne
      split at h4' <;> rename_i eb
      · rw [hH _ (hne b (by rw [eb]; simp))]; exact h4'
      · rw [eb] at hne
        rename_i n w
        refine ⟨by rw [hH _ (hne b (List.mem_map.mpr ⟨0, List.mem_range.mpr (by omega), by omega⟩))]; exact h4'.1, fun j hj => ?_⟩
        rw [hH _ (hne (b + 1 + j) (List.mem_map.mpr ⟨j + 1, List.mem_range.mpr (by omega), by omega⟩))]
        exact h4'.2 j hj
      · rw [hH _ (hne b (by rw [eb]; simp))]; exact h4'
      · refine t_OB.to (t_OB.kept h4' (hH _ (hne b (by rw [eb]; simp)))) (fun k _ => ?_)
        rw [kg, if_neg (fun q => e q.1)]
      · trivial
  · rw [kg] at hk
    split at hk
    · rename_i q; omega
    · exact h6 b k w hk
end CTR
