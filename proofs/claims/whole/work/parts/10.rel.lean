/-! ===== THE MACHINE'S HEAP AND THE ABSTRACT MEMORY ===== -/
def cv (ad : Nat → Nat) : AV → Value
  | .inl x => .int (Int32.ofInt x)
  | .inr (.inl a) => .ref (ad a)
  | .inr (.inr (.inl x)) => .long (Int64.ofInt x)
  | .inr (.inr (.inr (o, i))) => .ref (ad (o + 1 + i.toNat))
def fval (ad : Nat → Nat) (σ : Mem) (a c k : Nat) : Value := match fg c k with
  | 1 => .ref (ad (rf a k))
  | 2 => .long (Int64.ofInt (σ a (Int.ofNat k)))
  | _ => .int (Int32.ofInt (σ a (Int.ofNat k)))
/-- what stays the same from the law's start on: the classes' numbers, the places of their fields, the addresses, the heap's size at the start, the classes of int[], long[], int[][], the heap at the start, the script's length and ints -/
abbrev GP : Type := (Nat → ClassId) × (Nat → Nat → Nat) × (Nat → Nat) × Nat × (Nat → ClassId) × Heap × Nat × (Nat → Int32)
abbrev gC (G : GP) : Nat → ClassId := G.1
abbrev gI (G : GP) : Nat → Nat → Nat := G.2.1
abbrev gA (G : GP) : Nat → Nat := G.2.2.1
abbrev gB (G : GP) : Nat := G.2.2.2.1
abbrev gT (G : GP) : Nat → ClassId := G.2.2.2.2.1
abbrev gH (G : GP) : Heap := G.2.2.2.2.2.1
abbrev gL (G : GP) : Nat := G.2.2.2.2.2.2.1
abbrev gX (G : GP) : Nat → Int32 := G.2.2.2.2.2.2.2
theorem arrV_fn {cA : ClassId} {n : Nat} {f g : Nat → Value} (h : ∀ j, j < n → f j = g j) : arrV cA n f = arrV cA n g := by
  unfold arrV
  rw [show (fun j : Fin n => f j.val) = (fun j : Fin n => g j.val) from funext fun j => h j.val j.isLt]
def CR (G : GP) (σ : Mem) (H : Heap) (a : Nat) : Prop := match shp a with
  | (0, n, _) => H[gA G a]? = some (arrV (gT G 0) n.toNat (fun j => .int (Int32.ofInt (σ a (Int.ofNat j)))))
  | (1, n, w) => H[gA G a]? = some (arrV (gT G 2) n.toNat (fun j => .ref (gA G (a + 1 + j)))) ∧ ∀ j, j < n.toNat → H[gA G (a + 1 + j)]? = some (arrV (gT G 0) w.toNat (fun i => .int (Int32.ofInt (σ a (Int.ofNat j * w + Int.ofNat i)))))
  | (2, n, _) => H[gA G a]? = some (arrV (gT G 1) n.toNat (fun j => .long (Int64.ofInt (σ a (Int.ofNat j)))))
  | (6, _, _) => σ 0 0 = Int.ofNat (gL G) ∧ ∀ j, j < gL G → Int32.ofInt (σ a (Int.ofNat j)) = gX G j
  | (4, c, _) => t_OB (gA G a) (gC G c.toNat) (fN c.toNat) (gI G c.toNat) H (fun k => fval (gA G) σ a c.toNat k)
  | _ => True
def foot (a : Nat) : List Nat := match shp a with
  | (1, n, _) => (List.range (n.toNat + 1)).map (fun j => a + j)
  | _ => [a]
def AdOk (ad : Nat → Nat) (base : Nat) : Prop := (∀ a, a ≤ 10 → ad a < base) ∧ ∀ a, 11 ≤ a → ad a = base + (a - 11)
theorem ad_ne {ad : Nat → Nat} {base x y : Nat} (h : AdOk ad base) (hx : 11 ≤ x) (hn : y ≠ x) : ad y ≠ ad x := by
  intro he
  by_cases hy : y ≤ 10
  · have h1 := h.1 y hy
    have h2 := h.2 x hx
    omega
  · have h1 := h.2 y (by omega)
    have h2 := h.2 x hx
    omega
theorem CR.congr {G : GP} {σ σ1 : Mem} {H H1 : Heap} {a : Nat} (hH : ∀ x ∈ foot a, H1[gA G x]? = H[gA G x]?) (hs : σ1 a = σ a) (h0 : σ1 0 0 = σ 0 0) : CR G σ H a → CR G σ1 H1 a := by
  unfold CR
  unfold foot at hH
  split <;> rename_i he
  · intro h; rw [hs, hH a (by rw [he]; exact List.mem_singleton.mpr rfl)]; exact h
  · intro h
    rw [he] at hH
    rename_i n w
    have hm : ∀ j, j ≤ n.toNat → a + j ∈ (List.range (n.toNat + 1)).map (fun j => a + j) := fun j hj => List.mem_map.mpr ⟨j, List.mem_range.mpr (by omega), rfl⟩
    refine ⟨by rw [hH a (by simpa using hm 0 (by omega))]; exact h.1, fun j hj => ?_⟩
    rw [hs, hH (a + 1 + j) (by have := hm (j + 1) (by omega); rwa [show a + (j + 1) = a + 1 + j by omega] at this)]
    exact h.2 j hj
  · intro h; rw [hs, hH a (by rw [he]; exact List.mem_singleton.mpr rfl)]; exact h
  · intro h; rw [hs, h0]; exact h
  · intro h
    have h1 := hH a (by rw [he]; exact List.mem_singleton.mpr rfl)
    refine (t_OB.kept h h1).to (fun k _ => ?_)
    unfold fval
    rw [hs]
  · exact id
def Rel (G : GP) (σ : Mem) (H : Heap) : Prop :=
  (∀ a, a < 101 → CR G σ H a) ∧ ∀ q : Nat, q < gB G → H[q]? = (gH G)[q]?
/-- what the tables say, at a method's start -/
def Kx (G : GP) (U : State) : Prop :=
  (∀ k, k < 12 → u_Kn U (oC k) (fT k) (fN k) (gC G k) (gI G k)) ∧ (ArrOfT U (gT G 0) .int ∧ va_RA U (gT G 0) .int) ∧ (ArrOfT U (gT G 1) .long ∧ va_RA U (gT G 1) .long) ∧ (ArrOfT U (gT G 2) (.array .int) ∧ va_RA U (gT G 2) (.array .int)) ∧
  va_X (gA G 1) (gL G) (gX G) U (gH G) ∧ gL G ≤ 3072 ∧
  ∀ x, 2 ≤ x → x ≤ 10 → va_Z (stn x).1 (stn x).2.1 (stn x).2.2 (.ref (gA G x)) (fun q => gB G ≤ q) U (gH G) ∧
    va_T (if (shp x).1 = 3 then .char else .int) (gA G x) (shp x).2.1.toNat (fun j => .int (Int32.ofInt (cst x (Int.ofNat j)))) (fun q => gB G ≤ q) U (gH G)
theorem Kx.moved {G : GP} {u U : State} (hv : u.vm.Alike U.vm) (h : Kx G u) : Kx G U :=
  ⟨fun k hk => u_Kn_moved hv (h.1 k hk), ⟨arrOfT_moved hv h.2.1.1, h.2.1.2.moved hv⟩, ⟨arrOfT_moved hv h.2.2.1.1, h.2.2.1.2.moved hv⟩, ⟨arrOfT_moved hv h.2.2.2.1.1, h.2.2.2.1.2.moved hv⟩, va_X.moved hv h.2.2.2.2.1, h.2.2.2.2.2.1, fun x h1 h2 => ⟨(h.2.2.2.2.2.2 x h1 h2).1.moved hv, (h.2.2.2.2.2.2 x h1 h2).2.moved hv⟩⟩
theorem memN_of : ∀ {l : List Nat} {x : Nat}, x ∈ l → memN l x = true
  | a :: r, x, h => by
    unfold memN
    cases hb : Nat.beq a x with
    | true => rfl
    | false =>
      rcases List.mem_cons.mp h with e | h
      · subst e; rw [Nat.beq_refl] at hb; cases hb
      · exact memN_of h
def ftc : Bool := (List.range 101).all (fun a => (List.range 101).all (fun b => Nat.beq a b || Nat.beq (shp a).1 5 || Nat.beq (shp b).1 5 || (foot a).all (fun x => !(memN (foot b) x))))
set_option maxRecDepth 100000 in
theorem ftc_ok : ftc = true := by decide +kernel
theorem foot_dis (a : Nat) (ha : a < 101) (b : Nat) (hb : b < 101) (hab : a ≠ b) (h5 : (shp a).1 ≠ 5) (h6 : (shp b).1 ≠ 5) : ∀ x ∈ foot a, x ∉ foot b := by
  intro x hx hx2
  have h := List.all_eq_true.mp (List.all_eq_true.mp ftc_ok a (List.mem_range.mpr ha)) b (List.mem_range.mpr hb)
  simp only [Bool.or_eq_true, Nat.beq_eq, List.all_eq_true, Bool.not_eq_true'] at h
  rcases h with ((h | h) | h) | h
  · exact hab h
  · exact h5 h
  · exact h6 h
  · have := h x hx
    rw [memN_of hx2] at this
    cases this
theorem foot_ge {a x : Nat} (h : x ∈ foot a) : a ≤ x := by
  unfold foot at h
  split at h
  · obtain ⟨j, -, rfl⟩ := List.mem_map.mp h
    omega
  · simp at h; omega
theorem su_ne {σ : Mem} {a b : Nat} {c : Int → Int} (h : b ≠ a) : su σ a c b = σ b := if_neg h
theorem su_eq {σ : Mem} {a : Nat} {c : Int → Int} : su σ a c a = c := if_pos rfl
theorem Rel.put {G : GP} {σ : Mem} {H H1 : Heap} {a x : Nat} {c : Int → Int} (hA : AdOk (gA G) (gB G)) (h : Rel G σ H) (ha : a < 101) (ha2 : 11 ≤ a) (hk : (shp a).1 ≠ 5) (hx : x ∈ foot a) (hH : ∀ q : Nat, q ≠ gA G x → H1[q]? = H[q]?) (hc : CR G (su σ a c) H1 a) : Rel G (su σ a c) H1 := by
  have hx11 : 11 ≤ x := Nat.le_trans ha2 (foot_ge hx)
  refine ⟨fun b hb => ?_, fun q hq => ?_⟩
  · by_cases hab : b = a
    · subst hab; exact hc
    · by_cases h5 : (shp b).1 = 5
      · unfold CR
        split <;> rename_i he <;> first | trivial | (rw [he] at h5; simp at h5)
      · exact (h.1 b hb).congr (fun y hy => hH _ (ad_ne hA hx11 (fun e => foot_dis a ha b hb (fun e => hab e.symm) hk h5 x hx (e ▸ hy)))) (su_ne hab) (by rw [su_ne (by omega)])
  · have h1 := hA.2 x hx11
    rw [hH q (by omega)]
    exact h.2 q hq
/-! ===== locals ===== -/
def lvl (ad : Nat → Nat) : Nat → Lo → List (Nat × Value)
  | _, [] => []
  | i, none :: r => lvl ad (i + 1) r
  | i, some v :: r => (i, cv ad v) :: lvl ad (i + 1) r
theorem lvl_mem {ad : Nat → Nat} : ∀ (ls : Lo) (i : Nat) (q : Nat × Value), q ∈ lvl ad i ls ↔ ∃ (j : Nat) (v : AV), ls[j]? = some (some v) ∧ q = (i + j, cv ad v)
  | [], i, q => by simp [lvl]
  | none :: r, i, q => by
    rw [lvl, lvl_mem r (i + 1) q]
    constructor
    · rintro ⟨j, v, h1, rfl⟩
      exact ⟨j + 1, v, by simpa using h1, by rw [show i + 1 + j = i + (j + 1) by omega]⟩
    · rintro ⟨j, v, h1, rfl⟩
      cases j with
      | zero => simp at h1
      | succ j => exact ⟨j, v, by simpa using h1, by rw [show i + 1 + j = i + (j + 1) by omega]⟩
  | some w :: r, i, q => by
    rw [lvl, List.mem_cons, lvl_mem r (i + 1) q]
    constructor
    · rintro (rfl | ⟨j, v, h1, rfl⟩)
      · exact ⟨0, w, by simp, by simp⟩
      · exact ⟨j + 1, v, by simpa using h1, by rw [show i + 1 + j = i + (j + 1) by omega]⟩
    · rintro ⟨j, v, h1, rfl⟩
      cases j with
      | zero => left; simp at h1; rw [h1]; simp
      | succ j => right; exact ⟨j, v, by simpa using h1, by rw [show i + 1 + j = i + (j + 1) by omega]⟩
/-- the locals hold these -/
def LR (ad : Nat → Nat) (ls : Lo) (als : Array Slot) : Prop := lv_has als ls.length (lvl ad 0 ls)
theorem LR.at {ad : Nat → Nat} {ls : Lo} {als : Array Slot} (h : LR ad ls als) {k : Nat} {v : AV} (hk : ls[k]? = some (some v)) : als[k]? = some (.val (cv ad v)) := h.2.2 (k, cv ad v) ((lvl_mem ls 0 _).mpr ⟨k, v, hk, by simp⟩)
theorem lv_has.mono {als : Array Slot} {n : Nat} {l l' : List (Nat × Value)} (h : lv_has als n l) (hs : ∀ q ∈ l', q ∈ l) : lv_has als n l' := ⟨h.1, h.2.1, fun q hq => h.2.2 q (hs q hq)⟩
theorem setL_len (v : Option AV) : ∀ (k : Nat) (ls : Lo), (setL v k ls).length = ls.length
  | 0, [] => rfl
  | 0, _ :: r => rfl
  | 1, [] => rfl
  | 1, [_] => rfl
  | 1, _ :: _ :: r => rfl
  | k + 2, [] => rfl
  | k + 2, u :: r => by show (setL v (k + 1) r).length + 1 = r.length + 1; rw [setL_len v (k + 1) r]
theorem setL_get (v : Option AV) : ∀ (k : Nat) (ls : Lo), k < ls.length → ∀ j, (setL v k ls)[j]? = if j = k then some v else if j + 1 = k then (ls[j]?).map kl else ls[j]?
  | 0, [], h, j => by simp at h
  | 0, _ :: r, _, j => by
    cases j with
    | zero => simp [setL]
    | succ j => simp [setL]
  | 1, [], h, j => by simp at h
  | 1, [_], h, j => by simp at h
  | 1, a :: b :: r, _, j => by
    match j with
    | 0 => simp [setL]
    | 1 => simp [setL]
    | j + 2 => simp [setL]
  | k + 2, [], h, j => by simp at h
  | k + 2, u :: r, h, j => by
    have ih := setL_get v (k + 1) r (by have h2 := h; simp at h2; omega)
    cases j with
    | zero => simp [setL]
    | succ j =>
      show (setL v (k + 1) r)[j]? = _
      rw [ih j]
      simp only [List.getElem?_cons_succ, Nat.add_right_cancel_iff]
theorem kl_some {u : Option AV} {v : AV} (h : kl u = some v) : u = some v ∧ wid v = 1 := by
  unfold kl at h
  split at h
  · cases h
  · rename_i hn
    subst h
    refine ⟨rfl, ?_⟩
    match v, hn with
    | .inl _, _ => rfl
    | .inr (.inl _), _ => rfl
    | .inr (.inr (.inl x)), hn => exact absurd rfl (hn x)
    | .inr (.inr (.inr _)), _ => rfl
theorem cv_cat (ad : Nat → Nat) (v : AV) : (cv ad v).category = wid v := by
  match v with
  | .inl _ => rfl
  | .inr (.inl _) => rfl
  | .inr (.inr (.inl x)) => rfl
  | .inr (.inr (.inr (o, i))) => rfl
theorem LR.st1 {ad : Nat → Nat} {ls : Lo} {als : Array Slot} {k : Nat} {v : AV} (hk : k < ls.length) (h : lv_has als ls.length ((k, cv ad v) :: (lvl ad 0 ls).filter (fun q => !(q.1 == k) && !(q.1 + 1 == k && q.2.category == 2)))) : LR ad (setL (some v) k ls) als := by
  unfold LR
  rw [setL_len]
  refine h.mono (fun q hq => ?_)
  obtain ⟨j, w, hj, rfl⟩ := (lvl_mem _ 0 q).mp hq
  rw [setL_get _ _ _ hk] at hj
  rw [Nat.zero_add]
  by_cases h1 : j = k
  · subst h1
    rw [if_pos rfl] at hj
    cases hj
    exact List.mem_cons_self
  · rw [if_neg h1] at hj
    refine List.mem_cons_of_mem _ (List.mem_filter.mpr ?_)
    by_cases h2 : j + 1 = k
    · rw [if_pos h2] at hj
      cases hu : ls[j]? with
      | none => rw [hu] at hj; cases hj
      | some u =>
        rw [hu] at hj
        obtain ⟨e1, e2⟩ := kl_some (Option.some.inj hj)
        subst e1
        exact ⟨(lvl_mem _ 0 _).mpr ⟨j, w, hu, by simp⟩, by simp [h1, cv_cat, e2]⟩
    · rw [if_neg h2] at hj
      exact ⟨(lvl_mem _ 0 _).mpr ⟨j, w, hj, by simp⟩, by simp [h1, h2]⟩
theorem LR.st2 {ad : Nat → Nat} {ls : Lo} {als : Array Slot} {k : Nat} {x : Int} (hk : k + 1 < ls.length) (h : lv_has als ls.length ((k, Value.long (Int64.ofInt x)) :: (lvl ad 0 ls).filter (fun q => !(q.1 == k) && (!(q.1 == k + 1) && !(q.1 + 1 == k && q.2.category == 2))))) : LR ad ((setL none (k + 1) (setL none k ls)).set k (vJ x)) als := by
  unfold LR
  rw [List.length_set, setL_len, setL_len]
  refine h.mono (fun q hq => ?_)
  obtain ⟨j, w, hj, rfl⟩ := (lvl_mem _ 0 q).mp hq
  rw [Nat.zero_add]
  by_cases h1 : j = k
  · subst h1
    rw [List.getElem?_set_self (by rw [setL_len, setL_len]; omega)] at hj
    cases hj
    exact List.mem_cons_self
  · rw [List.getElem?_set_ne (fun e => h1 e.symm), setL_get _ _ _ (by rw [setL_len]; exact hk)] at hj
    refine List.mem_cons_of_mem _ (List.mem_filter.mpr ?_)
    by_cases h2 : j = k + 1
    · rw [if_pos h2] at hj; cases hj
    · rw [if_neg h2, if_neg (by omega), setL_get _ _ _ (by omega), if_neg h1] at hj
      by_cases h3 : j + 1 = k
      · rw [if_pos h3] at hj
        cases hu : ls[j]? with
        | none => rw [hu] at hj; cases hj
        | some u =>
          rw [hu] at hj
          obtain ⟨e1, e2⟩ := kl_some (Option.some.inj hj)
          subst e1
          exact ⟨(lvl_mem _ 0 _).mpr ⟨j, w, hu, by simp⟩, by simp [h1, h2, cv_cat, e2]⟩
      · rw [if_neg h3] at hj
        exact ⟨(lvl_mem _ 0 _).mpr ⟨j, w, hj, by simp⟩, by simp [h1, h2, h3]⟩
