/-! ===== WHAT HOLDS BETWEEN THE CLASS'S MEMORY AND THE REFERENCE'S, BETWEEN CALLS ===== -/
def sumI (f : Int → Int) : Nat → Int
  | 0 => 0
  | n + 1 => sumI f n + f (Int.ofNat n)
theorem sumI_congr {f g : Int → Int} : ∀ {n : Nat}, (∀ i : Int, 0 ≤ i → i < (n : Int) → f i = g i) → sumI f n = sumI g n
  | 0, _ => rfl
  | n + 1, h => by
    show sumI f n + f (Int.ofNat n) = sumI g n + g (Int.ofNat n)
    rw [sumI_congr (n := n) (fun i h0 h1 => h i h0 (by omega)), h (Int.ofNat n) (Int.ofNat_nonneg n) (by show ((n : Nat) : Int) < _; omega)]
theorem sumI_nn {f : Int → Int} : ∀ {n : Nat}, (∀ i : Int, 0 ≤ i → i < (n : Int) → 0 ≤ f i) → 0 ≤ sumI f n
  | 0, _ => Int.le_refl _
  | n + 1, h => Int.add_nonneg (sumI_nn (n := n) (fun i h0 h1 => h i h0 (by omega))) (h _ (Int.ofNat_nonneg n) (by show ((n : Nat) : Int) < _; omega))
/-- one of them is at most their sum -/
theorem sumI_le {f : Int → Int} {j : Int} (hj : 0 ≤ j) : ∀ {n : Nat}, (∀ i : Int, 0 ≤ i → i < (n : Int) → 0 ≤ f i) → j < (n : Int) → f j ≤ sumI f n
  | 0, _, hn => by omega
  | n + 1, h, hn => by
    show f j ≤ sumI f n + f (Int.ofNat n)
    have h2 := h (Int.ofNat n) (Int.ofNat_nonneg n) (by show ((n : Nat) : Int) < _; omega)
    by_cases e : j = (n : Int)
    · have h3 := sumI_nn (f := f) (n := n) (fun i h0 h1 => h i h0 (by omega))
      rw [e]
      show f (Int.ofNat n) ≤ _
      omega
    · have := sumI_le hj (n := n) (fun i h0 h1 => h i h0 (by omega)) (by omega)
      omega
/-- one of them changed -/
theorem sumI_upd {f : Int → Int} {j v : Int} : ∀ {n : Nat}, 0 ≤ j → sumI (fu f j v) n = if j < (n : Int) then sumI f n + (v - f j) else sumI f n
  | 0, hj => by rw [if_neg (by omega)]; rfl
  | n + 1, hj => by
    show sumI (fu f j v) n + fu f j v (Int.ofNat n) = _
    rw [sumI_upd (n := n) hj]
    have e0 : sumI f (n + 1) = sumI f n + f (Int.ofNat n) := rfl
    by_cases e : j = (n : Int)
    · subst e
      rw [if_neg (by omega), if_pos (by omega), e0]
      have : fu f ((n : Nat) : Int) v (Int.ofNat n) = v := if_pos rfl
      rw [this]
      have : f (Int.ofNat n) = f ((n : Nat) : Int) := rfl
      omega
    · have e2 : fu f j v (Int.ofNat n) = f (Int.ofNat n) := if_neg (fun q => e (by have : ((n : Nat) : Int) = j := q; omega))
      rw [e2]
      by_cases h1 : j < (n : Int)
      · rw [if_pos h1, if_pos (by omega), e0]; omega
      · rw [if_neg h1, if_neg (by omega), e0]
/-- the same but at these addresses -/
def Fr (σ τ : Mem) (S : List Nat) : Prop := ∀ a, a ∉ S → τ a = σ a
theorem Fr.refl {σ : Mem} {S : List Nat} : Fr σ σ S := fun _ _ => rfl
theorem Fr.trans {σ τ υ : Mem} {S S' : List Nat} (h : Fr σ τ S) (h' : Fr τ υ S') : Fr σ υ (S ++ S') := fun a ha => by
  rw [List.mem_append, not_or] at ha
  rw [h' a ha.2, h a ha.1]
theorem Fr.mono {σ τ : Mem} {S S' : List Nat} (h : Fr σ τ S) (hs : ∀ a ∈ S, a ∈ S') : Fr σ τ S' := fun a ha => h a (fun q => ha (hs a q))
theorem Fr.ups {σ : Mem} {a : Nat} {i v : Int} : Fr σ (ups σ a i v) [a] := fun b hb => ups_ne (fun e => hb (by rw [e]; exact List.mem_singleton.mpr rfl))
theorem Fr.su {σ : Mem} {a : Nat} {c : Int → Int} : Fr σ (su σ a c) [a] := fun b hb => su_ne (fun e => hb (by rw [e]; exact List.mem_singleton.mpr rfl))
/-- the tape -/
def TapeI (σ : Mem) : Prop := σ 12 1 = σ 64 2 ∧ 0 ≤ σ 64 2 ∧ σ 64 2 ≤ 240 ∧ ∀ i, 0 ≤ i → i < σ 64 2 → σ 13 i = σ 65 i ∧ 1 ≤ σ 65 i ∧ σ 65 i ≤ 255
/-- the market that is open -/
def MarkI (σ : Mem) : Prop :=
  (σ 15 0 = σ 64 37 ∧ σ 15 1 = σ 64 38 ∧ σ 15 2 = σ 64 39 ∧ σ 15 3 = σ 64 40) ∧
  ((0 ≤ σ 64 37 ∧ σ 64 37 ≤ 8) ∧ (0 ≤ σ 64 38 ∧ σ 64 38 ≤ 6) ∧ (0 ≤ σ 64 39 ∧ σ 64 39 ≤ 10) ∧ (0 ≤ σ 64 40 ∧ σ 64 40 ≤ 6)) ∧
  ((0 < σ 64 37 → 0 < σ 64 38) ∧ (0 < σ 64 38 → 0 < σ 64 37)) ∧
  (∀ t, 0 ≤ t → t < σ 64 37 → σ 16 (3 * t) = σ 82 t ∧ σ 16 (3 * t + 1) = σ 83 t ∧ (0 ≤ σ 82 t ∧ σ 82 t ≤ 99) ∧ (0 ≤ σ 83 t ∧ σ 83 t ≤ 9)) ∧
  (∀ p, 0 ≤ p → p < σ 64 38 → (σ 16 (30 + 3 * p + 2) = 8 ∧ σ 84 p = -1) ∨ (σ 16 (30 + 3 * p + 2) = σ 84 p ∧ 0 ≤ σ 84 p ∧ σ 84 p < σ 64 37)) ∧
  (∀ k, 0 ≤ k → k < σ 64 39 → (σ 16 (60 + 3 * k) = σ 85 k ∧ σ 16 (60 + 3 * k + 1) = σ 86 k ∧ σ 16 (60 + 3 * k + 2) = σ 87 k) ∧ (0 ≤ σ 85 k ∧ σ 85 k < σ 64 37) ∧ (0 ≤ σ 86 k ∧ σ 86 k < σ 64 37) ∧ σ 85 k ≠ σ 86 k ∧ (1 ≤ σ 87 k ∧ σ 87 k ≤ 9)) ∧
  (∀ k, 0 ≤ k → k < σ 64 40 → (σ 16 (90 + 3 * k) = σ 88 k ∧ σ 16 (90 + 3 * k + 1) = σ 89 k) ∧ (0 ≤ σ 88 k ∧ σ 88 k < σ 64 37) ∧ (0 ≤ σ 89 k ∧ σ 89 k < σ 64 37) ∧ σ 88 k ≠ σ 89 k)
/-- a row of the reference, with so many things and persons -/
def PledV (T P : Int) (m : Int → Int) (k : Int) : Prop := (0 ≤ m (74 + 5 * k) ∧ m (74 + 5 * k) < P) ∧ (0 ≤ m (74 + 5 * k + 1) ∧ m (74 + 5 * k + 1) < P) ∧ m (74 + 5 * k) ≠ m (74 + 5 * k + 1) ∧ (0 ≤ m (74 + 5 * k + 2) ∧ m (74 + 5 * k + 2) < T) ∧ (0 ≤ m (74 + 5 * k + 3) ∧ m (74 + 5 * k + 3) ≤ 99) ∧ (m 72 < m (74 + 5 * k + 4) ∧ m (74 + 5 * k + 4) ≤ 1029)
def LogV (m : Int → Int) (i : Int) : Prop := (0 ≤ m (115 + 4 * i) ∧ m (115 + 4 * i) < 6) ∧ (0 ≤ m (115 + 4 * i + 1) ∧ m (115 + 4 * i + 1) < 8) ∧ (0 ≤ m (115 + 4 * i + 2) ∧ m (115 + 4 * i + 2) ≤ 999) ∧ (0 ≤ m (115 + 4 * i + 3) ∧ m (115 + 4 * i + 3) ≤ 999)
def RowV (T P : Int) (m : Int → Int) : Prop :=
  (∀ i, 0 ≤ i → i < 72 → 0 ≤ m i) ∧ (∀ p, 0 ≤ p → p < 6 → m (48 + p) < 2 ^ T.toNat) ∧
  sumI (fun i => m (54 + i)) 6 + 999 * (sumI m 48 + m 73) ≤ 47952 ∧ sumI (fun i => m (60 + i)) 6 ≤ 594 ∧ (∀ p, 0 ≤ p → p < 6 → m (66 + p) ≤ 99) ∧
  (0 ≤ m 72 ∧ m 72 ≤ 999) ∧ (0 ≤ m 73 ∧ m 73 ≤ 8) ∧ (∀ k, 0 ≤ k → k < m 73 → PledV T P m k) ∧ (0 ≤ m 114 ∧ m 114 ≤ 60) ∧ (∀ i, 0 ≤ i → i < m 114 → LogV m i)
/-- the class's cells and the reference's row -/
def RowR (c m : Int → Int) : Prop :=
  (c 0 = m 72 ∧ c 1 = m 73 ∧ c 2 = m 114) ∧
  (∀ p, 0 ≤ p → p < 6 → c (3 + 4 * p) = m (60 + p) ∧ c (3 + 4 * p + 1) = m (66 + p) ∧ c (3 + 4 * p + 2) = m (54 + p) ∧ c (3 + 4 * p + 3) = m (48 + p)) ∧
  (∀ i, 0 ≤ i → i < 48 → c (27 + i) = m i) ∧
  (∀ i, 0 ≤ i → i < 5 * m 73 → c (75 + i) = m (74 + i)) ∧
  (∀ i, 0 ≤ i → i < m 114 → c (115 + i) = ((m (115 + 4 * (m 114 - 1 - i) + 3) * 1000 + m (115 + 4 * (m 114 - 1 - i) + 2)) * 8 + m (115 + 4 * (m 114 - 1 - i) + 1)) * 8 + m (115 + 4 * (m 114 - 1 - i)))
/-- what one can take back: the class's ring, the newest last; the reference's rows, one behind the other -/
def PastI (σ : Mem) : Prop :=
  (σ 41 2 = σ 64 45 ∧ 0 ≤ σ 64 45 ∧ σ 64 45 ≤ 40) ∧ (0 ≤ σ 41 1 ∧ σ 41 1 < 40) ∧
  ∀ j, 0 ≤ j → j < σ 64 45 → RowR (fun i => σ 42 ((σ 41 1 + 40 - σ 64 45 + j) % 40 * 175 + i)) (fun i => σ 90 (355 * j + i)) ∧ RowV (σ 64 37) (σ 64 38) (fun i => σ 90 (355 * j + i))
/-- an image -/
def ImgI (σ : Mem) : Prop := (σ 11 13 = σ 64 63 ∧ (σ 64 63 = 0 ∨ σ 64 63 = 1)) ∧ (σ 64 63 = 1 → 0 < σ 64 37 ∧ RowR (σ 43) (σ 99) ∧ RowV (σ 64 37) (σ 64 38) (σ 99))
/-- found and claimed -/
def EvidI (σ : Mem) : Prop :=
  (σ 55 8 = σ 64 55 ∧ 0 ≤ σ 64 55 ∧ σ 64 55 ≤ 12) ∧ (σ 55 9 = σ 64 60 ∧ 0 ≤ σ 64 60 ∧ σ 64 60 ≤ 12) ∧
  (∀ k, 0 ≤ k → k < σ 64 55 → (σ 56 k = σ 93 k ∧ σ 57 k = σ 94 k) ∧ (0 ≤ σ 93 k ∧ σ 93 k < σ 64 37) ∧ (0 ≤ σ 94 k ∧ σ 94 k ≤ 10)) ∧
  (∀ k, 0 ≤ k → k < σ 64 60 → (σ 58 k = σ 95 k ∧ σ 59 k = σ 96 k ∧ σ 60 k = σ 97 k ∧ σ 61 k = σ 98 k) ∧ (0 ≤ σ 95 k ∧ σ 95 k < σ 64 38) ∧ (0 ≤ σ 96 k ∧ σ 96 k < σ 64 37) ∧ (0 ≤ σ 97 k ∧ σ 97 k ≤ σ 98 k ∧ σ 98 k ≤ 108))
/-- the plans -/
def PlanI (σ : Mem) : Prop :=
  (σ 29 3 = σ 64 27 ∧ 0 ≤ σ 64 27 ∧ σ 64 27 ≤ 4) ∧
  ∀ n, 0 ≤ n → n < σ 64 27 → (σ 36 n = σ 80 n ∧ 1 ≤ σ 80 n ∧ σ 80 n ≤ 12) ∧ ∀ i, 0 ≤ i → i < σ 80 n →
    (∀ w, 0 ≤ w → w < 5 → σ 30 (n * 60 + (5 * i + w)) = σ 79 (5 * (12 * n + i) + w)) ∧ (0 ≤ σ 79 (5 * (12 * n + i)) ∧ σ 79 (5 * (12 * n + i)) ≤ 3) ∧
    (∀ w, 0 ≤ w → w < 5 → -1 ≤ σ 79 (5 * (12 * n + i) + w) ∧ σ 79 (5 * (12 * n + i) + w) ≤ 99)
/-- what stands elsewhere -/
def RestI (σ : Mem) : Prop := (σ 11 14 = σ 64 41 ∧ 0 ≤ σ 64 41 ∧ σ 64 41 ≤ 99) ∧ σ 64 43 = 0 ∧ (∀ i, rg (σ 1 i)) ∧ (0 ≤ σ 0 0 ∧ σ 0 0 ≤ 3072) ∧ RG (σ 40)
/-! the tastes: what is worked out, as signs in the order in which they are worked; the class keeps one row of numbers and signs, the reference two -/
abbrev Tok : Type := Int × Int
def sgn (c : Int) : Int := if c = 2 then 43 else if c = 3 then 45 else if c = 4 then 42 else if c = 5 then 47 else if c = 6 then 61 else if c = 7 then 60 else if c = 8 then 62 else if c = 9 then 33 else if c = 10 then 38 else 124
def tokC (t : Tok) : Int := if t.1 = 0 then t.2 else if t.1 = 1 then -1 - t.2 else -(sgn t.1)
/-- what waits: a number (false) or a yes or no (true) -/
def chkT (s : List Bool) (t : Tok) : Option (List Bool) :=
  if t.1 = 0 then (if 0 ≤ t.2 ∧ t.2 ≤ 9999 ∧ s.length < 60 then some (false :: s) else none)
  else if t.1 = 1 then (if 0 ≤ t.2 ∧ t.2 < 7 ∧ s.length < 60 then some (false :: s) else none)
  else if 2 ≤ t.1 ∧ t.1 ≤ 5 then (match s with | false :: false :: r => some (false :: r) | _ => none)
  else if 6 ≤ t.1 ∧ t.1 ≤ 8 then (match s with | false :: false :: r => some (true :: r) | _ => none)
  else if t.1 = 9 then (match s with | true :: r => some (true :: r) | _ => none)
  else if t.1 = 10 ∨ t.1 = 11 then (match s with | true :: true :: r => some (true :: r) | _ => none)
  else none
def chkL : List Bool → List Tok → Option (List Bool)
  | s, [] => some s
  | s, t :: r => (chkT s t).bind (fun s' => chkL s' r)
abbrev Cla : Type := Option (List Tok) × List Tok
def okCl (c : Cla) : Prop := chkL [] c.2 = some [false] ∧ ∀ t, c.1 = some t → chkL [] t = some [true]
def clC : Cla → List Int
  | (none, s) => s.map tokC ++ [-59]
  | (some t, s) => t.map tokC ++ [-63] ++ s.map tokC ++ [-59]
def clM : Cla → List Tok
  | (none, s) => s
  | (some t, s) => t ++ s
def clT : Cla → List Tok
  | (none, _) => []
  | (some t, _) => t
/-- a list lies in a row from here on -/
def LiesI (f : Int → Int) (n : Int) (l : List Int) : Prop := ∀ (j : Nat) (v : Int), l[j]? = some v → f (n + Int.ofNat j) = v
def LiesP (f g : Int → Int) (n : Int) (l : List Tok) : Prop := ∀ (j : Nat) (v : Int × Int), l[j]? = some v → f (n + Int.ofNat j) = v.1 ∧ g (n + Int.ofNat j) = v.2
/-- where a clause begins -/
def befM : List Cla → Nat → Nat
  | [], _ => 0
  | _, 0 => 0
  | c :: r, k + 1 => (clM c).length + befM r k
def TextC (σ : Mem) (n : Int) (cs : List Cla) : Prop := σ 27 n = Int.ofNat (cs.flatMap clC).length ∧ (cs.flatMap clC).length ≤ 240 ∧ LiesI (σ 21) (240 * n) (cs.flatMap clC)
def TextM (σ : Mem) (n : Int) (cs : List Cla) : Prop :=
  σ 69 n = Int.ofNat cs.length ∧ cs.length ≤ 120 ∧ (cs.flatMap clM).length ≤ 240 ∧ LiesP (σ 66) (σ 67) (520 * n) (cs.flatMap clM) ∧
  ∀ (k : Nat) (c : Cla), cs[k]? = some c → σ 70 (140 * n + Int.ofNat k) = Int.ofNat (befM cs k) ∧ σ 71 (140 * n + Int.ofNat k) = Int.ofNat (befM cs k + (clT c).length) ∧ σ 72 (140 * n + Int.ofNat k) = Int.ofNat (befM cs k + (clM c).length)
def TasteI (σ : Mem) : Prop := (σ 20 4 = σ 64 13 ∧ 0 ≤ σ 64 13 ∧ σ 64 13 ≤ 4) ∧ (σ 20 5 = σ 64 42 ∧ -1 ≤ σ 64 42 ∧ σ 64 42 < σ 64 13) ∧ ∀ n, 0 ≤ n → n < σ 64 13 → ∃ cs : List Cla, (∀ c ∈ cs, okCl c) ∧ TextC σ n cs ∧ TextM σ n cs
/-- no cell beyond an int -/
def CellI (σ : Mem) : Prop := RG (σ 38) ∧ RG (σ 81) ∧ RG (σ 42) ∧ RG (σ 90) ∧ RG (σ 43) ∧ RG (σ 99)
def Inv (σ : Mem) : Prop := (TapeI σ ∧ MarkI σ ∧ RowR (σ 38) (σ 81) ∧ RowV (σ 64 37) (σ 64 38) (σ 81)) ∧ (PastI σ ∧ ImgI σ ∧ EvidI σ ∧ CellI σ) ∧ PlanI σ ∧ TasteI σ ∧ RestI σ
/-- whether person tells -/
def psOk (σ : Mem) (p w : Int) : Prop := 0 ≤ p ∧ p < σ 15 1 ∧ 0 ≤ w ∧ w ≤ 4
