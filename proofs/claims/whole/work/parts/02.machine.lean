/-! ===== THE ABSTRACT MACHINE: values, memory by fixed addresses, one step as what it asks, runs by fuel ===== -/
/-- int x = .inl x; the cell a = .inr (.inl a); long x = .inr (.inr (.inl x)); row i of the grid o = .inr (.inr (.inr (o, i))) -/
abbrev AV : Type := Int ⊕ (Nat ⊕ (Int ⊕ (Nat × Int)))
abbrev Mem : Type := Nat → Int → Int
abbrev Lo : Type := List (Option AV)
/-- an instruction, its length, three numbers that its operands mean, a constant -/
abbrev Ent : Type := Instr × Nat × (Nat × Nat × Nat) × Int
abbrev RV : Type := Option AV
abbrev vI (x : Int) : Option AV := some (.inl x)
abbrev vR (a : Nat) : Option AV := some (.inr (.inl a))
abbrev vJ (x : Int) : Option AV := some (.inr (.inr (.inl x)))
abbrev vW (o : Nat) (i : Int) : Option AV := some (.inr (.inr (.inr (o, i))))
abbrev vU : Option AV := none
abbrev rI (x : Int) : RV := some (.inl x)
abbrev rJ (x : Int) : RV := some (.inr (.inr (.inl x)))
abbrev rV : RV := none
abbrev rg (x : Int) : Prop := -2147483648 ≤ x ∧ x ≤ 2147483647
abbrev rgL (x : Int) : Prop := -9223372036854775808 ≤ x ∧ x ≤ 9223372036854775807
def su (σ : Mem) (a : Nat) (c : Int → Int) : Mem := fun b => if b = a then c else σ b
def fu (f : Int → Int) (i v : Int) : Int → Int := fun j => if j = i then v else f j
/-- one place of one cell written -/
def ups (σ : Mem) (a : Nat) (i v : Int) : Mem := su σ a (fu (σ a) i v)
/-- the row behind a copy of n places from sp of f to dp of g -/
def cpy (f g : Int → Int) (sp dp n : Int) : Int → Int := fun j => if dp ≤ j ∧ j < dp + n then f (sp + (j - dp)) else g j
def i_and (x y : Int) : Int := (Int32.ofInt x &&& Int32.ofInt y).toInt
def i_or (x y : Int) : Int := (Int32.ofInt x ||| Int32.ofInt y).toInt
def i_xor (x y : Int) : Int := (Int32.ofInt x ^^^ Int32.ofInt y).toInt
def i_shl (x y : Int) : Int := (Int32.ofInt x <<< (Int32.ofInt y &&& 31)).toInt
def i_shr (x y : Int) : Int := (Int32.ofInt x >>> (Int32.ofInt y &&& 31)).toInt
def i_ushr (x y : Int) : Int := ((Int32.ofInt x).toUInt32 >>> ((Int32.ofInt y).toUInt32 &&& Int32.toUInt32 31)).toInt32.toInt
def l_and (x y : Int) : Int := (Int64.ofInt x &&& Int64.ofInt y).toInt
def l_or (x y : Int) : Int := (Int64.ofInt x ||| Int64.ofInt y).toInt
def l_shl (x y : Int) : Int := (Int64.ofInt x <<< ((Int32.ofInt y).toInt64 &&& 63)).toInt
def l_ushr (x y : Int) : Int := ((Int64.ofInt x).toUInt64 >>> ((Int32.ofInt y).toInt64.toUInt64 &&& Int64.toUInt64 63)).toInt64.toInt
abbrev cnd (c : Jvm.ClassFile.Cond) (x y : Int) : Prop := match c with
  | .eq => x = y
  | .ne => x ≠ y
  | .lt => x < y
  | .ge => y ≤ x
  | .gt => y < x
  | .le => x ≤ y
abbrev ncnd (c : Jvm.ClassFile.Cond) (x y : Int) : Prop := match c with
  | .eq => x ≠ y
  | .ne => x = y
  | .lt => y ≤ x
  | .ge => x < y
  | .gt => x ≤ y
  | .le => y < x
def cmpL (x y : Int) : Int := if x < y then -1 else if x = y then 0 else 1
def tg (pc : Nat) (off : Int) : Nat := (Int.ofNat pc + off).toNat
/-- what is left of a place whose next one is written -/
def kl (u : Option AV) : Option AV := match u with
  | some (.inr (.inr (.inl _))) => none
  | u => u
def setL (v : Option AV) : Nat → Lo → Lo
  | 0, _ :: r => v :: r
  | 1, u :: _ :: r => kl u :: v :: r
  | k + 2, u :: r => u :: setL v (k + 1) r
  | _, ls => ls
/-- a place may be written: it is there -/
def stOk (ls : Lo) (k : Nat) : Bool := Nat.blt k ls.length
abbrev aI (x : Int) : AV := .inl x
abbrev aR (a : Nat) : AV := .inr (.inl a)
abbrev aJ (x : Int) : AV := .inr (.inr (.inl x))
abbrev aW (o : Nat) (i : Int) : AV := .inr (.inr (.inr (o, i)))
def entL : List AV → Nat → Lo
  | [], n => List.replicate n none
  | .inr (.inr (.inl x)) :: r, n + 2 => vJ x :: none :: entL r n
  | v :: r, n + 1 => some v :: entL r n
  | _ :: _, 0 => []
def wid : AV → Nat
  | .inr (.inr (.inl _)) => 2
  | _ => 1
def widS : List AV → Nat
  | [] => 0
  | v :: r => wid v + widS r
def sw (x : Int) : Int → List Int → Int → (Int → Prop) → Prop
  | _, [], d, k => k d
  | lo, o :: r, d, k => (x = lo → k o) ∧ (x ≠ lo → sw x (lo + 1) r d k)
def swL (x : Int) : List (Int × Int) → Int → (Int → Prop) → Prop
  | [], d, k => k d
  | (a, o) :: r, d, k => (x = a → k o) ∧ (x ≠ a → swL x r d k)
def lkp : List (Nat × Ent) → Nat → Option Ent
  | [], _ => none
  | (q, e) :: r, p => bif Nat.beq q p then some e else lkp r p
def lks : List (Nat × List (Nat × Ent)) → Nat → Option Ent
  | [], _ => none
  | (u, s) :: r, p => bif Nat.ble p u then lkp s p else lks r p
