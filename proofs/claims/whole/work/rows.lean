section
/-! ===== THE ABSTRACT MACHINE: values, memory by fixed addresses, one step as what it asks, runs by fuel ===== -/
/-- int x = .inl x; the cell a = .inr (.inl a); long x = .inr (.inr (.inl x)); row i of the grid o = .inr (.inr (.inr (o, i))) -/
abbrev AV : Type := Int ⊕ (Nat ⊕ (Int ⊕ (Nat × Int)))
abbrev Mem : Type := Nat → Int → Int
abbrev Lo : Type := List (Option AV)
/-- an instruction, its length, three numbers that its operands mean, a constant -/
abbrev Ent : Type := Instr × Nat × (Nat × Nat × Nat) × Int
abbrev RV : Type := Option AV
abbrev vI (x : Int) : Option AV := some (.inl x)
abbrev vR (a : Nat) : Option AV := some (.inr (.inl a))
abbrev vJ (x : Int) : Option AV := some (.inr (.inr (.inl x)))
abbrev vW (o : Nat) (i : Int) : Option AV := some (.inr (.inr (.inr (o, i))))
abbrev vU : Option AV := none
abbrev rI (x : Int) : RV := some (.inl x)
abbrev rJ (x : Int) : RV := some (.inr (.inr (.inl x)))
abbrev rV : RV := none
abbrev rg (x : Int) : Prop := -2147483648 ≤ x ∧ x ≤ 2147483647
abbrev rgL (x : Int) : Prop := -9223372036854775808 ≤ x ∧ x ≤ 9223372036854775807
def su (σ : Mem) (a : Nat) (c : Int → Int) : Mem := fun b => if b = a then c else σ b
def fu (f : Int → Int) (i v : Int) : Int → Int := fun j => if j = i then v else f j
/-- one place of one cell written -/
def ups (σ : Mem) (a : Nat) (i v : Int) : Mem := su σ a (fu (σ a) i v)
/-- the row behind a copy of n places from sp of f to dp of g -/
def cpy (f g : Int → Int) (sp dp n : Int) : Int → Int := fun j => if dp ≤ j ∧ j < dp + n then f (sp + (j - dp)) else g j
def i_and (x y : Int) : Int := (Int32.ofInt x &&& Int32.ofInt y).toInt
def i_or (x y : Int) : Int := (Int32.ofInt x ||| Int32.ofInt y).toInt
def i_xor (x y : Int) : Int := (Int32.ofInt x ^^^ Int32.ofInt y).toInt
def i_shl (x y : Int) : Int := (Int32.ofInt x <<< (Int32.ofInt y &&& 31)).toInt
def i_shr (x y : Int) : Int := (Int32.ofInt x >>> (Int32.ofInt y &&& 31)).toInt
def i_ushr (x y : Int) : Int := ((Int32.ofInt x).toUInt32 >>> ((Int32.ofInt y).toUInt32 &&& Int32.toUInt32 31)).toInt32.toInt
def l_and (x y : Int) : Int := (Int64.ofInt x &&& Int64.ofInt y).toInt
def l_or (x y : Int) : Int := (Int64.ofInt x ||| Int64.ofInt y).toInt
def l_shl (x y : Int) : Int := (Int64.ofInt x <<< ((Int32.ofInt y).toInt64 &&& 63)).toInt
def l_ushr (x y : Int) : Int := ((Int64.ofInt x).toUInt64 >>> ((Int32.ofInt y).toInt64.toUInt64 &&& Int64.toUInt64 63)).toInt64.toInt
abbrev cnd (c : Jvm.ClassFile.Cond) (x y : Int) : Prop := match c with
  | .eq => x = y
  | .ne => x ≠ y
  | .lt => x < y
  | .ge => y ≤ x
  | .gt => y < x
  | .le => x ≤ y
abbrev ncnd (c : Jvm.ClassFile.Cond) (x y : Int) : Prop := match c with
  | .eq => x ≠ y
  | .ne => x = y
  | .lt => y ≤ x
  | .ge => x < y
  | .gt => x ≤ y
  | .le => y < x
def cmpL (x y : Int) : Int := if x < y then -1 else if x = y then 0 else 1
def tg (pc : Nat) (off : Int) : Nat := (Int.ofNat pc + off).toNat
/-- what is left of a place whose next one is written -/
def kl (u : Option AV) : Option AV := match u with
  | some (.inr (.inr (.inl _))) => none
  | u => u
def setL (v : Option AV) : Nat → Lo → Lo
  | 0, _ :: r => v :: r
  | 1, u :: _ :: r => kl u :: v :: r
  | k + 2, u :: r => u :: setL v (k + 1) r
  | _, ls => ls
/-- a place may be written: it is there -/
def stOk (ls : Lo) (k : Nat) : Bool := Nat.blt k ls.length
abbrev aI (x : Int) : AV := .inl x
abbrev aR (a : Nat) : AV := .inr (.inl a)
abbrev aJ (x : Int) : AV := .inr (.inr (.inl x))
abbrev aW (o : Nat) (i : Int) : AV := .inr (.inr (.inr (o, i)))
def entL : List AV → Nat → Lo
  | [], n => List.replicate n none
  | .inr (.inr (.inl x)) :: r, n + 2 => vJ x :: none :: entL r n
  | v :: r, n + 1 => some v :: entL r n
  | _ :: _, 0 => []
def wid : AV → Nat
  | .inr (.inr (.inl _)) => 2
  | _ => 1
def widS : List AV → Nat
  | [] => 0
  | v :: r => wid v + widS r
def sw (x : Int) : Int → List Int → Int → (Int → Prop) → Prop
  | _, [], d, k => k d
  | lo, o :: r, d, k => (x = lo → k o) ∧ (x ≠ lo → sw x (lo + 1) r d k)
def swL (x : Int) : List (Int × Int) → Int → (Int → Prop) → Prop
  | [], d, k => k d
  | (a, o) :: r, d, k => (x = a → k o) ∧ (x ≠ a → swL x r d k)
def lkp : List (Nat × Ent) → Nat → Option Ent
  | [], _ => none
  | (q, e) :: r, p => bif Nat.beq q p then some e else lkp r p
def lks : List (Nat × List (Nat × Ent)) → Nat → Option Ent
  | [], _ => none
  | (u, s) :: r, p => bif Nat.ble p u then lkp s p else lks r p
end
section
/-! ===== THE TABLES, printed by wip/whole/gen.py: code, shapes, references, constants ===== -/
def nthD {α : Type} : List α → Nat → α → α
  | [], _, d => d
  | x :: _, 0, _ => x
  | _ :: r, k + 1, d => nthD r k d
def shpL : List (Nat × Int × Int) := [(9, 0, 0), (6, 0, 0), (3, 4, 0), (7, 4, 0), (7, 12, 0), (3, 12, 0), (7, 12, 0), (7, 12, 0), (7, 4, 0), (3, 7, 0), (7, 8, 0), (4, 10, 0), (4, 8, 0), (0, 240, 0), (4, 3, 0), (0, 4, 0), (0, 120, 0), (4, 3, 0), (0, 4, 0), (0, 120, 0), (4, 9, 0), (1, 5, 240), (5, 240, 0), (5, 240, 0), (5, 240, 0), (5, 240, 0), (5, 240, 0), (0, 5, 0), (0, 64, 0), (4, 5, 0), (1, 5, 60), (5, 60, 0), (5, 60, 0), (5, 60, 0), (5, 60, 0), (5, 60, 0), (0, 5, 0), (4, 7, 0), (0, 175, 0), (4, 7, 0), (0, 175, 0), (4, 4, 0), (0, 7000, 0), (0, 175, 0), (4, 1, 0), (0, 7, 0), (0, 72, 0), (4, 2, 0), (0, 8, 0), (0, 8, 0), (4, 6, 0), (0, 256, 0), (0, 256, 0), (0, 256, 0), (0, 8, 0), (4, 0, 0), (0, 12, 0), (0, 12, 0), (0, 12, 0), (0, 12, 0), (0, 12, 0), (0, 12, 0), (0, 6, 0), (0, 6, 0), (4, 11, 0), (0, 240, 0), (0, 2600, 0), (0, 2600, 0), (0, 5, 0), (0, 5, 0), (0, 700, 0), (0, 700, 0), (0, 700, 0), (0, 7, 0), (0, 80, 0), (0, 16, 0), (0, 18, 0), (0, 30, 0), (0, 12, 0), (0, 300, 0), (0, 5, 0), (0, 355, 0), (0, 8, 0), (0, 8, 0), (0, 6, 0), (0, 10, 0), (0, 10, 0), (0, 10, 0), (0, 6, 0), (0, 6, 0), (0, 14200, 0), (0, 355, 0), (0, 90, 0), (0, 12, 0), (0, 12, 0), (0, 12, 0), (0, 12, 0), (0, 12, 0), (0, 12, 0), (0, 355, 0), (2, 1, 0)]
def shp (a : Nat) : Nat × Int × Int := nthD shpL a (9, 0, 0)
def rf (a y : Nat) : Nat := bif Nat.beq a 11 then (bif Nat.beq y 0 then 12 else (bif Nat.beq y 1 then 14 else (bif Nat.beq y 2 then 17 else (bif Nat.beq y 3 then 20 else (bif Nat.beq y 4 then 29 else (bif Nat.beq y 5 then 37 else (bif Nat.beq y 6 then 39 else (bif Nat.beq y 7 then 41 else (bif Nat.beq y 8 then 43 else (bif Nat.beq y 9 then 44 else (bif Nat.beq y 10 then 47 else (bif Nat.beq y 11 then 50 else (bif Nat.beq y 12 then 55 else 0))))))))))))) else (bif Nat.beq a 12 then (bif Nat.beq y 0 then 13 else 0) else (bif Nat.beq a 14 then (bif Nat.beq y 0 then 15 else (bif Nat.beq y 1 then 16 else 0)) else (bif Nat.beq a 17 then (bif Nat.beq y 0 then 18 else (bif Nat.beq y 1 then 19 else 0)) else (bif Nat.beq a 20 then (bif Nat.beq y 0 then 21 else (bif Nat.beq y 1 then 27 else (bif Nat.beq y 2 then 28 else (bif Nat.beq y 3 then 12 else 0)))) else (bif Nat.beq a 29 then (bif Nat.beq y 0 then 30 else (bif Nat.beq y 1 then 36 else (bif Nat.beq y 2 then 12 else 0))) else (bif Nat.beq a 37 then (bif Nat.beq y 0 then 14 else (bif Nat.beq y 1 then 38 else 0)) else (bif Nat.beq a 39 then (bif Nat.beq y 0 then 14 else (bif Nat.beq y 1 then 40 else 0)) else (bif Nat.beq a 41 then (bif Nat.beq y 0 then 42 else 0) else (bif Nat.beq a 44 then (bif Nat.beq y 0 then 14 else (bif Nat.beq y 1 then 20 else (bif Nat.beq y 2 then 45 else (bif Nat.beq y 3 then 46 else 0)))) else (bif Nat.beq a 47 then (bif Nat.beq y 0 then 14 else (bif Nat.beq y 1 then 44 else (bif Nat.beq y 2 then 48 else (bif Nat.beq y 3 then 49 else 0)))) else (bif Nat.beq a 50 then (bif Nat.beq y 0 then 14 else (bif Nat.beq y 1 then 47 else (bif Nat.beq y 2 then 51 else (bif Nat.beq y 3 then 52 else (bif Nat.beq y 4 then 53 else (bif Nat.beq y 5 then 54 else 0)))))) else (bif Nat.beq a 55 then (bif Nat.beq y 0 then 56 else (bif Nat.beq y 1 then 57 else (bif Nat.beq y 2 then 58 else (bif Nat.beq y 3 then 59 else (bif Nat.beq y 4 then 60 else (bif Nat.beq y 5 then 61 else (bif Nat.beq y 6 then 62 else (bif Nat.beq y 7 then 63 else 0)))))))) else (bif Nat.beq a 64 then (bif Nat.beq y 1 then 65 else (bif Nat.beq y 6 then 66 else (bif Nat.beq y 7 then 67 else (bif Nat.beq y 8 then 68 else (bif Nat.beq y 9 then 69 else (bif Nat.beq y 10 then 70 else (bif Nat.beq y 11 then 71 else (bif Nat.beq y 12 then 72 else (bif Nat.beq y 15 then 73 else (bif Nat.beq y 16 then 74 else (bif Nat.beq y 17 then 75 else (bif Nat.beq y 18 then 76 else (bif Nat.beq y 19 then 77 else (bif Nat.beq y 20 then 78 else (bif Nat.beq y 25 then 79 else (bif Nat.beq y 26 then 80 else (bif Nat.beq y 28 then 81 else (bif Nat.beq y 29 then 82 else (bif Nat.beq y 30 then 83 else (bif Nat.beq y 31 then 84 else (bif Nat.beq y 32 then 85 else (bif Nat.beq y 33 then 86 else (bif Nat.beq y 34 then 87 else (bif Nat.beq y 35 then 88 else (bif Nat.beq y 36 then 89 else (bif Nat.beq y 44 then 90 else (bif Nat.beq y 46 then 91 else (bif Nat.beq y 47 then 92 else (bif Nat.beq y 53 then 93 else (bif Nat.beq y 54 then 94 else (bif Nat.beq y 56 then 95 else (bif Nat.beq y 57 then 96 else (bif Nat.beq y 58 then 97 else (bif Nat.beq y 59 then 98 else (bif Nat.beq y 62 then 99 else 0))))))))))))))))))))))))))))))))))) else 0)))))))))))))
def cst (a : Nat) (i : Int) : Int := bif Nat.beq a 2 then (if i = 0 then 120 else if i = 1 then 112 else if i = 2 then 115 else if i = 3 then 99 else 0) else (bif Nat.beq a 3 then (if i = 0 then 8 else if i = 1 then 6 else if i = 2 then 10 else if i = 3 then 6 else 0) else (bif Nat.beq a 4 then (if i = 0 then 10 else if i = 1 then 0 else if i = 2 then 0 else if i = 3 then 20 else if i = 4 then 20 else if i = 5 then 8 else if i = 6 then 0 else if i = 7 then 1 else if i = 8 then 5 else if i = 9 then 0 else if i = 10 then 1 else if i = 11 then 0 else 0) else (bif Nat.beq a 5 then (if i = 0 then 118 else if i = 1 then 114 else if i = 2 then 0 else if i = 3 then 109 else if i = 4 then 103 else if i = 5 then 108 else if i = 6 then 97 else if i = 7 then 98 else if i = 8 then 112 else if i = 9 then 97 else if i = 10 then 98 else if i = 11 then 0 else 0) else (bif Nat.beq a 6 then (if i = 0 then 0 else if i = 1 then 0 else if i = 2 then 0 else if i = 3 then 0 else if i = 4 then 0 else if i = 5 then 0 else if i = 6 then 0 else if i = 7 then 0 else if i = 8 then 1 else if i = 9 then 0 else if i = 10 then 0 else if i = 11 then 0 else 0) else (bif Nat.beq a 7 then (if i = 0 then 99 else if i = 1 then 9 else if i = 2 then 0 else if i = 3 then 99 else if i = 4 then 99 else if i = 5 then 8 else if i = 6 then 7 else if i = 7 then 7 else if i = 8 then 9 else if i = 9 then 7 else if i = 10 then 7 else if i = 11 then 0 else 0) else (bif Nat.beq a 8 then (if i = 0 then 2 else if i = 1 then 3 else if i = 2 then 3 else if i = 3 then 2 else 0) else (bif Nat.beq a 9 then (if i = 0 then 118 else if i = 1 then 114 else if i = 2 then 100 else if i = 3 then 103 else if i = 4 then 109 else if i = 5 then 108 else if i = 6 then 104 else 0) else (bif Nat.beq a 10 then (if i = 0 then 1 else if i = 1 then 10 else if i = 2 then 100 else if i = 3 then 1000 else if i = 4 then 10000 else if i = 5 then 100000 else if i = 6 then 1000000 else if i = 7 then 10000000 else 0) else 0))))))))
def mc_Ed_init : List (Nat × List (Nat × Ent)) := []
def mc_Ed_forget : List (Nat × List (Nat × Ent)) := [(10, [(0, .aload_n 0, 1, (0, 0, 0), 0), (1, .iconst 0, 1, (0, 0, 0), 0), (2, .putfield 38, 3, (0, 8, 0), 8), (5, .aload_n 0, 1, (0, 0, 0), 0), (6, .iconst 0, 1, (0, 0, 0), 0), (7, .putfield 42, 3, (0, 9, 0), 9), (10, .return_, 1, (0, 0, 0), 0)])]
def mc_Ed_addFound : List (Nat × List (Nat × Ent)) := [(38, [(0, .aload_n 0, 1, (0, 0, 0), 0), (1, .getfield 38, 3, (0, 8, 0), 8), (4, .bipush 12, 2, (0, 0, 0), 0), (6, .if_icmp .lt 5, 3, (0, 0, 0), 0), (9, .iconst (-1), 1, (0, 0, 0), 0), (10, .ireturn, 1, (0, 0, 1), 0), (11, .aload_n 0, 1, (0, 0, 0), 0), (12, .getfield 11, 3, (0, 0, 1), 0), (15, .aload_n 0, 1, (0, 0, 0), 0), (16, .getfield 38, 3, (0, 8, 0), 8), (19, .iload_n 1, 1, (0, 0, 0), 0), (20, .iastore, 1, (0, 0, 0), 0), (21, .aload_n 0, 1, (0, 0, 0), 0), (22, .getfield 15, 3, (0, 1, 1), 1), (25, .aload_n 0, 1, (0, 0, 0), 0), (26, .getfield 38, 3, (0, 8, 0), 8), (29, .iload_n 2, 1, (0, 0, 0), 0), (30, .iastore, 1, (0, 0, 0), 0), (31, .aload_n 0, 1, (0, 0, 0), 0), (32, .dup, 1, (0, 0, 0), 0), (33, .getfield 38, 3, (0, 8, 0), 8), (36, .iconst 1, 1, (0, 0, 0), 0), (37, .iadd, 1, (0, 0, 0), 0), (38, .putfield 38, 3, (0, 8, 0), 8)]), (45, [(41, .aload_n 0, 1, (0, 0, 0), 0), (42, .getfield 38, 3, (0, 8, 0), 8), (45, .ireturn, 1, (0, 0, 1), 0)])]
def mc_Ed_fits : List (Nat × List (Nat × Ent)) := [(39, [(0, .iconst 0, 1, (0, 0, 0), 0), (1, .istore_n 3, 1, (0, 0, 0), 0), (2, .iload_n 3, 1, (0, 0, 0), 0), (3, .aload_n 0, 1, (0, 0, 0), 0), (4, .getfield 38, 3, (0, 8, 0), 8), (7, .if_icmp .ge 31, 3, (0, 0, 0), 0), (10, .aload_n 1, 1, (0, 0, 0), 0), (11, .aload_n 0, 1, (0, 0, 0), 0), (12, .getfield 11, 3, (0, 0, 1), 0), (15, .iload_n 3, 1, (0, 0, 0), 0), (16, .iaload, 1, (0, 0, 0), 0), (17, .iload_n 2, 1, (0, 0, 0), 0), (18, .invokevirtual 45, 3, (34, 3, 0), 0), (21, .aload_n 0, 1, (0, 0, 0), 0), (22, .getfield 15, 3, (0, 1, 1), 1), (25, .iload_n 3, 1, (0, 0, 0), 0), (26, .iaload, 1, (0, 0, 0), 0), (27, .if_icmp .eq 5, 3, (0, 0, 0), 0), (30, .iconst 0, 1, (0, 0, 0), 0), (31, .ireturn, 1, (0, 0, 3), 0), (32, .iinc 3 1, 3, (0, 0, 0), 0), (35, .goto (-33), 3, (0, 0, 0), 0), (38, .iconst 1, 1, (0, 0, 0), 0), (39, .ireturn, 1, (0, 0, 3), 0)])]
def mc_Ed_addClaim : List (Nat × List (Nat × Ent)) := [(40, [(0, .aload_n 0, 1, (0, 0, 0), 0), (1, .getfield 42, 3, (0, 9, 0), 9), (4, .bipush 12, 2, (0, 0, 0), 0), (6, .if_icmp .lt 5, 3, (0, 0, 0), 0), (9, .iconst (-1), 1, (0, 0, 0), 0), (10, .ireturn, 1, (0, 0, 1), 0), (11, .aload_n 0, 1, (0, 0, 0), 0), (12, .getfield 18, 3, (0, 2, 1), 2), (15, .aload_n 0, 1, (0, 0, 0), 0), (16, .getfield 42, 3, (0, 9, 0), 9), (19, .iload_n 1, 1, (0, 0, 0), 0), (20, .iastore, 1, (0, 0, 0), 0), (21, .aload_n 0, 1, (0, 0, 0), 0), (22, .getfield 21, 3, (0, 3, 1), 3), (25, .aload_n 0, 1, (0, 0, 0), 0), (26, .getfield 42, 3, (0, 9, 0), 9), (29, .iload_n 2, 1, (0, 0, 0), 0), (30, .iastore, 1, (0, 0, 0), 0), (31, .aload_n 0, 1, (0, 0, 0), 0), (32, .getfield 24, 3, (0, 4, 1), 4), (35, .aload_n 0, 1, (0, 0, 0), 0), (36, .getfield 42, 3, (0, 9, 0), 9), (39, .iconst 0, 1, (0, 0, 0), 0), (40, .iload_n 3, 1, (0, 0, 0), 0)]), (75, [(41, .iload 4, 2, (0, 0, 0), 0), (43, .isub, 1, (0, 0, 0), 0), (44, .invokestatic 49, 3, (314, 2, 0), 0), (47, .iastore, 1, (0, 0, 0), 0), (48, .aload_n 0, 1, (0, 0, 0), 0), (49, .getfield 27, 3, (0, 5, 1), 5), (52, .aload_n 0, 1, (0, 0, 0), 0), (53, .getfield 42, 3, (0, 9, 0), 9), (56, .iload_n 3, 1, (0, 0, 0), 0), (57, .iload 4, 2, (0, 0, 0), 0), (59, .iadd, 1, (0, 0, 0), 0), (60, .iastore, 1, (0, 0, 0), 0), (61, .aload_n 0, 1, (0, 0, 0), 0), (62, .dup, 1, (0, 0, 0), 0), (63, .getfield 42, 3, (0, 9, 0), 9), (66, .iconst 1, 1, (0, 0, 0), 0), (67, .iadd, 1, (0, 0, 0), 0), (68, .putfield 42, 3, (0, 9, 0), 9), (71, .aload_n 0, 1, (0, 0, 0), 0), (72, .getfield 42, 3, (0, 9, 0), 9), (75, .ireturn, 1, (0, 0, 1), 0)])]
def mc_Ed_weigh : List (Nat × List (Nat × Ent)) := [(43, [(0, .aload_n 0, 1, (0, 0, 0), 0), (1, .getfield 32, 3, (0, 6, 1), 6), (4, .ldc 54, 2, (0, 0, 0), 1000000), (6, .invokestatic 55, 3, (318, 2, 0), 0), (9, .aload_n 0, 1, (0, 0, 0), 0), (10, .getfield 35, 3, (0, 7, 1), 7), (13, .ldc 54, 2, (0, 0, 0), 1000000), (15, .invokestatic 55, 3, (318, 2, 0), 0), (18, .iconst 0, 1, (0, 0, 0), 0), (19, .istore_n 2, 1, (0, 0, 0), 0), (20, .iload_n 2, 1, (0, 0, 0), 0), (21, .aload_n 0, 1, (0, 0, 0), 0), (22, .getfield 42, 3, (0, 9, 0), 9), (25, .if_icmp .ge 68, 3, (0, 0, 0), 0), (28, .aload_n 0, 1, (0, 0, 0), 0), (29, .getfield 21, 3, (0, 3, 1), 3), (32, .iload_n 2, 1, (0, 0, 0), 0), (33, .iaload, 1, (0, 0, 0), 0), (34, .iload_n 1, 1, (0, 0, 0), 0), (35, .if_icmp .ne 52, 3, (0, 0, 0), 0), (38, .aload_n 0, 1, (0, 0, 0), 0), (39, .getfield 18, 3, (0, 2, 1), 2), (42, .iload_n 2, 1, (0, 0, 0), 0), (43, .iaload, 1, (0, 0, 0), 0)]), (81, [(44, .istore_n 3, 1, (0, 0, 0), 0), (45, .aload_n 0, 1, (0, 0, 0), 0), (46, .getfield 32, 3, (0, 6, 1), 6), (49, .iload_n 3, 1, (0, 0, 0), 0), (50, .aload_n 0, 1, (0, 0, 0), 0), (51, .getfield 32, 3, (0, 6, 1), 6), (54, .iload_n 3, 1, (0, 0, 0), 0), (55, .iaload, 1, (0, 0, 0), 0), (56, .aload_n 0, 1, (0, 0, 0), 0), (57, .getfield 24, 3, (0, 4, 1), 4), (60, .iload_n 2, 1, (0, 0, 0), 0), (61, .iaload, 1, (0, 0, 0), 0), (62, .invokestatic 61, 3, (316, 2, 0), 0), (65, .iastore, 1, (0, 0, 0), 0), (66, .aload_n 0, 1, (0, 0, 0), 0), (67, .getfield 35, 3, (0, 7, 1), 7), (70, .iload_n 3, 1, (0, 0, 0), 0), (71, .aload_n 0, 1, (0, 0, 0), 0), (72, .getfield 35, 3, (0, 7, 1), 7), (75, .iload_n 3, 1, (0, 0, 0), 0), (76, .iaload, 1, (0, 0, 0), 0), (77, .aload_n 0, 1, (0, 0, 0), 0), (78, .getfield 27, 3, (0, 5, 1), 5), (81, .iload_n 2, 1, (0, 0, 0), 0)]), (93, [(82, .iaload, 1, (0, 0, 0), 0), (83, .invokestatic 61, 3, (316, 2, 0), 0), (86, .iastore, 1, (0, 0, 0), 0), (87, .iinc 2 1, 3, (0, 0, 0), 0), (90, .goto (-70), 3, (0, 0, 0), 0), (93, .return_, 1, (0, 0, 0), 0)])]
def mc_Ed_couldBeFirst : List (Nat × List (Nat × Ent)) := [(37, [(0, .aload_n 0, 1, (0, 0, 0), 0), (1, .getfield 32, 3, (0, 6, 1), 6), (4, .iload_n 1, 1, (0, 0, 0), 0), (5, .iaload, 1, (0, 0, 0), 0), (6, .ldc 54, 2, (0, 0, 0), 1000000), (8, .if_icmp .ne 5, 3, (0, 0, 0), 0), (11, .iconst 0, 1, (0, 0, 0), 0), (12, .ireturn, 1, (0, 0, 3), 0), (13, .iconst 0, 1, (0, 0, 0), 0), (14, .istore_n 2, 1, (0, 0, 0), 0), (15, .iload_n 2, 1, (0, 0, 0), 0), (16, .bipush 6, 2, (0, 0, 0), 0), (18, .if_icmp .ge 31, 3, (0, 0, 0), 0), (21, .iload_n 2, 1, (0, 0, 0), 0), (22, .iload_n 1, 1, (0, 0, 0), 0), (23, .if_icmp .eq 20, 3, (0, 0, 0), 0), (26, .aload_n 0, 1, (0, 0, 0), 0), (27, .getfield 35, 3, (0, 7, 1), 7), (30, .iload_n 2, 1, (0, 0, 0), 0), (31, .iaload, 1, (0, 0, 0), 0), (32, .aload_n 0, 1, (0, 0, 0), 0), (33, .getfield 32, 3, (0, 6, 1), 6), (36, .iload_n 1, 1, (0, 0, 0), 0), (37, .iaload, 1, (0, 0, 0), 0)]), (50, [(38, .if_icmp .ge 5, 3, (0, 0, 0), 0), (41, .iconst 0, 1, (0, 0, 0), 0), (42, .ireturn, 1, (0, 0, 3), 0), (43, .iinc 2 1, 3, (0, 0, 0), 0), (46, .goto (-31), 3, (0, 0, 0), 0), (49, .iconst 1, 1, (0, 0, 0), 0), (50, .ireturn, 1, (0, 0, 3), 0)])]
def mc_Ed_surelyAhead : List (Nat × List (Nat × Ent)) := [(37, [(0, .aload_n 0, 1, (0, 0, 0), 0), (1, .getfield 35, 3, (0, 7, 1), 7), (4, .iload_n 1, 1, (0, 0, 0), 0), (5, .iaload, 1, (0, 0, 0), 0), (6, .ldc 54, 2, (0, 0, 0), 1000000), (8, .if_icmp .ne 5, 3, (0, 0, 0), 0), (11, .iconst 0, 1, (0, 0, 0), 0), (12, .ireturn, 1, (0, 0, 3), 0), (13, .iconst 0, 1, (0, 0, 0), 0), (14, .istore_n 2, 1, (0, 0, 0), 0), (15, .iload_n 2, 1, (0, 0, 0), 0), (16, .bipush 6, 2, (0, 0, 0), 0), (18, .if_icmp .ge 31, 3, (0, 0, 0), 0), (21, .iload_n 2, 1, (0, 0, 0), 0), (22, .iload_n 1, 1, (0, 0, 0), 0), (23, .if_icmp .eq 20, 3, (0, 0, 0), 0), (26, .aload_n 0, 1, (0, 0, 0), 0), (27, .getfield 32, 3, (0, 6, 1), 6), (30, .iload_n 2, 1, (0, 0, 0), 0), (31, .iaload, 1, (0, 0, 0), 0), (32, .aload_n 0, 1, (0, 0, 0), 0), (33, .getfield 35, 3, (0, 7, 1), 7), (36, .iload_n 1, 1, (0, 0, 0), 0), (37, .iaload, 1, (0, 0, 0), 0)]), (50, [(38, .if_icmp .gt 5, 3, (0, 0, 0), 0), (41, .iconst 0, 1, (0, 0, 0), 0), (42, .ireturn, 1, (0, 0, 3), 0), (43, .iinc 2 1, 3, (0, 0, 0), 0), (46, .goto (-31), 3, (0, 0, 0), 0), (49, .iconst 1, 1, (0, 0, 0), 0), (50, .ireturn, 1, (0, 0, 3), 0)])]
def mc_Ey_init : List (Nat × List (Nat × Ent)) := []
def mc_Ey_look : List (Nat × List (Nat × Ent)) := [(36, [(0, .aload_n 0, 1, (0, 0, 0), 0), (1, .getfield 11, 3, (1, 2, 1), 2), (4, .iconst 2, 1, (0, 0, 0), 0), (5, .aload_n 1, 1, (0, 0, 0), 0), (6, .invokevirtual 30, 3, (68, 1, 0), 0), (9, .iload_n 3, 1, (0, 0, 0), 0), (10, .iadd, 1, (0, 0, 0), 0), (11, .iastore, 1, (0, 0, 0), 0), (12, .aload_n 0, 1, (0, 0, 0), 0), (13, .getfield 11, 3, (1, 2, 1), 2), (16, .iconst 3, 1, (0, 0, 0), 0), (17, .bipush 99, 2, (0, 0, 0), 0), (19, .aload_n 1, 1, (0, 0, 0), 0), (20, .iload_n 2, 1, (0, 0, 0), 0), (21, .invokevirtual 36, 3, (70, 2, 0), 0), (24, .iload_n 3, 1, (0, 0, 0), 0), (25, .iadd, 1, (0, 0, 0), 0), (26, .invokestatic 40, 3, (316, 2, 0), 0), (29, .iastore, 1, (0, 0, 0), 0), (30, .aload_n 0, 1, (0, 0, 0), 0), (31, .getfield 11, 3, (1, 2, 1), 2), (34, .iconst 4, 1, (0, 0, 0), 0), (35, .aload_n 1, 1, (0, 0, 0), 0), (36, .iload_n 2, 1, (0, 0, 0), 0)]), (85, [(37, .invokevirtual 46, 3, (69, 2, 0), 0), (40, .iastore, 1, (0, 0, 0), 0), (41, .aload_n 1, 1, (0, 0, 0), 0), (42, .iload_n 2, 1, (0, 0, 0), 0), (43, .invokevirtual 49, 3, (72, 2, 0), 0), (46, .invokestatic 52, 3, (313, 1, 0), 0), (49, .istore 5, 2, (0, 0, 0), 0), (51, .aload_n 0, 1, (0, 0, 0), 0), (52, .getfield 22, 3, (1, 0, 1), 0), (55, .invokevirtual 57, 3, (26, 1, 0), 0), (58, .iload 5, 2, (0, 0, 0), 0), (60, .iload 4, 2, (0, 0, 0), 0), (62, .iadd, 1, (0, 0, 0), 0), (63, .invokestatic 40, 3, (316, 2, 0), 0), (66, .istore 6, 2, (0, 0, 0), 0), (68, .iload 5, 2, (0, 0, 0), 0), (70, .istore 7, 2, (0, 0, 0), 0), (72, .iload 7, 2, (0, 0, 0), 0), (74, .iload 6, 2, (0, 0, 0), 0), (76, .if_icmp .gt 59, 3, (0, 0, 0), 0), (79, .aload_n 0, 1, (0, 0, 0), 0), (80, .getfield 11, 3, (1, 2, 1), 2), (83, .bipush 6, 2, (0, 0, 0), 0), (85, .iload 7, 2, (0, 0, 0), 0)]), (132, [(87, .iastore, 1, (0, 0, 0), 0), (88, .iconst 0, 1, (0, 0, 0), 0), (89, .istore 8, 2, (0, 0, 0), 0), (91, .iload 8, 2, (0, 0, 0), 0), (93, .aload_n 0, 1, (0, 0, 0), 0), (94, .getfield 22, 3, (1, 0, 1), 0), (97, .invokevirtual 57, 3, (26, 1, 0), 0), (100, .if_icmp .ge 29, 3, (0, 0, 0), 0), (103, .aload_n 0, 1, (0, 0, 0), 0), (104, .getfield 19, 3, (1, 3, 1), 3), (107, .iload 7, 2, (0, 0, 0), 0), (109, .bipush 8, 2, (0, 0, 0), 0), (111, .imul, 1, (0, 0, 0), 0), (112, .iload 8, 2, (0, 0, 0), 0), (114, .iadd, 1, (0, 0, 0), 0), (115, .aload_n 0, 1, (0, 0, 0), 0), (116, .iload_n 2, 1, (0, 0, 0), 0), (117, .iload 8, 2, (0, 0, 0), 0), (119, .invokevirtual 60, 3, (10, 3, 0), 0), (122, .iastore, 1, (0, 0, 0), 0), (123, .iinc 8 1, 3, (0, 0, 0), 0), (126, .goto (-35), 3, (0, 0, 0), 0), (129, .iinc 7 1, 3, (0, 0, 0), 0), (132, .goto (-60), 3, (0, 0, 0), 0)]), (135, [(135, .return_, 1, (0, 0, 0), 0)])]
def mc_Ey_weigh : List (Nat × List (Nat × Ent)) := [(37, [(0, .aload_n 0, 1, (0, 0, 0), 0), (1, .getfield 11, 3, (1, 2, 1), 2), (4, .iconst 0, 1, (0, 0, 0), 0), (5, .aload_n 0, 1, (0, 0, 0), 0), (6, .getfield 22, 3, (1, 0, 1), 0), (9, .iconst 0, 1, (0, 0, 0), 0), (10, .iload_n 2, 1, (0, 0, 0), 0), (11, .iconst 0, 1, (0, 0, 0), 0), (12, .invokevirtual 63, 3, (24, 4, 0), 0), (15, .iastore, 1, (0, 0, 0), 0), (16, .aload_n 0, 1, (0, 0, 0), 0), (17, .getfield 11, 3, (1, 2, 1), 2), (20, .iconst 1, 1, (0, 0, 0), 0), (21, .aload_n 0, 1, (0, 0, 0), 0), (22, .getfield 22, 3, (1, 0, 1), 0), (25, .iconst 0, 1, (0, 0, 0), 0), (26, .iload_n 2, 1, (0, 0, 0), 0), (27, .iconst 1, 1, (0, 0, 0), 0), (28, .invokevirtual 63, 3, (24, 4, 0), 0), (31, .iastore, 1, (0, 0, 0), 0), (32, .aload_n 0, 1, (0, 0, 0), 0), (33, .getfield 11, 3, (1, 2, 1), 2), (36, .iconst 5, 1, (0, 0, 0), 0), (37, .aload_n 0, 1, (0, 0, 0), 0)]), (75, [(38, .getfield 22, 3, (1, 0, 1), 0), (41, .iconst 1, 1, (0, 0, 0), 0), (42, .iload_n 1, 1, (0, 0, 0), 0), (43, .iconst 2, 1, (0, 0, 0), 0), (44, .invokevirtual 63, 3, (24, 4, 0), 0), (47, .iload_n 2, 1, (0, 0, 0), 0), (48, .if_icmp .ne 7, 3, (0, 0, 0), 0), (51, .iconst 1, 1, (0, 0, 0), 0), (52, .goto 4, 3, (0, 0, 0), 0), (55, .iconst 0, 1, (0, 0, 0), 0), (56, .iastore, 1, (0, 0, 0), 0), (57, .aload_n 0, 1, (0, 0, 0), 0), (58, .getfield 11, 3, (1, 2, 1), 2), (61, .iconst 0, 1, (0, 0, 0), 0), (62, .iaload, 1, (0, 0, 0), 0), (63, .aload_n 0, 1, (0, 0, 0), 0), (64, .getfield 11, 3, (1, 2, 1), 2), (67, .iconst 1, 1, (0, 0, 0), 0), (68, .iaload, 1, (0, 0, 0), 0), (69, .aload_n 0, 1, (0, 0, 0), 0), (70, .getfield 11, 3, (1, 2, 1), 2), (73, .iconst 2, 1, (0, 0, 0), 0), (74, .iaload, 1, (0, 0, 0), 0), (75, .imul, 1, (0, 0, 0), 0)]), (115, [(76, .iadd, 1, (0, 0, 0), 0), (77, .iconst 1, 1, (0, 0, 0), 0), (78, .aload_n 0, 1, (0, 0, 0), 0), (79, .getfield 11, 3, (1, 2, 1), 2), (82, .iconst 5, 1, (0, 0, 0), 0), (83, .iaload, 1, (0, 0, 0), 0), (84, .iadd, 1, (0, 0, 0), 0), (85, .imul, 1, (0, 0, 0), 0), (86, .istore_n 3, 1, (0, 0, 0), 0), (87, .aload_n 0, 1, (0, 0, 0), 0), (88, .getfield 26, 3, (1, 1, 1), 1), (91, .getfield 67, 3, (9, 5, 0), 5), (94, .iconst (-1), 1, (0, 0, 0), 0), (95, .if_icmp .eq 15, 3, (0, 0, 0), 0), (98, .aload_n 0, 1, (0, 0, 0), 0), (99, .getfield 26, 3, (1, 1, 1), 1), (102, .aload_n 0, 1, (0, 0, 0), 0), (103, .getfield 11, 3, (1, 2, 1), 2), (106, .invokevirtual 71, 3, (121, 2, 0), 0), (109, .istore_n 3, 1, (0, 0, 0), 0), (110, .iconst 0, 1, (0, 0, 0), 0), (111, .sipush 999, 3, (0, 0, 0), 0), (114, .iload_n 3, 1, (0, 0, 0), 0), (115, .invokestatic 40, 3, (316, 2, 0), 0)]), (121, [(118, .invokestatic 75, 3, (314, 2, 0), 0), (121, .ireturn, 1, (0, 0, 1), 0)])]
def mc_Ey_whole : List (Nat × List (Nat × Ent)) := [(14, [(0, .aload_n 0, 1, (0, 0, 0), 0), (1, .getfield 19, 3, (1, 3, 1), 3), (4, .iload_n 2, 1, (0, 0, 0), 0), (5, .invokestatic 52, 3, (313, 1, 0), 0), (8, .bipush 8, 2, (0, 0, 0), 0), (10, .imul, 1, (0, 0, 0), 0), (11, .iload_n 1, 1, (0, 0, 0), 0), (12, .iadd, 1, (0, 0, 0), 0), (13, .iaload, 1, (0, 0, 0), 0), (14, .ireturn, 1, (0, 0, 1), 0)])]
def mc_Ey_delight : List (Nat × List (Nat × Ent)) := [(32, [(0, .bipush 10, 2, (0, 0, 0), 0), (2, .aload_n 0, 1, (0, 0, 0), 0), (3, .getfield 22, 3, (1, 0, 1), 0), (6, .iload_n 1, 1, (0, 0, 0), 0), (7, .iload_n 2, 1, (0, 0, 0), 0), (8, .invokevirtual 78, 3, (34, 3, 0), 0), (11, .isub, 1, (0, 0, 0), 0), (12, .istore_n 3, 1, (0, 0, 0), 0), (13, .aload_n 0, 1, (0, 0, 0), 0), (14, .getfield 19, 3, (1, 3, 1), 3), (17, .iload_n 2, 1, (0, 0, 0), 0), (18, .invokestatic 52, 3, (313, 1, 0), 0), (21, .bipush 8, 2, (0, 0, 0), 0), (23, .imul, 1, (0, 0, 0), 0), (24, .iload_n 1, 1, (0, 0, 0), 0), (25, .iadd, 1, (0, 0, 0), 0), (26, .iaload, 1, (0, 0, 0), 0), (27, .iload_n 3, 1, (0, 0, 0), 0), (28, .imul, 1, (0, 0, 0), 0), (29, .bipush 10, 2, (0, 0, 0), 0), (31, .idiv, 1, (0, 0, 0), 0), (32, .ireturn, 1, (0, 0, 1), 0)])]
def mc_Ha_init : List (Nat × List (Nat × Ent)) := []
def mc_Ha_begin : List (Nat × List (Nat × Ent)) := [(20, [(0, .aload_n 0, 1, (0, 0, 0), 0), (1, .iconst 0, 1, (0, 0, 0), 0), (2, .putfield 26, 3, (2, 4, 0), 4), (5, .aload_n 0, 1, (0, 0, 0), 0), (6, .iconst 0, 1, (0, 0, 0), 0), (7, .putfield 30, 3, (2, 5, 0), 5), (10, .aload_n 0, 1, (0, 0, 0), 0), (11, .iload_n 1, 1, (0, 0, 0), 0), (12, .putfield 33, 3, (2, 6, 0), 6), (15, .aload_n 0, 1, (0, 0, 0), 0), (16, .iload_n 2, 1, (0, 0, 0), 0), (17, .putfield 36, 3, (2, 7, 0), 7), (20, .return_, 1, (0, 0, 0), 0)])]
def mc_Ha_take : List (Nat × List (Nat × Ent)) := [(23, [(0, .aload_n 0, 1, (0, 0, 0), 0), (1, .iload_n 1, 1, (0, 0, 0), 0), (2, .aload_n 0, 1, (0, 0, 0), 0), (3, .getfield 22, 3, (2, 1, 1), 1), (6, .iload_n 1, 1, (0, 0, 0), 0), (7, .aload_n 0, 1, (0, 0, 0), 0), (8, .getfield 33, 3, (2, 6, 0), 6), (11, .invokevirtual 39, 3, (12, 3, 0), 0), (14, .invokevirtual 45, 3, (16, 3, 0), 0), (17, .aload_n 0, 1, (0, 0, 0), 0), (18, .iload_n 1, 1, (0, 0, 0), 0), (19, .iconst 0, 1, (0, 0, 0), 0), (20, .invokevirtual 49, 3, (17, 3, 0), 0), (23, .return_, 1, (0, 0, 0), 0)])]
def mc_Ha_add : List (Nat × List (Nat × Ent)) := [(40, [(0, .aload_n 0, 1, (0, 0, 0), 0), (1, .getfield 26, 3, (2, 4, 0), 4), (4, .bipush 8, 2, (0, 0, 0), 0), (6, .if_icmp .ge 55, 3, (0, 0, 0), 0), (9, .aload_n 0, 1, (0, 0, 0), 0), (10, .getfield 9, 3, (2, 2, 1), 2), (13, .aload_n 0, 1, (0, 0, 0), 0), (14, .getfield 26, 3, (2, 4, 0), 4), (17, .iload_n 1, 1, (0, 0, 0), 0), (18, .iastore, 1, (0, 0, 0), 0), (19, .aload_n 0, 1, (0, 0, 0), 0), (20, .getfield 15, 3, (2, 3, 1), 3), (23, .aload_n 0, 1, (0, 0, 0), 0), (24, .getfield 26, 3, (2, 4, 0), 4), (27, .iload_n 2, 1, (0, 0, 0), 0), (28, .iastore, 1, (0, 0, 0), 0), (29, .aload_n 0, 1, (0, 0, 0), 0), (30, .dup, 1, (0, 0, 0), 0), (31, .getfield 26, 3, (2, 4, 0), 4), (34, .iconst 1, 1, (0, 0, 0), 0), (35, .iadd, 1, (0, 0, 0), 0), (36, .putfield 26, 3, (2, 4, 0), 4), (39, .aload_n 0, 1, (0, 0, 0), 0), (40, .dup, 1, (0, 0, 0), 0)]), (61, [(41, .getfield 30, 3, (2, 5, 0), 5), (44, .iload_n 2, 1, (0, 0, 0), 0), (45, .iadd, 1, (0, 0, 0), 0), (46, .putfield 30, 3, (2, 5, 0), 5), (49, .aload_n 0, 1, (0, 0, 0), 0), (50, .dup, 1, (0, 0, 0), 0), (51, .getfield 33, 3, (2, 6, 0), 6), (54, .iconst 1, 1, (0, 0, 0), 0), (55, .iload_n 1, 1, (0, 0, 0), 0), (56, .ishl, 1, (0, 0, 0), 0), (57, .ior, 1, (0, 0, 0), 0), (58, .putfield 33, 3, (2, 6, 0), 6), (61, .return_, 1, (0, 0, 0), 0)])]
def mc_Ha_bringAlong : List (Nat × List (Nat × Ent)) := [(39, [(0, .iload_n 2, 1, (0, 0, 0), 0), (1, .bipush 8, 2, (0, 0, 0), 0), (3, .if_icmp .lt 4, 3, (0, 0, 0), 0), (6, .return_, 1, (0, 0, 0), 0), (7, .iconst 0, 1, (0, 0, 0), 0), (8, .istore_n 3, 1, (0, 0, 0), 0), (9, .iload_n 3, 1, (0, 0, 0), 0), (10, .aload_n 0, 1, (0, 0, 0), 0), (11, .getfield 18, 3, (2, 0, 1), 0), (14, .getfield 52, 3, (3, 0, 1), 0), (17, .iconst 3, 1, (0, 0, 0), 0), (18, .iaload, 1, (0, 0, 0), 0), (19, .if_icmp .ge 85, 3, (0, 0, 0), 0), (22, .aload_n 0, 1, (0, 0, 0), 0), (23, .getfield 18, 3, (2, 0, 1), 0), (26, .iconst 3, 1, (0, 0, 0), 0), (27, .iload_n 3, 1, (0, 0, 0), 0), (28, .iconst 1, 1, (0, 0, 0), 0), (29, .invokevirtual 55, 3, (24, 4, 0), 0), (32, .istore 4, 2, (0, 0, 0), 0), (34, .aload_n 0, 1, (0, 0, 0), 0), (35, .getfield 18, 3, (2, 0, 1), 0), (38, .iconst 3, 1, (0, 0, 0), 0), (39, .iload_n 3, 1, (0, 0, 0), 0)]), (78, [(40, .iconst 0, 1, (0, 0, 0), 0), (41, .invokevirtual 55, 3, (24, 4, 0), 0), (44, .iload_n 1, 1, (0, 0, 0), 0), (45, .if_icmp .ne 53, 3, (0, 0, 0), 0), (48, .aload_n 0, 1, (0, 0, 0), 0), (49, .getfield 36, 3, (2, 7, 0), 7), (52, .aload_n 0, 1, (0, 0, 0), 0), (53, .getfield 33, 3, (2, 6, 0), 6), (56, .iconst (-1), 1, (0, 0, 0), 0), (57, .ixor, 1, (0, 0, 0), 0), (58, .iand, 1, (0, 0, 0), 0), (59, .iload 4, 2, (0, 0, 0), 0), (61, .ishr, 1, (0, 0, 0), 0), (62, .iconst 1, 1, (0, 0, 0), 0), (63, .iand, 1, (0, 0, 0), 0), (64, .iconst 1, 1, (0, 0, 0), 0), (65, .if_icmp .ne 33, 3, (0, 0, 0), 0), (68, .aload_n 0, 1, (0, 0, 0), 0), (69, .iload 4, 2, (0, 0, 0), 0), (71, .aload_n 0, 1, (0, 0, 0), 0), (72, .getfield 22, 3, (2, 1, 1), 1), (75, .iload 4, 2, (0, 0, 0), 0), (77, .aload_n 0, 1, (0, 0, 0), 0), (78, .getfield 33, 3, (2, 6, 0), 6)]), (104, [(81, .invokevirtual 39, 3, (12, 3, 0), 0), (84, .iconst 2, 1, (0, 0, 0), 0), (85, .idiv, 1, (0, 0, 0), 0), (86, .invokevirtual 45, 3, (16, 3, 0), 0), (89, .aload_n 0, 1, (0, 0, 0), 0), (90, .iload 4, 2, (0, 0, 0), 0), (92, .iload_n 2, 1, (0, 0, 0), 0), (93, .iconst 1, 1, (0, 0, 0), 0), (94, .iadd, 1, (0, 0, 0), 0), (95, .invokevirtual 49, 3, (17, 3, 0), 0), (98, .iinc 3 1, 3, (0, 0, 0), 0), (101, .goto (-92), 3, (0, 0, 0), 0), (104, .return_, 1, (0, 0, 0), 0)])]
def mc_Mk_init : List (Nat × List (Nat × Ent)) := []
def mc_Mk_clear : List (Nat × List (Nat × Ent)) := [(8, [(0, .aload_n 0, 1, (0, 0, 0), 0), (1, .getfield 11, 3, (3, 0, 1), 0), (4, .iconst 0, 1, (0, 0, 0), 0), (5, .invokestatic 18, 3, (318, 2, 0), 0), (8, .return_, 1, (0, 0, 0), 0)])]
def mc_Mk_takeOver : List (Nat × List (Nat × Ent)) := [(36, [(0, .aload_n 1, 1, (0, 0, 0), 0), (1, .getfield 11, 3, (3, 0, 1), 0), (4, .iconst 0, 1, (0, 0, 0), 0), (5, .aload_n 0, 1, (0, 0, 0), 0), (6, .getfield 11, 3, (3, 0, 1), 0), (9, .iconst 0, 1, (0, 0, 0), 0), (10, .aload_n 0, 1, (0, 0, 0), 0), (11, .getfield 11, 3, (3, 0, 1), 0), (14, .arraylength, 1, (0, 0, 0), 0), (15, .invokestatic 24, 3, (0, 0, 2), 0), (18, .aload_n 1, 1, (0, 0, 0), 0), (19, .getfield 15, 3, (3, 1, 1), 1), (22, .iconst 0, 1, (0, 0, 0), 0), (23, .aload_n 0, 1, (0, 0, 0), 0), (24, .getfield 15, 3, (3, 1, 1), 1), (27, .iconst 0, 1, (0, 0, 0), 0), (28, .aload_n 0, 1, (0, 0, 0), 0), (29, .getfield 15, 3, (3, 1, 1), 1), (32, .arraylength, 1, (0, 0, 0), 0), (33, .invokestatic 24, 3, (0, 0, 2), 0), (36, .return_, 1, (0, 0, 0), 0)])]
def mc_Mk_isFull : List (Nat × List (Nat × Ent)) := [(19, [(0, .aload_n 0, 1, (0, 0, 0), 0), (1, .getfield 11, 3, (3, 0, 1), 0), (4, .iload_n 1, 1, (0, 0, 0), 0), (5, .iaload, 1, (0, 0, 0), 0), (6, .getstatic 30, 3, (3, 0, 0), 0), (9, .iload_n 1, 1, (0, 0, 0), 0), (10, .iaload, 1, (0, 0, 0), 0), (11, .if_icmp .lt 7, 3, (0, 0, 0), 0), (14, .iconst 1, 1, (0, 0, 0), 0), (15, .goto 4, 3, (0, 0, 0), 0), (18, .iconst 0, 1, (0, 0, 0), 0), (19, .ireturn, 1, (0, 0, 3), 0)])]
def mc_Mk_add : List (Nat × List (Nat × Ent)) := [(34, [(0, .getstatic 33, 3, (4, 0, 0), 0), (3, .iload_n 1, 1, (0, 0, 0), 0), (4, .iconst 3, 1, (0, 0, 0), 0), (5, .imul, 1, (0, 0, 0), 0), (6, .aload_n 0, 1, (0, 0, 0), 0), (7, .getfield 15, 3, (3, 1, 1), 1), (10, .iload_n 1, 1, (0, 0, 0), 0), (11, .bipush 30, 2, (0, 0, 0), 0), (13, .imul, 1, (0, 0, 0), 0), (14, .aload_n 0, 1, (0, 0, 0), 0), (15, .getfield 11, 3, (3, 0, 1), 0), (18, .iload_n 1, 1, (0, 0, 0), 0), (19, .iaload, 1, (0, 0, 0), 0), (20, .iconst 3, 1, (0, 0, 0), 0), (21, .imul, 1, (0, 0, 0), 0), (22, .iadd, 1, (0, 0, 0), 0), (23, .iconst 3, 1, (0, 0, 0), 0), (24, .invokestatic 24, 3, (0, 0, 2), 0), (27, .aload_n 0, 1, (0, 0, 0), 0), (28, .getfield 11, 3, (3, 0, 1), 0), (31, .iload_n 1, 1, (0, 0, 0), 0), (32, .dup2, 1, (0, 0, 0), 0), (33, .iaload, 1, (0, 0, 0), 0), (34, .iconst 1, 1, (0, 0, 0), 0)]), (37, [(35, .iadd, 1, (0, 0, 0), 0), (36, .iastore, 1, (0, 0, 0), 0), (37, .return_, 1, (0, 0, 0), 0)])]
def mc_Mk_tellNewest : List (Nat × List (Nat × Ent)) := [(32, [(0, .aload_n 0, 1, (0, 0, 0), 0), (1, .getfield 11, 3, (3, 0, 1), 0), (4, .iload_n 1, 1, (0, 0, 0), 0), (5, .iaload, 1, (0, 0, 0), 0), (6, .ifCond .le 26, 3, (0, 0, 0), 0), (9, .aload_n 0, 1, (0, 0, 0), 0), (10, .getfield 15, 3, (3, 1, 1), 1), (13, .iload_n 1, 1, (0, 0, 0), 0), (14, .bipush 30, 2, (0, 0, 0), 0), (16, .imul, 1, (0, 0, 0), 0), (17, .aload_n 0, 1, (0, 0, 0), 0), (18, .getfield 11, 3, (3, 0, 1), 0), (21, .iload_n 1, 1, (0, 0, 0), 0), (22, .iaload, 1, (0, 0, 0), 0), (23, .iconst 1, 1, (0, 0, 0), 0), (24, .isub, 1, (0, 0, 0), 0), (25, .iconst 3, 1, (0, 0, 0), 0), (26, .imul, 1, (0, 0, 0), 0), (27, .iadd, 1, (0, 0, 0), 0), (28, .iload_n 2, 1, (0, 0, 0), 0), (29, .iadd, 1, (0, 0, 0), 0), (30, .iload_n 3, 1, (0, 0, 0), 0), (31, .iastore, 1, (0, 0, 0), 0), (32, .return_, 1, (0, 0, 0), 0)])]
def mc_Mk_told : List (Nat × List (Nat × Ent)) := [(38, [(0, .iload_n 2, 1, (0, 0, 0), 0), (1, .ifCond .lt 26, 3, (0, 0, 0), 0), (4, .iload_n 2, 1, (0, 0, 0), 0), (5, .aload_n 0, 1, (0, 0, 0), 0), (6, .getfield 11, 3, (3, 0, 1), 0), (9, .iload_n 1, 1, (0, 0, 0), 0), (10, .iaload, 1, (0, 0, 0), 0), (11, .if_icmp .ge 16, 3, (0, 0, 0), 0), (14, .iload_n 3, 1, (0, 0, 0), 0), (15, .ifCond .lt 12, 3, (0, 0, 0), 0), (18, .iload_n 3, 1, (0, 0, 0), 0), (19, .getstatic 36, 3, (8, 0, 0), 0), (22, .iload_n 1, 1, (0, 0, 0), 0), (23, .iaload, 1, (0, 0, 0), 0), (24, .if_icmp .lt 5, 3, (0, 0, 0), 0), (27, .iconst (-1), 1, (0, 0, 0), 0), (28, .ireturn, 1, (0, 0, 1), 0), (29, .aload_n 0, 1, (0, 0, 0), 0), (30, .getfield 15, 3, (3, 1, 1), 1), (33, .iload_n 1, 1, (0, 0, 0), 0), (34, .bipush 30, 2, (0, 0, 0), 0), (36, .imul, 1, (0, 0, 0), 0), (37, .iload_n 2, 1, (0, 0, 0), 0), (38, .iconst 3, 1, (0, 0, 0), 0)]), (44, [(39, .imul, 1, (0, 0, 0), 0), (40, .iadd, 1, (0, 0, 0), 0), (41, .iload_n 3, 1, (0, 0, 0), 0), (42, .iadd, 1, (0, 0, 0), 0), (43, .iaload, 1, (0, 0, 0), 0), (44, .ireturn, 1, (0, 0, 1), 0)])]
def mc_Mk_stands : List (Nat × List (Nat × Ent)) := [(14, [(0, .aload_n 0, 1, (0, 0, 0), 0), (1, .getfield 11, 3, (3, 0, 1), 0), (4, .iconst 0, 1, (0, 0, 0), 0), (5, .iaload, 1, (0, 0, 0), 0), (6, .ifCond .le 7, 3, (0, 0, 0), 0), (9, .iconst 1, 1, (0, 0, 0), 0), (10, .goto 4, 3, (0, 0, 0), 0), (13, .iconst 0, 1, (0, 0, 0), 0), (14, .ireturn, 1, (0, 0, 3), 0)])]
def mc_Mk_things : List (Nat × List (Nat × Ent)) := [(6, [(0, .aload_n 0, 1, (0, 0, 0), 0), (1, .getfield 11, 3, (3, 0, 1), 0), (4, .iconst 0, 1, (0, 0, 0), 0), (5, .iaload, 1, (0, 0, 0), 0), (6, .ireturn, 1, (0, 0, 1), 0)])]
def mc_Mk_persons : List (Nat × List (Nat × Ent)) := [(6, [(0, .aload_n 0, 1, (0, 0, 0), 0), (1, .getfield 11, 3, (3, 0, 1), 0), (4, .iconst 1, 1, (0, 0, 0), 0), (5, .iaload, 1, (0, 0, 0), 0), (6, .ireturn, 1, (0, 0, 1), 0)])]
def mc_Mk_allThings : List (Nat × List (Nat × Ent)) := [(10, [(0, .iconst 1, 1, (0, 0, 0), 0), (1, .aload_n 0, 1, (0, 0, 0), 0), (2, .getfield 11, 3, (3, 0, 1), 0), (5, .iconst 0, 1, (0, 0, 0), 0), (6, .iaload, 1, (0, 0, 0), 0), (7, .ishl, 1, (0, 0, 0), 0), (8, .iconst 1, 1, (0, 0, 0), 0), (9, .isub, 1, (0, 0, 0), 0), (10, .ireturn, 1, (0, 0, 1), 0)])]
def mc_Mk_hasThing : List (Nat × List (Nat × Ent)) := [(19, [(0, .iload_n 1, 1, (0, 0, 0), 0), (1, .ifCond .lt 17, 3, (0, 0, 0), 0), (4, .iload_n 1, 1, (0, 0, 0), 0), (5, .aload_n 0, 1, (0, 0, 0), 0), (6, .getfield 11, 3, (3, 0, 1), 0), (9, .iconst 0, 1, (0, 0, 0), 0), (10, .iaload, 1, (0, 0, 0), 0), (11, .if_icmp .ge 7, 3, (0, 0, 0), 0), (14, .iconst 1, 1, (0, 0, 0), 0), (15, .goto 4, 3, (0, 0, 0), 0), (18, .iconst 0, 1, (0, 0, 0), 0), (19, .ireturn, 1, (0, 0, 3), 0)])]
def mc_Mk_hasPerson : List (Nat × List (Nat × Ent)) := [(19, [(0, .iload_n 1, 1, (0, 0, 0), 0), (1, .ifCond .lt 17, 3, (0, 0, 0), 0), (4, .iload_n 1, 1, (0, 0, 0), 0), (5, .aload_n 0, 1, (0, 0, 0), 0), (6, .getfield 11, 3, (3, 0, 1), 0), (9, .iconst 1, 1, (0, 0, 0), 0), (10, .iaload, 1, (0, 0, 0), 0), (11, .if_icmp .ge 7, 3, (0, 0, 0), 0), (14, .iconst 1, 1, (0, 0, 0), 0), (15, .goto 4, 3, (0, 0, 0), 0), (18, .iconst 0, 1, (0, 0, 0), 0), (19, .ireturn, 1, (0, 0, 3), 0)])]
def mc_Mk_hasBoth : List (Nat × List (Nat × Ent)) := [(21, [(0, .aload_n 0, 1, (0, 0, 0), 0), (1, .iload_n 1, 1, (0, 0, 0), 0), (2, .invokevirtual 39, 3, (30, 2, 0), 0), (5, .ifCond .eq 15, 3, (0, 0, 0), 0), (8, .aload_n 0, 1, (0, 0, 0), 0), (9, .iload_n 2, 1, (0, 0, 0), 0), (10, .invokevirtual 43, 3, (29, 2, 0), 0), (13, .ifCond .eq 7, 3, (0, 0, 0), 0), (16, .iconst 1, 1, (0, 0, 0), 0), (17, .goto 4, 3, (0, 0, 0), 0), (20, .iconst 0, 1, (0, 0, 0), 0), (21, .ireturn, 1, (0, 0, 3), 0)])]
def mc_Mk_isWhole : List (Nat × List (Nat × Ent)) := [(35, [(0, .aload_n 0, 1, (0, 0, 0), 0), (1, .getfield 11, 3, (3, 0, 1), 0), (4, .iconst 0, 1, (0, 0, 0), 0), (5, .iaload, 1, (0, 0, 0), 0), (6, .iconst 2, 1, (0, 0, 0), 0), (7, .if_icmp .lt 13, 3, (0, 0, 0), 0), (10, .aload_n 0, 1, (0, 0, 0), 0), (11, .getfield 11, 3, (3, 0, 1), 0), (14, .iconst 1, 1, (0, 0, 0), 0), (15, .iaload, 1, (0, 0, 0), 0), (16, .iconst 1, 1, (0, 0, 0), 0), (17, .if_icmp .ge 5, 3, (0, 0, 0), 0), (20, .iconst 0, 1, (0, 0, 0), 0), (21, .ireturn, 1, (0, 0, 3), 0), (22, .iconst 0, 1, (0, 0, 0), 0), (23, .istore_n 1, 1, (0, 0, 0), 0), (24, .iload_n 1, 1, (0, 0, 0), 0), (25, .aload_n 0, 1, (0, 0, 0), 0), (26, .getfield 11, 3, (3, 0, 1), 0), (29, .iconst 1, 1, (0, 0, 0), 0), (30, .iaload, 1, (0, 0, 0), 0), (31, .if_icmp .ge 33, 3, (0, 0, 0), 0), (34, .aload_n 0, 1, (0, 0, 0), 0), (35, .iconst 1, 1, (0, 0, 0), 0)]), (80, [(36, .iload_n 1, 1, (0, 0, 0), 0), (37, .iconst 2, 1, (0, 0, 0), 0), (38, .invokevirtual 46, 3, (24, 4, 0), 0), (41, .istore_n 2, 1, (0, 0, 0), 0), (42, .iload_n 2, 1, (0, 0, 0), 0), (43, .bipush 8, 2, (0, 0, 0), 0), (45, .if_icmp .eq 13, 3, (0, 0, 0), 0), (48, .aload_n 0, 1, (0, 0, 0), 0), (49, .iload_n 2, 1, (0, 0, 0), 0), (50, .invokevirtual 43, 3, (29, 2, 0), 0), (53, .ifCond .ne 5, 3, (0, 0, 0), 0), (56, .iconst 0, 1, (0, 0, 0), 0), (57, .ireturn, 1, (0, 0, 3), 0), (58, .iinc 1 1, 3, (0, 0, 0), 0), (61, .goto (-37), 3, (0, 0, 0), 0), (64, .aload_n 0, 1, (0, 0, 0), 0), (65, .iconst 2, 1, (0, 0, 0), 0), (66, .invokevirtual 50, 3, (33, 2, 0), 0), (69, .ifCond .eq 15, 3, (0, 0, 0), 0), (72, .aload_n 0, 1, (0, 0, 0), 0), (73, .iconst 3, 1, (0, 0, 0), 0), (74, .invokevirtual 50, 3, (33, 2, 0), 0), (77, .ifCond .eq 7, 3, (0, 0, 0), 0), (80, .iconst 1, 1, (0, 0, 0), 0)]), (85, [(81, .goto 4, 3, (0, 0, 0), 0), (84, .iconst 0, 1, (0, 0, 0), 0), (85, .ireturn, 1, (0, 0, 3), 0)])]
def mc_Mk_joinsThings : List (Nat × List (Nat × Ent)) := [(35, [(0, .iconst 0, 1, (0, 0, 0), 0), (1, .istore_n 2, 1, (0, 0, 0), 0), (2, .iload_n 2, 1, (0, 0, 0), 0), (3, .aload_n 0, 1, (0, 0, 0), 0), (4, .getfield 11, 3, (3, 0, 1), 0), (7, .iload_n 1, 1, (0, 0, 0), 0), (8, .iaload, 1, (0, 0, 0), 0), (9, .if_icmp .ge 51, 3, (0, 0, 0), 0), (12, .aload_n 0, 1, (0, 0, 0), 0), (13, .iload_n 1, 1, (0, 0, 0), 0), (14, .iload_n 2, 1, (0, 0, 0), 0), (15, .iconst 0, 1, (0, 0, 0), 0), (16, .invokevirtual 46, 3, (24, 4, 0), 0), (19, .istore_n 3, 1, (0, 0, 0), 0), (20, .aload_n 0, 1, (0, 0, 0), 0), (21, .iload_n 1, 1, (0, 0, 0), 0), (22, .iload_n 2, 1, (0, 0, 0), 0), (23, .iconst 1, 1, (0, 0, 0), 0), (24, .invokevirtual 46, 3, (24, 4, 0), 0), (27, .istore 4, 2, (0, 0, 0), 0), (29, .iload_n 3, 1, (0, 0, 0), 0), (30, .iload 4, 2, (0, 0, 0), 0), (32, .if_icmp .eq 20, 3, (0, 0, 0), 0), (35, .aload_n 0, 1, (0, 0, 0), 0)]), (61, [(36, .iload_n 3, 1, (0, 0, 0), 0), (37, .invokevirtual 43, 3, (29, 2, 0), 0), (40, .ifCond .eq 12, 3, (0, 0, 0), 0), (43, .aload_n 0, 1, (0, 0, 0), 0), (44, .iload 4, 2, (0, 0, 0), 0), (46, .invokevirtual 43, 3, (29, 2, 0), 0), (49, .ifCond .ne 5, 3, (0, 0, 0), 0), (52, .iconst 0, 1, (0, 0, 0), 0), (53, .ireturn, 1, (0, 0, 3), 0), (54, .iinc 2 1, 3, (0, 0, 0), 0), (57, .goto (-55), 3, (0, 0, 0), 0), (60, .iconst 1, 1, (0, 0, 0), 0), (61, .ireturn, 1, (0, 0, 3), 0)])]
def mc_Mk_spoilt : List (Nat × List (Nat × Ent)) := [(35, [(0, .iconst 0, 1, (0, 0, 0), 0), (1, .istore_n 3, 1, (0, 0, 0), 0), (2, .iconst 0, 1, (0, 0, 0), 0), (3, .istore 4, 2, (0, 0, 0), 0), (5, .iload 4, 2, (0, 0, 0), 0), (7, .aload_n 0, 1, (0, 0, 0), 0), (8, .getfield 11, 3, (3, 0, 1), 0), (11, .iconst 2, 1, (0, 0, 0), 0), (12, .iaload, 1, (0, 0, 0), 0), (13, .if_icmp .ge 58, 3, (0, 0, 0), 0), (16, .bipush 60, 2, (0, 0, 0), 0), (18, .iload 4, 2, (0, 0, 0), 0), (20, .iconst 3, 1, (0, 0, 0), 0), (21, .imul, 1, (0, 0, 0), 0), (22, .iadd, 1, (0, 0, 0), 0), (23, .istore 5, 2, (0, 0, 0), 0), (25, .aload_n 0, 1, (0, 0, 0), 0), (26, .getfield 15, 3, (3, 1, 1), 1), (29, .iload 5, 2, (0, 0, 0), 0), (31, .iconst 1, 1, (0, 0, 0), 0), (32, .iadd, 1, (0, 0, 0), 0), (33, .iaload, 1, (0, 0, 0), 0), (34, .iload_n 1, 1, (0, 0, 0), 0), (35, .if_icmp .ne 30, 3, (0, 0, 0), 0)]), (74, [(38, .iload_n 2, 1, (0, 0, 0), 0), (39, .aload_n 0, 1, (0, 0, 0), 0), (40, .getfield 15, 3, (3, 1, 1), 1), (43, .iload 5, 2, (0, 0, 0), 0), (45, .iaload, 1, (0, 0, 0), 0), (46, .ishr, 1, (0, 0, 0), 0), (47, .iconst 1, 1, (0, 0, 0), 0), (48, .iand, 1, (0, 0, 0), 0), (49, .iconst 1, 1, (0, 0, 0), 0), (50, .if_icmp .ne 15, 3, (0, 0, 0), 0), (53, .iload_n 3, 1, (0, 0, 0), 0), (54, .aload_n 0, 1, (0, 0, 0), 0), (55, .getfield 15, 3, (3, 1, 1), 1), (58, .iload 5, 2, (0, 0, 0), 0), (60, .iconst 2, 1, (0, 0, 0), 0), (61, .iadd, 1, (0, 0, 0), 0), (62, .iaload, 1, (0, 0, 0), 0), (63, .iadd, 1, (0, 0, 0), 0), (64, .istore_n 3, 1, (0, 0, 0), 0), (65, .iinc 4 1, 3, (0, 0, 0), 0), (68, .goto (-63), 3, (0, 0, 0), 0), (71, .iload_n 3, 1, (0, 0, 0), 0), (72, .bipush 10, 2, (0, 0, 0), 0), (74, .invokestatic 53, 3, (316, 2, 0), 0)]), (77, [(77, .ireturn, 1, (0, 0, 1), 0)])]
def mc_Mk_harm : List (Nat × List (Nat × Ent)) := [(37, [(0, .iconst 0, 1, (0, 0, 0), 0), (1, .istore_n 3, 1, (0, 0, 0), 0), (2, .iconst 0, 1, (0, 0, 0), 0), (3, .istore 4, 2, (0, 0, 0), 0), (5, .iload 4, 2, (0, 0, 0), 0), (7, .aload_n 0, 1, (0, 0, 0), 0), (8, .getfield 11, 3, (3, 0, 1), 0), (11, .iconst 2, 1, (0, 0, 0), 0), (12, .iaload, 1, (0, 0, 0), 0), (13, .if_icmp .ge 58, 3, (0, 0, 0), 0), (16, .bipush 60, 2, (0, 0, 0), 0), (18, .iload 4, 2, (0, 0, 0), 0), (20, .iconst 3, 1, (0, 0, 0), 0), (21, .imul, 1, (0, 0, 0), 0), (22, .iadd, 1, (0, 0, 0), 0), (23, .istore 5, 2, (0, 0, 0), 0), (25, .aload_n 0, 1, (0, 0, 0), 0), (26, .getfield 15, 3, (3, 1, 1), 1), (29, .iload 5, 2, (0, 0, 0), 0), (31, .iaload, 1, (0, 0, 0), 0), (32, .iload_n 1, 1, (0, 0, 0), 0), (33, .if_icmp .ne 32, 3, (0, 0, 0), 0), (36, .iload_n 2, 1, (0, 0, 0), 0), (37, .aload_n 0, 1, (0, 0, 0), 0)]), (72, [(38, .getfield 15, 3, (3, 1, 1), 1), (41, .iload 5, 2, (0, 0, 0), 0), (43, .iconst 1, 1, (0, 0, 0), 0), (44, .iadd, 1, (0, 0, 0), 0), (45, .iaload, 1, (0, 0, 0), 0), (46, .ishr, 1, (0, 0, 0), 0), (47, .iconst 1, 1, (0, 0, 0), 0), (48, .iand, 1, (0, 0, 0), 0), (49, .iconst 1, 1, (0, 0, 0), 0), (50, .if_icmp .ne 15, 3, (0, 0, 0), 0), (53, .iload_n 3, 1, (0, 0, 0), 0), (54, .aload_n 0, 1, (0, 0, 0), 0), (55, .getfield 15, 3, (3, 1, 1), 1), (58, .iload 5, 2, (0, 0, 0), 0), (60, .iconst 2, 1, (0, 0, 0), 0), (61, .iadd, 1, (0, 0, 0), 0), (62, .iaload, 1, (0, 0, 0), 0), (63, .iadd, 1, (0, 0, 0), 0), (64, .istore_n 3, 1, (0, 0, 0), 0), (65, .iinc 4 1, 3, (0, 0, 0), 0), (68, .goto (-63), 3, (0, 0, 0), 0), (71, .iload_n 3, 1, (0, 0, 0), 0), (72, .ireturn, 1, (0, 0, 1), 0)])]
def mc_Mk_cleanRow : List (Nat × List (Nat × Ent)) := [(36, [(0, .iconst 0, 1, (0, 0, 0), 0), (1, .istore_n 1, 1, (0, 0, 0), 0), (2, .aload_n 0, 1, (0, 0, 0), 0), (3, .invokevirtual 59, 3, (28, 1, 0), 0), (6, .istore_n 2, 1, (0, 0, 0), 0), (7, .iconst 0, 1, (0, 0, 0), 0), (8, .istore_n 3, 1, (0, 0, 0), 0), (9, .iload_n 3, 1, (0, 0, 0), 0), (10, .aload_n 0, 1, (0, 0, 0), 0), (11, .invokevirtual 63, 3, (26, 1, 0), 0), (14, .if_icmp .ge 41, 3, (0, 0, 0), 0), (17, .aload_n 0, 1, (0, 0, 0), 0), (18, .iload_n 2, 1, (0, 0, 0), 0), (19, .invokevirtual 66, 3, (37, 2, 0), 0), (22, .istore 4, 2, (0, 0, 0), 0), (24, .iload 4, 2, (0, 0, 0), 0), (26, .iconst (-1), 1, (0, 0, 0), 0), (27, .if_icmp .ne 5, 3, (0, 0, 0), 0), (30, .iconst (-1), 1, (0, 0, 0), 0), (31, .ireturn, 1, (0, 0, 1), 0), (32, .iload_n 1, 1, (0, 0, 0), 0), (33, .bipush 10, 2, (0, 0, 0), 0), (35, .imul, 1, (0, 0, 0), 0), (36, .iload 4, 2, (0, 0, 0), 0)]), (56, [(38, .iadd, 1, (0, 0, 0), 0), (39, .istore_n 1, 1, (0, 0, 0), 0), (40, .iload_n 2, 1, (0, 0, 0), 0), (41, .iconst 1, 1, (0, 0, 0), 0), (42, .iload 4, 2, (0, 0, 0), 0), (44, .ishl, 1, (0, 0, 0), 0), (45, .iconst (-1), 1, (0, 0, 0), 0), (46, .ixor, 1, (0, 0, 0), 0), (47, .iand, 1, (0, 0, 0), 0), (48, .istore_n 2, 1, (0, 0, 0), 0), (49, .iinc 3 1, 3, (0, 0, 0), 0), (52, .goto (-43), 3, (0, 0, 0), 0), (55, .iload_n 1, 1, (0, 0, 0), 0), (56, .ireturn, 1, (0, 0, 1), 0)])]
def mc_Mk_lowestHarmless : List (Nat × List (Nat × Ent)) := [(37, [(0, .iconst 0, 1, (0, 0, 0), 0), (1, .istore_n 2, 1, (0, 0, 0), 0), (2, .iload_n 2, 1, (0, 0, 0), 0), (3, .aload_n 0, 1, (0, 0, 0), 0), (4, .invokevirtual 63, 3, (26, 1, 0), 0), (7, .if_icmp .ge 29, 3, (0, 0, 0), 0), (10, .iload_n 1, 1, (0, 0, 0), 0), (11, .iload_n 2, 1, (0, 0, 0), 0), (12, .ishr, 1, (0, 0, 0), 0), (13, .iconst 1, 1, (0, 0, 0), 0), (14, .iand, 1, (0, 0, 0), 0), (15, .iconst 1, 1, (0, 0, 0), 0), (16, .if_icmp .ne 14, 3, (0, 0, 0), 0), (19, .aload_n 0, 1, (0, 0, 0), 0), (20, .iload_n 2, 1, (0, 0, 0), 0), (21, .iload_n 1, 1, (0, 0, 0), 0), (22, .invokevirtual 70, 3, (35, 3, 0), 0), (25, .ifCond .ne 5, 3, (0, 0, 0), 0), (28, .iload_n 2, 1, (0, 0, 0), 0), (29, .ireturn, 1, (0, 0, 1), 0), (30, .iinc 2 1, 3, (0, 0, 0), 0), (33, .goto (-31), 3, (0, 0, 0), 0), (36, .iconst (-1), 1, (0, 0, 0), 0), (37, .ireturn, 1, (0, 0, 1), 0)])]
def mc_Mk_spoilsFrom : List (Nat × List (Nat × Ent)) := [(35, [(0, .iconst 0, 1, (0, 0, 0), 0), (1, .istore_n 3, 1, (0, 0, 0), 0), (2, .iconst 0, 1, (0, 0, 0), 0), (3, .istore 4, 2, (0, 0, 0), 0), (5, .iload 4, 2, (0, 0, 0), 0), (7, .aload_n 0, 1, (0, 0, 0), 0), (8, .getfield 11, 3, (3, 0, 1), 0), (11, .iconst 2, 1, (0, 0, 0), 0), (12, .iaload, 1, (0, 0, 0), 0), (13, .if_icmp .ge 49, 3, (0, 0, 0), 0), (16, .bipush 60, 2, (0, 0, 0), 0), (18, .iload 4, 2, (0, 0, 0), 0), (20, .iconst 3, 1, (0, 0, 0), 0), (21, .imul, 1, (0, 0, 0), 0), (22, .iadd, 1, (0, 0, 0), 0), (23, .istore 5, 2, (0, 0, 0), 0), (25, .aload_n 0, 1, (0, 0, 0), 0), (26, .getfield 15, 3, (3, 1, 1), 1), (29, .iload 5, 2, (0, 0, 0), 0), (31, .iconst 1, 1, (0, 0, 0), 0), (32, .iadd, 1, (0, 0, 0), 0), (33, .iaload, 1, (0, 0, 0), 0), (34, .iload_n 2, 1, (0, 0, 0), 0), (35, .if_icmp .ne 21, 3, (0, 0, 0), 0)]), (63, [(38, .iload_n 1, 1, (0, 0, 0), 0), (39, .aload_n 0, 1, (0, 0, 0), 0), (40, .getfield 15, 3, (3, 1, 1), 1), (43, .iload 5, 2, (0, 0, 0), 0), (45, .iaload, 1, (0, 0, 0), 0), (46, .ishr, 1, (0, 0, 0), 0), (47, .iconst 1, 1, (0, 0, 0), 0), (48, .iand, 1, (0, 0, 0), 0), (49, .iconst 1, 1, (0, 0, 0), 0), (50, .if_icmp .ne 6, 3, (0, 0, 0), 0), (53, .iinc 3 1, 3, (0, 0, 0), 0), (56, .iinc 4 1, 3, (0, 0, 0), 0), (59, .goto (-54), 3, (0, 0, 0), 0), (62, .iload_n 3, 1, (0, 0, 0), 0), (63, .ireturn, 1, (0, 0, 1), 0)])]
def mc_Mr_read : List (Nat × List (Nat × Ent)) := [(43, [(0, .aload_n 1, 1, (0, 0, 0), 0), (1, .invokevirtual 9, 3, (19, 1, 0), 0), (4, .aload_n 0, 1, (0, 0, 0), 0), (5, .invokevirtual 14, 3, (101, 1, 0), 0), (8, .iconst 0, 1, (0, 0, 0), 0), (9, .istore_n 2, 1, (0, 0, 0), 0), (10, .iload_n 2, 1, (0, 0, 0), 0), (11, .sipush 240, 3, (0, 0, 0), 0), (14, .if_icmp .gt 61, 3, (0, 0, 0), 0), (17, .aload_n 0, 1, (0, 0, 0), 0), (18, .aload_n 1, 1, (0, 0, 0), 0), (19, .invokestatic 19, 3, (40, 2, 0), 0), (22, .ifCond .ne 5, 3, (0, 0, 0), 0), (25, .iconst 0, 1, (0, 0, 0), 0), (26, .ireturn, 1, (0, 0, 3), 0), (27, .aload_n 0, 1, (0, 0, 0), 0), (28, .invokevirtual 25, 3, (103, 1, 0), 0), (31, .ifCond .eq 27, 3, (0, 0, 0), 0), (34, .aload_n 1, 1, (0, 0, 0), 0), (35, .invokevirtual 29, 3, (32, 1, 0), 0), (38, .ifCond .ne 14, 3, (0, 0, 0), 0), (41, .aload_n 0, 1, (0, 0, 0), 0), (42, .aload_n 0, 1, (0, 0, 0), 0), (43, .getfield 32, 3, (8, 1, 0), 1)]), (83, [(46, .invokevirtual 36, 3, (104, 2, 0), 0), (49, .ifCond .eq 7, 3, (0, 0, 0), 0), (52, .iconst 1, 1, (0, 0, 0), 0), (53, .goto 4, 3, (0, 0, 0), 0), (56, .iconst 0, 1, (0, 0, 0), 0), (57, .ireturn, 1, (0, 0, 3), 0), (58, .aload_n 0, 1, (0, 0, 0), 0), (59, .bipush 59, 2, (0, 0, 0), 0), (61, .invokevirtual 40, 3, (105, 2, 0), 0), (64, .ifCond .ne 5, 3, (0, 0, 0), 0), (67, .iconst 0, 1, (0, 0, 0), 0), (68, .ireturn, 1, (0, 0, 3), 0), (69, .iinc 2 1, 3, (0, 0, 0), 0), (72, .goto (-62), 3, (0, 0, 0), 0), (75, .aload_n 0, 1, (0, 0, 0), 0), (76, .aload_n 0, 1, (0, 0, 0), 0), (77, .getfield 32, 3, (8, 1, 0), 1), (80, .invokevirtual 36, 3, (104, 2, 0), 0), (83, .ireturn, 1, (0, 0, 3), 0)])]
def mc_Mr_readClause : List (Nat × List (Nat × Ent)) := [(41, [(0, .aload_n 0, 1, (0, 0, 0), 0), (1, .invokevirtual 43, 3, (102, 1, 0), 0), (4, .invokestatic 47, 3, (42, 1, 0), 0), (7, .istore_n 2, 1, (0, 0, 0), 0), (8, .iload_n 2, 1, (0, 0, 0), 0), (9, .iconst (-1), 1, (0, 0, 0), 0), (10, .if_icmp .eq 11, 3, (0, 0, 0), 0), (13, .aload_n 1, 1, (0, 0, 0), 0), (14, .iload_n 2, 1, (0, 0, 0), 0), (15, .invokevirtual 51, 3, (21, 2, 0), 0), (18, .ifCond .eq 12, 3, (0, 0, 0), 0), (21, .aload_n 0, 1, (0, 0, 0), 0), (22, .aload_n 0, 1, (0, 0, 0), 0), (23, .getfield 54, 3, (8, 2, 0), 2), (26, .invokevirtual 36, 3, (104, 2, 0), 0), (29, .ireturn, 1, (0, 0, 3), 0), (30, .aload_n 0, 1, (0, 0, 0), 0), (31, .dup, 1, (0, 0, 0), 0), (32, .getfield 54, 3, (8, 2, 0), 2), (35, .iconst 1, 1, (0, 0, 0), 0), (36, .iadd, 1, (0, 0, 0), 0), (37, .putfield 54, 3, (8, 2, 0), 2), (40, .aload_n 1, 1, (0, 0, 0), 0), (41, .iload_n 2, 1, (0, 0, 0), 0)]), (80, [(42, .invokevirtual 57, 3, (22, 2, 0), 0), (45, .iconst 0, 1, (0, 0, 0), 0), (46, .istore_n 3, 1, (0, 0, 0), 0), (47, .iconst 0, 1, (0, 0, 0), 0), (48, .istore 4, 2, (0, 0, 0), 0), (50, .iload 4, 2, (0, 0, 0), 0), (52, .iconst 3, 1, (0, 0, 0), 0), (53, .if_icmp .gt 76, 3, (0, 0, 0), 0), (56, .iload_n 2, 1, (0, 0, 0), 0), (57, .aload_n 0, 1, (0, 0, 0), 0), (58, .invokevirtual 43, 3, (102, 1, 0), 0), (61, .invokestatic 61, 3, (43, 2, 0), 0), (64, .istore 5, 2, (0, 0, 0), 0), (66, .iload 5, 2, (0, 0, 0), 0), (68, .iconst (-1), 1, (0, 0, 0), 0), (69, .if_icmp .ne 5, 3, (0, 0, 0), 0), (72, .iconst 1, 1, (0, 0, 0), 0), (73, .ireturn, 1, (0, 0, 3), 0), (74, .iload_n 3, 1, (0, 0, 0), 0), (75, .iload 5, 2, (0, 0, 0), 0), (77, .ishr, 1, (0, 0, 0), 0), (78, .iconst 1, 1, (0, 0, 0), 0), (79, .iand, 1, (0, 0, 0), 0), (80, .iconst 1, 1, (0, 0, 0), 0)]), (118, [(81, .if_icmp .ne 12, 3, (0, 0, 0), 0), (84, .aload_n 0, 1, (0, 0, 0), 0), (85, .aload_n 0, 1, (0, 0, 0), 0), (86, .getfield 54, 3, (8, 2, 0), 2), (89, .invokevirtual 36, 3, (104, 2, 0), 0), (92, .ireturn, 1, (0, 0, 3), 0), (93, .iload_n 3, 1, (0, 0, 0), 0), (94, .iconst 1, 1, (0, 0, 0), 0), (95, .iload 5, 2, (0, 0, 0), 0), (97, .ishl, 1, (0, 0, 0), 0), (98, .ior, 1, (0, 0, 0), 0), (99, .istore_n 3, 1, (0, 0, 0), 0), (100, .aload_n 0, 1, (0, 0, 0), 0), (101, .dup, 1, (0, 0, 0), 0), (102, .getfield 54, 3, (8, 2, 0), 2), (105, .iconst 1, 1, (0, 0, 0), 0), (106, .iadd, 1, (0, 0, 0), 0), (107, .putfield 54, 3, (8, 2, 0), 2), (110, .aload_n 0, 1, (0, 0, 0), 0), (111, .aload_n 1, 1, (0, 0, 0), 0), (112, .iload_n 2, 1, (0, 0, 0), 0), (113, .iload 5, 2, (0, 0, 0), 0), (115, .invokestatic 65, 3, (41, 4, 0), 0), (118, .ifCond .ne 5, 3, (0, 0, 0), 0)]), (137, [(121, .iconst 0, 1, (0, 0, 0), 0), (122, .ireturn, 1, (0, 0, 3), 0), (123, .iinc 4 1, 3, (0, 0, 0), 0), (126, .goto (-76), 3, (0, 0, 0), 0), (129, .aload_n 0, 1, (0, 0, 0), 0), (130, .aload_n 0, 1, (0, 0, 0), 0), (131, .getfield 54, 3, (8, 2, 0), 2), (134, .invokevirtual 36, 3, (104, 2, 0), 0), (137, .ireturn, 1, (0, 0, 3), 0)])]
def mc_Mr_readItem : List (Nat × List (Nat × Ent)) := [(40, [(0, .aload_n 0, 1, (0, 0, 0), 0), (1, .iconst 2, 1, (0, 0, 0), 0), (2, .invokevirtual 69, 3, (107, 2, 0), 0), (5, .istore 4, 2, (0, 0, 0), 0), (7, .iload 4, 2, (0, 0, 0), 0), (9, .iconst (-1), 1, (0, 0, 0), 0), (10, .if_icmp .ne 5, 3, (0, 0, 0), 0), (13, .iconst 0, 1, (0, 0, 0), 0), (14, .ireturn, 1, (0, 0, 3), 0), (15, .iload_n 2, 1, (0, 0, 0), 0), (16, .iconst 3, 1, (0, 0, 0), 0), (17, .imul, 1, (0, 0, 0), 0), (18, .iload_n 3, 1, (0, 0, 0), 0), (19, .iadd, 1, (0, 0, 0), 0), (20, .istore 5, 2, (0, 0, 0), 0), (22, .iload 4, 2, (0, 0, 0), 0), (24, .getstatic 72, 3, (6, 0, 0), 0), (27, .iload 5, 2, (0, 0, 0), 0), (29, .iaload, 1, (0, 0, 0), 0), (30, .if_icmp .lt 14, 3, (0, 0, 0), 0), (33, .iload 4, 2, (0, 0, 0), 0), (35, .getstatic 76, 3, (7, 0, 0), 0), (38, .iload 5, 2, (0, 0, 0), 0), (40, .iaload, 1, (0, 0, 0), 0)]), (64, [(41, .if_icmp .le 14, 3, (0, 0, 0), 0), (44, .aload_n 0, 1, (0, 0, 0), 0), (45, .aload_n 0, 1, (0, 0, 0), 0), (46, .getfield 54, 3, (8, 2, 0), 2), (49, .iconst 1, 1, (0, 0, 0), 0), (50, .isub, 1, (0, 0, 0), 0), (51, .invokevirtual 36, 3, (104, 2, 0), 0), (54, .ireturn, 1, (0, 0, 3), 0), (55, .aload_n 1, 1, (0, 0, 0), 0), (56, .iload_n 2, 1, (0, 0, 0), 0), (57, .iload_n 3, 1, (0, 0, 0), 0), (58, .iload 4, 2, (0, 0, 0), 0), (60, .invokevirtual 79, 3, (23, 4, 0), 0), (63, .iconst 1, 1, (0, 0, 0), 0), (64, .ireturn, 1, (0, 0, 3), 0)])]
def mc_Mr_kindOf : List (Nat × List (Nat × Ent)) := [(25, [(0, .iconst 0, 1, (0, 0, 0), 0), (1, .istore_n 1, 1, (0, 0, 0), 0), (2, .iload_n 1, 1, (0, 0, 0), 0), (3, .iconst 4, 1, (0, 0, 0), 0), (4, .if_icmp .ge 20, 3, (0, 0, 0), 0), (7, .getstatic 83, 3, (2, 0, 0), 0), (10, .iload_n 1, 1, (0, 0, 0), 0), (11, .caload, 1, (0, 0, 0), 0), (12, .iload_n 0, 1, (0, 0, 0), 0), (13, .if_icmp .ne 5, 3, (0, 0, 0), 0), (16, .iload_n 1, 1, (0, 0, 0), 0), (17, .ireturn, 1, (0, 0, 1), 0), (18, .iinc 1 1, 3, (0, 0, 0), 0), (21, .goto (-19), 3, (0, 0, 0), 0), (24, .iconst (-1), 1, (0, 0, 0), 0), (25, .ireturn, 1, (0, 0, 1), 0)])]
def mc_Mr_itemOf : List (Nat × List (Nat × Ent)) := [(29, [(0, .iconst 0, 1, (0, 0, 0), 0), (1, .istore_n 2, 1, (0, 0, 0), 0), (2, .iload_n 2, 1, (0, 0, 0), 0), (3, .iconst 3, 1, (0, 0, 0), 0), (4, .if_icmp .ge 24, 3, (0, 0, 0), 0), (7, .getstatic 87, 3, (5, 0, 0), 0), (10, .iload_n 0, 1, (0, 0, 0), 0), (11, .iconst 3, 1, (0, 0, 0), 0), (12, .imul, 1, (0, 0, 0), 0), (13, .iload_n 2, 1, (0, 0, 0), 0), (14, .iadd, 1, (0, 0, 0), 0), (15, .caload, 1, (0, 0, 0), 0), (16, .iload_n 1, 1, (0, 0, 0), 0), (17, .if_icmp .ne 5, 3, (0, 0, 0), 0), (20, .iload_n 2, 1, (0, 0, 0), 0), (21, .ireturn, 1, (0, 0, 1), 0), (22, .iinc 2 1, 3, (0, 0, 0), 0), (25, .goto (-23), 3, (0, 0, 0), 0), (28, .iconst (-1), 1, (0, 0, 0), 0), (29, .ireturn, 1, (0, 0, 1), 0)])]
def mc_Pa_init : List (Nat × List (Nat × Ent)) := []
def mc_Pa_keep : List (Nat × List (Nat × Ent)) := [(40, [(0, .aload_n 1, 1, (0, 0, 0), 0), (1, .iconst 0, 1, (0, 0, 0), 0), (2, .aload_n 0, 1, (0, 0, 0), 0), (3, .getfield 11, 3, (4, 0, 1), 0), (6, .aload_n 0, 1, (0, 0, 0), 0), (7, .getfield 15, 3, (4, 1, 0), 1), (10, .sipush 175, 3, (0, 0, 0), 0), (13, .imul, 1, (0, 0, 0), 0), (14, .sipush 175, 3, (0, 0, 0), 0), (17, .invokestatic 19, 3, (0, 0, 2), 0), (20, .aload_n 0, 1, (0, 0, 0), 0), (21, .aload_n 0, 1, (0, 0, 0), 0), (22, .getfield 15, 3, (4, 1, 0), 1), (25, .iconst 1, 1, (0, 0, 0), 0), (26, .iadd, 1, (0, 0, 0), 0), (27, .bipush 40, 2, (0, 0, 0), 0), (29, .irem, 1, (0, 0, 0), 0), (30, .putfield 15, 3, (4, 1, 0), 1), (33, .aload_n 0, 1, (0, 0, 0), 0), (34, .aload_n 0, 1, (0, 0, 0), 0), (35, .getfield 25, 3, (4, 2, 0), 2), (38, .iconst 1, 1, (0, 0, 0), 0), (39, .iadd, 1, (0, 0, 0), 0), (40, .bipush 40, 2, (0, 0, 0), 0)]), (48, [(42, .invokestatic 28, 3, (316, 2, 0), 0), (45, .putfield 25, 3, (4, 2, 0), 2), (48, .return_, 1, (0, 0, 0), 0)])]
def mc_Pa_bring : List (Nat × List (Nat × Ent)) := [(39, [(0, .aload_n 0, 1, (0, 0, 0), 0), (1, .getfield 25, 3, (4, 2, 0), 2), (4, .ifCond .ne 5, 3, (0, 0, 0), 0), (7, .iconst 0, 1, (0, 0, 0), 0), (8, .ireturn, 1, (0, 0, 3), 0), (9, .aload_n 0, 1, (0, 0, 0), 0), (10, .aload_n 0, 1, (0, 0, 0), 0), (11, .getfield 15, 3, (4, 1, 0), 1), (14, .bipush 40, 2, (0, 0, 0), 0), (16, .iadd, 1, (0, 0, 0), 0), (17, .iconst 1, 1, (0, 0, 0), 0), (18, .isub, 1, (0, 0, 0), 0), (19, .bipush 40, 2, (0, 0, 0), 0), (21, .irem, 1, (0, 0, 0), 0), (22, .putfield 15, 3, (4, 1, 0), 1), (25, .aload_n 0, 1, (0, 0, 0), 0), (26, .dup, 1, (0, 0, 0), 0), (27, .getfield 25, 3, (4, 2, 0), 2), (30, .iconst 1, 1, (0, 0, 0), 0), (31, .isub, 1, (0, 0, 0), 0), (32, .putfield 25, 3, (4, 2, 0), 2), (35, .aload_n 0, 1, (0, 0, 0), 0), (36, .getfield 11, 3, (4, 0, 1), 0), (39, .aload_n 0, 1, (0, 0, 0), 0)]), (56, [(40, .getfield 15, 3, (4, 1, 0), 1), (43, .sipush 175, 3, (0, 0, 0), 0), (46, .imul, 1, (0, 0, 0), 0), (47, .aload_n 1, 1, (0, 0, 0), 0), (48, .iconst 0, 1, (0, 0, 0), 0), (49, .sipush 175, 3, (0, 0, 0), 0), (52, .invokestatic 19, 3, (0, 0, 2), 0), (55, .iconst 1, 1, (0, 0, 0), 0), (56, .ireturn, 1, (0, 0, 3), 0)])]
def mc_Pa_forget : List (Nat × List (Nat × Ent)) := [(5, [(0, .aload_n 0, 1, (0, 0, 0), 0), (1, .iconst 0, 1, (0, 0, 0), 0), (2, .putfield 25, 3, (4, 2, 0), 2), (5, .return_, 1, (0, 0, 0), 0)])]
def mc_Pl_init : List (Nat × List (Nat × Ent)) := []
def mc_Pl_has : List (Nat × List (Nat × Ent)) := [(17, [(0, .iload_n 1, 1, (0, 0, 0), 0), (1, .ifCond .lt 15, 3, (0, 0, 0), 0), (4, .iload_n 1, 1, (0, 0, 0), 0), (5, .aload_n 0, 1, (0, 0, 0), 0), (6, .getfield 24, 3, (5, 3, 0), 3), (9, .if_icmp .ge 7, 3, (0, 0, 0), 0), (12, .iconst 1, 1, (0, 0, 0), 0), (13, .goto 4, 3, (0, 0, 0), 0), (16, .iconst 0, 1, (0, 0, 0), 0), (17, .ireturn, 1, (0, 0, 3), 0)])]
def mc_Pl_sizeOf : List (Nat × List (Nat × Ent)) := [(18, [(0, .aload_n 0, 1, (0, 0, 0), 0), (1, .iload_n 1, 1, (0, 0, 0), 0), (2, .invokevirtual 28, 3, (49, 2, 0), 0), (5, .ifCond .eq 12, 3, (0, 0, 0), 0), (8, .aload_n 0, 1, (0, 0, 0), 0), (9, .getfield 16, 3, (5, 1, 1), 1), (12, .iload_n 1, 1, (0, 0, 0), 0), (13, .iaload, 1, (0, 0, 0), 0), (14, .goto 4, 3, (0, 0, 0), 0), (17, .iconst 0, 1, (0, 0, 0), 0), (18, .ireturn, 1, (0, 0, 1), 0)])]
def mc_Pl_told : List (Nat × List (Nat × Ent)) := [(35, [(0, .iload_n 2, 1, (0, 0, 0), 0), (1, .ifCond .lt 21, 3, (0, 0, 0), 0), (4, .iload_n 2, 1, (0, 0, 0), 0), (5, .aload_n 0, 1, (0, 0, 0), 0), (6, .iload_n 1, 1, (0, 0, 0), 0), (7, .invokevirtual 32, 3, (50, 2, 0), 0), (10, .if_icmp .ge 12, 3, (0, 0, 0), 0), (13, .iload_n 3, 1, (0, 0, 0), 0), (14, .ifCond .lt 8, 3, (0, 0, 0), 0), (17, .iload_n 3, 1, (0, 0, 0), 0), (18, .iconst 5, 1, (0, 0, 0), 0), (19, .if_icmp .lt 5, 3, (0, 0, 0), 0), (22, .iconst (-1), 1, (0, 0, 0), 0), (23, .ireturn, 1, (0, 0, 1), 0), (24, .aload_n 0, 1, (0, 0, 0), 0), (25, .getfield 13, 3, (5, 0, 1), 0), (28, .iload_n 1, 1, (0, 0, 0), 0), (29, .aaload, 1, (0, 0, 0), 0), (30, .iload_n 2, 1, (0, 0, 0), 0), (31, .iconst 5, 1, (0, 0, 0), 0), (32, .imul, 1, (0, 0, 0), 0), (33, .iload_n 3, 1, (0, 0, 0), 0), (34, .iadd, 1, (0, 0, 0), 0), (35, .iaload, 1, (0, 0, 0), 0)]), (36, [(36, .ireturn, 1, (0, 0, 1), 0)])]
def mc_Pl_keepSpare : List (Nat × List (Nat × Ent)) := [(26, [(0, .aload_n 0, 1, (0, 0, 0), 0), (1, .getfield 24, 3, (5, 3, 0), 3), (4, .iconst 4, 1, (0, 0, 0), 0), (5, .if_icmp .lt 5, 3, (0, 0, 0), 0), (8, .iconst (-1), 1, (0, 0, 0), 0), (9, .ireturn, 1, (0, 0, 1), 0), (10, .aload_n 0, 1, (0, 0, 0), 0), (11, .dup, 1, (0, 0, 0), 0), (12, .getfield 24, 3, (5, 3, 0), 3), (15, .iconst 1, 1, (0, 0, 0), 0), (16, .iadd, 1, (0, 0, 0), 0), (17, .putfield 24, 3, (5, 3, 0), 3), (20, .aload_n 0, 1, (0, 0, 0), 0), (21, .getfield 24, 3, (5, 3, 0), 3), (24, .iconst 1, 1, (0, 0, 0), 0), (25, .isub, 1, (0, 0, 0), 0), (26, .ireturn, 1, (0, 0, 1), 0)])]
def mc_Pl_readSpare : List (Nat × List (Nat × Ent)) := [(40, [(0, .aload_n 0, 1, (0, 0, 0), 0), (1, .getfield 20, 3, (5, 2, 1), 2), (4, .invokevirtual 36, 3, (101, 1, 0), 0), (7, .aload_n 0, 1, (0, 0, 0), 0), (8, .getfield 13, 3, (5, 0, 1), 0), (11, .aload_n 0, 1, (0, 0, 0), 0), (12, .getfield 24, 3, (5, 3, 0), 3), (15, .aaload, 1, (0, 0, 0), 0), (16, .iconst (-1), 1, (0, 0, 0), 0), (17, .invokestatic 41, 3, (318, 2, 0), 0), (20, .iconst 0, 1, (0, 0, 0), 0), (21, .istore_n 1, 1, (0, 0, 0), 0), (22, .iload_n 1, 1, (0, 0, 0), 0), (23, .bipush 12, 2, (0, 0, 0), 0), (25, .if_icmp .ge 67, 3, (0, 0, 0), 0), (28, .aload_n 0, 1, (0, 0, 0), 0), (29, .iload_n 1, 1, (0, 0, 0), 0), (30, .iconst 5, 1, (0, 0, 0), 0), (31, .imul, 1, (0, 0, 0), 0), (32, .invokevirtual 47, 3, (54, 2, 0), 0), (35, .ifCond .ne 5, 3, (0, 0, 0), 0), (38, .iconst 0, 1, (0, 0, 0), 0), (39, .ireturn, 1, (0, 0, 3), 0), (40, .aload_n 0, 1, (0, 0, 0), 0)]), (84, [(41, .getfield 20, 3, (5, 2, 1), 2), (44, .invokevirtual 50, 3, (103, 1, 0), 0), (47, .ifCond .eq 17, 3, (0, 0, 0), 0), (50, .aload_n 0, 1, (0, 0, 0), 0), (51, .getfield 16, 3, (5, 1, 1), 1), (54, .aload_n 0, 1, (0, 0, 0), 0), (55, .getfield 24, 3, (5, 3, 0), 3), (58, .iload_n 1, 1, (0, 0, 0), 0), (59, .iconst 1, 1, (0, 0, 0), 0), (60, .iadd, 1, (0, 0, 0), 0), (61, .iastore, 1, (0, 0, 0), 0), (62, .iconst 1, 1, (0, 0, 0), 0), (63, .ireturn, 1, (0, 0, 3), 0), (64, .iload_n 1, 1, (0, 0, 0), 0), (65, .iconst 1, 1, (0, 0, 0), 0), (66, .iadd, 1, (0, 0, 0), 0), (67, .bipush 12, 2, (0, 0, 0), 0), (69, .if_icmp .ge 17, 3, (0, 0, 0), 0), (72, .aload_n 0, 1, (0, 0, 0), 0), (73, .getfield 20, 3, (5, 2, 1), 2), (76, .bipush 59, 2, (0, 0, 0), 0), (78, .invokevirtual 54, 3, (105, 2, 0), 0), (81, .ifCond .ne 5, 3, (0, 0, 0), 0), (84, .iconst 0, 1, (0, 0, 0), 0)]), (106, [(85, .ireturn, 1, (0, 0, 3), 0), (86, .iinc 1 1, 3, (0, 0, 0), 0), (89, .goto (-67), 3, (0, 0, 0), 0), (92, .aload_n 0, 1, (0, 0, 0), 0), (93, .getfield 20, 3, (5, 2, 1), 2), (96, .aload_n 0, 1, (0, 0, 0), 0), (97, .getfield 20, 3, (5, 2, 1), 2), (100, .getfield 57, 3, (8, 2, 0), 2), (103, .invokevirtual 60, 3, (104, 2, 0), 0), (106, .ireturn, 1, (0, 0, 3), 0)])]
def mc_Pl_readStep : List (Nat × List (Nat × Ent)) := [(45, [(0, .aload_n 0, 1, (0, 0, 0), 0), (1, .getfield 13, 3, (5, 0, 1), 0), (4, .aload_n 0, 1, (0, 0, 0), 0), (5, .getfield 24, 3, (5, 3, 0), 3), (8, .aaload, 1, (0, 0, 0), 0), (9, .astore_n 2, 1, (0, 0, 0), 0), (10, .aload_n 0, 1, (0, 0, 0), 0), (11, .getfield 20, 3, (5, 2, 1), 2), (14, .invokevirtual 63, 3, (102, 1, 0), 0), (17, .invokestatic 67, 3, (55, 1, 0), 0), (20, .istore_n 3, 1, (0, 0, 0), 0), (21, .iload_n 3, 1, (0, 0, 0), 0), (22, .iconst (-1), 1, (0, 0, 0), 0), (23, .if_icmp .ne 18, 3, (0, 0, 0), 0), (26, .aload_n 0, 1, (0, 0, 0), 0), (27, .getfield 20, 3, (5, 2, 1), 2), (30, .aload_n 0, 1, (0, 0, 0), 0), (31, .getfield 20, 3, (5, 2, 1), 2), (34, .getfield 57, 3, (8, 2, 0), 2), (37, .invokevirtual 60, 3, (104, 2, 0), 0), (40, .ireturn, 1, (0, 0, 3), 0), (41, .aload_n 0, 1, (0, 0, 0), 0), (42, .getfield 20, 3, (5, 2, 1), 2), (45, .dup, 1, (0, 0, 0), 0)]), (79, [(46, .getfield 57, 3, (8, 2, 0), 2), (49, .iconst 1, 1, (0, 0, 0), 0), (50, .iadd, 1, (0, 0, 0), 0), (51, .putfield 57, 3, (8, 2, 0), 2), (54, .aload_n 2, 1, (0, 0, 0), 0), (55, .iload_n 1, 1, (0, 0, 0), 0), (56, .iconst 0, 1, (0, 0, 0), 0), (57, .iadd, 1, (0, 0, 0), 0), (58, .iload_n 3, 1, (0, 0, 0), 0), (59, .iastore, 1, (0, 0, 0), 0), (60, .iload_n 3, 1, (0, 0, 0), 0), (61, .iconst 3, 1, (0, 0, 0), 0), (62, .if_icmp .ne 5, 3, (0, 0, 0), 0), (65, .iconst 1, 1, (0, 0, 0), 0), (66, .ireturn, 1, (0, 0, 3), 0), (67, .aload_n 2, 1, (0, 0, 0), 0), (68, .iload_n 1, 1, (0, 0, 0), 0), (69, .iconst 1, 1, (0, 0, 0), 0), (70, .iadd, 1, (0, 0, 0), 0), (71, .aload_n 0, 1, (0, 0, 0), 0), (72, .getfield 20, 3, (5, 2, 1), 2), (75, .invokevirtual 70, 3, (106, 1, 0), 0), (78, .iastore, 1, (0, 0, 0), 0), (79, .aload_n 2, 1, (0, 0, 0), 0)]), (111, [(80, .iload_n 1, 1, (0, 0, 0), 0), (81, .iconst 1, 1, (0, 0, 0), 0), (82, .iadd, 1, (0, 0, 0), 0), (83, .iaload, 1, (0, 0, 0), 0), (84, .iconst (-1), 1, (0, 0, 0), 0), (85, .if_icmp .ne 5, 3, (0, 0, 0), 0), (88, .iconst 0, 1, (0, 0, 0), 0), (89, .ireturn, 1, (0, 0, 3), 0), (90, .iload_n 3, 1, (0, 0, 0), 0), (91, .ifCond .eq 26, 3, (0, 0, 0), 0), (94, .aload_n 2, 1, (0, 0, 0), 0), (95, .iload_n 1, 1, (0, 0, 0), 0), (96, .iconst 2, 1, (0, 0, 0), 0), (97, .iadd, 1, (0, 0, 0), 0), (98, .aload_n 0, 1, (0, 0, 0), 0), (99, .getfield 20, 3, (5, 2, 1), 2), (102, .invokevirtual 70, 3, (106, 1, 0), 0), (105, .iastore, 1, (0, 0, 0), 0), (106, .aload_n 2, 1, (0, 0, 0), 0), (107, .iload_n 1, 1, (0, 0, 0), 0), (108, .iconst 2, 1, (0, 0, 0), 0), (109, .iadd, 1, (0, 0, 0), 0), (110, .iaload, 1, (0, 0, 0), 0), (111, .iconst (-1), 1, (0, 0, 0), 0)]), (145, [(112, .if_icmp .ne 5, 3, (0, 0, 0), 0), (115, .iconst 0, 1, (0, 0, 0), 0), (116, .ireturn, 1, (0, 0, 3), 0), (117, .aload_n 2, 1, (0, 0, 0), 0), (118, .iload_n 1, 1, (0, 0, 0), 0), (119, .iconst 3, 1, (0, 0, 0), 0), (120, .iadd, 1, (0, 0, 0), 0), (121, .aload_n 0, 1, (0, 0, 0), 0), (122, .getfield 20, 3, (5, 2, 1), 2), (125, .invokevirtual 70, 3, (106, 1, 0), 0), (128, .iastore, 1, (0, 0, 0), 0), (129, .aload_n 2, 1, (0, 0, 0), 0), (130, .iload_n 1, 1, (0, 0, 0), 0), (131, .iconst 3, 1, (0, 0, 0), 0), (132, .iadd, 1, (0, 0, 0), 0), (133, .iaload, 1, (0, 0, 0), 0), (134, .iconst (-1), 1, (0, 0, 0), 0), (135, .if_icmp .ne 5, 3, (0, 0, 0), 0), (138, .iconst 0, 1, (0, 0, 0), 0), (139, .ireturn, 1, (0, 0, 3), 0), (140, .iload_n 3, 1, (0, 0, 0), 0), (141, .iconst 1, 1, (0, 0, 0), 0), (142, .if_icmp .eq 5, 3, (0, 0, 0), 0), (145, .iconst 1, 1, (0, 0, 0), 0)]), (180, [(146, .ireturn, 1, (0, 0, 3), 0), (147, .aload_n 0, 1, (0, 0, 0), 0), (148, .getfield 20, 3, (5, 2, 1), 2), (151, .bipush 44, 2, (0, 0, 0), 0), (153, .invokevirtual 54, 3, (105, 2, 0), 0), (156, .ifCond .ne 5, 3, (0, 0, 0), 0), (159, .iconst 0, 1, (0, 0, 0), 0), (160, .ireturn, 1, (0, 0, 3), 0), (161, .aload_n 2, 1, (0, 0, 0), 0), (162, .iload_n 1, 1, (0, 0, 0), 0), (163, .iconst 4, 1, (0, 0, 0), 0), (164, .iadd, 1, (0, 0, 0), 0), (165, .aload_n 0, 1, (0, 0, 0), 0), (166, .getfield 20, 3, (5, 2, 1), 2), (169, .iconst 2, 1, (0, 0, 0), 0), (170, .invokevirtual 73, 3, (107, 2, 0), 0), (173, .iastore, 1, (0, 0, 0), 0), (174, .aload_n 2, 1, (0, 0, 0), 0), (175, .iload_n 1, 1, (0, 0, 0), 0), (176, .iconst 4, 1, (0, 0, 0), 0), (177, .iadd, 1, (0, 0, 0), 0), (178, .iaload, 1, (0, 0, 0), 0), (179, .iconst (-1), 1, (0, 0, 0), 0), (180, .if_icmp .eq 7, 3, (0, 0, 0), 0)]), (188, [(183, .iconst 1, 1, (0, 0, 0), 0), (184, .goto 4, 3, (0, 0, 0), 0), (187, .iconst 0, 1, (0, 0, 0), 0), (188, .ireturn, 1, (0, 0, 3), 0)])]
def mc_Pl_sortOf : List (Nat × List (Nat × Ent)) := [(53, [(0, .iload_n 0, 1, (0, 0, 0), 0), (1, .lookupswitch 51 #[(100, 49), (104, 43), (115, 45), (116, 47)], 43, (0, 0, 0), 0), (44, .iconst 0, 1, (0, 0, 0), 0), (45, .ireturn, 1, (0, 0, 1), 0), (46, .iconst 1, 1, (0, 0, 0), 0), (47, .ireturn, 1, (0, 0, 1), 0), (48, .iconst 2, 1, (0, 0, 0), 0), (49, .ireturn, 1, (0, 0, 1), 0), (50, .iconst 3, 1, (0, 0, 0), 0), (51, .ireturn, 1, (0, 0, 1), 0), (52, .iconst (-1), 1, (0, 0, 0), 0), (53, .ireturn, 1, (0, 0, 1), 0)])]
def mc_Se_init : List (Nat × List (Nat × Ent)) := []
def mc_Se_findOrders : List (Nat × List (Nat × Ent)) := [(37, [(0, .iload_n 2, 1, (0, 0, 0), 0), (1, .iload_n 1, 1, (0, 0, 0), 0), (2, .iconst (-1), 1, (0, 0, 0), 0), (3, .ixor, 1, (0, 0, 0), 0), (4, .iand, 1, (0, 0, 0), 0), (5, .istore 4, 2, (0, 0, 0), 0), (7, .aload_n 0, 1, (0, 0, 0), 0), (8, .getfield 26, 3, (6, 0, 1), 0), (11, .invokevirtual 34, 3, (28, 1, 0), 0), (14, .istore 5, 2, (0, 0, 0), 0), (16, .iload 5, 2, (0, 0, 0), 0), (18, .ifCond .lt 45, 3, (0, 0, 0), 0), (21, .iload 5, 2, (0, 0, 0), 0), (23, .iload_n 1, 1, (0, 0, 0), 0), (24, .iand, 1, (0, 0, 0), 0), (25, .iload_n 1, 1, (0, 0, 0), 0), (26, .if_icmp .ne 31, 3, (0, 0, 0), 0), (29, .iload 5, 2, (0, 0, 0), 0), (31, .iload_n 1, 1, (0, 0, 0), 0), (32, .iload 4, 2, (0, 0, 0), 0), (34, .ior, 1, (0, 0, 0), 0), (35, .iconst (-1), 1, (0, 0, 0), 0), (36, .ixor, 1, (0, 0, 0), 0), (37, .iand, 1, (0, 0, 0), 0)]), (63, [(38, .ifCond .ne 19, 3, (0, 0, 0), 0), (41, .aload_n 0, 1, (0, 0, 0), 0), (42, .iload 5, 2, (0, 0, 0), 0), (44, .iload_n 2, 1, (0, 0, 0), 0), (45, .iload 4, 2, (0, 0, 0), 0), (47, .iload_n 3, 1, (0, 0, 0), 0), (48, .iand, 1, (0, 0, 0), 0), (49, .iload 5, 2, (0, 0, 0), 0), (51, .iconst (-1), 1, (0, 0, 0), 0), (52, .ixor, 1, (0, 0, 0), 0), (53, .iand, 1, (0, 0, 0), 0), (54, .invokevirtual 38, 3, (58, 4, 0), 0), (57, .iinc 5 (-1), 3, (0, 0, 0), 0), (60, .goto (-44), 3, (0, 0, 0), 0), (63, .return_, 1, (0, 0, 0), 0)])]
def mc_Se_findOrder : List (Nat × List (Nat × Ent)) := [(35, [(0, .aload_n 0, 1, (0, 0, 0), 0), (1, .getfield 13, 3, (6, 2, 1), 2), (4, .iload_n 1, 1, (0, 0, 0), 0), (5, .iload_n 3, 1, (0, 0, 0), 0), (6, .ifCond .ne 7, 3, (0, 0, 0), 0), (9, .iconst 0, 1, (0, 0, 0), 0), (10, .goto 4, 3, (0, 0, 0), 0), (13, .iconst (-1), 1, (0, 0, 0), 0), (14, .iastore, 1, (0, 0, 0), 0), (15, .aload_n 0, 1, (0, 0, 0), 0), (16, .getfield 17, 3, (6, 3, 1), 3), (19, .iload_n 1, 1, (0, 0, 0), 0), (20, .iconst 0, 1, (0, 0, 0), 0), (21, .iastore, 1, (0, 0, 0), 0), (22, .aload_n 0, 1, (0, 0, 0), 0), (23, .getfield 20, 3, (6, 4, 1), 4), (26, .iload_n 1, 1, (0, 0, 0), 0), (27, .iconst 0, 1, (0, 0, 0), 0), (28, .iastore, 1, (0, 0, 0), 0), (29, .iconst 0, 1, (0, 0, 0), 0), (30, .istore 4, 2, (0, 0, 0), 0), (32, .iload 4, 2, (0, 0, 0), 0), (34, .aload_n 0, 1, (0, 0, 0), 0), (35, .getfield 26, 3, (6, 0, 1), 0)]), (84, [(38, .invokevirtual 42, 3, (26, 1, 0), 0), (41, .if_icmp .ge 156, 3, (0, 0, 0), 0), (44, .iload_n 3, 1, (0, 0, 0), 0), (45, .iload 4, 2, (0, 0, 0), 0), (47, .ishr, 1, (0, 0, 0), 0), (48, .iconst 1, 1, (0, 0, 0), 0), (49, .iand, 1, (0, 0, 0), 0), (50, .ifCond .ne 6, 3, (0, 0, 0), 0), (53, .goto 138, 3, (0, 0, 0), 0), (56, .aload_n 0, 1, (0, 0, 0), 0), (57, .getfield 30, 3, (6, 1, 1), 1), (60, .iload_n 1, 1, (0, 0, 0), 0), (61, .iload_n 2, 1, (0, 0, 0), 0), (62, .invokevirtual 45, 3, (14, 3, 0), 0), (65, .aload_n 0, 1, (0, 0, 0), 0), (66, .getfield 30, 3, (6, 1, 1), 1), (69, .iload 4, 2, (0, 0, 0), 0), (71, .invokevirtual 51, 3, (15, 2, 0), 0), (74, .aload_n 0, 1, (0, 0, 0), 0), (75, .getfield 30, 3, (6, 1, 1), 1), (78, .getfield 55, 3, (2, 6, 0), 6), (81, .istore 5, 2, (0, 0, 0), 0), (83, .aload_n 0, 1, (0, 0, 0), 0), (84, .getfield 30, 3, (6, 1, 1), 1)]), (129, [(87, .getfield 59, 3, (2, 5, 0), 5), (90, .aload_n 0, 1, (0, 0, 0), 0), (91, .getfield 13, 3, (6, 2, 1), 2), (94, .iload 5, 2, (0, 0, 0), 0), (96, .iaload, 1, (0, 0, 0), 0), (97, .iadd, 1, (0, 0, 0), 0), (98, .istore 6, 2, (0, 0, 0), 0), (100, .iload 6, 2, (0, 0, 0), 0), (102, .aload_n 0, 1, (0, 0, 0), 0), (103, .getfield 13, 3, (6, 2, 1), 2), (106, .iload_n 1, 1, (0, 0, 0), 0), (107, .iaload, 1, (0, 0, 0), 0), (108, .if_icmp .gt 32, 3, (0, 0, 0), 0), (111, .iload 6, 2, (0, 0, 0), 0), (113, .aload_n 0, 1, (0, 0, 0), 0), (114, .getfield 13, 3, (6, 2, 1), 2), (117, .iload_n 1, 1, (0, 0, 0), 0), (118, .iaload, 1, (0, 0, 0), 0), (119, .if_icmp .ne 72, 3, (0, 0, 0), 0), (122, .aload_n 0, 1, (0, 0, 0), 0), (123, .getfield 17, 3, (6, 3, 1), 3), (126, .iload 5, 2, (0, 0, 0), 0), (128, .iaload, 1, (0, 0, 0), 0), (129, .iconst 1, 1, (0, 0, 0), 0)]), (167, [(130, .iadd, 1, (0, 0, 0), 0), (131, .aload_n 0, 1, (0, 0, 0), 0), (132, .getfield 17, 3, (6, 3, 1), 3), (135, .iload_n 1, 1, (0, 0, 0), 0), (136, .iaload, 1, (0, 0, 0), 0), (137, .if_icmp .ge 54, 3, (0, 0, 0), 0), (140, .aload_n 0, 1, (0, 0, 0), 0), (141, .getfield 13, 3, (6, 2, 1), 2), (144, .iload_n 1, 1, (0, 0, 0), 0), (145, .iload 6, 2, (0, 0, 0), 0), (147, .iastore, 1, (0, 0, 0), 0), (148, .aload_n 0, 1, (0, 0, 0), 0), (149, .getfield 17, 3, (6, 3, 1), 3), (152, .iload_n 1, 1, (0, 0, 0), 0), (153, .aload_n 0, 1, (0, 0, 0), 0), (154, .getfield 17, 3, (6, 3, 1), 3), (157, .iload 5, 2, (0, 0, 0), 0), (159, .iaload, 1, (0, 0, 0), 0), (160, .iconst 1, 1, (0, 0, 0), 0), (161, .iadd, 1, (0, 0, 0), 0), (162, .iastore, 1, (0, 0, 0), 0), (163, .aload_n 0, 1, (0, 0, 0), 0), (164, .getfield 20, 3, (6, 4, 1), 4), (167, .iload_n 1, 1, (0, 0, 0), 0)]), (197, [(168, .iload 4, 2, (0, 0, 0), 0), (170, .getstatic 62, 3, (10, 0, 0), 0), (173, .aload_n 0, 1, (0, 0, 0), 0), (174, .getfield 17, 3, (6, 3, 1), 3), (177, .iload 5, 2, (0, 0, 0), 0), (179, .iaload, 1, (0, 0, 0), 0), (180, .iaload, 1, (0, 0, 0), 0), (181, .imul, 1, (0, 0, 0), 0), (182, .aload_n 0, 1, (0, 0, 0), 0), (183, .getfield 20, 3, (6, 4, 1), 4), (186, .iload 5, 2, (0, 0, 0), 0), (188, .iaload, 1, (0, 0, 0), 0), (189, .iadd, 1, (0, 0, 0), 0), (190, .iastore, 1, (0, 0, 0), 0), (191, .iinc 4 1, 3, (0, 0, 0), 0), (194, .goto (-162), 3, (0, 0, 0), 0), (197, .return_, 1, (0, 0, 0), 0)])]
def mc_Se_fewestLeftOut : List (Nat × List (Nat × Ent)) := [(37, [(0, .aload_n 0, 1, (0, 0, 0), 0), (1, .getfield 26, 3, (6, 0, 1), 0), (4, .invokevirtual 34, 3, (28, 1, 0), 0), (7, .istore_n 1, 1, (0, 0, 0), 0), (8, .aload_n 0, 1, (0, 0, 0), 0), (9, .getfield 13, 3, (6, 2, 1), 2), (12, .iconst 0, 1, (0, 0, 0), 0), (13, .iconst 0, 1, (0, 0, 0), 0), (14, .iastore, 1, (0, 0, 0), 0), (15, .iconst 1, 1, (0, 0, 0), 0), (16, .istore_n 2, 1, (0, 0, 0), 0), (17, .iload_n 2, 1, (0, 0, 0), 0), (18, .iload_n 1, 1, (0, 0, 0), 0), (19, .if_icmp .gt 94, 3, (0, 0, 0), 0), (22, .aload_n 0, 1, (0, 0, 0), 0), (23, .getfield 13, 3, (6, 2, 1), 2), (26, .iload_n 2, 1, (0, 0, 0), 0), (27, .aload_n 0, 1, (0, 0, 0), 0), (28, .getfield 26, 3, (6, 0, 1), 0), (31, .getfield 65, 3, (3, 0, 1), 0), (34, .iconst 2, 1, (0, 0, 0), 0), (35, .iaload, 1, (0, 0, 0), 0), (36, .iastore, 1, (0, 0, 0), 0), (37, .iconst 0, 1, (0, 0, 0), 0)]), (72, [(38, .istore_n 3, 1, (0, 0, 0), 0), (39, .iload_n 3, 1, (0, 0, 0), 0), (40, .aload_n 0, 1, (0, 0, 0), 0), (41, .getfield 26, 3, (6, 0, 1), 0), (44, .invokevirtual 42, 3, (26, 1, 0), 0), (47, .if_icmp .ge 60, 3, (0, 0, 0), 0), (50, .iload_n 2, 1, (0, 0, 0), 0), (51, .iload_n 3, 1, (0, 0, 0), 0), (52, .ishr, 1, (0, 0, 0), 0), (53, .iconst 1, 1, (0, 0, 0), 0), (54, .iand, 1, (0, 0, 0), 0), (55, .iconst 1, 1, (0, 0, 0), 0), (56, .if_icmp .ne 45, 3, (0, 0, 0), 0), (59, .iload_n 2, 1, (0, 0, 0), 0), (60, .iconst 1, 1, (0, 0, 0), 0), (61, .iload_n 3, 1, (0, 0, 0), 0), (62, .ishl, 1, (0, 0, 0), 0), (63, .iconst (-1), 1, (0, 0, 0), 0), (64, .ixor, 1, (0, 0, 0), 0), (65, .iand, 1, (0, 0, 0), 0), (66, .istore 4, 2, (0, 0, 0), 0), (68, .aload_n 0, 1, (0, 0, 0), 0), (69, .getfield 13, 3, (6, 2, 1), 2), (72, .iload_n 2, 1, (0, 0, 0), 0)]), (118, [(73, .aload_n 0, 1, (0, 0, 0), 0), (74, .getfield 13, 3, (6, 2, 1), 2), (77, .iload_n 2, 1, (0, 0, 0), 0), (78, .iaload, 1, (0, 0, 0), 0), (79, .aload_n 0, 1, (0, 0, 0), 0), (80, .getfield 13, 3, (6, 2, 1), 2), (83, .iload 4, 2, (0, 0, 0), 0), (85, .iaload, 1, (0, 0, 0), 0), (86, .aload_n 0, 1, (0, 0, 0), 0), (87, .getfield 26, 3, (6, 0, 1), 0), (90, .iload 4, 2, (0, 0, 0), 0), (92, .iload_n 3, 1, (0, 0, 0), 0), (93, .invokevirtual 68, 3, (38, 3, 0), 0), (96, .iadd, 1, (0, 0, 0), 0), (97, .invokestatic 72, 3, (316, 2, 0), 0), (100, .iastore, 1, (0, 0, 0), 0), (101, .iinc 3 1, 3, (0, 0, 0), 0), (104, .goto (-65), 3, (0, 0, 0), 0), (107, .iinc 2 1, 3, (0, 0, 0), 0), (110, .goto (-93), 3, (0, 0, 0), 0), (113, .aload_n 0, 1, (0, 0, 0), 0), (114, .getfield 13, 3, (6, 2, 1), 2), (117, .iload_n 1, 1, (0, 0, 0), 0), (118, .iaload, 1, (0, 0, 0), 0)]), (119, [(119, .ireturn, 1, (0, 0, 1), 0)])]
def mc_Se_beginMatch : List (Nat × List (Nat × Ent)) := [(16, [(0, .aload_n 0, 1, (0, 0, 0), 0), (1, .getfield 13, 3, (6, 2, 1), 2), (4, .iconst 0, 1, (0, 0, 0), 0), (5, .invokestatic 77, 3, (318, 2, 0), 0), (8, .aload_n 0, 1, (0, 0, 0), 0), (9, .getfield 20, 3, (6, 4, 1), 4), (12, .iconst 0, 1, (0, 0, 0), 0), (13, .invokestatic 77, 3, (318, 2, 0), 0), (16, .return_, 1, (0, 0, 0), 0)])]
def mc_Se_matchPerson : List (Nat × List (Nat × Ent)) := [(39, [(0, .iconst 0, 1, (0, 0, 0), 0), (1, .istore_n 2, 1, (0, 0, 0), 0), (2, .iload_n 2, 1, (0, 0, 0), 0), (3, .aload_n 0, 1, (0, 0, 0), 0), (4, .getfield 26, 3, (6, 0, 1), 0), (7, .invokevirtual 34, 3, (28, 1, 0), 0), (10, .if_icmp .gt 154, 3, (0, 0, 0), 0), (13, .iconst (-1), 1, (0, 0, 0), 0), (14, .istore_n 3, 1, (0, 0, 0), 0), (15, .iconst 0, 1, (0, 0, 0), 0), (16, .istore 4, 2, (0, 0, 0), 0), (18, .iconst 0, 1, (0, 0, 0), 0), (19, .istore 5, 2, (0, 0, 0), 0), (21, .iload 5, 2, (0, 0, 0), 0), (23, .aload_n 0, 1, (0, 0, 0), 0), (24, .getfield 26, 3, (6, 0, 1), 0), (27, .invokevirtual 42, 3, (26, 1, 0), 0), (30, .if_icmp .ge 83, 3, (0, 0, 0), 0), (33, .iload_n 2, 1, (0, 0, 0), 0), (34, .iconst 1, 1, (0, 0, 0), 0), (35, .iload 5, 2, (0, 0, 0), 0), (37, .ishl, 1, (0, 0, 0), 0), (38, .ior, 1, (0, 0, 0), 0), (39, .istore 6, 2, (0, 0, 0), 0)]), (83, [(41, .iload 6, 2, (0, 0, 0), 0), (43, .iload_n 2, 1, (0, 0, 0), 0), (44, .if_icmp .eq 63, 3, (0, 0, 0), 0), (47, .aload_n 0, 1, (0, 0, 0), 0), (48, .getfield 23, 3, (6, 5, 1), 5), (51, .iload 5, 2, (0, 0, 0), 0), (53, .iaload, 1, (0, 0, 0), 0), (54, .iconst (-1), 1, (0, 0, 0), 0), (55, .if_icmp .eq 52, 3, (0, 0, 0), 0), (58, .aload_n 0, 1, (0, 0, 0), 0), (59, .getfield 23, 3, (6, 5, 1), 5), (62, .iload 5, 2, (0, 0, 0), 0), (64, .iaload, 1, (0, 0, 0), 0), (65, .aload_n 0, 1, (0, 0, 0), 0), (66, .getfield 13, 3, (6, 2, 1), 2), (69, .iload 6, 2, (0, 0, 0), 0), (71, .iaload, 1, (0, 0, 0), 0), (72, .iadd, 1, (0, 0, 0), 0), (73, .iload_n 3, 1, (0, 0, 0), 0), (74, .if_icmp .le 33, 3, (0, 0, 0), 0), (77, .aload_n 0, 1, (0, 0, 0), 0), (78, .getfield 23, 3, (6, 5, 1), 5), (81, .iload 5, 2, (0, 0, 0), 0), (83, .iaload, 1, (0, 0, 0), 0)]), (123, [(84, .aload_n 0, 1, (0, 0, 0), 0), (85, .getfield 13, 3, (6, 2, 1), 2), (88, .iload 6, 2, (0, 0, 0), 0), (90, .iaload, 1, (0, 0, 0), 0), (91, .iadd, 1, (0, 0, 0), 0), (92, .istore_n 3, 1, (0, 0, 0), 0), (93, .iload 5, 2, (0, 0, 0), 0), (95, .iload_n 1, 1, (0, 0, 0), 0), (96, .imul, 1, (0, 0, 0), 0), (97, .aload_n 0, 1, (0, 0, 0), 0), (98, .getfield 20, 3, (6, 4, 1), 4), (101, .iload 6, 2, (0, 0, 0), 0), (103, .iaload, 1, (0, 0, 0), 0), (104, .iadd, 1, (0, 0, 0), 0), (105, .istore 4, 2, (0, 0, 0), 0), (107, .iinc 5 1, 3, (0, 0, 0), 0), (110, .goto (-89), 3, (0, 0, 0), 0), (113, .aload_n 0, 1, (0, 0, 0), 0), (114, .getfield 13, 3, (6, 2, 1), 2), (117, .iload_n 2, 1, (0, 0, 0), 0), (118, .iaload, 1, (0, 0, 0), 0), (119, .iload_n 3, 1, (0, 0, 0), 0), (120, .if_icmp .le 23, 3, (0, 0, 0), 0), (123, .aload_n 0, 1, (0, 0, 0), 0)]), (158, [(124, .getfield 13, 3, (6, 2, 1), 2), (127, .iload_n 2, 1, (0, 0, 0), 0), (128, .iaload, 1, (0, 0, 0), 0), (129, .istore_n 3, 1, (0, 0, 0), 0), (130, .bipush 8, 2, (0, 0, 0), 0), (132, .iload_n 1, 1, (0, 0, 0), 0), (133, .imul, 1, (0, 0, 0), 0), (134, .aload_n 0, 1, (0, 0, 0), 0), (135, .getfield 20, 3, (6, 4, 1), 4), (138, .iload_n 2, 1, (0, 0, 0), 0), (139, .iaload, 1, (0, 0, 0), 0), (140, .iadd, 1, (0, 0, 0), 0), (141, .istore 4, 2, (0, 0, 0), 0), (143, .aload_n 0, 1, (0, 0, 0), 0), (144, .getfield 13, 3, (6, 2, 1), 2), (147, .iload_n 2, 1, (0, 0, 0), 0), (148, .iload_n 3, 1, (0, 0, 0), 0), (149, .iastore, 1, (0, 0, 0), 0), (150, .aload_n 0, 1, (0, 0, 0), 0), (151, .getfield 20, 3, (6, 4, 1), 4), (154, .iload_n 2, 1, (0, 0, 0), 0), (155, .iload 4, 2, (0, 0, 0), 0), (157, .iastore, 1, (0, 0, 0), 0), (158, .iinc 2 1, 3, (0, 0, 0), 0)]), (164, [(161, .goto (-159), 3, (0, 0, 0), 0), (164, .return_, 1, (0, 0, 0), 0)])]
def mc_St_init : List (Nat × List (Nat × Ent)) := []
def mc_St_begin : List (Nat × List (Nat × Ent)) := [(41, [(0, .aload_n 0, 1, (0, 0, 0), 0), (1, .getfield 13, 3, (7, 1, 1), 1), (4, .iconst 0, 1, (0, 0, 0), 0), (5, .invokestatic 21, 3, (318, 2, 0), 0), (8, .iconst 0, 1, (0, 0, 0), 0), (9, .istore_n 1, 1, (0, 0, 0), 0), (10, .iload_n 1, 1, (0, 0, 0), 0), (11, .aload_n 0, 1, (0, 0, 0), 0), (12, .getfield 17, 3, (7, 0, 1), 0), (15, .invokevirtual 27, 3, (27, 1, 0), 0), (18, .if_icmp .ge 79, 3, (0, 0, 0), 0), (21, .aload_n 0, 1, (0, 0, 0), 0), (22, .getfield 13, 3, (7, 1, 1), 1), (25, .iload_n 1, 1, (0, 0, 0), 0), (26, .iconst 0, 1, (0, 0, 0), 0), (27, .invokestatic 31, 3, (65, 2, 0), 0), (30, .aload_n 0, 1, (0, 0, 0), 0), (31, .getfield 17, 3, (7, 0, 1), 0), (34, .iconst 1, 1, (0, 0, 0), 0), (35, .iload_n 1, 1, (0, 0, 0), 0), (36, .iconst 0, 1, (0, 0, 0), 0), (37, .invokevirtual 35, 3, (24, 4, 0), 0), (40, .iastore, 1, (0, 0, 0), 0), (41, .aload_n 0, 1, (0, 0, 0), 0)]), (83, [(42, .getfield 13, 3, (7, 1, 1), 1), (45, .iload_n 1, 1, (0, 0, 0), 0), (46, .iconst 1, 1, (0, 0, 0), 0), (47, .invokestatic 31, 3, (65, 2, 0), 0), (50, .aload_n 0, 1, (0, 0, 0), 0), (51, .getfield 17, 3, (7, 0, 1), 0), (54, .iconst 1, 1, (0, 0, 0), 0), (55, .iload_n 1, 1, (0, 0, 0), 0), (56, .iconst 1, 1, (0, 0, 0), 0), (57, .invokevirtual 35, 3, (24, 4, 0), 0), (60, .iastore, 1, (0, 0, 0), 0), (61, .iconst 0, 1, (0, 0, 0), 0), (62, .istore_n 2, 1, (0, 0, 0), 0), (63, .iload_n 2, 1, (0, 0, 0), 0), (64, .aload_n 0, 1, (0, 0, 0), 0), (65, .getfield 17, 3, (7, 0, 1), 0), (68, .invokevirtual 39, 3, (26, 1, 0), 0), (71, .if_icmp .ge 20, 3, (0, 0, 0), 0), (74, .aload_n 0, 1, (0, 0, 0), 0), (75, .getfield 13, 3, (7, 1, 1), 1), (78, .iload_n 1, 1, (0, 0, 0), 0), (79, .iload_n 2, 1, (0, 0, 0), 0), (80, .invokestatic 42, 3, (66, 2, 0), 0), (83, .iconst 1, 1, (0, 0, 0), 0)]), (97, [(84, .iastore, 1, (0, 0, 0), 0), (85, .iinc 2 1, 3, (0, 0, 0), 0), (88, .goto (-25), 3, (0, 0, 0), 0), (91, .iinc 1 1, 3, (0, 0, 0), 0), (94, .goto (-84), 3, (0, 0, 0), 0), (97, .return_, 1, (0, 0, 0), 0)])]
def mc_St_takeOver : List (Nat × List (Nat × Ent)) := [(13, [(0, .aload_n 1, 1, (0, 0, 0), 0), (1, .iconst 0, 1, (0, 0, 0), 0), (2, .aload_n 0, 1, (0, 0, 0), 0), (3, .getfield 13, 3, (7, 1, 1), 1), (6, .iconst 0, 1, (0, 0, 0), 0), (7, .sipush 175, 3, (0, 0, 0), 0), (10, .invokestatic 45, 3, (0, 0, 2), 0), (13, .return_, 1, (0, 0, 0), 0)])]
def mc_St_ofPerson : List (Nat × List (Nat × Ent)) := [(7, [(0, .iconst 3, 1, (0, 0, 0), 0), (1, .iload_n 0, 1, (0, 0, 0), 0), (2, .iconst 4, 1, (0, 0, 0), 0), (3, .imul, 1, (0, 0, 0), 0), (4, .iadd, 1, (0, 0, 0), 0), (5, .iload_n 1, 1, (0, 0, 0), 0), (6, .iadd, 1, (0, 0, 0), 0), (7, .ireturn, 1, (0, 0, 1), 0)])]
def mc_St_holding : List (Nat × List (Nat × Ent)) := [(9, [(0, .bipush 27, 2, (0, 0, 0), 0), (2, .iload_n 0, 1, (0, 0, 0), 0), (3, .bipush 8, 2, (0, 0, 0), 0), (5, .imul, 1, (0, 0, 0), 0), (6, .iadd, 1, (0, 0, 0), 0), (7, .iload_n 1, 1, (0, 0, 0), 0), (8, .iadd, 1, (0, 0, 0), 0), (9, .ireturn, 1, (0, 0, 1), 0)])]
def mc_St_inPledge : List (Nat × List (Nat × Ent)) := [(8, [(0, .bipush 75, 2, (0, 0, 0), 0), (2, .iload_n 0, 1, (0, 0, 0), 0), (3, .iconst 5, 1, (0, 0, 0), 0), (4, .imul, 1, (0, 0, 0), 0), (5, .iadd, 1, (0, 0, 0), 0), (6, .iload_n 1, 1, (0, 0, 0), 0), (7, .iadd, 1, (0, 0, 0), 0), (8, .ireturn, 1, (0, 0, 1), 0)])]
def mc_St_today : List (Nat × List (Nat × Ent)) := [(6, [(0, .aload_n 0, 1, (0, 0, 0), 0), (1, .getfield 13, 3, (7, 1, 1), 1), (4, .iconst 0, 1, (0, 0, 0), 0), (5, .iaload, 1, (0, 0, 0), 0), (6, .ireturn, 1, (0, 0, 1), 0)])]
def mc_St_moneyOf : List (Nat × List (Nat × Ent)) := [(10, [(0, .aload_n 0, 1, (0, 0, 0), 0), (1, .getfield 13, 3, (7, 1, 1), 1), (4, .iload_n 1, 1, (0, 0, 0), 0), (5, .iconst 0, 1, (0, 0, 0), 0), (6, .invokestatic 31, 3, (65, 2, 0), 0), (9, .iaload, 1, (0, 0, 0), 0), (10, .ireturn, 1, (0, 0, 1), 0)])]
def mc_St_ageOf : List (Nat × List (Nat × Ent)) := [(10, [(0, .aload_n 0, 1, (0, 0, 0), 0), (1, .getfield 13, 3, (7, 1, 1), 1), (4, .iload_n 1, 1, (0, 0, 0), 0), (5, .iconst 1, 1, (0, 0, 0), 0), (6, .invokestatic 31, 3, (65, 2, 0), 0), (9, .iaload, 1, (0, 0, 0), 0), (10, .ireturn, 1, (0, 0, 1), 0)])]
def mc_St_joyBy : List (Nat × List (Nat × Ent)) := [(10, [(0, .aload_n 0, 1, (0, 0, 0), 0), (1, .getfield 13, 3, (7, 1, 1), 1), (4, .iload_n 1, 1, (0, 0, 0), 0), (5, .iconst 2, 1, (0, 0, 0), 0), (6, .invokestatic 31, 3, (65, 2, 0), 0), (9, .iaload, 1, (0, 0, 0), 0), (10, .ireturn, 1, (0, 0, 1), 0)])]
def mc_St_hadBy : List (Nat × List (Nat × Ent)) := [(10, [(0, .aload_n 0, 1, (0, 0, 0), 0), (1, .getfield 13, 3, (7, 1, 1), 1), (4, .iload_n 1, 1, (0, 0, 0), 0), (5, .iconst 3, 1, (0, 0, 0), 0), (6, .invokestatic 31, 3, (65, 2, 0), 0), (9, .iaload, 1, (0, 0, 0), 0), (10, .ireturn, 1, (0, 0, 1), 0)])]
def mc_St_heldOf : List (Nat × List (Nat × Ent)) := [(10, [(0, .aload_n 0, 1, (0, 0, 0), 0), (1, .getfield 13, 3, (7, 1, 1), 1), (4, .iload_n 1, 1, (0, 0, 0), 0), (5, .iload_n 2, 1, (0, 0, 0), 0), (6, .invokestatic 42, 3, (66, 2, 0), 0), (9, .iaload, 1, (0, 0, 0), 0), (10, .ireturn, 1, (0, 0, 1), 0)])]
def mc_St_heldBy : List (Nat × List (Nat × Ent)) := [(37, [(0, .iconst 0, 1, (0, 0, 0), 0), (1, .istore_n 2, 1, (0, 0, 0), 0), (2, .iconst 0, 1, (0, 0, 0), 0), (3, .istore_n 3, 1, (0, 0, 0), 0), (4, .iload_n 3, 1, (0, 0, 0), 0), (5, .aload_n 0, 1, (0, 0, 0), 0), (6, .getfield 17, 3, (7, 0, 1), 0), (9, .invokevirtual 39, 3, (26, 1, 0), 0), (12, .if_icmp .ge 24, 3, (0, 0, 0), 0), (15, .aload_n 0, 1, (0, 0, 0), 0), (16, .iload_n 1, 1, (0, 0, 0), 0), (17, .iload_n 3, 1, (0, 0, 0), 0), (18, .invokevirtual 51, 3, (73, 3, 0), 0), (21, .ifCond .le 9, 3, (0, 0, 0), 0), (24, .iload_n 2, 1, (0, 0, 0), 0), (25, .iconst 1, 1, (0, 0, 0), 0), (26, .iload_n 3, 1, (0, 0, 0), 0), (27, .ishl, 1, (0, 0, 0), 0), (28, .ior, 1, (0, 0, 0), 0), (29, .istore_n 2, 1, (0, 0, 0), 0), (30, .iinc 3 1, 3, (0, 0, 0), 0), (33, .goto (-29), 3, (0, 0, 0), 0), (36, .iload_n 2, 1, (0, 0, 0), 0), (37, .ireturn, 1, (0, 0, 1), 0)])]
def mc_St_heldByAny : List (Nat × List (Nat × Ent)) := [(30, [(0, .iconst 0, 1, (0, 0, 0), 0), (1, .istore_n 1, 1, (0, 0, 0), 0), (2, .iconst 0, 1, (0, 0, 0), 0), (3, .istore_n 2, 1, (0, 0, 0), 0), (4, .iload_n 2, 1, (0, 0, 0), 0), (5, .aload_n 0, 1, (0, 0, 0), 0), (6, .getfield 17, 3, (7, 0, 1), 0), (9, .invokevirtual 27, 3, (27, 1, 0), 0), (12, .if_icmp .ge 17, 3, (0, 0, 0), 0), (15, .iload_n 1, 1, (0, 0, 0), 0), (16, .aload_n 0, 1, (0, 0, 0), 0), (17, .iload_n 2, 1, (0, 0, 0), 0), (18, .invokevirtual 54, 3, (74, 2, 0), 0), (21, .ior, 1, (0, 0, 0), 0), (22, .istore_n 1, 1, (0, 0, 0), 0), (23, .iinc 2 1, 3, (0, 0, 0), 0), (26, .goto (-22), 3, (0, 0, 0), 0), (29, .iload_n 1, 1, (0, 0, 0), 0), (30, .ireturn, 1, (0, 0, 1), 0)])]
def mc_St_joyOfAll : List (Nat × List (Nat × Ent)) := [(30, [(0, .iconst 0, 1, (0, 0, 0), 0), (1, .istore_n 1, 1, (0, 0, 0), 0), (2, .iconst 0, 1, (0, 0, 0), 0), (3, .istore_n 2, 1, (0, 0, 0), 0), (4, .iload_n 2, 1, (0, 0, 0), 0), (5, .aload_n 0, 1, (0, 0, 0), 0), (6, .getfield 17, 3, (7, 0, 1), 0), (9, .invokevirtual 27, 3, (27, 1, 0), 0), (12, .if_icmp .ge 17, 3, (0, 0, 0), 0), (15, .iload_n 1, 1, (0, 0, 0), 0), (16, .aload_n 0, 1, (0, 0, 0), 0), (17, .iload_n 2, 1, (0, 0, 0), 0), (18, .invokevirtual 58, 3, (71, 2, 0), 0), (21, .iadd, 1, (0, 0, 0), 0), (22, .istore_n 1, 1, (0, 0, 0), 0), (23, .iinc 2 1, 3, (0, 0, 0), 0), (26, .goto (-22), 3, (0, 0, 0), 0), (29, .iload_n 1, 1, (0, 0, 0), 0), (30, .ireturn, 1, (0, 0, 1), 0)])]
def mc_St_leftOf : List (Nat × List (Nat × Ent)) := [(37, [(0, .iconst 0, 1, (0, 0, 0), 0), (1, .istore_n 2, 1, (0, 0, 0), 0), (2, .iconst 0, 1, (0, 0, 0), 0), (3, .istore_n 3, 1, (0, 0, 0), 0), (4, .iload_n 3, 1, (0, 0, 0), 0), (5, .aload_n 0, 1, (0, 0, 0), 0), (6, .getfield 17, 3, (7, 0, 1), 0), (9, .invokevirtual 27, 3, (27, 1, 0), 0), (12, .if_icmp .ge 18, 3, (0, 0, 0), 0), (15, .iload_n 2, 1, (0, 0, 0), 0), (16, .aload_n 0, 1, (0, 0, 0), 0), (17, .iload_n 3, 1, (0, 0, 0), 0), (18, .iload_n 1, 1, (0, 0, 0), 0), (19, .invokevirtual 51, 3, (73, 3, 0), 0), (22, .iadd, 1, (0, 0, 0), 0), (23, .istore_n 2, 1, (0, 0, 0), 0), (24, .iinc 3 1, 3, (0, 0, 0), 0), (27, .goto (-23), 3, (0, 0, 0), 0), (30, .iconst 0, 1, (0, 0, 0), 0), (31, .istore_n 3, 1, (0, 0, 0), 0), (32, .iload_n 3, 1, (0, 0, 0), 0), (33, .aload_n 0, 1, (0, 0, 0), 0), (34, .invokevirtual 61, 3, (85, 1, 0), 0), (37, .if_icmp .ge 27, 3, (0, 0, 0), 0)]), (65, [(40, .iload_n 2, 1, (0, 0, 0), 0), (41, .aload_n 0, 1, (0, 0, 0), 0), (42, .iload_n 3, 1, (0, 0, 0), 0), (43, .iconst 2, 1, (0, 0, 0), 0), (44, .invokevirtual 64, 3, (88, 3, 0), 0), (47, .iload_n 1, 1, (0, 0, 0), 0), (48, .if_icmp .ne 7, 3, (0, 0, 0), 0), (51, .iconst 1, 1, (0, 0, 0), 0), (52, .goto 4, 3, (0, 0, 0), 0), (55, .iconst 0, 1, (0, 0, 0), 0), (56, .iadd, 1, (0, 0, 0), 0), (57, .istore_n 2, 1, (0, 0, 0), 0), (58, .iinc 3 1, 3, (0, 0, 0), 0), (61, .goto (-29), 3, (0, 0, 0), 0), (64, .iload_n 2, 1, (0, 0, 0), 0), (65, .ireturn, 1, (0, 0, 1), 0)])]
def mc_St_lowestOtherHolder : List (Nat × List (Nat × Ent)) := [(32, [(0, .iconst 0, 1, (0, 0, 0), 0), (1, .istore_n 3, 1, (0, 0, 0), 0), (2, .iload_n 3, 1, (0, 0, 0), 0), (3, .aload_n 0, 1, (0, 0, 0), 0), (4, .getfield 17, 3, (7, 0, 1), 0), (7, .invokevirtual 27, 3, (27, 1, 0), 0), (10, .if_icmp .ge 21, 3, (0, 0, 0), 0), (13, .aload_n 0, 1, (0, 0, 0), 0), (14, .iload_n 1, 1, (0, 0, 0), 0), (15, .iload_n 3, 1, (0, 0, 0), 0), (16, .iload_n 2, 1, (0, 0, 0), 0), (17, .invokevirtual 67, 3, (81, 4, 0), 0), (20, .ifCond .eq 5, 3, (0, 0, 0), 0), (23, .iload_n 3, 1, (0, 0, 0), 0), (24, .ireturn, 1, (0, 0, 1), 0), (25, .iinc 3 1, 3, (0, 0, 0), 0), (28, .goto (-26), 3, (0, 0, 0), 0), (31, .iconst (-1), 1, (0, 0, 0), 0), (32, .ireturn, 1, (0, 0, 1), 0)])]
def mc_St_mayHave : List (Nat × List (Nat × Ent)) := [(26, [(0, .aload_n 0, 1, (0, 0, 0), 0), (1, .getfield 17, 3, (7, 0, 1), 0), (4, .iload_n 1, 1, (0, 0, 0), 0), (5, .iload_n 2, 1, (0, 0, 0), 0), (6, .invokevirtual 71, 3, (31, 3, 0), 0), (9, .ifCond .eq 16, 3, (0, 0, 0), 0), (12, .aload_n 0, 1, (0, 0, 0), 0), (13, .iload_n 1, 1, (0, 0, 0), 0), (14, .iload_n 2, 1, (0, 0, 0), 0), (15, .invokevirtual 51, 3, (73, 3, 0), 0), (18, .ifCond .le 7, 3, (0, 0, 0), 0), (21, .iconst 1, 1, (0, 0, 0), 0), (22, .goto 4, 3, (0, 0, 0), 0), (25, .iconst 0, 1, (0, 0, 0), 0), (26, .ireturn, 1, (0, 0, 3), 0)])]
def mc_St_maySell : List (Nat × List (Nat × Ent)) := [(47, [(0, .aload_n 0, 1, (0, 0, 0), 0), (1, .iload_n 1, 1, (0, 0, 0), 0), (2, .iload_n 3, 1, (0, 0, 0), 0), (3, .invokevirtual 75, 3, (79, 3, 0), 0), (6, .ifCond .eq 45, 3, (0, 0, 0), 0), (9, .aload_n 0, 1, (0, 0, 0), 0), (10, .getfield 17, 3, (7, 0, 1), 0), (13, .iload_n 2, 1, (0, 0, 0), 0), (14, .invokevirtual 78, 3, (30, 2, 0), 0), (17, .ifCond .eq 34, 3, (0, 0, 0), 0), (20, .iload_n 1, 1, (0, 0, 0), 0), (21, .iload_n 2, 1, (0, 0, 0), 0), (22, .if_icmp .eq 29, 3, (0, 0, 0), 0), (25, .iload 4, 2, (0, 0, 0), 0), (27, .ifCond .lt 24, 3, (0, 0, 0), 0), (30, .iload 4, 2, (0, 0, 0), 0), (32, .bipush 99, 2, (0, 0, 0), 0), (34, .if_icmp .gt 17, 3, (0, 0, 0), 0), (37, .aload_n 0, 1, (0, 0, 0), 0), (38, .iload_n 2, 1, (0, 0, 0), 0), (39, .invokevirtual 82, 3, (69, 2, 0), 0), (42, .iload 4, 2, (0, 0, 0), 0), (44, .if_icmp .lt 7, 3, (0, 0, 0), 0), (47, .iconst 1, 1, (0, 0, 0), 0)]), (52, [(48, .goto 4, 3, (0, 0, 0), 0), (51, .iconst 0, 1, (0, 0, 0), 0), (52, .ireturn, 1, (0, 0, 3), 0)])]
def mc_St_maySteal : List (Nat × List (Nat × Ent)) := [(30, [(0, .aload_n 0, 1, (0, 0, 0), 0), (1, .getfield 17, 3, (7, 0, 1), 0), (4, .iload_n 1, 1, (0, 0, 0), 0), (5, .invokevirtual 78, 3, (30, 2, 0), 0), (8, .ifCond .eq 21, 3, (0, 0, 0), 0), (11, .iload_n 1, 1, (0, 0, 0), 0), (12, .iload_n 2, 1, (0, 0, 0), 0), (13, .if_icmp .eq 16, 3, (0, 0, 0), 0), (16, .aload_n 0, 1, (0, 0, 0), 0), (17, .iload_n 2, 1, (0, 0, 0), 0), (18, .iload_n 3, 1, (0, 0, 0), 0), (19, .invokevirtual 75, 3, (79, 3, 0), 0), (22, .ifCond .eq 7, 3, (0, 0, 0), 0), (25, .iconst 1, 1, (0, 0, 0), 0), (26, .goto 4, 3, (0, 0, 0), 0), (29, .iconst 0, 1, (0, 0, 0), 0), (30, .ireturn, 1, (0, 0, 3), 0)])]
def mc_St_doSell : List (Nat × List (Nat × Ent)) := [(15, [(0, .aload_n 0, 1, (0, 0, 0), 0), (1, .iload_n 2, 1, (0, 0, 0), 0), (2, .iload_n 1, 1, (0, 0, 0), 0), (3, .iload 4, 2, (0, 0, 0), 0), (5, .invokevirtual 85, 3, (84, 4, 0), 0), (8, .aload_n 0, 1, (0, 0, 0), 0), (9, .iload_n 2, 1, (0, 0, 0), 0), (10, .iload_n 1, 1, (0, 0, 0), 0), (11, .iload_n 3, 1, (0, 0, 0), 0), (12, .invokevirtual 89, 3, (83, 4, 0), 0), (15, .return_, 1, (0, 0, 0), 0)])]
def mc_St_doSteal : List (Nat × List (Nat × Ent)) := [(28, [(0, .aload_n 0, 1, (0, 0, 0), 0), (1, .getfield 13, 3, (7, 1, 1), 1), (4, .iload_n 2, 1, (0, 0, 0), 0), (5, .iload_n 3, 1, (0, 0, 0), 0), (6, .invokestatic 42, 3, (66, 2, 0), 0), (9, .dup2, 1, (0, 0, 0), 0), (10, .iaload, 1, (0, 0, 0), 0), (11, .iconst 1, 1, (0, 0, 0), 0), (12, .isub, 1, (0, 0, 0), 0), (13, .iastore, 1, (0, 0, 0), 0), (14, .aload_n 0, 1, (0, 0, 0), 0), (15, .getfield 13, 3, (7, 1, 1), 1), (18, .iload_n 1, 1, (0, 0, 0), 0), (19, .iload_n 3, 1, (0, 0, 0), 0), (20, .invokestatic 42, 3, (66, 2, 0), 0), (23, .dup2, 1, (0, 0, 0), 0), (24, .iaload, 1, (0, 0, 0), 0), (25, .iconst 1, 1, (0, 0, 0), 0), (26, .iadd, 1, (0, 0, 0), 0), (27, .iastore, 1, (0, 0, 0), 0), (28, .return_, 1, (0, 0, 0), 0)])]
def mc_St_pay : List (Nat × List (Nat × Ent)) := [(28, [(0, .aload_n 0, 1, (0, 0, 0), 0), (1, .getfield 13, 3, (7, 1, 1), 1), (4, .iload_n 1, 1, (0, 0, 0), 0), (5, .iconst 0, 1, (0, 0, 0), 0), (6, .invokestatic 31, 3, (65, 2, 0), 0), (9, .dup2, 1, (0, 0, 0), 0), (10, .iaload, 1, (0, 0, 0), 0), (11, .iload_n 3, 1, (0, 0, 0), 0), (12, .isub, 1, (0, 0, 0), 0), (13, .iastore, 1, (0, 0, 0), 0), (14, .aload_n 0, 1, (0, 0, 0), 0), (15, .getfield 13, 3, (7, 1, 1), 1), (18, .iload_n 2, 1, (0, 0, 0), 0), (19, .iconst 0, 1, (0, 0, 0), 0), (20, .invokestatic 31, 3, (65, 2, 0), 0), (23, .dup2, 1, (0, 0, 0), 0), (24, .iaload, 1, (0, 0, 0), 0), (25, .iload_n 3, 1, (0, 0, 0), 0), (26, .iadd, 1, (0, 0, 0), 0), (27, .iastore, 1, (0, 0, 0), 0), (28, .return_, 1, (0, 0, 0), 0)])]
def mc_St_pledgeCount : List (Nat × List (Nat × Ent)) := [(6, [(0, .aload_n 0, 1, (0, 0, 0), 0), (1, .getfield 13, 3, (7, 1, 1), 1), (4, .iconst 1, 1, (0, 0, 0), 0), (5, .iaload, 1, (0, 0, 0), 0), (6, .ireturn, 1, (0, 0, 1), 0)])]
def mc_St_pledgesFull : List (Nat × List (Nat × Ent)) := [(14, [(0, .aload_n 0, 1, (0, 0, 0), 0), (1, .invokevirtual 61, 3, (85, 1, 0), 0), (4, .bipush 8, 2, (0, 0, 0), 0), (6, .if_icmp .lt 7, 3, (0, 0, 0), 0), (9, .iconst 1, 1, (0, 0, 0), 0), (10, .goto 4, 3, (0, 0, 0), 0), (13, .iconst 0, 1, (0, 0, 0), 0), (14, .ireturn, 1, (0, 0, 3), 0)])]
def mc_St_hasPledge : List (Nat × List (Nat × Ent)) := [(17, [(0, .iload_n 1, 1, (0, 0, 0), 0), (1, .ifCond .lt 15, 3, (0, 0, 0), 0), (4, .iload_n 1, 1, (0, 0, 0), 0), (5, .aload_n 0, 1, (0, 0, 0), 0), (6, .invokevirtual 61, 3, (85, 1, 0), 0), (9, .if_icmp .ge 7, 3, (0, 0, 0), 0), (12, .iconst 1, 1, (0, 0, 0), 0), (13, .goto 4, 3, (0, 0, 0), 0), (16, .iconst 0, 1, (0, 0, 0), 0), (17, .ireturn, 1, (0, 0, 3), 0)])]
def mc_St_ofPledge : List (Nat × List (Nat × Ent)) := [(10, [(0, .aload_n 0, 1, (0, 0, 0), 0), (1, .getfield 13, 3, (7, 1, 1), 1), (4, .iload_n 1, 1, (0, 0, 0), 0), (5, .iload_n 2, 1, (0, 0, 0), 0), (6, .invokestatic 92, 3, (67, 2, 0), 0), (9, .iaload, 1, (0, 0, 0), 0), (10, .ireturn, 1, (0, 0, 1), 0)])]
def mc_St_doPledge : List (Nat × List (Nat × Ent)) := [(38, [(0, .aload_n 0, 1, (0, 0, 0), 0), (1, .invokevirtual 61, 3, (85, 1, 0), 0), (4, .istore 6, 2, (0, 0, 0), 0), (6, .aload_n 0, 1, (0, 0, 0), 0), (7, .iload_n 2, 1, (0, 0, 0), 0), (8, .iload_n 1, 1, (0, 0, 0), 0), (9, .iload 4, 2, (0, 0, 0), 0), (11, .invokevirtual 85, 3, (84, 4, 0), 0), (14, .aload_n 0, 1, (0, 0, 0), 0), (15, .getfield 13, 3, (7, 1, 1), 1), (18, .iload_n 1, 1, (0, 0, 0), 0), (19, .iload_n 3, 1, (0, 0, 0), 0), (20, .invokestatic 42, 3, (66, 2, 0), 0), (23, .dup2, 1, (0, 0, 0), 0), (24, .iaload, 1, (0, 0, 0), 0), (25, .iconst 1, 1, (0, 0, 0), 0), (26, .isub, 1, (0, 0, 0), 0), (27, .iastore, 1, (0, 0, 0), 0), (28, .aload_n 0, 1, (0, 0, 0), 0), (29, .getfield 13, 3, (7, 1, 1), 1), (32, .iload 6, 2, (0, 0, 0), 0), (34, .iconst 0, 1, (0, 0, 0), 0), (35, .invokestatic 92, 3, (67, 2, 0), 0), (38, .iload_n 1, 1, (0, 0, 0), 0)]), (78, [(39, .iastore, 1, (0, 0, 0), 0), (40, .aload_n 0, 1, (0, 0, 0), 0), (41, .getfield 13, 3, (7, 1, 1), 1), (44, .iload 6, 2, (0, 0, 0), 0), (46, .iconst 1, 1, (0, 0, 0), 0), (47, .invokestatic 92, 3, (67, 2, 0), 0), (50, .iload_n 2, 1, (0, 0, 0), 0), (51, .iastore, 1, (0, 0, 0), 0), (52, .aload_n 0, 1, (0, 0, 0), 0), (53, .getfield 13, 3, (7, 1, 1), 1), (56, .iload 6, 2, (0, 0, 0), 0), (58, .iconst 2, 1, (0, 0, 0), 0), (59, .invokestatic 92, 3, (67, 2, 0), 0), (62, .iload_n 3, 1, (0, 0, 0), 0), (63, .iastore, 1, (0, 0, 0), 0), (64, .aload_n 0, 1, (0, 0, 0), 0), (65, .getfield 13, 3, (7, 1, 1), 1), (68, .iload 6, 2, (0, 0, 0), 0), (70, .iconst 3, 1, (0, 0, 0), 0), (71, .invokestatic 92, 3, (67, 2, 0), 0), (74, .iload 4, 2, (0, 0, 0), 0), (76, .iastore, 1, (0, 0, 0), 0), (77, .aload_n 0, 1, (0, 0, 0), 0), (78, .getfield 13, 3, (7, 1, 1), 1)]), (105, [(81, .iload 6, 2, (0, 0, 0), 0), (83, .iconst 4, 1, (0, 0, 0), 0), (84, .invokestatic 92, 3, (67, 2, 0), 0), (87, .aload_n 0, 1, (0, 0, 0), 0), (88, .invokevirtual 95, 3, (68, 1, 0), 0), (91, .iload 5, 2, (0, 0, 0), 0), (93, .iadd, 1, (0, 0, 0), 0), (94, .iastore, 1, (0, 0, 0), 0), (95, .aload_n 0, 1, (0, 0, 0), 0), (96, .getfield 13, 3, (7, 1, 1), 1), (99, .iconst 1, 1, (0, 0, 0), 0), (100, .dup2, 1, (0, 0, 0), 0), (101, .iaload, 1, (0, 0, 0), 0), (102, .iconst 1, 1, (0, 0, 0), 0), (103, .iadd, 1, (0, 0, 0), 0), (104, .iastore, 1, (0, 0, 0), 0), (105, .return_, 1, (0, 0, 0), 0)])]
def mc_St_mayRedeem : List (Nat × List (Nat × Ent)) := [(32, [(0, .aload_n 0, 1, (0, 0, 0), 0), (1, .iload_n 1, 1, (0, 0, 0), 0), (2, .invokevirtual 98, 3, (87, 2, 0), 0), (5, .ifCond .eq 26, 3, (0, 0, 0), 0), (8, .aload_n 0, 1, (0, 0, 0), 0), (9, .aload_n 0, 1, (0, 0, 0), 0), (10, .iload_n 1, 1, (0, 0, 0), 0), (11, .iconst 0, 1, (0, 0, 0), 0), (12, .invokevirtual 64, 3, (88, 3, 0), 0), (15, .invokevirtual 82, 3, (69, 2, 0), 0), (18, .aload_n 0, 1, (0, 0, 0), 0), (19, .iload_n 1, 1, (0, 0, 0), 0), (20, .iconst 3, 1, (0, 0, 0), 0), (21, .invokevirtual 64, 3, (88, 3, 0), 0), (24, .if_icmp .le 7, 3, (0, 0, 0), 0), (27, .iconst 1, 1, (0, 0, 0), 0), (28, .goto 4, 3, (0, 0, 0), 0), (31, .iconst 0, 1, (0, 0, 0), 0), (32, .ireturn, 1, (0, 0, 3), 0)])]
def mc_St_doRedeem : List (Nat × List (Nat × Ent)) := [(32, [(0, .aload_n 0, 1, (0, 0, 0), 0), (1, .iload_n 1, 1, (0, 0, 0), 0), (2, .iconst 0, 1, (0, 0, 0), 0), (3, .invokevirtual 64, 3, (88, 3, 0), 0), (6, .istore_n 2, 1, (0, 0, 0), 0), (7, .aload_n 0, 1, (0, 0, 0), 0), (8, .iload_n 2, 1, (0, 0, 0), 0), (9, .aload_n 0, 1, (0, 0, 0), 0), (10, .iload_n 1, 1, (0, 0, 0), 0), (11, .iconst 1, 1, (0, 0, 0), 0), (12, .invokevirtual 64, 3, (88, 3, 0), 0), (15, .aload_n 0, 1, (0, 0, 0), 0), (16, .iload_n 1, 1, (0, 0, 0), 0), (17, .iconst 3, 1, (0, 0, 0), 0), (18, .invokevirtual 64, 3, (88, 3, 0), 0), (21, .iconst 1, 1, (0, 0, 0), 0), (22, .iadd, 1, (0, 0, 0), 0), (23, .invokevirtual 85, 3, (84, 4, 0), 0), (26, .aload_n 0, 1, (0, 0, 0), 0), (27, .iload_n 1, 1, (0, 0, 0), 0), (28, .iload_n 2, 1, (0, 0, 0), 0), (29, .invokevirtual 101, 3, (92, 3, 0), 0), (32, .return_, 1, (0, 0, 0), 0)])]
def mc_St_handOver : List (Nat × List (Nat × Ent)) := [(33, [(0, .aload_n 0, 1, (0, 0, 0), 0), (1, .getfield 13, 3, (7, 1, 1), 1), (4, .iload_n 2, 1, (0, 0, 0), 0), (5, .aload_n 0, 1, (0, 0, 0), 0), (6, .iload_n 1, 1, (0, 0, 0), 0), (7, .iconst 2, 1, (0, 0, 0), 0), (8, .invokevirtual 64, 3, (88, 3, 0), 0), (11, .invokestatic 42, 3, (66, 2, 0), 0), (14, .dup2, 1, (0, 0, 0), 0), (15, .iaload, 1, (0, 0, 0), 0), (16, .iconst 1, 1, (0, 0, 0), 0), (17, .iadd, 1, (0, 0, 0), 0), (18, .iastore, 1, (0, 0, 0), 0), (19, .iload_n 1, 1, (0, 0, 0), 0), (20, .iconst 1, 1, (0, 0, 0), 0), (21, .iadd, 1, (0, 0, 0), 0), (22, .iconst 0, 1, (0, 0, 0), 0), (23, .invokestatic 92, 3, (67, 2, 0), 0), (26, .istore_n 3, 1, (0, 0, 0), 0), (27, .aload_n 0, 1, (0, 0, 0), 0), (28, .getfield 13, 3, (7, 1, 1), 1), (31, .iload_n 3, 1, (0, 0, 0), 0), (32, .aload_n 0, 1, (0, 0, 0), 0), (33, .getfield 13, 3, (7, 1, 1), 1)]), (64, [(36, .iload_n 1, 1, (0, 0, 0), 0), (37, .iconst 0, 1, (0, 0, 0), 0), (38, .invokestatic 92, 3, (67, 2, 0), 0), (41, .aload_n 0, 1, (0, 0, 0), 0), (42, .invokevirtual 61, 3, (85, 1, 0), 0), (45, .iconst 0, 1, (0, 0, 0), 0), (46, .invokestatic 92, 3, (67, 2, 0), 0), (49, .iload_n 3, 1, (0, 0, 0), 0), (50, .isub, 1, (0, 0, 0), 0), (51, .invokestatic 45, 3, (0, 0, 2), 0), (54, .aload_n 0, 1, (0, 0, 0), 0), (55, .getfield 13, 3, (7, 1, 1), 1), (58, .iconst 1, 1, (0, 0, 0), 0), (59, .dup2, 1, (0, 0, 0), 0), (60, .iaload, 1, (0, 0, 0), 0), (61, .iconst 1, 1, (0, 0, 0), 0), (62, .isub, 1, (0, 0, 0), 0), (63, .iastore, 1, (0, 0, 0), 0), (64, .return_, 1, (0, 0, 0), 0)])]
def mc_St_endDay : List (Nat × List (Nat × Ent)) := [(36, [(0, .aload_n 0, 1, (0, 0, 0), 0), (1, .getfield 13, 3, (7, 1, 1), 1), (4, .iconst 0, 1, (0, 0, 0), 0), (5, .dup2, 1, (0, 0, 0), 0), (6, .iaload, 1, (0, 0, 0), 0), (7, .iconst 1, 1, (0, 0, 0), 0), (8, .iadd, 1, (0, 0, 0), 0), (9, .iastore, 1, (0, 0, 0), 0), (10, .iconst 0, 1, (0, 0, 0), 0), (11, .istore_n 1, 1, (0, 0, 0), 0), (12, .iload_n 1, 1, (0, 0, 0), 0), (13, .aload_n 0, 1, (0, 0, 0), 0), (14, .getfield 17, 3, (7, 0, 1), 0), (17, .invokevirtual 27, 3, (27, 1, 0), 0), (20, .if_icmp .ge 31, 3, (0, 0, 0), 0), (23, .aload_n 0, 1, (0, 0, 0), 0), (24, .getfield 13, 3, (7, 1, 1), 1), (27, .iload_n 1, 1, (0, 0, 0), 0), (28, .iconst 1, 1, (0, 0, 0), 0), (29, .invokestatic 31, 3, (65, 2, 0), 0), (32, .bipush 99, 2, (0, 0, 0), 0), (34, .aload_n 0, 1, (0, 0, 0), 0), (35, .iload_n 1, 1, (0, 0, 0), 0), (36, .invokevirtual 105, 3, (70, 2, 0), 0)]), (78, [(39, .iconst 1, 1, (0, 0, 0), 0), (40, .iadd, 1, (0, 0, 0), 0), (41, .invokestatic 108, 3, (316, 2, 0), 0), (44, .iastore, 1, (0, 0, 0), 0), (45, .iinc 1 1, 3, (0, 0, 0), 0), (48, .goto (-36), 3, (0, 0, 0), 0), (51, .aload_n 0, 1, (0, 0, 0), 0), (52, .invokevirtual 61, 3, (85, 1, 0), 0), (55, .iconst 1, 1, (0, 0, 0), 0), (56, .isub, 1, (0, 0, 0), 0), (57, .istore_n 1, 1, (0, 0, 0), 0), (58, .iload_n 1, 1, (0, 0, 0), 0), (59, .ifCond .lt 33, 3, (0, 0, 0), 0), (62, .aload_n 0, 1, (0, 0, 0), 0), (63, .iload_n 1, 1, (0, 0, 0), 0), (64, .iconst 4, 1, (0, 0, 0), 0), (65, .invokevirtual 64, 3, (88, 3, 0), 0), (68, .aload_n 0, 1, (0, 0, 0), 0), (69, .invokevirtual 95, 3, (68, 1, 0), 0), (72, .if_icmp .gt 14, 3, (0, 0, 0), 0), (75, .aload_n 0, 1, (0, 0, 0), 0), (76, .iload_n 1, 1, (0, 0, 0), 0), (77, .aload_n 0, 1, (0, 0, 0), 0), (78, .iload_n 1, 1, (0, 0, 0), 0)]), (92, [(79, .iconst 1, 1, (0, 0, 0), 0), (80, .invokevirtual 64, 3, (88, 3, 0), 0), (83, .invokevirtual 101, 3, (92, 3, 0), 0), (86, .iinc 1 (-1), 3, (0, 0, 0), 0), (89, .goto (-31), 3, (0, 0, 0), 0), (92, .return_, 1, (0, 0, 0), 0)])]
def mc_St_dueTo : List (Nat × List (Nat × Ent)) := [(39, [(0, .iconst 0, 1, (0, 0, 0), 0), (1, .istore_n 3, 1, (0, 0, 0), 0), (2, .iconst 0, 1, (0, 0, 0), 0), (3, .istore 4, 2, (0, 0, 0), 0), (5, .iload 4, 2, (0, 0, 0), 0), (7, .aload_n 0, 1, (0, 0, 0), 0), (8, .invokevirtual 61, 3, (85, 1, 0), 0), (11, .if_icmp .ge 43, 3, (0, 0, 0), 0), (14, .aload_n 0, 1, (0, 0, 0), 0), (15, .iload 4, 2, (0, 0, 0), 0), (17, .iconst 1, 1, (0, 0, 0), 0), (18, .invokevirtual 64, 3, (88, 3, 0), 0), (21, .iload_n 1, 1, (0, 0, 0), 0), (22, .if_icmp .ne 26, 3, (0, 0, 0), 0), (25, .aload_n 0, 1, (0, 0, 0), 0), (26, .iload 4, 2, (0, 0, 0), 0), (28, .iconst 4, 1, (0, 0, 0), 0), (29, .invokevirtual 64, 3, (88, 3, 0), 0), (32, .iload_n 2, 1, (0, 0, 0), 0), (33, .if_icmp .gt 15, 3, (0, 0, 0), 0), (36, .iload_n 3, 1, (0, 0, 0), 0), (37, .iconst 1, 1, (0, 0, 0), 0), (38, .aload_n 0, 1, (0, 0, 0), 0), (39, .iload 4, 2, (0, 0, 0), 0)]), (55, [(41, .iconst 2, 1, (0, 0, 0), 0), (42, .invokevirtual 64, 3, (88, 3, 0), 0), (45, .ishl, 1, (0, 0, 0), 0), (46, .ior, 1, (0, 0, 0), 0), (47, .istore_n 3, 1, (0, 0, 0), 0), (48, .iinc 4 1, 3, (0, 0, 0), 0), (51, .goto (-46), 3, (0, 0, 0), 0), (54, .iload_n 3, 1, (0, 0, 0), 0), (55, .ireturn, 1, (0, 0, 1), 0)])]
def mc_St_gain : List (Nat × List (Nat × Ent)) := [(31, [(0, .aload_n 0, 1, (0, 0, 0), 0), (1, .getfield 13, 3, (7, 1, 1), 1), (4, .iload_n 1, 1, (0, 0, 0), 0), (5, .iload_n 2, 1, (0, 0, 0), 0), (6, .invokestatic 42, 3, (66, 2, 0), 0), (9, .dup2, 1, (0, 0, 0), 0), (10, .iaload, 1, (0, 0, 0), 0), (11, .iconst 1, 1, (0, 0, 0), 0), (12, .isub, 1, (0, 0, 0), 0), (13, .iastore, 1, (0, 0, 0), 0), (14, .aload_n 0, 1, (0, 0, 0), 0), (15, .getfield 13, 3, (7, 1, 1), 1), (18, .iload_n 1, 1, (0, 0, 0), 0), (19, .iconst 3, 1, (0, 0, 0), 0), (20, .invokestatic 31, 3, (65, 2, 0), 0), (23, .dup2, 1, (0, 0, 0), 0), (24, .iaload, 1, (0, 0, 0), 0), (25, .iconst 1, 1, (0, 0, 0), 0), (26, .iload_n 2, 1, (0, 0, 0), 0), (27, .ishl, 1, (0, 0, 0), 0), (28, .ior, 1, (0, 0, 0), 0), (29, .iastore, 1, (0, 0, 0), 0), (30, .aload_n 0, 1, (0, 0, 0), 0), (31, .getfield 13, 3, (7, 1, 1), 1)]), (76, [(34, .iload_n 1, 1, (0, 0, 0), 0), (35, .iconst 2, 1, (0, 0, 0), 0), (36, .invokestatic 31, 3, (65, 2, 0), 0), (39, .dup2, 1, (0, 0, 0), 0), (40, .iaload, 1, (0, 0, 0), 0), (41, .iload_n 3, 1, (0, 0, 0), 0), (42, .iadd, 1, (0, 0, 0), 0), (43, .iastore, 1, (0, 0, 0), 0), (44, .aload_n 0, 1, (0, 0, 0), 0), (45, .invokevirtual 113, 3, (96, 1, 0), 0), (48, .bipush 59, 2, (0, 0, 0), 0), (50, .invokestatic 108, 3, (316, 2, 0), 0), (53, .istore 4, 2, (0, 0, 0), 0), (55, .aload_n 0, 1, (0, 0, 0), 0), (56, .getfield 13, 3, (7, 1, 1), 1), (59, .bipush 115, 2, (0, 0, 0), 0), (61, .aload_n 0, 1, (0, 0, 0), 0), (62, .getfield 13, 3, (7, 1, 1), 1), (65, .bipush 116, 2, (0, 0, 0), 0), (67, .iload 4, 2, (0, 0, 0), 0), (69, .invokestatic 45, 3, (0, 0, 2), 0), (72, .aload_n 0, 1, (0, 0, 0), 0), (73, .getfield 13, 3, (7, 1, 1), 1), (76, .bipush 115, 2, (0, 0, 0), 0)]), (109, [(78, .aload_n 0, 1, (0, 0, 0), 0), (79, .invokevirtual 95, 3, (68, 1, 0), 0), (82, .sipush 1000, 3, (0, 0, 0), 0), (85, .imul, 1, (0, 0, 0), 0), (86, .iload_n 3, 1, (0, 0, 0), 0), (87, .iadd, 1, (0, 0, 0), 0), (88, .bipush 8, 2, (0, 0, 0), 0), (90, .imul, 1, (0, 0, 0), 0), (91, .iload_n 2, 1, (0, 0, 0), 0), (92, .iadd, 1, (0, 0, 0), 0), (93, .bipush 8, 2, (0, 0, 0), 0), (95, .imul, 1, (0, 0, 0), 0), (96, .iload_n 1, 1, (0, 0, 0), 0), (97, .iadd, 1, (0, 0, 0), 0), (98, .iastore, 1, (0, 0, 0), 0), (99, .aload_n 0, 1, (0, 0, 0), 0), (100, .getfield 13, 3, (7, 1, 1), 1), (103, .iconst 2, 1, (0, 0, 0), 0), (104, .iload 4, 2, (0, 0, 0), 0), (106, .iconst 1, 1, (0, 0, 0), 0), (107, .iadd, 1, (0, 0, 0), 0), (108, .iastore, 1, (0, 0, 0), 0), (109, .return_, 1, (0, 0, 0), 0)])]
def mc_St_logLength : List (Nat × List (Nat × Ent)) := [(6, [(0, .aload_n 0, 1, (0, 0, 0), 0), (1, .getfield 13, 3, (7, 1, 1), 1), (4, .iconst 2, 1, (0, 0, 0), 0), (5, .iaload, 1, (0, 0, 0), 0), (6, .ireturn, 1, (0, 0, 1), 0)])]
def mc_St_ofLog : List (Nat × List (Nat × Ent)) := [(33, [(0, .aload_n 0, 1, (0, 0, 0), 0), (1, .getfield 13, 3, (7, 1, 1), 1), (4, .bipush 115, 2, (0, 0, 0), 0), (6, .iload_n 1, 1, (0, 0, 0), 0), (7, .iadd, 1, (0, 0, 0), 0), (8, .iaload, 1, (0, 0, 0), 0), (9, .istore_n 3, 1, (0, 0, 0), 0), (10, .iload_n 2, 1, (0, 0, 0), 0), (11, .ifCond .ne 8, 3, (0, 0, 0), 0), (14, .iload_n 3, 1, (0, 0, 0), 0), (15, .bipush 8, 2, (0, 0, 0), 0), (17, .irem, 1, (0, 0, 0), 0), (18, .ireturn, 1, (0, 0, 1), 0), (19, .iload_n 2, 1, (0, 0, 0), 0), (20, .iconst 1, 1, (0, 0, 0), 0), (21, .if_icmp .ne 11, 3, (0, 0, 0), 0), (24, .iload_n 3, 1, (0, 0, 0), 0), (25, .bipush 8, 2, (0, 0, 0), 0), (27, .idiv, 1, (0, 0, 0), 0), (28, .bipush 8, 2, (0, 0, 0), 0), (30, .irem, 1, (0, 0, 0), 0), (31, .ireturn, 1, (0, 0, 1), 0), (32, .iload_n 3, 1, (0, 0, 0), 0), (33, .bipush 64, 2, (0, 0, 0), 0)]), (58, [(35, .idiv, 1, (0, 0, 0), 0), (36, .istore 4, 2, (0, 0, 0), 0), (38, .iload_n 2, 1, (0, 0, 0), 0), (39, .iconst 2, 1, (0, 0, 0), 0), (40, .if_icmp .ne 12, 3, (0, 0, 0), 0), (43, .iload 4, 2, (0, 0, 0), 0), (45, .sipush 1000, 3, (0, 0, 0), 0), (48, .irem, 1, (0, 0, 0), 0), (49, .goto 9, 3, (0, 0, 0), 0), (52, .iload 4, 2, (0, 0, 0), 0), (54, .sipush 1000, 3, (0, 0, 0), 0), (57, .idiv, 1, (0, 0, 0), 0), (58, .ireturn, 1, (0, 0, 1), 0)])]
def mc_Ta_init : List (Nat × List (Nat × Ent)) := []
def mc_Ta_bytesIn : List (Nat × List (Nat × Ent)) := [(35, [(0, .iconst 0, 1, (0, 0, 0), 0), (1, .istore_n 1, 1, (0, 0, 0), 0), (2, .iconst 0, 1, (0, 0, 0), 0), (3, .istore_n 2, 1, (0, 0, 0), 0), (4, .iload_n 2, 1, (0, 0, 0), 0), (5, .bipush 32, 2, (0, 0, 0), 0), (7, .if_icmp .ge 27, 3, (0, 0, 0), 0), (10, .iload_n 1, 1, (0, 0, 0), 0), (11, .iload_n 0, 1, (0, 0, 0), 0), (12, .iload_n 2, 1, (0, 0, 0), 0), (13, .iushr, 1, (0, 0, 0), 0), (14, .sipush 255, 3, (0, 0, 0), 0), (17, .iand, 1, (0, 0, 0), 0), (18, .ifCond .ne 7, 3, (0, 0, 0), 0), (21, .iconst 0, 1, (0, 0, 0), 0), (22, .goto 4, 3, (0, 0, 0), 0), (25, .iconst 1, 1, (0, 0, 0), 0), (26, .iadd, 1, (0, 0, 0), 0), (27, .istore_n 1, 1, (0, 0, 0), 0), (28, .iinc 2 8, 3, (0, 0, 0), 0), (31, .goto (-27), 3, (0, 0, 0), 0), (34, .iload_n 1, 1, (0, 0, 0), 0), (35, .ireturn, 1, (0, 0, 1), 0)])]
def mc_Ta_put : List (Nat × List (Nat × Ent)) := [(40, [(0, .bipush 24, 2, (0, 0, 0), 0), (2, .istore_n 2, 1, (0, 0, 0), 0), (3, .iload_n 2, 1, (0, 0, 0), 0), (4, .ifCond .lt 51, 3, (0, 0, 0), 0), (7, .iload_n 1, 1, (0, 0, 0), 0), (8, .iload_n 2, 1, (0, 0, 0), 0), (9, .iushr, 1, (0, 0, 0), 0), (10, .sipush 255, 3, (0, 0, 0), 0), (13, .iand, 1, (0, 0, 0), 0), (14, .istore_n 3, 1, (0, 0, 0), 0), (15, .iload_n 3, 1, (0, 0, 0), 0), (16, .ifCond .eq 33, 3, (0, 0, 0), 0), (19, .aload_n 0, 1, (0, 0, 0), 0), (20, .getfield 15, 3, (8, 1, 0), 1), (23, .sipush 240, 3, (0, 0, 0), 0), (26, .if_icmp .ge 23, 3, (0, 0, 0), 0), (29, .aload_n 0, 1, (0, 0, 0), 0), (30, .getfield 11, 3, (8, 0, 1), 0), (33, .aload_n 0, 1, (0, 0, 0), 0), (34, .getfield 15, 3, (8, 1, 0), 1), (37, .iload_n 3, 1, (0, 0, 0), 0), (38, .iastore, 1, (0, 0, 0), 0), (39, .aload_n 0, 1, (0, 0, 0), 0), (40, .dup, 1, (0, 0, 0), 0)]), (55, [(41, .getfield 15, 3, (8, 1, 0), 1), (44, .iconst 1, 1, (0, 0, 0), 0), (45, .iadd, 1, (0, 0, 0), 0), (46, .putfield 15, 3, (8, 1, 0), 1), (49, .iinc 2 (-8), 3, (0, 0, 0), 0), (52, .goto (-49), 3, (0, 0, 0), 0), (55, .return_, 1, (0, 0, 0), 0)])]
def mc_Ta_rewind : List (Nat × List (Nat × Ent)) := [(10, [(0, .aload_n 0, 1, (0, 0, 0), 0), (1, .iconst 0, 1, (0, 0, 0), 0), (2, .putfield 19, 3, (8, 2, 0), 2), (5, .aload_n 0, 1, (0, 0, 0), 0), (6, .iconst (-1), 1, (0, 0, 0), 0), (7, .putfield 22, 3, (8, 3, 0), 3), (10, .return_, 1, (0, 0, 0), 0)])]
def mc_Ta_sign : List (Nat × List (Nat × Ent)) := [(48, [(0, .aload_n 0, 1, (0, 0, 0), 0), (1, .getfield 19, 3, (8, 2, 0), 2), (4, .aload_n 0, 1, (0, 0, 0), 0), (5, .getfield 15, 3, (8, 1, 0), 1), (8, .if_icmp .ge 40, 3, (0, 0, 0), 0), (11, .aload_n 0, 1, (0, 0, 0), 0), (12, .getfield 19, 3, (8, 2, 0), 2), (15, .sipush 240, 3, (0, 0, 0), 0), (18, .if_icmp .ge 30, 3, (0, 0, 0), 0), (21, .aload_n 0, 1, (0, 0, 0), 0), (22, .getfield 11, 3, (8, 0, 1), 0), (25, .aload_n 0, 1, (0, 0, 0), 0), (26, .getfield 19, 3, (8, 2, 0), 2), (29, .iaload, 1, (0, 0, 0), 0), (30, .bipush 32, 2, (0, 0, 0), 0), (32, .if_icmp .ne 16, 3, (0, 0, 0), 0), (35, .aload_n 0, 1, (0, 0, 0), 0), (36, .dup, 1, (0, 0, 0), 0), (37, .getfield 19, 3, (8, 2, 0), 2), (40, .iconst 1, 1, (0, 0, 0), 0), (41, .iadd, 1, (0, 0, 0), 0), (42, .putfield 19, 3, (8, 2, 0), 2), (45, .goto (-45), 3, (0, 0, 0), 0), (48, .aload_n 0, 1, (0, 0, 0), 0)]), (82, [(49, .getfield 19, 3, (8, 2, 0), 2), (52, .aload_n 0, 1, (0, 0, 0), 0), (53, .getfield 15, 3, (8, 1, 0), 1), (56, .if_icmp .ge 25, 3, (0, 0, 0), 0), (59, .aload_n 0, 1, (0, 0, 0), 0), (60, .getfield 19, 3, (8, 2, 0), 2), (63, .sipush 240, 3, (0, 0, 0), 0), (66, .if_icmp .ge 15, 3, (0, 0, 0), 0), (69, .aload_n 0, 1, (0, 0, 0), 0), (70, .getfield 11, 3, (8, 0, 1), 0), (73, .aload_n 0, 1, (0, 0, 0), 0), (74, .getfield 19, 3, (8, 2, 0), 2), (77, .iaload, 1, (0, 0, 0), 0), (78, .goto 4, 3, (0, 0, 0), 0), (81, .iconst (-1), 1, (0, 0, 0), 0), (82, .ireturn, 1, (0, 0, 1), 0)])]
def mc_Ta_isOver : List (Nat × List (Nat × Ent)) := [(13, [(0, .aload_n 0, 1, (0, 0, 0), 0), (1, .invokevirtual 25, 3, (102, 1, 0), 0), (4, .iconst (-1), 1, (0, 0, 0), 0), (5, .if_icmp .ne 7, 3, (0, 0, 0), 0), (8, .iconst 1, 1, (0, 0, 0), 0), (9, .goto 4, 3, (0, 0, 0), 0), (12, .iconst 0, 1, (0, 0, 0), 0), (13, .ireturn, 1, (0, 0, 3), 0)])]
def mc_Ta_failAt : List (Nat × List (Nat × Ent)) := [(6, [(0, .aload_n 0, 1, (0, 0, 0), 0), (1, .iload_n 1, 1, (0, 0, 0), 0), (2, .putfield 22, 3, (8, 3, 0), 3), (5, .iconst 0, 1, (0, 0, 0), 0), (6, .ireturn, 1, (0, 0, 3), 0)])]
def mc_Ta_expect : List (Nat × List (Nat × Ent)) := [(28, [(0, .aload_n 0, 1, (0, 0, 0), 0), (1, .invokevirtual 25, 3, (102, 1, 0), 0), (4, .iload_n 1, 1, (0, 0, 0), 0), (5, .if_icmp .eq 12, 3, (0, 0, 0), 0), (8, .aload_n 0, 1, (0, 0, 0), 0), (9, .aload_n 0, 1, (0, 0, 0), 0), (10, .getfield 19, 3, (8, 2, 0), 2), (13, .invokevirtual 29, 3, (104, 2, 0), 0), (16, .ireturn, 1, (0, 0, 3), 0), (17, .aload_n 0, 1, (0, 0, 0), 0), (18, .dup, 1, (0, 0, 0), 0), (19, .getfield 19, 3, (8, 2, 0), 2), (22, .iconst 1, 1, (0, 0, 0), 0), (23, .iadd, 1, (0, 0, 0), 0), (24, .putfield 19, 3, (8, 2, 0), 2), (27, .iconst 1, 1, (0, 0, 0), 0), (28, .ireturn, 1, (0, 0, 3), 0)])]
def mc_Ta_digit : List (Nat × List (Nat × Ent)) := [(39, [(0, .aload_n 0, 1, (0, 0, 0), 0), (1, .invokevirtual 25, 3, (102, 1, 0), 0), (4, .istore_n 1, 1, (0, 0, 0), 0), (5, .iload_n 1, 1, (0, 0, 0), 0), (6, .bipush 48, 2, (0, 0, 0), 0), (8, .if_icmp .lt 9, 3, (0, 0, 0), 0), (11, .iload_n 1, 1, (0, 0, 0), 0), (12, .bipush 57, 2, (0, 0, 0), 0), (14, .if_icmp .le 14, 3, (0, 0, 0), 0), (17, .aload_n 0, 1, (0, 0, 0), 0), (18, .aload_n 0, 1, (0, 0, 0), 0), (19, .getfield 19, 3, (8, 2, 0), 2), (22, .invokevirtual 29, 3, (104, 2, 0), 0), (25, .pop, 1, (0, 0, 0), 0), (26, .iconst (-1), 1, (0, 0, 0), 0), (27, .ireturn, 1, (0, 0, 1), 0), (28, .aload_n 0, 1, (0, 0, 0), 0), (29, .dup, 1, (0, 0, 0), 0), (30, .getfield 19, 3, (8, 2, 0), 2), (33, .iconst 1, 1, (0, 0, 0), 0), (34, .iadd, 1, (0, 0, 0), 0), (35, .putfield 19, 3, (8, 2, 0), 2), (38, .iload_n 1, 1, (0, 0, 0), 0), (39, .bipush 48, 2, (0, 0, 0), 0)]), (42, [(41, .isub, 1, (0, 0, 0), 0), (42, .ireturn, 1, (0, 0, 1), 0)])]
def mc_Ta_number : List (Nat × List (Nat × Ent)) := [(44, [(0, .iconst 0, 1, (0, 0, 0), 0), (1, .istore_n 2, 1, (0, 0, 0), 0), (2, .iconst 0, 1, (0, 0, 0), 0), (3, .istore_n 3, 1, (0, 0, 0), 0), (4, .aload_n 0, 1, (0, 0, 0), 0), (5, .invokevirtual 25, 3, (102, 1, 0), 0), (8, .pop, 1, (0, 0, 0), 0), (9, .aload_n 0, 1, (0, 0, 0), 0), (10, .getfield 19, 3, (8, 2, 0), 2), (13, .aload_n 0, 1, (0, 0, 0), 0), (14, .getfield 15, 3, (8, 1, 0), 1), (17, .if_icmp .ge 80, 3, (0, 0, 0), 0), (20, .aload_n 0, 1, (0, 0, 0), 0), (21, .getfield 19, 3, (8, 2, 0), 2), (24, .sipush 240, 3, (0, 0, 0), 0), (27, .if_icmp .ge 70, 3, (0, 0, 0), 0), (30, .aload_n 0, 1, (0, 0, 0), 0), (31, .getfield 11, 3, (8, 0, 1), 0), (34, .aload_n 0, 1, (0, 0, 0), 0), (35, .getfield 19, 3, (8, 2, 0), 2), (38, .iaload, 1, (0, 0, 0), 0), (39, .bipush 48, 2, (0, 0, 0), 0), (41, .if_icmp .lt 56, 3, (0, 0, 0), 0), (44, .aload_n 0, 1, (0, 0, 0), 0)]), (85, [(45, .getfield 11, 3, (8, 0, 1), 0), (48, .aload_n 0, 1, (0, 0, 0), 0), (49, .getfield 19, 3, (8, 2, 0), 2), (52, .iaload, 1, (0, 0, 0), 0), (53, .bipush 57, 2, (0, 0, 0), 0), (55, .if_icmp .gt 42, 3, (0, 0, 0), 0), (58, .iload_n 3, 1, (0, 0, 0), 0), (59, .iload_n 1, 1, (0, 0, 0), 0), (60, .if_icmp .ge 37, 3, (0, 0, 0), 0), (63, .iload_n 2, 1, (0, 0, 0), 0), (64, .bipush 10, 2, (0, 0, 0), 0), (66, .imul, 1, (0, 0, 0), 0), (67, .aload_n 0, 1, (0, 0, 0), 0), (68, .getfield 11, 3, (8, 0, 1), 0), (71, .aload_n 0, 1, (0, 0, 0), 0), (72, .getfield 19, 3, (8, 2, 0), 2), (75, .iaload, 1, (0, 0, 0), 0), (76, .iadd, 1, (0, 0, 0), 0), (77, .bipush 48, 2, (0, 0, 0), 0), (79, .isub, 1, (0, 0, 0), 0), (80, .istore_n 2, 1, (0, 0, 0), 0), (81, .iinc 3 1, 3, (0, 0, 0), 0), (84, .aload_n 0, 1, (0, 0, 0), 0), (85, .dup, 1, (0, 0, 0), 0)]), (136, [(86, .getfield 19, 3, (8, 2, 0), 2), (89, .iconst 1, 1, (0, 0, 0), 0), (90, .iadd, 1, (0, 0, 0), 0), (91, .putfield 19, 3, (8, 2, 0), 2), (94, .goto (-85), 3, (0, 0, 0), 0), (97, .aload_n 0, 1, (0, 0, 0), 0), (98, .getfield 19, 3, (8, 2, 0), 2), (101, .aload_n 0, 1, (0, 0, 0), 0), (102, .getfield 15, 3, (8, 1, 0), 1), (105, .if_icmp .ge 45, 3, (0, 0, 0), 0), (108, .aload_n 0, 1, (0, 0, 0), 0), (109, .getfield 19, 3, (8, 2, 0), 2), (112, .sipush 240, 3, (0, 0, 0), 0), (115, .if_icmp .ge 35, 3, (0, 0, 0), 0), (118, .aload_n 0, 1, (0, 0, 0), 0), (119, .getfield 11, 3, (8, 0, 1), 0), (122, .aload_n 0, 1, (0, 0, 0), 0), (123, .getfield 19, 3, (8, 2, 0), 2), (126, .iaload, 1, (0, 0, 0), 0), (127, .bipush 48, 2, (0, 0, 0), 0), (129, .if_icmp .lt 21, 3, (0, 0, 0), 0), (132, .aload_n 0, 1, (0, 0, 0), 0), (133, .getfield 11, 3, (8, 0, 1), 0), (136, .aload_n 0, 1, (0, 0, 0), 0)]), (174, [(137, .getfield 19, 3, (8, 2, 0), 2), (140, .iaload, 1, (0, 0, 0), 0), (141, .bipush 57, 2, (0, 0, 0), 0), (143, .if_icmp .gt 7, 3, (0, 0, 0), 0), (146, .iconst 1, 1, (0, 0, 0), 0), (147, .goto 4, 3, (0, 0, 0), 0), (150, .iconst 0, 1, (0, 0, 0), 0), (151, .istore 4, 2, (0, 0, 0), 0), (153, .iload_n 3, 1, (0, 0, 0), 0), (154, .ifCond .eq 8, 3, (0, 0, 0), 0), (157, .iload 4, 2, (0, 0, 0), 0), (159, .ifCond .eq 14, 3, (0, 0, 0), 0), (162, .aload_n 0, 1, (0, 0, 0), 0), (163, .aload_n 0, 1, (0, 0, 0), 0), (164, .getfield 19, 3, (8, 2, 0), 2), (167, .invokevirtual 29, 3, (104, 2, 0), 0), (170, .pop, 1, (0, 0, 0), 0), (171, .iconst (-1), 1, (0, 0, 0), 0), (172, .ireturn, 1, (0, 0, 1), 0), (173, .iload_n 2, 1, (0, 0, 0), 0), (174, .ireturn, 1, (0, 0, 1), 0)])]
def mc_Ts_init : List (Nat × List (Nat × Ent)) := []
def mc_Ts_readSpare : List (Nat × List (Nat × Ent)) := [(42, [(0, .aload_n 0, 1, (0, 0, 0), 0), (1, .getfield 29, 3, (9, 3, 1), 3), (4, .invokevirtual 33, 3, (101, 1, 0), 0), (7, .aload_n 0, 1, (0, 0, 0), 0), (8, .getfield 18, 3, (9, 1, 1), 1), (11, .aload_n 0, 1, (0, 0, 0), 0), (12, .getfield 36, 3, (9, 4, 0), 4), (15, .iconst 0, 1, (0, 0, 0), 0), (16, .iastore, 1, (0, 0, 0), 0), (17, .iconst 0, 1, (0, 0, 0), 0), (18, .istore_n 1, 1, (0, 0, 0), 0), (19, .iload_n 1, 1, (0, 0, 0), 0), (20, .sipush 240, 3, (0, 0, 0), 0), (23, .if_icmp .gt 50, 3, (0, 0, 0), 0), (26, .aload_n 0, 1, (0, 0, 0), 0), (27, .invokevirtual 39, 3, (112, 1, 0), 0), (30, .ifCond .ne 5, 3, (0, 0, 0), 0), (33, .iconst 0, 1, (0, 0, 0), 0), (34, .ireturn, 1, (0, 0, 3), 0), (35, .aload_n 0, 1, (0, 0, 0), 0), (36, .bipush (-59), 2, (0, 0, 0), 0), (38, .invokevirtual 43, 3, (111, 2, 0), 0), (41, .aload_n 0, 1, (0, 0, 0), 0), (42, .getfield 29, 3, (9, 3, 1), 3)]), (87, [(45, .invokevirtual 47, 3, (103, 1, 0), 0), (48, .ifCond .eq 5, 3, (0, 0, 0), 0), (51, .iconst 1, 1, (0, 0, 0), 0), (52, .ireturn, 1, (0, 0, 3), 0), (53, .aload_n 0, 1, (0, 0, 0), 0), (54, .getfield 29, 3, (9, 3, 1), 3), (57, .bipush 59, 2, (0, 0, 0), 0), (59, .invokevirtual 50, 3, (105, 2, 0), 0), (62, .ifCond .ne 5, 3, (0, 0, 0), 0), (65, .iconst 0, 1, (0, 0, 0), 0), (66, .ireturn, 1, (0, 0, 3), 0), (67, .iinc 1 1, 3, (0, 0, 0), 0), (70, .goto (-51), 3, (0, 0, 0), 0), (73, .aload_n 0, 1, (0, 0, 0), 0), (74, .getfield 29, 3, (9, 3, 1), 3), (77, .aload_n 0, 1, (0, 0, 0), 0), (78, .getfield 29, 3, (9, 3, 1), 3), (81, .getfield 54, 3, (8, 1, 0), 1), (84, .invokevirtual 57, 3, (104, 2, 0), 0), (87, .ireturn, 1, (0, 0, 3), 0)])]
def mc_Ts_keepSpare : List (Nat × List (Nat × Ent)) := [(26, [(0, .aload_n 0, 1, (0, 0, 0), 0), (1, .getfield 36, 3, (9, 4, 0), 4), (4, .iconst 4, 1, (0, 0, 0), 0), (5, .if_icmp .lt 5, 3, (0, 0, 0), 0), (8, .iconst (-1), 1, (0, 0, 0), 0), (9, .ireturn, 1, (0, 0, 1), 0), (10, .aload_n 0, 1, (0, 0, 0), 0), (11, .dup, 1, (0, 0, 0), 0), (12, .getfield 36, 3, (9, 4, 0), 4), (15, .iconst 1, 1, (0, 0, 0), 0), (16, .iadd, 1, (0, 0, 0), 0), (17, .putfield 36, 3, (9, 4, 0), 4), (20, .aload_n 0, 1, (0, 0, 0), 0), (21, .getfield 36, 3, (9, 4, 0), 4), (24, .iconst 1, 1, (0, 0, 0), 0), (25, .isub, 1, (0, 0, 0), 0), (26, .ireturn, 1, (0, 0, 1), 0)])]
def mc_Ts_emit : List (Nat × List (Nat × Ent)) := [(43, [(0, .aload_n 0, 1, (0, 0, 0), 0), (1, .getfield 18, 3, (9, 1, 1), 1), (4, .aload_n 0, 1, (0, 0, 0), 0), (5, .getfield 36, 3, (9, 4, 0), 4), (8, .iaload, 1, (0, 0, 0), 0), (9, .sipush 240, 3, (0, 0, 0), 0), (12, .if_icmp .ge 36, 3, (0, 0, 0), 0), (15, .aload_n 0, 1, (0, 0, 0), 0), (16, .getfield 13, 3, (9, 0, 1), 0), (19, .aload_n 0, 1, (0, 0, 0), 0), (20, .getfield 36, 3, (9, 4, 0), 4), (23, .aaload, 1, (0, 0, 0), 0), (24, .aload_n 0, 1, (0, 0, 0), 0), (25, .getfield 18, 3, (9, 1, 1), 1), (28, .aload_n 0, 1, (0, 0, 0), 0), (29, .getfield 36, 3, (9, 4, 0), 4), (32, .iaload, 1, (0, 0, 0), 0), (33, .iload_n 1, 1, (0, 0, 0), 0), (34, .iastore, 1, (0, 0, 0), 0), (35, .aload_n 0, 1, (0, 0, 0), 0), (36, .getfield 18, 3, (9, 1, 1), 1), (39, .aload_n 0, 1, (0, 0, 0), 0), (40, .getfield 36, 3, (9, 4, 0), 4), (43, .dup2, 1, (0, 0, 0), 0)]), (48, [(44, .iaload, 1, (0, 0, 0), 0), (45, .iconst 1, 1, (0, 0, 0), 0), (46, .iadd, 1, (0, 0, 0), 0), (47, .iastore, 1, (0, 0, 0), 0), (48, .return_, 1, (0, 0, 0), 0)])]
def mc_Ts_readClause : List (Nat × List (Nat × Ent)) := [(47, [(0, .aload_n 0, 1, (0, 0, 0), 0), (1, .getfield 29, 3, (9, 3, 1), 3), (4, .bipush 121, 2, (0, 0, 0), 0), (6, .invokevirtual 50, 3, (105, 2, 0), 0), (9, .ifCond .eq 15, 3, (0, 0, 0), 0), (12, .aload_n 0, 1, (0, 0, 0), 0), (13, .getfield 29, 3, (9, 3, 1), 3), (16, .bipush 58, 2, (0, 0, 0), 0), (18, .invokevirtual 50, 3, (105, 2, 0), 0), (21, .ifCond .ne 5, 3, (0, 0, 0), 0), (24, .iconst 0, 1, (0, 0, 0), 0), (25, .ireturn, 1, (0, 0, 3), 0), (26, .aload_n 0, 1, (0, 0, 0), 0), (27, .getfield 29, 3, (9, 3, 1), 3), (30, .invokevirtual 60, 3, (102, 1, 0), 0), (33, .istore_n 1, 1, (0, 0, 0), 0), (34, .iload_n 1, 1, (0, 0, 0), 0), (35, .bipush 33, 2, (0, 0, 0), 0), (37, .if_icmp .eq 9, 3, (0, 0, 0), 0), (40, .iload_n 1, 1, (0, 0, 0), 0), (41, .bipush 40, 2, (0, 0, 0), 0), (43, .if_icmp .ne 33, 3, (0, 0, 0), 0), (46, .aload_n 0, 1, (0, 0, 0), 0), (47, .iconst 0, 1, (0, 0, 0), 0)]), (93, [(48, .iconst 0, 1, (0, 0, 0), 0), (49, .invokevirtual 64, 3, (115, 3, 0), 0), (52, .ifCond .eq 22, 3, (0, 0, 0), 0), (55, .aload_n 0, 1, (0, 0, 0), 0), (56, .iconst 0, 1, (0, 0, 0), 0), (57, .invokevirtual 68, 3, (114, 2, 0), 0), (60, .ifCond .eq 14, 3, (0, 0, 0), 0), (63, .aload_n 0, 1, (0, 0, 0), 0), (64, .invokevirtual 71, 3, (113, 1, 0), 0), (67, .ifCond .eq 7, 3, (0, 0, 0), 0), (70, .iconst 1, 1, (0, 0, 0), 0), (71, .goto 4, 3, (0, 0, 0), 0), (74, .iconst 0, 1, (0, 0, 0), 0), (75, .ireturn, 1, (0, 0, 3), 0), (76, .aload_n 0, 1, (0, 0, 0), 0), (77, .iconst 0, 1, (0, 0, 0), 0), (78, .invokevirtual 74, 3, (118, 2, 0), 0), (81, .ifCond .ne 5, 3, (0, 0, 0), 0), (84, .iconst 0, 1, (0, 0, 0), 0), (85, .ireturn, 1, (0, 0, 3), 0), (86, .aload_n 0, 1, (0, 0, 0), 0), (87, .getfield 29, 3, (9, 3, 1), 3), (90, .invokevirtual 60, 3, (102, 1, 0), 0), (93, .invokestatic 77, 3, (117, 1, 0), 0)]), (130, [(96, .ifCond .ne 5, 3, (0, 0, 0), 0), (99, .iconst 1, 1, (0, 0, 0), 0), (100, .ireturn, 1, (0, 0, 3), 0), (101, .aload_n 0, 1, (0, 0, 0), 0), (102, .iconst 0, 1, (0, 0, 0), 0), (103, .iconst 1, 1, (0, 0, 0), 0), (104, .invokevirtual 64, 3, (115, 3, 0), 0), (107, .ifCond .eq 22, 3, (0, 0, 0), 0), (110, .aload_n 0, 1, (0, 0, 0), 0), (111, .iconst 0, 1, (0, 0, 0), 0), (112, .invokevirtual 68, 3, (114, 2, 0), 0), (115, .ifCond .eq 14, 3, (0, 0, 0), 0), (118, .aload_n 0, 1, (0, 0, 0), 0), (119, .invokevirtual 71, 3, (113, 1, 0), 0), (122, .ifCond .eq 7, 3, (0, 0, 0), 0), (125, .iconst 1, 1, (0, 0, 0), 0), (126, .goto 4, 3, (0, 0, 0), 0), (129, .iconst 0, 1, (0, 0, 0), 0), (130, .ireturn, 1, (0, 0, 3), 0)])]
def mc_Ts_readConsequence : List (Nat × List (Nat × Ent)) := [(25, [(0, .aload_n 0, 1, (0, 0, 0), 0), (1, .getfield 29, 3, (9, 3, 1), 3), (4, .bipush 63, 2, (0, 0, 0), 0), (6, .invokevirtual 50, 3, (105, 2, 0), 0), (9, .ifCond .ne 5, 3, (0, 0, 0), 0), (12, .iconst 0, 1, (0, 0, 0), 0), (13, .ireturn, 1, (0, 0, 3), 0), (14, .aload_n 0, 1, (0, 0, 0), 0), (15, .bipush (-63), 2, (0, 0, 0), 0), (17, .invokevirtual 43, 3, (111, 2, 0), 0), (20, .aload_n 0, 1, (0, 0, 0), 0), (21, .iconst 0, 1, (0, 0, 0), 0), (22, .invokevirtual 74, 3, (118, 2, 0), 0), (25, .ireturn, 1, (0, 0, 3), 0)])]
def mc_Ts_readMoreUnits : List (Nat × List (Nat × Ent)) := [(46, [(0, .iconst 0, 1, (0, 0, 0), 0), (1, .istore_n 2, 1, (0, 0, 0), 0), (2, .iconst 0, 1, (0, 0, 0), 0), (3, .istore_n 3, 1, (0, 0, 0), 0), (4, .iload_n 3, 1, (0, 0, 0), 0), (5, .sipush 240, 3, (0, 0, 0), 0), (8, .if_icmp .gt 104, 3, (0, 0, 0), 0), (11, .aload_n 0, 1, (0, 0, 0), 0), (12, .getfield 29, 3, (9, 3, 1), 3), (15, .invokevirtual 60, 3, (102, 1, 0), 0), (18, .istore 4, 2, (0, 0, 0), 0), (20, .iload 4, 2, (0, 0, 0), 0), (22, .bipush 38, 2, (0, 0, 0), 0), (24, .if_icmp .eq 13, 3, (0, 0, 0), 0), (27, .iload 4, 2, (0, 0, 0), 0), (29, .bipush 124, 2, (0, 0, 0), 0), (31, .if_icmp .eq 6, 3, (0, 0, 0), 0), (34, .goto 78, 3, (0, 0, 0), 0), (37, .aload_n 0, 1, (0, 0, 0), 0), (38, .getfield 29, 3, (9, 3, 1), 3), (41, .dup, 1, (0, 0, 0), 0), (42, .getfield 80, 3, (8, 2, 0), 2), (45, .iconst 1, 1, (0, 0, 0), 0), (46, .iadd, 1, (0, 0, 0), 0)]), (91, [(47, .putfield 80, 3, (8, 2, 0), 2), (50, .iload 4, 2, (0, 0, 0), 0), (52, .bipush 124, 2, (0, 0, 0), 0), (54, .if_icmp .ne 13, 3, (0, 0, 0), 0), (57, .iload_n 2, 1, (0, 0, 0), 0), (58, .ifCond .eq 9, 3, (0, 0, 0), 0), (61, .aload_n 0, 1, (0, 0, 0), 0), (62, .bipush (-124), 2, (0, 0, 0), 0), (64, .invokevirtual 43, 3, (111, 2, 0), 0), (67, .iload_n 2, 1, (0, 0, 0), 0), (68, .iload 4, 2, (0, 0, 0), 0), (70, .bipush 124, 2, (0, 0, 0), 0), (72, .if_icmp .ne 7, 3, (0, 0, 0), 0), (75, .iconst 1, 1, (0, 0, 0), 0), (76, .goto 4, 3, (0, 0, 0), 0), (79, .iconst 0, 1, (0, 0, 0), 0), (80, .ior, 1, (0, 0, 0), 0), (81, .istore_n 2, 1, (0, 0, 0), 0), (82, .aload_n 0, 1, (0, 0, 0), 0), (83, .iload_n 1, 1, (0, 0, 0), 0), (84, .iconst 0, 1, (0, 0, 0), 0), (85, .invokevirtual 64, 3, (115, 3, 0), 0), (88, .ifCond .ne 5, 3, (0, 0, 0), 0), (91, .iconst 0, 1, (0, 0, 0), 0)]), (123, [(92, .ireturn, 1, (0, 0, 3), 0), (93, .iload 4, 2, (0, 0, 0), 0), (95, .bipush 38, 2, (0, 0, 0), 0), (97, .if_icmp .ne 9, 3, (0, 0, 0), 0), (100, .aload_n 0, 1, (0, 0, 0), 0), (101, .bipush (-38), 2, (0, 0, 0), 0), (103, .invokevirtual 43, 3, (111, 2, 0), 0), (106, .iinc 3 1, 3, (0, 0, 0), 0), (109, .goto (-105), 3, (0, 0, 0), 0), (112, .iload_n 2, 1, (0, 0, 0), 0), (113, .ifCond .eq 9, 3, (0, 0, 0), 0), (116, .aload_n 0, 1, (0, 0, 0), 0), (117, .bipush (-124), 2, (0, 0, 0), 0), (119, .invokevirtual 43, 3, (111, 2, 0), 0), (122, .iconst 1, 1, (0, 0, 0), 0), (123, .ireturn, 1, (0, 0, 3), 0)])]
def mc_Ts_readUnit : List (Nat × List (Nat × Ent)) := [(43, [(0, .aload_n 0, 1, (0, 0, 0), 0), (1, .getfield 29, 3, (9, 3, 1), 3), (4, .invokevirtual 60, 3, (102, 1, 0), 0), (7, .istore_n 3, 1, (0, 0, 0), 0), (8, .iload_n 2, 1, (0, 0, 0), 0), (9, .ifCond .ne 22, 3, (0, 0, 0), 0), (12, .iload_n 3, 1, (0, 0, 0), 0), (13, .bipush 33, 2, (0, 0, 0), 0), (15, .if_icmp .eq 9, 3, (0, 0, 0), 0), (18, .iload_n 3, 1, (0, 0, 0), 0), (19, .bipush 40, 2, (0, 0, 0), 0), (21, .if_icmp .ne 10, 3, (0, 0, 0), 0), (24, .aload_n 0, 1, (0, 0, 0), 0), (25, .iload_n 3, 1, (0, 0, 0), 0), (26, .iload_n 1, 1, (0, 0, 0), 0), (27, .invokevirtual 83, 3, (116, 3, 0), 0), (30, .ireturn, 1, (0, 0, 3), 0), (31, .iload_n 2, 1, (0, 0, 0), 0), (32, .ifCond .ne 13, 3, (0, 0, 0), 0), (35, .aload_n 0, 1, (0, 0, 0), 0), (36, .iload_n 1, 1, (0, 0, 0), 0), (37, .invokevirtual 74, 3, (118, 2, 0), 0), (40, .ifCond .ne 5, 3, (0, 0, 0), 0), (43, .iconst 0, 1, (0, 0, 0), 0)]), (91, [(44, .ireturn, 1, (0, 0, 3), 0), (45, .aload_n 0, 1, (0, 0, 0), 0), (46, .getfield 29, 3, (9, 3, 1), 3), (49, .invokevirtual 60, 3, (102, 1, 0), 0), (52, .istore 4, 2, (0, 0, 0), 0), (54, .iload 4, 2, (0, 0, 0), 0), (56, .invokestatic 77, 3, (117, 1, 0), 0), (59, .ifCond .ne 18, 3, (0, 0, 0), 0), (62, .aload_n 0, 1, (0, 0, 0), 0), (63, .getfield 29, 3, (9, 3, 1), 3), (66, .aload_n 0, 1, (0, 0, 0), 0), (67, .getfield 29, 3, (9, 3, 1), 3), (70, .getfield 80, 3, (8, 2, 0), 2), (73, .invokevirtual 57, 3, (104, 2, 0), 0), (76, .ireturn, 1, (0, 0, 3), 0), (77, .aload_n 0, 1, (0, 0, 0), 0), (78, .getfield 29, 3, (9, 3, 1), 3), (81, .dup, 1, (0, 0, 0), 0), (82, .getfield 80, 3, (8, 2, 0), 2), (85, .iconst 1, 1, (0, 0, 0), 0), (86, .iadd, 1, (0, 0, 0), 0), (87, .putfield 80, 3, (8, 2, 0), 2), (90, .aload_n 0, 1, (0, 0, 0), 0), (91, .iload_n 1, 1, (0, 0, 0), 0)]), (108, [(92, .invokevirtual 74, 3, (118, 2, 0), 0), (95, .ifCond .ne 5, 3, (0, 0, 0), 0), (98, .iconst 0, 1, (0, 0, 0), 0), (99, .ireturn, 1, (0, 0, 3), 0), (100, .aload_n 0, 1, (0, 0, 0), 0), (101, .iload 4, 2, (0, 0, 0), 0), (103, .ineg, 1, (0, 0, 0), 0), (104, .invokevirtual 43, 3, (111, 2, 0), 0), (107, .iconst 1, 1, (0, 0, 0), 0), (108, .ireturn, 1, (0, 0, 3), 0)])]
def mc_Ts_readNestedUnit : List (Nat × List (Nat × Ent)) := [(42, [(0, .iload_n 2, 1, (0, 0, 0), 0), (1, .bipush 6, 2, (0, 0, 0), 0), (3, .if_icmp .lt 18, 3, (0, 0, 0), 0), (6, .aload_n 0, 1, (0, 0, 0), 0), (7, .getfield 29, 3, (9, 3, 1), 3), (10, .aload_n 0, 1, (0, 0, 0), 0), (11, .getfield 29, 3, (9, 3, 1), 3), (14, .getfield 80, 3, (8, 2, 0), 2), (17, .invokevirtual 57, 3, (104, 2, 0), 0), (20, .ireturn, 1, (0, 0, 3), 0), (21, .aload_n 0, 1, (0, 0, 0), 0), (22, .getfield 29, 3, (9, 3, 1), 3), (25, .dup, 1, (0, 0, 0), 0), (26, .getfield 80, 3, (8, 2, 0), 2), (29, .iconst 1, 1, (0, 0, 0), 0), (30, .iadd, 1, (0, 0, 0), 0), (31, .putfield 80, 3, (8, 2, 0), 2), (34, .aload_n 0, 1, (0, 0, 0), 0), (35, .iload_n 2, 1, (0, 0, 0), 0), (36, .iconst 1, 1, (0, 0, 0), 0), (37, .iadd, 1, (0, 0, 0), 0), (38, .iconst 0, 1, (0, 0, 0), 0), (39, .invokevirtual 64, 3, (115, 3, 0), 0), (42, .ifCond .ne 5, 3, (0, 0, 0), 0)]), (87, [(45, .iconst 0, 1, (0, 0, 0), 0), (46, .ireturn, 1, (0, 0, 3), 0), (47, .iload_n 1, 1, (0, 0, 0), 0), (48, .bipush 40, 2, (0, 0, 0), 0), (50, .if_icmp .ne 31, 3, (0, 0, 0), 0), (53, .aload_n 0, 1, (0, 0, 0), 0), (54, .iload_n 2, 1, (0, 0, 0), 0), (55, .iconst 1, 1, (0, 0, 0), 0), (56, .iadd, 1, (0, 0, 0), 0), (57, .invokevirtual 68, 3, (114, 2, 0), 0), (60, .ifCond .eq 19, 3, (0, 0, 0), 0), (63, .aload_n 0, 1, (0, 0, 0), 0), (64, .getfield 29, 3, (9, 3, 1), 3), (67, .bipush 41, 2, (0, 0, 0), 0), (69, .invokevirtual 50, 3, (105, 2, 0), 0), (72, .ifCond .eq 7, 3, (0, 0, 0), 0), (75, .iconst 1, 1, (0, 0, 0), 0), (76, .goto 4, 3, (0, 0, 0), 0), (79, .iconst 0, 1, (0, 0, 0), 0), (80, .ireturn, 1, (0, 0, 3), 0), (81, .aload_n 0, 1, (0, 0, 0), 0), (82, .bipush (-33), 2, (0, 0, 0), 0), (84, .invokevirtual 43, 3, (111, 2, 0), 0), (87, .iconst 1, 1, (0, 0, 0), 0)]), (88, [(88, .ireturn, 1, (0, 0, 3), 0)])]
def mc_Ts_isComparison : List (Nat × List (Nat × Ent)) := [(23, [(0, .iload_n 0, 1, (0, 0, 0), 0), (1, .bipush 61, 2, (0, 0, 0), 0), (3, .if_icmp .eq 15, 3, (0, 0, 0), 0), (6, .iload_n 0, 1, (0, 0, 0), 0), (7, .bipush 60, 2, (0, 0, 0), 0), (9, .if_icmp .eq 9, 3, (0, 0, 0), 0), (12, .iload_n 0, 1, (0, 0, 0), 0), (13, .bipush 62, 2, (0, 0, 0), 0), (15, .if_icmp .ne 7, 3, (0, 0, 0), 0), (18, .iconst 1, 1, (0, 0, 0), 0), (19, .goto 4, 3, (0, 0, 0), 0), (22, .iconst 0, 1, (0, 0, 0), 0), (23, .ireturn, 1, (0, 0, 3), 0)])]
def mc_Ts_readSum : List (Nat × List (Nat × Ent)) := [(44, [(0, .iconst 0, 1, (0, 0, 0), 0), (1, .istore_n 2, 1, (0, 0, 0), 0), (2, .aload_n 0, 1, (0, 0, 0), 0), (3, .iload_n 1, 1, (0, 0, 0), 0), (4, .invokevirtual 87, 3, (120, 2, 0), 0), (7, .ifCond .ne 5, 3, (0, 0, 0), 0), (10, .iconst 0, 1, (0, 0, 0), 0), (11, .ireturn, 1, (0, 0, 3), 0), (12, .iconst 0, 1, (0, 0, 0), 0), (13, .istore_n 3, 1, (0, 0, 0), 0), (14, .iload_n 3, 1, (0, 0, 0), 0), (15, .sipush 240, 3, (0, 0, 0), 0), (18, .if_icmp .gt 112, 3, (0, 0, 0), 0), (21, .aload_n 0, 1, (0, 0, 0), 0), (22, .getfield 29, 3, (9, 3, 1), 3), (25, .invokevirtual 60, 3, (102, 1, 0), 0), (28, .istore 4, 2, (0, 0, 0), 0), (30, .iload 4, 2, (0, 0, 0), 0), (32, .bipush 43, 2, (0, 0, 0), 0), (34, .if_icmp .eq 10, 3, (0, 0, 0), 0), (37, .iload 4, 2, (0, 0, 0), 0), (39, .bipush 45, 2, (0, 0, 0), 0), (41, .if_icmp .ne 7, 3, (0, 0, 0), 0), (44, .iconst 1, 1, (0, 0, 0), 0)]), (93, [(45, .goto 4, 3, (0, 0, 0), 0), (48, .iconst 0, 1, (0, 0, 0), 0), (49, .istore 5, 2, (0, 0, 0), 0), (51, .iload 5, 2, (0, 0, 0), 0), (53, .ifCond .ne 20, 3, (0, 0, 0), 0), (56, .iload 4, 2, (0, 0, 0), 0), (58, .bipush 42, 2, (0, 0, 0), 0), (60, .if_icmp .eq 13, 3, (0, 0, 0), 0), (63, .iload 4, 2, (0, 0, 0), 0), (65, .bipush 47, 2, (0, 0, 0), 0), (67, .if_icmp .eq 6, 3, (0, 0, 0), 0), (70, .goto 60, 3, (0, 0, 0), 0), (73, .aload_n 0, 1, (0, 0, 0), 0), (74, .getfield 29, 3, (9, 3, 1), 3), (77, .dup, 1, (0, 0, 0), 0), (78, .getfield 80, 3, (8, 2, 0), 2), (81, .iconst 1, 1, (0, 0, 0), 0), (82, .iadd, 1, (0, 0, 0), 0), (83, .putfield 80, 3, (8, 2, 0), 2), (86, .iload 5, 2, (0, 0, 0), 0), (88, .ifCond .eq 11, 3, (0, 0, 0), 0), (91, .aload_n 0, 1, (0, 0, 0), 0), (92, .iload_n 2, 1, (0, 0, 0), 0), (93, .invokevirtual 90, 3, (119, 2, 0), 0)]), (136, [(96, .iload 4, 2, (0, 0, 0), 0), (98, .istore_n 2, 1, (0, 0, 0), 0), (99, .aload_n 0, 1, (0, 0, 0), 0), (100, .iload_n 1, 1, (0, 0, 0), 0), (101, .invokevirtual 87, 3, (120, 2, 0), 0), (104, .ifCond .ne 5, 3, (0, 0, 0), 0), (107, .iconst 0, 1, (0, 0, 0), 0), (108, .ireturn, 1, (0, 0, 3), 0), (109, .aload_n 0, 1, (0, 0, 0), 0), (110, .iload 5, 2, (0, 0, 0), 0), (112, .ifCond .eq 7, 3, (0, 0, 0), 0), (115, .iconst 0, 1, (0, 0, 0), 0), (116, .goto 5, 3, (0, 0, 0), 0), (119, .iload 4, 2, (0, 0, 0), 0), (121, .invokevirtual 90, 3, (119, 2, 0), 0), (124, .iinc 3 1, 3, (0, 0, 0), 0), (127, .goto (-113), 3, (0, 0, 0), 0), (130, .aload_n 0, 1, (0, 0, 0), 0), (131, .iload_n 2, 1, (0, 0, 0), 0), (132, .invokevirtual 90, 3, (119, 2, 0), 0), (135, .iconst 1, 1, (0, 0, 0), 0), (136, .ireturn, 1, (0, 0, 3), 0)])]
def mc_Ts_emitIfAny : List (Nat × List (Nat × Ent)) := [(10, [(0, .iload_n 1, 1, (0, 0, 0), 0), (1, .ifCond .eq 9, 3, (0, 0, 0), 0), (4, .aload_n 0, 1, (0, 0, 0), 0), (5, .iload_n 1, 1, (0, 0, 0), 0), (6, .ineg, 1, (0, 0, 0), 0), (7, .invokevirtual 43, 3, (111, 2, 0), 0), (10, .return_, 1, (0, 0, 0), 0)])]
def mc_Ts_readAtom : List (Nat × List (Nat × Ent)) := [(45, [(0, .aload_n 0, 1, (0, 0, 0), 0), (1, .getfield 29, 3, (9, 3, 1), 3), (4, .invokevirtual 60, 3, (102, 1, 0), 0), (7, .istore_n 2, 1, (0, 0, 0), 0), (8, .iload_n 2, 1, (0, 0, 0), 0), (9, .bipush 91, 2, (0, 0, 0), 0), (11, .if_icmp .ne 65, 3, (0, 0, 0), 0), (14, .iload_n 1, 1, (0, 0, 0), 0), (15, .bipush 6, 2, (0, 0, 0), 0), (17, .if_icmp .lt 18, 3, (0, 0, 0), 0), (20, .aload_n 0, 1, (0, 0, 0), 0), (21, .getfield 29, 3, (9, 3, 1), 3), (24, .aload_n 0, 1, (0, 0, 0), 0), (25, .getfield 29, 3, (9, 3, 1), 3), (28, .getfield 80, 3, (8, 2, 0), 2), (31, .invokevirtual 57, 3, (104, 2, 0), 0), (34, .ireturn, 1, (0, 0, 3), 0), (35, .aload_n 0, 1, (0, 0, 0), 0), (36, .getfield 29, 3, (9, 3, 1), 3), (39, .dup, 1, (0, 0, 0), 0), (40, .getfield 80, 3, (8, 2, 0), 2), (43, .iconst 1, 1, (0, 0, 0), 0), (44, .iadd, 1, (0, 0, 0), 0), (45, .putfield 80, 3, (8, 2, 0), 2)]), (89, [(48, .aload_n 0, 1, (0, 0, 0), 0), (49, .iload_n 1, 1, (0, 0, 0), 0), (50, .iconst 1, 1, (0, 0, 0), 0), (51, .iadd, 1, (0, 0, 0), 0), (52, .invokevirtual 74, 3, (118, 2, 0), 0), (55, .ifCond .eq 19, 3, (0, 0, 0), 0), (58, .aload_n 0, 1, (0, 0, 0), 0), (59, .getfield 29, 3, (9, 3, 1), 3), (62, .bipush 93, 2, (0, 0, 0), 0), (64, .invokevirtual 50, 3, (105, 2, 0), 0), (67, .ifCond .eq 7, 3, (0, 0, 0), 0), (70, .iconst 1, 1, (0, 0, 0), 0), (71, .goto 4, 3, (0, 0, 0), 0), (74, .iconst 0, 1, (0, 0, 0), 0), (75, .ireturn, 1, (0, 0, 3), 0), (76, .iconst 0, 1, (0, 0, 0), 0), (77, .istore_n 3, 1, (0, 0, 0), 0), (78, .iload_n 3, 1, (0, 0, 0), 0), (79, .bipush 7, 2, (0, 0, 0), 0), (81, .if_icmp .ge 40, 3, (0, 0, 0), 0), (84, .getstatic 93, 3, (9, 0, 0), 0), (87, .iload_n 3, 1, (0, 0, 0), 0), (88, .caload, 1, (0, 0, 0), 0), (89, .iload_n 2, 1, (0, 0, 0), 0)]), (131, [(90, .if_icmp .ne 25, 3, (0, 0, 0), 0), (93, .aload_n 0, 1, (0, 0, 0), 0), (94, .getfield 29, 3, (9, 3, 1), 3), (97, .dup, 1, (0, 0, 0), 0), (98, .getfield 80, 3, (8, 2, 0), 2), (101, .iconst 1, 1, (0, 0, 0), 0), (102, .iadd, 1, (0, 0, 0), 0), (103, .putfield 80, 3, (8, 2, 0), 2), (106, .aload_n 0, 1, (0, 0, 0), 0), (107, .iconst (-1), 1, (0, 0, 0), 0), (108, .iload_n 3, 1, (0, 0, 0), 0), (109, .isub, 1, (0, 0, 0), 0), (110, .invokevirtual 43, 3, (111, 2, 0), 0), (113, .iconst 1, 1, (0, 0, 0), 0), (114, .ireturn, 1, (0, 0, 3), 0), (115, .iinc 3 1, 3, (0, 0, 0), 0), (118, .goto (-40), 3, (0, 0, 0), 0), (121, .aload_n 0, 1, (0, 0, 0), 0), (122, .getfield 29, 3, (9, 3, 1), 3), (125, .iconst 4, 1, (0, 0, 0), 0), (126, .invokevirtual 97, 3, (107, 2, 0), 0), (129, .istore_n 3, 1, (0, 0, 0), 0), (130, .iload_n 3, 1, (0, 0, 0), 0), (131, .iconst (-1), 1, (0, 0, 0), 0)]), (143, [(132, .if_icmp .ne 5, 3, (0, 0, 0), 0), (135, .iconst 0, 1, (0, 0, 0), 0), (136, .ireturn, 1, (0, 0, 3), 0), (137, .aload_n 0, 1, (0, 0, 0), 0), (138, .iload_n 3, 1, (0, 0, 0), 0), (139, .invokevirtual 43, 3, (111, 2, 0), 0), (142, .iconst 1, 1, (0, 0, 0), 0), (143, .ireturn, 1, (0, 0, 3), 0)])]
def mc_Ts_worth : List (Nat × List (Nat × Ent)) := [(40, [(0, .aload_n 0, 1, (0, 0, 0), 0), (1, .getfield 25, 3, (9, 5, 0), 5), (4, .ifCond .lt 14, 3, (0, 0, 0), 0), (7, .aload_n 0, 1, (0, 0, 0), 0), (8, .getfield 25, 3, (9, 5, 0), 5), (11, .aload_n 0, 1, (0, 0, 0), 0), (12, .getfield 36, 3, (9, 4, 0), 4), (15, .if_icmp .lt 5, 3, (0, 0, 0), 0), (18, .iconst 0, 1, (0, 0, 0), 0), (19, .ireturn, 1, (0, 0, 1), 0), (20, .aload_n 0, 1, (0, 0, 0), 0), (21, .getfield 13, 3, (9, 0, 1), 0), (24, .aload_n 0, 1, (0, 0, 0), 0), (25, .getfield 25, 3, (9, 5, 0), 5), (28, .aaload, 1, (0, 0, 0), 0), (29, .astore_n 2, 1, (0, 0, 0), 0), (30, .iconst 0, 1, (0, 0, 0), 0), (31, .istore_n 3, 1, (0, 0, 0), 0), (32, .iconst 0, 1, (0, 0, 0), 0), (33, .istore 4, 2, (0, 0, 0), 0), (35, .iconst 0, 1, (0, 0, 0), 0), (36, .istore 5, 2, (0, 0, 0), 0), (38, .iload 5, 2, (0, 0, 0), 0), (40, .aload_n 0, 1, (0, 0, 0), 0)]), (83, [(41, .getfield 18, 3, (9, 1, 1), 1), (44, .aload_n 0, 1, (0, 0, 0), 0), (45, .getfield 25, 3, (9, 5, 0), 5), (48, .iaload, 1, (0, 0, 0), 0), (49, .if_icmp .ge 198, 3, (0, 0, 0), 0), (52, .aload_n 2, 1, (0, 0, 0), 0), (53, .iload 5, 2, (0, 0, 0), 0), (55, .iaload, 1, (0, 0, 0), 0), (56, .ineg, 1, (0, 0, 0), 0), (57, .istore 6, 2, (0, 0, 0), 0), (59, .iload 6, 2, (0, 0, 0), 0), (61, .bipush 59, 2, (0, 0, 0), 0), (63, .if_icmp .ne 27, 3, (0, 0, 0), 0), (66, .iload 4, 2, (0, 0, 0), 0), (68, .ifCond .ne 16, 3, (0, 0, 0), 0), (71, .iload_n 3, 1, (0, 0, 0), 0), (72, .ifCond .le 12, 3, (0, 0, 0), 0), (75, .aload_n 0, 1, (0, 0, 0), 0), (76, .getfield 22, 3, (9, 2, 1), 2), (79, .iload_n 3, 1, (0, 0, 0), 0), (80, .iconst 1, 1, (0, 0, 0), 0), (81, .isub, 1, (0, 0, 0), 0), (82, .iaload, 1, (0, 0, 0), 0), (83, .ireturn, 1, (0, 0, 1), 0)]), (131, [(84, .iconst 0, 1, (0, 0, 0), 0), (85, .istore 4, 2, (0, 0, 0), 0), (87, .goto 154, 3, (0, 0, 0), 0), (90, .iload 4, 2, (0, 0, 0), 0), (92, .ifCond .eq 6, 3, (0, 0, 0), 0), (95, .goto 146, 3, (0, 0, 0), 0), (98, .iload 6, 2, (0, 0, 0), 0), (100, .bipush 7, 2, (0, 0, 0), 0), (102, .if_icmp .gt 38, 3, (0, 0, 0), 0), (105, .iload_n 3, 1, (0, 0, 0), 0), (106, .bipush 64, 2, (0, 0, 0), 0), (108, .if_icmp .ge 133, 3, (0, 0, 0), 0), (111, .aload_n 0, 1, (0, 0, 0), 0), (112, .getfield 22, 3, (9, 2, 1), 2), (115, .iload_n 3, 1, (0, 0, 0), 0), (116, .iload 6, 2, (0, 0, 0), 0), (118, .ifCond .gt 9, 3, (0, 0, 0), 0), (121, .iload 6, 2, (0, 0, 0), 0), (123, .ineg, 1, (0, 0, 0), 0), (124, .goto 9, 3, (0, 0, 0), 0), (127, .aload_n 1, 1, (0, 0, 0), 0), (128, .iload 6, 2, (0, 0, 0), 0), (130, .iconst 1, 1, (0, 0, 0), 0), (131, .isub, 1, (0, 0, 0), 0)]), (174, [(132, .iaload, 1, (0, 0, 0), 0), (133, .iastore, 1, (0, 0, 0), 0), (134, .iinc 3 1, 3, (0, 0, 0), 0), (137, .goto 104, 3, (0, 0, 0), 0), (140, .iload 6, 2, (0, 0, 0), 0), (142, .bipush 63, 2, (0, 0, 0), 0), (144, .if_icmp .ne 30, 3, (0, 0, 0), 0), (147, .iload_n 3, 1, (0, 0, 0), 0), (148, .ifCond .le 18, 3, (0, 0, 0), 0), (151, .aload_n 0, 1, (0, 0, 0), 0), (152, .getfield 22, 3, (9, 2, 1), 2), (155, .iload_n 3, 1, (0, 0, 0), 0), (156, .iconst 1, 1, (0, 0, 0), 0), (157, .isub, 1, (0, 0, 0), 0), (158, .iaload, 1, (0, 0, 0), 0), (159, .ifCond .ne 7, 3, (0, 0, 0), 0), (162, .iconst 1, 1, (0, 0, 0), 0), (163, .goto 4, 3, (0, 0, 0), 0), (166, .iconst 0, 1, (0, 0, 0), 0), (167, .istore 4, 2, (0, 0, 0), 0), (169, .iconst 0, 1, (0, 0, 0), 0), (170, .istore_n 3, 1, (0, 0, 0), 0), (171, .goto 70, 3, (0, 0, 0), 0), (174, .iload 6, 2, (0, 0, 0), 0)]), (214, [(176, .bipush 33, 2, (0, 0, 0), 0), (178, .if_icmp .ne 28, 3, (0, 0, 0), 0), (181, .iload_n 3, 1, (0, 0, 0), 0), (182, .ifCond .le 59, 3, (0, 0, 0), 0), (185, .aload_n 0, 1, (0, 0, 0), 0), (186, .getfield 22, 3, (9, 2, 1), 2), (189, .iload_n 3, 1, (0, 0, 0), 0), (190, .iconst 1, 1, (0, 0, 0), 0), (191, .isub, 1, (0, 0, 0), 0), (192, .iconst 1, 1, (0, 0, 0), 0), (193, .aload_n 0, 1, (0, 0, 0), 0), (194, .getfield 22, 3, (9, 2, 1), 2), (197, .iload_n 3, 1, (0, 0, 0), 0), (198, .iconst 1, 1, (0, 0, 0), 0), (199, .isub, 1, (0, 0, 0), 0), (200, .iaload, 1, (0, 0, 0), 0), (201, .isub, 1, (0, 0, 0), 0), (202, .iastore, 1, (0, 0, 0), 0), (203, .goto 38, 3, (0, 0, 0), 0), (206, .iload_n 3, 1, (0, 0, 0), 0), (207, .iconst 1, 1, (0, 0, 0), 0), (208, .if_icmp .le 33, 3, (0, 0, 0), 0), (211, .iinc 3 (-1), 3, (0, 0, 0), 0), (214, .aload_n 0, 1, (0, 0, 0), 0)]), (248, [(215, .getfield 22, 3, (9, 2, 1), 2), (218, .iload_n 3, 1, (0, 0, 0), 0), (219, .iconst 1, 1, (0, 0, 0), 0), (220, .isub, 1, (0, 0, 0), 0), (221, .iload 6, 2, (0, 0, 0), 0), (223, .aload_n 0, 1, (0, 0, 0), 0), (224, .getfield 22, 3, (9, 2, 1), 2), (227, .iload_n 3, 1, (0, 0, 0), 0), (228, .iconst 1, 1, (0, 0, 0), 0), (229, .isub, 1, (0, 0, 0), 0), (230, .iaload, 1, (0, 0, 0), 0), (231, .aload_n 0, 1, (0, 0, 0), 0), (232, .getfield 22, 3, (9, 2, 1), 2), (235, .iload_n 3, 1, (0, 0, 0), 0), (236, .iaload, 1, (0, 0, 0), 0), (237, .invokestatic 101, 3, (122, 3, 0), 0), (240, .iastore, 1, (0, 0, 0), 0), (241, .iinc 5 1, 3, (0, 0, 0), 0), (244, .goto (-206), 3, (0, 0, 0), 0), (247, .iconst 0, 1, (0, 0, 0), 0), (248, .ireturn, 1, (0, 0, 1), 0)])]
def mc_Ts_joined : List (Nat × List (Nat × Ent)) := [(141, [(0, .lconst 0, 1, (0, 0, 0), 0), (1, .lstore_n 3, 1, (0, 0, 0), 0), (2, .iload_n 0, 1, (0, 0, 0), 0), (3, .tableswitch 204 38 62 #[196, 204, 204, 204, 129, 113, 204, 121, 204, 138, 204, 204, 204, 204, 204, 204, 204, 204, 204, 204, 204, 204, 168, 154, 182], 113, (0, 0, 0), 0), (116, .iload_n 1, 1, (0, 0, 0), 0), (117, .iload_n 2, 1, (0, 0, 0), 0), (118, .iadd, 1, (0, 0, 0), 0), (119, .i2l, 1, (0, 0, 0), 0), (120, .lstore_n 3, 1, (0, 0, 0), 0), (121, .goto 91, 3, (0, 0, 0), 0), (124, .iload_n 1, 1, (0, 0, 0), 0), (125, .iload_n 2, 1, (0, 0, 0), 0), (126, .isub, 1, (0, 0, 0), 0), (127, .i2l, 1, (0, 0, 0), 0), (128, .lstore_n 3, 1, (0, 0, 0), 0), (129, .goto 83, 3, (0, 0, 0), 0), (132, .iload_n 1, 1, (0, 0, 0), 0), (133, .i2l, 1, (0, 0, 0), 0), (134, .iload_n 2, 1, (0, 0, 0), 0), (135, .i2l, 1, (0, 0, 0), 0), (136, .lmul, 1, (0, 0, 0), 0), (137, .lstore_n 3, 1, (0, 0, 0), 0), (138, .goto 74, 3, (0, 0, 0), 0), (141, .iload_n 2, 1, (0, 0, 0), 0)]), (181, [(142, .ifCond .ne 7, 3, (0, 0, 0), 0), (145, .lconst 0, 1, (0, 0, 0), 0), (146, .goto 7, 3, (0, 0, 0), 0), (149, .iload_n 1, 1, (0, 0, 0), 0), (150, .iload_n 2, 1, (0, 0, 0), 0), (151, .idiv, 1, (0, 0, 0), 0), (152, .i2l, 1, (0, 0, 0), 0), (153, .lstore_n 3, 1, (0, 0, 0), 0), (154, .goto 58, 3, (0, 0, 0), 0), (157, .iload_n 1, 1, (0, 0, 0), 0), (158, .iload_n 2, 1, (0, 0, 0), 0), (159, .if_icmp .ne 7, 3, (0, 0, 0), 0), (162, .lconst 1, 1, (0, 0, 0), 1), (163, .goto 4, 3, (0, 0, 0), 0), (166, .lconst 0, 1, (0, 0, 0), 0), (167, .lstore_n 3, 1, (0, 0, 0), 0), (168, .goto 44, 3, (0, 0, 0), 0), (171, .iload_n 1, 1, (0, 0, 0), 0), (172, .iload_n 2, 1, (0, 0, 0), 0), (173, .if_icmp .ge 7, 3, (0, 0, 0), 0), (176, .lconst 1, 1, (0, 0, 0), 1), (177, .goto 4, 3, (0, 0, 0), 0), (180, .lconst 0, 1, (0, 0, 0), 0), (181, .lstore_n 3, 1, (0, 0, 0), 0)]), (219, [(182, .goto 30, 3, (0, 0, 0), 0), (185, .iload_n 1, 1, (0, 0, 0), 0), (186, .iload_n 2, 1, (0, 0, 0), 0), (187, .if_icmp .le 7, 3, (0, 0, 0), 0), (190, .lconst 1, 1, (0, 0, 0), 1), (191, .goto 4, 3, (0, 0, 0), 0), (194, .lconst 0, 1, (0, 0, 0), 0), (195, .lstore_n 3, 1, (0, 0, 0), 0), (196, .goto 16, 3, (0, 0, 0), 0), (199, .iload_n 1, 1, (0, 0, 0), 0), (200, .iload_n 2, 1, (0, 0, 0), 0), (201, .iand, 1, (0, 0, 0), 0), (202, .i2l, 1, (0, 0, 0), 0), (203, .lstore_n 3, 1, (0, 0, 0), 0), (204, .goto 8, 3, (0, 0, 0), 0), (207, .iload_n 1, 1, (0, 0, 0), 0), (208, .iload_n 2, 1, (0, 0, 0), 0), (209, .ior, 1, (0, 0, 0), 0), (210, .i2l, 1, (0, 0, 0), 0), (211, .lstore_n 3, 1, (0, 0, 0), 0), (212, .ldc2_w 105, 3, (0, 0, 0), -1000000), (215, .ldc2_w 107, 3, (0, 0, 0), 1000000), (218, .lload_n 3, 1, (0, 0, 0), 0), (219, .invokestatic 109, 3, (317, 2, 0), 0)]), (226, [(222, .invokestatic 115, 3, (315, 2, 0), 0), (225, .l2i, 1, (0, 0, 0), 0), (226, .ireturn, 1, (0, 0, 1), 0)])]
def mc_F_init : List (Nat × List (Nat × Ent)) := []
def mc_F_feed : List (Nat × List (Nat × Ent)) := [(45, [(0, .iload_n 1, 1, (0, 0, 0), 0), (1, .invokestatic 99, 3, (99, 1, 0), 0), (4, .iload_n 2, 1, (0, 0, 0), 0), (5, .invokestatic 99, 3, (99, 1, 0), 0), (8, .iadd, 1, (0, 0, 0), 0), (9, .iload_n 3, 1, (0, 0, 0), 0), (10, .invokestatic 99, 3, (99, 1, 0), 0), (13, .iadd, 1, (0, 0, 0), 0), (14, .iload 4, 2, (0, 0, 0), 0), (16, .invokestatic 99, 3, (99, 1, 0), 0), (19, .iadd, 1, (0, 0, 0), 0), (20, .iload 5, 2, (0, 0, 0), 0), (22, .invokestatic 99, 3, (99, 1, 0), 0), (25, .iadd, 1, (0, 0, 0), 0), (26, .istore 6, 2, (0, 0, 0), 0), (28, .aload_n 0, 1, (0, 0, 0), 0), (29, .getfield 10, 3, (10, 0, 1), 0), (32, .getfield 103, 3, (8, 1, 0), 1), (35, .iload 6, 2, (0, 0, 0), 0), (37, .iadd, 1, (0, 0, 0), 0), (38, .sipush 240, 3, (0, 0, 0), 0), (41, .if_icmp .le 5, 3, (0, 0, 0), 0), (44, .iconst (-1), 1, (0, 0, 0), 0), (45, .ireturn, 1, (0, 0, 1), 0)]), (95, [(46, .aload_n 0, 1, (0, 0, 0), 0), (47, .getfield 10, 3, (10, 0, 1), 0), (50, .iload_n 1, 1, (0, 0, 0), 0), (51, .invokevirtual 107, 3, (100, 2, 0), 0), (54, .aload_n 0, 1, (0, 0, 0), 0), (55, .getfield 10, 3, (10, 0, 1), 0), (58, .iload_n 2, 1, (0, 0, 0), 0), (59, .invokevirtual 107, 3, (100, 2, 0), 0), (62, .aload_n 0, 1, (0, 0, 0), 0), (63, .getfield 10, 3, (10, 0, 1), 0), (66, .iload_n 3, 1, (0, 0, 0), 0), (67, .invokevirtual 107, 3, (100, 2, 0), 0), (70, .aload_n 0, 1, (0, 0, 0), 0), (71, .getfield 10, 3, (10, 0, 1), 0), (74, .iload 4, 2, (0, 0, 0), 0), (76, .invokevirtual 107, 3, (100, 2, 0), 0), (79, .aload_n 0, 1, (0, 0, 0), 0), (80, .getfield 10, 3, (10, 0, 1), 0), (83, .iload 5, 2, (0, 0, 0), 0), (85, .invokevirtual 107, 3, (100, 2, 0), 0), (88, .aload_n 0, 1, (0, 0, 0), 0), (89, .getfield 10, 3, (10, 0, 1), 0), (92, .getfield 103, 3, (8, 1, 0), 1), (95, .ireturn, 1, (0, 0, 1), 0)])]
def mc_F_end : List (Nat × List (Nat × Ent)) := [(26, [(0, .iload_n 1, 1, (0, 0, 0), 0), (1, .ifCond .lt 14, 3, (0, 0, 0), 0), (4, .iload_n 1, 1, (0, 0, 0), 0), (5, .aload_n 0, 1, (0, 0, 0), 0), (6, .getfield 10, 3, (10, 0, 1), 0), (9, .getfield 103, 3, (8, 1, 0), 1), (12, .if_icmp .le 5, 3, (0, 0, 0), 0), (15, .iconst 0, 1, (0, 0, 0), 0), (16, .ireturn, 1, (0, 0, 3), 0), (17, .aload_n 0, 1, (0, 0, 0), 0), (18, .getfield 10, 3, (10, 0, 1), 0), (21, .iload_n 1, 1, (0, 0, 0), 0), (22, .putfield 103, 3, (8, 1, 0), 1), (25, .iconst 1, 1, (0, 0, 0), 0), (26, .ireturn, 1, (0, 0, 3), 0)])]
def mc_F_fault : List (Nat × List (Nat × Ent)) := [(31, [(0, .iload_n 1, 1, (0, 0, 0), 0), (1, .ifCond .lt 8, 3, (0, 0, 0), 0), (4, .iload_n 1, 1, (0, 0, 0), 0), (5, .iconst 2, 1, (0, 0, 0), 0), (6, .if_icmp .le 6, 3, (0, 0, 0), 0), (9, .bipush (-2), 2, (0, 0, 0), 0), (11, .ireturn, 1, (0, 0, 1), 0), (12, .aload_n 0, 1, (0, 0, 0), 0), (13, .iload_n 1, 1, (0, 0, 0), 0), (14, .invokevirtual 111, 3, (168, 2, 0), 0), (17, .ifCond .eq 7, 3, (0, 0, 0), 0), (20, .iconst (-1), 1, (0, 0, 0), 0), (21, .goto 10, 3, (0, 0, 0), 0), (24, .aload_n 0, 1, (0, 0, 0), 0), (25, .getfield 10, 3, (10, 0, 1), 0), (28, .getfield 115, 3, (8, 3, 0), 3), (31, .ireturn, 1, (0, 0, 1), 0)])]
def mc_F_text : List (Nat × List (Nat × Ent)) := [(39, [(0, .iload_n 1, 1, (0, 0, 0), 0), (1, .ifCond .lt 16, 3, (0, 0, 0), 0), (4, .iload_n 1, 1, (0, 0, 0), 0), (5, .iconst 2, 1, (0, 0, 0), 0), (6, .if_icmp .gt 11, 3, (0, 0, 0), 0), (9, .aload_n 0, 1, (0, 0, 0), 0), (10, .iload_n 1, 1, (0, 0, 0), 0), (11, .invokevirtual 111, 3, (168, 2, 0), 0), (14, .ifCond .ne 5, 3, (0, 0, 0), 0), (17, .iconst (-1), 1, (0, 0, 0), 0), (18, .ireturn, 1, (0, 0, 1), 0), (19, .iconst (-1), 1, (0, 0, 0), 0), (20, .istore_n 2, 1, (0, 0, 0), 0), (21, .iload_n 1, 1, (0, 0, 0), 0), (22, .ifCond .ne 11, 3, (0, 0, 0), 0), (25, .aload_n 0, 1, (0, 0, 0), 0), (26, .invokevirtual 118, 3, (169, 1, 0), 0), (29, .istore_n 2, 1, (0, 0, 0), 0), (30, .goto 27, 3, (0, 0, 0), 0), (33, .iload_n 1, 1, (0, 0, 0), 0), (34, .iconst 1, 1, (0, 0, 0), 0), (35, .if_icmp .ne 14, 3, (0, 0, 0), 0), (38, .aload_n 0, 1, (0, 0, 0), 0), (39, .getfield 31, 3, (10, 3, 1), 3)]), (71, [(42, .invokevirtual 122, 3, (110, 1, 0), 0), (45, .istore_n 2, 1, (0, 0, 0), 0), (46, .goto 11, 3, (0, 0, 0), 0), (49, .aload_n 0, 1, (0, 0, 0), 0), (50, .getfield 38, 3, (10, 4, 1), 4), (53, .invokevirtual 125, 3, (52, 1, 0), 0), (56, .istore_n 2, 1, (0, 0, 0), 0), (57, .iload_n 2, 1, (0, 0, 0), 0), (58, .iconst (-1), 1, (0, 0, 0), 0), (59, .if_icmp .eq 11, 3, (0, 0, 0), 0), (62, .aload_n 0, 1, (0, 0, 0), 0), (63, .getfield 10, 3, (10, 0, 1), 0), (66, .iconst 0, 1, (0, 0, 0), 0), (67, .putfield 103, 3, (8, 1, 0), 1), (70, .iload_n 2, 1, (0, 0, 0), 0), (71, .ireturn, 1, (0, 0, 1), 0)])]
def mc_F_thing : List (Nat × List (Nat × Ent)) := [(10, [(0, .aload_n 0, 1, (0, 0, 0), 0), (1, .getfield 19, 3, (10, 1, 1), 1), (4, .iconst 0, 1, (0, 0, 0), 0), (5, .iload_n 1, 1, (0, 0, 0), 0), (6, .iload_n 2, 1, (0, 0, 0), 0), (7, .invokevirtual 126, 3, (24, 4, 0), 0), (10, .ireturn, 1, (0, 0, 1), 0)])]
def mc_F_firsts : List (Nat × List (Nat × Ent)) := [(25, [(0, .aload_n 0, 1, (0, 0, 0), 0), (1, .getfield 19, 3, (10, 1, 1), 1), (4, .iload_n 1, 1, (0, 0, 0), 0), (5, .iload_n 2, 1, (0, 0, 0), 0), (6, .invokevirtual 152, 3, (31, 3, 0), 0), (9, .ifCond .eq 15, 3, (0, 0, 0), 0), (12, .aload_n 0, 1, (0, 0, 0), 0), (13, .getfield 47, 3, (10, 5, 1), 5), (16, .iload_n 1, 1, (0, 0, 0), 0), (17, .iload_n 2, 1, (0, 0, 0), 0), (18, .invokevirtual 156, 3, (73, 3, 0), 0), (21, .goto 4, 3, (0, 0, 0), 0), (24, .iconst (-1), 1, (0, 0, 0), 0), (25, .ireturn, 1, (0, 0, 1), 0)])]
def mc_F_spoil : List (Nat × List (Nat × Ent)) := [(10, [(0, .aload_n 0, 1, (0, 0, 0), 0), (1, .getfield 19, 3, (10, 1, 1), 1), (4, .iconst 2, 1, (0, 0, 0), 0), (5, .iload_n 1, 1, (0, 0, 0), 0), (6, .iload_n 2, 1, (0, 0, 0), 0), (7, .invokevirtual 126, 3, (24, 4, 0), 0), (10, .ireturn, 1, (0, 0, 1), 0)])]
def mc_F_coming : List (Nat × List (Nat × Ent)) := [(10, [(0, .aload_n 0, 1, (0, 0, 0), 0), (1, .getfield 19, 3, (10, 1, 1), 1), (4, .iconst 3, 1, (0, 0, 0), 0), (5, .iload_n 1, 1, (0, 0, 0), 0), (6, .iload_n 2, 1, (0, 0, 0), 0), (7, .invokevirtual 126, 3, (24, 4, 0), 0), (10, .ireturn, 1, (0, 0, 1), 0)])]
def mc_F_taste : List (Nat × List (Nat × Ent)) := [(27, [(0, .iload_n 1, 1, (0, 0, 0), 0), (1, .iconst (-1), 1, (0, 0, 0), 0), (2, .if_icmp .lt 14, 3, (0, 0, 0), 0), (5, .iload_n 1, 1, (0, 0, 0), 0), (6, .aload_n 0, 1, (0, 0, 0), 0), (7, .getfield 31, 3, (10, 3, 1), 3), (10, .getfield 160, 3, (9, 4, 0), 4), (13, .if_icmp .lt 5, 3, (0, 0, 0), 0), (16, .iconst 0, 1, (0, 0, 0), 0), (17, .ireturn, 1, (0, 0, 3), 0), (18, .aload_n 0, 1, (0, 0, 0), 0), (19, .getfield 31, 3, (10, 3, 1), 3), (22, .iload_n 1, 1, (0, 0, 0), 0), (23, .putfield 163, 3, (9, 5, 0), 5), (26, .iconst 1, 1, (0, 0, 0), 0), (27, .ireturn, 1, (0, 0, 3), 0)])]
def mc_F_theft : List (Nat × List (Nat × Ent)) := [(26, [(0, .iload_n 1, 1, (0, 0, 0), 0), (1, .ifCond .lt 17, 3, (0, 0, 0), 0), (4, .iload_n 1, 1, (0, 0, 0), 0), (5, .bipush 99, 2, (0, 0, 0), 0), (7, .if_icmp .gt 11, 3, (0, 0, 0), 0), (10, .iload_n 1, 1, (0, 0, 0), 0), (11, .aload_n 0, 1, (0, 0, 0), 0), (12, .getfield 166, 3, (10, 14, 0), 14), (15, .if_icmp .ne 5, 3, (0, 0, 0), 0), (18, .iconst 0, 1, (0, 0, 0), 0), (19, .ireturn, 1, (0, 0, 3), 0), (20, .aload_n 0, 1, (0, 0, 0), 0), (21, .iload_n 1, 1, (0, 0, 0), 0), (22, .putfield 166, 3, (10, 14, 0), 14), (25, .iconst 1, 1, (0, 0, 0), 0), (26, .ireturn, 1, (0, 0, 3), 0)])]
def mc_F_joy : List (Nat × List (Nat × Ent)) := [(42, [(0, .aload_n 0, 1, (0, 0, 0), 0), (1, .getfield 19, 3, (10, 1, 1), 1), (4, .iload_n 1, 1, (0, 0, 0), 0), (5, .iload_n 2, 1, (0, 0, 0), 0), (6, .invokevirtual 152, 3, (31, 3, 0), 0), (9, .ifCond .eq 12, 3, (0, 0, 0), 0), (12, .iload_n 3, 1, (0, 0, 0), 0), (13, .ifCond .lt 8, 3, (0, 0, 0), 0), (16, .iload_n 3, 1, (0, 0, 0), 0), (17, .iconst 2, 1, (0, 0, 0), 0), (18, .if_icmp .le 5, 3, (0, 0, 0), 0), (21, .iconst (-1), 1, (0, 0, 0), 0), (22, .ireturn, 1, (0, 0, 1), 0), (23, .aload_n 0, 1, (0, 0, 0), 0), (24, .getfield 47, 3, (10, 5, 1), 5), (27, .iload_n 1, 1, (0, 0, 0), 0), (28, .invokevirtual 149, 3, (72, 2, 0), 0), (31, .istore 4, 2, (0, 0, 0), 0), (33, .iload_n 3, 1, (0, 0, 0), 0), (34, .iconst 1, 1, (0, 0, 0), 0), (35, .if_icmp .ne 14, 3, (0, 0, 0), 0), (38, .aload_n 0, 1, (0, 0, 0), 0), (39, .getfield 19, 3, (10, 1, 1), 1), (42, .iload_n 2, 1, (0, 0, 0), 0)]), (87, [(43, .iload 4, 2, (0, 0, 0), 0), (45, .invokevirtual 169, 3, (34, 3, 0), 0), (48, .ireturn, 1, (0, 0, 1), 0), (49, .aload_n 0, 1, (0, 0, 0), 0), (50, .getfield 70, 3, (10, 9, 1), 9), (53, .aload_n 0, 1, (0, 0, 0), 0), (54, .getfield 47, 3, (10, 5, 1), 5), (57, .iload_n 1, 1, (0, 0, 0), 0), (58, .iconst 0, 1, (0, 0, 0), 0), (59, .iconst 0, 1, (0, 0, 0), 0), (60, .invokevirtual 172, 3, (9, 5, 0), 0), (63, .iload_n 3, 1, (0, 0, 0), 0), (64, .ifCond .ne 16, 3, (0, 0, 0), 0), (67, .aload_n 0, 1, (0, 0, 0), 0), (68, .getfield 70, 3, (10, 9, 1), 9), (71, .iload_n 2, 1, (0, 0, 0), 0), (72, .iload 4, 2, (0, 0, 0), 0), (74, .invokevirtual 176, 3, (11, 3, 0), 0), (77, .goto 13, 3, (0, 0, 0), 0), (80, .aload_n 0, 1, (0, 0, 0), 0), (81, .getfield 70, 3, (10, 9, 1), 9), (84, .iload_n 2, 1, (0, 0, 0), 0), (85, .iload 4, 2, (0, 0, 0), 0), (87, .invokevirtual 179, 3, (12, 3, 0), 0)]), (90, [(90, .ireturn, 1, (0, 0, 1), 0)])]
def mc_F_have : List (Nat × List (Nat × Ent)) := [(38, [(0, .aload_n 0, 1, (0, 0, 0), 0), (1, .getfield 47, 3, (10, 5, 1), 5), (4, .iload_n 1, 1, (0, 0, 0), 0), (5, .iload_n 2, 1, (0, 0, 0), 0), (6, .invokevirtual 182, 3, (79, 3, 0), 0), (9, .ifCond .ne 5, 3, (0, 0, 0), 0), (12, .iconst (-1), 1, (0, 0, 0), 0), (13, .ireturn, 1, (0, 0, 1), 0), (14, .aload_n 0, 1, (0, 0, 0), 0), (15, .getfield 57, 3, (10, 7, 1), 7), (18, .aload_n 0, 1, (0, 0, 0), 0), (19, .getfield 47, 3, (10, 5, 1), 5), (22, .getfield 185, 3, (7, 1, 1), 1), (25, .invokevirtual 188, 3, (45, 2, 0), 0), (28, .aload_n 0, 1, (0, 0, 0), 0), (29, .aload_n 0, 1, (0, 0, 0), 0), (30, .getfield 47, 3, (10, 5, 1), 5), (33, .iload_n 1, 1, (0, 0, 0), 0), (34, .iload_n 2, 1, (0, 0, 0), 0), (35, .invokevirtual 192, 3, (171, 4, 0), 0), (38, .ireturn, 1, (0, 0, 1), 0)])]
def mc_F_sell : List (Nat × List (Nat × Ent)) := [(43, [(0, .aload_n 0, 1, (0, 0, 0), 0), (1, .getfield 47, 3, (10, 5, 1), 5), (4, .iload_n 1, 1, (0, 0, 0), 0), (5, .iload_n 2, 1, (0, 0, 0), 0), (6, .iload_n 3, 1, (0, 0, 0), 0), (7, .iload 4, 2, (0, 0, 0), 0), (9, .invokevirtual 196, 3, (80, 5, 0), 0), (12, .ifCond .ne 5, 3, (0, 0, 0), 0), (15, .iconst (-1), 1, (0, 0, 0), 0), (16, .ireturn, 1, (0, 0, 1), 0), (17, .aload_n 0, 1, (0, 0, 0), 0), (18, .getfield 57, 3, (10, 7, 1), 7), (21, .aload_n 0, 1, (0, 0, 0), 0), (22, .getfield 47, 3, (10, 5, 1), 5), (25, .getfield 185, 3, (7, 1, 1), 1), (28, .invokevirtual 188, 3, (45, 2, 0), 0), (31, .aload_n 0, 1, (0, 0, 0), 0), (32, .getfield 47, 3, (10, 5, 1), 5), (35, .iload_n 1, 1, (0, 0, 0), 0), (36, .iload_n 2, 1, (0, 0, 0), 0), (37, .iload_n 3, 1, (0, 0, 0), 0), (38, .iload 4, 2, (0, 0, 0), 0), (40, .invokevirtual 200, 3, (82, 5, 0), 0), (43, .aload_n 0, 1, (0, 0, 0), 0)]), (51, [(44, .getfield 47, 3, (10, 5, 1), 5), (47, .iload_n 1, 1, (0, 0, 0), 0), (48, .invokevirtual 140, 3, (69, 2, 0), 0), (51, .ireturn, 1, (0, 0, 1), 0)])]
def mc_F_steal : List (Nat × List (Nat × Ent)) := [(43, [(0, .aload_n 0, 1, (0, 0, 0), 0), (1, .getfield 47, 3, (10, 5, 1), 5), (4, .iload_n 1, 1, (0, 0, 0), 0), (5, .iload_n 2, 1, (0, 0, 0), 0), (6, .iload_n 3, 1, (0, 0, 0), 0), (7, .invokevirtual 204, 3, (81, 4, 0), 0), (10, .ifCond .ne 5, 3, (0, 0, 0), 0), (13, .iconst (-1), 1, (0, 0, 0), 0), (14, .ireturn, 1, (0, 0, 1), 0), (15, .aload_n 0, 1, (0, 0, 0), 0), (16, .getfield 57, 3, (10, 7, 1), 7), (19, .aload_n 0, 1, (0, 0, 0), 0), (20, .getfield 47, 3, (10, 5, 1), 5), (23, .getfield 185, 3, (7, 1, 1), 1), (26, .invokevirtual 188, 3, (45, 2, 0), 0), (29, .aload_n 0, 1, (0, 0, 0), 0), (30, .getfield 47, 3, (10, 5, 1), 5), (33, .iload_n 1, 1, (0, 0, 0), 0), (34, .iload_n 2, 1, (0, 0, 0), 0), (35, .iload_n 3, 1, (0, 0, 0), 0), (36, .invokevirtual 208, 3, (83, 4, 0), 0), (39, .aload_n 0, 1, (0, 0, 0), 0), (40, .getfield 47, 3, (10, 5, 1), 5), (43, .iload_n 1, 1, (0, 0, 0), 0)]), (48, [(44, .iload_n 3, 1, (0, 0, 0), 0), (45, .invokevirtual 156, 3, (73, 3, 0), 0), (48, .ireturn, 1, (0, 0, 1), 0)])]
def mc_F_pledge : List (Nat × List (Nat × Ent)) := [(45, [(0, .aload_n 0, 1, (0, 0, 0), 0), (1, .getfield 47, 3, (10, 5, 1), 5), (4, .iload_n 1, 1, (0, 0, 0), 0), (5, .iload_n 2, 1, (0, 0, 0), 0), (6, .iload_n 3, 1, (0, 0, 0), 0), (7, .iload 4, 2, (0, 0, 0), 0), (9, .invokevirtual 196, 3, (80, 5, 0), 0), (12, .ifCond .eq 26, 3, (0, 0, 0), 0), (15, .iload 5, 2, (0, 0, 0), 0), (17, .iconst 1, 1, (0, 0, 0), 0), (18, .if_icmp .lt 20, 3, (0, 0, 0), 0), (21, .iload 5, 2, (0, 0, 0), 0), (23, .bipush 30, 2, (0, 0, 0), 0), (25, .if_icmp .gt 13, 3, (0, 0, 0), 0), (28, .aload_n 0, 1, (0, 0, 0), 0), (29, .getfield 47, 3, (10, 5, 1), 5), (32, .invokevirtual 212, 3, (86, 1, 0), 0), (35, .ifCond .eq 5, 3, (0, 0, 0), 0), (38, .iconst (-1), 1, (0, 0, 0), 0), (39, .ireturn, 1, (0, 0, 1), 0), (40, .aload_n 0, 1, (0, 0, 0), 0), (41, .getfield 57, 3, (10, 7, 1), 7), (44, .aload_n 0, 1, (0, 0, 0), 0), (45, .getfield 47, 3, (10, 5, 1), 5)]), (75, [(48, .getfield 185, 3, (7, 1, 1), 1), (51, .invokevirtual 188, 3, (45, 2, 0), 0), (54, .aload_n 0, 1, (0, 0, 0), 0), (55, .getfield 47, 3, (10, 5, 1), 5), (58, .iload_n 1, 1, (0, 0, 0), 0), (59, .iload_n 2, 1, (0, 0, 0), 0), (60, .iload_n 3, 1, (0, 0, 0), 0), (61, .iload 4, 2, (0, 0, 0), 0), (63, .iload 5, 2, (0, 0, 0), 0), (65, .invokevirtual 216, 3, (89, 6, 0), 0), (68, .aload_n 0, 1, (0, 0, 0), 0), (69, .getfield 47, 3, (10, 5, 1), 5), (72, .invokevirtual 220, 3, (85, 1, 0), 0), (75, .ireturn, 1, (0, 0, 1), 0)])]
def mc_F_pledged : List (Nat × List (Nat × Ent)) := [(31, [(0, .aload_n 0, 1, (0, 0, 0), 0), (1, .getfield 47, 3, (10, 5, 1), 5), (4, .iload_n 1, 1, (0, 0, 0), 0), (5, .invokevirtual 223, 3, (87, 2, 0), 0), (8, .ifCond .eq 12, 3, (0, 0, 0), 0), (11, .iload_n 2, 1, (0, 0, 0), 0), (12, .ifCond .lt 8, 3, (0, 0, 0), 0), (15, .iload_n 2, 1, (0, 0, 0), 0), (16, .iconst 4, 1, (0, 0, 0), 0), (17, .if_icmp .le 5, 3, (0, 0, 0), 0), (20, .iconst (-1), 1, (0, 0, 0), 0), (21, .ireturn, 1, (0, 0, 1), 0), (22, .aload_n 0, 1, (0, 0, 0), 0), (23, .getfield 47, 3, (10, 5, 1), 5), (26, .iload_n 1, 1, (0, 0, 0), 0), (27, .iload_n 2, 1, (0, 0, 0), 0), (28, .invokevirtual 226, 3, (88, 3, 0), 0), (31, .ireturn, 1, (0, 0, 1), 0)])]
def mc_F_redeem : List (Nat × List (Nat × Ent)) := [(45, [(0, .aload_n 0, 1, (0, 0, 0), 0), (1, .getfield 47, 3, (10, 5, 1), 5), (4, .iload_n 1, 1, (0, 0, 0), 0), (5, .invokevirtual 229, 3, (90, 2, 0), 0), (8, .ifCond .ne 5, 3, (0, 0, 0), 0), (11, .iconst (-1), 1, (0, 0, 0), 0), (12, .ireturn, 1, (0, 0, 1), 0), (13, .aload_n 0, 1, (0, 0, 0), 0), (14, .getfield 57, 3, (10, 7, 1), 7), (17, .aload_n 0, 1, (0, 0, 0), 0), (18, .getfield 47, 3, (10, 5, 1), 5), (21, .getfield 185, 3, (7, 1, 1), 1), (24, .invokevirtual 188, 3, (45, 2, 0), 0), (27, .aload_n 0, 1, (0, 0, 0), 0), (28, .getfield 47, 3, (10, 5, 1), 5), (31, .iload_n 1, 1, (0, 0, 0), 0), (32, .iconst 0, 1, (0, 0, 0), 0), (33, .invokevirtual 226, 3, (88, 3, 0), 0), (36, .istore_n 2, 1, (0, 0, 0), 0), (37, .aload_n 0, 1, (0, 0, 0), 0), (38, .getfield 47, 3, (10, 5, 1), 5), (41, .iload_n 1, 1, (0, 0, 0), 0), (42, .invokevirtual 232, 3, (91, 2, 0), 0), (45, .aload_n 0, 1, (0, 0, 0), 0)]), (53, [(46, .getfield 47, 3, (10, 5, 1), 5), (49, .iload_n 2, 1, (0, 0, 0), 0), (50, .invokevirtual 140, 3, (69, 2, 0), 0), (53, .ireturn, 1, (0, 0, 1), 0)])]
def mc_F_days : List (Nat × List (Nat × Ent)) := [(45, [(0, .aload_n 0, 1, (0, 0, 0), 0), (1, .iload_n 1, 1, (0, 0, 0), 0), (2, .invokevirtual 235, 3, (170, 2, 0), 0), (5, .ifCond .ne 5, 3, (0, 0, 0), 0), (8, .iconst (-1), 1, (0, 0, 0), 0), (9, .ireturn, 1, (0, 0, 1), 0), (10, .iconst 0, 1, (0, 0, 0), 0), (11, .istore_n 2, 1, (0, 0, 0), 0), (12, .iload_n 2, 1, (0, 0, 0), 0), (13, .iload_n 1, 1, (0, 0, 0), 0), (14, .if_icmp .ge 30, 3, (0, 0, 0), 0), (17, .aload_n 0, 1, (0, 0, 0), 0), (18, .getfield 57, 3, (10, 7, 1), 7), (21, .aload_n 0, 1, (0, 0, 0), 0), (22, .getfield 47, 3, (10, 5, 1), 5), (25, .getfield 185, 3, (7, 1, 1), 1), (28, .invokevirtual 188, 3, (45, 2, 0), 0), (31, .aload_n 0, 1, (0, 0, 0), 0), (32, .getfield 47, 3, (10, 5, 1), 5), (35, .invokevirtual 238, 3, (93, 1, 0), 0), (38, .iinc 2 1, 3, (0, 0, 0), 0), (41, .goto (-29), 3, (0, 0, 0), 0), (44, .aload_n 0, 1, (0, 0, 0), 0), (45, .getfield 47, 3, (10, 5, 1), 5)]), (51, [(48, .invokevirtual 241, 3, (68, 1, 0), 0), (51, .ireturn, 1, (0, 0, 1), 0)])]
def mc_F_undo : List (Nat × List (Nat × Ent)) := [(28, [(0, .aload_n 0, 1, (0, 0, 0), 0), (1, .getfield 57, 3, (10, 7, 1), 7), (4, .aload_n 0, 1, (0, 0, 0), 0), (5, .getfield 47, 3, (10, 5, 1), 5), (8, .getfield 185, 3, (7, 1, 1), 1), (11, .invokevirtual 244, 3, (46, 2, 0), 0), (14, .ifCond .eq 13, 3, (0, 0, 0), 0), (17, .aload_n 0, 1, (0, 0, 0), 0), (18, .getfield 57, 3, (10, 7, 1), 7), (21, .getfield 248, 3, (4, 2, 0), 2), (24, .goto 4, 3, (0, 0, 0), 0), (27, .iconst (-1), 1, (0, 0, 0), 0), (28, .ireturn, 1, (0, 0, 1), 0)])]
def mc_F_log : List (Nat × List (Nat × Ent)) := [(35, [(0, .iload_n 1, 1, (0, 0, 0), 0), (1, .ifCond .lt 23, 3, (0, 0, 0), 0), (4, .iload_n 1, 1, (0, 0, 0), 0), (5, .aload_n 0, 1, (0, 0, 0), 0), (6, .getfield 47, 3, (10, 5, 1), 5), (9, .invokevirtual 251, 3, (96, 1, 0), 0), (12, .if_icmp .ge 12, 3, (0, 0, 0), 0), (15, .iload_n 2, 1, (0, 0, 0), 0), (16, .ifCond .lt 8, 3, (0, 0, 0), 0), (19, .iload_n 2, 1, (0, 0, 0), 0), (20, .iconst 3, 1, (0, 0, 0), 0), (21, .if_icmp .le 5, 3, (0, 0, 0), 0), (24, .iconst (-1), 1, (0, 0, 0), 0), (25, .ireturn, 1, (0, 0, 1), 0), (26, .aload_n 0, 1, (0, 0, 0), 0), (27, .getfield 47, 3, (10, 5, 1), 5), (30, .iload_n 1, 1, (0, 0, 0), 0), (31, .iload_n 2, 1, (0, 0, 0), 0), (32, .invokevirtual 254, 3, (97, 3, 0), 0), (35, .ireturn, 1, (0, 0, 1), 0)])]
def mc_F_step : List (Nat × List (Nat × Ent)) := [(10, [(0, .aload_n 0, 1, (0, 0, 0), 0), (1, .getfield 38, 3, (10, 4, 1), 4), (4, .iload_n 1, 1, (0, 0, 0), 0), (5, .iload_n 2, 1, (0, 0, 0), 0), (6, .iload_n 3, 1, (0, 0, 0), 0), (7, .invokevirtual 257, 3, (51, 4, 0), 0), (10, .ireturn, 1, (0, 0, 1), 0)])]
def mc_F_run : List (Nat × List (Nat × Ent)) := [(49, [(0, .aload_n 0, 1, (0, 0, 0), 0), (1, .getfield 38, 3, (10, 4, 1), 4), (4, .iload_n 1, 1, (0, 0, 0), 0), (5, .invokevirtual 258, 3, (49, 2, 0), 0), (8, .ifCond .eq 22, 3, (0, 0, 0), 0), (11, .aload_n 0, 1, (0, 0, 0), 0), (12, .getfield 19, 3, (10, 1, 1), 1), (15, .invokevirtual 261, 3, (25, 1, 0), 0), (18, .ifCond .eq 12, 3, (0, 0, 0), 0), (21, .iload_n 2, 1, (0, 0, 0), 0), (22, .ifCond .lt 8, 3, (0, 0, 0), 0), (25, .iload_n 2, 1, (0, 0, 0), 0), (26, .iconst 1, 1, (0, 0, 0), 0), (27, .if_icmp .le 7, 3, (0, 0, 0), 0), (30, .ldc_w 264, 3, (0, 0, 0), -1000000), (33, .ireturn, 1, (0, 0, 1), 0), (34, .aload_n 0, 1, (0, 0, 0), 0), (35, .getfield 51, 3, (10, 6, 1), 6), (38, .aload_n 0, 1, (0, 0, 0), 0), (39, .getfield 47, 3, (10, 5, 1), 5), (42, .getfield 185, 3, (7, 1, 1), 1), (45, .invokevirtual 265, 3, (64, 2, 0), 0), (48, .aload_n 0, 1, (0, 0, 0), 0), (49, .getfield 51, 3, (10, 6, 1), 6)]), (97, [(52, .invokevirtual 268, 3, (76, 1, 0), 0), (55, .istore_n 3, 1, (0, 0, 0), 0), (56, .aload_n 0, 1, (0, 0, 0), 0), (57, .getfield 38, 3, (10, 4, 1), 4), (60, .iload_n 1, 1, (0, 0, 0), 0), (61, .invokevirtual 271, 3, (50, 2, 0), 0), (64, .istore 4, 2, (0, 0, 0), 0), (66, .iconst 0, 1, (0, 0, 0), 0), (67, .istore 5, 2, (0, 0, 0), 0), (69, .iconst 0, 1, (0, 0, 0), 0), (70, .istore 6, 2, (0, 0, 0), 0), (72, .iload 6, 2, (0, 0, 0), 0), (74, .iload 4, 2, (0, 0, 0), 0), (76, .if_icmp .ge 40, 3, (0, 0, 0), 0), (79, .aload_n 0, 1, (0, 0, 0), 0), (80, .aload_n 0, 1, (0, 0, 0), 0), (81, .getfield 51, 3, (10, 6, 1), 6), (84, .iload_n 1, 1, (0, 0, 0), 0), (85, .iload 6, 2, (0, 0, 0), 0), (87, .invokevirtual 274, 3, (172, 4, 0), 0), (90, .ifCond .ne 6, 3, (0, 0, 0), 0), (93, .goto 23, 3, (0, 0, 0), 0), (96, .aload_n 0, 1, (0, 0, 0), 0), (97, .aload_n 0, 1, (0, 0, 0), 0)]), (144, [(98, .getfield 51, 3, (10, 6, 1), 6), (101, .iload_n 1, 1, (0, 0, 0), 0), (102, .iload 6, 2, (0, 0, 0), 0), (104, .invokevirtual 278, 3, (173, 4, 0), 0), (107, .iinc 5 1, 3, (0, 0, 0), 0), (110, .iinc 6 1, 3, (0, 0, 0), 0), (113, .goto (-41), 3, (0, 0, 0), 0), (116, .iload_n 2, 1, (0, 0, 0), 0), (117, .iconst 1, 1, (0, 0, 0), 0), (118, .if_icmp .ne 13, 3, (0, 0, 0), 0), (121, .aload_n 0, 1, (0, 0, 0), 0), (122, .getfield 51, 3, (10, 6, 1), 6), (125, .invokevirtual 268, 3, (76, 1, 0), 0), (128, .iload_n 3, 1, (0, 0, 0), 0), (129, .isub, 1, (0, 0, 0), 0), (130, .ireturn, 1, (0, 0, 1), 0), (131, .iload 5, 2, (0, 0, 0), 0), (133, .iload 4, 2, (0, 0, 0), 0), (135, .if_icmp .ne 7, 3, (0, 0, 0), 0), (138, .iconst (-1), 1, (0, 0, 0), 0), (139, .goto 5, 3, (0, 0, 0), 0), (142, .iload 5, 2, (0, 0, 0), 0), (144, .ireturn, 1, (0, 0, 1), 0)])]
def mc_F_perform : List (Nat × List (Nat × Ent)) := [(43, [(0, .aload_n 0, 1, (0, 0, 0), 0), (1, .getfield 38, 3, (10, 4, 1), 4), (4, .iload_n 1, 1, (0, 0, 0), 0), (5, .invokevirtual 258, 3, (49, 2, 0), 0), (8, .ifCond .eq 13, 3, (0, 0, 0), 0), (11, .aload_n 0, 1, (0, 0, 0), 0), (12, .getfield 19, 3, (10, 1, 1), 1), (15, .invokevirtual 261, 3, (25, 1, 0), 0), (18, .ifCond .ne 5, 3, (0, 0, 0), 0), (21, .iconst (-1), 1, (0, 0, 0), 0), (22, .ireturn, 1, (0, 0, 1), 0), (23, .aload_n 0, 1, (0, 0, 0), 0), (24, .getfield 38, 3, (10, 4, 1), 4), (27, .iload_n 1, 1, (0, 0, 0), 0), (28, .invokevirtual 271, 3, (50, 2, 0), 0), (31, .istore_n 2, 1, (0, 0, 0), 0), (32, .iconst 0, 1, (0, 0, 0), 0), (33, .istore_n 3, 1, (0, 0, 0), 0), (34, .iconst 0, 1, (0, 0, 0), 0), (35, .istore 4, 2, (0, 0, 0), 0), (37, .iload 4, 2, (0, 0, 0), 0), (39, .iload_n 2, 1, (0, 0, 0), 0), (40, .if_icmp .ge 54, 3, (0, 0, 0), 0), (43, .aload_n 0, 1, (0, 0, 0), 0)]), (95, [(44, .aload_n 0, 1, (0, 0, 0), 0), (45, .getfield 47, 3, (10, 5, 1), 5), (48, .iload_n 1, 1, (0, 0, 0), 0), (49, .iload 4, 2, (0, 0, 0), 0), (51, .invokevirtual 274, 3, (172, 4, 0), 0), (54, .ifCond .ne 6, 3, (0, 0, 0), 0), (57, .goto 37, 3, (0, 0, 0), 0), (60, .aload_n 0, 1, (0, 0, 0), 0), (61, .getfield 57, 3, (10, 7, 1), 7), (64, .aload_n 0, 1, (0, 0, 0), 0), (65, .getfield 47, 3, (10, 5, 1), 5), (68, .getfield 185, 3, (7, 1, 1), 1), (71, .invokevirtual 188, 3, (45, 2, 0), 0), (74, .aload_n 0, 1, (0, 0, 0), 0), (75, .aload_n 0, 1, (0, 0, 0), 0), (76, .getfield 47, 3, (10, 5, 1), 5), (79, .iload_n 1, 1, (0, 0, 0), 0), (80, .iload 4, 2, (0, 0, 0), 0), (82, .invokevirtual 278, 3, (173, 4, 0), 0), (85, .iinc 3 1, 3, (0, 0, 0), 0), (88, .iinc 4 1, 3, (0, 0, 0), 0), (91, .goto (-54), 3, (0, 0, 0), 0), (94, .iload_n 3, 1, (0, 0, 0), 0), (95, .ireturn, 1, (0, 0, 1), 0)])]
def mc_F_order : List (Nat × List (Nat × Ent)) := [(47, [(0, .aload_n 0, 1, (0, 0, 0), 0), (1, .getfield 19, 3, (10, 1, 1), 1), (4, .iload_n 1, 1, (0, 0, 0), 0), (5, .invokevirtual 130, 3, (30, 2, 0), 0), (8, .ifCond .eq 27, 3, (0, 0, 0), 0), (11, .iload_n 2, 1, (0, 0, 0), 0), (12, .ifCond .lt 23, 3, (0, 0, 0), 0), (15, .iload_n 2, 1, (0, 0, 0), 0), (16, .aload_n 0, 1, (0, 0, 0), 0), (17, .getfield 19, 3, (10, 1, 1), 1), (20, .invokevirtual 282, 3, (28, 1, 0), 0), (23, .if_icmp .gt 12, 3, (0, 0, 0), 0), (26, .iload_n 3, 1, (0, 0, 0), 0), (27, .ifCond .lt 8, 3, (0, 0, 0), 0), (30, .iload_n 3, 1, (0, 0, 0), 0), (31, .iconst 1, 1, (0, 0, 0), 0), (32, .if_icmp .le 7, 3, (0, 0, 0), 0), (35, .ldc_w 264, 3, (0, 0, 0), -1000000), (38, .ireturn, 1, (0, 0, 1), 0), (39, .aload_n 0, 1, (0, 0, 0), 0), (40, .getfield 47, 3, (10, 5, 1), 5), (43, .iload_n 1, 1, (0, 0, 0), 0), (44, .invokevirtual 149, 3, (72, 2, 0), 0), (47, .istore 4, 2, (0, 0, 0), 0)]), (93, [(49, .aload_n 0, 1, (0, 0, 0), 0), (50, .getfield 70, 3, (10, 9, 1), 9), (53, .aload_n 0, 1, (0, 0, 0), 0), (54, .getfield 47, 3, (10, 5, 1), 5), (57, .iload_n 1, 1, (0, 0, 0), 0), (58, .iconst 0, 1, (0, 0, 0), 0), (59, .aload_n 0, 1, (0, 0, 0), 0), (60, .getfield 19, 3, (10, 1, 1), 1), (63, .invokevirtual 285, 3, (26, 1, 0), 0), (66, .invokevirtual 172, 3, (9, 5, 0), 0), (69, .aload_n 0, 1, (0, 0, 0), 0), (70, .getfield 88, 3, (10, 11, 1), 11), (73, .iload 4, 2, (0, 0, 0), 0), (75, .aload_n 0, 1, (0, 0, 0), 0), (76, .getfield 47, 3, (10, 5, 1), 5), (79, .iload_n 1, 1, (0, 0, 0), 0), (80, .invokevirtual 288, 3, (74, 2, 0), 0), (83, .iload_n 2, 1, (0, 0, 0), 0), (84, .invokevirtual 291, 3, (57, 4, 0), 0), (87, .iload_n 3, 1, (0, 0, 0), 0), (88, .iconst 1, 1, (0, 0, 0), 0), (89, .if_icmp .ne 14, 3, (0, 0, 0), 0), (92, .aload_n 0, 1, (0, 0, 0), 0), (93, .getfield 88, 3, (10, 11, 1), 11)]), (130, [(96, .getfield 294, 3, (6, 2, 1), 2), (99, .iload 4, 2, (0, 0, 0), 0), (101, .iaload, 1, (0, 0, 0), 0), (102, .ireturn, 1, (0, 0, 1), 0), (103, .aload_n 0, 1, (0, 0, 0), 0), (104, .getfield 88, 3, (10, 11, 1), 11), (107, .getfield 297, 3, (6, 3, 1), 3), (110, .iload 4, 2, (0, 0, 0), 0), (112, .iaload, 1, (0, 0, 0), 0), (113, .ifCond .ne 7, 3, (0, 0, 0), 0), (116, .iconst (-1), 1, (0, 0, 0), 0), (117, .goto 13, 3, (0, 0, 0), 0), (120, .aload_n 0, 1, (0, 0, 0), 0), (121, .getfield 88, 3, (10, 11, 1), 11), (124, .getfield 300, 3, (6, 4, 1), 4), (127, .iload 4, 2, (0, 0, 0), 0), (129, .iaload, 1, (0, 0, 0), 0), (130, .ireturn, 1, (0, 0, 1), 0)])]
def mc_F_clean : List (Nat × List (Nat × Ent)) := [(21, [(0, .aload_n 0, 1, (0, 0, 0), 0), (1, .getfield 19, 3, (10, 1, 1), 1), (4, .invokevirtual 261, 3, (25, 1, 0), 0), (7, .ifCond .eq 13, 3, (0, 0, 0), 0), (10, .aload_n 0, 1, (0, 0, 0), 0), (11, .getfield 19, 3, (10, 1, 1), 1), (14, .invokevirtual 303, 3, (36, 1, 0), 0), (17, .goto 4, 3, (0, 0, 0), 0), (20, .iconst (-1), 1, (0, 0, 0), 0), (21, .ireturn, 1, (0, 0, 1), 0)])]
def mc_F_rings : List (Nat × List (Nat × Ent)) := [(21, [(0, .aload_n 0, 1, (0, 0, 0), 0), (1, .getfield 19, 3, (10, 1, 1), 1), (4, .invokevirtual 261, 3, (25, 1, 0), 0), (7, .ifCond .eq 13, 3, (0, 0, 0), 0), (10, .aload_n 0, 1, (0, 0, 0), 0), (11, .getfield 88, 3, (10, 11, 1), 11), (14, .invokevirtual 306, 3, (59, 1, 0), 0), (17, .goto 4, 3, (0, 0, 0), 0), (20, .iconst (-1), 1, (0, 0, 0), 0), (21, .ireturn, 1, (0, 0, 1), 0)])]
def mc_F_pairing : List (Nat × List (Nat × Ent)) := [(45, [(0, .aload_n 0, 1, (0, 0, 0), 0), (1, .getfield 19, 3, (10, 1, 1), 1), (4, .invokevirtual 261, 3, (25, 1, 0), 0), (7, .ifCond .eq 12, 3, (0, 0, 0), 0), (10, .iload_n 1, 1, (0, 0, 0), 0), (11, .ifCond .lt 8, 3, (0, 0, 0), 0), (14, .iload_n 1, 1, (0, 0, 0), 0), (15, .iconst 1, 1, (0, 0, 0), 0), (16, .if_icmp .le 5, 3, (0, 0, 0), 0), (19, .iconst (-1), 1, (0, 0, 0), 0), (20, .ireturn, 1, (0, 0, 1), 0), (21, .aload_n 0, 1, (0, 0, 0), 0), (22, .getfield 47, 3, (10, 5, 1), 5), (25, .invokevirtual 309, 3, (75, 1, 0), 0), (28, .istore_n 2, 1, (0, 0, 0), 0), (29, .iconst 1, 1, (0, 0, 0), 0), (30, .istore_n 3, 1, (0, 0, 0), 0), (31, .aload_n 0, 1, (0, 0, 0), 0), (32, .getfield 88, 3, (10, 11, 1), 11), (35, .invokevirtual 312, 3, (60, 1, 0), 0), (38, .aload_n 0, 1, (0, 0, 0), 0), (39, .getfield 19, 3, (10, 1, 1), 1), (42, .invokevirtual 315, 3, (27, 1, 0), 0), (45, .iconst 1, 1, (0, 0, 0), 0)]), (93, [(46, .isub, 1, (0, 0, 0), 0), (47, .istore 4, 2, (0, 0, 0), 0), (49, .iload 4, 2, (0, 0, 0), 0), (51, .ifCond .lt 100, 3, (0, 0, 0), 0), (54, .aload_n 0, 1, (0, 0, 0), 0), (55, .getfield 70, 3, (10, 9, 1), 9), (58, .aload_n 0, 1, (0, 0, 0), 0), (59, .getfield 47, 3, (10, 5, 1), 5), (62, .iload 4, 2, (0, 0, 0), 0), (64, .iconst 0, 1, (0, 0, 0), 0), (65, .iconst 0, 1, (0, 0, 0), 0), (66, .invokevirtual 172, 3, (9, 5, 0), 0), (69, .iconst 0, 1, (0, 0, 0), 0), (70, .istore 5, 2, (0, 0, 0), 0), (72, .iload 5, 2, (0, 0, 0), 0), (74, .aload_n 0, 1, (0, 0, 0), 0), (75, .getfield 19, 3, (10, 1, 1), 1), (78, .invokevirtual 285, 3, (26, 1, 0), 0), (81, .if_icmp .ge 51, 3, (0, 0, 0), 0), (84, .aload_n 0, 1, (0, 0, 0), 0), (85, .getfield 88, 3, (10, 11, 1), 11), (88, .getfield 318, 3, (6, 5, 1), 5), (91, .iload 5, 2, (0, 0, 0), 0), (93, .iload_n 2, 1, (0, 0, 0), 0)]), (140, [(94, .iload 5, 2, (0, 0, 0), 0), (96, .ishr, 1, (0, 0, 0), 0), (97, .iconst 1, 1, (0, 0, 0), 0), (98, .iand, 1, (0, 0, 0), 0), (99, .iconst 1, 1, (0, 0, 0), 0), (100, .if_icmp .ne 24, 3, (0, 0, 0), 0), (103, .aload_n 0, 1, (0, 0, 0), 0), (104, .getfield 70, 3, (10, 9, 1), 9), (107, .iload 5, 2, (0, 0, 0), 0), (109, .aload_n 0, 1, (0, 0, 0), 0), (110, .getfield 47, 3, (10, 5, 1), 5), (113, .iload 4, 2, (0, 0, 0), 0), (115, .invokevirtual 149, 3, (72, 2, 0), 0), (118, .invokevirtual 179, 3, (12, 3, 0), 0), (121, .goto 4, 3, (0, 0, 0), 0), (124, .iconst (-1), 1, (0, 0, 0), 0), (125, .iastore, 1, (0, 0, 0), 0), (126, .iinc 5 1, 3, (0, 0, 0), 0), (129, .goto (-57), 3, (0, 0, 0), 0), (132, .aload_n 0, 1, (0, 0, 0), 0), (133, .getfield 88, 3, (10, 11, 1), 11), (136, .iload_n 3, 1, (0, 0, 0), 0), (137, .invokevirtual 321, 3, (61, 2, 0), 0), (140, .iload_n 3, 1, (0, 0, 0), 0)]), (176, [(141, .bipush 10, 2, (0, 0, 0), 0), (143, .imul, 1, (0, 0, 0), 0), (144, .istore_n 3, 1, (0, 0, 0), 0), (145, .iinc 4 (-1), 3, (0, 0, 0), 0), (148, .goto (-99), 3, (0, 0, 0), 0), (151, .iload_n 1, 1, (0, 0, 0), 0), (152, .ifCond .ne 15, 3, (0, 0, 0), 0), (155, .aload_n 0, 1, (0, 0, 0), 0), (156, .getfield 88, 3, (10, 11, 1), 11), (159, .getfield 300, 3, (6, 4, 1), 4), (162, .iconst 0, 1, (0, 0, 0), 0), (163, .iaload, 1, (0, 0, 0), 0), (164, .goto 12, 3, (0, 0, 0), 0), (167, .aload_n 0, 1, (0, 0, 0), 0), (168, .getfield 88, 3, (10, 11, 1), 11), (171, .getfield 294, 3, (6, 2, 1), 2), (174, .iconst 0, 1, (0, 0, 0), 0), (175, .iaload, 1, (0, 0, 0), 0), (176, .ireturn, 1, (0, 0, 1), 0)])]
def mc_F_sale : List (Nat × List (Nat × Ent)) := [(39, [(0, .aload_n 0, 1, (0, 0, 0), 0), (1, .getfield 19, 3, (10, 1, 1), 1), (4, .iload_n 1, 1, (0, 0, 0), 0), (5, .invokevirtual 324, 3, (29, 2, 0), 0), (8, .ifCond .eq 12, 3, (0, 0, 0), 0), (11, .iload_n 2, 1, (0, 0, 0), 0), (12, .ifCond .lt 8, 3, (0, 0, 0), 0), (15, .iload_n 2, 1, (0, 0, 0), 0), (16, .iconst 1, 1, (0, 0, 0), 0), (17, .if_icmp .le 5, 3, (0, 0, 0), 0), (20, .iconst (-1), 1, (0, 0, 0), 0), (21, .ireturn, 1, (0, 0, 1), 0), (22, .iconst (-1), 1, (0, 0, 0), 0), (23, .istore_n 3, 1, (0, 0, 0), 0), (24, .iconst (-1), 1, (0, 0, 0), 0), (25, .istore 4, 2, (0, 0, 0), 0), (27, .iconst 0, 1, (0, 0, 0), 0), (28, .istore 5, 2, (0, 0, 0), 0), (30, .iconst 0, 1, (0, 0, 0), 0), (31, .istore 6, 2, (0, 0, 0), 0), (33, .iload 6, 2, (0, 0, 0), 0), (35, .aload_n 0, 1, (0, 0, 0), 0), (36, .getfield 19, 3, (10, 1, 1), 1), (39, .invokevirtual 315, 3, (27, 1, 0), 0)]), (89, [(42, .if_icmp .ge 77, 3, (0, 0, 0), 0), (45, .aload_n 0, 1, (0, 0, 0), 0), (46, .getfield 70, 3, (10, 9, 1), 9), (49, .aload_n 0, 1, (0, 0, 0), 0), (50, .getfield 47, 3, (10, 5, 1), 5), (53, .iload 6, 2, (0, 0, 0), 0), (55, .iconst 0, 1, (0, 0, 0), 0), (56, .iconst 0, 1, (0, 0, 0), 0), (57, .invokevirtual 172, 3, (9, 5, 0), 0), (60, .aload_n 0, 1, (0, 0, 0), 0), (61, .getfield 70, 3, (10, 9, 1), 9), (64, .iload_n 1, 1, (0, 0, 0), 0), (65, .aload_n 0, 1, (0, 0, 0), 0), (66, .getfield 47, 3, (10, 5, 1), 5), (69, .iload 6, 2, (0, 0, 0), 0), (71, .invokevirtual 149, 3, (72, 2, 0), 0), (74, .invokevirtual 179, 3, (12, 3, 0), 0), (77, .istore 7, 2, (0, 0, 0), 0), (79, .iload 7, 2, (0, 0, 0), 0), (81, .iload 4, 2, (0, 0, 0), 0), (83, .if_icmp .le 21, 3, (0, 0, 0), 0), (86, .iload 4, 2, (0, 0, 0), 0), (88, .iconst 0, 1, (0, 0, 0), 0), (89, .invokestatic 327, 3, (314, 2, 0), 0)]), (129, [(92, .istore 5, 2, (0, 0, 0), 0), (94, .iload 7, 2, (0, 0, 0), 0), (96, .istore 4, 2, (0, 0, 0), 0), (98, .iload 6, 2, (0, 0, 0), 0), (100, .istore_n 3, 1, (0, 0, 0), 0), (101, .goto 12, 3, (0, 0, 0), 0), (104, .iload 5, 2, (0, 0, 0), 0), (106, .iload 7, 2, (0, 0, 0), 0), (108, .invokestatic 327, 3, (314, 2, 0), 0), (111, .istore 5, 2, (0, 0, 0), 0), (113, .iinc 6 1, 3, (0, 0, 0), 0), (116, .goto (-83), 3, (0, 0, 0), 0), (119, .iload_n 2, 1, (0, 0, 0), 0), (120, .ifCond .ne 7, 3, (0, 0, 0), 0), (123, .iload_n 3, 1, (0, 0, 0), 0), (124, .goto 5, 3, (0, 0, 0), 0), (127, .iload 5, 2, (0, 0, 0), 0), (129, .ireturn, 1, (0, 0, 1), 0)])]
def mc_F_awaits : List (Nat × List (Nat × Ent)) := [(47, [(0, .aload_n 0, 1, (0, 0, 0), 0), (1, .getfield 47, 3, (10, 5, 1), 5), (4, .iload_n 1, 1, (0, 0, 0), 0), (5, .iload_n 2, 1, (0, 0, 0), 0), (6, .invokevirtual 182, 3, (79, 3, 0), 0), (9, .ifCond .eq 36, 3, (0, 0, 0), 0), (12, .iload_n 3, 1, (0, 0, 0), 0), (13, .ifCond .lt 32, 3, (0, 0, 0), 0), (16, .iload_n 3, 1, (0, 0, 0), 0), (17, .bipush 30, 2, (0, 0, 0), 0), (19, .if_icmp .gt 26, 3, (0, 0, 0), 0), (22, .iload 4, 2, (0, 0, 0), 0), (24, .ifCond .lt 21, 3, (0, 0, 0), 0), (27, .iload 4, 2, (0, 0, 0), 0), (29, .bipush 100, 2, (0, 0, 0), 0), (31, .if_icmp .gt 14, 3, (0, 0, 0), 0), (34, .iload 5, 2, (0, 0, 0), 0), (36, .ifCond .lt 9, 3, (0, 0, 0), 0), (39, .iload 5, 2, (0, 0, 0), 0), (41, .iconst 1, 1, (0, 0, 0), 0), (42, .if_icmp .le 5, 3, (0, 0, 0), 0), (45, .iconst (-1), 1, (0, 0, 0), 0), (46, .ireturn, 1, (0, 0, 1), 0), (47, .ldc2_w 332, 3, (0, 0, 0), 1000000000)]), (90, [(50, .lstore 6, 2, (0, 0, 0), 0), (52, .iconst (-1), 1, (0, 0, 0), 0), (53, .istore 8, 2, (0, 0, 0), 0), (55, .iconst 0, 1, (0, 0, 0), 0), (56, .istore 9, 2, (0, 0, 0), 0), (58, .iconst 0, 1, (0, 0, 0), 0), (59, .istore 10, 2, (0, 0, 0), 0), (61, .iload 10, 2, (0, 0, 0), 0), (63, .iload_n 3, 1, (0, 0, 0), 0), (64, .if_icmp .gt 81, 3, (0, 0, 0), 0), (67, .aload_n 0, 1, (0, 0, 0), 0), (68, .getfield 70, 3, (10, 9, 1), 9), (71, .aload_n 0, 1, (0, 0, 0), 0), (72, .getfield 47, 3, (10, 5, 1), 5), (75, .iload_n 1, 1, (0, 0, 0), 0), (76, .iload 10, 2, (0, 0, 0), 0), (78, .iconst 0, 1, (0, 0, 0), 0), (79, .invokevirtual 172, 3, (9, 5, 0), 0), (82, .lload 6, 2, (0, 0, 0), 0), (84, .aload_n 0, 1, (0, 0, 0), 0), (85, .getfield 70, 3, (10, 9, 1), 9), (88, .iload_n 2, 1, (0, 0, 0), 0), (89, .aload_n 0, 1, (0, 0, 0), 0), (90, .getfield 47, 3, (10, 5, 1), 5)]), (136, [(93, .iload_n 1, 1, (0, 0, 0), 0), (94, .invokevirtual 149, 3, (72, 2, 0), 0), (97, .invokevirtual 179, 3, (12, 3, 0), 0), (100, .i2l, 1, (0, 0, 0), 0), (101, .lmul, 1, (0, 0, 0), 0), (102, .ldc2_w 332, 3, (0, 0, 0), 1000000000), (105, .ldiv, 1, (0, 0, 0), 0), (106, .l2i, 1, (0, 0, 0), 0), (107, .istore 11, 2, (0, 0, 0), 0), (109, .iload 11, 2, (0, 0, 0), 0), (111, .iload 8, 2, (0, 0, 0), 0), (113, .if_icmp .le 11, 3, (0, 0, 0), 0), (116, .iload 11, 2, (0, 0, 0), 0), (118, .istore 8, 2, (0, 0, 0), 0), (120, .iload 10, 2, (0, 0, 0), 0), (122, .istore 9, 2, (0, 0, 0), 0), (124, .lload 6, 2, (0, 0, 0), 0), (126, .lload 6, 2, (0, 0, 0), 0), (128, .iload 4, 2, (0, 0, 0), 0), (130, .i2l, 1, (0, 0, 0), 0), (131, .lmul, 1, (0, 0, 0), 0), (132, .ldc2_w 334, 3, (0, 0, 0), 100), (135, .ldiv, 1, (0, 0, 0), 0), (136, .lsub, 1, (0, 0, 0), 0)]), (157, [(137, .lstore 6, 2, (0, 0, 0), 0), (139, .iinc 10 1, 3, (0, 0, 0), 0), (142, .goto (-81), 3, (0, 0, 0), 0), (145, .iload 5, 2, (0, 0, 0), 0), (147, .ifCond .ne 8, 3, (0, 0, 0), 0), (150, .iload 9, 2, (0, 0, 0), 0), (152, .goto 5, 3, (0, 0, 0), 0), (155, .iload 8, 2, (0, 0, 0), 0), (157, .ireturn, 1, (0, 0, 1), 0)])]
def mc_F_repeats : List (Nat × List (Nat × Ent)) := [(44, [(0, .aload_n 0, 1, (0, 0, 0), 0), (1, .getfield 19, 3, (10, 1, 1), 1), (4, .iload_n 1, 1, (0, 0, 0), 0), (5, .invokevirtual 130, 3, (30, 2, 0), 0), (8, .ifCond .eq 13, 3, (0, 0, 0), 0), (11, .iload_n 2, 1, (0, 0, 0), 0), (12, .ifCond .lt 9, 3, (0, 0, 0), 0), (15, .iload_n 2, 1, (0, 0, 0), 0), (16, .bipush 60, 2, (0, 0, 0), 0), (18, .if_icmp .le 5, 3, (0, 0, 0), 0), (21, .iconst (-1), 1, (0, 0, 0), 0), (22, .ireturn, 1, (0, 0, 1), 0), (23, .aload_n 0, 1, (0, 0, 0), 0), (24, .getfield 47, 3, (10, 5, 1), 5), (27, .iload_n 1, 1, (0, 0, 0), 0), (28, .invokevirtual 288, 3, (74, 2, 0), 0), (31, .aload_n 0, 1, (0, 0, 0), 0), (32, .getfield 47, 3, (10, 5, 1), 5), (35, .iload_n 1, 1, (0, 0, 0), 0), (36, .aload_n 0, 1, (0, 0, 0), 0), (37, .getfield 47, 3, (10, 5, 1), 5), (40, .invokevirtual 241, 3, (68, 1, 0), 0), (43, .iload_n 2, 1, (0, 0, 0), 0), (44, .iadd, 1, (0, 0, 0), 0)]), (62, [(45, .invokevirtual 336, 3, (94, 3, 0), 0), (48, .ior, 1, (0, 0, 0), 0), (49, .istore_n 3, 1, (0, 0, 0), 0), (50, .aload_n 0, 1, (0, 0, 0), 0), (51, .getfield 19, 3, (10, 1, 1), 1), (54, .invokevirtual 285, 3, (26, 1, 0), 0), (57, .iload_n 3, 1, (0, 0, 0), 0), (58, .invokestatic 339, 3, (313, 1, 0), 0), (61, .isub, 1, (0, 0, 0), 0), (62, .ireturn, 1, (0, 0, 1), 0)])]
def mc_F_kept : List (Nat × List (Nat × Ent)) := [(40, [(0, .aload_n 0, 1, (0, 0, 0), 0), (1, .getfield 19, 3, (10, 1, 1), 1), (4, .iload_n 1, 1, (0, 0, 0), 0), (5, .invokevirtual 130, 3, (30, 2, 0), 0), (8, .ifCond .eq 23, 3, (0, 0, 0), 0), (11, .iload_n 2, 1, (0, 0, 0), 0), (12, .ifCond .lt 19, 3, (0, 0, 0), 0), (15, .iload_n 2, 1, (0, 0, 0), 0), (16, .iconst 4, 1, (0, 0, 0), 0), (17, .if_icmp .ge 14, 3, (0, 0, 0), 0), (20, .iload_n 3, 1, (0, 0, 0), 0), (21, .iconst 1, 1, (0, 0, 0), 0), (22, .if_icmp .lt 9, 3, (0, 0, 0), 0), (25, .iload_n 3, 1, (0, 0, 0), 0), (26, .bipush 30, 2, (0, 0, 0), 0), (28, .if_icmp .le 5, 3, (0, 0, 0), 0), (31, .iconst (-1), 1, (0, 0, 0), 0), (32, .ireturn, 1, (0, 0, 1), 0), (33, .aload_n 0, 1, (0, 0, 0), 0), (34, .iload_n 1, 1, (0, 0, 0), 0), (35, .iload_n 2, 1, (0, 0, 0), 0), (36, .iload_n 3, 1, (0, 0, 0), 0), (37, .invokevirtual 344, 3, (174, 4, 0), 0), (40, .ireturn, 1, (0, 0, 1), 0)])]
def mc_F_habit : List (Nat × List (Nat × Ent)) := [(40, [(0, .aload_n 0, 1, (0, 0, 0), 0), (1, .getfield 19, 3, (10, 1, 1), 1), (4, .iload_n 1, 1, (0, 0, 0), 0), (5, .invokevirtual 130, 3, (30, 2, 0), 0), (8, .ifCond .eq 23, 3, (0, 0, 0), 0), (11, .iload_n 2, 1, (0, 0, 0), 0), (12, .iconst 1, 1, (0, 0, 0), 0), (13, .if_icmp .lt 18, 3, (0, 0, 0), 0), (16, .iload_n 2, 1, (0, 0, 0), 0), (17, .bipush 30, 2, (0, 0, 0), 0), (19, .if_icmp .gt 12, 3, (0, 0, 0), 0), (22, .iload_n 3, 1, (0, 0, 0), 0), (23, .ifCond .lt 8, 3, (0, 0, 0), 0), (26, .iload_n 3, 1, (0, 0, 0), 0), (27, .iconst 1, 1, (0, 0, 0), 0), (28, .if_icmp .le 5, 3, (0, 0, 0), 0), (31, .iconst (-1), 1, (0, 0, 0), 0), (32, .ireturn, 1, (0, 0, 1), 0), (33, .iconst 0, 1, (0, 0, 0), 0), (34, .istore 4, 2, (0, 0, 0), 0), (36, .iconst (-1), 1, (0, 0, 0), 0), (37, .istore 5, 2, (0, 0, 0), 0), (39, .iconst 0, 1, (0, 0, 0), 0), (40, .istore 6, 2, (0, 0, 0), 0)]), (90, [(42, .iload 6, 2, (0, 0, 0), 0), (44, .iconst 4, 1, (0, 0, 0), 0), (45, .if_icmp .ge 34, 3, (0, 0, 0), 0), (48, .aload_n 0, 1, (0, 0, 0), 0), (49, .iload_n 1, 1, (0, 0, 0), 0), (50, .iload 6, 2, (0, 0, 0), 0), (52, .iload_n 2, 1, (0, 0, 0), 0), (53, .invokevirtual 344, 3, (174, 4, 0), 0), (56, .istore 7, 2, (0, 0, 0), 0), (58, .iload 7, 2, (0, 0, 0), 0), (60, .iload 5, 2, (0, 0, 0), 0), (62, .if_icmp .le 11, 3, (0, 0, 0), 0), (65, .iload 7, 2, (0, 0, 0), 0), (67, .istore 5, 2, (0, 0, 0), 0), (69, .iload 6, 2, (0, 0, 0), 0), (71, .istore 4, 2, (0, 0, 0), 0), (73, .iinc 6 1, 3, (0, 0, 0), 0), (76, .goto (-34), 3, (0, 0, 0), 0), (79, .iload_n 3, 1, (0, 0, 0), 0), (80, .ifCond .ne 8, 3, (0, 0, 0), 0), (83, .iload 4, 2, (0, 0, 0), 0), (85, .goto 5, 3, (0, 0, 0), 0), (88, .iload 5, 2, (0, 0, 0), 0), (90, .ireturn, 1, (0, 0, 1), 0)])]
def mc_F_found : List (Nat × List (Nat × Ent)) := [(32, [(0, .aload_n 0, 1, (0, 0, 0), 0), (1, .getfield 19, 3, (10, 1, 1), 1), (4, .iload_n 1, 1, (0, 0, 0), 0), (5, .invokevirtual 324, 3, (29, 2, 0), 0), (8, .ifCond .eq 13, 3, (0, 0, 0), 0), (11, .iload_n 2, 1, (0, 0, 0), 0), (12, .ifCond .lt 9, 3, (0, 0, 0), 0), (15, .iload_n 2, 1, (0, 0, 0), 0), (16, .bipush 10, 2, (0, 0, 0), 0), (18, .if_icmp .le 5, 3, (0, 0, 0), 0), (21, .iconst (-1), 1, (0, 0, 0), 0), (22, .ireturn, 1, (0, 0, 1), 0), (23, .aload_n 0, 1, (0, 0, 0), 0), (24, .getfield 95, 3, (10, 12, 1), 12), (27, .iload_n 1, 1, (0, 0, 0), 0), (28, .iload_n 2, 1, (0, 0, 0), 0), (29, .invokevirtual 347, 3, (2, 3, 0), 0), (32, .ireturn, 1, (0, 0, 1), 0)])]
def mc_F_must : List (Nat × List (Nat × Ent)) := [(41, [(0, .aload_n 0, 1, (0, 0, 0), 0), (1, .getfield 19, 3, (10, 1, 1), 1), (4, .invokevirtual 261, 3, (25, 1, 0), 0), (7, .ifCond .eq 8, 3, (0, 0, 0), 0), (10, .iload_n 1, 1, (0, 0, 0), 0), (11, .iconst (-1), 1, (0, 0, 0), 0), (12, .if_icmp .ge 5, 3, (0, 0, 0), 0), (15, .iconst (-1), 1, (0, 0, 0), 0), (16, .ireturn, 1, (0, 0, 1), 0), (17, .iconst 0, 1, (0, 0, 0), 0), (18, .istore_n 2, 1, (0, 0, 0), 0), (19, .iconst 0, 1, (0, 0, 0), 0), (20, .istore_n 3, 1, (0, 0, 0), 0), (21, .iload_n 3, 1, (0, 0, 0), 0), (22, .aload_n 0, 1, (0, 0, 0), 0), (23, .getfield 19, 3, (10, 1, 1), 1), (26, .invokevirtual 282, 3, (28, 1, 0), 0), (29, .if_icmp .gt 34, 3, (0, 0, 0), 0), (32, .aload_n 0, 1, (0, 0, 0), 0), (33, .getfield 95, 3, (10, 12, 1), 12), (36, .aload_n 0, 1, (0, 0, 0), 0), (37, .getfield 19, 3, (10, 1, 1), 1), (40, .iload_n 3, 1, (0, 0, 0), 0), (41, .invokevirtual 350, 3, (3, 3, 0), 0)]), (73, [(44, .ifCond .eq 13, 3, (0, 0, 0), 0), (47, .iload_n 2, 1, (0, 0, 0), 0), (48, .iload_n 1, 1, (0, 0, 0), 0), (49, .if_icmp .ne 5, 3, (0, 0, 0), 0), (52, .iload_n 3, 1, (0, 0, 0), 0), (53, .ireturn, 1, (0, 0, 1), 0), (54, .iinc 2 1, 3, (0, 0, 0), 0), (57, .iinc 3 1, 3, (0, 0, 0), 0), (60, .goto (-39), 3, (0, 0, 0), 0), (63, .iload_n 1, 1, (0, 0, 0), 0), (64, .iconst (-1), 1, (0, 0, 0), 0), (65, .if_icmp .ne 7, 3, (0, 0, 0), 0), (68, .iload_n 2, 1, (0, 0, 0), 0), (69, .goto 4, 3, (0, 0, 0), 0), (72, .iconst (-1), 1, (0, 0, 0), 0), (73, .ireturn, 1, (0, 0, 1), 0)])]
def mc_F_sure : List (Nat × List (Nat × Ent)) := [(43, [(0, .iconst (-1), 1, (0, 0, 0), 0), (1, .istore_n 1, 1, (0, 0, 0), 0), (2, .aload_n 0, 1, (0, 0, 0), 0), (3, .getfield 19, 3, (10, 1, 1), 1), (6, .invokevirtual 261, 3, (25, 1, 0), 0), (9, .ifCond .ne 5, 3, (0, 0, 0), 0), (12, .iconst (-1), 1, (0, 0, 0), 0), (13, .ireturn, 1, (0, 0, 1), 0), (14, .iconst 0, 1, (0, 0, 0), 0), (15, .istore_n 2, 1, (0, 0, 0), 0), (16, .iload_n 2, 1, (0, 0, 0), 0), (17, .aload_n 0, 1, (0, 0, 0), 0), (18, .getfield 19, 3, (10, 1, 1), 1), (21, .invokevirtual 282, 3, (28, 1, 0), 0), (24, .if_icmp .gt 37, 3, (0, 0, 0), 0), (27, .aload_n 0, 1, (0, 0, 0), 0), (28, .getfield 95, 3, (10, 12, 1), 12), (31, .aload_n 0, 1, (0, 0, 0), 0), (32, .getfield 19, 3, (10, 1, 1), 1), (35, .iload_n 2, 1, (0, 0, 0), 0), (36, .invokevirtual 350, 3, (3, 3, 0), 0), (39, .ifCond .eq 16, 3, (0, 0, 0), 0), (42, .iload_n 1, 1, (0, 0, 0), 0), (43, .iconst (-1), 1, (0, 0, 0), 0)]), (62, [(44, .if_icmp .ne 7, 3, (0, 0, 0), 0), (47, .iload_n 2, 1, (0, 0, 0), 0), (48, .goto 6, 3, (0, 0, 0), 0), (51, .iload_n 1, 1, (0, 0, 0), 0), (52, .iload_n 2, 1, (0, 0, 0), 0), (53, .iand, 1, (0, 0, 0), 0), (54, .istore_n 1, 1, (0, 0, 0), 0), (55, .iinc 2 1, 3, (0, 0, 0), 0), (58, .goto (-42), 3, (0, 0, 0), 0), (61, .iload_n 1, 1, (0, 0, 0), 0), (62, .ireturn, 1, (0, 0, 1), 0)])]
def mc_F_claim : List (Nat × List (Nat × Ent)) := [(43, [(0, .aload_n 0, 1, (0, 0, 0), 0), (1, .getfield 19, 3, (10, 1, 1), 1), (4, .iload_n 1, 1, (0, 0, 0), 0), (5, .iload_n 2, 1, (0, 0, 0), 0), (6, .invokevirtual 152, 3, (31, 3, 0), 0), (9, .ifCond .eq 25, 3, (0, 0, 0), 0), (12, .iload_n 3, 1, (0, 0, 0), 0), (13, .ifCond .lt 21, 3, (0, 0, 0), 0), (16, .iload_n 3, 1, (0, 0, 0), 0), (17, .bipush 99, 2, (0, 0, 0), 0), (19, .if_icmp .gt 15, 3, (0, 0, 0), 0), (22, .iload 4, 2, (0, 0, 0), 0), (24, .ifCond .lt 10, 3, (0, 0, 0), 0), (27, .iload 4, 2, (0, 0, 0), 0), (29, .bipush 9, 2, (0, 0, 0), 0), (31, .if_icmp .le 5, 3, (0, 0, 0), 0), (34, .iconst (-1), 1, (0, 0, 0), 0), (35, .ireturn, 1, (0, 0, 1), 0), (36, .aload_n 0, 1, (0, 0, 0), 0), (37, .getfield 95, 3, (10, 12, 1), 12), (40, .iload_n 1, 1, (0, 0, 0), 0), (41, .iload_n 2, 1, (0, 0, 0), 0), (42, .iload_n 3, 1, (0, 0, 0), 0), (43, .iload 4, 2, (0, 0, 0), 0)]), (48, [(45, .invokevirtual 354, 3, (4, 5, 0), 0), (48, .ireturn, 1, (0, 0, 1), 0)])]
def mc_F_could : List (Nat × List (Nat × Ent)) := [(41, [(0, .aload_n 0, 1, (0, 0, 0), 0), (1, .getfield 19, 3, (10, 1, 1), 1), (4, .iload_n 1, 1, (0, 0, 0), 0), (5, .invokevirtual 324, 3, (29, 2, 0), 0), (8, .ifCond .ne 5, 3, (0, 0, 0), 0), (11, .iconst (-1), 1, (0, 0, 0), 0), (12, .ireturn, 1, (0, 0, 1), 0), (13, .aload_n 0, 1, (0, 0, 0), 0), (14, .getfield 95, 3, (10, 12, 1), 12), (17, .iload_n 1, 1, (0, 0, 0), 0), (18, .invokevirtual 358, 3, (5, 2, 0), 0), (21, .iconst 0, 1, (0, 0, 0), 0), (22, .istore_n 2, 1, (0, 0, 0), 0), (23, .iconst 0, 1, (0, 0, 0), 0), (24, .istore_n 3, 1, (0, 0, 0), 0), (25, .iload_n 3, 1, (0, 0, 0), 0), (26, .aload_n 0, 1, (0, 0, 0), 0), (27, .getfield 19, 3, (10, 1, 1), 1), (30, .invokevirtual 315, 3, (27, 1, 0), 0), (33, .if_icmp .ge 26, 3, (0, 0, 0), 0), (36, .aload_n 0, 1, (0, 0, 0), 0), (37, .getfield 95, 3, (10, 12, 1), 12), (40, .iload_n 3, 1, (0, 0, 0), 0), (41, .invokevirtual 361, 3, (6, 2, 0), 0)]), (60, [(44, .ifCond .eq 9, 3, (0, 0, 0), 0), (47, .iload_n 2, 1, (0, 0, 0), 0), (48, .iconst 1, 1, (0, 0, 0), 0), (49, .iload_n 3, 1, (0, 0, 0), 0), (50, .ishl, 1, (0, 0, 0), 0), (51, .ior, 1, (0, 0, 0), 0), (52, .istore_n 2, 1, (0, 0, 0), 0), (53, .iinc 3 1, 3, (0, 0, 0), 0), (56, .goto (-31), 3, (0, 0, 0), 0), (59, .iload_n 2, 1, (0, 0, 0), 0), (60, .ireturn, 1, (0, 0, 1), 0)])]
def mc_F_alone : List (Nat × List (Nat × Ent)) := [(45, [(0, .aload_n 0, 1, (0, 0, 0), 0), (1, .getfield 19, 3, (10, 1, 1), 1), (4, .iload_n 1, 1, (0, 0, 0), 0), (5, .invokevirtual 324, 3, (29, 2, 0), 0), (8, .ifCond .ne 5, 3, (0, 0, 0), 0), (11, .iconst (-1), 1, (0, 0, 0), 0), (12, .ireturn, 1, (0, 0, 1), 0), (13, .aload_n 0, 1, (0, 0, 0), 0), (14, .getfield 95, 3, (10, 12, 1), 12), (17, .iload_n 1, 1, (0, 0, 0), 0), (18, .invokevirtual 358, 3, (5, 2, 0), 0), (21, .iconst 0, 1, (0, 0, 0), 0), (22, .istore_n 2, 1, (0, 0, 0), 0), (23, .iload_n 2, 1, (0, 0, 0), 0), (24, .aload_n 0, 1, (0, 0, 0), 0), (25, .getfield 19, 3, (10, 1, 1), 1), (28, .invokevirtual 315, 3, (27, 1, 0), 0), (31, .if_icmp .ge 22, 3, (0, 0, 0), 0), (34, .aload_n 0, 1, (0, 0, 0), 0), (35, .getfield 95, 3, (10, 12, 1), 12), (38, .iload_n 2, 1, (0, 0, 0), 0), (39, .invokevirtual 364, 3, (7, 2, 0), 0), (42, .ifCond .eq 5, 3, (0, 0, 0), 0), (45, .iload_n 2, 1, (0, 0, 0), 0)]), (54, [(46, .ireturn, 1, (0, 0, 1), 0), (47, .iinc 2 1, 3, (0, 0, 0), 0), (50, .goto (-27), 3, (0, 0, 0), 0), (53, .iconst (-1), 1, (0, 0, 0), 0), (54, .ireturn, 1, (0, 0, 1), 0)])]
def mc_F_years : List (Nat × List (Nat × Ent)) := [(43, [(0, .aload_n 0, 1, (0, 0, 0), 0), (1, .iload_n 1, 1, (0, 0, 0), 0), (2, .invokevirtual 235, 3, (170, 2, 0), 0), (5, .ifCond .ne 5, 3, (0, 0, 0), 0), (8, .iconst (-1), 1, (0, 0, 0), 0), (9, .ireturn, 1, (0, 0, 1), 0), (10, .aload_n 0, 1, (0, 0, 0), 0), (11, .lload_n 2, 1, (0, 0, 0), 0), (12, .putfield 367, 3, (10, 15, 2), 15), (15, .iconst 0, 1, (0, 0, 0), 0), (16, .istore 4, 2, (0, 0, 0), 0), (18, .iload 4, 2, (0, 0, 0), 0), (20, .iload_n 1, 1, (0, 0, 0), 0), (21, .if_icmp .ge 57, 3, (0, 0, 0), 0), (24, .aload_n 0, 1, (0, 0, 0), 0), (25, .getfield 57, 3, (10, 7, 1), 7), (28, .aload_n 0, 1, (0, 0, 0), 0), (29, .getfield 47, 3, (10, 5, 1), 5), (32, .getfield 185, 3, (7, 1, 1), 1), (35, .invokevirtual 188, 3, (45, 2, 0), 0), (38, .iconst 0, 1, (0, 0, 0), 0), (39, .istore 5, 2, (0, 0, 0), 0), (41, .iload 5, 2, (0, 0, 0), 0), (43, .aload_n 0, 1, (0, 0, 0), 0)]), (85, [(44, .getfield 19, 3, (10, 1, 1), 1), (47, .invokevirtual 315, 3, (27, 1, 0), 0), (50, .if_icmp .ge 15, 3, (0, 0, 0), 0), (53, .aload_n 0, 1, (0, 0, 0), 0), (54, .iload 5, 2, (0, 0, 0), 0), (56, .invokevirtual 371, 3, (177, 2, 0), 0), (59, .iinc 5 1, 3, (0, 0, 0), 0), (62, .goto (-21), 3, (0, 0, 0), 0), (65, .aload_n 0, 1, (0, 0, 0), 0), (66, .getfield 47, 3, (10, 5, 1), 5), (69, .invokevirtual 238, 3, (93, 1, 0), 0), (72, .iinc 4 1, 3, (0, 0, 0), 0), (75, .goto (-57), 3, (0, 0, 0), 0), (78, .aload_n 0, 1, (0, 0, 0), 0), (79, .getfield 47, 3, (10, 5, 1), 5), (82, .invokevirtual 241, 3, (68, 1, 0), 0), (85, .ireturn, 1, (0, 0, 1), 0)])]
def mc_F_richest : List (Nat × List (Nat × Ent)) := [(41, [(0, .iconst (-1), 1, (0, 0, 0), 0), (1, .istore_n 1, 1, (0, 0, 0), 0), (2, .iconst 0, 1, (0, 0, 0), 0), (3, .istore_n 2, 1, (0, 0, 0), 0), (4, .iload_n 2, 1, (0, 0, 0), 0), (5, .aload_n 0, 1, (0, 0, 0), 0), (6, .getfield 19, 3, (10, 1, 1), 1), (9, .invokevirtual 315, 3, (27, 1, 0), 0), (12, .if_icmp .ge 35, 3, (0, 0, 0), 0), (15, .iload_n 1, 1, (0, 0, 0), 0), (16, .iconst (-1), 1, (0, 0, 0), 0), (17, .if_icmp .eq 22, 3, (0, 0, 0), 0), (20, .aload_n 0, 1, (0, 0, 0), 0), (21, .getfield 47, 3, (10, 5, 1), 5), (24, .iload_n 2, 1, (0, 0, 0), 0), (25, .invokevirtual 140, 3, (69, 2, 0), 0), (28, .aload_n 0, 1, (0, 0, 0), 0), (29, .getfield 47, 3, (10, 5, 1), 5), (32, .iload_n 1, 1, (0, 0, 0), 0), (33, .invokevirtual 140, 3, (69, 2, 0), 0), (36, .if_icmp .le 5, 3, (0, 0, 0), 0), (39, .iload_n 2, 1, (0, 0, 0), 0), (40, .istore_n 1, 1, (0, 0, 0), 0), (41, .iinc 2 1, 3, (0, 0, 0), 0)]), (48, [(44, .goto (-40), 3, (0, 0, 0), 0), (47, .iload_n 1, 1, (0, 0, 0), 0), (48, .ireturn, 1, (0, 0, 1), 0)])]
def mc_F_last : List (Nat × List (Nat × Ent)) := [(23, [(0, .aload_n 0, 1, (0, 0, 0), 0), (1, .getfield 19, 3, (10, 1, 1), 1), (4, .iload_n 1, 1, (0, 0, 0), 0), (5, .invokevirtual 324, 3, (29, 2, 0), 0), (8, .ifCond .eq 14, 3, (0, 0, 0), 0), (11, .aload_n 0, 1, (0, 0, 0), 0), (12, .getfield 47, 3, (10, 5, 1), 5), (15, .iload_n 1, 1, (0, 0, 0), 0), (16, .invokevirtual 374, 3, (77, 2, 0), 0), (19, .goto 4, 3, (0, 0, 0), 0), (22, .iconst (-1), 1, (0, 0, 0), 0), (23, .ireturn, 1, (0, 0, 1), 0)])]
def mc_F_image : List (Nat × List (Nat × Ent)) := [(43, [(0, .aload_n 0, 1, (0, 0, 0), 0), (1, .getfield 19, 3, (10, 1, 1), 1), (4, .invokevirtual 261, 3, (25, 1, 0), 0), (7, .ifCond .ne 5, 3, (0, 0, 0), 0), (10, .iconst (-1), 1, (0, 0, 0), 0), (11, .ireturn, 1, (0, 0, 1), 0), (12, .aload_n 0, 1, (0, 0, 0), 0), (13, .getfield 47, 3, (10, 5, 1), 5), (16, .getfield 185, 3, (7, 1, 1), 1), (19, .iconst 0, 1, (0, 0, 0), 0), (20, .aload_n 0, 1, (0, 0, 0), 0), (21, .getfield 61, 3, (10, 8, 1), 8), (24, .iconst 0, 1, (0, 0, 0), 0), (25, .sipush 175, 3, (0, 0, 0), 0), (28, .invokestatic 377, 3, (0, 0, 2), 0), (31, .aload_n 0, 1, (0, 0, 0), 0), (32, .iconst 1, 1, (0, 0, 0), 0), (33, .putfield 383, 3, (10, 13, 3), 13), (36, .aload_n 0, 1, (0, 0, 0), 0), (37, .getfield 47, 3, (10, 5, 1), 5), (40, .invokevirtual 241, 3, (68, 1, 0), 0), (43, .ireturn, 1, (0, 0, 1), 0)])]
def mc_F_back : List (Nat × List (Nat × Ent)) := [(34, [(0, .aload_n 0, 1, (0, 0, 0), 0), (1, .getfield 383, 3, (10, 13, 3), 13), (4, .ifCond .ne 5, 3, (0, 0, 0), 0), (7, .iconst (-1), 1, (0, 0, 0), 0), (8, .ireturn, 1, (0, 0, 1), 0), (9, .aload_n 0, 1, (0, 0, 0), 0), (10, .getfield 47, 3, (10, 5, 1), 5), (13, .aload_n 0, 1, (0, 0, 0), 0), (14, .getfield 61, 3, (10, 8, 1), 8), (17, .invokevirtual 265, 3, (64, 2, 0), 0), (20, .aload_n 0, 1, (0, 0, 0), 0), (21, .getfield 57, 3, (10, 7, 1), 7), (24, .invokevirtual 387, 3, (47, 1, 0), 0), (27, .aload_n 0, 1, (0, 0, 0), 0), (28, .getfield 47, 3, (10, 5, 1), 5), (31, .invokevirtual 241, 3, (68, 1, 0), 0), (34, .ireturn, 1, (0, 0, 1), 0)])]
def mc_F_count : List (Nat × List (Nat × Ent)) := [(117, [(0, .iload_n 1, 1, (0, 0, 0), 0), (1, .tableswitch 208 0 15 #[79, 87, 95, 105, 115, 123, 131, 139, 147, 155, 160, 168, 176, 184, 192, 200], 79, (0, 0, 0), 0), (80, .aload_n 0, 1, (0, 0, 0), 0), (81, .getfield 19, 3, (10, 1, 1), 1), (84, .invokevirtual 285, 3, (26, 1, 0), 0), (87, .ireturn, 1, (0, 0, 1), 0), (88, .aload_n 0, 1, (0, 0, 0), 0), (89, .getfield 19, 3, (10, 1, 1), 1), (92, .invokevirtual 315, 3, (27, 1, 0), 0), (95, .ireturn, 1, (0, 0, 1), 0), (96, .aload_n 0, 1, (0, 0, 0), 0), (97, .getfield 19, 3, (10, 1, 1), 1), (100, .getfield 390, 3, (3, 0, 1), 0), (103, .iconst 2, 1, (0, 0, 0), 0), (104, .iaload, 1, (0, 0, 0), 0), (105, .ireturn, 1, (0, 0, 1), 0), (106, .aload_n 0, 1, (0, 0, 0), 0), (107, .getfield 19, 3, (10, 1, 1), 1), (110, .getfield 390, 3, (3, 0, 1), 0), (113, .iconst 3, 1, (0, 0, 0), 0), (114, .iaload, 1, (0, 0, 0), 0), (115, .ireturn, 1, (0, 0, 1), 0), (116, .aload_n 0, 1, (0, 0, 0), 0), (117, .getfield 31, 3, (10, 3, 1), 3)]), (165, [(120, .getfield 160, 3, (9, 4, 0), 4), (123, .ireturn, 1, (0, 0, 1), 0), (124, .aload_n 0, 1, (0, 0, 0), 0), (125, .getfield 38, 3, (10, 4, 1), 4), (128, .getfield 393, 3, (5, 3, 0), 3), (131, .ireturn, 1, (0, 0, 1), 0), (132, .aload_n 0, 1, (0, 0, 0), 0), (133, .getfield 10, 3, (10, 0, 1), 0), (136, .getfield 103, 3, (8, 1, 0), 1), (139, .ireturn, 1, (0, 0, 1), 0), (140, .aload_n 0, 1, (0, 0, 0), 0), (141, .getfield 31, 3, (10, 3, 1), 3), (144, .getfield 163, 3, (9, 5, 0), 5), (147, .ireturn, 1, (0, 0, 1), 0), (148, .aload_n 0, 1, (0, 0, 0), 0), (149, .getfield 47, 3, (10, 5, 1), 5), (152, .invokevirtual 241, 3, (68, 1, 0), 0), (155, .ireturn, 1, (0, 0, 1), 0), (156, .aload_n 0, 1, (0, 0, 0), 0), (157, .getfield 166, 3, (10, 14, 0), 14), (160, .ireturn, 1, (0, 0, 1), 0), (161, .aload_n 0, 1, (0, 0, 0), 0), (162, .getfield 47, 3, (10, 5, 1), 5), (165, .invokevirtual 220, 3, (85, 1, 0), 0)]), (212, [(168, .ireturn, 1, (0, 0, 1), 0), (169, .aload_n 0, 1, (0, 0, 0), 0), (170, .getfield 47, 3, (10, 5, 1), 5), (173, .invokevirtual 251, 3, (96, 1, 0), 0), (176, .ireturn, 1, (0, 0, 1), 0), (177, .aload_n 0, 1, (0, 0, 0), 0), (178, .getfield 95, 3, (10, 12, 1), 12), (181, .getfield 394, 3, (0, 8, 0), 8), (184, .ireturn, 1, (0, 0, 1), 0), (185, .aload_n 0, 1, (0, 0, 0), 0), (186, .getfield 95, 3, (10, 12, 1), 12), (189, .getfield 397, 3, (0, 9, 0), 9), (192, .ireturn, 1, (0, 0, 1), 0), (193, .aload_n 0, 1, (0, 0, 0), 0), (194, .getfield 57, 3, (10, 7, 1), 7), (197, .getfield 248, 3, (4, 2, 0), 2), (200, .ireturn, 1, (0, 0, 1), 0), (201, .aload_n 0, 1, (0, 0, 0), 0), (202, .getfield 47, 3, (10, 5, 1), 5), (205, .invokevirtual 268, 3, (76, 1, 0), 0), (208, .ireturn, 1, (0, 0, 1), 0), (209, .ldc_w 264, 3, (0, 0, 0), -1000000), (212, .ireturn, 1, (0, 0, 1), 0)])]
def mc_F_isFaultless : List (Nat × List (Nat × Ent)) := [(38, [(0, .iload_n 1, 1, (0, 0, 0), 0), (1, .ifCond .ne 15, 3, (0, 0, 0), 0), (4, .aload_n 0, 1, (0, 0, 0), 0), (5, .getfield 10, 3, (10, 0, 1), 0), (8, .aload_n 0, 1, (0, 0, 0), 0), (9, .getfield 23, 3, (10, 2, 1), 2), (12, .invokestatic 400, 3, (39, 2, 0), 0), (15, .ireturn, 1, (0, 0, 3), 0), (16, .iload_n 1, 1, (0, 0, 0), 0), (17, .iconst 1, 1, (0, 0, 0), 0), (18, .if_icmp .ne 13, 3, (0, 0, 0), 0), (21, .aload_n 0, 1, (0, 0, 0), 0), (22, .getfield 31, 3, (10, 3, 1), 3), (25, .invokevirtual 406, 3, (109, 1, 0), 0), (28, .goto 10, 3, (0, 0, 0), 0), (31, .aload_n 0, 1, (0, 0, 0), 0), (32, .getfield 38, 3, (10, 4, 1), 4), (35, .invokevirtual 409, 3, (53, 1, 0), 0), (38, .ireturn, 1, (0, 0, 3), 0)])]
def mc_F_openMarket : List (Nat × List (Nat × Ent)) := [(44, [(0, .aload_n 0, 1, (0, 0, 0), 0), (1, .getfield 19, 3, (10, 1, 1), 1), (4, .aload_n 0, 1, (0, 0, 0), 0), (5, .getfield 23, 3, (10, 2, 1), 2), (8, .invokevirtual 410, 3, (20, 2, 0), 0), (11, .aload_n 0, 1, (0, 0, 0), 0), (12, .getfield 47, 3, (10, 5, 1), 5), (15, .invokevirtual 412, 3, (63, 1, 0), 0), (18, .aload_n 0, 1, (0, 0, 0), 0), (19, .getfield 57, 3, (10, 7, 1), 7), (22, .invokevirtual 387, 3, (47, 1, 0), 0), (25, .aload_n 0, 1, (0, 0, 0), 0), (26, .getfield 95, 3, (10, 12, 1), 12), (29, .invokevirtual 415, 3, (1, 1, 0), 0), (32, .aload_n 0, 1, (0, 0, 0), 0), (33, .iconst 0, 1, (0, 0, 0), 0), (34, .putfield 383, 3, (10, 13, 3), 13), (37, .aload_n 0, 1, (0, 0, 0), 0), (38, .getfield 19, 3, (10, 1, 1), 1), (41, .invokevirtual 285, 3, (26, 1, 0), 0), (44, .ireturn, 1, (0, 0, 1), 0)])]
def mc_F_mayPass : List (Nat × List (Nat × Ent)) := [(41, [(0, .aload_n 0, 1, (0, 0, 0), 0), (1, .getfield 19, 3, (10, 1, 1), 1), (4, .invokevirtual 261, 3, (25, 1, 0), 0), (7, .ifCond .eq 33, 3, (0, 0, 0), 0), (10, .iload_n 1, 1, (0, 0, 0), 0), (11, .iconst 1, 1, (0, 0, 0), 0), (12, .if_icmp .lt 28, 3, (0, 0, 0), 0), (15, .iload_n 1, 1, (0, 0, 0), 0), (16, .bipush 30, 2, (0, 0, 0), 0), (18, .if_icmp .gt 22, 3, (0, 0, 0), 0), (21, .aload_n 0, 1, (0, 0, 0), 0), (22, .getfield 47, 3, (10, 5, 1), 5), (25, .invokevirtual 241, 3, (68, 1, 0), 0), (28, .iload_n 1, 1, (0, 0, 0), 0), (29, .iadd, 1, (0, 0, 0), 0), (30, .sipush 999, 3, (0, 0, 0), 0), (33, .if_icmp .gt 7, 3, (0, 0, 0), 0), (36, .iconst 1, 1, (0, 0, 0), 0), (37, .goto 4, 3, (0, 0, 0), 0), (40, .iconst 0, 1, (0, 0, 0), 0), (41, .ireturn, 1, (0, 0, 3), 0)])]
def mc_F_doHave : List (Nat × List (Nat × Ent)) := [(41, [(0, .aload_n 0, 1, (0, 0, 0), 0), (1, .getfield 70, 3, (10, 9, 1), 9), (4, .aload_n 1, 1, (0, 0, 0), 0), (5, .iload_n 2, 1, (0, 0, 0), 0), (6, .iconst 0, 1, (0, 0, 0), 0), (7, .aload_n 0, 1, (0, 0, 0), 0), (8, .getfield 19, 3, (10, 1, 1), 1), (11, .getfield 390, 3, (3, 0, 1), 0), (14, .iconst 3, 1, (0, 0, 0), 0), (15, .iaload, 1, (0, 0, 0), 0), (16, .invokevirtual 172, 3, (9, 5, 0), 0), (19, .aload_n 0, 1, (0, 0, 0), 0), (20, .getfield 79, 3, (10, 10, 1), 10), (23, .aload_n 1, 1, (0, 0, 0), 0), (24, .iload_n 2, 1, (0, 0, 0), 0), (25, .invokevirtual 149, 3, (72, 2, 0), 0), (28, .aload_n 1, 1, (0, 0, 0), 0), (29, .iload_n 2, 1, (0, 0, 0), 0), (30, .invokevirtual 288, 3, (74, 2, 0), 0), (33, .invokevirtual 416, 3, (14, 3, 0), 0), (36, .aload_n 0, 1, (0, 0, 0), 0), (37, .getfield 79, 3, (10, 10, 1), 10), (40, .iload_n 3, 1, (0, 0, 0), 0), (41, .invokevirtual 419, 3, (15, 2, 0), 0)]), (91, [(44, .iconst 0, 1, (0, 0, 0), 0), (45, .istore 4, 2, (0, 0, 0), 0), (47, .iload 4, 2, (0, 0, 0), 0), (49, .aload_n 0, 1, (0, 0, 0), 0), (50, .getfield 79, 3, (10, 10, 1), 10), (53, .getfield 422, 3, (2, 4, 0), 4), (56, .if_icmp .ge 34, 3, (0, 0, 0), 0), (59, .aload_n 1, 1, (0, 0, 0), 0), (60, .iload_n 2, 1, (0, 0, 0), 0), (61, .aload_n 0, 1, (0, 0, 0), 0), (62, .getfield 79, 3, (10, 10, 1), 10), (65, .getfield 423, 3, (2, 2, 1), 2), (68, .iload 4, 2, (0, 0, 0), 0), (70, .iaload, 1, (0, 0, 0), 0), (71, .aload_n 0, 1, (0, 0, 0), 0), (72, .getfield 79, 3, (10, 10, 1), 10), (75, .getfield 426, 3, (2, 3, 1), 3), (78, .iload 4, 2, (0, 0, 0), 0), (80, .iaload, 1, (0, 0, 0), 0), (81, .invokevirtual 429, 3, (95, 4, 0), 0), (84, .iinc 4 1, 3, (0, 0, 0), 0), (87, .goto (-40), 3, (0, 0, 0), 0), (90, .aload_n 0, 1, (0, 0, 0), 0), (91, .getfield 79, 3, (10, 10, 1), 10)]), (97, [(94, .getfield 432, 3, (2, 5, 0), 5), (97, .ireturn, 1, (0, 0, 1), 0)])]
def mc_F_mayStep : List (Nat × List (Nat × Ent)) := [(40, [(0, .aload_n 0, 1, (0, 0, 0), 0), (1, .getfield 38, 3, (10, 4, 1), 4), (4, .iload_n 2, 1, (0, 0, 0), 0), (5, .iload_n 3, 1, (0, 0, 0), 0), (6, .iconst 1, 1, (0, 0, 0), 0), (7, .invokevirtual 257, 3, (51, 4, 0), 0), (10, .istore 4, 2, (0, 0, 0), 0), (12, .aload_n 0, 1, (0, 0, 0), 0), (13, .getfield 38, 3, (10, 4, 1), 4), (16, .iload_n 2, 1, (0, 0, 0), 0), (17, .iload_n 3, 1, (0, 0, 0), 0), (18, .iconst 2, 1, (0, 0, 0), 0), (19, .invokevirtual 257, 3, (51, 4, 0), 0), (22, .istore 5, 2, (0, 0, 0), 0), (24, .aload_n 0, 1, (0, 0, 0), 0), (25, .getfield 38, 3, (10, 4, 1), 4), (28, .iload_n 2, 1, (0, 0, 0), 0), (29, .iload_n 3, 1, (0, 0, 0), 0), (30, .iconst 3, 1, (0, 0, 0), 0), (31, .invokevirtual 257, 3, (51, 4, 0), 0), (34, .istore 6, 2, (0, 0, 0), 0), (36, .aload_n 0, 1, (0, 0, 0), 0), (37, .getfield 38, 3, (10, 4, 1), 4), (40, .iload_n 2, 1, (0, 0, 0), 0)]), (109, [(41, .iload_n 3, 1, (0, 0, 0), 0), (42, .iconst 0, 1, (0, 0, 0), 0), (43, .invokevirtual 257, 3, (51, 4, 0), 0), (46, .tableswitch 87 0 3 #[30, 39, 60, 71], 30, (0, 0, 0), 0), (76, .aload_n 1, 1, (0, 0, 0), 0), (77, .iload 4, 2, (0, 0, 0), 0), (79, .iload 6, 2, (0, 0, 0), 0), (81, .invokevirtual 182, 3, (79, 3, 0), 0), (84, .ireturn, 1, (0, 0, 3), 0), (85, .aload_n 1, 1, (0, 0, 0), 0), (86, .iload 4, 2, (0, 0, 0), 0), (88, .iload 5, 2, (0, 0, 0), 0), (90, .iload 6, 2, (0, 0, 0), 0), (92, .aload_n 0, 1, (0, 0, 0), 0), (93, .getfield 38, 3, (10, 4, 1), 4), (96, .iload_n 2, 1, (0, 0, 0), 0), (97, .iload_n 3, 1, (0, 0, 0), 0), (98, .iconst 4, 1, (0, 0, 0), 0), (99, .invokevirtual 257, 3, (51, 4, 0), 0), (102, .invokevirtual 196, 3, (80, 5, 0), 0), (105, .ireturn, 1, (0, 0, 3), 0), (106, .aload_n 1, 1, (0, 0, 0), 0), (107, .iload 4, 2, (0, 0, 0), 0), (109, .iload 5, 2, (0, 0, 0), 0)]), (134, [(111, .iload 6, 2, (0, 0, 0), 0), (113, .invokevirtual 204, 3, (81, 4, 0), 0), (116, .ireturn, 1, (0, 0, 3), 0), (117, .aload_n 1, 1, (0, 0, 0), 0), (118, .invokevirtual 241, 3, (68, 1, 0), 0), (121, .sipush 999, 3, (0, 0, 0), 0), (124, .if_icmp .ge 7, 3, (0, 0, 0), 0), (127, .iconst 1, 1, (0, 0, 0), 0), (128, .goto 4, 3, (0, 0, 0), 0), (131, .iconst 0, 1, (0, 0, 0), 0), (132, .ireturn, 1, (0, 0, 3), 0), (133, .iconst 0, 1, (0, 0, 0), 0), (134, .ireturn, 1, (0, 0, 3), 0)])]
def mc_F_doStep : List (Nat × List (Nat × Ent)) := [(40, [(0, .aload_n 0, 1, (0, 0, 0), 0), (1, .getfield 38, 3, (10, 4, 1), 4), (4, .iload_n 2, 1, (0, 0, 0), 0), (5, .iload_n 3, 1, (0, 0, 0), 0), (6, .iconst 1, 1, (0, 0, 0), 0), (7, .invokevirtual 257, 3, (51, 4, 0), 0), (10, .istore 4, 2, (0, 0, 0), 0), (12, .aload_n 0, 1, (0, 0, 0), 0), (13, .getfield 38, 3, (10, 4, 1), 4), (16, .iload_n 2, 1, (0, 0, 0), 0), (17, .iload_n 3, 1, (0, 0, 0), 0), (18, .iconst 2, 1, (0, 0, 0), 0), (19, .invokevirtual 257, 3, (51, 4, 0), 0), (22, .istore 5, 2, (0, 0, 0), 0), (24, .aload_n 0, 1, (0, 0, 0), 0), (25, .getfield 38, 3, (10, 4, 1), 4), (28, .iload_n 2, 1, (0, 0, 0), 0), (29, .iload_n 3, 1, (0, 0, 0), 0), (30, .iconst 3, 1, (0, 0, 0), 0), (31, .invokevirtual 257, 3, (51, 4, 0), 0), (34, .istore 6, 2, (0, 0, 0), 0), (36, .aload_n 0, 1, (0, 0, 0), 0), (37, .getfield 38, 3, (10, 4, 1), 4), (40, .iload_n 2, 1, (0, 0, 0), 0)]), (108, [(41, .iload_n 3, 1, (0, 0, 0), 0), (42, .iconst 0, 1, (0, 0, 0), 0), (43, .invokevirtual 257, 3, (51, 4, 0), 0), (46, .tableswitch 75 0 2 #[26, 39, 62], 26, (0, 0, 0), 0), (72, .aload_n 0, 1, (0, 0, 0), 0), (73, .aload_n 1, 1, (0, 0, 0), 0), (74, .iload 4, 2, (0, 0, 0), 0), (76, .iload 6, 2, (0, 0, 0), 0), (78, .invokevirtual 192, 3, (171, 4, 0), 0), (81, .pop, 1, (0, 0, 0), 0), (82, .goto 43, 3, (0, 0, 0), 0), (85, .aload_n 1, 1, (0, 0, 0), 0), (86, .iload 4, 2, (0, 0, 0), 0), (88, .iload 5, 2, (0, 0, 0), 0), (90, .iload 6, 2, (0, 0, 0), 0), (92, .aload_n 0, 1, (0, 0, 0), 0), (93, .getfield 38, 3, (10, 4, 1), 4), (96, .iload_n 2, 1, (0, 0, 0), 0), (97, .iload_n 3, 1, (0, 0, 0), 0), (98, .iconst 4, 1, (0, 0, 0), 0), (99, .invokevirtual 257, 3, (51, 4, 0), 0), (102, .invokevirtual 200, 3, (82, 5, 0), 0), (105, .goto 20, 3, (0, 0, 0), 0), (108, .aload_n 1, 1, (0, 0, 0), 0)]), (125, [(109, .iload 4, 2, (0, 0, 0), 0), (111, .iload 5, 2, (0, 0, 0), 0), (113, .iload 6, 2, (0, 0, 0), 0), (115, .invokevirtual 208, 3, (83, 4, 0), 0), (118, .goto 7, 3, (0, 0, 0), 0), (121, .aload_n 1, 1, (0, 0, 0), 0), (122, .invokevirtual 238, 3, (93, 1, 0), 0), (125, .return_, 1, (0, 0, 0), 0)])]
def mc_F_joyByHabit : List (Nat × List (Nat × Ent)) := [(44, [(0, .aload_n 0, 1, (0, 0, 0), 0), (1, .getfield 51, 3, (10, 6, 1), 6), (4, .aload_n 0, 1, (0, 0, 0), 0), (5, .getfield 47, 3, (10, 5, 1), 5), (8, .getfield 185, 3, (7, 1, 1), 1), (11, .invokevirtual 265, 3, (64, 2, 0), 0), (14, .iconst 0, 1, (0, 0, 0), 0), (15, .istore 4, 2, (0, 0, 0), 0), (17, .iconst 1, 1, (0, 0, 0), 0), (18, .istore 5, 2, (0, 0, 0), 0), (20, .iload 5, 2, (0, 0, 0), 0), (22, .iload_n 3, 1, (0, 0, 0), 0), (23, .if_icmp .ge 27, 3, (0, 0, 0), 0), (26, .iload 4, 2, (0, 0, 0), 0), (28, .aload_n 0, 1, (0, 0, 0), 0), (29, .iload_n 1, 1, (0, 0, 0), 0), (30, .iload_n 2, 1, (0, 0, 0), 0), (31, .invokevirtual 435, 3, (175, 3, 0), 0), (34, .iadd, 1, (0, 0, 0), 0), (35, .istore 4, 2, (0, 0, 0), 0), (37, .aload_n 0, 1, (0, 0, 0), 0), (38, .getfield 51, 3, (10, 6, 1), 6), (41, .invokevirtual 238, 3, (93, 1, 0), 0), (44, .iinc 5 1, 3, (0, 0, 0), 0)]), (86, [(47, .goto (-27), 3, (0, 0, 0), 0), (50, .iload_n 2, 1, (0, 0, 0), 0), (51, .iconst 3, 1, (0, 0, 0), 0), (52, .if_icmp .eq 13, 3, (0, 0, 0), 0), (55, .iload 4, 2, (0, 0, 0), 0), (57, .aload_n 0, 1, (0, 0, 0), 0), (58, .iload_n 1, 1, (0, 0, 0), 0), (59, .iload_n 2, 1, (0, 0, 0), 0), (60, .invokevirtual 435, 3, (175, 3, 0), 0), (63, .iadd, 1, (0, 0, 0), 0), (64, .ireturn, 1, (0, 0, 1), 0), (65, .aload_n 0, 1, (0, 0, 0), 0), (66, .getfield 51, 3, (10, 6, 1), 6), (69, .iload_n 1, 1, (0, 0, 0), 0), (70, .invokevirtual 149, 3, (72, 2, 0), 0), (73, .istore 5, 2, (0, 0, 0), 0), (75, .aload_n 0, 1, (0, 0, 0), 0), (76, .getfield 70, 3, (10, 9, 1), 9), (79, .aload_n 0, 1, (0, 0, 0), 0), (80, .getfield 51, 3, (10, 6, 1), 6), (83, .iload_n 1, 1, (0, 0, 0), 0), (84, .iconst 0, 1, (0, 0, 0), 0), (85, .aload_n 0, 1, (0, 0, 0), 0), (86, .getfield 19, 3, (10, 1, 1), 1)]), (129, [(89, .invokevirtual 285, 3, (26, 1, 0), 0), (92, .invokevirtual 172, 3, (9, 5, 0), 0), (95, .aload_n 0, 1, (0, 0, 0), 0), (96, .getfield 88, 3, (10, 11, 1), 11), (99, .iload 5, 2, (0, 0, 0), 0), (101, .aload_n 0, 1, (0, 0, 0), 0), (102, .getfield 51, 3, (10, 6, 1), 6), (105, .iload_n 1, 1, (0, 0, 0), 0), (106, .invokevirtual 288, 3, (74, 2, 0), 0), (109, .aload_n 0, 1, (0, 0, 0), 0), (110, .getfield 19, 3, (10, 1, 1), 1), (113, .invokevirtual 282, 3, (28, 1, 0), 0), (116, .invokevirtual 291, 3, (57, 4, 0), 0), (119, .aload_n 0, 1, (0, 0, 0), 0), (120, .getfield 88, 3, (10, 11, 1), 11), (123, .getfield 294, 3, (6, 2, 1), 2), (126, .iload 5, 2, (0, 0, 0), 0), (128, .iaload, 1, (0, 0, 0), 0), (129, .ireturn, 1, (0, 0, 1), 0)])]
def mc_F_joyOfDay : List (Nat × List (Nat × Ent)) := [(35, [(0, .iload_n 2, 1, (0, 0, 0), 0), (1, .iconst 3, 1, (0, 0, 0), 0), (2, .if_icmp .ne 7, 3, (0, 0, 0), 0), (5, .iconst (-1), 1, (0, 0, 0), 0), (6, .goto 9, 3, (0, 0, 0), 0), (9, .aload_n 0, 1, (0, 0, 0), 0), (10, .iload_n 1, 1, (0, 0, 0), 0), (11, .iload_n 2, 1, (0, 0, 0), 0), (12, .invokevirtual 438, 3, (176, 3, 0), 0), (15, .istore_n 3, 1, (0, 0, 0), 0), (16, .iload_n 3, 1, (0, 0, 0), 0), (17, .iconst (-1), 1, (0, 0, 0), 0), (18, .if_icmp .ne 7, 3, (0, 0, 0), 0), (21, .iconst 0, 1, (0, 0, 0), 0), (22, .goto 13, 3, (0, 0, 0), 0), (25, .aload_n 0, 1, (0, 0, 0), 0), (26, .aload_n 0, 1, (0, 0, 0), 0), (27, .getfield 51, 3, (10, 6, 1), 6), (30, .iload_n 1, 1, (0, 0, 0), 0), (31, .iload_n 3, 1, (0, 0, 0), 0), (32, .invokevirtual 192, 3, (171, 4, 0), 0), (35, .ireturn, 1, (0, 0, 1), 0)])]
def mc_F_pick : List (Nat × List (Nat × Ent)) := [(38, [(0, .aload_n 0, 1, (0, 0, 0), 0), (1, .getfield 51, 3, (10, 6, 1), 6), (4, .iload_n 1, 1, (0, 0, 0), 0), (5, .invokevirtual 149, 3, (72, 2, 0), 0), (8, .istore_n 3, 1, (0, 0, 0), 0), (9, .aload_n 0, 1, (0, 0, 0), 0), (10, .getfield 51, 3, (10, 6, 1), 6), (13, .iload_n 1, 1, (0, 0, 0), 0), (14, .invokevirtual 288, 3, (74, 2, 0), 0), (17, .iload_n 3, 1, (0, 0, 0), 0), (18, .iconst (-1), 1, (0, 0, 0), 0), (19, .ixor, 1, (0, 0, 0), 0), (20, .iand, 1, (0, 0, 0), 0), (21, .istore 4, 2, (0, 0, 0), 0), (23, .iconst (-1), 1, (0, 0, 0), 0), (24, .istore 5, 2, (0, 0, 0), 0), (26, .iconst 0, 1, (0, 0, 0), 0), (27, .istore 6, 2, (0, 0, 0), 0), (29, .aload_n 0, 1, (0, 0, 0), 0), (30, .getfield 70, 3, (10, 9, 1), 9), (33, .aload_n 0, 1, (0, 0, 0), 0), (34, .getfield 51, 3, (10, 6, 1), 6), (37, .iload_n 1, 1, (0, 0, 0), 0), (38, .iconst 0, 1, (0, 0, 0), 0)]), (83, [(39, .iconst 0, 1, (0, 0, 0), 0), (40, .invokevirtual 172, 3, (9, 5, 0), 0), (43, .iconst 0, 1, (0, 0, 0), 0), (44, .istore 7, 2, (0, 0, 0), 0), (46, .iload 7, 2, (0, 0, 0), 0), (48, .aload_n 0, 1, (0, 0, 0), 0), (49, .getfield 19, 3, (10, 1, 1), 1), (52, .invokevirtual 285, 3, (26, 1, 0), 0), (55, .if_icmp .ge 85, 3, (0, 0, 0), 0), (58, .iload 4, 2, (0, 0, 0), 0), (60, .iload 7, 2, (0, 0, 0), 0), (62, .ishr, 1, (0, 0, 0), 0), (63, .iconst 1, 1, (0, 0, 0), 0), (64, .iand, 1, (0, 0, 0), 0), (65, .ifCond .ne 6, 3, (0, 0, 0), 0), (68, .goto 66, 3, (0, 0, 0), 0), (71, .iconst 0, 1, (0, 0, 0), 0), (72, .istore 8, 2, (0, 0, 0), 0), (74, .iload_n 2, 1, (0, 0, 0), 0), (75, .iconst 1, 1, (0, 0, 0), 0), (76, .if_icmp .ne 18, 3, (0, 0, 0), 0), (79, .aload_n 0, 1, (0, 0, 0), 0), (80, .getfield 70, 3, (10, 9, 1), 9), (83, .iload 7, 2, (0, 0, 0), 0)]), (132, [(85, .iload_n 3, 1, (0, 0, 0), 0), (86, .invokevirtual 179, 3, (12, 3, 0), 0), (89, .istore 8, 2, (0, 0, 0), 0), (91, .goto 22, 3, (0, 0, 0), 0), (94, .iload_n 2, 1, (0, 0, 0), 0), (95, .iconst 2, 1, (0, 0, 0), 0), (96, .if_icmp .ne 17, 3, (0, 0, 0), 0), (99, .aload_n 0, 1, (0, 0, 0), 0), (100, .getfield 19, 3, (10, 1, 1), 1), (103, .iload 7, 2, (0, 0, 0), 0), (105, .iload 4, 2, (0, 0, 0), 0), (107, .invokevirtual 441, 3, (35, 3, 0), 0), (110, .ineg, 1, (0, 0, 0), 0), (111, .istore 8, 2, (0, 0, 0), 0), (113, .iload 5, 2, (0, 0, 0), 0), (115, .iconst (-1), 1, (0, 0, 0), 0), (116, .if_icmp .eq 10, 3, (0, 0, 0), 0), (119, .iload 8, 2, (0, 0, 0), 0), (121, .iload 6, 2, (0, 0, 0), 0), (123, .if_icmp .le 11, 3, (0, 0, 0), 0), (126, .iload 7, 2, (0, 0, 0), 0), (128, .istore 5, 2, (0, 0, 0), 0), (130, .iload 8, 2, (0, 0, 0), 0), (132, .istore 6, 2, (0, 0, 0), 0)]), (142, [(134, .iinc 7 1, 3, (0, 0, 0), 0), (137, .goto (-91), 3, (0, 0, 0), 0), (140, .iload 5, 2, (0, 0, 0), 0), (142, .ireturn, 1, (0, 0, 1), 0)])]
def mc_F_liveByDraws : List (Nat × List (Nat × Ent)) := [(44, [(0, .aload_n 0, 1, (0, 0, 0), 0), (1, .aload_n 0, 1, (0, 0, 0), 0), (2, .getfield 19, 3, (10, 1, 1), 1), (5, .invokevirtual 285, 3, (26, 1, 0), 0), (8, .invokevirtual 444, 3, (178, 2, 0), 0), (11, .istore_n 2, 1, (0, 0, 0), 0), (12, .aload_n 0, 1, (0, 0, 0), 0), (13, .getfield 47, 3, (10, 5, 1), 5), (16, .iload_n 1, 1, (0, 0, 0), 0), (17, .iload_n 2, 1, (0, 0, 0), 0), (18, .invokevirtual 182, 3, (79, 3, 0), 0), (21, .ifCond .eq 17, 3, (0, 0, 0), 0), (24, .aload_n 0, 1, (0, 0, 0), 0), (25, .aload_n 0, 1, (0, 0, 0), 0), (26, .getfield 47, 3, (10, 5, 1), 5), (29, .iload_n 1, 1, (0, 0, 0), 0), (30, .iload_n 2, 1, (0, 0, 0), 0), (31, .invokevirtual 192, 3, (171, 4, 0), 0), (34, .pop, 1, (0, 0, 0), 0), (35, .goto 41, 3, (0, 0, 0), 0), (38, .aload_n 0, 1, (0, 0, 0), 0), (39, .bipush 100, 2, (0, 0, 0), 0), (41, .invokevirtual 444, 3, (178, 2, 0), 0), (44, .aload_n 0, 1, (0, 0, 0), 0)]), (76, [(45, .getfield 166, 3, (10, 14, 0), 14), (48, .if_icmp .ge 28, 3, (0, 0, 0), 0), (51, .aload_n 0, 1, (0, 0, 0), 0), (52, .getfield 47, 3, (10, 5, 1), 5), (55, .iload_n 1, 1, (0, 0, 0), 0), (56, .iload_n 2, 1, (0, 0, 0), 0), (57, .invokevirtual 447, 3, (78, 3, 0), 0), (60, .istore_n 3, 1, (0, 0, 0), 0), (61, .iload_n 3, 1, (0, 0, 0), 0), (62, .iconst (-1), 1, (0, 0, 0), 0), (63, .if_icmp .eq 13, 3, (0, 0, 0), 0), (66, .aload_n 0, 1, (0, 0, 0), 0), (67, .getfield 47, 3, (10, 5, 1), 5), (70, .iload_n 1, 1, (0, 0, 0), 0), (71, .iload_n 3, 1, (0, 0, 0), 0), (72, .iload_n 2, 1, (0, 0, 0), 0), (73, .invokevirtual 208, 3, (83, 4, 0), 0), (76, .return_, 1, (0, 0, 0), 0)])]
def mc_F_draw : List (Nat × List (Nat × Ent)) := [(36, [(0, .aload_n 0, 1, (0, 0, 0), 0), (1, .aload_n 0, 1, (0, 0, 0), 0), (2, .getfield 367, 3, (10, 15, 2), 15), (5, .ldc2_w 450, 3, (0, 0, 0), 6364136223846793005), (8, .lmul, 1, (0, 0, 0), 0), (9, .ldc2_w 452, 3, (0, 0, 0), 1442695040888963407), (12, .ladd, 1, (0, 0, 0), 0), (13, .putfield 367, 3, (10, 15, 2), 15), (16, .iload_n 1, 1, (0, 0, 0), 0), (17, .iconst 1, 1, (0, 0, 0), 0), (18, .if_icmp .ge 7, 3, (0, 0, 0), 0), (21, .iconst 0, 1, (0, 0, 0), 0), (22, .goto 14, 3, (0, 0, 0), 0), (25, .aload_n 0, 1, (0, 0, 0), 0), (26, .getfield 367, 3, (10, 15, 2), 15), (29, .bipush 33, 2, (0, 0, 0), 0), (31, .lushr, 1, (0, 0, 0), 0), (32, .iload_n 1, 1, (0, 0, 0), 0), (33, .i2l, 1, (0, 0, 0), 0), (34, .lrem, 1, (0, 0, 0), 0), (35, .l2i, 1, (0, 0, 0), 0), (36, .ireturn, 1, (0, 0, 1), 0)])]
def mc_R_in : List (Nat × List (Nat × Ent)) := [(15, [(0, .iload_n 0, 1, (0, 0, 0), 0), (1, .iload_n 1, 1, (0, 0, 0), 0), (2, .if_icmp .lt 12, 3, (0, 0, 0), 0), (5, .iload_n 0, 1, (0, 0, 0), 0), (6, .iload_n 2, 1, (0, 0, 0), 0), (7, .if_icmp .gt 7, 3, (0, 0, 0), 0), (10, .iconst 1, 1, (0, 0, 0), 0), (11, .goto 4, 3, (0, 0, 0), 0), (14, .iconst 0, 1, (0, 0, 0), 0), (15, .ireturn, 1, (0, 0, 3), 0)])]
def mc_R_has : List (Nat × List (Nat × Ent)) := [(14, [(0, .iload_n 0, 1, (0, 0, 0), 0), (1, .iload_n 1, 1, (0, 0, 0), 0), (2, .ishr, 1, (0, 0, 0), 0), (3, .iconst 1, 1, (0, 0, 0), 0), (4, .iand, 1, (0, 0, 0), 0), (5, .iconst 1, 1, (0, 0, 0), 0), (6, .if_icmp .ne 7, 3, (0, 0, 0), 0), (9, .iconst 1, 1, (0, 0, 0), 0), (10, .goto 4, 3, (0, 0, 0), 0), (13, .iconst 0, 1, (0, 0, 0), 0), (14, .ireturn, 1, (0, 0, 3), 0)])]
def mc_R_init : List (Nat × List (Nat × Ent)) := []
def mc_R_thrown : List (Nat × List (Nat × Ent)) := [(4, [(0, .aload_n 0, 1, (0, 0, 0), 0), (1, .getfield 119, 3, (11, 0, 0), 0), (4, .ireturn, 1, (0, 0, 1), 0)])]
def mc_R_byteOf : List (Nat × List (Nat × Ent)) := [(49, [(0, .iload 5, 2, (0, 0, 0), 0), (2, .iconst 4, 1, (0, 0, 0), 0), (3, .if_icmp .ge 7, 3, (0, 0, 0), 0), (6, .iload_n 0, 1, (0, 0, 0), 0), (7, .goto 38, 3, (0, 0, 0), 0), (10, .iload 5, 2, (0, 0, 0), 0), (12, .bipush 8, 2, (0, 0, 0), 0), (14, .if_icmp .ge 7, 3, (0, 0, 0), 0), (17, .iload_n 1, 1, (0, 0, 0), 0), (18, .goto 27, 3, (0, 0, 0), 0), (21, .iload 5, 2, (0, 0, 0), 0), (23, .bipush 12, 2, (0, 0, 0), 0), (25, .if_icmp .ge 7, 3, (0, 0, 0), 0), (28, .iload_n 2, 1, (0, 0, 0), 0), (29, .goto 16, 3, (0, 0, 0), 0), (32, .iload 5, 2, (0, 0, 0), 0), (34, .bipush 16, 2, (0, 0, 0), 0), (36, .if_icmp .ge 7, 3, (0, 0, 0), 0), (39, .iload_n 3, 1, (0, 0, 0), 0), (40, .goto 5, 3, (0, 0, 0), 0), (43, .iload 4, 2, (0, 0, 0), 0), (45, .istore 6, 2, (0, 0, 0), 0), (47, .iload 6, 2, (0, 0, 0), 0), (49, .bipush 24, 2, (0, 0, 0), 0)]), (64, [(51, .bipush 8, 2, (0, 0, 0), 0), (53, .iload 5, 2, (0, 0, 0), 0), (55, .iconst 4, 1, (0, 0, 0), 0), (56, .irem, 1, (0, 0, 0), 0), (57, .imul, 1, (0, 0, 0), 0), (58, .isub, 1, (0, 0, 0), 0), (59, .ishr, 1, (0, 0, 0), 0), (60, .sipush 255, 3, (0, 0, 0), 0), (63, .iand, 1, (0, 0, 0), 0), (64, .ireturn, 1, (0, 0, 1), 0)])]
def mc_R_feed : List (Nat × List (Nat × Ent)) := [(44, [(0, .iconst 0, 1, (0, 0, 0), 0), (1, .istore 6, 2, (0, 0, 0), 0), (3, .iconst 0, 1, (0, 0, 0), 0), (4, .istore 7, 2, (0, 0, 0), 0), (6, .iload 7, 2, (0, 0, 0), 0), (8, .bipush 20, 2, (0, 0, 0), 0), (10, .if_icmp .ge 34, 3, (0, 0, 0), 0), (13, .iload 6, 2, (0, 0, 0), 0), (15, .iload_n 1, 1, (0, 0, 0), 0), (16, .iload_n 2, 1, (0, 0, 0), 0), (17, .iload_n 3, 1, (0, 0, 0), 0), (18, .iload 4, 2, (0, 0, 0), 0), (20, .iload 5, 2, (0, 0, 0), 0), (22, .iload 7, 2, (0, 0, 0), 0), (24, .invokestatic 122, 3, (183, 6, 0), 0), (27, .ifCond .eq 7, 3, (0, 0, 0), 0), (30, .iconst 1, 1, (0, 0, 0), 0), (31, .goto 4, 3, (0, 0, 0), 0), (34, .iconst 0, 1, (0, 0, 0), 0), (35, .iadd, 1, (0, 0, 0), 0), (36, .istore 6, 2, (0, 0, 0), 0), (38, .iinc 7 1, 3, (0, 0, 0), 0), (41, .goto (-35), 3, (0, 0, 0), 0), (44, .aload_n 0, 1, (0, 0, 0), 0)]), (89, [(45, .getfield 126, 3, (11, 2, 0), 2), (48, .iload 6, 2, (0, 0, 0), 0), (50, .iadd, 1, (0, 0, 0), 0), (51, .sipush 240, 3, (0, 0, 0), 0), (54, .if_icmp .le 5, 3, (0, 0, 0), 0), (57, .iconst (-1), 1, (0, 0, 0), 0), (58, .ireturn, 1, (0, 0, 1), 0), (59, .iconst 0, 1, (0, 0, 0), 0), (60, .istore 7, 2, (0, 0, 0), 0), (62, .iload 7, 2, (0, 0, 0), 0), (64, .bipush 20, 2, (0, 0, 0), 0), (66, .if_icmp .ge 49, 3, (0, 0, 0), 0), (69, .iload_n 1, 1, (0, 0, 0), 0), (70, .iload_n 2, 1, (0, 0, 0), 0), (71, .iload_n 3, 1, (0, 0, 0), 0), (72, .iload 4, 2, (0, 0, 0), 0), (74, .iload 5, 2, (0, 0, 0), 0), (76, .iload 7, 2, (0, 0, 0), 0), (78, .invokestatic 122, 3, (183, 6, 0), 0), (81, .istore 8, 2, (0, 0, 0), 0), (83, .iload 8, 2, (0, 0, 0), 0), (85, .ifCond .eq 24, 3, (0, 0, 0), 0), (88, .aload_n 0, 1, (0, 0, 0), 0), (89, .getfield 9, 3, (11, 1, 1), 1)]), (119, [(92, .aload_n 0, 1, (0, 0, 0), 0), (93, .getfield 126, 3, (11, 2, 0), 2), (96, .iload 8, 2, (0, 0, 0), 0), (98, .iastore, 1, (0, 0, 0), 0), (99, .aload_n 0, 1, (0, 0, 0), 0), (100, .dup, 1, (0, 0, 0), 0), (101, .getfield 126, 3, (11, 2, 0), 2), (104, .iconst 1, 1, (0, 0, 0), 0), (105, .iadd, 1, (0, 0, 0), 0), (106, .putfield 126, 3, (11, 2, 0), 2), (109, .iinc 7 1, 3, (0, 0, 0), 0), (112, .goto (-50), 3, (0, 0, 0), 0), (115, .aload_n 0, 1, (0, 0, 0), 0), (116, .getfield 126, 3, (11, 2, 0), 2), (119, .ireturn, 1, (0, 0, 1), 0)])]
def mc_R_end : List (Nat × List (Nat × Ent)) := [(20, [(0, .iload_n 1, 1, (0, 0, 0), 0), (1, .ifCond .lt 11, 3, (0, 0, 0), 0), (4, .iload_n 1, 1, (0, 0, 0), 0), (5, .aload_n 0, 1, (0, 0, 0), 0), (6, .getfield 126, 3, (11, 2, 0), 2), (9, .if_icmp .le 5, 3, (0, 0, 0), 0), (12, .iconst 0, 1, (0, 0, 0), 0), (13, .ireturn, 1, (0, 0, 3), 0), (14, .aload_n 0, 1, (0, 0, 0), 0), (15, .iload_n 1, 1, (0, 0, 0), 0), (16, .putfield 126, 3, (11, 2, 0), 2), (19, .iconst 1, 1, (0, 0, 0), 0), (20, .ireturn, 1, (0, 0, 3), 0)])]
def mc_R_here : List (Nat × List (Nat × Ent)) := [(24, [(0, .aload_n 0, 1, (0, 0, 0), 0), (1, .getfield 129, 3, (11, 3, 0), 3), (4, .aload_n 0, 1, (0, 0, 0), 0), (5, .getfield 126, 3, (11, 2, 0), 2), (8, .if_icmp .ge 15, 3, (0, 0, 0), 0), (11, .aload_n 0, 1, (0, 0, 0), 0), (12, .getfield 9, 3, (11, 1, 1), 1), (15, .aload_n 0, 1, (0, 0, 0), 0), (16, .getfield 129, 3, (11, 3, 0), 3), (19, .iaload, 1, (0, 0, 0), 0), (20, .goto 4, 3, (0, 0, 0), 0), (23, .iconst (-1), 1, (0, 0, 0), 0), (24, .ireturn, 1, (0, 0, 1), 0)])]
def mc_R_look : List (Nat × List (Nat × Ent)) := [(26, [(0, .aload_n 0, 1, (0, 0, 0), 0), (1, .invokevirtual 132, 3, (186, 1, 0), 0), (4, .bipush 32, 2, (0, 0, 0), 0), (6, .if_icmp .ne 16, 3, (0, 0, 0), 0), (9, .aload_n 0, 1, (0, 0, 0), 0), (10, .dup, 1, (0, 0, 0), 0), (11, .getfield 129, 3, (11, 3, 0), 3), (14, .iconst 1, 1, (0, 0, 0), 0), (15, .iadd, 1, (0, 0, 0), 0), (16, .putfield 129, 3, (11, 3, 0), 3), (19, .goto (-19), 3, (0, 0, 0), 0), (22, .aload_n 0, 1, (0, 0, 0), 0), (23, .invokevirtual 132, 3, (186, 1, 0), 0), (26, .ireturn, 1, (0, 0, 1), 0)])]
def mc_R_bad : List (Nat × List (Nat × Ent)) := [(23, [(0, .aload_n 0, 1, (0, 0, 0), 0), (1, .aload_n 0, 1, (0, 0, 0), 0), (2, .getfield 136, 3, (11, 4, 0), 4), (5, .iconst (-1), 1, (0, 0, 0), 0), (6, .if_icmp .ne 10, 3, (0, 0, 0), 0), (9, .aload_n 0, 1, (0, 0, 0), 0), (10, .getfield 129, 3, (11, 3, 0), 3), (13, .goto 7, 3, (0, 0, 0), 0), (16, .aload_n 0, 1, (0, 0, 0), 0), (17, .getfield 136, 3, (11, 4, 0), 4), (20, .putfield 136, 3, (11, 4, 0), 4), (23, .return_, 1, (0, 0, 0), 0)])]
def mc_R_isDigit : List (Nat × List (Nat × Ent)) := [(17, [(0, .iload_n 0, 1, (0, 0, 0), 0), (1, .bipush 48, 2, (0, 0, 0), 0), (3, .if_icmp .lt 13, 3, (0, 0, 0), 0), (6, .iload_n 0, 1, (0, 0, 0), 0), (7, .bipush 57, 2, (0, 0, 0), 0), (9, .if_icmp .gt 7, 3, (0, 0, 0), 0), (12, .iconst 1, 1, (0, 0, 0), 0), (13, .goto 4, 3, (0, 0, 0), 0), (16, .iconst 0, 1, (0, 0, 0), 0), (17, .ireturn, 1, (0, 0, 3), 0)])]
def mc_R_put : List (Nat × List (Nat × Ent)) := [(41, [(0, .aload_n 0, 1, (0, 0, 0), 0), (1, .getfield 13, 3, (11, 6, 1), 6), (4, .sipush 520, 3, (0, 0, 0), 0), (7, .aload_n 0, 1, (0, 0, 0), 0), (8, .getfield 139, 3, (11, 14, 0), 14), (11, .imul, 1, (0, 0, 0), 0), (12, .aload_n 0, 1, (0, 0, 0), 0), (13, .getfield 19, 3, (11, 8, 1), 8), (16, .aload_n 0, 1, (0, 0, 0), 0), (17, .getfield 139, 3, (11, 14, 0), 14), (20, .iaload, 1, (0, 0, 0), 0), (21, .iadd, 1, (0, 0, 0), 0), (22, .iload_n 1, 1, (0, 0, 0), 0), (23, .iastore, 1, (0, 0, 0), 0), (24, .aload_n 0, 1, (0, 0, 0), 0), (25, .getfield 16, 3, (11, 7, 1), 7), (28, .sipush 520, 3, (0, 0, 0), 0), (31, .aload_n 0, 1, (0, 0, 0), 0), (32, .getfield 139, 3, (11, 14, 0), 14), (35, .imul, 1, (0, 0, 0), 0), (36, .aload_n 0, 1, (0, 0, 0), 0), (37, .getfield 19, 3, (11, 8, 1), 8), (40, .aload_n 0, 1, (0, 0, 0), 0), (41, .getfield 139, 3, (11, 14, 0), 14)]), (61, [(44, .iaload, 1, (0, 0, 0), 0), (45, .iadd, 1, (0, 0, 0), 0), (46, .iload_n 2, 1, (0, 0, 0), 0), (47, .iastore, 1, (0, 0, 0), 0), (48, .aload_n 0, 1, (0, 0, 0), 0), (49, .getfield 19, 3, (11, 8, 1), 8), (52, .aload_n 0, 1, (0, 0, 0), 0), (53, .getfield 139, 3, (11, 14, 0), 14), (56, .dup2, 1, (0, 0, 0), 0), (57, .iaload, 1, (0, 0, 0), 0), (58, .iconst 1, 1, (0, 0, 0), 0), (59, .iadd, 1, (0, 0, 0), 0), (60, .iastore, 1, (0, 0, 0), 0), (61, .return_, 1, (0, 0, 0), 0)])]
def mc_R_letterOf : List (Nat × List (Nat × Ent)) := [(46, [(0, .iload_n 0, 1, (0, 0, 0), 0), (1, .bipush 118, 2, (0, 0, 0), 0), (3, .if_icmp .ne 7, 3, (0, 0, 0), 0), (6, .iconst 0, 1, (0, 0, 0), 0), (7, .goto 65, 3, (0, 0, 0), 0), (10, .iload_n 0, 1, (0, 0, 0), 0), (11, .bipush 114, 2, (0, 0, 0), 0), (13, .if_icmp .ne 7, 3, (0, 0, 0), 0), (16, .iconst 1, 1, (0, 0, 0), 0), (17, .goto 55, 3, (0, 0, 0), 0), (20, .iload_n 0, 1, (0, 0, 0), 0), (21, .bipush 100, 2, (0, 0, 0), 0), (23, .if_icmp .ne 7, 3, (0, 0, 0), 0), (26, .iconst 2, 1, (0, 0, 0), 0), (27, .goto 45, 3, (0, 0, 0), 0), (30, .iload_n 0, 1, (0, 0, 0), 0), (31, .bipush 103, 2, (0, 0, 0), 0), (33, .if_icmp .ne 7, 3, (0, 0, 0), 0), (36, .iconst 3, 1, (0, 0, 0), 0), (37, .goto 35, 3, (0, 0, 0), 0), (40, .iload_n 0, 1, (0, 0, 0), 0), (41, .bipush 109, 2, (0, 0, 0), 0), (43, .if_icmp .ne 7, 3, (0, 0, 0), 0), (46, .iconst 4, 1, (0, 0, 0), 0)]), (72, [(47, .goto 25, 3, (0, 0, 0), 0), (50, .iload_n 0, 1, (0, 0, 0), 0), (51, .bipush 108, 2, (0, 0, 0), 0), (53, .if_icmp .ne 7, 3, (0, 0, 0), 0), (56, .iconst 5, 1, (0, 0, 0), 0), (57, .goto 15, 3, (0, 0, 0), 0), (60, .iload_n 0, 1, (0, 0, 0), 0), (61, .bipush 104, 2, (0, 0, 0), 0), (63, .if_icmp .ne 8, 3, (0, 0, 0), 0), (66, .bipush 6, 2, (0, 0, 0), 0), (68, .goto 4, 3, (0, 0, 0), 0), (71, .iconst (-1), 1, (0, 0, 0), 0), (72, .ireturn, 1, (0, 0, 1), 0)])]
def mc_R_opens : List (Nat × List (Nat × Ent)) := [(33, [(0, .aload_n 0, 1, (0, 0, 0), 0), (1, .getfield 142, 3, (11, 5, 0), 5), (4, .bipush 6, 2, (0, 0, 0), 0), (6, .if_icmp .ne 7, 3, (0, 0, 0), 0), (9, .aload_n 0, 1, (0, 0, 0), 0), (10, .invokevirtual 145, 3, (188, 1, 0), 0), (13, .aload_n 0, 1, (0, 0, 0), 0), (14, .dup, 1, (0, 0, 0), 0), (15, .getfield 142, 3, (11, 5, 0), 5), (18, .iconst 1, 1, (0, 0, 0), 0), (19, .iadd, 1, (0, 0, 0), 0), (20, .putfield 142, 3, (11, 5, 0), 5), (23, .aload_n 0, 1, (0, 0, 0), 0), (24, .dup, 1, (0, 0, 0), 0), (25, .getfield 129, 3, (11, 3, 0), 3), (28, .iconst 1, 1, (0, 0, 0), 0), (29, .iadd, 1, (0, 0, 0), 0), (30, .putfield 129, 3, (11, 3, 0), 3), (33, .return_, 1, (0, 0, 0), 0)])]
def mc_R_closes : List (Nat × List (Nat × Ent)) := [(40, [(0, .aload_n 0, 1, (0, 0, 0), 0), (1, .getfield 136, 3, (11, 4, 0), 4), (4, .iconst (-1), 1, (0, 0, 0), 0), (5, .if_icmp .ne 15, 3, (0, 0, 0), 0), (8, .aload_n 0, 1, (0, 0, 0), 0), (9, .invokevirtual 148, 3, (187, 1, 0), 0), (12, .iload_n 1, 1, (0, 0, 0), 0), (13, .if_icmp .eq 7, 3, (0, 0, 0), 0), (16, .aload_n 0, 1, (0, 0, 0), 0), (17, .invokevirtual 145, 3, (188, 1, 0), 0), (20, .aload_n 0, 1, (0, 0, 0), 0), (21, .dup, 1, (0, 0, 0), 0), (22, .getfield 129, 3, (11, 3, 0), 3), (25, .iconst 1, 1, (0, 0, 0), 0), (26, .iadd, 1, (0, 0, 0), 0), (27, .putfield 129, 3, (11, 3, 0), 3), (30, .aload_n 0, 1, (0, 0, 0), 0), (31, .dup, 1, (0, 0, 0), 0), (32, .getfield 142, 3, (11, 5, 0), 5), (35, .iconst 1, 1, (0, 0, 0), 0), (36, .isub, 1, (0, 0, 0), 0), (37, .putfield 142, 3, (11, 5, 0), 5), (40, .return_, 1, (0, 0, 0), 0)])]
def mc_R_plainNumber : List (Nat × List (Nat × Ent)) := [(37, [(0, .iconst 0, 1, (0, 0, 0), 0), (1, .istore_n 1, 1, (0, 0, 0), 0), (2, .iconst 0, 1, (0, 0, 0), 0), (3, .istore_n 2, 1, (0, 0, 0), 0), (4, .iload_n 2, 1, (0, 0, 0), 0), (5, .iconst 4, 1, (0, 0, 0), 0), (6, .if_icmp .ge 42, 3, (0, 0, 0), 0), (9, .aload_n 0, 1, (0, 0, 0), 0), (10, .invokevirtual 132, 3, (186, 1, 0), 0), (13, .invokestatic 151, 3, (189, 1, 0), 0), (16, .ifCond .eq 32, 3, (0, 0, 0), 0), (19, .bipush 10, 2, (0, 0, 0), 0), (21, .iload_n 1, 1, (0, 0, 0), 0), (22, .imul, 1, (0, 0, 0), 0), (23, .aload_n 0, 1, (0, 0, 0), 0), (24, .invokevirtual 132, 3, (186, 1, 0), 0), (27, .iadd, 1, (0, 0, 0), 0), (28, .bipush 48, 2, (0, 0, 0), 0), (30, .isub, 1, (0, 0, 0), 0), (31, .istore_n 1, 1, (0, 0, 0), 0), (32, .aload_n 0, 1, (0, 0, 0), 0), (33, .dup, 1, (0, 0, 0), 0), (34, .getfield 129, 3, (11, 3, 0), 3), (37, .iconst 1, 1, (0, 0, 0), 0)]), (63, [(38, .iadd, 1, (0, 0, 0), 0), (39, .putfield 129, 3, (11, 3, 0), 3), (42, .iinc 2 1, 3, (0, 0, 0), 0), (45, .goto (-41), 3, (0, 0, 0), 0), (48, .aload_n 0, 1, (0, 0, 0), 0), (49, .invokevirtual 132, 3, (186, 1, 0), 0), (52, .invokestatic 151, 3, (189, 1, 0), 0), (55, .ifCond .eq 7, 3, (0, 0, 0), 0), (58, .aload_n 0, 1, (0, 0, 0), 0), (59, .invokevirtual 145, 3, (188, 1, 0), 0), (62, .iload_n 1, 1, (0, 0, 0), 0), (63, .ireturn, 1, (0, 0, 1), 0)])]
def mc_R_atom : List (Nat × List (Nat × Ent)) := [(43, [(0, .aload_n 0, 1, (0, 0, 0), 0), (1, .invokevirtual 148, 3, (187, 1, 0), 0), (4, .istore_n 1, 1, (0, 0, 0), 0), (5, .iload_n 1, 1, (0, 0, 0), 0), (6, .invokestatic 151, 3, (189, 1, 0), 0), (9, .ifCond .eq 15, 3, (0, 0, 0), 0), (12, .aload_n 0, 1, (0, 0, 0), 0), (13, .iconst 0, 1, (0, 0, 0), 0), (14, .aload_n 0, 1, (0, 0, 0), 0), (15, .invokevirtual 155, 3, (194, 1, 0), 0), (18, .invokevirtual 158, 3, (190, 3, 0), 0), (21, .goto 68, 3, (0, 0, 0), 0), (24, .iload_n 1, 1, (0, 0, 0), 0), (25, .invokestatic 162, 3, (191, 1, 0), 0), (28, .iconst (-1), 1, (0, 0, 0), 0), (29, .if_icmp .eq 25, 3, (0, 0, 0), 0), (32, .aload_n 0, 1, (0, 0, 0), 0), (33, .dup, 1, (0, 0, 0), 0), (34, .getfield 129, 3, (11, 3, 0), 3), (37, .iconst 1, 1, (0, 0, 0), 0), (38, .iadd, 1, (0, 0, 0), 0), (39, .putfield 129, 3, (11, 3, 0), 3), (42, .aload_n 0, 1, (0, 0, 0), 0), (43, .iconst 1, 1, (0, 0, 0), 0)]), (89, [(44, .iload_n 1, 1, (0, 0, 0), 0), (45, .invokestatic 162, 3, (191, 1, 0), 0), (48, .invokevirtual 158, 3, (190, 3, 0), 0), (51, .goto 38, 3, (0, 0, 0), 0), (54, .iload_n 1, 1, (0, 0, 0), 0), (55, .bipush 91, 2, (0, 0, 0), 0), (57, .if_icmp .ne 28, 3, (0, 0, 0), 0), (60, .aload_n 0, 1, (0, 0, 0), 0), (61, .invokevirtual 166, 3, (192, 1, 0), 0), (64, .aload_n 0, 1, (0, 0, 0), 0), (65, .getfield 136, 3, (11, 4, 0), 4), (68, .iconst (-1), 1, (0, 0, 0), 0), (69, .if_icmp .ne 20, 3, (0, 0, 0), 0), (72, .aload_n 0, 1, (0, 0, 0), 0), (73, .invokevirtual 169, 3, (197, 1, 0), 0), (76, .aload_n 0, 1, (0, 0, 0), 0), (77, .bipush 93, 2, (0, 0, 0), 0), (79, .invokevirtual 172, 3, (193, 2, 0), 0), (82, .goto 7, 3, (0, 0, 0), 0), (85, .aload_n 0, 1, (0, 0, 0), 0), (86, .invokevirtual 145, 3, (188, 1, 0), 0), (89, .return_, 1, (0, 0, 0), 0)])]
def mc_R_term : List (Nat × List (Nat × Ent)) := [(43, [(0, .aload_n 0, 1, (0, 0, 0), 0), (1, .invokevirtual 176, 3, (195, 1, 0), 0), (4, .aload_n 0, 1, (0, 0, 0), 0), (5, .getfield 136, 3, (11, 4, 0), 4), (8, .iconst (-1), 1, (0, 0, 0), 0), (9, .if_icmp .ne 10, 3, (0, 0, 0), 0), (12, .aload_n 0, 1, (0, 0, 0), 0), (13, .invokevirtual 148, 3, (187, 1, 0), 0), (16, .goto 4, 3, (0, 0, 0), 0), (19, .iconst (-1), 1, (0, 0, 0), 0), (20, .istore_n 1, 1, (0, 0, 0), 0), (21, .iload_n 1, 1, (0, 0, 0), 0), (22, .bipush 42, 2, (0, 0, 0), 0), (24, .if_icmp .eq 9, 3, (0, 0, 0), 0), (27, .iload_n 1, 1, (0, 0, 0), 0), (28, .bipush 47, 2, (0, 0, 0), 0), (30, .if_icmp .ne 53, 3, (0, 0, 0), 0), (33, .aload_n 0, 1, (0, 0, 0), 0), (34, .dup, 1, (0, 0, 0), 0), (35, .getfield 129, 3, (11, 3, 0), 3), (38, .iconst 1, 1, (0, 0, 0), 0), (39, .iadd, 1, (0, 0, 0), 0), (40, .putfield 129, 3, (11, 3, 0), 3), (43, .aload_n 0, 1, (0, 0, 0), 0)]), (83, [(44, .invokevirtual 176, 3, (195, 1, 0), 0), (47, .aload_n 0, 1, (0, 0, 0), 0), (48, .iload_n 1, 1, (0, 0, 0), 0), (49, .bipush 42, 2, (0, 0, 0), 0), (51, .if_icmp .ne 7, 3, (0, 0, 0), 0), (54, .iconst 4, 1, (0, 0, 0), 0), (55, .goto 4, 3, (0, 0, 0), 0), (58, .iconst 5, 1, (0, 0, 0), 0), (59, .iconst 0, 1, (0, 0, 0), 0), (60, .invokevirtual 158, 3, (190, 3, 0), 0), (63, .aload_n 0, 1, (0, 0, 0), 0), (64, .getfield 136, 3, (11, 4, 0), 4), (67, .iconst (-1), 1, (0, 0, 0), 0), (68, .if_icmp .ne 10, 3, (0, 0, 0), 0), (71, .aload_n 0, 1, (0, 0, 0), 0), (72, .invokevirtual 148, 3, (187, 1, 0), 0), (75, .goto 4, 3, (0, 0, 0), 0), (78, .iconst (-1), 1, (0, 0, 0), 0), (79, .istore_n 1, 1, (0, 0, 0), 0), (80, .goto (-59), 3, (0, 0, 0), 0), (83, .return_, 1, (0, 0, 0), 0)])]
def mc_R_sum : List (Nat × List (Nat × Ent)) := [(43, [(0, .aload_n 0, 1, (0, 0, 0), 0), (1, .invokevirtual 179, 3, (196, 1, 0), 0), (4, .aload_n 0, 1, (0, 0, 0), 0), (5, .getfield 136, 3, (11, 4, 0), 4), (8, .iconst (-1), 1, (0, 0, 0), 0), (9, .if_icmp .ne 10, 3, (0, 0, 0), 0), (12, .aload_n 0, 1, (0, 0, 0), 0), (13, .invokevirtual 148, 3, (187, 1, 0), 0), (16, .goto 4, 3, (0, 0, 0), 0), (19, .iconst (-1), 1, (0, 0, 0), 0), (20, .istore_n 1, 1, (0, 0, 0), 0), (21, .iload_n 1, 1, (0, 0, 0), 0), (22, .bipush 43, 2, (0, 0, 0), 0), (24, .if_icmp .eq 9, 3, (0, 0, 0), 0), (27, .iload_n 1, 1, (0, 0, 0), 0), (28, .bipush 45, 2, (0, 0, 0), 0), (30, .if_icmp .ne 53, 3, (0, 0, 0), 0), (33, .aload_n 0, 1, (0, 0, 0), 0), (34, .dup, 1, (0, 0, 0), 0), (35, .getfield 129, 3, (11, 3, 0), 3), (38, .iconst 1, 1, (0, 0, 0), 0), (39, .iadd, 1, (0, 0, 0), 0), (40, .putfield 129, 3, (11, 3, 0), 3), (43, .aload_n 0, 1, (0, 0, 0), 0)]), (83, [(44, .invokevirtual 179, 3, (196, 1, 0), 0), (47, .aload_n 0, 1, (0, 0, 0), 0), (48, .iload_n 1, 1, (0, 0, 0), 0), (49, .bipush 43, 2, (0, 0, 0), 0), (51, .if_icmp .ne 7, 3, (0, 0, 0), 0), (54, .iconst 2, 1, (0, 0, 0), 0), (55, .goto 4, 3, (0, 0, 0), 0), (58, .iconst 3, 1, (0, 0, 0), 0), (59, .iconst 0, 1, (0, 0, 0), 0), (60, .invokevirtual 158, 3, (190, 3, 0), 0), (63, .aload_n 0, 1, (0, 0, 0), 0), (64, .getfield 136, 3, (11, 4, 0), 4), (67, .iconst (-1), 1, (0, 0, 0), 0), (68, .if_icmp .ne 10, 3, (0, 0, 0), 0), (71, .aload_n 0, 1, (0, 0, 0), 0), (72, .invokevirtual 148, 3, (187, 1, 0), 0), (75, .goto 4, 3, (0, 0, 0), 0), (78, .iconst (-1), 1, (0, 0, 0), 0), (79, .istore_n 1, 1, (0, 0, 0), 0), (80, .goto (-59), 3, (0, 0, 0), 0), (83, .return_, 1, (0, 0, 0), 0)])]
def mc_R_isSign : List (Nat × List (Nat × Ent)) := [(23, [(0, .iload_n 0, 1, (0, 0, 0), 0), (1, .bipush 61, 2, (0, 0, 0), 0), (3, .if_icmp .eq 15, 3, (0, 0, 0), 0), (6, .iload_n 0, 1, (0, 0, 0), 0), (7, .bipush 60, 2, (0, 0, 0), 0), (9, .if_icmp .eq 9, 3, (0, 0, 0), 0), (12, .iload_n 0, 1, (0, 0, 0), 0), (13, .bipush 62, 2, (0, 0, 0), 0), (15, .if_icmp .ne 7, 3, (0, 0, 0), 0), (18, .iconst 1, 1, (0, 0, 0), 0), (19, .goto 4, 3, (0, 0, 0), 0), (22, .iconst 0, 1, (0, 0, 0), 0), (23, .ireturn, 1, (0, 0, 3), 0)])]
def mc_R_compare : List (Nat × List (Nat × Ent)) := [(43, [(0, .aload_n 0, 1, (0, 0, 0), 0), (1, .getfield 136, 3, (11, 4, 0), 4), (4, .iconst (-1), 1, (0, 0, 0), 0), (5, .if_icmp .ne 10, 3, (0, 0, 0), 0), (8, .aload_n 0, 1, (0, 0, 0), 0), (9, .invokevirtual 148, 3, (187, 1, 0), 0), (12, .goto 4, 3, (0, 0, 0), 0), (15, .iconst (-1), 1, (0, 0, 0), 0), (16, .istore_n 1, 1, (0, 0, 0), 0), (17, .iload_n 1, 1, (0, 0, 0), 0), (18, .invokestatic 182, 3, (198, 1, 0), 0), (21, .ifCond .ne 8, 3, (0, 0, 0), 0), (24, .aload_n 0, 1, (0, 0, 0), 0), (25, .invokevirtual 145, 3, (188, 1, 0), 0), (28, .return_, 1, (0, 0, 0), 0), (29, .aload_n 0, 1, (0, 0, 0), 0), (30, .dup, 1, (0, 0, 0), 0), (31, .getfield 129, 3, (11, 3, 0), 3), (34, .iconst 1, 1, (0, 0, 0), 0), (35, .iadd, 1, (0, 0, 0), 0), (36, .putfield 129, 3, (11, 3, 0), 3), (39, .aload_n 0, 1, (0, 0, 0), 0), (40, .invokevirtual 169, 3, (197, 1, 0), 0), (43, .aload_n 0, 1, (0, 0, 0), 0)]), (72, [(44, .iload_n 1, 1, (0, 0, 0), 0), (45, .bipush 61, 2, (0, 0, 0), 0), (47, .if_icmp .ne 8, 3, (0, 0, 0), 0), (50, .bipush 6, 2, (0, 0, 0), 0), (52, .goto 16, 3, (0, 0, 0), 0), (55, .iload_n 1, 1, (0, 0, 0), 0), (56, .bipush 60, 2, (0, 0, 0), 0), (58, .if_icmp .ne 8, 3, (0, 0, 0), 0), (61, .bipush 7, 2, (0, 0, 0), 0), (63, .goto 5, 3, (0, 0, 0), 0), (66, .bipush 8, 2, (0, 0, 0), 0), (68, .iconst 0, 1, (0, 0, 0), 0), (69, .invokevirtual 158, 3, (190, 3, 0), 0), (72, .return_, 1, (0, 0, 0), 0)])]
def mc_R_unit : List (Nat × List (Nat × Ent)) := [(41, [(0, .aload_n 0, 1, (0, 0, 0), 0), (1, .invokevirtual 148, 3, (187, 1, 0), 0), (4, .istore_n 1, 1, (0, 0, 0), 0), (5, .iload_n 1, 1, (0, 0, 0), 0), (6, .bipush 33, 2, (0, 0, 0), 0), (8, .if_icmp .ne 39, 3, (0, 0, 0), 0), (11, .aload_n 0, 1, (0, 0, 0), 0), (12, .invokevirtual 166, 3, (192, 1, 0), 0), (15, .aload_n 0, 1, (0, 0, 0), 0), (16, .getfield 136, 3, (11, 4, 0), 4), (19, .iconst (-1), 1, (0, 0, 0), 0), (20, .if_icmp .ne 74, 3, (0, 0, 0), 0), (23, .aload_n 0, 1, (0, 0, 0), 0), (24, .invokevirtual 185, 3, (200, 1, 0), 0), (27, .aload_n 0, 1, (0, 0, 0), 0), (28, .bipush 9, 2, (0, 0, 0), 0), (30, .iconst 0, 1, (0, 0, 0), 0), (31, .invokevirtual 158, 3, (190, 3, 0), 0), (34, .aload_n 0, 1, (0, 0, 0), 0), (35, .dup, 1, (0, 0, 0), 0), (36, .getfield 142, 3, (11, 5, 0), 5), (39, .iconst 1, 1, (0, 0, 0), 0), (40, .isub, 1, (0, 0, 0), 0), (41, .putfield 142, 3, (11, 5, 0), 5)]), (91, [(44, .goto 50, 3, (0, 0, 0), 0), (47, .iload_n 1, 1, (0, 0, 0), 0), (48, .bipush 40, 2, (0, 0, 0), 0), (50, .if_icmp .ne 28, 3, (0, 0, 0), 0), (53, .aload_n 0, 1, (0, 0, 0), 0), (54, .invokevirtual 166, 3, (192, 1, 0), 0), (57, .aload_n 0, 1, (0, 0, 0), 0), (58, .getfield 136, 3, (11, 4, 0), 4), (61, .iconst (-1), 1, (0, 0, 0), 0), (62, .if_icmp .ne 32, 3, (0, 0, 0), 0), (65, .aload_n 0, 1, (0, 0, 0), 0), (66, .invokevirtual 188, 3, (203, 1, 0), 0), (69, .aload_n 0, 1, (0, 0, 0), 0), (70, .bipush 41, 2, (0, 0, 0), 0), (72, .invokevirtual 172, 3, (193, 2, 0), 0), (75, .goto 19, 3, (0, 0, 0), 0), (78, .aload_n 0, 1, (0, 0, 0), 0), (79, .invokevirtual 169, 3, (197, 1, 0), 0), (82, .aload_n 0, 1, (0, 0, 0), 0), (83, .getfield 136, 3, (11, 4, 0), 4), (86, .iconst (-1), 1, (0, 0, 0), 0), (87, .if_icmp .ne 7, 3, (0, 0, 0), 0), (90, .aload_n 0, 1, (0, 0, 0), 0), (91, .invokevirtual 191, 3, (199, 1, 0), 0)]), (94, [(94, .return_, 1, (0, 0, 0), 0)])]
def mc_R_goOnAnd : List (Nat × List (Nat × Ent)) := [(41, [(0, .aload_n 0, 1, (0, 0, 0), 0), (1, .getfield 136, 3, (11, 4, 0), 4), (4, .iconst (-1), 1, (0, 0, 0), 0), (5, .if_icmp .ne 36, 3, (0, 0, 0), 0), (8, .aload_n 0, 1, (0, 0, 0), 0), (9, .invokevirtual 148, 3, (187, 1, 0), 0), (12, .bipush 38, 2, (0, 0, 0), 0), (14, .if_icmp .ne 27, 3, (0, 0, 0), 0), (17, .aload_n 0, 1, (0, 0, 0), 0), (18, .dup, 1, (0, 0, 0), 0), (19, .getfield 129, 3, (11, 3, 0), 3), (22, .iconst 1, 1, (0, 0, 0), 0), (23, .iadd, 1, (0, 0, 0), 0), (24, .putfield 129, 3, (11, 3, 0), 3), (27, .aload_n 0, 1, (0, 0, 0), 0), (28, .invokevirtual 185, 3, (200, 1, 0), 0), (31, .aload_n 0, 1, (0, 0, 0), 0), (32, .bipush 10, 2, (0, 0, 0), 0), (34, .iconst 0, 1, (0, 0, 0), 0), (35, .invokevirtual 158, 3, (190, 3, 0), 0), (38, .goto (-38), 3, (0, 0, 0), 0), (41, .return_, 1, (0, 0, 0), 0)])]
def mc_R_goOnOr : List (Nat × List (Nat × Ent)) := [(45, [(0, .aload_n 0, 1, (0, 0, 0), 0), (1, .getfield 136, 3, (11, 4, 0), 4), (4, .iconst (-1), 1, (0, 0, 0), 0), (5, .if_icmp .ne 40, 3, (0, 0, 0), 0), (8, .aload_n 0, 1, (0, 0, 0), 0), (9, .invokevirtual 148, 3, (187, 1, 0), 0), (12, .bipush 124, 2, (0, 0, 0), 0), (14, .if_icmp .ne 31, 3, (0, 0, 0), 0), (17, .aload_n 0, 1, (0, 0, 0), 0), (18, .dup, 1, (0, 0, 0), 0), (19, .getfield 129, 3, (11, 3, 0), 3), (22, .iconst 1, 1, (0, 0, 0), 0), (23, .iadd, 1, (0, 0, 0), 0), (24, .putfield 129, 3, (11, 3, 0), 3), (27, .aload_n 0, 1, (0, 0, 0), 0), (28, .invokevirtual 185, 3, (200, 1, 0), 0), (31, .aload_n 0, 1, (0, 0, 0), 0), (32, .invokevirtual 194, 3, (201, 1, 0), 0), (35, .aload_n 0, 1, (0, 0, 0), 0), (36, .bipush 11, 2, (0, 0, 0), 0), (38, .iconst 0, 1, (0, 0, 0), 0), (39, .invokevirtual 158, 3, (190, 3, 0), 0), (42, .goto (-42), 3, (0, 0, 0), 0), (45, .return_, 1, (0, 0, 0), 0)])]
def mc_R_condition : List (Nat × List (Nat × Ent)) := [(12, [(0, .aload_n 0, 1, (0, 0, 0), 0), (1, .invokevirtual 185, 3, (200, 1, 0), 0), (4, .aload_n 0, 1, (0, 0, 0), 0), (5, .invokevirtual 194, 3, (201, 1, 0), 0), (8, .aload_n 0, 1, (0, 0, 0), 0), (9, .invokevirtual 197, 3, (202, 1, 0), 0), (12, .return_, 1, (0, 0, 0), 0)])]
def mc_R_clause : List (Nat × List (Nat × Ent)) := [(42, [(0, .sipush 140, 3, (0, 0, 0), 0), (3, .aload_n 0, 1, (0, 0, 0), 0), (4, .getfield 139, 3, (11, 14, 0), 14), (7, .imul, 1, (0, 0, 0), 0), (8, .aload_n 0, 1, (0, 0, 0), 0), (9, .getfield 22, 3, (11, 9, 1), 9), (12, .aload_n 0, 1, (0, 0, 0), 0), (13, .getfield 139, 3, (11, 14, 0), 14), (16, .iaload, 1, (0, 0, 0), 0), (17, .iadd, 1, (0, 0, 0), 0), (18, .istore_n 1, 1, (0, 0, 0), 0), (19, .aload_n 0, 1, (0, 0, 0), 0), (20, .getfield 136, 3, (11, 4, 0), 4), (23, .iconst (-1), 1, (0, 0, 0), 0), (24, .if_icmp .ne 16, 3, (0, 0, 0), 0), (27, .aload_n 0, 1, (0, 0, 0), 0), (28, .invokevirtual 148, 3, (187, 1, 0), 0), (31, .bipush 121, 2, (0, 0, 0), 0), (33, .if_icmp .eq 7, 3, (0, 0, 0), 0), (36, .aload_n 0, 1, (0, 0, 0), 0), (37, .invokevirtual 145, 3, (188, 1, 0), 0), (40, .aload_n 0, 1, (0, 0, 0), 0), (41, .dup, 1, (0, 0, 0), 0), (42, .getfield 129, 3, (11, 3, 0), 3)]), (89, [(45, .iconst 1, 1, (0, 0, 0), 0), (46, .iadd, 1, (0, 0, 0), 0), (47, .putfield 129, 3, (11, 3, 0), 3), (50, .aload_n 0, 1, (0, 0, 0), 0), (51, .getfield 136, 3, (11, 4, 0), 4), (54, .iconst (-1), 1, (0, 0, 0), 0), (55, .if_icmp .ne 16, 3, (0, 0, 0), 0), (58, .aload_n 0, 1, (0, 0, 0), 0), (59, .invokevirtual 148, 3, (187, 1, 0), 0), (62, .bipush 58, 2, (0, 0, 0), 0), (64, .if_icmp .eq 7, 3, (0, 0, 0), 0), (67, .aload_n 0, 1, (0, 0, 0), 0), (68, .invokevirtual 145, 3, (188, 1, 0), 0), (71, .aload_n 0, 1, (0, 0, 0), 0), (72, .dup, 1, (0, 0, 0), 0), (73, .getfield 129, 3, (11, 3, 0), 3), (76, .iconst 1, 1, (0, 0, 0), 0), (77, .iadd, 1, (0, 0, 0), 0), (78, .putfield 129, 3, (11, 3, 0), 3), (81, .aload_n 0, 1, (0, 0, 0), 0), (82, .getfield 136, 3, (11, 4, 0), 4), (85, .iconst (-1), 1, (0, 0, 0), 0), (86, .if_icmp .eq 4, 3, (0, 0, 0), 0), (89, .return_, 1, (0, 0, 0), 0)]), (133, [(90, .aload_n 0, 1, (0, 0, 0), 0), (91, .getfield 25, 3, (11, 10, 1), 10), (94, .iload_n 1, 1, (0, 0, 0), 0), (95, .aload_n 0, 1, (0, 0, 0), 0), (96, .getfield 19, 3, (11, 8, 1), 8), (99, .aload_n 0, 1, (0, 0, 0), 0), (100, .getfield 139, 3, (11, 14, 0), 14), (103, .iaload, 1, (0, 0, 0), 0), (104, .iastore, 1, (0, 0, 0), 0), (105, .aload_n 0, 1, (0, 0, 0), 0), (106, .invokevirtual 148, 3, (187, 1, 0), 0), (109, .bipush 33, 2, (0, 0, 0), 0), (111, .if_icmp .eq 12, 3, (0, 0, 0), 0), (114, .aload_n 0, 1, (0, 0, 0), 0), (115, .invokevirtual 148, 3, (187, 1, 0), 0), (118, .bipush 40, 2, (0, 0, 0), 0), (120, .if_icmp .ne 7, 3, (0, 0, 0), 0), (123, .iconst 1, 1, (0, 0, 0), 0), (124, .goto 4, 3, (0, 0, 0), 0), (127, .iconst 0, 1, (0, 0, 0), 0), (128, .istore_n 2, 1, (0, 0, 0), 0), (129, .iload_n 2, 1, (0, 0, 0), 0), (130, .ifCond .eq 10, 3, (0, 0, 0), 0), (133, .aload_n 0, 1, (0, 0, 0), 0)]), (181, [(134, .invokevirtual 188, 3, (203, 1, 0), 0), (137, .goto 47, 3, (0, 0, 0), 0), (140, .aload_n 0, 1, (0, 0, 0), 0), (141, .invokevirtual 169, 3, (197, 1, 0), 0), (144, .aload_n 0, 1, (0, 0, 0), 0), (145, .getfield 136, 3, (11, 4, 0), 4), (148, .iconst (-1), 1, (0, 0, 0), 0), (149, .if_icmp .ne 17, 3, (0, 0, 0), 0), (152, .aload_n 0, 1, (0, 0, 0), 0), (153, .invokevirtual 148, 3, (187, 1, 0), 0), (156, .invokestatic 182, 3, (198, 1, 0), 0), (159, .ifCond .eq 7, 3, (0, 0, 0), 0), (162, .iconst 1, 1, (0, 0, 0), 0), (163, .goto 4, 3, (0, 0, 0), 0), (166, .iconst 0, 1, (0, 0, 0), 0), (167, .istore_n 2, 1, (0, 0, 0), 0), (168, .iload_n 2, 1, (0, 0, 0), 0), (169, .ifCond .eq 15, 3, (0, 0, 0), 0), (172, .aload_n 0, 1, (0, 0, 0), 0), (173, .invokevirtual 191, 3, (199, 1, 0), 0), (176, .aload_n 0, 1, (0, 0, 0), 0), (177, .invokevirtual 194, 3, (201, 1, 0), 0), (180, .aload_n 0, 1, (0, 0, 0), 0), (181, .invokevirtual 197, 3, (202, 1, 0), 0)]), (224, [(184, .aload_n 0, 1, (0, 0, 0), 0), (185, .getfield 28, 3, (11, 11, 1), 11), (188, .iload_n 1, 1, (0, 0, 0), 0), (189, .aload_n 0, 1, (0, 0, 0), 0), (190, .getfield 25, 3, (11, 10, 1), 10), (193, .iload_n 1, 1, (0, 0, 0), 0), (194, .iaload, 1, (0, 0, 0), 0), (195, .iastore, 1, (0, 0, 0), 0), (196, .iload_n 2, 1, (0, 0, 0), 0), (197, .ifCond .eq 54, 3, (0, 0, 0), 0), (200, .aload_n 0, 1, (0, 0, 0), 0), (201, .getfield 136, 3, (11, 4, 0), 4), (204, .iconst (-1), 1, (0, 0, 0), 0), (205, .if_icmp .ne 46, 3, (0, 0, 0), 0), (208, .aload_n 0, 1, (0, 0, 0), 0), (209, .invokevirtual 148, 3, (187, 1, 0), 0), (212, .bipush 63, 2, (0, 0, 0), 0), (214, .if_icmp .eq 8, 3, (0, 0, 0), 0), (217, .aload_n 0, 1, (0, 0, 0), 0), (218, .invokevirtual 145, 3, (188, 1, 0), 0), (221, .return_, 1, (0, 0, 0), 0), (222, .aload_n 0, 1, (0, 0, 0), 0), (223, .dup, 1, (0, 0, 0), 0), (224, .getfield 129, 3, (11, 3, 0), 3)]), (266, [(227, .iconst 1, 1, (0, 0, 0), 0), (228, .iadd, 1, (0, 0, 0), 0), (229, .putfield 129, 3, (11, 3, 0), 3), (232, .aload_n 0, 1, (0, 0, 0), 0), (233, .getfield 28, 3, (11, 11, 1), 11), (236, .iload_n 1, 1, (0, 0, 0), 0), (237, .aload_n 0, 1, (0, 0, 0), 0), (238, .getfield 19, 3, (11, 8, 1), 8), (241, .aload_n 0, 1, (0, 0, 0), 0), (242, .getfield 139, 3, (11, 14, 0), 14), (245, .iaload, 1, (0, 0, 0), 0), (246, .iastore, 1, (0, 0, 0), 0), (247, .aload_n 0, 1, (0, 0, 0), 0), (248, .invokevirtual 169, 3, (197, 1, 0), 0), (251, .aload_n 0, 1, (0, 0, 0), 0), (252, .getfield 31, 3, (11, 12, 1), 12), (255, .iload_n 1, 1, (0, 0, 0), 0), (256, .aload_n 0, 1, (0, 0, 0), 0), (257, .getfield 19, 3, (11, 8, 1), 8), (260, .aload_n 0, 1, (0, 0, 0), 0), (261, .getfield 139, 3, (11, 14, 0), 14), (264, .iaload, 1, (0, 0, 0), 0), (265, .iastore, 1, (0, 0, 0), 0), (266, .aload_n 0, 1, (0, 0, 0), 0)]), (279, [(267, .getfield 22, 3, (11, 9, 1), 9), (270, .aload_n 0, 1, (0, 0, 0), 0), (271, .getfield 139, 3, (11, 14, 0), 14), (274, .dup2, 1, (0, 0, 0), 0), (275, .iaload, 1, (0, 0, 0), 0), (276, .iconst 1, 1, (0, 0, 0), 0), (277, .iadd, 1, (0, 0, 0), 0), (278, .iastore, 1, (0, 0, 0), 0), (279, .return_, 1, (0, 0, 0), 0)])]
def mc_R_open : List (Nat × List (Nat × Ent)) := [(34, [(0, .aload_n 0, 1, (0, 0, 0), 0), (1, .iload_n 1, 1, (0, 0, 0), 0), (2, .putfield 139, 3, (11, 14, 0), 14), (5, .aload_n 0, 1, (0, 0, 0), 0), (6, .iconst 0, 1, (0, 0, 0), 0), (7, .putfield 129, 3, (11, 3, 0), 3), (10, .aload_n 0, 1, (0, 0, 0), 0), (11, .iconst (-1), 1, (0, 0, 0), 0), (12, .putfield 136, 3, (11, 4, 0), 4), (15, .aload_n 0, 1, (0, 0, 0), 0), (16, .iconst 0, 1, (0, 0, 0), 0), (17, .putfield 142, 3, (11, 5, 0), 5), (20, .aload_n 0, 1, (0, 0, 0), 0), (21, .getfield 19, 3, (11, 8, 1), 8), (24, .iload_n 1, 1, (0, 0, 0), 0), (25, .iconst 0, 1, (0, 0, 0), 0), (26, .iastore, 1, (0, 0, 0), 0), (27, .aload_n 0, 1, (0, 0, 0), 0), (28, .getfield 22, 3, (11, 9, 1), 9), (31, .iload_n 1, 1, (0, 0, 0), 0), (32, .iconst 0, 1, (0, 0, 0), 0), (33, .iastore, 1, (0, 0, 0), 0), (34, .return_, 1, (0, 0, 0), 0)])]
def mc_R_atEnd : List (Nat × List (Nat × Ent)) := [(24, [(0, .aload_n 0, 1, (0, 0, 0), 0), (1, .getfield 136, 3, (11, 4, 0), 4), (4, .iconst (-1), 1, (0, 0, 0), 0), (5, .if_icmp .ne 15, 3, (0, 0, 0), 0), (8, .aload_n 0, 1, (0, 0, 0), 0), (9, .invokevirtual 148, 3, (187, 1, 0), 0), (12, .iconst (-1), 1, (0, 0, 0), 0), (13, .if_icmp .eq 7, 3, (0, 0, 0), 0), (16, .aload_n 0, 1, (0, 0, 0), 0), (17, .invokevirtual 145, 3, (188, 1, 0), 0), (20, .aload_n 0, 1, (0, 0, 0), 0), (21, .getfield 136, 3, (11, 4, 0), 4), (24, .ireturn, 1, (0, 0, 1), 0)])]
def mc_R_readLaw : List (Nat × List (Nat × Ent)) := [(44, [(0, .aload_n 0, 1, (0, 0, 0), 0), (1, .iload_n 1, 1, (0, 0, 0), 0), (2, .invokevirtual 200, 3, (205, 2, 0), 0), (5, .aload_n 0, 1, (0, 0, 0), 0), (6, .invokevirtual 203, 3, (204, 1, 0), 0), (9, .aload_n 0, 1, (0, 0, 0), 0), (10, .getfield 136, 3, (11, 4, 0), 4), (13, .iconst (-1), 1, (0, 0, 0), 0), (14, .if_icmp .ne 29, 3, (0, 0, 0), 0), (17, .aload_n 0, 1, (0, 0, 0), 0), (18, .invokevirtual 148, 3, (187, 1, 0), 0), (21, .bipush 59, 2, (0, 0, 0), 0), (23, .if_icmp .ne 20, 3, (0, 0, 0), 0), (26, .aload_n 0, 1, (0, 0, 0), 0), (27, .dup, 1, (0, 0, 0), 0), (28, .getfield 129, 3, (11, 3, 0), 3), (31, .iconst 1, 1, (0, 0, 0), 0), (32, .iadd, 1, (0, 0, 0), 0), (33, .putfield 129, 3, (11, 3, 0), 3), (36, .aload_n 0, 1, (0, 0, 0), 0), (37, .invokevirtual 203, 3, (204, 1, 0), 0), (40, .goto (-31), 3, (0, 0, 0), 0), (43, .aload_n 0, 1, (0, 0, 0), 0), (44, .invokevirtual 206, 3, (206, 1, 0), 0)]), (47, [(47, .ireturn, 1, (0, 0, 1), 0)])]
def mc_R_bounded : List (Nat × List (Nat × Ent)) := [(14, [(0, .ldc2_w 209, 3, (0, 0, 0), -1000000), (3, .ldc2_w 211, 3, (0, 0, 0), 1000000), (6, .lload_n 0, 1, (0, 0, 0), 0), (7, .invokestatic 213, 3, (317, 2, 0), 0), (10, .invokestatic 219, 3, (315, 2, 0), 0), (13, .l2i, 1, (0, 0, 0), 0), (14, .ireturn, 1, (0, 0, 1), 0)])]
def mc_R_worked : List (Nat × List (Nat × Ent)) := [(83, [(0, .iload_n 0, 1, (0, 0, 0), 0), (1, .tableswitch 143 2 10 #[51, 58, 65, 72, 89, 101, 113, 143, 125], 51, (0, 0, 0), 0), (52, .lload_n 1, 1, (0, 0, 0), 0), (53, .lload_n 3, 1, (0, 0, 0), 0), (54, .ladd, 1, (0, 0, 0), 0), (55, .invokestatic 222, 3, (208, 1, 0), 0), (58, .ireturn, 1, (0, 0, 1), 0), (59, .lload_n 1, 1, (0, 0, 0), 0), (60, .lload_n 3, 1, (0, 0, 0), 0), (61, .lsub, 1, (0, 0, 0), 0), (62, .invokestatic 222, 3, (208, 1, 0), 0), (65, .ireturn, 1, (0, 0, 1), 0), (66, .lload_n 1, 1, (0, 0, 0), 0), (67, .lload_n 3, 1, (0, 0, 0), 0), (68, .lmul, 1, (0, 0, 0), 0), (69, .invokestatic 222, 3, (208, 1, 0), 0), (72, .ireturn, 1, (0, 0, 1), 0), (73, .lload_n 3, 1, (0, 0, 0), 0), (74, .lconst 0, 1, (0, 0, 0), 0), (75, .lcmp, 1, (0, 0, 0), 0), (76, .ifCond .ne 7, 3, (0, 0, 0), 0), (79, .iconst 0, 1, (0, 0, 0), 0), (80, .goto 9, 3, (0, 0, 0), 0), (83, .lload_n 1, 1, (0, 0, 0), 0)]), (117, [(84, .lload_n 3, 1, (0, 0, 0), 0), (85, .ldiv, 1, (0, 0, 0), 0), (86, .invokestatic 222, 3, (208, 1, 0), 0), (89, .ireturn, 1, (0, 0, 1), 0), (90, .lload_n 1, 1, (0, 0, 0), 0), (91, .lload_n 3, 1, (0, 0, 0), 0), (92, .lcmp, 1, (0, 0, 0), 0), (93, .ifCond .ne 7, 3, (0, 0, 0), 0), (96, .iconst 1, 1, (0, 0, 0), 0), (97, .goto 4, 3, (0, 0, 0), 0), (100, .iconst 0, 1, (0, 0, 0), 0), (101, .ireturn, 1, (0, 0, 1), 0), (102, .lload_n 1, 1, (0, 0, 0), 0), (103, .lload_n 3, 1, (0, 0, 0), 0), (104, .lcmp, 1, (0, 0, 0), 0), (105, .ifCond .ge 7, 3, (0, 0, 0), 0), (108, .iconst 1, 1, (0, 0, 0), 0), (109, .goto 4, 3, (0, 0, 0), 0), (112, .iconst 0, 1, (0, 0, 0), 0), (113, .ireturn, 1, (0, 0, 1), 0), (114, .lload_n 1, 1, (0, 0, 0), 0), (115, .lload_n 3, 1, (0, 0, 0), 0), (116, .lcmp, 1, (0, 0, 0), 0), (117, .ifCond .le 7, 3, (0, 0, 0), 0)]), (153, [(120, .iconst 1, 1, (0, 0, 0), 0), (121, .goto 4, 3, (0, 0, 0), 0), (124, .iconst 0, 1, (0, 0, 0), 0), (125, .ireturn, 1, (0, 0, 1), 0), (126, .lload_n 1, 1, (0, 0, 0), 0), (127, .lconst 0, 1, (0, 0, 0), 0), (128, .lcmp, 1, (0, 0, 0), 0), (129, .ifCond .eq 13, 3, (0, 0, 0), 0), (132, .lload_n 3, 1, (0, 0, 0), 0), (133, .lconst 0, 1, (0, 0, 0), 0), (134, .lcmp, 1, (0, 0, 0), 0), (135, .ifCond .eq 7, 3, (0, 0, 0), 0), (138, .iconst 1, 1, (0, 0, 0), 0), (139, .goto 4, 3, (0, 0, 0), 0), (142, .iconst 0, 1, (0, 0, 0), 0), (143, .ireturn, 1, (0, 0, 1), 0), (144, .lload_n 1, 1, (0, 0, 0), 0), (145, .lconst 0, 1, (0, 0, 0), 0), (146, .lcmp, 1, (0, 0, 0), 0), (147, .ifCond .ne 9, 3, (0, 0, 0), 0), (150, .lload_n 3, 1, (0, 0, 0), 0), (151, .lconst 0, 1, (0, 0, 0), 0), (152, .lcmp, 1, (0, 0, 0), 0), (153, .ifCond .eq 7, 3, (0, 0, 0), 0)]), (161, [(156, .iconst 1, 1, (0, 0, 0), 0), (157, .goto 4, 3, (0, 0, 0), 0), (160, .iconst 0, 1, (0, 0, 0), 0), (161, .ireturn, 1, (0, 0, 1), 0)])]
def mc_R_workOut : List (Nat × List (Nat × Ent)) := [(40, [(0, .iconst 0, 1, (0, 0, 0), 0), (1, .istore 4, 2, (0, 0, 0), 0), (3, .sipush 520, 3, (0, 0, 0), 0), (6, .iload_n 1, 1, (0, 0, 0), 0), (7, .imul, 1, (0, 0, 0), 0), (8, .iload_n 2, 1, (0, 0, 0), 0), (9, .iadd, 1, (0, 0, 0), 0), (10, .istore 5, 2, (0, 0, 0), 0), (12, .iload 5, 2, (0, 0, 0), 0), (14, .sipush 520, 3, (0, 0, 0), 0), (17, .iload_n 1, 1, (0, 0, 0), 0), (18, .imul, 1, (0, 0, 0), 0), (19, .iload_n 3, 1, (0, 0, 0), 0), (20, .iadd, 1, (0, 0, 0), 0), (21, .if_icmp .ge 150, 3, (0, 0, 0), 0), (24, .aload_n 0, 1, (0, 0, 0), 0), (25, .getfield 13, 3, (11, 6, 1), 6), (28, .iload 5, 2, (0, 0, 0), 0), (30, .iaload, 1, (0, 0, 0), 0), (31, .ifCond .eq 14, 3, (0, 0, 0), 0), (34, .aload_n 0, 1, (0, 0, 0), 0), (35, .getfield 13, 3, (11, 6, 1), 6), (38, .iload 5, 2, (0, 0, 0), 0), (40, .iaload, 1, (0, 0, 0), 0)]), (84, [(41, .iconst 1, 1, (0, 0, 0), 0), (42, .if_icmp .ne 48, 3, (0, 0, 0), 0), (45, .aload_n 0, 1, (0, 0, 0), 0), (46, .getfield 37, 3, (11, 16, 1), 16), (49, .iload 4, 2, (0, 0, 0), 0), (51, .aload_n 0, 1, (0, 0, 0), 0), (52, .getfield 13, 3, (11, 6, 1), 6), (55, .iload 5, 2, (0, 0, 0), 0), (57, .iaload, 1, (0, 0, 0), 0), (58, .ifCond .ne 13, 3, (0, 0, 0), 0), (61, .aload_n 0, 1, (0, 0, 0), 0), (62, .getfield 16, 3, (11, 7, 1), 7), (65, .iload 5, 2, (0, 0, 0), 0), (67, .iaload, 1, (0, 0, 0), 0), (68, .goto 15, 3, (0, 0, 0), 0), (71, .aload_n 0, 1, (0, 0, 0), 0), (72, .getfield 34, 3, (11, 15, 1), 15), (75, .aload_n 0, 1, (0, 0, 0), 0), (76, .getfield 16, 3, (11, 7, 1), 7), (79, .iload 5, 2, (0, 0, 0), 0), (81, .iaload, 1, (0, 0, 0), 0), (82, .iaload, 1, (0, 0, 0), 0), (83, .iastore, 1, (0, 0, 0), 0), (84, .iinc 4 1, 3, (0, 0, 0), 0)]), (128, [(87, .goto 78, 3, (0, 0, 0), 0), (90, .aload_n 0, 1, (0, 0, 0), 0), (91, .getfield 13, 3, (11, 6, 1), 6), (94, .iload 5, 2, (0, 0, 0), 0), (96, .iaload, 1, (0, 0, 0), 0), (97, .bipush 9, 2, (0, 0, 0), 0), (99, .if_icmp .ne 26, 3, (0, 0, 0), 0), (102, .aload_n 0, 1, (0, 0, 0), 0), (103, .getfield 37, 3, (11, 16, 1), 16), (106, .iload 4, 2, (0, 0, 0), 0), (108, .iconst 1, 1, (0, 0, 0), 0), (109, .isub, 1, (0, 0, 0), 0), (110, .iconst 1, 1, (0, 0, 0), 0), (111, .aload_n 0, 1, (0, 0, 0), 0), (112, .getfield 37, 3, (11, 16, 1), 16), (115, .iload 4, 2, (0, 0, 0), 0), (117, .iconst 1, 1, (0, 0, 0), 0), (118, .isub, 1, (0, 0, 0), 0), (119, .iaload, 1, (0, 0, 0), 0), (120, .isub, 1, (0, 0, 0), 0), (121, .iastore, 1, (0, 0, 0), 0), (122, .goto 43, 3, (0, 0, 0), 0), (125, .iinc 4 (-1), 3, (0, 0, 0), 0), (128, .aload_n 0, 1, (0, 0, 0), 0)]), (168, [(129, .getfield 37, 3, (11, 16, 1), 16), (132, .iload 4, 2, (0, 0, 0), 0), (134, .iconst 1, 1, (0, 0, 0), 0), (135, .isub, 1, (0, 0, 0), 0), (136, .aload_n 0, 1, (0, 0, 0), 0), (137, .getfield 13, 3, (11, 6, 1), 6), (140, .iload 5, 2, (0, 0, 0), 0), (142, .iaload, 1, (0, 0, 0), 0), (143, .aload_n 0, 1, (0, 0, 0), 0), (144, .getfield 37, 3, (11, 16, 1), 16), (147, .iload 4, 2, (0, 0, 0), 0), (149, .iconst 1, 1, (0, 0, 0), 0), (150, .isub, 1, (0, 0, 0), 0), (151, .iaload, 1, (0, 0, 0), 0), (152, .i2l, 1, (0, 0, 0), 0), (153, .aload_n 0, 1, (0, 0, 0), 0), (154, .getfield 37, 3, (11, 16, 1), 16), (157, .iload 4, 2, (0, 0, 0), 0), (159, .iaload, 1, (0, 0, 0), 0), (160, .i2l, 1, (0, 0, 0), 0), (161, .invokestatic 226, 3, (209, 3, 0), 0), (164, .iastore, 1, (0, 0, 0), 0), (165, .iinc 5 1, 3, (0, 0, 0), 0), (168, .goto (-156), 3, (0, 0, 0), 0)]), (177, [(171, .aload_n 0, 1, (0, 0, 0), 0), (172, .getfield 37, 3, (11, 16, 1), 16), (175, .iconst 0, 1, (0, 0, 0), 0), (176, .iaload, 1, (0, 0, 0), 0), (177, .ireturn, 1, (0, 0, 1), 0)])]
def mc_R_worthOf : List (Nat × List (Nat × Ent)) := [(37, [(0, .sipush 140, 3, (0, 0, 0), 0), (3, .iload_n 1, 1, (0, 0, 0), 0), (4, .imul, 1, (0, 0, 0), 0), (5, .istore_n 2, 1, (0, 0, 0), 0), (6, .iload_n 2, 1, (0, 0, 0), 0), (7, .sipush 140, 3, (0, 0, 0), 0), (10, .iload_n 1, 1, (0, 0, 0), 0), (11, .imul, 1, (0, 0, 0), 0), (12, .aload_n 0, 1, (0, 0, 0), 0), (13, .getfield 22, 3, (11, 9, 1), 9), (16, .iload_n 1, 1, (0, 0, 0), 0), (17, .iaload, 1, (0, 0, 0), 0), (18, .iadd, 1, (0, 0, 0), 0), (19, .if_icmp .ge 62, 3, (0, 0, 0), 0), (22, .aload_n 0, 1, (0, 0, 0), 0), (23, .getfield 25, 3, (11, 10, 1), 10), (26, .iload_n 2, 1, (0, 0, 0), 0), (27, .iaload, 1, (0, 0, 0), 0), (28, .aload_n 0, 1, (0, 0, 0), 0), (29, .getfield 28, 3, (11, 11, 1), 11), (32, .iload_n 2, 1, (0, 0, 0), 0), (33, .iaload, 1, (0, 0, 0), 0), (34, .if_icmp .eq 23, 3, (0, 0, 0), 0), (37, .aload_n 0, 1, (0, 0, 0), 0)]), (75, [(38, .iload_n 1, 1, (0, 0, 0), 0), (39, .aload_n 0, 1, (0, 0, 0), 0), (40, .getfield 25, 3, (11, 10, 1), 10), (43, .iload_n 2, 1, (0, 0, 0), 0), (44, .iaload, 1, (0, 0, 0), 0), (45, .aload_n 0, 1, (0, 0, 0), 0), (46, .getfield 28, 3, (11, 11, 1), 11), (49, .iload_n 2, 1, (0, 0, 0), 0), (50, .iaload, 1, (0, 0, 0), 0), (51, .invokevirtual 230, 3, (210, 4, 0), 0), (54, .ifCond .eq 21, 3, (0, 0, 0), 0), (57, .aload_n 0, 1, (0, 0, 0), 0), (58, .iload_n 1, 1, (0, 0, 0), 0), (59, .aload_n 0, 1, (0, 0, 0), 0), (60, .getfield 28, 3, (11, 11, 1), 11), (63, .iload_n 2, 1, (0, 0, 0), 0), (64, .iaload, 1, (0, 0, 0), 0), (65, .aload_n 0, 1, (0, 0, 0), 0), (66, .getfield 31, 3, (11, 12, 1), 12), (69, .iload_n 2, 1, (0, 0, 0), 0), (70, .iaload, 1, (0, 0, 0), 0), (71, .invokevirtual 230, 3, (210, 4, 0), 0), (74, .ireturn, 1, (0, 0, 1), 0), (75, .iinc 2 1, 3, (0, 0, 0), 0)]), (82, [(78, .goto (-72), 3, (0, 0, 0), 0), (81, .iconst 0, 1, (0, 0, 0), 0), (82, .ireturn, 1, (0, 0, 1), 0)])]
def mc_R_number : List (Nat × List (Nat × Ent)) := [(44, [(0, .aload_n 0, 1, (0, 0, 0), 0), (1, .invokevirtual 148, 3, (187, 1, 0), 0), (4, .invokestatic 151, 3, (189, 1, 0), 0), (7, .ifCond .ne 9, 3, (0, 0, 0), 0), (10, .aload_n 0, 1, (0, 0, 0), 0), (11, .invokevirtual 145, 3, (188, 1, 0), 0), (14, .iload_n 1, 1, (0, 0, 0), 0), (15, .ireturn, 1, (0, 0, 1), 0), (16, .aload_n 0, 1, (0, 0, 0), 0), (17, .invokevirtual 132, 3, (186, 1, 0), 0), (20, .bipush 48, 2, (0, 0, 0), 0), (22, .isub, 1, (0, 0, 0), 0), (23, .istore_n 3, 1, (0, 0, 0), 0), (24, .aload_n 0, 1, (0, 0, 0), 0), (25, .dup, 1, (0, 0, 0), 0), (26, .getfield 129, 3, (11, 3, 0), 3), (29, .iconst 1, 1, (0, 0, 0), 0), (30, .iadd, 1, (0, 0, 0), 0), (31, .putfield 129, 3, (11, 3, 0), 3), (34, .aload_n 0, 1, (0, 0, 0), 0), (35, .invokevirtual 132, 3, (186, 1, 0), 0), (38, .invokestatic 151, 3, (189, 1, 0), 0), (41, .ifCond .eq 26, 3, (0, 0, 0), 0), (44, .bipush 10, 2, (0, 0, 0), 0)]), (86, [(46, .iload_n 3, 1, (0, 0, 0), 0), (47, .imul, 1, (0, 0, 0), 0), (48, .aload_n 0, 1, (0, 0, 0), 0), (49, .invokevirtual 132, 3, (186, 1, 0), 0), (52, .iadd, 1, (0, 0, 0), 0), (53, .bipush 48, 2, (0, 0, 0), 0), (55, .isub, 1, (0, 0, 0), 0), (56, .istore_n 3, 1, (0, 0, 0), 0), (57, .aload_n 0, 1, (0, 0, 0), 0), (58, .dup, 1, (0, 0, 0), 0), (59, .getfield 129, 3, (11, 3, 0), 3), (62, .iconst 1, 1, (0, 0, 0), 0), (63, .iadd, 1, (0, 0, 0), 0), (64, .putfield 129, 3, (11, 3, 0), 3), (67, .aload_n 0, 1, (0, 0, 0), 0), (68, .invokevirtual 132, 3, (186, 1, 0), 0), (71, .invokestatic 151, 3, (189, 1, 0), 0), (74, .ifCond .eq 10, 3, (0, 0, 0), 0), (77, .aload_n 0, 1, (0, 0, 0), 0), (78, .invokevirtual 145, 3, (188, 1, 0), 0), (81, .goto 26, 3, (0, 0, 0), 0), (84, .iload_n 3, 1, (0, 0, 0), 0), (85, .iload_n 1, 1, (0, 0, 0), 0), (86, .iload_n 2, 1, (0, 0, 0), 0)]), (108, [(87, .invokestatic 234, 3, (179, 3, 0), 0), (90, .ifCond .ne 17, 3, (0, 0, 0), 0), (93, .aload_n 0, 1, (0, 0, 0), 0), (94, .dup, 1, (0, 0, 0), 0), (95, .getfield 129, 3, (11, 3, 0), 3), (98, .iconst 1, 1, (0, 0, 0), 0), (99, .isub, 1, (0, 0, 0), 0), (100, .putfield 129, 3, (11, 3, 0), 3), (103, .aload_n 0, 1, (0, 0, 0), 0), (104, .invokevirtual 145, 3, (188, 1, 0), 0), (107, .iload_n 3, 1, (0, 0, 0), 0), (108, .ireturn, 1, (0, 0, 1), 0)])]
def mc_R_itemOf : List (Nat × List (Nat × Ent)) := [(44, [(0, .iload_n 0, 1, (0, 0, 0), 0), (1, .bipush 120, 2, (0, 0, 0), 0), (3, .if_icmp .ne 25, 3, (0, 0, 0), 0), (6, .iload_n 1, 1, (0, 0, 0), 0), (7, .bipush 118, 2, (0, 0, 0), 0), (9, .if_icmp .ne 7, 3, (0, 0, 0), 0), (12, .iconst 0, 1, (0, 0, 0), 0), (13, .goto 14, 3, (0, 0, 0), 0), (16, .iload_n 1, 1, (0, 0, 0), 0), (17, .bipush 114, 2, (0, 0, 0), 0), (19, .if_icmp .ne 7, 3, (0, 0, 0), 0), (22, .iconst 1, 1, (0, 0, 0), 0), (23, .goto 4, 3, (0, 0, 0), 0), (26, .iconst (-1), 1, (0, 0, 0), 0), (27, .ireturn, 1, (0, 0, 1), 0), (28, .iload_n 0, 1, (0, 0, 0), 0), (29, .bipush 112, 2, (0, 0, 0), 0), (31, .if_icmp .ne 35, 3, (0, 0, 0), 0), (34, .iload_n 1, 1, (0, 0, 0), 0), (35, .bipush 109, 2, (0, 0, 0), 0), (37, .if_icmp .ne 7, 3, (0, 0, 0), 0), (40, .iconst 0, 1, (0, 0, 0), 0), (41, .goto 24, 3, (0, 0, 0), 0), (44, .iload_n 1, 1, (0, 0, 0), 0)]), (89, [(45, .bipush 103, 2, (0, 0, 0), 0), (47, .if_icmp .ne 7, 3, (0, 0, 0), 0), (50, .iconst 1, 1, (0, 0, 0), 0), (51, .goto 14, 3, (0, 0, 0), 0), (54, .iload_n 1, 1, (0, 0, 0), 0), (55, .bipush 108, 2, (0, 0, 0), 0), (57, .if_icmp .ne 7, 3, (0, 0, 0), 0), (60, .iconst 2, 1, (0, 0, 0), 0), (61, .goto 4, 3, (0, 0, 0), 0), (64, .iconst (-1), 1, (0, 0, 0), 0), (65, .ireturn, 1, (0, 0, 1), 0), (66, .iload_n 1, 1, (0, 0, 0), 0), (67, .bipush 97, 2, (0, 0, 0), 0), (69, .if_icmp .ne 7, 3, (0, 0, 0), 0), (72, .iconst 0, 1, (0, 0, 0), 0), (73, .goto 30, 3, (0, 0, 0), 0), (76, .iload_n 1, 1, (0, 0, 0), 0), (77, .bipush 98, 2, (0, 0, 0), 0), (79, .if_icmp .ne 7, 3, (0, 0, 0), 0), (82, .iconst 1, 1, (0, 0, 0), 0), (83, .goto 20, 3, (0, 0, 0), 0), (86, .iload_n 0, 1, (0, 0, 0), 0), (87, .bipush 115, 2, (0, 0, 0), 0), (89, .if_icmp .ne 13, 3, (0, 0, 0), 0)]), (103, [(92, .iload_n 1, 1, (0, 0, 0), 0), (93, .bipush 112, 2, (0, 0, 0), 0), (95, .if_icmp .ne 7, 3, (0, 0, 0), 0), (98, .iconst 2, 1, (0, 0, 0), 0), (99, .goto 4, 3, (0, 0, 0), 0), (102, .iconst (-1), 1, (0, 0, 0), 0), (103, .ireturn, 1, (0, 0, 1), 0)])]
def mc_R_highest : List (Nat × List (Nat × Ent)) := [(44, [(0, .iload_n 0, 1, (0, 0, 0), 0), (1, .bipush 120, 2, (0, 0, 0), 0), (3, .if_icmp .ne 15, 3, (0, 0, 0), 0), (6, .iload_n 1, 1, (0, 0, 0), 0), (7, .ifCond .ne 8, 3, (0, 0, 0), 0), (10, .bipush 99, 2, (0, 0, 0), 0), (12, .goto 5, 3, (0, 0, 0), 0), (15, .bipush 9, 2, (0, 0, 0), 0), (17, .ireturn, 1, (0, 0, 1), 0), (18, .iload_n 0, 1, (0, 0, 0), 0), (19, .bipush 112, 2, (0, 0, 0), 0), (21, .if_icmp .ne 16, 3, (0, 0, 0), 0), (24, .iload_n 1, 1, (0, 0, 0), 0), (25, .iconst 2, 1, (0, 0, 0), 0), (26, .if_icmp .ne 8, 3, (0, 0, 0), 0), (29, .bipush 8, 2, (0, 0, 0), 0), (31, .goto 5, 3, (0, 0, 0), 0), (34, .bipush 99, 2, (0, 0, 0), 0), (36, .ireturn, 1, (0, 0, 1), 0), (37, .iload_n 1, 1, (0, 0, 0), 0), (38, .iconst 2, 1, (0, 0, 0), 0), (39, .if_icmp .ne 8, 3, (0, 0, 0), 0), (42, .bipush 9, 2, (0, 0, 0), 0), (44, .goto 5, 3, (0, 0, 0), 0)]), (49, [(47, .bipush 7, 2, (0, 0, 0), 0), (49, .ireturn, 1, (0, 0, 1), 0)])]
def mc_R_usual : List (Nat × List (Nat × Ent)) := [(42, [(0, .iload_n 0, 1, (0, 0, 0), 0), (1, .bipush 120, 2, (0, 0, 0), 0), (3, .if_icmp .ne 14, 3, (0, 0, 0), 0), (6, .iload_n 1, 1, (0, 0, 0), 0), (7, .ifCond .ne 8, 3, (0, 0, 0), 0), (10, .bipush 10, 2, (0, 0, 0), 0), (12, .goto 4, 3, (0, 0, 0), 0), (15, .iconst 0, 1, (0, 0, 0), 0), (16, .ireturn, 1, (0, 0, 1), 0), (17, .iload_n 0, 1, (0, 0, 0), 0), (18, .bipush 112, 2, (0, 0, 0), 0), (20, .if_icmp .ne 16, 3, (0, 0, 0), 0), (23, .iload_n 1, 1, (0, 0, 0), 0), (24, .iconst 2, 1, (0, 0, 0), 0), (25, .if_icmp .ne 8, 3, (0, 0, 0), 0), (28, .bipush 8, 2, (0, 0, 0), 0), (30, .goto 5, 3, (0, 0, 0), 0), (33, .bipush 20, 2, (0, 0, 0), 0), (35, .ireturn, 1, (0, 0, 1), 0), (36, .iload_n 1, 1, (0, 0, 0), 0), (37, .iconst 2, 1, (0, 0, 0), 0), (38, .if_icmp .ne 7, 3, (0, 0, 0), 0), (41, .iconst 5, 1, (0, 0, 0), 0), (42, .goto 4, 3, (0, 0, 0), 0)]), (46, [(45, .iload_n 1, 1, (0, 0, 0), 0), (46, .ireturn, 1, (0, 0, 1), 0)])]
def mc_R_items : List (Nat × List (Nat × Ent)) := [(42, [(0, .iconst 0, 1, (0, 0, 0), 0), (1, .istore 5, 2, (0, 0, 0), 0), (3, .iload 5, 2, (0, 0, 0), 0), (5, .iload 4, 2, (0, 0, 0), 0), (7, .if_icmp .ge 21, 3, (0, 0, 0), 0), (10, .aload_n 2, 1, (0, 0, 0), 0), (11, .iload_n 3, 1, (0, 0, 0), 0), (12, .iload 5, 2, (0, 0, 0), 0), (14, .iadd, 1, (0, 0, 0), 0), (15, .iload_n 1, 1, (0, 0, 0), 0), (16, .iload 5, 2, (0, 0, 0), 0), (18, .invokestatic 238, 3, (215, 2, 0), 0), (21, .iastore, 1, (0, 0, 0), 0), (22, .iinc 5 1, 3, (0, 0, 0), 0), (25, .goto (-22), 3, (0, 0, 0), 0), (28, .iconst 0, 1, (0, 0, 0), 0), (29, .istore 5, 2, (0, 0, 0), 0), (31, .iload_n 1, 1, (0, 0, 0), 0), (32, .aload_n 0, 1, (0, 0, 0), 0), (33, .invokevirtual 148, 3, (187, 1, 0), 0), (36, .invokestatic 242, 3, (213, 2, 0), 0), (39, .istore 6, 2, (0, 0, 0), 0), (41, .aload_n 0, 1, (0, 0, 0), 0), (42, .getfield 136, 3, (11, 4, 0), 4)]), (86, [(45, .iconst (-1), 1, (0, 0, 0), 0), (46, .if_icmp .ne 96, 3, (0, 0, 0), 0), (49, .iload 6, 2, (0, 0, 0), 0), (51, .iconst (-1), 1, (0, 0, 0), 0), (52, .if_icmp .eq 90, 3, (0, 0, 0), 0), (55, .iload 5, 2, (0, 0, 0), 0), (57, .iload 6, 2, (0, 0, 0), 0), (59, .invokestatic 245, 3, (180, 2, 0), 0), (62, .ifCond .ne 80, 3, (0, 0, 0), 0), (65, .iload 5, 2, (0, 0, 0), 0), (67, .iconst 1, 1, (0, 0, 0), 0), (68, .iload 6, 2, (0, 0, 0), 0), (70, .ishl, 1, (0, 0, 0), 0), (71, .ior, 1, (0, 0, 0), 0), (72, .istore 5, 2, (0, 0, 0), 0), (74, .aload_n 0, 1, (0, 0, 0), 0), (75, .dup, 1, (0, 0, 0), 0), (76, .getfield 129, 3, (11, 3, 0), 3), (79, .iconst 1, 1, (0, 0, 0), 0), (80, .iadd, 1, (0, 0, 0), 0), (81, .putfield 129, 3, (11, 3, 0), 3), (84, .aload_n 2, 1, (0, 0, 0), 0), (85, .iload_n 3, 1, (0, 0, 0), 0), (86, .iload 6, 2, (0, 0, 0), 0)]), (130, [(88, .iadd, 1, (0, 0, 0), 0), (89, .aload_n 0, 1, (0, 0, 0), 0), (90, .iload_n 1, 1, (0, 0, 0), 0), (91, .bipush 115, 2, (0, 0, 0), 0), (93, .if_icmp .ne 13, 3, (0, 0, 0), 0), (96, .iload 6, 2, (0, 0, 0), 0), (98, .iconst 2, 1, (0, 0, 0), 0), (99, .if_icmp .ne 7, 3, (0, 0, 0), 0), (102, .iconst 1, 1, (0, 0, 0), 0), (103, .goto 4, 3, (0, 0, 0), 0), (106, .iconst 0, 1, (0, 0, 0), 0), (107, .iload_n 1, 1, (0, 0, 0), 0), (108, .iload 6, 2, (0, 0, 0), 0), (110, .invokestatic 249, 3, (214, 2, 0), 0), (113, .invokevirtual 252, 3, (212, 3, 0), 0), (116, .iastore, 1, (0, 0, 0), 0), (117, .aload_n 0, 1, (0, 0, 0), 0), (118, .getfield 136, 3, (11, 4, 0), 4), (121, .iconst (-1), 1, (0, 0, 0), 0), (122, .if_icmp .ne 14, 3, (0, 0, 0), 0), (125, .iload_n 1, 1, (0, 0, 0), 0), (126, .aload_n 0, 1, (0, 0, 0), 0), (127, .invokevirtual 148, 3, (187, 1, 0), 0), (130, .invokestatic 242, 3, (213, 2, 0), 0)]), (142, [(133, .goto 4, 3, (0, 0, 0), 0), (136, .iconst (-1), 1, (0, 0, 0), 0), (137, .istore 6, 2, (0, 0, 0), 0), (139, .goto (-98), 3, (0, 0, 0), 0), (142, .return_, 1, (0, 0, 0), 0)])]
def mc_R_clauseText : List (Nat × List (Nat × Ent)) := [(41, [(0, .aload_n 0, 1, (0, 0, 0), 0), (1, .invokevirtual 148, 3, (187, 1, 0), 0), (4, .istore_n 1, 1, (0, 0, 0), 0), (5, .iload_n 1, 1, (0, 0, 0), 0), (6, .bipush 120, 2, (0, 0, 0), 0), (8, .if_icmp .ne 51, 3, (0, 0, 0), 0), (11, .aload_n 0, 1, (0, 0, 0), 0), (12, .getfield 255, 3, (11, 21, 0), 21), (15, .bipush 8, 2, (0, 0, 0), 0), (17, .if_icmp .ge 42, 3, (0, 0, 0), 0), (20, .aload_n 0, 1, (0, 0, 0), 0), (21, .dup, 1, (0, 0, 0), 0), (22, .getfield 129, 3, (11, 3, 0), 3), (25, .iconst 1, 1, (0, 0, 0), 0), (26, .iadd, 1, (0, 0, 0), 0), (27, .putfield 129, 3, (11, 3, 0), 3), (30, .aload_n 0, 1, (0, 0, 0), 0), (31, .iload_n 1, 1, (0, 0, 0), 0), (32, .aload_n 0, 1, (0, 0, 0), 0), (33, .getfield 40, 3, (11, 17, 1), 17), (36, .iconst 2, 1, (0, 0, 0), 0), (37, .aload_n 0, 1, (0, 0, 0), 0), (38, .getfield 255, 3, (11, 21, 0), 21), (41, .imul, 1, (0, 0, 0), 0)]), (85, [(42, .iconst 2, 1, (0, 0, 0), 0), (43, .invokevirtual 258, 3, (216, 5, 0), 0), (46, .aload_n 0, 1, (0, 0, 0), 0), (47, .dup, 1, (0, 0, 0), 0), (48, .getfield 255, 3, (11, 21, 0), 21), (51, .iconst 1, 1, (0, 0, 0), 0), (52, .iadd, 1, (0, 0, 0), 0), (53, .putfield 255, 3, (11, 21, 0), 21), (56, .goto 169, 3, (0, 0, 0), 0), (59, .iload_n 1, 1, (0, 0, 0), 0), (60, .bipush 112, 2, (0, 0, 0), 0), (62, .if_icmp .ne 51, 3, (0, 0, 0), 0), (65, .aload_n 0, 1, (0, 0, 0), 0), (66, .getfield 262, 3, (11, 22, 0), 22), (69, .bipush 6, 2, (0, 0, 0), 0), (71, .if_icmp .ge 42, 3, (0, 0, 0), 0), (74, .aload_n 0, 1, (0, 0, 0), 0), (75, .dup, 1, (0, 0, 0), 0), (76, .getfield 129, 3, (11, 3, 0), 3), (79, .iconst 1, 1, (0, 0, 0), 0), (80, .iadd, 1, (0, 0, 0), 0), (81, .putfield 129, 3, (11, 3, 0), 3), (84, .aload_n 0, 1, (0, 0, 0), 0), (85, .iload_n 1, 1, (0, 0, 0), 0)]), (129, [(86, .aload_n 0, 1, (0, 0, 0), 0), (87, .getfield 43, 3, (11, 18, 1), 18), (90, .iconst 3, 1, (0, 0, 0), 0), (91, .aload_n 0, 1, (0, 0, 0), 0), (92, .getfield 262, 3, (11, 22, 0), 22), (95, .imul, 1, (0, 0, 0), 0), (96, .iconst 3, 1, (0, 0, 0), 0), (97, .invokevirtual 258, 3, (216, 5, 0), 0), (100, .aload_n 0, 1, (0, 0, 0), 0), (101, .dup, 1, (0, 0, 0), 0), (102, .getfield 262, 3, (11, 22, 0), 22), (105, .iconst 1, 1, (0, 0, 0), 0), (106, .iadd, 1, (0, 0, 0), 0), (107, .putfield 262, 3, (11, 22, 0), 22), (110, .goto 115, 3, (0, 0, 0), 0), (113, .iload_n 1, 1, (0, 0, 0), 0), (114, .bipush 115, 2, (0, 0, 0), 0), (116, .if_icmp .ne 51, 3, (0, 0, 0), 0), (119, .aload_n 0, 1, (0, 0, 0), 0), (120, .getfield 265, 3, (11, 23, 0), 23), (123, .bipush 10, 2, (0, 0, 0), 0), (125, .if_icmp .ge 42, 3, (0, 0, 0), 0), (128, .aload_n 0, 1, (0, 0, 0), 0), (129, .dup, 1, (0, 0, 0), 0)]), (170, [(130, .getfield 129, 3, (11, 3, 0), 3), (133, .iconst 1, 1, (0, 0, 0), 0), (134, .iadd, 1, (0, 0, 0), 0), (135, .putfield 129, 3, (11, 3, 0), 3), (138, .aload_n 0, 1, (0, 0, 0), 0), (139, .iload_n 1, 1, (0, 0, 0), 0), (140, .aload_n 0, 1, (0, 0, 0), 0), (141, .getfield 46, 3, (11, 19, 1), 19), (144, .iconst 3, 1, (0, 0, 0), 0), (145, .aload_n 0, 1, (0, 0, 0), 0), (146, .getfield 265, 3, (11, 23, 0), 23), (149, .imul, 1, (0, 0, 0), 0), (150, .iconst 3, 1, (0, 0, 0), 0), (151, .invokevirtual 258, 3, (216, 5, 0), 0), (154, .aload_n 0, 1, (0, 0, 0), 0), (155, .dup, 1, (0, 0, 0), 0), (156, .getfield 265, 3, (11, 23, 0), 23), (159, .iconst 1, 1, (0, 0, 0), 0), (160, .iadd, 1, (0, 0, 0), 0), (161, .putfield 265, 3, (11, 23, 0), 23), (164, .goto 61, 3, (0, 0, 0), 0), (167, .iload_n 1, 1, (0, 0, 0), 0), (168, .bipush 99, 2, (0, 0, 0), 0), (170, .if_icmp .ne 51, 3, (0, 0, 0), 0)]), (213, [(173, .aload_n 0, 1, (0, 0, 0), 0), (174, .getfield 268, 3, (11, 24, 0), 24), (177, .bipush 6, 2, (0, 0, 0), 0), (179, .if_icmp .ge 42, 3, (0, 0, 0), 0), (182, .aload_n 0, 1, (0, 0, 0), 0), (183, .dup, 1, (0, 0, 0), 0), (184, .getfield 129, 3, (11, 3, 0), 3), (187, .iconst 1, 1, (0, 0, 0), 0), (188, .iadd, 1, (0, 0, 0), 0), (189, .putfield 129, 3, (11, 3, 0), 3), (192, .aload_n 0, 1, (0, 0, 0), 0), (193, .iload_n 1, 1, (0, 0, 0), 0), (194, .aload_n 0, 1, (0, 0, 0), 0), (195, .getfield 49, 3, (11, 20, 1), 20), (198, .iconst 2, 1, (0, 0, 0), 0), (199, .aload_n 0, 1, (0, 0, 0), 0), (200, .getfield 268, 3, (11, 24, 0), 24), (203, .imul, 1, (0, 0, 0), 0), (204, .iconst 2, 1, (0, 0, 0), 0), (205, .invokevirtual 258, 3, (216, 5, 0), 0), (208, .aload_n 0, 1, (0, 0, 0), 0), (209, .dup, 1, (0, 0, 0), 0), (210, .getfield 268, 3, (11, 24, 0), 24), (213, .iconst 1, 1, (0, 0, 0), 0)]), (225, [(214, .iadd, 1, (0, 0, 0), 0), (215, .putfield 268, 3, (11, 24, 0), 24), (218, .goto 7, 3, (0, 0, 0), 0), (221, .aload_n 0, 1, (0, 0, 0), 0), (222, .invokevirtual 145, 3, (188, 1, 0), 0), (225, .return_, 1, (0, 0, 0), 0)])]
def mc_R_areUnlike : List (Nat × List (Nat × Ent)) := [(26, [(0, .iload_n 1, 1, (0, 0, 0), 0), (1, .iload_n 2, 1, (0, 0, 0), 0), (2, .if_icmp .eq 23, 3, (0, 0, 0), 0), (5, .iload_n 1, 1, (0, 0, 0), 0), (6, .aload_n 0, 1, (0, 0, 0), 0), (7, .getfield 255, 3, (11, 21, 0), 21), (10, .if_icmp .ge 15, 3, (0, 0, 0), 0), (13, .iload_n 2, 1, (0, 0, 0), 0), (14, .aload_n 0, 1, (0, 0, 0), 0), (15, .getfield 255, 3, (11, 21, 0), 21), (18, .if_icmp .ge 7, 3, (0, 0, 0), 0), (21, .iconst 1, 1, (0, 0, 0), 0), (22, .goto 4, 3, (0, 0, 0), 0), (25, .iconst 0, 1, (0, 0, 0), 0), (26, .ireturn, 1, (0, 0, 3), 0)])]
def mc_R_isWhole : List (Nat × List (Nat × Ent)) := [(41, [(0, .aload_n 0, 1, (0, 0, 0), 0), (1, .getfield 255, 3, (11, 21, 0), 21), (4, .iconst 1, 1, (0, 0, 0), 0), (5, .if_icmp .le 14, 3, (0, 0, 0), 0), (8, .aload_n 0, 1, (0, 0, 0), 0), (9, .getfield 262, 3, (11, 22, 0), 22), (12, .ifCond .le 7, 3, (0, 0, 0), 0), (15, .iconst 1, 1, (0, 0, 0), 0), (16, .goto 4, 3, (0, 0, 0), 0), (19, .iconst 0, 1, (0, 0, 0), 0), (20, .istore_n 1, 1, (0, 0, 0), 0), (21, .iconst 0, 1, (0, 0, 0), 0), (22, .istore_n 2, 1, (0, 0, 0), 0), (23, .iload_n 2, 1, (0, 0, 0), 0), (24, .aload_n 0, 1, (0, 0, 0), 0), (25, .getfield 265, 3, (11, 23, 0), 23), (28, .if_icmp .ge 44, 3, (0, 0, 0), 0), (31, .iload_n 1, 1, (0, 0, 0), 0), (32, .ifCond .eq 32, 3, (0, 0, 0), 0), (35, .aload_n 0, 1, (0, 0, 0), 0), (36, .aload_n 0, 1, (0, 0, 0), 0), (37, .getfield 46, 3, (11, 19, 1), 19), (40, .iconst 3, 1, (0, 0, 0), 0), (41, .iload_n 2, 1, (0, 0, 0), 0)]), (79, [(42, .imul, 1, (0, 0, 0), 0), (43, .iaload, 1, (0, 0, 0), 0), (44, .aload_n 0, 1, (0, 0, 0), 0), (45, .getfield 46, 3, (11, 19, 1), 19), (48, .iconst 3, 1, (0, 0, 0), 0), (49, .iload_n 2, 1, (0, 0, 0), 0), (50, .imul, 1, (0, 0, 0), 0), (51, .iconst 1, 1, (0, 0, 0), 0), (52, .iadd, 1, (0, 0, 0), 0), (53, .iaload, 1, (0, 0, 0), 0), (54, .invokevirtual 271, 3, (218, 3, 0), 0), (57, .ifCond .eq 7, 3, (0, 0, 0), 0), (60, .iconst 1, 1, (0, 0, 0), 0), (61, .goto 4, 3, (0, 0, 0), 0), (64, .iconst 0, 1, (0, 0, 0), 0), (65, .istore_n 1, 1, (0, 0, 0), 0), (66, .iinc 2 1, 3, (0, 0, 0), 0), (69, .goto (-46), 3, (0, 0, 0), 0), (72, .iconst 0, 1, (0, 0, 0), 0), (73, .istore_n 2, 1, (0, 0, 0), 0), (74, .iload_n 2, 1, (0, 0, 0), 0), (75, .aload_n 0, 1, (0, 0, 0), 0), (76, .getfield 268, 3, (11, 24, 0), 24), (79, .if_icmp .ge 44, 3, (0, 0, 0), 0)]), (117, [(82, .iload_n 1, 1, (0, 0, 0), 0), (83, .ifCond .eq 32, 3, (0, 0, 0), 0), (86, .aload_n 0, 1, (0, 0, 0), 0), (87, .aload_n 0, 1, (0, 0, 0), 0), (88, .getfield 49, 3, (11, 20, 1), 20), (91, .iconst 2, 1, (0, 0, 0), 0), (92, .iload_n 2, 1, (0, 0, 0), 0), (93, .imul, 1, (0, 0, 0), 0), (94, .iaload, 1, (0, 0, 0), 0), (95, .aload_n 0, 1, (0, 0, 0), 0), (96, .getfield 49, 3, (11, 20, 1), 20), (99, .iconst 2, 1, (0, 0, 0), 0), (100, .iload_n 2, 1, (0, 0, 0), 0), (101, .imul, 1, (0, 0, 0), 0), (102, .iconst 1, 1, (0, 0, 0), 0), (103, .iadd, 1, (0, 0, 0), 0), (104, .iaload, 1, (0, 0, 0), 0), (105, .invokevirtual 271, 3, (218, 3, 0), 0), (108, .ifCond .eq 7, 3, (0, 0, 0), 0), (111, .iconst 1, 1, (0, 0, 0), 0), (112, .goto 4, 3, (0, 0, 0), 0), (115, .iconst 0, 1, (0, 0, 0), 0), (116, .istore_n 1, 1, (0, 0, 0), 0), (117, .iinc 2 1, 3, (0, 0, 0), 0)]), (156, [(120, .goto (-46), 3, (0, 0, 0), 0), (123, .iconst 0, 1, (0, 0, 0), 0), (124, .istore_n 2, 1, (0, 0, 0), 0), (125, .iload_n 2, 1, (0, 0, 0), 0), (126, .aload_n 0, 1, (0, 0, 0), 0), (127, .getfield 262, 3, (11, 22, 0), 22), (130, .if_icmp .ge 44, 3, (0, 0, 0), 0), (133, .aload_n 0, 1, (0, 0, 0), 0), (134, .getfield 43, 3, (11, 18, 1), 18), (137, .iconst 3, 1, (0, 0, 0), 0), (138, .iload_n 2, 1, (0, 0, 0), 0), (139, .imul, 1, (0, 0, 0), 0), (140, .iconst 2, 1, (0, 0, 0), 0), (141, .iadd, 1, (0, 0, 0), 0), (142, .iaload, 1, (0, 0, 0), 0), (143, .istore_n 3, 1, (0, 0, 0), 0), (144, .iload_n 1, 1, (0, 0, 0), 0), (145, .ifCond .eq 21, 3, (0, 0, 0), 0), (148, .iload_n 3, 1, (0, 0, 0), 0), (149, .bipush 8, 2, (0, 0, 0), 0), (151, .if_icmp .eq 11, 3, (0, 0, 0), 0), (154, .iload_n 3, 1, (0, 0, 0), 0), (155, .aload_n 0, 1, (0, 0, 0), 0), (156, .getfield 255, 3, (11, 21, 0), 21)]), (175, [(159, .if_icmp .ge 7, 3, (0, 0, 0), 0), (162, .iconst 1, 1, (0, 0, 0), 0), (163, .goto 4, 3, (0, 0, 0), 0), (166, .iconst 0, 1, (0, 0, 0), 0), (167, .istore_n 1, 1, (0, 0, 0), 0), (168, .iinc 2 1, 3, (0, 0, 0), 0), (171, .goto (-46), 3, (0, 0, 0), 0), (174, .iload_n 1, 1, (0, 0, 0), 0), (175, .ireturn, 1, (0, 0, 3), 0)])]
def mc_R_readMarket : List (Nat × List (Nat × Ent)) := [(37, [(0, .aload_n 0, 1, (0, 0, 0), 0), (1, .iconst 0, 1, (0, 0, 0), 0), (2, .putfield 129, 3, (11, 3, 0), 3), (5, .aload_n 0, 1, (0, 0, 0), 0), (6, .iconst (-1), 1, (0, 0, 0), 0), (7, .putfield 136, 3, (11, 4, 0), 4), (10, .aload_n 0, 1, (0, 0, 0), 0), (11, .iconst 0, 1, (0, 0, 0), 0), (12, .putfield 255, 3, (11, 21, 0), 21), (15, .aload_n 0, 1, (0, 0, 0), 0), (16, .iconst 0, 1, (0, 0, 0), 0), (17, .putfield 262, 3, (11, 22, 0), 22), (20, .aload_n 0, 1, (0, 0, 0), 0), (21, .iconst 0, 1, (0, 0, 0), 0), (22, .putfield 265, 3, (11, 23, 0), 23), (25, .aload_n 0, 1, (0, 0, 0), 0), (26, .iconst 0, 1, (0, 0, 0), 0), (27, .putfield 268, 3, (11, 24, 0), 24), (30, .iconst 1, 1, (0, 0, 0), 0), (31, .istore_n 1, 1, (0, 0, 0), 0), (32, .iload_n 1, 1, (0, 0, 0), 0), (33, .ifCond .eq 59, 3, (0, 0, 0), 0), (36, .aload_n 0, 1, (0, 0, 0), 0), (37, .getfield 136, 3, (11, 4, 0), 4)]), (84, [(40, .iconst (-1), 1, (0, 0, 0), 0), (41, .if_icmp .ne 51, 3, (0, 0, 0), 0), (44, .aload_n 0, 1, (0, 0, 0), 0), (45, .invokevirtual 274, 3, (217, 1, 0), 0), (48, .aload_n 0, 1, (0, 0, 0), 0), (49, .getfield 136, 3, (11, 4, 0), 4), (52, .iconst (-1), 1, (0, 0, 0), 0), (53, .if_icmp .ne 16, 3, (0, 0, 0), 0), (56, .aload_n 0, 1, (0, 0, 0), 0), (57, .invokevirtual 148, 3, (187, 1, 0), 0), (60, .bipush 59, 2, (0, 0, 0), 0), (62, .if_icmp .ne 7, 3, (0, 0, 0), 0), (65, .iconst 1, 1, (0, 0, 0), 0), (66, .goto 4, 3, (0, 0, 0), 0), (69, .iconst 0, 1, (0, 0, 0), 0), (70, .istore_n 1, 1, (0, 0, 0), 0), (71, .aload_n 0, 1, (0, 0, 0), 0), (72, .dup, 1, (0, 0, 0), 0), (73, .getfield 129, 3, (11, 3, 0), 3), (76, .iload_n 1, 1, (0, 0, 0), 0), (77, .ifCond .eq 7, 3, (0, 0, 0), 0), (80, .iconst 1, 1, (0, 0, 0), 0), (81, .goto 4, 3, (0, 0, 0), 0), (84, .iconst 0, 1, (0, 0, 0), 0)]), (123, [(85, .iadd, 1, (0, 0, 0), 0), (86, .putfield 129, 3, (11, 3, 0), 3), (89, .goto (-57), 3, (0, 0, 0), 0), (92, .aload_n 0, 1, (0, 0, 0), 0), (93, .getfield 136, 3, (11, 4, 0), 4), (96, .iconst (-1), 1, (0, 0, 0), 0), (97, .if_icmp .ne 22, 3, (0, 0, 0), 0), (100, .aload_n 0, 1, (0, 0, 0), 0), (101, .invokevirtual 148, 3, (187, 1, 0), 0), (104, .iconst (-1), 1, (0, 0, 0), 0), (105, .if_icmp .ne 10, 3, (0, 0, 0), 0), (108, .aload_n 0, 1, (0, 0, 0), 0), (109, .invokevirtual 277, 3, (219, 1, 0), 0), (112, .ifCond .ne 7, 3, (0, 0, 0), 0), (115, .aload_n 0, 1, (0, 0, 0), 0), (116, .invokevirtual 145, 3, (188, 1, 0), 0), (119, .aload_n 0, 1, (0, 0, 0), 0), (120, .getfield 136, 3, (11, 4, 0), 4), (123, .ireturn, 1, (0, 0, 1), 0)])]
def mc_R_figure : List (Nat × List (Nat × Ent)) := [(35, [(0, .aload_n 0, 1, (0, 0, 0), 0), (1, .invokevirtual 148, 3, (187, 1, 0), 0), (4, .invokestatic 151, 3, (189, 1, 0), 0), (7, .ifCond .ne 9, 3, (0, 0, 0), 0), (10, .aload_n 0, 1, (0, 0, 0), 0), (11, .invokevirtual 145, 3, (188, 1, 0), 0), (14, .iconst 0, 1, (0, 0, 0), 0), (15, .ireturn, 1, (0, 0, 1), 0), (16, .aload_n 0, 1, (0, 0, 0), 0), (17, .invokevirtual 132, 3, (186, 1, 0), 0), (20, .bipush 48, 2, (0, 0, 0), 0), (22, .isub, 1, (0, 0, 0), 0), (23, .istore_n 1, 1, (0, 0, 0), 0), (24, .aload_n 0, 1, (0, 0, 0), 0), (25, .dup, 1, (0, 0, 0), 0), (26, .getfield 129, 3, (11, 3, 0), 3), (29, .iconst 1, 1, (0, 0, 0), 0), (30, .iadd, 1, (0, 0, 0), 0), (31, .putfield 129, 3, (11, 3, 0), 3), (34, .iload_n 1, 1, (0, 0, 0), 0), (35, .ireturn, 1, (0, 0, 1), 0)])]
def mc_R_figureIf : List (Nat × List (Nat × Ent)) := [(16, [(0, .aload_n 0, 1, (0, 0, 0), 0), (1, .getfield 136, 3, (11, 4, 0), 4), (4, .iconst (-1), 1, (0, 0, 0), 0), (5, .if_icmp .ne 10, 3, (0, 0, 0), 0), (8, .aload_n 0, 1, (0, 0, 0), 0), (9, .invokevirtual 281, 3, (221, 1, 0), 0), (12, .goto 4, 3, (0, 0, 0), 0), (15, .iconst 0, 1, (0, 0, 0), 0), (16, .ireturn, 1, (0, 0, 1), 0)])]
def mc_R_stepText : List (Nat × List (Nat × Ent)) := [(45, [(0, .aload_n 0, 1, (0, 0, 0), 0), (1, .invokevirtual 148, 3, (187, 1, 0), 0), (4, .istore_n 2, 1, (0, 0, 0), 0), (5, .iload_n 2, 1, (0, 0, 0), 0), (6, .bipush 104, 2, (0, 0, 0), 0), (8, .if_icmp .ne 7, 3, (0, 0, 0), 0), (11, .iconst 0, 1, (0, 0, 0), 0), (12, .goto 34, 3, (0, 0, 0), 0), (15, .iload_n 2, 1, (0, 0, 0), 0), (16, .bipush 115, 2, (0, 0, 0), 0), (18, .if_icmp .ne 7, 3, (0, 0, 0), 0), (21, .iconst 1, 1, (0, 0, 0), 0), (22, .goto 24, 3, (0, 0, 0), 0), (25, .iload_n 2, 1, (0, 0, 0), 0), (26, .bipush 116, 2, (0, 0, 0), 0), (28, .if_icmp .ne 7, 3, (0, 0, 0), 0), (31, .iconst 2, 1, (0, 0, 0), 0), (32, .goto 14, 3, (0, 0, 0), 0), (35, .iload_n 2, 1, (0, 0, 0), 0), (36, .bipush 100, 2, (0, 0, 0), 0), (38, .if_icmp .ne 7, 3, (0, 0, 0), 0), (41, .iconst 3, 1, (0, 0, 0), 0), (42, .goto 4, 3, (0, 0, 0), 0), (45, .iconst (-1), 1, (0, 0, 0), 0)]), (86, [(46, .istore_n 3, 1, (0, 0, 0), 0), (47, .iconst 1, 1, (0, 0, 0), 0), (48, .istore 4, 2, (0, 0, 0), 0), (50, .iload 4, 2, (0, 0, 0), 0), (52, .iconst 5, 1, (0, 0, 0), 0), (53, .if_icmp .ge 19, 3, (0, 0, 0), 0), (56, .aload_n 0, 1, (0, 0, 0), 0), (57, .getfield 52, 3, (11, 25, 1), 25), (60, .iload_n 1, 1, (0, 0, 0), 0), (61, .iload 4, 2, (0, 0, 0), 0), (63, .iadd, 1, (0, 0, 0), 0), (64, .iconst (-1), 1, (0, 0, 0), 0), (65, .iastore, 1, (0, 0, 0), 0), (66, .iinc 4 1, 3, (0, 0, 0), 0), (69, .goto (-19), 3, (0, 0, 0), 0), (72, .iload_n 3, 1, (0, 0, 0), 0), (73, .iconst (-1), 1, (0, 0, 0), 0), (74, .if_icmp .ne 8, 3, (0, 0, 0), 0), (77, .aload_n 0, 1, (0, 0, 0), 0), (78, .invokevirtual 145, 3, (188, 1, 0), 0), (81, .return_, 1, (0, 0, 0), 0), (82, .aload_n 0, 1, (0, 0, 0), 0), (83, .getfield 52, 3, (11, 25, 1), 25), (86, .iload_n 1, 1, (0, 0, 0), 0)]), (122, [(87, .iload_n 3, 1, (0, 0, 0), 0), (88, .iastore, 1, (0, 0, 0), 0), (89, .aload_n 0, 1, (0, 0, 0), 0), (90, .dup, 1, (0, 0, 0), 0), (91, .getfield 129, 3, (11, 3, 0), 3), (94, .iconst 1, 1, (0, 0, 0), 0), (95, .iadd, 1, (0, 0, 0), 0), (96, .putfield 129, 3, (11, 3, 0), 3), (99, .iload_n 3, 1, (0, 0, 0), 0), (100, .iconst 3, 1, (0, 0, 0), 0), (101, .if_icmp .ge 47, 3, (0, 0, 0), 0), (104, .aload_n 0, 1, (0, 0, 0), 0), (105, .getfield 52, 3, (11, 25, 1), 25), (108, .iload_n 1, 1, (0, 0, 0), 0), (109, .iconst 1, 1, (0, 0, 0), 0), (110, .iadd, 1, (0, 0, 0), 0), (111, .aload_n 0, 1, (0, 0, 0), 0), (112, .invokevirtual 284, 3, (222, 1, 0), 0), (115, .iastore, 1, (0, 0, 0), 0), (116, .aload_n 0, 1, (0, 0, 0), 0), (117, .getfield 52, 3, (11, 25, 1), 25), (120, .iload_n 1, 1, (0, 0, 0), 0), (121, .iconst 2, 1, (0, 0, 0), 0), (122, .iadd, 1, (0, 0, 0), 0)]), (162, [(123, .iload_n 3, 1, (0, 0, 0), 0), (124, .ifCond .ne 7, 3, (0, 0, 0), 0), (127, .iconst (-1), 1, (0, 0, 0), 0), (128, .goto 7, 3, (0, 0, 0), 0), (131, .aload_n 0, 1, (0, 0, 0), 0), (132, .invokevirtual 284, 3, (222, 1, 0), 0), (135, .iastore, 1, (0, 0, 0), 0), (136, .aload_n 0, 1, (0, 0, 0), 0), (137, .getfield 52, 3, (11, 25, 1), 25), (140, .iload_n 1, 1, (0, 0, 0), 0), (141, .iconst 3, 1, (0, 0, 0), 0), (142, .iadd, 1, (0, 0, 0), 0), (143, .aload_n 0, 1, (0, 0, 0), 0), (144, .invokevirtual 284, 3, (222, 1, 0), 0), (147, .iastore, 1, (0, 0, 0), 0), (148, .iload_n 3, 1, (0, 0, 0), 0), (149, .iconst 1, 1, (0, 0, 0), 0), (150, .if_icmp .ne 52, 3, (0, 0, 0), 0), (153, .aload_n 0, 1, (0, 0, 0), 0), (154, .getfield 136, 3, (11, 4, 0), 4), (157, .iconst (-1), 1, (0, 0, 0), 0), (158, .if_icmp .ne 44, 3, (0, 0, 0), 0), (161, .aload_n 0, 1, (0, 0, 0), 0), (162, .invokevirtual 148, 3, (187, 1, 0), 0)]), (202, [(165, .bipush 44, 2, (0, 0, 0), 0), (167, .if_icmp .ne 31, 3, (0, 0, 0), 0), (170, .aload_n 0, 1, (0, 0, 0), 0), (171, .dup, 1, (0, 0, 0), 0), (172, .getfield 129, 3, (11, 3, 0), 3), (175, .iconst 1, 1, (0, 0, 0), 0), (176, .iadd, 1, (0, 0, 0), 0), (177, .putfield 129, 3, (11, 3, 0), 3), (180, .aload_n 0, 1, (0, 0, 0), 0), (181, .getfield 52, 3, (11, 25, 1), 25), (184, .iload_n 1, 1, (0, 0, 0), 0), (185, .iconst 4, 1, (0, 0, 0), 0), (186, .iadd, 1, (0, 0, 0), 0), (187, .aload_n 0, 1, (0, 0, 0), 0), (188, .iconst 0, 1, (0, 0, 0), 0), (189, .bipush 99, 2, (0, 0, 0), 0), (191, .invokevirtual 252, 3, (212, 3, 0), 0), (194, .iastore, 1, (0, 0, 0), 0), (195, .goto 7, 3, (0, 0, 0), 0), (198, .aload_n 0, 1, (0, 0, 0), 0), (199, .invokevirtual 145, 3, (188, 1, 0), 0), (202, .return_, 1, (0, 0, 0), 0)])]
def mc_R_readPlan : List (Nat × List (Nat × Ent)) := [(36, [(0, .aload_n 0, 1, (0, 0, 0), 0), (1, .iconst 0, 1, (0, 0, 0), 0), (2, .putfield 129, 3, (11, 3, 0), 3), (5, .aload_n 0, 1, (0, 0, 0), 0), (6, .iconst (-1), 1, (0, 0, 0), 0), (7, .putfield 136, 3, (11, 4, 0), 4), (10, .aload_n 0, 1, (0, 0, 0), 0), (11, .getfield 55, 3, (11, 26, 1), 26), (14, .iload_n 1, 1, (0, 0, 0), 0), (15, .iconst 0, 1, (0, 0, 0), 0), (16, .iastore, 1, (0, 0, 0), 0), (17, .iconst 1, 1, (0, 0, 0), 0), (18, .istore_n 2, 1, (0, 0, 0), 0), (19, .iload_n 2, 1, (0, 0, 0), 0), (20, .ifCond .eq 93, 3, (0, 0, 0), 0), (23, .aload_n 0, 1, (0, 0, 0), 0), (24, .getfield 136, 3, (11, 4, 0), 4), (27, .iconst (-1), 1, (0, 0, 0), 0), (28, .if_icmp .ne 85, 3, (0, 0, 0), 0), (31, .aload_n 0, 1, (0, 0, 0), 0), (32, .iconst 5, 1, (0, 0, 0), 0), (33, .bipush 12, 2, (0, 0, 0), 0), (35, .iload_n 1, 1, (0, 0, 0), 0), (36, .imul, 1, (0, 0, 0), 0)]), (75, [(37, .aload_n 0, 1, (0, 0, 0), 0), (38, .getfield 55, 3, (11, 26, 1), 26), (41, .iload_n 1, 1, (0, 0, 0), 0), (42, .iaload, 1, (0, 0, 0), 0), (43, .iadd, 1, (0, 0, 0), 0), (44, .imul, 1, (0, 0, 0), 0), (45, .invokevirtual 287, 3, (223, 2, 0), 0), (48, .aload_n 0, 1, (0, 0, 0), 0), (49, .getfield 55, 3, (11, 26, 1), 26), (52, .iload_n 1, 1, (0, 0, 0), 0), (53, .dup2, 1, (0, 0, 0), 0), (54, .iaload, 1, (0, 0, 0), 0), (55, .iconst 1, 1, (0, 0, 0), 0), (56, .iadd, 1, (0, 0, 0), 0), (57, .iastore, 1, (0, 0, 0), 0), (58, .aload_n 0, 1, (0, 0, 0), 0), (59, .getfield 136, 3, (11, 4, 0), 4), (62, .iconst (-1), 1, (0, 0, 0), 0), (63, .if_icmp .ne 27, 3, (0, 0, 0), 0), (66, .aload_n 0, 1, (0, 0, 0), 0), (67, .invokevirtual 148, 3, (187, 1, 0), 0), (70, .bipush 59, 2, (0, 0, 0), 0), (72, .if_icmp .ne 18, 3, (0, 0, 0), 0), (75, .aload_n 0, 1, (0, 0, 0), 0)]), (118, [(76, .getfield 55, 3, (11, 26, 1), 26), (79, .iload_n 1, 1, (0, 0, 0), 0), (80, .iaload, 1, (0, 0, 0), 0), (81, .bipush 12, 2, (0, 0, 0), 0), (83, .if_icmp .ge 7, 3, (0, 0, 0), 0), (86, .iconst 1, 1, (0, 0, 0), 0), (87, .goto 4, 3, (0, 0, 0), 0), (90, .iconst 0, 1, (0, 0, 0), 0), (91, .istore_n 2, 1, (0, 0, 0), 0), (92, .aload_n 0, 1, (0, 0, 0), 0), (93, .dup, 1, (0, 0, 0), 0), (94, .getfield 129, 3, (11, 3, 0), 3), (97, .iload_n 2, 1, (0, 0, 0), 0), (98, .ifCond .eq 7, 3, (0, 0, 0), 0), (101, .iconst 1, 1, (0, 0, 0), 0), (102, .goto 4, 3, (0, 0, 0), 0), (105, .iconst 0, 1, (0, 0, 0), 0), (106, .iadd, 1, (0, 0, 0), 0), (107, .putfield 129, 3, (11, 3, 0), 3), (110, .goto (-91), 3, (0, 0, 0), 0), (113, .aload_n 0, 1, (0, 0, 0), 0), (114, .getfield 136, 3, (11, 4, 0), 4), (117, .iconst (-1), 1, (0, 0, 0), 0), (118, .if_icmp .ne 15, 3, (0, 0, 0), 0)]), (137, [(121, .aload_n 0, 1, (0, 0, 0), 0), (122, .invokevirtual 148, 3, (187, 1, 0), 0), (125, .iconst (-1), 1, (0, 0, 0), 0), (126, .if_icmp .eq 7, 3, (0, 0, 0), 0), (129, .aload_n 0, 1, (0, 0, 0), 0), (130, .invokevirtual 145, 3, (188, 1, 0), 0), (133, .aload_n 0, 1, (0, 0, 0), 0), (134, .getfield 136, 3, (11, 4, 0), 4), (137, .ireturn, 1, (0, 0, 1), 0)])]
def mc_R_fault : List (Nat × List (Nat × Ent)) := [(39, [(0, .iload_n 1, 1, (0, 0, 0), 0), (1, .ifCond .ne 10, 3, (0, 0, 0), 0), (4, .aload_n 0, 1, (0, 0, 0), 0), (5, .invokevirtual 290, 3, (220, 1, 0), 0), (8, .goto 31, 3, (0, 0, 0), 0), (11, .iload_n 1, 1, (0, 0, 0), 0), (12, .iconst 1, 1, (0, 0, 0), 0), (13, .if_icmp .ne 11, 3, (0, 0, 0), 0), (16, .aload_n 0, 1, (0, 0, 0), 0), (17, .iconst 4, 1, (0, 0, 0), 0), (18, .invokevirtual 293, 3, (207, 2, 0), 0), (21, .goto 18, 3, (0, 0, 0), 0), (24, .iload_n 1, 1, (0, 0, 0), 0), (25, .iconst 2, 1, (0, 0, 0), 0), (26, .if_icmp .ne 11, 3, (0, 0, 0), 0), (29, .aload_n 0, 1, (0, 0, 0), 0), (30, .iconst 4, 1, (0, 0, 0), 0), (31, .invokevirtual 296, 3, (224, 2, 0), 0), (34, .goto 5, 3, (0, 0, 0), 0), (37, .bipush (-2), 2, (0, 0, 0), 0), (39, .ireturn, 1, (0, 0, 1), 0)])]
def mc_R_takeMarket : List (Nat × List (Nat × Ent)) := [(45, [(0, .aload_n 0, 1, (0, 0, 0), 0), (1, .aload_n 0, 1, (0, 0, 0), 0), (2, .getfield 255, 3, (11, 21, 0), 21), (5, .putfield 299, 3, (11, 37, 0), 37), (8, .aload_n 0, 1, (0, 0, 0), 0), (9, .aload_n 0, 1, (0, 0, 0), 0), (10, .getfield 262, 3, (11, 22, 0), 22), (13, .putfield 302, 3, (11, 38, 0), 38), (16, .aload_n 0, 1, (0, 0, 0), 0), (17, .aload_n 0, 1, (0, 0, 0), 0), (18, .getfield 265, 3, (11, 23, 0), 23), (21, .putfield 305, 3, (11, 39, 0), 39), (24, .aload_n 0, 1, (0, 0, 0), 0), (25, .aload_n 0, 1, (0, 0, 0), 0), (26, .getfield 268, 3, (11, 24, 0), 24), (29, .putfield 308, 3, (11, 40, 0), 40), (32, .iconst 0, 1, (0, 0, 0), 0), (33, .istore_n 1, 1, (0, 0, 0), 0), (34, .iload_n 1, 1, (0, 0, 0), 0), (35, .sipush 355, 3, (0, 0, 0), 0), (38, .if_icmp .ge 16, 3, (0, 0, 0), 0), (41, .aload_n 0, 1, (0, 0, 0), 0), (42, .getfield 58, 3, (11, 28, 1), 28), (45, .iload_n 1, 1, (0, 0, 0), 0)]), (83, [(46, .iconst 0, 1, (0, 0, 0), 0), (47, .iastore, 1, (0, 0, 0), 0), (48, .iinc 1 1, 3, (0, 0, 0), 0), (51, .goto (-17), 3, (0, 0, 0), 0), (54, .iconst 0, 1, (0, 0, 0), 0), (55, .istore_n 1, 1, (0, 0, 0), 0), (56, .iload_n 1, 1, (0, 0, 0), 0), (57, .aload_n 0, 1, (0, 0, 0), 0), (58, .getfield 299, 3, (11, 37, 0), 37), (61, .if_icmp .ge 39, 3, (0, 0, 0), 0), (64, .aload_n 0, 1, (0, 0, 0), 0), (65, .getfield 61, 3, (11, 29, 1), 29), (68, .iload_n 1, 1, (0, 0, 0), 0), (69, .aload_n 0, 1, (0, 0, 0), 0), (70, .getfield 40, 3, (11, 17, 1), 17), (73, .iconst 2, 1, (0, 0, 0), 0), (74, .iload_n 1, 1, (0, 0, 0), 0), (75, .imul, 1, (0, 0, 0), 0), (76, .iaload, 1, (0, 0, 0), 0), (77, .iastore, 1, (0, 0, 0), 0), (78, .aload_n 0, 1, (0, 0, 0), 0), (79, .getfield 64, 3, (11, 30, 1), 30), (82, .iload_n 1, 1, (0, 0, 0), 0), (83, .aload_n 0, 1, (0, 0, 0), 0)]), (122, [(84, .getfield 40, 3, (11, 17, 1), 17), (87, .iconst 2, 1, (0, 0, 0), 0), (88, .iload_n 1, 1, (0, 0, 0), 0), (89, .imul, 1, (0, 0, 0), 0), (90, .iconst 1, 1, (0, 0, 0), 0), (91, .iadd, 1, (0, 0, 0), 0), (92, .iaload, 1, (0, 0, 0), 0), (93, .iastore, 1, (0, 0, 0), 0), (94, .iinc 1 1, 3, (0, 0, 0), 0), (97, .goto (-41), 3, (0, 0, 0), 0), (100, .iconst 0, 1, (0, 0, 0), 0), (101, .istore_n 1, 1, (0, 0, 0), 0), (102, .iload_n 1, 1, (0, 0, 0), 0), (103, .aload_n 0, 1, (0, 0, 0), 0), (104, .getfield 302, 3, (11, 38, 0), 38), (107, .if_icmp .ge 108, 3, (0, 0, 0), 0), (110, .aload_n 0, 1, (0, 0, 0), 0), (111, .getfield 58, 3, (11, 28, 1), 28), (114, .bipush 60, 2, (0, 0, 0), 0), (116, .iload_n 1, 1, (0, 0, 0), 0), (117, .iadd, 1, (0, 0, 0), 0), (118, .aload_n 0, 1, (0, 0, 0), 0), (119, .getfield 43, 3, (11, 18, 1), 18), (122, .iconst 3, 1, (0, 0, 0), 0)]), (155, [(123, .iload_n 1, 1, (0, 0, 0), 0), (124, .imul, 1, (0, 0, 0), 0), (125, .iaload, 1, (0, 0, 0), 0), (126, .iastore, 1, (0, 0, 0), 0), (127, .aload_n 0, 1, (0, 0, 0), 0), (128, .getfield 58, 3, (11, 28, 1), 28), (131, .bipush 66, 2, (0, 0, 0), 0), (133, .iload_n 1, 1, (0, 0, 0), 0), (134, .iadd, 1, (0, 0, 0), 0), (135, .aload_n 0, 1, (0, 0, 0), 0), (136, .getfield 43, 3, (11, 18, 1), 18), (139, .iconst 3, 1, (0, 0, 0), 0), (140, .iload_n 1, 1, (0, 0, 0), 0), (141, .imul, 1, (0, 0, 0), 0), (142, .iconst 1, 1, (0, 0, 0), 0), (143, .iadd, 1, (0, 0, 0), 0), (144, .iaload, 1, (0, 0, 0), 0), (145, .iastore, 1, (0, 0, 0), 0), (146, .aload_n 0, 1, (0, 0, 0), 0), (147, .getfield 67, 3, (11, 31, 1), 31), (150, .iload_n 1, 1, (0, 0, 0), 0), (151, .aload_n 0, 1, (0, 0, 0), 0), (152, .getfield 43, 3, (11, 18, 1), 18), (155, .iconst 3, 1, (0, 0, 0), 0)]), (188, [(156, .iload_n 1, 1, (0, 0, 0), 0), (157, .imul, 1, (0, 0, 0), 0), (158, .iconst 2, 1, (0, 0, 0), 0), (159, .iadd, 1, (0, 0, 0), 0), (160, .iaload, 1, (0, 0, 0), 0), (161, .bipush 8, 2, (0, 0, 0), 0), (163, .if_icmp .ne 7, 3, (0, 0, 0), 0), (166, .iconst (-1), 1, (0, 0, 0), 0), (167, .goto 13, 3, (0, 0, 0), 0), (170, .aload_n 0, 1, (0, 0, 0), 0), (171, .getfield 43, 3, (11, 18, 1), 18), (174, .iconst 3, 1, (0, 0, 0), 0), (175, .iload_n 1, 1, (0, 0, 0), 0), (176, .imul, 1, (0, 0, 0), 0), (177, .iconst 2, 1, (0, 0, 0), 0), (178, .iadd, 1, (0, 0, 0), 0), (179, .iaload, 1, (0, 0, 0), 0), (180, .iastore, 1, (0, 0, 0), 0), (181, .iconst 0, 1, (0, 0, 0), 0), (182, .istore_n 2, 1, (0, 0, 0), 0), (183, .iload_n 2, 1, (0, 0, 0), 0), (184, .aload_n 0, 1, (0, 0, 0), 0), (185, .getfield 299, 3, (11, 37, 0), 37), (188, .if_icmp .ge 21, 3, (0, 0, 0), 0)]), (231, [(191, .aload_n 0, 1, (0, 0, 0), 0), (192, .getfield 58, 3, (11, 28, 1), 28), (195, .bipush 8, 2, (0, 0, 0), 0), (197, .iload_n 1, 1, (0, 0, 0), 0), (198, .imul, 1, (0, 0, 0), 0), (199, .iload_n 2, 1, (0, 0, 0), 0), (200, .iadd, 1, (0, 0, 0), 0), (201, .iconst 1, 1, (0, 0, 0), 0), (202, .iastore, 1, (0, 0, 0), 0), (203, .iinc 2 1, 3, (0, 0, 0), 0), (206, .goto (-23), 3, (0, 0, 0), 0), (209, .iinc 1 1, 3, (0, 0, 0), 0), (212, .goto (-110), 3, (0, 0, 0), 0), (215, .iconst 0, 1, (0, 0, 0), 0), (216, .istore_n 1, 1, (0, 0, 0), 0), (217, .iload_n 1, 1, (0, 0, 0), 0), (218, .aload_n 0, 1, (0, 0, 0), 0), (219, .getfield 305, 3, (11, 39, 0), 39), (222, .if_icmp .ge 55, 3, (0, 0, 0), 0), (225, .aload_n 0, 1, (0, 0, 0), 0), (226, .getfield 70, 3, (11, 32, 1), 32), (229, .iload_n 1, 1, (0, 0, 0), 0), (230, .aload_n 0, 1, (0, 0, 0), 0), (231, .getfield 46, 3, (11, 19, 1), 19)]), (265, [(234, .iconst 3, 1, (0, 0, 0), 0), (235, .iload_n 1, 1, (0, 0, 0), 0), (236, .imul, 1, (0, 0, 0), 0), (237, .iaload, 1, (0, 0, 0), 0), (238, .iastore, 1, (0, 0, 0), 0), (239, .aload_n 0, 1, (0, 0, 0), 0), (240, .getfield 73, 3, (11, 33, 1), 33), (243, .iload_n 1, 1, (0, 0, 0), 0), (244, .aload_n 0, 1, (0, 0, 0), 0), (245, .getfield 46, 3, (11, 19, 1), 19), (248, .iconst 3, 1, (0, 0, 0), 0), (249, .iload_n 1, 1, (0, 0, 0), 0), (250, .imul, 1, (0, 0, 0), 0), (251, .iconst 1, 1, (0, 0, 0), 0), (252, .iadd, 1, (0, 0, 0), 0), (253, .iaload, 1, (0, 0, 0), 0), (254, .iastore, 1, (0, 0, 0), 0), (255, .aload_n 0, 1, (0, 0, 0), 0), (256, .getfield 76, 3, (11, 34, 1), 34), (259, .iload_n 1, 1, (0, 0, 0), 0), (260, .aload_n 0, 1, (0, 0, 0), 0), (261, .getfield 46, 3, (11, 19, 1), 19), (264, .iconst 3, 1, (0, 0, 0), 0), (265, .iload_n 1, 1, (0, 0, 0), 0)]), (301, [(266, .imul, 1, (0, 0, 0), 0), (267, .iconst 2, 1, (0, 0, 0), 0), (268, .iadd, 1, (0, 0, 0), 0), (269, .iaload, 1, (0, 0, 0), 0), (270, .iastore, 1, (0, 0, 0), 0), (271, .iinc 1 1, 3, (0, 0, 0), 0), (274, .goto (-57), 3, (0, 0, 0), 0), (277, .iconst 0, 1, (0, 0, 0), 0), (278, .istore_n 1, 1, (0, 0, 0), 0), (279, .iload_n 1, 1, (0, 0, 0), 0), (280, .aload_n 0, 1, (0, 0, 0), 0), (281, .getfield 308, 3, (11, 40, 0), 40), (284, .if_icmp .ge 39, 3, (0, 0, 0), 0), (287, .aload_n 0, 1, (0, 0, 0), 0), (288, .getfield 79, 3, (11, 35, 1), 35), (291, .iload_n 1, 1, (0, 0, 0), 0), (292, .aload_n 0, 1, (0, 0, 0), 0), (293, .getfield 49, 3, (11, 20, 1), 20), (296, .iconst 2, 1, (0, 0, 0), 0), (297, .iload_n 1, 1, (0, 0, 0), 0), (298, .imul, 1, (0, 0, 0), 0), (299, .iaload, 1, (0, 0, 0), 0), (300, .iastore, 1, (0, 0, 0), 0), (301, .aload_n 0, 1, (0, 0, 0), 0)]), (339, [(302, .getfield 82, 3, (11, 36, 1), 36), (305, .iload_n 1, 1, (0, 0, 0), 0), (306, .aload_n 0, 1, (0, 0, 0), 0), (307, .getfield 49, 3, (11, 20, 1), 20), (310, .iconst 2, 1, (0, 0, 0), 0), (311, .iload_n 1, 1, (0, 0, 0), 0), (312, .imul, 1, (0, 0, 0), 0), (313, .iconst 1, 1, (0, 0, 0), 0), (314, .iadd, 1, (0, 0, 0), 0), (315, .iaload, 1, (0, 0, 0), 0), (316, .iastore, 1, (0, 0, 0), 0), (317, .iinc 1 1, 3, (0, 0, 0), 0), (320, .goto (-41), 3, (0, 0, 0), 0), (323, .aload_n 0, 1, (0, 0, 0), 0), (324, .iconst 0, 1, (0, 0, 0), 0), (325, .putfield 311, 3, (11, 55, 0), 55), (328, .aload_n 0, 1, (0, 0, 0), 0), (329, .iconst 0, 1, (0, 0, 0), 0), (330, .putfield 314, 3, (11, 60, 0), 60), (333, .aload_n 0, 1, (0, 0, 0), 0), (334, .iconst 0, 1, (0, 0, 0), 0), (335, .putfield 317, 3, (11, 45, 0), 45), (338, .aload_n 0, 1, (0, 0, 0), 0), (339, .iconst 0, 1, (0, 0, 0), 0)]), (347, [(340, .putfield 320, 3, (11, 63, 3), 63), (343, .aload_n 0, 1, (0, 0, 0), 0), (344, .getfield 299, 3, (11, 37, 0), 37), (347, .ireturn, 1, (0, 0, 1), 0)])]
def mc_R_text : List (Nat × List (Nat × Ent)) := [(43, [(0, .iload_n 1, 1, (0, 0, 0), 0), (1, .ifCond .ne 21, 3, (0, 0, 0), 0), (4, .aload_n 0, 1, (0, 0, 0), 0), (5, .invokevirtual 290, 3, (220, 1, 0), 0), (8, .iconst (-1), 1, (0, 0, 0), 0), (9, .if_icmp .ne 13, 3, (0, 0, 0), 0), (12, .aload_n 0, 1, (0, 0, 0), 0), (13, .iconst 0, 1, (0, 0, 0), 0), (14, .putfield 126, 3, (11, 2, 0), 2), (17, .aload_n 0, 1, (0, 0, 0), 0), (18, .invokevirtual 324, 3, (226, 1, 0), 0), (21, .ireturn, 1, (0, 0, 1), 0), (22, .iload_n 1, 1, (0, 0, 0), 0), (23, .iconst 1, 1, (0, 0, 0), 0), (24, .if_icmp .ne 45, 3, (0, 0, 0), 0), (27, .aload_n 0, 1, (0, 0, 0), 0), (28, .getfield 327, 3, (11, 13, 0), 13), (31, .iconst 4, 1, (0, 0, 0), 0), (32, .if_icmp .ge 37, 3, (0, 0, 0), 0), (35, .aload_n 0, 1, (0, 0, 0), 0), (36, .aload_n 0, 1, (0, 0, 0), 0), (37, .getfield 327, 3, (11, 13, 0), 13), (40, .invokevirtual 293, 3, (207, 2, 0), 0), (43, .iconst (-1), 1, (0, 0, 0), 0)]), (83, [(44, .if_icmp .ne 25, 3, (0, 0, 0), 0), (47, .aload_n 0, 1, (0, 0, 0), 0), (48, .iconst 0, 1, (0, 0, 0), 0), (49, .putfield 126, 3, (11, 2, 0), 2), (52, .aload_n 0, 1, (0, 0, 0), 0), (53, .dup, 1, (0, 0, 0), 0), (54, .getfield 327, 3, (11, 13, 0), 13), (57, .iconst 1, 1, (0, 0, 0), 0), (58, .iadd, 1, (0, 0, 0), 0), (59, .putfield 327, 3, (11, 13, 0), 13), (62, .aload_n 0, 1, (0, 0, 0), 0), (63, .getfield 327, 3, (11, 13, 0), 13), (66, .iconst 1, 1, (0, 0, 0), 0), (67, .isub, 1, (0, 0, 0), 0), (68, .ireturn, 1, (0, 0, 1), 0), (69, .iload_n 1, 1, (0, 0, 0), 0), (70, .iconst 2, 1, (0, 0, 0), 0), (71, .if_icmp .ne 45, 3, (0, 0, 0), 0), (74, .aload_n 0, 1, (0, 0, 0), 0), (75, .getfield 330, 3, (11, 27, 0), 27), (78, .iconst 4, 1, (0, 0, 0), 0), (79, .if_icmp .ge 37, 3, (0, 0, 0), 0), (82, .aload_n 0, 1, (0, 0, 0), 0), (83, .aload_n 0, 1, (0, 0, 0), 0)]), (117, [(84, .getfield 330, 3, (11, 27, 0), 27), (87, .invokevirtual 296, 3, (224, 2, 0), 0), (90, .iconst (-1), 1, (0, 0, 0), 0), (91, .if_icmp .ne 25, 3, (0, 0, 0), 0), (94, .aload_n 0, 1, (0, 0, 0), 0), (95, .iconst 0, 1, (0, 0, 0), 0), (96, .putfield 126, 3, (11, 2, 0), 2), (99, .aload_n 0, 1, (0, 0, 0), 0), (100, .dup, 1, (0, 0, 0), 0), (101, .getfield 330, 3, (11, 27, 0), 27), (104, .iconst 1, 1, (0, 0, 0), 0), (105, .iadd, 1, (0, 0, 0), 0), (106, .putfield 330, 3, (11, 27, 0), 27), (109, .aload_n 0, 1, (0, 0, 0), 0), (110, .getfield 330, 3, (11, 27, 0), 27), (113, .iconst 1, 1, (0, 0, 0), 0), (114, .isub, 1, (0, 0, 0), 0), (115, .ireturn, 1, (0, 0, 1), 0), (116, .iconst (-1), 1, (0, 0, 0), 0), (117, .ireturn, 1, (0, 0, 1), 0)])]
def mc_R_isThing : List (Nat × List (Nat × Ent)) := [(11, [(0, .iload_n 1, 1, (0, 0, 0), 0), (1, .iconst 0, 1, (0, 0, 0), 0), (2, .aload_n 0, 1, (0, 0, 0), 0), (3, .getfield 299, 3, (11, 37, 0), 37), (6, .iconst 1, 1, (0, 0, 0), 0), (7, .isub, 1, (0, 0, 0), 0), (8, .invokestatic 234, 3, (179, 3, 0), 0), (11, .ireturn, 1, (0, 0, 3), 0)])]
def mc_R_isPerson : List (Nat × List (Nat × Ent)) := [(11, [(0, .iload_n 1, 1, (0, 0, 0), 0), (1, .iconst 0, 1, (0, 0, 0), 0), (2, .aload_n 0, 1, (0, 0, 0), 0), (3, .getfield 302, 3, (11, 38, 0), 38), (6, .iconst 1, 1, (0, 0, 0), 0), (7, .isub, 1, (0, 0, 0), 0), (8, .invokestatic 234, 3, (179, 3, 0), 0), (11, .ireturn, 1, (0, 0, 3), 0)])]
def mc_R_areTwo : List (Nat × List (Nat × Ent)) := [(26, [(0, .aload_n 0, 1, (0, 0, 0), 0), (1, .iload_n 1, 1, (0, 0, 0), 0), (2, .invokevirtual 333, 3, (229, 2, 0), 0), (5, .ifCond .eq 20, 3, (0, 0, 0), 0), (8, .aload_n 0, 1, (0, 0, 0), 0), (9, .iload_n 2, 1, (0, 0, 0), 0), (10, .invokevirtual 333, 3, (229, 2, 0), 0), (13, .ifCond .eq 12, 3, (0, 0, 0), 0), (16, .iload_n 1, 1, (0, 0, 0), 0), (17, .iload_n 2, 1, (0, 0, 0), 0), (18, .if_icmp .eq 7, 3, (0, 0, 0), 0), (21, .iconst 1, 1, (0, 0, 0), 0), (22, .goto 4, 3, (0, 0, 0), 0), (25, .iconst 0, 1, (0, 0, 0), 0), (26, .ireturn, 1, (0, 0, 3), 0)])]
def mc_R_firstsOf : List (Nat × List (Nat × Ent)) := [(11, [(0, .aload_n 0, 1, (0, 0, 0), 0), (1, .getfield 58, 3, (11, 28, 1), 28), (4, .bipush 8, 2, (0, 0, 0), 0), (6, .iload_n 1, 1, (0, 0, 0), 0), (7, .imul, 1, (0, 0, 0), 0), (8, .iload_n 2, 1, (0, 0, 0), 0), (9, .iadd, 1, (0, 0, 0), 0), (10, .iaload, 1, (0, 0, 0), 0), (11, .ireturn, 1, (0, 0, 1), 0)])]
def mc_R_did : List (Nat × List (Nat × Ent)) := [(13, [(0, .aload_n 0, 1, (0, 0, 0), 0), (1, .getfield 58, 3, (11, 28, 1), 28), (4, .bipush 48, 2, (0, 0, 0), 0), (6, .iload_n 1, 1, (0, 0, 0), 0), (7, .iadd, 1, (0, 0, 0), 0), (8, .iaload, 1, (0, 0, 0), 0), (9, .iload_n 2, 1, (0, 0, 0), 0), (10, .invokestatic 245, 3, (180, 2, 0), 0), (13, .ireturn, 1, (0, 0, 3), 0)])]
def mc_R_thing : List (Nat × List (Nat × Ent)) := [(40, [(0, .aload_n 0, 1, (0, 0, 0), 0), (1, .iload_n 1, 1, (0, 0, 0), 0), (2, .invokevirtual 336, 3, (228, 2, 0), 0), (5, .ifCond .eq 12, 3, (0, 0, 0), 0), (8, .iload_n 2, 1, (0, 0, 0), 0), (9, .iconst 0, 1, (0, 0, 0), 0), (10, .iconst 1, 1, (0, 0, 0), 0), (11, .invokestatic 234, 3, (179, 3, 0), 0), (14, .ifCond .ne 7, 3, (0, 0, 0), 0), (17, .iconst (-1), 1, (0, 0, 0), 0), (18, .goto 22, 3, (0, 0, 0), 0), (21, .iload_n 2, 1, (0, 0, 0), 0), (22, .ifCond .ne 12, 3, (0, 0, 0), 0), (25, .aload_n 0, 1, (0, 0, 0), 0), (26, .getfield 61, 3, (11, 29, 1), 29), (29, .iload_n 1, 1, (0, 0, 0), 0), (30, .iaload, 1, (0, 0, 0), 0), (31, .goto 9, 3, (0, 0, 0), 0), (34, .aload_n 0, 1, (0, 0, 0), 0), (35, .getfield 64, 3, (11, 30, 1), 30), (38, .iload_n 1, 1, (0, 0, 0), 0), (39, .iaload, 1, (0, 0, 0), 0), (40, .ireturn, 1, (0, 0, 1), 0)])]
def mc_R_person : List (Nat × List (Nat × Ent)) := [(69, [(0, .aload_n 0, 1, (0, 0, 0), 0), (1, .aload_n 0, 1, (0, 0, 0), 0), (2, .iload_n 1, 1, (0, 0, 0), 0), (3, .invokevirtual 333, 3, (229, 2, 0), 0), (6, .ifCond .eq 16, 3, (0, 0, 0), 0), (9, .iload_n 2, 1, (0, 0, 0), 0), (10, .iconst 0, 1, (0, 0, 0), 0), (11, .iconst 4, 1, (0, 0, 0), 0), (12, .invokestatic 234, 3, (179, 3, 0), 0), (15, .ifCond .eq 7, 3, (0, 0, 0), 0), (18, .iconst 0, 1, (0, 0, 0), 0), (19, .goto 4, 3, (0, 0, 0), 0), (22, .iconst 1, 1, (0, 0, 0), 0), (23, .putfield 119, 3, (11, 0, 0), 0), (26, .aload_n 0, 1, (0, 0, 0), 0), (27, .getfield 119, 3, (11, 0, 0), 0), (30, .iconst 1, 1, (0, 0, 0), 0), (31, .if_icmp .ne 5, 3, (0, 0, 0), 0), (34, .iconst 0, 1, (0, 0, 0), 0), (35, .ireturn, 1, (0, 0, 1), 0), (36, .iload_n 2, 1, (0, 0, 0), 0), (37, .tableswitch 68 0 3 #[31, 41, 51, 58], 31, (0, 0, 0), 0), (68, .aload_n 0, 1, (0, 0, 0), 0), (69, .getfield 58, 3, (11, 28, 1), 28)]), (104, [(72, .bipush 60, 2, (0, 0, 0), 0), (74, .iload_n 1, 1, (0, 0, 0), 0), (75, .iadd, 1, (0, 0, 0), 0), (76, .iaload, 1, (0, 0, 0), 0), (77, .ireturn, 1, (0, 0, 1), 0), (78, .aload_n 0, 1, (0, 0, 0), 0), (79, .getfield 58, 3, (11, 28, 1), 28), (82, .bipush 66, 2, (0, 0, 0), 0), (84, .iload_n 1, 1, (0, 0, 0), 0), (85, .iadd, 1, (0, 0, 0), 0), (86, .iaload, 1, (0, 0, 0), 0), (87, .ireturn, 1, (0, 0, 1), 0), (88, .aload_n 0, 1, (0, 0, 0), 0), (89, .getfield 67, 3, (11, 31, 1), 31), (92, .iload_n 1, 1, (0, 0, 0), 0), (93, .iaload, 1, (0, 0, 0), 0), (94, .ireturn, 1, (0, 0, 1), 0), (95, .aload_n 0, 1, (0, 0, 0), 0), (96, .getfield 58, 3, (11, 28, 1), 28), (99, .bipush 54, 2, (0, 0, 0), 0), (101, .iload_n 1, 1, (0, 0, 0), 0), (102, .iadd, 1, (0, 0, 0), 0), (103, .iaload, 1, (0, 0, 0), 0), (104, .ireturn, 1, (0, 0, 1), 0)]), (114, [(105, .aload_n 0, 1, (0, 0, 0), 0), (106, .getfield 58, 3, (11, 28, 1), 28), (109, .bipush 48, 2, (0, 0, 0), 0), (111, .iload_n 1, 1, (0, 0, 0), 0), (112, .iadd, 1, (0, 0, 0), 0), (113, .iaload, 1, (0, 0, 0), 0), (114, .ireturn, 1, (0, 0, 1), 0)])]
def mc_R_firsts : List (Nat × List (Nat × Ent)) := [(26, [(0, .aload_n 0, 1, (0, 0, 0), 0), (1, .iload_n 1, 1, (0, 0, 0), 0), (2, .invokevirtual 333, 3, (229, 2, 0), 0), (5, .ifCond .eq 20, 3, (0, 0, 0), 0), (8, .aload_n 0, 1, (0, 0, 0), 0), (9, .iload_n 2, 1, (0, 0, 0), 0), (10, .invokevirtual 336, 3, (228, 2, 0), 0), (13, .ifCond .eq 12, 3, (0, 0, 0), 0), (16, .aload_n 0, 1, (0, 0, 0), 0), (17, .iload_n 1, 1, (0, 0, 0), 0), (18, .iload_n 2, 1, (0, 0, 0), 0), (19, .invokevirtual 339, 3, (231, 3, 0), 0), (22, .goto 4, 3, (0, 0, 0), 0), (25, .iconst (-1), 1, (0, 0, 0), 0), (26, .ireturn, 1, (0, 0, 1), 0)])]
def mc_R_spoil : List (Nat × List (Nat × Ent)) := [(41, [(0, .iload_n 1, 1, (0, 0, 0), 0), (1, .iconst 0, 1, (0, 0, 0), 0), (2, .aload_n 0, 1, (0, 0, 0), 0), (3, .getfield 305, 3, (11, 39, 0), 39), (6, .iconst 1, 1, (0, 0, 0), 0), (7, .isub, 1, (0, 0, 0), 0), (8, .invokestatic 234, 3, (179, 3, 0), 0), (11, .ifCond .eq 12, 3, (0, 0, 0), 0), (14, .iload_n 2, 1, (0, 0, 0), 0), (15, .iconst 0, 1, (0, 0, 0), 0), (16, .iconst 2, 1, (0, 0, 0), 0), (17, .invokestatic 234, 3, (179, 3, 0), 0), (20, .ifCond .ne 7, 3, (0, 0, 0), 0), (23, .iconst (-1), 1, (0, 0, 0), 0), (24, .goto 36, 3, (0, 0, 0), 0), (27, .iload_n 2, 1, (0, 0, 0), 0), (28, .ifCond .ne 12, 3, (0, 0, 0), 0), (31, .aload_n 0, 1, (0, 0, 0), 0), (32, .getfield 70, 3, (11, 32, 1), 32), (35, .iload_n 1, 1, (0, 0, 0), 0), (36, .iaload, 1, (0, 0, 0), 0), (37, .goto 23, 3, (0, 0, 0), 0), (40, .iload_n 2, 1, (0, 0, 0), 0), (41, .iconst 1, 1, (0, 0, 0), 0)]), (60, [(42, .if_icmp .ne 12, 3, (0, 0, 0), 0), (45, .aload_n 0, 1, (0, 0, 0), 0), (46, .getfield 73, 3, (11, 33, 1), 33), (49, .iload_n 1, 1, (0, 0, 0), 0), (50, .iaload, 1, (0, 0, 0), 0), (51, .goto 9, 3, (0, 0, 0), 0), (54, .aload_n 0, 1, (0, 0, 0), 0), (55, .getfield 76, 3, (11, 34, 1), 34), (58, .iload_n 1, 1, (0, 0, 0), 0), (59, .iaload, 1, (0, 0, 0), 0), (60, .ireturn, 1, (0, 0, 1), 0)])]
def mc_R_coming : List (Nat × List (Nat × Ent)) := [(41, [(0, .iload_n 1, 1, (0, 0, 0), 0), (1, .iconst 0, 1, (0, 0, 0), 0), (2, .aload_n 0, 1, (0, 0, 0), 0), (3, .getfield 308, 3, (11, 40, 0), 40), (6, .iconst 1, 1, (0, 0, 0), 0), (7, .isub, 1, (0, 0, 0), 0), (8, .invokestatic 234, 3, (179, 3, 0), 0), (11, .ifCond .eq 12, 3, (0, 0, 0), 0), (14, .iload_n 2, 1, (0, 0, 0), 0), (15, .iconst 0, 1, (0, 0, 0), 0), (16, .iconst 1, 1, (0, 0, 0), 0), (17, .invokestatic 234, 3, (179, 3, 0), 0), (20, .ifCond .ne 7, 3, (0, 0, 0), 0), (23, .iconst (-1), 1, (0, 0, 0), 0), (24, .goto 22, 3, (0, 0, 0), 0), (27, .iload_n 2, 1, (0, 0, 0), 0), (28, .ifCond .ne 12, 3, (0, 0, 0), 0), (31, .aload_n 0, 1, (0, 0, 0), 0), (32, .getfield 79, 3, (11, 35, 1), 35), (35, .iload_n 1, 1, (0, 0, 0), 0), (36, .iaload, 1, (0, 0, 0), 0), (37, .goto 9, 3, (0, 0, 0), 0), (40, .aload_n 0, 1, (0, 0, 0), 0), (41, .getfield 82, 3, (11, 36, 1), 36)]), (46, [(44, .iload_n 1, 1, (0, 0, 0), 0), (45, .iaload, 1, (0, 0, 0), 0), (46, .ireturn, 1, (0, 0, 1), 0)])]
def mc_R_taste : List (Nat × List (Nat × Ent)) := [(22, [(0, .iload_n 1, 1, (0, 0, 0), 0), (1, .iconst (-1), 1, (0, 0, 0), 0), (2, .aload_n 0, 1, (0, 0, 0), 0), (3, .getfield 327, 3, (11, 13, 0), 13), (6, .iconst 1, 1, (0, 0, 0), 0), (7, .isub, 1, (0, 0, 0), 0), (8, .invokestatic 234, 3, (179, 3, 0), 0), (11, .ifCond .ne 5, 3, (0, 0, 0), 0), (14, .iconst 0, 1, (0, 0, 0), 0), (15, .ireturn, 1, (0, 0, 3), 0), (16, .aload_n 0, 1, (0, 0, 0), 0), (17, .iload_n 1, 1, (0, 0, 0), 0), (18, .putfield 85, 3, (11, 42, 0), 42), (21, .iconst 1, 1, (0, 0, 0), 0), (22, .ireturn, 1, (0, 0, 3), 0)])]
def mc_R_theft : List (Nat × List (Nat × Ent)) := [(26, [(0, .iload_n 1, 1, (0, 0, 0), 0), (1, .iconst 0, 1, (0, 0, 0), 0), (2, .bipush 99, 2, (0, 0, 0), 0), (4, .invokestatic 234, 3, (179, 3, 0), 0), (7, .ifCond .eq 11, 3, (0, 0, 0), 0), (10, .iload_n 1, 1, (0, 0, 0), 0), (11, .aload_n 0, 1, (0, 0, 0), 0), (12, .getfield 342, 3, (11, 41, 0), 41), (15, .if_icmp .ne 5, 3, (0, 0, 0), 0), (18, .iconst 0, 1, (0, 0, 0), 0), (19, .ireturn, 1, (0, 0, 3), 0), (20, .aload_n 0, 1, (0, 0, 0), 0), (21, .iload_n 1, 1, (0, 0, 0), 0), (22, .putfield 342, 3, (11, 41, 0), 41), (25, .iconst 1, 1, (0, 0, 0), 0), (26, .ireturn, 1, (0, 0, 3), 0)])]
def mc_R_wholeOf : List (Nat × List (Nat × Ent)) := [(36, [(0, .aload_n 0, 1, (0, 0, 0), 0), (1, .getfield 61, 3, (11, 29, 1), 29), (4, .iload_n 2, 1, (0, 0, 0), 0), (5, .iaload, 1, (0, 0, 0), 0), (6, .aload_n 0, 1, (0, 0, 0), 0), (7, .getfield 64, 3, (11, 30, 1), 30), (10, .iload_n 2, 1, (0, 0, 0), 0), (11, .iaload, 1, (0, 0, 0), 0), (12, .aload_n 0, 1, (0, 0, 0), 0), (13, .getfield 58, 3, (11, 28, 1), 28), (16, .bipush 72, 2, (0, 0, 0), 0), (18, .iaload, 1, (0, 0, 0), 0), (19, .imul, 1, (0, 0, 0), 0), (20, .iadd, 1, (0, 0, 0), 0), (21, .istore_n 3, 1, (0, 0, 0), 0), (22, .aload_n 0, 1, (0, 0, 0), 0), (23, .getfield 85, 3, (11, 42, 0), 42), (26, .iconst (-1), 1, (0, 0, 0), 0), (27, .if_icmp .ne 24, 3, (0, 0, 0), 0), (30, .aload_n 0, 1, (0, 0, 0), 0), (31, .getfield 67, 3, (11, 31, 1), 31), (34, .iload_n 1, 1, (0, 0, 0), 0), (35, .iaload, 1, (0, 0, 0), 0), (36, .iload_n 2, 1, (0, 0, 0), 0)]), (74, [(37, .if_icmp .ne 9, 3, (0, 0, 0), 0), (40, .iconst 2, 1, (0, 0, 0), 0), (41, .iload_n 3, 1, (0, 0, 0), 0), (42, .imul, 1, (0, 0, 0), 0), (43, .goto 4, 3, (0, 0, 0), 0), (46, .iload_n 3, 1, (0, 0, 0), 0), (47, .istore_n 3, 1, (0, 0, 0), 0), (48, .goto 119, 3, (0, 0, 0), 0), (51, .aload_n 0, 1, (0, 0, 0), 0), (52, .getfield 34, 3, (11, 15, 1), 15), (55, .iconst 0, 1, (0, 0, 0), 0), (56, .aload_n 0, 1, (0, 0, 0), 0), (57, .getfield 61, 3, (11, 29, 1), 29), (60, .iload_n 2, 1, (0, 0, 0), 0), (61, .iaload, 1, (0, 0, 0), 0), (62, .iastore, 1, (0, 0, 0), 0), (63, .aload_n 0, 1, (0, 0, 0), 0), (64, .getfield 34, 3, (11, 15, 1), 15), (67, .iconst 1, 1, (0, 0, 0), 0), (68, .aload_n 0, 1, (0, 0, 0), 0), (69, .getfield 64, 3, (11, 30, 1), 30), (72, .iload_n 2, 1, (0, 0, 0), 0), (73, .iaload, 1, (0, 0, 0), 0), (74, .iastore, 1, (0, 0, 0), 0)]), (112, [(75, .aload_n 0, 1, (0, 0, 0), 0), (76, .getfield 34, 3, (11, 15, 1), 15), (79, .iconst 2, 1, (0, 0, 0), 0), (80, .aload_n 0, 1, (0, 0, 0), 0), (81, .getfield 58, 3, (11, 28, 1), 28), (84, .bipush 72, 2, (0, 0, 0), 0), (86, .iaload, 1, (0, 0, 0), 0), (87, .iastore, 1, (0, 0, 0), 0), (88, .aload_n 0, 1, (0, 0, 0), 0), (89, .getfield 34, 3, (11, 15, 1), 15), (92, .iconst 3, 1, (0, 0, 0), 0), (93, .aload_n 0, 1, (0, 0, 0), 0), (94, .getfield 58, 3, (11, 28, 1), 28), (97, .bipush 66, 2, (0, 0, 0), 0), (99, .iload_n 1, 1, (0, 0, 0), 0), (100, .iadd, 1, (0, 0, 0), 0), (101, .iaload, 1, (0, 0, 0), 0), (102, .iastore, 1, (0, 0, 0), 0), (103, .aload_n 0, 1, (0, 0, 0), 0), (104, .getfield 34, 3, (11, 15, 1), 15), (107, .iconst 4, 1, (0, 0, 0), 0), (108, .aload_n 0, 1, (0, 0, 0), 0), (109, .getfield 58, 3, (11, 28, 1), 28), (112, .bipush 60, 2, (0, 0, 0), 0)]), (151, [(114, .iload_n 1, 1, (0, 0, 0), 0), (115, .iadd, 1, (0, 0, 0), 0), (116, .iaload, 1, (0, 0, 0), 0), (117, .iastore, 1, (0, 0, 0), 0), (118, .aload_n 0, 1, (0, 0, 0), 0), (119, .getfield 34, 3, (11, 15, 1), 15), (122, .iconst 5, 1, (0, 0, 0), 0), (123, .aload_n 0, 1, (0, 0, 0), 0), (124, .getfield 67, 3, (11, 31, 1), 31), (127, .iload_n 1, 1, (0, 0, 0), 0), (128, .iaload, 1, (0, 0, 0), 0), (129, .iload_n 2, 1, (0, 0, 0), 0), (130, .if_icmp .ne 7, 3, (0, 0, 0), 0), (133, .iconst 1, 1, (0, 0, 0), 0), (134, .goto 4, 3, (0, 0, 0), 0), (137, .iconst 0, 1, (0, 0, 0), 0), (138, .iastore, 1, (0, 0, 0), 0), (139, .aload_n 0, 1, (0, 0, 0), 0), (140, .getfield 34, 3, (11, 15, 1), 15), (143, .bipush 6, 2, (0, 0, 0), 0), (145, .aload_n 0, 1, (0, 0, 0), 0), (146, .getfield 58, 3, (11, 28, 1), 28), (149, .bipush 48, 2, (0, 0, 0), 0), (151, .iload_n 1, 1, (0, 0, 0), 0)]), (178, [(152, .iadd, 1, (0, 0, 0), 0), (153, .iaload, 1, (0, 0, 0), 0), (154, .invokestatic 345, 3, (313, 1, 0), 0), (157, .iastore, 1, (0, 0, 0), 0), (158, .aload_n 0, 1, (0, 0, 0), 0), (159, .aload_n 0, 1, (0, 0, 0), 0), (160, .getfield 85, 3, (11, 42, 0), 42), (163, .invokevirtual 350, 3, (211, 2, 0), 0), (166, .istore_n 3, 1, (0, 0, 0), 0), (167, .iconst 0, 1, (0, 0, 0), 0), (168, .sipush 999, 3, (0, 0, 0), 0), (171, .iload_n 3, 1, (0, 0, 0), 0), (172, .invokestatic 353, 3, (316, 2, 0), 0), (175, .invokestatic 355, 3, (314, 2, 0), 0), (178, .ireturn, 1, (0, 0, 1), 0)])]
def mc_R_spoiltBy : List (Nat × List (Nat × Ent)) := [(41, [(0, .iconst 0, 1, (0, 0, 0), 0), (1, .istore_n 3, 1, (0, 0, 0), 0), (2, .iconst 0, 1, (0, 0, 0), 0), (3, .istore 4, 2, (0, 0, 0), 0), (5, .iload 4, 2, (0, 0, 0), 0), (7, .aload_n 0, 1, (0, 0, 0), 0), (8, .getfield 305, 3, (11, 39, 0), 39), (11, .if_icmp .ge 48, 3, (0, 0, 0), 0), (14, .iload_n 3, 1, (0, 0, 0), 0), (15, .aload_n 0, 1, (0, 0, 0), 0), (16, .getfield 73, 3, (11, 33, 1), 33), (19, .iload 4, 2, (0, 0, 0), 0), (21, .iaload, 1, (0, 0, 0), 0), (22, .iload_n 2, 1, (0, 0, 0), 0), (23, .if_icmp .ne 27, 3, (0, 0, 0), 0), (26, .iload_n 1, 1, (0, 0, 0), 0), (27, .aload_n 0, 1, (0, 0, 0), 0), (28, .getfield 70, 3, (11, 32, 1), 32), (31, .iload 4, 2, (0, 0, 0), 0), (33, .iaload, 1, (0, 0, 0), 0), (34, .invokestatic 245, 3, (180, 2, 0), 0), (37, .ifCond .eq 13, 3, (0, 0, 0), 0), (40, .aload_n 0, 1, (0, 0, 0), 0), (41, .getfield 76, 3, (11, 34, 1), 34)]), (65, [(44, .iload 4, 2, (0, 0, 0), 0), (46, .iaload, 1, (0, 0, 0), 0), (47, .goto 4, 3, (0, 0, 0), 0), (50, .iconst 0, 1, (0, 0, 0), 0), (51, .iadd, 1, (0, 0, 0), 0), (52, .istore_n 3, 1, (0, 0, 0), 0), (53, .iinc 4 1, 3, (0, 0, 0), 0), (56, .goto (-51), 3, (0, 0, 0), 0), (59, .bipush 10, 2, (0, 0, 0), 0), (61, .iload_n 3, 1, (0, 0, 0), 0), (62, .invokestatic 353, 3, (316, 2, 0), 0), (65, .ireturn, 1, (0, 0, 1), 0)])]
def mc_R_joyOf : List (Nat × List (Nat × Ent)) := [(27, [(0, .aload_n 0, 1, (0, 0, 0), 0), (1, .iload_n 1, 1, (0, 0, 0), 0), (2, .iload_n 2, 1, (0, 0, 0), 0), (3, .invokevirtual 357, 3, (240, 3, 0), 0), (6, .bipush 10, 2, (0, 0, 0), 0), (8, .aload_n 0, 1, (0, 0, 0), 0), (9, .aload_n 0, 1, (0, 0, 0), 0), (10, .getfield 58, 3, (11, 28, 1), 28), (13, .bipush 48, 2, (0, 0, 0), 0), (15, .iload_n 1, 1, (0, 0, 0), 0), (16, .iadd, 1, (0, 0, 0), 0), (17, .iaload, 1, (0, 0, 0), 0), (18, .iload_n 2, 1, (0, 0, 0), 0), (19, .invokevirtual 360, 3, (241, 3, 0), 0), (22, .isub, 1, (0, 0, 0), 0), (23, .imul, 1, (0, 0, 0), 0), (24, .bipush 10, 2, (0, 0, 0), 0), (26, .idiv, 1, (0, 0, 0), 0), (27, .ireturn, 1, (0, 0, 1), 0)])]
def mc_R_joy : List (Nat × List (Nat × Ent)) := [(41, [(0, .aload_n 0, 1, (0, 0, 0), 0), (1, .iload_n 1, 1, (0, 0, 0), 0), (2, .invokevirtual 333, 3, (229, 2, 0), 0), (5, .ifCond .eq 20, 3, (0, 0, 0), 0), (8, .aload_n 0, 1, (0, 0, 0), 0), (9, .iload_n 2, 1, (0, 0, 0), 0), (10, .invokevirtual 336, 3, (228, 2, 0), 0), (13, .ifCond .eq 12, 3, (0, 0, 0), 0), (16, .iload_n 3, 1, (0, 0, 0), 0), (17, .iconst 0, 1, (0, 0, 0), 0), (18, .iconst 2, 1, (0, 0, 0), 0), (19, .invokestatic 234, 3, (179, 3, 0), 0), (22, .ifCond .ne 5, 3, (0, 0, 0), 0), (25, .iconst (-1), 1, (0, 0, 0), 0), (26, .ireturn, 1, (0, 0, 1), 0), (27, .iload_n 3, 1, (0, 0, 0), 0), (28, .ifCond .ne 12, 3, (0, 0, 0), 0), (31, .aload_n 0, 1, (0, 0, 0), 0), (32, .iload_n 1, 1, (0, 0, 0), 0), (33, .iload_n 2, 1, (0, 0, 0), 0), (34, .invokevirtual 357, 3, (240, 3, 0), 0), (37, .goto 31, 3, (0, 0, 0), 0), (40, .iload_n 3, 1, (0, 0, 0), 0), (41, .iconst 1, 1, (0, 0, 0), 0)]), (68, [(42, .if_icmp .ne 20, 3, (0, 0, 0), 0), (45, .aload_n 0, 1, (0, 0, 0), 0), (46, .aload_n 0, 1, (0, 0, 0), 0), (47, .getfield 58, 3, (11, 28, 1), 28), (50, .bipush 48, 2, (0, 0, 0), 0), (52, .iload_n 1, 1, (0, 0, 0), 0), (53, .iadd, 1, (0, 0, 0), 0), (54, .iaload, 1, (0, 0, 0), 0), (55, .iload_n 2, 1, (0, 0, 0), 0), (56, .invokevirtual 360, 3, (241, 3, 0), 0), (59, .goto 9, 3, (0, 0, 0), 0), (62, .aload_n 0, 1, (0, 0, 0), 0), (63, .iload_n 1, 1, (0, 0, 0), 0), (64, .iload_n 2, 1, (0, 0, 0), 0), (65, .invokevirtual 363, 3, (242, 3, 0), 0), (68, .ireturn, 1, (0, 0, 1), 0)])]
def mc_R_keep : List (Nat × List (Nat × Ent)) := [(44, [(0, .aload_n 0, 1, (0, 0, 0), 0), (1, .getfield 317, 3, (11, 45, 0), 45), (4, .bipush 40, 2, (0, 0, 0), 0), (6, .if_icmp .ne 46, 3, (0, 0, 0), 0), (9, .sipush 355, 3, (0, 0, 0), 0), (12, .istore_n 1, 1, (0, 0, 0), 0), (13, .iload_n 1, 1, (0, 0, 0), 0), (14, .sipush 14200, 3, (0, 0, 0), 0), (17, .if_icmp .ge 25, 3, (0, 0, 0), 0), (20, .aload_n 0, 1, (0, 0, 0), 0), (21, .getfield 89, 3, (11, 44, 1), 44), (24, .iload_n 1, 1, (0, 0, 0), 0), (25, .sipush 355, 3, (0, 0, 0), 0), (28, .isub, 1, (0, 0, 0), 0), (29, .aload_n 0, 1, (0, 0, 0), 0), (30, .getfield 89, 3, (11, 44, 1), 44), (33, .iload_n 1, 1, (0, 0, 0), 0), (34, .iaload, 1, (0, 0, 0), 0), (35, .iastore, 1, (0, 0, 0), 0), (36, .iinc 1 1, 3, (0, 0, 0), 0), (39, .goto (-26), 3, (0, 0, 0), 0), (42, .aload_n 0, 1, (0, 0, 0), 0), (43, .dup, 1, (0, 0, 0), 0), (44, .getfield 317, 3, (11, 45, 0), 45)]), (88, [(47, .iconst 1, 1, (0, 0, 0), 0), (48, .isub, 1, (0, 0, 0), 0), (49, .putfield 317, 3, (11, 45, 0), 45), (52, .iconst 0, 1, (0, 0, 0), 0), (53, .istore_n 1, 1, (0, 0, 0), 0), (54, .iload_n 1, 1, (0, 0, 0), 0), (55, .sipush 355, 3, (0, 0, 0), 0), (58, .if_icmp .ge 30, 3, (0, 0, 0), 0), (61, .aload_n 0, 1, (0, 0, 0), 0), (62, .getfield 89, 3, (11, 44, 1), 44), (65, .sipush 355, 3, (0, 0, 0), 0), (68, .aload_n 0, 1, (0, 0, 0), 0), (69, .getfield 317, 3, (11, 45, 0), 45), (72, .imul, 1, (0, 0, 0), 0), (73, .iload_n 1, 1, (0, 0, 0), 0), (74, .iadd, 1, (0, 0, 0), 0), (75, .aload_n 0, 1, (0, 0, 0), 0), (76, .getfield 58, 3, (11, 28, 1), 28), (79, .iload_n 1, 1, (0, 0, 0), 0), (80, .iaload, 1, (0, 0, 0), 0), (81, .iastore, 1, (0, 0, 0), 0), (82, .iinc 1 1, 3, (0, 0, 0), 0), (85, .goto (-31), 3, (0, 0, 0), 0), (88, .aload_n 0, 1, (0, 0, 0), 0)]), (98, [(89, .dup, 1, (0, 0, 0), 0), (90, .getfield 317, 3, (11, 45, 0), 45), (93, .iconst 1, 1, (0, 0, 0), 0), (94, .iadd, 1, (0, 0, 0), 0), (95, .putfield 317, 3, (11, 45, 0), 45), (98, .return_, 1, (0, 0, 0), 0)])]
def mc_R_note : List (Nat × List (Nat × Ent)) := [(43, [(0, .aload_n 0, 1, (0, 0, 0), 0), (1, .getfield 366, 3, (11, 43, 3), 43), (4, .ifCond .eq 4, 3, (0, 0, 0), 0), (7, .return_, 1, (0, 0, 0), 0), (8, .aload_n 0, 1, (0, 0, 0), 0), (9, .getfield 58, 3, (11, 28, 1), 28), (12, .bipush 114, 2, (0, 0, 0), 0), (14, .iaload, 1, (0, 0, 0), 0), (15, .bipush 60, 2, (0, 0, 0), 0), (17, .if_icmp .ne 53, 3, (0, 0, 0), 0), (20, .iconst 4, 1, (0, 0, 0), 0), (21, .istore 4, 2, (0, 0, 0), 0), (23, .iload 4, 2, (0, 0, 0), 0), (25, .sipush 240, 3, (0, 0, 0), 0), (28, .if_icmp .ge 31, 3, (0, 0, 0), 0), (31, .aload_n 0, 1, (0, 0, 0), 0), (32, .getfield 58, 3, (11, 28, 1), 28), (35, .bipush 115, 2, (0, 0, 0), 0), (37, .iload 4, 2, (0, 0, 0), 0), (39, .iadd, 1, (0, 0, 0), 0), (40, .iconst 4, 1, (0, 0, 0), 0), (41, .isub, 1, (0, 0, 0), 0), (42, .aload_n 0, 1, (0, 0, 0), 0), (43, .getfield 58, 3, (11, 28, 1), 28)]), (82, [(46, .bipush 115, 2, (0, 0, 0), 0), (48, .iload 4, 2, (0, 0, 0), 0), (50, .iadd, 1, (0, 0, 0), 0), (51, .iaload, 1, (0, 0, 0), 0), (52, .iastore, 1, (0, 0, 0), 0), (53, .iinc 4 1, 3, (0, 0, 0), 0), (56, .goto (-33), 3, (0, 0, 0), 0), (59, .aload_n 0, 1, (0, 0, 0), 0), (60, .getfield 58, 3, (11, 28, 1), 28), (63, .bipush 114, 2, (0, 0, 0), 0), (65, .dup2, 1, (0, 0, 0), 0), (66, .iaload, 1, (0, 0, 0), 0), (67, .iconst 1, 1, (0, 0, 0), 0), (68, .isub, 1, (0, 0, 0), 0), (69, .iastore, 1, (0, 0, 0), 0), (70, .bipush 115, 2, (0, 0, 0), 0), (72, .iconst 4, 1, (0, 0, 0), 0), (73, .aload_n 0, 1, (0, 0, 0), 0), (74, .getfield 58, 3, (11, 28, 1), 28), (77, .bipush 114, 2, (0, 0, 0), 0), (79, .iaload, 1, (0, 0, 0), 0), (80, .imul, 1, (0, 0, 0), 0), (81, .iadd, 1, (0, 0, 0), 0), (82, .istore 4, 2, (0, 0, 0), 0)]), (119, [(84, .aload_n 0, 1, (0, 0, 0), 0), (85, .getfield 58, 3, (11, 28, 1), 28), (88, .iload 4, 2, (0, 0, 0), 0), (90, .iload_n 1, 1, (0, 0, 0), 0), (91, .iastore, 1, (0, 0, 0), 0), (92, .aload_n 0, 1, (0, 0, 0), 0), (93, .getfield 58, 3, (11, 28, 1), 28), (96, .iload 4, 2, (0, 0, 0), 0), (98, .iconst 1, 1, (0, 0, 0), 0), (99, .iadd, 1, (0, 0, 0), 0), (100, .iload_n 2, 1, (0, 0, 0), 0), (101, .iastore, 1, (0, 0, 0), 0), (102, .aload_n 0, 1, (0, 0, 0), 0), (103, .getfield 58, 3, (11, 28, 1), 28), (106, .iload 4, 2, (0, 0, 0), 0), (108, .iconst 2, 1, (0, 0, 0), 0), (109, .iadd, 1, (0, 0, 0), 0), (110, .iload_n 3, 1, (0, 0, 0), 0), (111, .iastore, 1, (0, 0, 0), 0), (112, .aload_n 0, 1, (0, 0, 0), 0), (113, .getfield 58, 3, (11, 28, 1), 28), (116, .iload 4, 2, (0, 0, 0), 0), (118, .iconst 3, 1, (0, 0, 0), 0), (119, .iadd, 1, (0, 0, 0), 0)]), (139, [(120, .aload_n 0, 1, (0, 0, 0), 0), (121, .getfield 58, 3, (11, 28, 1), 28), (124, .bipush 72, 2, (0, 0, 0), 0), (126, .iaload, 1, (0, 0, 0), 0), (127, .iastore, 1, (0, 0, 0), 0), (128, .aload_n 0, 1, (0, 0, 0), 0), (129, .getfield 58, 3, (11, 28, 1), 28), (132, .bipush 114, 2, (0, 0, 0), 0), (134, .dup2, 1, (0, 0, 0), 0), (135, .iaload, 1, (0, 0, 0), 0), (136, .iconst 1, 1, (0, 0, 0), 0), (137, .iadd, 1, (0, 0, 0), 0), (138, .iastore, 1, (0, 0, 0), 0), (139, .return_, 1, (0, 0, 0), 0)])]
def mc_R_haveFor : List (Nat × List (Nat × Ent)) := [(30, [(0, .iload_n 3, 1, (0, 0, 0), 0), (1, .istore 4, 2, (0, 0, 0), 0), (3, .aload_n 0, 1, (0, 0, 0), 0), (4, .getfield 58, 3, (11, 28, 1), 28), (7, .bipush 8, 2, (0, 0, 0), 0), (9, .iload_n 1, 1, (0, 0, 0), 0), (10, .imul, 1, (0, 0, 0), 0), (11, .iload_n 2, 1, (0, 0, 0), 0), (12, .iadd, 1, (0, 0, 0), 0), (13, .dup2, 1, (0, 0, 0), 0), (14, .iaload, 1, (0, 0, 0), 0), (15, .iconst 1, 1, (0, 0, 0), 0), (16, .isub, 1, (0, 0, 0), 0), (17, .iastore, 1, (0, 0, 0), 0), (18, .aload_n 0, 1, (0, 0, 0), 0), (19, .getfield 58, 3, (11, 28, 1), 28), (22, .bipush 48, 2, (0, 0, 0), 0), (24, .iload_n 1, 1, (0, 0, 0), 0), (25, .iadd, 1, (0, 0, 0), 0), (26, .dup2, 1, (0, 0, 0), 0), (27, .iaload, 1, (0, 0, 0), 0), (28, .iconst 1, 1, (0, 0, 0), 0), (29, .iload_n 2, 1, (0, 0, 0), 0), (30, .ishl, 1, (0, 0, 0), 0)]), (65, [(31, .ior, 1, (0, 0, 0), 0), (32, .iastore, 1, (0, 0, 0), 0), (33, .aload_n 0, 1, (0, 0, 0), 0), (34, .getfield 58, 3, (11, 28, 1), 28), (37, .bipush 54, 2, (0, 0, 0), 0), (39, .iload_n 1, 1, (0, 0, 0), 0), (40, .iadd, 1, (0, 0, 0), 0), (41, .dup2, 1, (0, 0, 0), 0), (42, .iaload, 1, (0, 0, 0), 0), (43, .iload_n 3, 1, (0, 0, 0), 0), (44, .iadd, 1, (0, 0, 0), 0), (45, .iastore, 1, (0, 0, 0), 0), (46, .aload_n 0, 1, (0, 0, 0), 0), (47, .iload_n 1, 1, (0, 0, 0), 0), (48, .iload_n 2, 1, (0, 0, 0), 0), (49, .iload_n 3, 1, (0, 0, 0), 0), (50, .invokevirtual 369, 3, (245, 4, 0), 0), (53, .iconst 0, 1, (0, 0, 0), 0), (54, .istore 5, 2, (0, 0, 0), 0), (56, .iload 5, 2, (0, 0, 0), 0), (58, .aload_n 0, 1, (0, 0, 0), 0), (59, .getfield 308, 3, (11, 40, 0), 40), (62, .if_icmp .ge 70, 3, (0, 0, 0), 0), (65, .aload_n 0, 1, (0, 0, 0), 0)]), (109, [(66, .getfield 82, 3, (11, 36, 1), 36), (69, .iload 5, 2, (0, 0, 0), 0), (71, .iaload, 1, (0, 0, 0), 0), (72, .istore 6, 2, (0, 0, 0), 0), (74, .aload_n 0, 1, (0, 0, 0), 0), (75, .getfield 79, 3, (11, 35, 1), 35), (78, .iload 5, 2, (0, 0, 0), 0), (80, .iaload, 1, (0, 0, 0), 0), (81, .iload_n 2, 1, (0, 0, 0), 0), (82, .if_icmp .ne 44, 3, (0, 0, 0), 0), (85, .aload_n 0, 1, (0, 0, 0), 0), (86, .iload_n 1, 1, (0, 0, 0), 0), (87, .iload 6, 2, (0, 0, 0), 0), (89, .invokevirtual 373, 3, (232, 3, 0), 0), (92, .ifCond .ne 34, 3, (0, 0, 0), 0), (95, .aload_n 0, 1, (0, 0, 0), 0), (96, .iload_n 1, 1, (0, 0, 0), 0), (97, .iload 6, 2, (0, 0, 0), 0), (99, .invokevirtual 339, 3, (231, 3, 0), 0), (102, .ifCond .le 24, 3, (0, 0, 0), 0), (105, .iload 4, 2, (0, 0, 0), 0), (107, .aload_n 0, 1, (0, 0, 0), 0), (108, .iload_n 1, 1, (0, 0, 0), 0), (109, .iload 6, 2, (0, 0, 0), 0)]), (134, [(111, .aload_n 0, 1, (0, 0, 0), 0), (112, .iload_n 1, 1, (0, 0, 0), 0), (113, .iload 6, 2, (0, 0, 0), 0), (115, .invokevirtual 363, 3, (242, 3, 0), 0), (118, .iconst 2, 1, (0, 0, 0), 0), (119, .idiv, 1, (0, 0, 0), 0), (120, .invokevirtual 376, 3, (246, 4, 0), 0), (123, .iadd, 1, (0, 0, 0), 0), (124, .istore 4, 2, (0, 0, 0), 0), (126, .iinc 5 1, 3, (0, 0, 0), 0), (129, .goto (-73), 3, (0, 0, 0), 0), (132, .iload 4, 2, (0, 0, 0), 0), (134, .ireturn, 1, (0, 0, 1), 0)])]
def mc_R_haveNow : List (Nat × List (Nat × Ent)) := [(12, [(0, .aload_n 0, 1, (0, 0, 0), 0), (1, .iload_n 1, 1, (0, 0, 0), 0), (2, .iload_n 2, 1, (0, 0, 0), 0), (3, .aload_n 0, 1, (0, 0, 0), 0), (4, .iload_n 1, 1, (0, 0, 0), 0), (5, .iload_n 2, 1, (0, 0, 0), 0), (6, .invokevirtual 363, 3, (242, 3, 0), 0), (9, .invokevirtual 376, 3, (246, 4, 0), 0), (12, .ireturn, 1, (0, 0, 1), 0)])]
def mc_R_canHave : List (Nat × List (Nat × Ent)) := [(30, [(0, .aload_n 0, 1, (0, 0, 0), 0), (1, .iload_n 1, 1, (0, 0, 0), 0), (2, .invokevirtual 333, 3, (229, 2, 0), 0), (5, .ifCond .eq 24, 3, (0, 0, 0), 0), (8, .aload_n 0, 1, (0, 0, 0), 0), (9, .iload_n 2, 1, (0, 0, 0), 0), (10, .invokevirtual 336, 3, (228, 2, 0), 0), (13, .ifCond .eq 16, 3, (0, 0, 0), 0), (16, .aload_n 0, 1, (0, 0, 0), 0), (17, .iload_n 1, 1, (0, 0, 0), 0), (18, .iload_n 2, 1, (0, 0, 0), 0), (19, .invokevirtual 339, 3, (231, 3, 0), 0), (22, .ifCond .le 7, 3, (0, 0, 0), 0), (25, .iconst 1, 1, (0, 0, 0), 0), (26, .goto 4, 3, (0, 0, 0), 0), (29, .iconst 0, 1, (0, 0, 0), 0), (30, .ireturn, 1, (0, 0, 3), 0)])]
def mc_R_have : List (Nat × List (Nat × Ent)) := [(21, [(0, .aload_n 0, 1, (0, 0, 0), 0), (1, .iload_n 1, 1, (0, 0, 0), 0), (2, .iload_n 2, 1, (0, 0, 0), 0), (3, .invokevirtual 379, 3, (248, 3, 0), 0), (6, .ifCond .ne 5, 3, (0, 0, 0), 0), (9, .iconst (-1), 1, (0, 0, 0), 0), (10, .ireturn, 1, (0, 0, 1), 0), (11, .aload_n 0, 1, (0, 0, 0), 0), (12, .invokevirtual 382, 3, (244, 1, 0), 0), (15, .aload_n 0, 1, (0, 0, 0), 0), (16, .iload_n 1, 1, (0, 0, 0), 0), (17, .iload_n 2, 1, (0, 0, 0), 0), (18, .invokevirtual 385, 3, (247, 3, 0), 0), (21, .ireturn, 1, (0, 0, 1), 0)])]
def mc_R_canSell : List (Nat × List (Nat × Ent)) := [(43, [(0, .aload_n 0, 1, (0, 0, 0), 0), (1, .iload_n 1, 1, (0, 0, 0), 0), (2, .iload_n 2, 1, (0, 0, 0), 0), (3, .invokevirtual 388, 3, (230, 3, 0), 0), (6, .ifCond .eq 41, 3, (0, 0, 0), 0), (9, .aload_n 0, 1, (0, 0, 0), 0), (10, .iload_n 1, 1, (0, 0, 0), 0), (11, .iload_n 3, 1, (0, 0, 0), 0), (12, .invokevirtual 379, 3, (248, 3, 0), 0), (15, .ifCond .eq 32, 3, (0, 0, 0), 0), (18, .iload 4, 2, (0, 0, 0), 0), (20, .iconst 0, 1, (0, 0, 0), 0), (21, .bipush 99, 2, (0, 0, 0), 0), (23, .invokestatic 234, 3, (179, 3, 0), 0), (26, .ifCond .eq 21, 3, (0, 0, 0), 0), (29, .aload_n 0, 1, (0, 0, 0), 0), (30, .getfield 58, 3, (11, 28, 1), 28), (33, .bipush 60, 2, (0, 0, 0), 0), (35, .iload_n 2, 1, (0, 0, 0), 0), (36, .iadd, 1, (0, 0, 0), 0), (37, .iaload, 1, (0, 0, 0), 0), (38, .iload 4, 2, (0, 0, 0), 0), (40, .if_icmp .lt 7, 3, (0, 0, 0), 0), (43, .iconst 1, 1, (0, 0, 0), 0)]), (48, [(44, .goto 4, 3, (0, 0, 0), 0), (47, .iconst 0, 1, (0, 0, 0), 0), (48, .ireturn, 1, (0, 0, 3), 0)])]
def mc_R_pay : List (Nat × List (Nat × Ent)) := [(26, [(0, .aload_n 0, 1, (0, 0, 0), 0), (1, .getfield 58, 3, (11, 28, 1), 28), (4, .bipush 60, 2, (0, 0, 0), 0), (6, .iload_n 1, 1, (0, 0, 0), 0), (7, .iadd, 1, (0, 0, 0), 0), (8, .dup2, 1, (0, 0, 0), 0), (9, .iaload, 1, (0, 0, 0), 0), (10, .iload_n 3, 1, (0, 0, 0), 0), (11, .isub, 1, (0, 0, 0), 0), (12, .iastore, 1, (0, 0, 0), 0), (13, .aload_n 0, 1, (0, 0, 0), 0), (14, .getfield 58, 3, (11, 28, 1), 28), (17, .bipush 60, 2, (0, 0, 0), 0), (19, .iload_n 2, 1, (0, 0, 0), 0), (20, .iadd, 1, (0, 0, 0), 0), (21, .dup2, 1, (0, 0, 0), 0), (22, .iaload, 1, (0, 0, 0), 0), (23, .iload_n 3, 1, (0, 0, 0), 0), (24, .iadd, 1, (0, 0, 0), 0), (25, .iastore, 1, (0, 0, 0), 0), (26, .return_, 1, (0, 0, 0), 0)])]
def mc_R_sellNow : List (Nat × List (Nat × Ent)) := [(29, [(0, .aload_n 0, 1, (0, 0, 0), 0), (1, .getfield 58, 3, (11, 28, 1), 28), (4, .bipush 8, 2, (0, 0, 0), 0), (6, .iload_n 1, 1, (0, 0, 0), 0), (7, .imul, 1, (0, 0, 0), 0), (8, .iload_n 3, 1, (0, 0, 0), 0), (9, .iadd, 1, (0, 0, 0), 0), (10, .dup2, 1, (0, 0, 0), 0), (11, .iaload, 1, (0, 0, 0), 0), (12, .iconst 1, 1, (0, 0, 0), 0), (13, .isub, 1, (0, 0, 0), 0), (14, .iastore, 1, (0, 0, 0), 0), (15, .aload_n 0, 1, (0, 0, 0), 0), (16, .getfield 58, 3, (11, 28, 1), 28), (19, .bipush 8, 2, (0, 0, 0), 0), (21, .iload_n 2, 1, (0, 0, 0), 0), (22, .imul, 1, (0, 0, 0), 0), (23, .iload_n 3, 1, (0, 0, 0), 0), (24, .iadd, 1, (0, 0, 0), 0), (25, .dup2, 1, (0, 0, 0), 0), (26, .iaload, 1, (0, 0, 0), 0), (27, .iconst 1, 1, (0, 0, 0), 0), (28, .iadd, 1, (0, 0, 0), 0), (29, .iastore, 1, (0, 0, 0), 0)]), (38, [(30, .aload_n 0, 1, (0, 0, 0), 0), (31, .iload_n 2, 1, (0, 0, 0), 0), (32, .iload_n 1, 1, (0, 0, 0), 0), (33, .iload 4, 2, (0, 0, 0), 0), (35, .invokevirtual 391, 3, (251, 4, 0), 0), (38, .return_, 1, (0, 0, 0), 0)])]
def mc_R_sell : List (Nat × List (Nat × Ent)) := [(36, [(0, .aload_n 0, 1, (0, 0, 0), 0), (1, .iload_n 1, 1, (0, 0, 0), 0), (2, .iload_n 2, 1, (0, 0, 0), 0), (3, .iload_n 3, 1, (0, 0, 0), 0), (4, .iload 4, 2, (0, 0, 0), 0), (6, .invokevirtual 394, 3, (250, 5, 0), 0), (9, .ifCond .ne 5, 3, (0, 0, 0), 0), (12, .iconst (-1), 1, (0, 0, 0), 0), (13, .ireturn, 1, (0, 0, 1), 0), (14, .aload_n 0, 1, (0, 0, 0), 0), (15, .invokevirtual 382, 3, (244, 1, 0), 0), (18, .aload_n 0, 1, (0, 0, 0), 0), (19, .iload_n 1, 1, (0, 0, 0), 0), (20, .iload_n 2, 1, (0, 0, 0), 0), (21, .iload_n 3, 1, (0, 0, 0), 0), (22, .iload 4, 2, (0, 0, 0), 0), (24, .invokevirtual 398, 3, (252, 5, 0), 0), (27, .aload_n 0, 1, (0, 0, 0), 0), (28, .getfield 58, 3, (11, 28, 1), 28), (31, .bipush 60, 2, (0, 0, 0), 0), (33, .iload_n 1, 1, (0, 0, 0), 0), (34, .iadd, 1, (0, 0, 0), 0), (35, .iaload, 1, (0, 0, 0), 0), (36, .ireturn, 1, (0, 0, 1), 0)])]
def mc_R_canSteal : List (Nat × List (Nat × Ent)) := [(23, [(0, .aload_n 0, 1, (0, 0, 0), 0), (1, .iload_n 1, 1, (0, 0, 0), 0), (2, .iload_n 2, 1, (0, 0, 0), 0), (3, .invokevirtual 388, 3, (230, 3, 0), 0), (6, .ifCond .eq 16, 3, (0, 0, 0), 0), (9, .aload_n 0, 1, (0, 0, 0), 0), (10, .iload_n 2, 1, (0, 0, 0), 0), (11, .iload_n 3, 1, (0, 0, 0), 0), (12, .invokevirtual 379, 3, (248, 3, 0), 0), (15, .ifCond .eq 7, 3, (0, 0, 0), 0), (18, .iconst 1, 1, (0, 0, 0), 0), (19, .goto 4, 3, (0, 0, 0), 0), (22, .iconst 0, 1, (0, 0, 0), 0), (23, .ireturn, 1, (0, 0, 3), 0)])]
def mc_R_stealNow : List (Nat × List (Nat × Ent)) := [(29, [(0, .aload_n 0, 1, (0, 0, 0), 0), (1, .getfield 58, 3, (11, 28, 1), 28), (4, .bipush 8, 2, (0, 0, 0), 0), (6, .iload_n 2, 1, (0, 0, 0), 0), (7, .imul, 1, (0, 0, 0), 0), (8, .iload_n 3, 1, (0, 0, 0), 0), (9, .iadd, 1, (0, 0, 0), 0), (10, .dup2, 1, (0, 0, 0), 0), (11, .iaload, 1, (0, 0, 0), 0), (12, .iconst 1, 1, (0, 0, 0), 0), (13, .isub, 1, (0, 0, 0), 0), (14, .iastore, 1, (0, 0, 0), 0), (15, .aload_n 0, 1, (0, 0, 0), 0), (16, .getfield 58, 3, (11, 28, 1), 28), (19, .bipush 8, 2, (0, 0, 0), 0), (21, .iload_n 1, 1, (0, 0, 0), 0), (22, .imul, 1, (0, 0, 0), 0), (23, .iload_n 3, 1, (0, 0, 0), 0), (24, .iadd, 1, (0, 0, 0), 0), (25, .dup2, 1, (0, 0, 0), 0), (26, .iaload, 1, (0, 0, 0), 0), (27, .iconst 1, 1, (0, 0, 0), 0), (28, .iadd, 1, (0, 0, 0), 0), (29, .iastore, 1, (0, 0, 0), 0)]), (30, [(30, .return_, 1, (0, 0, 0), 0)])]
def mc_R_steal : List (Nat × List (Nat × Ent)) := [(29, [(0, .aload_n 0, 1, (0, 0, 0), 0), (1, .iload_n 1, 1, (0, 0, 0), 0), (2, .iload_n 2, 1, (0, 0, 0), 0), (3, .iload_n 3, 1, (0, 0, 0), 0), (4, .invokevirtual 402, 3, (254, 4, 0), 0), (7, .ifCond .ne 5, 3, (0, 0, 0), 0), (10, .iconst (-1), 1, (0, 0, 0), 0), (11, .ireturn, 1, (0, 0, 1), 0), (12, .aload_n 0, 1, (0, 0, 0), 0), (13, .invokevirtual 382, 3, (244, 1, 0), 0), (16, .aload_n 0, 1, (0, 0, 0), 0), (17, .iload_n 1, 1, (0, 0, 0), 0), (18, .iload_n 2, 1, (0, 0, 0), 0), (19, .iload_n 3, 1, (0, 0, 0), 0), (20, .invokevirtual 405, 3, (255, 4, 0), 0), (23, .aload_n 0, 1, (0, 0, 0), 0), (24, .iload_n 1, 1, (0, 0, 0), 0), (25, .iload_n 3, 1, (0, 0, 0), 0), (26, .invokevirtual 339, 3, (231, 3, 0), 0), (29, .ireturn, 1, (0, 0, 1), 0)])]
def mc_R_pledge : List (Nat × List (Nat × Ent)) := [(42, [(0, .aload_n 0, 1, (0, 0, 0), 0), (1, .iload_n 1, 1, (0, 0, 0), 0), (2, .iload_n 2, 1, (0, 0, 0), 0), (3, .iload_n 3, 1, (0, 0, 0), 0), (4, .iload 4, 2, (0, 0, 0), 0), (6, .invokevirtual 394, 3, (250, 5, 0), 0), (9, .ifCond .eq 26, 3, (0, 0, 0), 0), (12, .iload 5, 2, (0, 0, 0), 0), (14, .iconst 1, 1, (0, 0, 0), 0), (15, .bipush 30, 2, (0, 0, 0), 0), (17, .invokestatic 234, 3, (179, 3, 0), 0), (20, .ifCond .eq 15, 3, (0, 0, 0), 0), (23, .aload_n 0, 1, (0, 0, 0), 0), (24, .getfield 58, 3, (11, 28, 1), 28), (27, .bipush 73, 2, (0, 0, 0), 0), (29, .iaload, 1, (0, 0, 0), 0), (30, .bipush 8, 2, (0, 0, 0), 0), (32, .if_icmp .ne 5, 3, (0, 0, 0), 0), (35, .iconst (-1), 1, (0, 0, 0), 0), (36, .ireturn, 1, (0, 0, 1), 0), (37, .aload_n 0, 1, (0, 0, 0), 0), (38, .invokevirtual 382, 3, (244, 1, 0), 0), (41, .aload_n 0, 1, (0, 0, 0), 0), (42, .getfield 58, 3, (11, 28, 1), 28)]), (76, [(45, .bipush 8, 2, (0, 0, 0), 0), (47, .iload_n 1, 1, (0, 0, 0), 0), (48, .imul, 1, (0, 0, 0), 0), (49, .iload_n 3, 1, (0, 0, 0), 0), (50, .iadd, 1, (0, 0, 0), 0), (51, .dup2, 1, (0, 0, 0), 0), (52, .iaload, 1, (0, 0, 0), 0), (53, .iconst 1, 1, (0, 0, 0), 0), (54, .isub, 1, (0, 0, 0), 0), (55, .iastore, 1, (0, 0, 0), 0), (56, .aload_n 0, 1, (0, 0, 0), 0), (57, .iload_n 2, 1, (0, 0, 0), 0), (58, .iload_n 1, 1, (0, 0, 0), 0), (59, .iload 4, 2, (0, 0, 0), 0), (61, .invokevirtual 391, 3, (251, 4, 0), 0), (64, .bipush 74, 2, (0, 0, 0), 0), (66, .iconst 5, 1, (0, 0, 0), 0), (67, .aload_n 0, 1, (0, 0, 0), 0), (68, .getfield 58, 3, (11, 28, 1), 28), (71, .bipush 73, 2, (0, 0, 0), 0), (73, .iaload, 1, (0, 0, 0), 0), (74, .imul, 1, (0, 0, 0), 0), (75, .iadd, 1, (0, 0, 0), 0), (76, .istore 6, 2, (0, 0, 0), 0)]), (113, [(78, .aload_n 0, 1, (0, 0, 0), 0), (79, .getfield 58, 3, (11, 28, 1), 28), (82, .iload 6, 2, (0, 0, 0), 0), (84, .iload_n 1, 1, (0, 0, 0), 0), (85, .iastore, 1, (0, 0, 0), 0), (86, .aload_n 0, 1, (0, 0, 0), 0), (87, .getfield 58, 3, (11, 28, 1), 28), (90, .iload 6, 2, (0, 0, 0), 0), (92, .iconst 1, 1, (0, 0, 0), 0), (93, .iadd, 1, (0, 0, 0), 0), (94, .iload_n 2, 1, (0, 0, 0), 0), (95, .iastore, 1, (0, 0, 0), 0), (96, .aload_n 0, 1, (0, 0, 0), 0), (97, .getfield 58, 3, (11, 28, 1), 28), (100, .iload 6, 2, (0, 0, 0), 0), (102, .iconst 2, 1, (0, 0, 0), 0), (103, .iadd, 1, (0, 0, 0), 0), (104, .iload_n 3, 1, (0, 0, 0), 0), (105, .iastore, 1, (0, 0, 0), 0), (106, .aload_n 0, 1, (0, 0, 0), 0), (107, .getfield 58, 3, (11, 28, 1), 28), (110, .iload 6, 2, (0, 0, 0), 0), (112, .iconst 3, 1, (0, 0, 0), 0), (113, .iadd, 1, (0, 0, 0), 0)]), (148, [(114, .iload 4, 2, (0, 0, 0), 0), (116, .iastore, 1, (0, 0, 0), 0), (117, .aload_n 0, 1, (0, 0, 0), 0), (118, .getfield 58, 3, (11, 28, 1), 28), (121, .iload 6, 2, (0, 0, 0), 0), (123, .iconst 4, 1, (0, 0, 0), 0), (124, .iadd, 1, (0, 0, 0), 0), (125, .aload_n 0, 1, (0, 0, 0), 0), (126, .getfield 58, 3, (11, 28, 1), 28), (129, .bipush 72, 2, (0, 0, 0), 0), (131, .iaload, 1, (0, 0, 0), 0), (132, .iload 5, 2, (0, 0, 0), 0), (134, .iadd, 1, (0, 0, 0), 0), (135, .iastore, 1, (0, 0, 0), 0), (136, .aload_n 0, 1, (0, 0, 0), 0), (137, .getfield 58, 3, (11, 28, 1), 28), (140, .bipush 73, 2, (0, 0, 0), 0), (142, .dup2, 1, (0, 0, 0), 0), (143, .iaload, 1, (0, 0, 0), 0), (144, .iconst 1, 1, (0, 0, 0), 0), (145, .iadd, 1, (0, 0, 0), 0), (146, .iastore, 1, (0, 0, 0), 0), (147, .aload_n 0, 1, (0, 0, 0), 0), (148, .getfield 58, 3, (11, 28, 1), 28)]), (154, [(151, .bipush 73, 2, (0, 0, 0), 0), (153, .iaload, 1, (0, 0, 0), 0), (154, .ireturn, 1, (0, 0, 1), 0)])]
def mc_R_ofPledge : List (Nat × List (Nat × Ent)) := [(13, [(0, .aload_n 0, 1, (0, 0, 0), 0), (1, .getfield 58, 3, (11, 28, 1), 28), (4, .bipush 74, 2, (0, 0, 0), 0), (6, .iconst 5, 1, (0, 0, 0), 0), (7, .iload_n 1, 1, (0, 0, 0), 0), (8, .imul, 1, (0, 0, 0), 0), (9, .iadd, 1, (0, 0, 0), 0), (10, .iload_n 2, 1, (0, 0, 0), 0), (11, .iadd, 1, (0, 0, 0), 0), (12, .iaload, 1, (0, 0, 0), 0), (13, .ireturn, 1, (0, 0, 1), 0)])]
def mc_R_pledged : List (Nat × List (Nat × Ent)) := [(36, [(0, .iload_n 1, 1, (0, 0, 0), 0), (1, .iconst 0, 1, (0, 0, 0), 0), (2, .aload_n 0, 1, (0, 0, 0), 0), (3, .getfield 58, 3, (11, 28, 1), 28), (6, .bipush 73, 2, (0, 0, 0), 0), (8, .iaload, 1, (0, 0, 0), 0), (9, .iconst 1, 1, (0, 0, 0), 0), (10, .isub, 1, (0, 0, 0), 0), (11, .invokestatic 234, 3, (179, 3, 0), 0), (14, .ifCond .eq 21, 3, (0, 0, 0), 0), (17, .iload_n 2, 1, (0, 0, 0), 0), (18, .iconst 0, 1, (0, 0, 0), 0), (19, .iconst 4, 1, (0, 0, 0), 0), (20, .invokestatic 234, 3, (179, 3, 0), 0), (23, .ifCond .eq 12, 3, (0, 0, 0), 0), (26, .aload_n 0, 1, (0, 0, 0), 0), (27, .iload_n 1, 1, (0, 0, 0), 0), (28, .iload_n 2, 1, (0, 0, 0), 0), (29, .invokevirtual 408, 3, (258, 3, 0), 0), (32, .goto 4, 3, (0, 0, 0), 0), (35, .iconst (-1), 1, (0, 0, 0), 0), (36, .ireturn, 1, (0, 0, 1), 0)])]
def mc_R_dropPledge : List (Nat × List (Nat × Ent)) := [(32, [(0, .iconst 5, 1, (0, 0, 0), 0), (1, .iload_n 1, 1, (0, 0, 0), 0), (2, .iconst 1, 1, (0, 0, 0), 0), (3, .iadd, 1, (0, 0, 0), 0), (4, .imul, 1, (0, 0, 0), 0), (5, .istore_n 2, 1, (0, 0, 0), 0), (6, .iload_n 2, 1, (0, 0, 0), 0), (7, .bipush 40, 2, (0, 0, 0), 0), (9, .if_icmp .ge 29, 3, (0, 0, 0), 0), (12, .aload_n 0, 1, (0, 0, 0), 0), (13, .getfield 58, 3, (11, 28, 1), 28), (16, .bipush 74, 2, (0, 0, 0), 0), (18, .iload_n 2, 1, (0, 0, 0), 0), (19, .iadd, 1, (0, 0, 0), 0), (20, .iconst 5, 1, (0, 0, 0), 0), (21, .isub, 1, (0, 0, 0), 0), (22, .aload_n 0, 1, (0, 0, 0), 0), (23, .getfield 58, 3, (11, 28, 1), 28), (26, .bipush 74, 2, (0, 0, 0), 0), (28, .iload_n 2, 1, (0, 0, 0), 0), (29, .iadd, 1, (0, 0, 0), 0), (30, .iaload, 1, (0, 0, 0), 0), (31, .iastore, 1, (0, 0, 0), 0), (32, .iinc 2 1, 3, (0, 0, 0), 0)]), (49, [(35, .goto (-29), 3, (0, 0, 0), 0), (38, .aload_n 0, 1, (0, 0, 0), 0), (39, .getfield 58, 3, (11, 28, 1), 28), (42, .bipush 73, 2, (0, 0, 0), 0), (44, .dup2, 1, (0, 0, 0), 0), (45, .iaload, 1, (0, 0, 0), 0), (46, .iconst 1, 1, (0, 0, 0), 0), (47, .isub, 1, (0, 0, 0), 0), (48, .iastore, 1, (0, 0, 0), 0), (49, .return_, 1, (0, 0, 0), 0)])]
def mc_R_redeem : List (Nat × List (Nat × Ent)) := [(37, [(0, .iload_n 1, 1, (0, 0, 0), 0), (1, .iconst 0, 1, (0, 0, 0), 0), (2, .aload_n 0, 1, (0, 0, 0), 0), (3, .getfield 58, 3, (11, 28, 1), 28), (6, .bipush 73, 2, (0, 0, 0), 0), (8, .iaload, 1, (0, 0, 0), 0), (9, .iconst 1, 1, (0, 0, 0), 0), (10, .isub, 1, (0, 0, 0), 0), (11, .invokestatic 234, 3, (179, 3, 0), 0), (14, .ifCond .eq 28, 3, (0, 0, 0), 0), (17, .aload_n 0, 1, (0, 0, 0), 0), (18, .getfield 58, 3, (11, 28, 1), 28), (21, .bipush 60, 2, (0, 0, 0), 0), (23, .aload_n 0, 1, (0, 0, 0), 0), (24, .iload_n 1, 1, (0, 0, 0), 0), (25, .iconst 0, 1, (0, 0, 0), 0), (26, .invokevirtual 408, 3, (258, 3, 0), 0), (29, .iadd, 1, (0, 0, 0), 0), (30, .iaload, 1, (0, 0, 0), 0), (31, .aload_n 0, 1, (0, 0, 0), 0), (32, .iload_n 1, 1, (0, 0, 0), 0), (33, .iconst 3, 1, (0, 0, 0), 0), (34, .invokevirtual 408, 3, (258, 3, 0), 0), (37, .iconst 1, 1, (0, 0, 0), 0)]), (71, [(38, .iadd, 1, (0, 0, 0), 0), (39, .if_icmp .ge 5, 3, (0, 0, 0), 0), (42, .iconst (-1), 1, (0, 0, 0), 0), (43, .ireturn, 1, (0, 0, 1), 0), (44, .aload_n 0, 1, (0, 0, 0), 0), (45, .invokevirtual 382, 3, (244, 1, 0), 0), (48, .aload_n 0, 1, (0, 0, 0), 0), (49, .iload_n 1, 1, (0, 0, 0), 0), (50, .iconst 0, 1, (0, 0, 0), 0), (51, .invokevirtual 408, 3, (258, 3, 0), 0), (54, .istore_n 2, 1, (0, 0, 0), 0), (55, .aload_n 0, 1, (0, 0, 0), 0), (56, .iload_n 2, 1, (0, 0, 0), 0), (57, .aload_n 0, 1, (0, 0, 0), 0), (58, .iload_n 1, 1, (0, 0, 0), 0), (59, .iconst 1, 1, (0, 0, 0), 0), (60, .invokevirtual 408, 3, (258, 3, 0), 0), (63, .aload_n 0, 1, (0, 0, 0), 0), (64, .iload_n 1, 1, (0, 0, 0), 0), (65, .iconst 3, 1, (0, 0, 0), 0), (66, .invokevirtual 408, 3, (258, 3, 0), 0), (69, .iconst 1, 1, (0, 0, 0), 0), (70, .iadd, 1, (0, 0, 0), 0), (71, .invokevirtual 391, 3, (251, 4, 0), 0)]), (107, [(74, .aload_n 0, 1, (0, 0, 0), 0), (75, .getfield 58, 3, (11, 28, 1), 28), (78, .bipush 8, 2, (0, 0, 0), 0), (80, .iload_n 2, 1, (0, 0, 0), 0), (81, .imul, 1, (0, 0, 0), 0), (82, .aload_n 0, 1, (0, 0, 0), 0), (83, .iload_n 1, 1, (0, 0, 0), 0), (84, .iconst 2, 1, (0, 0, 0), 0), (85, .invokevirtual 408, 3, (258, 3, 0), 0), (88, .iadd, 1, (0, 0, 0), 0), (89, .dup2, 1, (0, 0, 0), 0), (90, .iaload, 1, (0, 0, 0), 0), (91, .iconst 1, 1, (0, 0, 0), 0), (92, .iadd, 1, (0, 0, 0), 0), (93, .iastore, 1, (0, 0, 0), 0), (94, .aload_n 0, 1, (0, 0, 0), 0), (95, .iload_n 1, 1, (0, 0, 0), 0), (96, .invokevirtual 411, 3, (260, 2, 0), 0), (99, .aload_n 0, 1, (0, 0, 0), 0), (100, .getfield 58, 3, (11, 28, 1), 28), (103, .bipush 60, 2, (0, 0, 0), 0), (105, .iload_n 2, 1, (0, 0, 0), 0), (106, .iadd, 1, (0, 0, 0), 0), (107, .iaload, 1, (0, 0, 0), 0)]), (108, [(108, .ireturn, 1, (0, 0, 1), 0)])]
def mc_R_endDay : List (Nat × List (Nat × Ent)) := [(37, [(0, .aload_n 0, 1, (0, 0, 0), 0), (1, .getfield 58, 3, (11, 28, 1), 28), (4, .bipush 72, 2, (0, 0, 0), 0), (6, .dup2, 1, (0, 0, 0), 0), (7, .iaload, 1, (0, 0, 0), 0), (8, .iconst 1, 1, (0, 0, 0), 0), (9, .iadd, 1, (0, 0, 0), 0), (10, .iastore, 1, (0, 0, 0), 0), (11, .iconst 0, 1, (0, 0, 0), 0), (12, .istore_n 1, 1, (0, 0, 0), 0), (13, .iload_n 1, 1, (0, 0, 0), 0), (14, .aload_n 0, 1, (0, 0, 0), 0), (15, .getfield 302, 3, (11, 38, 0), 38), (18, .if_icmp .ge 34, 3, (0, 0, 0), 0), (21, .aload_n 0, 1, (0, 0, 0), 0), (22, .getfield 58, 3, (11, 28, 1), 28), (25, .bipush 66, 2, (0, 0, 0), 0), (27, .iload_n 1, 1, (0, 0, 0), 0), (28, .iadd, 1, (0, 0, 0), 0), (29, .bipush 99, 2, (0, 0, 0), 0), (31, .aload_n 0, 1, (0, 0, 0), 0), (32, .getfield 58, 3, (11, 28, 1), 28), (35, .bipush 66, 2, (0, 0, 0), 0), (37, .iload_n 1, 1, (0, 0, 0), 0)]), (77, [(38, .iadd, 1, (0, 0, 0), 0), (39, .iaload, 1, (0, 0, 0), 0), (40, .iconst 1, 1, (0, 0, 0), 0), (41, .iadd, 1, (0, 0, 0), 0), (42, .invokestatic 353, 3, (316, 2, 0), 0), (45, .iastore, 1, (0, 0, 0), 0), (46, .iinc 1 1, 3, (0, 0, 0), 0), (49, .goto (-36), 3, (0, 0, 0), 0), (52, .iconst 0, 1, (0, 0, 0), 0), (53, .istore_n 1, 1, (0, 0, 0), 0), (54, .iload_n 1, 1, (0, 0, 0), 0), (55, .aload_n 0, 1, (0, 0, 0), 0), (56, .getfield 58, 3, (11, 28, 1), 28), (59, .bipush 73, 2, (0, 0, 0), 0), (61, .iaload, 1, (0, 0, 0), 0), (62, .if_icmp .ge 58, 3, (0, 0, 0), 0), (65, .aload_n 0, 1, (0, 0, 0), 0), (66, .iload_n 1, 1, (0, 0, 0), 0), (67, .iconst 4, 1, (0, 0, 0), 0), (68, .invokevirtual 408, 3, (258, 3, 0), 0), (71, .aload_n 0, 1, (0, 0, 0), 0), (72, .getfield 58, 3, (11, 28, 1), 28), (75, .bipush 72, 2, (0, 0, 0), 0), (77, .iaload, 1, (0, 0, 0), 0)]), (114, [(78, .if_icmp .gt 36, 3, (0, 0, 0), 0), (81, .aload_n 0, 1, (0, 0, 0), 0), (82, .getfield 58, 3, (11, 28, 1), 28), (85, .bipush 8, 2, (0, 0, 0), 0), (87, .aload_n 0, 1, (0, 0, 0), 0), (88, .iload_n 1, 1, (0, 0, 0), 0), (89, .iconst 1, 1, (0, 0, 0), 0), (90, .invokevirtual 408, 3, (258, 3, 0), 0), (93, .imul, 1, (0, 0, 0), 0), (94, .aload_n 0, 1, (0, 0, 0), 0), (95, .iload_n 1, 1, (0, 0, 0), 0), (96, .iconst 2, 1, (0, 0, 0), 0), (97, .invokevirtual 408, 3, (258, 3, 0), 0), (100, .iadd, 1, (0, 0, 0), 0), (101, .dup2, 1, (0, 0, 0), 0), (102, .iaload, 1, (0, 0, 0), 0), (103, .iconst 1, 1, (0, 0, 0), 0), (104, .iadd, 1, (0, 0, 0), 0), (105, .iastore, 1, (0, 0, 0), 0), (106, .aload_n 0, 1, (0, 0, 0), 0), (107, .iload_n 1, 1, (0, 0, 0), 0), (108, .invokevirtual 411, 3, (260, 2, 0), 0), (111, .goto (-57), 3, (0, 0, 0), 0), (114, .iinc 1 1, 3, (0, 0, 0), 0)]), (120, [(117, .goto (-63), 3, (0, 0, 0), 0), (120, .return_, 1, (0, 0, 0), 0)])]
def mc_R_areDays : List (Nat × List (Nat × Ent)) := [(37, [(0, .aload_n 0, 1, (0, 0, 0), 0), (1, .getfield 299, 3, (11, 37, 0), 37), (4, .ifCond .le 32, 3, (0, 0, 0), 0), (7, .iload_n 1, 1, (0, 0, 0), 0), (8, .iconst 1, 1, (0, 0, 0), 0), (9, .bipush 30, 2, (0, 0, 0), 0), (11, .invokestatic 234, 3, (179, 3, 0), 0), (14, .ifCond .eq 22, 3, (0, 0, 0), 0), (17, .aload_n 0, 1, (0, 0, 0), 0), (18, .getfield 58, 3, (11, 28, 1), 28), (21, .bipush 72, 2, (0, 0, 0), 0), (23, .iaload, 1, (0, 0, 0), 0), (24, .iload_n 1, 1, (0, 0, 0), 0), (25, .iadd, 1, (0, 0, 0), 0), (26, .sipush 999, 3, (0, 0, 0), 0), (29, .if_icmp .gt 7, 3, (0, 0, 0), 0), (32, .iconst 1, 1, (0, 0, 0), 0), (33, .goto 4, 3, (0, 0, 0), 0), (36, .iconst 0, 1, (0, 0, 0), 0), (37, .ireturn, 1, (0, 0, 3), 0)])]
def mc_R_days : List (Nat × List (Nat × Ent)) := [(38, [(0, .aload_n 0, 1, (0, 0, 0), 0), (1, .iload_n 1, 1, (0, 0, 0), 0), (2, .invokevirtual 414, 3, (263, 2, 0), 0), (5, .ifCond .ne 5, 3, (0, 0, 0), 0), (8, .iconst (-1), 1, (0, 0, 0), 0), (9, .ireturn, 1, (0, 0, 1), 0), (10, .iconst 0, 1, (0, 0, 0), 0), (11, .istore_n 2, 1, (0, 0, 0), 0), (12, .iload_n 2, 1, (0, 0, 0), 0), (13, .iload_n 1, 1, (0, 0, 0), 0), (14, .if_icmp .ge 17, 3, (0, 0, 0), 0), (17, .aload_n 0, 1, (0, 0, 0), 0), (18, .invokevirtual 382, 3, (244, 1, 0), 0), (21, .aload_n 0, 1, (0, 0, 0), 0), (22, .invokevirtual 417, 3, (262, 1, 0), 0), (25, .iinc 2 1, 3, (0, 0, 0), 0), (28, .goto (-16), 3, (0, 0, 0), 0), (31, .aload_n 0, 1, (0, 0, 0), 0), (32, .getfield 58, 3, (11, 28, 1), 28), (35, .bipush 72, 2, (0, 0, 0), 0), (37, .iaload, 1, (0, 0, 0), 0), (38, .ireturn, 1, (0, 0, 1), 0)])]
def mc_R_undo : List (Nat × List (Nat × Ent)) := [(41, [(0, .aload_n 0, 1, (0, 0, 0), 0), (1, .getfield 317, 3, (11, 45, 0), 45), (4, .ifCond .ne 5, 3, (0, 0, 0), 0), (7, .iconst (-1), 1, (0, 0, 0), 0), (8, .ireturn, 1, (0, 0, 1), 0), (9, .aload_n 0, 1, (0, 0, 0), 0), (10, .dup, 1, (0, 0, 0), 0), (11, .getfield 317, 3, (11, 45, 0), 45), (14, .iconst 1, 1, (0, 0, 0), 0), (15, .isub, 1, (0, 0, 0), 0), (16, .putfield 317, 3, (11, 45, 0), 45), (19, .iconst 0, 1, (0, 0, 0), 0), (20, .istore_n 1, 1, (0, 0, 0), 0), (21, .iload_n 1, 1, (0, 0, 0), 0), (22, .sipush 355, 3, (0, 0, 0), 0), (25, .if_icmp .ge 30, 3, (0, 0, 0), 0), (28, .aload_n 0, 1, (0, 0, 0), 0), (29, .getfield 58, 3, (11, 28, 1), 28), (32, .iload_n 1, 1, (0, 0, 0), 0), (33, .aload_n 0, 1, (0, 0, 0), 0), (34, .getfield 89, 3, (11, 44, 1), 44), (37, .sipush 355, 3, (0, 0, 0), 0), (40, .aload_n 0, 1, (0, 0, 0), 0), (41, .getfield 317, 3, (11, 45, 0), 45)]), (59, [(44, .imul, 1, (0, 0, 0), 0), (45, .iload_n 1, 1, (0, 0, 0), 0), (46, .iadd, 1, (0, 0, 0), 0), (47, .iaload, 1, (0, 0, 0), 0), (48, .iastore, 1, (0, 0, 0), 0), (49, .iinc 1 1, 3, (0, 0, 0), 0), (52, .goto (-31), 3, (0, 0, 0), 0), (55, .aload_n 0, 1, (0, 0, 0), 0), (56, .getfield 317, 3, (11, 45, 0), 45), (59, .ireturn, 1, (0, 0, 1), 0)])]
def mc_R_log : List (Nat × List (Nat × Ent)) := [(40, [(0, .iload_n 1, 1, (0, 0, 0), 0), (1, .iconst 0, 1, (0, 0, 0), 0), (2, .aload_n 0, 1, (0, 0, 0), 0), (3, .getfield 58, 3, (11, 28, 1), 28), (6, .bipush 114, 2, (0, 0, 0), 0), (8, .iaload, 1, (0, 0, 0), 0), (9, .iconst 1, 1, (0, 0, 0), 0), (10, .isub, 1, (0, 0, 0), 0), (11, .invokestatic 234, 3, (179, 3, 0), 0), (14, .ifCond .eq 38, 3, (0, 0, 0), 0), (17, .iload_n 2, 1, (0, 0, 0), 0), (18, .iconst 0, 1, (0, 0, 0), 0), (19, .iconst 3, 1, (0, 0, 0), 0), (20, .invokestatic 234, 3, (179, 3, 0), 0), (23, .ifCond .eq 29, 3, (0, 0, 0), 0), (26, .aload_n 0, 1, (0, 0, 0), 0), (27, .getfield 58, 3, (11, 28, 1), 28), (30, .bipush 115, 2, (0, 0, 0), 0), (32, .iconst 4, 1, (0, 0, 0), 0), (33, .aload_n 0, 1, (0, 0, 0), 0), (34, .getfield 58, 3, (11, 28, 1), 28), (37, .bipush 114, 2, (0, 0, 0), 0), (39, .iaload, 1, (0, 0, 0), 0), (40, .iconst 1, 1, (0, 0, 0), 0)]), (53, [(41, .isub, 1, (0, 0, 0), 0), (42, .iload_n 1, 1, (0, 0, 0), 0), (43, .isub, 1, (0, 0, 0), 0), (44, .imul, 1, (0, 0, 0), 0), (45, .iadd, 1, (0, 0, 0), 0), (46, .iload_n 2, 1, (0, 0, 0), 0), (47, .iadd, 1, (0, 0, 0), 0), (48, .iaload, 1, (0, 0, 0), 0), (49, .goto 4, 3, (0, 0, 0), 0), (52, .iconst (-1), 1, (0, 0, 0), 0), (53, .ireturn, 1, (0, 0, 1), 0)])]
def mc_R_step : List (Nat × List (Nat × Ent)) := [(39, [(0, .iload_n 1, 1, (0, 0, 0), 0), (1, .iconst 0, 1, (0, 0, 0), 0), (2, .aload_n 0, 1, (0, 0, 0), 0), (3, .getfield 330, 3, (11, 27, 0), 27), (6, .iconst 1, 1, (0, 0, 0), 0), (7, .isub, 1, (0, 0, 0), 0), (8, .invokestatic 234, 3, (179, 3, 0), 0), (11, .ifCond .eq 46, 3, (0, 0, 0), 0), (14, .iload_n 2, 1, (0, 0, 0), 0), (15, .iconst 0, 1, (0, 0, 0), 0), (16, .aload_n 0, 1, (0, 0, 0), 0), (17, .getfield 55, 3, (11, 26, 1), 26), (20, .iload_n 1, 1, (0, 0, 0), 0), (21, .iaload, 1, (0, 0, 0), 0), (22, .iconst 1, 1, (0, 0, 0), 0), (23, .isub, 1, (0, 0, 0), 0), (24, .invokestatic 234, 3, (179, 3, 0), 0), (27, .ifCond .eq 30, 3, (0, 0, 0), 0), (30, .iload_n 3, 1, (0, 0, 0), 0), (31, .iconst 0, 1, (0, 0, 0), 0), (32, .iconst 4, 1, (0, 0, 0), 0), (33, .invokestatic 234, 3, (179, 3, 0), 0), (36, .ifCond .eq 21, 3, (0, 0, 0), 0), (39, .aload_n 0, 1, (0, 0, 0), 0)]), (58, [(40, .getfield 52, 3, (11, 25, 1), 25), (43, .iconst 5, 1, (0, 0, 0), 0), (44, .bipush 12, 2, (0, 0, 0), 0), (46, .iload_n 1, 1, (0, 0, 0), 0), (47, .imul, 1, (0, 0, 0), 0), (48, .iload_n 2, 1, (0, 0, 0), 0), (49, .iadd, 1, (0, 0, 0), 0), (50, .imul, 1, (0, 0, 0), 0), (51, .iload_n 3, 1, (0, 0, 0), 0), (52, .iadd, 1, (0, 0, 0), 0), (53, .iaload, 1, (0, 0, 0), 0), (54, .goto 4, 3, (0, 0, 0), 0), (57, .iconst (-1), 1, (0, 0, 0), 0), (58, .ireturn, 1, (0, 0, 1), 0)])]
def mc_R_canStep : List (Nat × List (Nat × Ent)) := [(32, [(0, .aload_n 0, 1, (0, 0, 0), 0), (1, .getfield 52, 3, (11, 25, 1), 25), (4, .iload_n 1, 1, (0, 0, 0), 0), (5, .iconst 1, 1, (0, 0, 0), 0), (6, .iadd, 1, (0, 0, 0), 0), (7, .iaload, 1, (0, 0, 0), 0), (8, .istore_n 2, 1, (0, 0, 0), 0), (9, .aload_n 0, 1, (0, 0, 0), 0), (10, .getfield 52, 3, (11, 25, 1), 25), (13, .iload_n 1, 1, (0, 0, 0), 0), (14, .iconst 2, 1, (0, 0, 0), 0), (15, .iadd, 1, (0, 0, 0), 0), (16, .iaload, 1, (0, 0, 0), 0), (17, .istore_n 3, 1, (0, 0, 0), 0), (18, .aload_n 0, 1, (0, 0, 0), 0), (19, .getfield 52, 3, (11, 25, 1), 25), (22, .iload_n 1, 1, (0, 0, 0), 0), (23, .iconst 3, 1, (0, 0, 0), 0), (24, .iadd, 1, (0, 0, 0), 0), (25, .iaload, 1, (0, 0, 0), 0), (26, .istore 4, 2, (0, 0, 0), 0), (28, .aload_n 0, 1, (0, 0, 0), 0), (29, .getfield 52, 3, (11, 25, 1), 25), (32, .iload_n 1, 1, (0, 0, 0), 0)]), (90, [(33, .iaload, 1, (0, 0, 0), 0), (34, .tableswitch 60 0 2 #[26, 34, 51], 26, (0, 0, 0), 0), (60, .aload_n 0, 1, (0, 0, 0), 0), (61, .iload_n 2, 1, (0, 0, 0), 0), (62, .iload 4, 2, (0, 0, 0), 0), (64, .invokevirtual 379, 3, (248, 3, 0), 0), (67, .ireturn, 1, (0, 0, 3), 0), (68, .aload_n 0, 1, (0, 0, 0), 0), (69, .iload_n 2, 1, (0, 0, 0), 0), (70, .iload_n 3, 1, (0, 0, 0), 0), (71, .iload 4, 2, (0, 0, 0), 0), (73, .aload_n 0, 1, (0, 0, 0), 0), (74, .getfield 52, 3, (11, 25, 1), 25), (77, .iload_n 1, 1, (0, 0, 0), 0), (78, .iconst 4, 1, (0, 0, 0), 0), (79, .iadd, 1, (0, 0, 0), 0), (80, .iaload, 1, (0, 0, 0), 0), (81, .invokevirtual 394, 3, (250, 5, 0), 0), (84, .ireturn, 1, (0, 0, 3), 0), (85, .aload_n 0, 1, (0, 0, 0), 0), (86, .iload_n 2, 1, (0, 0, 0), 0), (87, .iload_n 3, 1, (0, 0, 0), 0), (88, .iload 4, 2, (0, 0, 0), 0), (90, .invokevirtual 402, 3, (254, 4, 0), 0)]), (112, [(93, .ireturn, 1, (0, 0, 3), 0), (94, .aload_n 0, 1, (0, 0, 0), 0), (95, .getfield 58, 3, (11, 28, 1), 28), (98, .bipush 72, 2, (0, 0, 0), 0), (100, .iaload, 1, (0, 0, 0), 0), (101, .sipush 999, 3, (0, 0, 0), 0), (104, .if_icmp .ge 7, 3, (0, 0, 0), 0), (107, .iconst 1, 1, (0, 0, 0), 0), (108, .goto 4, 3, (0, 0, 0), 0), (111, .iconst 0, 1, (0, 0, 0), 0), (112, .ireturn, 1, (0, 0, 3), 0)])]
def mc_R_doStep : List (Nat × List (Nat × Ent)) := [(32, [(0, .aload_n 0, 1, (0, 0, 0), 0), (1, .getfield 52, 3, (11, 25, 1), 25), (4, .iload_n 1, 1, (0, 0, 0), 0), (5, .iconst 1, 1, (0, 0, 0), 0), (6, .iadd, 1, (0, 0, 0), 0), (7, .iaload, 1, (0, 0, 0), 0), (8, .istore_n 2, 1, (0, 0, 0), 0), (9, .aload_n 0, 1, (0, 0, 0), 0), (10, .getfield 52, 3, (11, 25, 1), 25), (13, .iload_n 1, 1, (0, 0, 0), 0), (14, .iconst 2, 1, (0, 0, 0), 0), (15, .iadd, 1, (0, 0, 0), 0), (16, .iaload, 1, (0, 0, 0), 0), (17, .istore_n 3, 1, (0, 0, 0), 0), (18, .aload_n 0, 1, (0, 0, 0), 0), (19, .getfield 52, 3, (11, 25, 1), 25), (22, .iload_n 1, 1, (0, 0, 0), 0), (23, .iconst 3, 1, (0, 0, 0), 0), (24, .iadd, 1, (0, 0, 0), 0), (25, .iaload, 1, (0, 0, 0), 0), (26, .istore 4, 2, (0, 0, 0), 0), (28, .aload_n 0, 1, (0, 0, 0), 0), (29, .getfield 52, 3, (11, 25, 1), 25), (32, .iload_n 1, 1, (0, 0, 0), 0)]), (93, [(33, .iaload, 1, (0, 0, 0), 0), (34, .tableswitch 67 0 2 #[26, 37, 56], 26, (0, 0, 0), 0), (60, .aload_n 0, 1, (0, 0, 0), 0), (61, .iload_n 2, 1, (0, 0, 0), 0), (62, .iload 4, 2, (0, 0, 0), 0), (64, .invokevirtual 385, 3, (247, 3, 0), 0), (67, .pop, 1, (0, 0, 0), 0), (68, .goto 37, 3, (0, 0, 0), 0), (71, .aload_n 0, 1, (0, 0, 0), 0), (72, .iload_n 2, 1, (0, 0, 0), 0), (73, .iload_n 3, 1, (0, 0, 0), 0), (74, .iload 4, 2, (0, 0, 0), 0), (76, .aload_n 0, 1, (0, 0, 0), 0), (77, .getfield 52, 3, (11, 25, 1), 25), (80, .iload_n 1, 1, (0, 0, 0), 0), (81, .iconst 4, 1, (0, 0, 0), 0), (82, .iadd, 1, (0, 0, 0), 0), (83, .iaload, 1, (0, 0, 0), 0), (84, .invokevirtual 398, 3, (252, 5, 0), 0), (87, .goto 18, 3, (0, 0, 0), 0), (90, .aload_n 0, 1, (0, 0, 0), 0), (91, .iload_n 2, 1, (0, 0, 0), 0), (92, .iload_n 3, 1, (0, 0, 0), 0), (93, .iload 4, 2, (0, 0, 0), 0)]), (105, [(95, .invokevirtual 405, 3, (255, 4, 0), 0), (98, .goto 7, 3, (0, 0, 0), 0), (101, .aload_n 0, 1, (0, 0, 0), 0), (102, .invokevirtual 417, 3, (262, 1, 0), 0), (105, .return_, 1, (0, 0, 0), 0)])]
def mc_R_putAside : List (Nat × List (Nat × Ent)) := [(32, [(0, .iconst 0, 1, (0, 0, 0), 0), (1, .istore_n 1, 1, (0, 0, 0), 0), (2, .iload_n 1, 1, (0, 0, 0), 0), (3, .sipush 355, 3, (0, 0, 0), 0), (6, .if_icmp .ge 21, 3, (0, 0, 0), 0), (9, .aload_n 0, 1, (0, 0, 0), 0), (10, .getfield 92, 3, (11, 46, 1), 46), (13, .iload_n 1, 1, (0, 0, 0), 0), (14, .aload_n 0, 1, (0, 0, 0), 0), (15, .getfield 58, 3, (11, 28, 1), 28), (18, .iload_n 1, 1, (0, 0, 0), 0), (19, .iaload, 1, (0, 0, 0), 0), (20, .iastore, 1, (0, 0, 0), 0), (21, .iinc 1 1, 3, (0, 0, 0), 0), (24, .goto (-22), 3, (0, 0, 0), 0), (27, .aload_n 0, 1, (0, 0, 0), 0), (28, .iconst 1, 1, (0, 0, 0), 0), (29, .putfield 366, 3, (11, 43, 3), 43), (32, .return_, 1, (0, 0, 0), 0)])]
def mc_R_takeBack : List (Nat × List (Nat × Ent)) := [(32, [(0, .iconst 0, 1, (0, 0, 0), 0), (1, .istore_n 1, 1, (0, 0, 0), 0), (2, .iload_n 1, 1, (0, 0, 0), 0), (3, .sipush 355, 3, (0, 0, 0), 0), (6, .if_icmp .ge 21, 3, (0, 0, 0), 0), (9, .aload_n 0, 1, (0, 0, 0), 0), (10, .getfield 58, 3, (11, 28, 1), 28), (13, .iload_n 1, 1, (0, 0, 0), 0), (14, .aload_n 0, 1, (0, 0, 0), 0), (15, .getfield 92, 3, (11, 46, 1), 46), (18, .iload_n 1, 1, (0, 0, 0), 0), (19, .iaload, 1, (0, 0, 0), 0), (20, .iastore, 1, (0, 0, 0), 0), (21, .iinc 1 1, 3, (0, 0, 0), 0), (24, .goto (-22), 3, (0, 0, 0), 0), (27, .aload_n 0, 1, (0, 0, 0), 0), (28, .iconst 0, 1, (0, 0, 0), 0), (29, .putfield 366, 3, (11, 43, 3), 43), (32, .return_, 1, (0, 0, 0), 0)])]
def mc_R_joysOfAll : List (Nat × List (Nat × Ent)) := [(31, [(0, .iconst 0, 1, (0, 0, 0), 0), (1, .istore_n 1, 1, (0, 0, 0), 0), (2, .iconst 0, 1, (0, 0, 0), 0), (3, .istore_n 2, 1, (0, 0, 0), 0), (4, .iload_n 2, 1, (0, 0, 0), 0), (5, .aload_n 0, 1, (0, 0, 0), 0), (6, .getfield 302, 3, (11, 38, 0), 38), (9, .if_icmp .ge 21, 3, (0, 0, 0), 0), (12, .iload_n 1, 1, (0, 0, 0), 0), (13, .aload_n 0, 1, (0, 0, 0), 0), (14, .getfield 58, 3, (11, 28, 1), 28), (17, .bipush 54, 2, (0, 0, 0), 0), (19, .iload_n 2, 1, (0, 0, 0), 0), (20, .iadd, 1, (0, 0, 0), 0), (21, .iaload, 1, (0, 0, 0), 0), (22, .iadd, 1, (0, 0, 0), 0), (23, .istore_n 1, 1, (0, 0, 0), 0), (24, .iinc 2 1, 3, (0, 0, 0), 0), (27, .goto (-23), 3, (0, 0, 0), 0), (30, .iload_n 1, 1, (0, 0, 0), 0), (31, .ireturn, 1, (0, 0, 1), 0)])]
def mc_R_isPlan : List (Nat × List (Nat × Ent)) := [(26, [(0, .aload_n 0, 1, (0, 0, 0), 0), (1, .getfield 299, 3, (11, 37, 0), 37), (4, .ifCond .le 21, 3, (0, 0, 0), 0), (7, .iload_n 1, 1, (0, 0, 0), 0), (8, .iconst 0, 1, (0, 0, 0), 0), (9, .aload_n 0, 1, (0, 0, 0), 0), (10, .getfield 330, 3, (11, 27, 0), 27), (13, .iconst 1, 1, (0, 0, 0), 0), (14, .isub, 1, (0, 0, 0), 0), (15, .invokestatic 234, 3, (179, 3, 0), 0), (18, .ifCond .eq 7, 3, (0, 0, 0), 0), (21, .iconst 1, 1, (0, 0, 0), 0), (22, .goto 4, 3, (0, 0, 0), 0), (25, .iconst 0, 1, (0, 0, 0), 0), (26, .ireturn, 1, (0, 0, 3), 0)])]
def mc_R_run : List (Nat × List (Nat × Ent)) := [(41, [(0, .aload_n 0, 1, (0, 0, 0), 0), (1, .iload_n 1, 1, (0, 0, 0), 0), (2, .invokevirtual 420, 3, (273, 2, 0), 0), (5, .ifCond .eq 12, 3, (0, 0, 0), 0), (8, .iload_n 2, 1, (0, 0, 0), 0), (9, .iconst 0, 1, (0, 0, 0), 0), (10, .iconst 1, 1, (0, 0, 0), 0), (11, .invokestatic 234, 3, (179, 3, 0), 0), (14, .ifCond .ne 7, 3, (0, 0, 0), 0), (17, .ldc_w 423, 3, (0, 0, 0), -1000000), (20, .ireturn, 1, (0, 0, 1), 0), (21, .aload_n 0, 1, (0, 0, 0), 0), (22, .invokevirtual 424, 3, (270, 1, 0), 0), (25, .aload_n 0, 1, (0, 0, 0), 0), (26, .invokevirtual 427, 3, (272, 1, 0), 0), (29, .istore_n 3, 1, (0, 0, 0), 0), (30, .iconst 0, 1, (0, 0, 0), 0), (31, .istore 4, 2, (0, 0, 0), 0), (33, .iload 4, 2, (0, 0, 0), 0), (35, .aload_n 0, 1, (0, 0, 0), 0), (36, .getfield 55, 3, (11, 26, 1), 26), (39, .iload_n 1, 1, (0, 0, 0), 0), (40, .iaload, 1, (0, 0, 0), 0), (41, .if_icmp .ge 38, 3, (0, 0, 0), 0)]), (83, [(44, .aload_n 0, 1, (0, 0, 0), 0), (45, .iconst 5, 1, (0, 0, 0), 0), (46, .bipush 12, 2, (0, 0, 0), 0), (48, .iload_n 1, 1, (0, 0, 0), 0), (49, .imul, 1, (0, 0, 0), 0), (50, .iload 4, 2, (0, 0, 0), 0), (52, .iadd, 1, (0, 0, 0), 0), (53, .imul, 1, (0, 0, 0), 0), (54, .invokevirtual 430, 3, (268, 2, 0), 0), (57, .ifCond .eq 22, 3, (0, 0, 0), 0), (60, .aload_n 0, 1, (0, 0, 0), 0), (61, .iconst 5, 1, (0, 0, 0), 0), (62, .bipush 12, 2, (0, 0, 0), 0), (64, .iload_n 1, 1, (0, 0, 0), 0), (65, .imul, 1, (0, 0, 0), 0), (66, .iload 4, 2, (0, 0, 0), 0), (68, .iadd, 1, (0, 0, 0), 0), (69, .imul, 1, (0, 0, 0), 0), (70, .invokevirtual 433, 3, (269, 2, 0), 0), (73, .iinc 4 1, 3, (0, 0, 0), 0), (76, .goto (-43), 3, (0, 0, 0), 0), (79, .aload_n 0, 1, (0, 0, 0), 0), (80, .invokevirtual 427, 3, (272, 1, 0), 0), (83, .iload_n 3, 1, (0, 0, 0), 0)]), (118, [(84, .isub, 1, (0, 0, 0), 0), (85, .istore 5, 2, (0, 0, 0), 0), (87, .aload_n 0, 1, (0, 0, 0), 0), (88, .invokevirtual 436, 3, (271, 1, 0), 0), (91, .iload_n 2, 1, (0, 0, 0), 0), (92, .iconst 1, 1, (0, 0, 0), 0), (93, .if_icmp .ne 8, 3, (0, 0, 0), 0), (96, .iload 5, 2, (0, 0, 0), 0), (98, .goto 20, 3, (0, 0, 0), 0), (101, .iload 4, 2, (0, 0, 0), 0), (103, .aload_n 0, 1, (0, 0, 0), 0), (104, .getfield 55, 3, (11, 26, 1), 26), (107, .iload_n 1, 1, (0, 0, 0), 0), (108, .iaload, 1, (0, 0, 0), 0), (109, .if_icmp .ne 7, 3, (0, 0, 0), 0), (112, .iconst (-1), 1, (0, 0, 0), 0), (113, .goto 5, 3, (0, 0, 0), 0), (116, .iload 4, 2, (0, 0, 0), 0), (118, .ireturn, 1, (0, 0, 1), 0)])]
def mc_R_perform : List (Nat × List (Nat × Ent)) := [(34, [(0, .aload_n 0, 1, (0, 0, 0), 0), (1, .iload_n 1, 1, (0, 0, 0), 0), (2, .invokevirtual 420, 3, (273, 2, 0), 0), (5, .ifCond .ne 5, 3, (0, 0, 0), 0), (8, .iconst (-1), 1, (0, 0, 0), 0), (9, .ireturn, 1, (0, 0, 1), 0), (10, .iconst 0, 1, (0, 0, 0), 0), (11, .istore_n 2, 1, (0, 0, 0), 0), (12, .iload_n 2, 1, (0, 0, 0), 0), (13, .aload_n 0, 1, (0, 0, 0), 0), (14, .getfield 55, 3, (11, 26, 1), 26), (17, .iload_n 1, 1, (0, 0, 0), 0), (18, .iaload, 1, (0, 0, 0), 0), (19, .if_icmp .ge 40, 3, (0, 0, 0), 0), (22, .aload_n 0, 1, (0, 0, 0), 0), (23, .iconst 5, 1, (0, 0, 0), 0), (24, .bipush 12, 2, (0, 0, 0), 0), (26, .iload_n 1, 1, (0, 0, 0), 0), (27, .imul, 1, (0, 0, 0), 0), (28, .iload_n 2, 1, (0, 0, 0), 0), (29, .iadd, 1, (0, 0, 0), 0), (30, .imul, 1, (0, 0, 0), 0), (31, .invokevirtual 430, 3, (268, 2, 0), 0), (34, .ifCond .eq 25, 3, (0, 0, 0), 0)]), (60, [(37, .aload_n 0, 1, (0, 0, 0), 0), (38, .invokevirtual 382, 3, (244, 1, 0), 0), (41, .aload_n 0, 1, (0, 0, 0), 0), (42, .iconst 5, 1, (0, 0, 0), 0), (43, .bipush 12, 2, (0, 0, 0), 0), (45, .iload_n 1, 1, (0, 0, 0), 0), (46, .imul, 1, (0, 0, 0), 0), (47, .iload_n 2, 1, (0, 0, 0), 0), (48, .iadd, 1, (0, 0, 0), 0), (49, .imul, 1, (0, 0, 0), 0), (50, .invokevirtual 433, 3, (269, 2, 0), 0), (53, .iinc 2 1, 3, (0, 0, 0), 0), (56, .goto (-44), 3, (0, 0, 0), 0), (59, .iload_n 2, 1, (0, 0, 0), 0), (60, .ireturn, 1, (0, 0, 1), 0)])]
def mc_R_writeOwn : List (Nat × List (Nat × Ent)) := [(36, [(0, .iconst 0, 1, (0, 0, 0), 0), (1, .istore_n 3, 1, (0, 0, 0), 0), (2, .iload_n 3, 1, (0, 0, 0), 0), (3, .bipush 8, 2, (0, 0, 0), 0), (5, .if_icmp .ge 31, 3, (0, 0, 0), 0), (8, .aload_n 0, 1, (0, 0, 0), 0), (9, .getfield 95, 3, (11, 47, 1), 47), (12, .bipush 10, 2, (0, 0, 0), 0), (14, .iload_n 2, 1, (0, 0, 0), 0), (15, .imul, 1, (0, 0, 0), 0), (16, .iload_n 3, 1, (0, 0, 0), 0), (17, .iadd, 1, (0, 0, 0), 0), (18, .aload_n 0, 1, (0, 0, 0), 0), (19, .getfield 58, 3, (11, 28, 1), 28), (22, .bipush 8, 2, (0, 0, 0), 0), (24, .iload_n 1, 1, (0, 0, 0), 0), (25, .imul, 1, (0, 0, 0), 0), (26, .iload_n 3, 1, (0, 0, 0), 0), (27, .iadd, 1, (0, 0, 0), 0), (28, .iaload, 1, (0, 0, 0), 0), (29, .iastore, 1, (0, 0, 0), 0), (30, .iinc 3 1, 3, (0, 0, 0), 0), (33, .goto (-31), 3, (0, 0, 0), 0), (36, .aload_n 0, 1, (0, 0, 0), 0)]), (71, [(37, .getfield 95, 3, (11, 47, 1), 47), (40, .bipush 10, 2, (0, 0, 0), 0), (42, .iload_n 2, 1, (0, 0, 0), 0), (43, .imul, 1, (0, 0, 0), 0), (44, .bipush 8, 2, (0, 0, 0), 0), (46, .iadd, 1, (0, 0, 0), 0), (47, .aload_n 0, 1, (0, 0, 0), 0), (48, .getfield 58, 3, (11, 28, 1), 28), (51, .bipush 48, 2, (0, 0, 0), 0), (53, .iload_n 1, 1, (0, 0, 0), 0), (54, .iadd, 1, (0, 0, 0), 0), (55, .iaload, 1, (0, 0, 0), 0), (56, .iastore, 1, (0, 0, 0), 0), (57, .aload_n 0, 1, (0, 0, 0), 0), (58, .getfield 95, 3, (11, 47, 1), 47), (61, .bipush 10, 2, (0, 0, 0), 0), (63, .iload_n 2, 1, (0, 0, 0), 0), (64, .imul, 1, (0, 0, 0), 0), (65, .bipush 8, 2, (0, 0, 0), 0), (67, .iadd, 1, (0, 0, 0), 0), (68, .iconst 1, 1, (0, 0, 0), 0), (69, .iadd, 1, (0, 0, 0), 0), (70, .aload_n 0, 1, (0, 0, 0), 0), (71, .getfield 58, 3, (11, 28, 1), 28)]), (80, [(74, .bipush 54, 2, (0, 0, 0), 0), (76, .iload_n 1, 1, (0, 0, 0), 0), (77, .iadd, 1, (0, 0, 0), 0), (78, .iaload, 1, (0, 0, 0), 0), (79, .iastore, 1, (0, 0, 0), 0), (80, .return_, 1, (0, 0, 0), 0)])]
def mc_R_readOwn : List (Nat × List (Nat × Ent)) := [(36, [(0, .iconst 0, 1, (0, 0, 0), 0), (1, .istore_n 3, 1, (0, 0, 0), 0), (2, .iload_n 3, 1, (0, 0, 0), 0), (3, .bipush 8, 2, (0, 0, 0), 0), (5, .if_icmp .ge 31, 3, (0, 0, 0), 0), (8, .aload_n 0, 1, (0, 0, 0), 0), (9, .getfield 58, 3, (11, 28, 1), 28), (12, .bipush 8, 2, (0, 0, 0), 0), (14, .iload_n 1, 1, (0, 0, 0), 0), (15, .imul, 1, (0, 0, 0), 0), (16, .iload_n 3, 1, (0, 0, 0), 0), (17, .iadd, 1, (0, 0, 0), 0), (18, .aload_n 0, 1, (0, 0, 0), 0), (19, .getfield 95, 3, (11, 47, 1), 47), (22, .bipush 10, 2, (0, 0, 0), 0), (24, .iload_n 2, 1, (0, 0, 0), 0), (25, .imul, 1, (0, 0, 0), 0), (26, .iload_n 3, 1, (0, 0, 0), 0), (27, .iadd, 1, (0, 0, 0), 0), (28, .iaload, 1, (0, 0, 0), 0), (29, .iastore, 1, (0, 0, 0), 0), (30, .iinc 3 1, 3, (0, 0, 0), 0), (33, .goto (-31), 3, (0, 0, 0), 0), (36, .aload_n 0, 1, (0, 0, 0), 0)]), (73, [(37, .getfield 58, 3, (11, 28, 1), 28), (40, .bipush 48, 2, (0, 0, 0), 0), (42, .iload_n 1, 1, (0, 0, 0), 0), (43, .iadd, 1, (0, 0, 0), 0), (44, .aload_n 0, 1, (0, 0, 0), 0), (45, .getfield 95, 3, (11, 47, 1), 47), (48, .bipush 10, 2, (0, 0, 0), 0), (50, .iload_n 2, 1, (0, 0, 0), 0), (51, .imul, 1, (0, 0, 0), 0), (52, .bipush 8, 2, (0, 0, 0), 0), (54, .iadd, 1, (0, 0, 0), 0), (55, .iaload, 1, (0, 0, 0), 0), (56, .iastore, 1, (0, 0, 0), 0), (57, .aload_n 0, 1, (0, 0, 0), 0), (58, .getfield 58, 3, (11, 28, 1), 28), (61, .bipush 54, 2, (0, 0, 0), 0), (63, .iload_n 1, 1, (0, 0, 0), 0), (64, .iadd, 1, (0, 0, 0), 0), (65, .aload_n 0, 1, (0, 0, 0), 0), (66, .getfield 95, 3, (11, 47, 1), 47), (69, .bipush 10, 2, (0, 0, 0), 0), (71, .iload_n 2, 1, (0, 0, 0), 0), (72, .imul, 1, (0, 0, 0), 0), (73, .bipush 8, 2, (0, 0, 0), 0)]), (80, [(75, .iadd, 1, (0, 0, 0), 0), (76, .iconst 1, 1, (0, 0, 0), 0), (77, .iadd, 1, (0, 0, 0), 0), (78, .iaload, 1, (0, 0, 0), 0), (79, .iastore, 1, (0, 0, 0), 0), (80, .return_, 1, (0, 0, 0), 0)])]
def mc_R_tryOrders : List (Nat × List (Nat × Ent)) := [(42, [(0, .iconst 0, 1, (0, 0, 0), 0), (1, .istore 5, 2, (0, 0, 0), 0), (3, .aload_n 0, 1, (0, 0, 0), 0), (4, .iload_n 1, 1, (0, 0, 0), 0), (5, .iload_n 3, 1, (0, 0, 0), 0), (6, .invokevirtual 439, 3, (276, 3, 0), 0), (9, .iconst 0, 1, (0, 0, 0), 0), (10, .istore 6, 2, (0, 0, 0), 0), (12, .iload 6, 2, (0, 0, 0), 0), (14, .aload_n 0, 1, (0, 0, 0), 0), (15, .getfield 299, 3, (11, 37, 0), 37), (18, .if_icmp .ge 72, 3, (0, 0, 0), 0), (21, .iload_n 2, 1, (0, 0, 0), 0), (22, .iload 6, 2, (0, 0, 0), 0), (24, .invokestatic 245, 3, (180, 2, 0), 0), (27, .ifCond .eq 57, 3, (0, 0, 0), 0), (30, .aload_n 0, 1, (0, 0, 0), 0), (31, .iload_n 1, 1, (0, 0, 0), 0), (32, .iload 6, 2, (0, 0, 0), 0), (34, .invokevirtual 339, 3, (231, 3, 0), 0), (37, .ifCond .le 47, 3, (0, 0, 0), 0), (40, .aload_n 0, 1, (0, 0, 0), 0), (41, .iload_n 1, 1, (0, 0, 0), 0), (42, .iload 6, 2, (0, 0, 0), 0)]), (80, [(44, .invokevirtual 373, 3, (232, 3, 0), 0), (47, .ifCond .ne 37, 3, (0, 0, 0), 0), (50, .iconst 1, 1, (0, 0, 0), 0), (51, .istore 5, 2, (0, 0, 0), 0), (53, .aload_n 0, 1, (0, 0, 0), 0), (54, .iload_n 1, 1, (0, 0, 0), 0), (55, .iload 6, 2, (0, 0, 0), 0), (57, .invokevirtual 385, 3, (247, 3, 0), 0), (60, .pop, 1, (0, 0, 0), 0), (61, .aload_n 0, 1, (0, 0, 0), 0), (62, .iload_n 1, 1, (0, 0, 0), 0), (63, .iload_n 2, 1, (0, 0, 0), 0), (64, .iload_n 3, 1, (0, 0, 0), 0), (65, .iconst 1, 1, (0, 0, 0), 0), (66, .iadd, 1, (0, 0, 0), 0), (67, .bipush 10, 2, (0, 0, 0), 0), (69, .iload 4, 2, (0, 0, 0), 0), (71, .imul, 1, (0, 0, 0), 0), (72, .iload 6, 2, (0, 0, 0), 0), (74, .iadd, 1, (0, 0, 0), 0), (75, .invokevirtual 442, 3, (278, 5, 0), 0), (78, .aload_n 0, 1, (0, 0, 0), 0), (79, .iload_n 1, 1, (0, 0, 0), 0), (80, .iload_n 3, 1, (0, 0, 0), 0)]), (124, [(81, .invokevirtual 445, 3, (277, 3, 0), 0), (84, .iinc 6 1, 3, (0, 0, 0), 0), (87, .goto (-75), 3, (0, 0, 0), 0), (90, .aload_n 0, 1, (0, 0, 0), 0), (91, .getfield 58, 3, (11, 28, 1), 28), (94, .bipush 54, 2, (0, 0, 0), 0), (96, .iload_n 1, 1, (0, 0, 0), 0), (97, .iadd, 1, (0, 0, 0), 0), (98, .iaload, 1, (0, 0, 0), 0), (99, .aload_n 0, 1, (0, 0, 0), 0), (100, .getfield 448, 3, (11, 50, 0), 50), (103, .if_icmp .gt 27, 3, (0, 0, 0), 0), (106, .aload_n 0, 1, (0, 0, 0), 0), (107, .getfield 58, 3, (11, 28, 1), 28), (110, .bipush 54, 2, (0, 0, 0), 0), (112, .iload_n 1, 1, (0, 0, 0), 0), (113, .iadd, 1, (0, 0, 0), 0), (114, .iaload, 1, (0, 0, 0), 0), (115, .aload_n 0, 1, (0, 0, 0), 0), (116, .getfield 448, 3, (11, 50, 0), 50), (119, .if_icmp .ne 15, 3, (0, 0, 0), 0), (122, .iload_n 3, 1, (0, 0, 0), 0), (123, .aload_n 0, 1, (0, 0, 0), 0), (124, .getfield 451, 3, (11, 49, 0), 49)]), (173, [(127, .if_icmp .ge 7, 3, (0, 0, 0), 0), (130, .iconst 1, 1, (0, 0, 0), 0), (131, .goto 4, 3, (0, 0, 0), 0), (134, .iconst 0, 1, (0, 0, 0), 0), (135, .istore 6, 2, (0, 0, 0), 0), (137, .iload 5, 2, (0, 0, 0), 0), (139, .ifCond .ne 40, 3, (0, 0, 0), 0), (142, .aload_n 0, 1, (0, 0, 0), 0), (143, .getfield 454, 3, (11, 48, 0), 48), (146, .iconst (-1), 1, (0, 0, 0), 0), (147, .if_icmp .eq 8, 3, (0, 0, 0), 0), (150, .iload 6, 2, (0, 0, 0), 0), (152, .ifCond .eq 27, 3, (0, 0, 0), 0), (155, .aload_n 0, 1, (0, 0, 0), 0), (156, .iload 4, 2, (0, 0, 0), 0), (158, .putfield 454, 3, (11, 48, 0), 48), (161, .aload_n 0, 1, (0, 0, 0), 0), (162, .iload_n 3, 1, (0, 0, 0), 0), (163, .putfield 451, 3, (11, 49, 0), 49), (166, .aload_n 0, 1, (0, 0, 0), 0), (167, .aload_n 0, 1, (0, 0, 0), 0), (168, .getfield 58, 3, (11, 28, 1), 28), (171, .bipush 54, 2, (0, 0, 0), 0), (173, .iload_n 1, 1, (0, 0, 0), 0)]), (179, [(174, .iadd, 1, (0, 0, 0), 0), (175, .iaload, 1, (0, 0, 0), 0), (176, .putfield 448, 3, (11, 50, 0), 50), (179, .return_, 1, (0, 0, 0), 0)])]
def mc_R_layOrder : List (Nat × List (Nat × Ent)) := [(37, [(0, .aload_n 0, 1, (0, 0, 0), 0), (1, .getfield 366, 3, (11, 43, 3), 43), (4, .istore_n 3, 1, (0, 0, 0), 0), (5, .aload_n 0, 1, (0, 0, 0), 0), (6, .iconst 1, 1, (0, 0, 0), 0), (7, .putfield 366, 3, (11, 43, 3), 43), (10, .aload_n 0, 1, (0, 0, 0), 0), (11, .iconst (-1), 1, (0, 0, 0), 0), (12, .putfield 454, 3, (11, 48, 0), 48), (15, .aload_n 0, 1, (0, 0, 0), 0), (16, .iconst 0, 1, (0, 0, 0), 0), (17, .putfield 451, 3, (11, 49, 0), 49), (20, .aload_n 0, 1, (0, 0, 0), 0), (21, .iconst 0, 1, (0, 0, 0), 0), (22, .putfield 448, 3, (11, 50, 0), 50), (25, .aload_n 0, 1, (0, 0, 0), 0), (26, .getfield 58, 3, (11, 28, 1), 28), (29, .bipush 54, 2, (0, 0, 0), 0), (31, .iload_n 1, 1, (0, 0, 0), 0), (32, .iadd, 1, (0, 0, 0), 0), (33, .iaload, 1, (0, 0, 0), 0), (34, .istore 4, 2, (0, 0, 0), 0), (36, .aload_n 0, 1, (0, 0, 0), 0), (37, .iload_n 1, 1, (0, 0, 0), 0)]), (60, [(38, .iload_n 2, 1, (0, 0, 0), 0), (39, .iconst 0, 1, (0, 0, 0), 0), (40, .iconst 0, 1, (0, 0, 0), 0), (41, .invokevirtual 442, 3, (278, 5, 0), 0), (44, .aload_n 0, 1, (0, 0, 0), 0), (45, .dup, 1, (0, 0, 0), 0), (46, .getfield 448, 3, (11, 50, 0), 50), (49, .iload 4, 2, (0, 0, 0), 0), (51, .isub, 1, (0, 0, 0), 0), (52, .putfield 448, 3, (11, 50, 0), 50), (55, .aload_n 0, 1, (0, 0, 0), 0), (56, .iload_n 3, 1, (0, 0, 0), 0), (57, .putfield 366, 3, (11, 43, 3), 43), (60, .return_, 1, (0, 0, 0), 0)])]
def mc_R_order : List (Nat × List (Nat × Ent)) := [(39, [(0, .aload_n 0, 1, (0, 0, 0), 0), (1, .iload_n 1, 1, (0, 0, 0), 0), (2, .invokevirtual 333, 3, (229, 2, 0), 0), (5, .ifCond .eq 28, 3, (0, 0, 0), 0), (8, .iload_n 2, 1, (0, 0, 0), 0), (9, .iconst 0, 1, (0, 0, 0), 0), (10, .iconst 1, 1, (0, 0, 0), 0), (11, .aload_n 0, 1, (0, 0, 0), 0), (12, .getfield 299, 3, (11, 37, 0), 37), (15, .ishl, 1, (0, 0, 0), 0), (16, .iconst 1, 1, (0, 0, 0), 0), (17, .isub, 1, (0, 0, 0), 0), (18, .invokestatic 234, 3, (179, 3, 0), 0), (21, .ifCond .eq 12, 3, (0, 0, 0), 0), (24, .iload_n 3, 1, (0, 0, 0), 0), (25, .iconst 0, 1, (0, 0, 0), 0), (26, .iconst 1, 1, (0, 0, 0), 0), (27, .invokestatic 234, 3, (179, 3, 0), 0), (30, .ifCond .ne 7, 3, (0, 0, 0), 0), (33, .ldc_w 423, 3, (0, 0, 0), -1000000), (36, .ireturn, 1, (0, 0, 1), 0), (37, .aload_n 0, 1, (0, 0, 0), 0), (38, .iload_n 1, 1, (0, 0, 0), 0), (39, .iload_n 2, 1, (0, 0, 0), 0)]), (70, [(40, .invokevirtual 457, 3, (279, 3, 0), 0), (43, .iload_n 3, 1, (0, 0, 0), 0), (44, .iconst 1, 1, (0, 0, 0), 0), (45, .if_icmp .ne 10, 3, (0, 0, 0), 0), (48, .aload_n 0, 1, (0, 0, 0), 0), (49, .getfield 448, 3, (11, 50, 0), 50), (52, .goto 18, 3, (0, 0, 0), 0), (55, .aload_n 0, 1, (0, 0, 0), 0), (56, .getfield 451, 3, (11, 49, 0), 49), (59, .ifCond .ne 7, 3, (0, 0, 0), 0), (62, .iconst (-1), 1, (0, 0, 0), 0), (63, .goto 7, 3, (0, 0, 0), 0), (66, .aload_n 0, 1, (0, 0, 0), 0), (67, .getfield 454, 3, (11, 48, 0), 48), (70, .ireturn, 1, (0, 0, 1), 0)])]
def mc_R_cleanRow : List (Nat × List (Nat × Ent)) := [(41, [(0, .iconst 0, 1, (0, 0, 0), 0), (1, .istore_n 2, 1, (0, 0, 0), 0), (2, .iconst 0, 1, (0, 0, 0), 0), (3, .istore_n 3, 1, (0, 0, 0), 0), (4, .iconst 0, 1, (0, 0, 0), 0), (5, .istore 4, 2, (0, 0, 0), 0), (7, .iload 4, 2, (0, 0, 0), 0), (9, .aload_n 0, 1, (0, 0, 0), 0), (10, .getfield 299, 3, (11, 37, 0), 37), (13, .if_icmp .ge 83, 3, (0, 0, 0), 0), (16, .iconst (-1), 1, (0, 0, 0), 0), (17, .istore 5, 2, (0, 0, 0), 0), (19, .aload_n 0, 1, (0, 0, 0), 0), (20, .getfield 299, 3, (11, 37, 0), 37), (23, .iconst 1, 1, (0, 0, 0), 0), (24, .isub, 1, (0, 0, 0), 0), (25, .istore 6, 2, (0, 0, 0), 0), (27, .iload 6, 2, (0, 0, 0), 0), (29, .ifCond .lt 38, 3, (0, 0, 0), 0), (32, .iload_n 3, 1, (0, 0, 0), 0), (33, .iload 6, 2, (0, 0, 0), 0), (35, .invokestatic 245, 3, (180, 2, 0), 0), (38, .ifCond .ne 19, 3, (0, 0, 0), 0), (41, .aload_n 0, 1, (0, 0, 0), 0)]), (84, [(42, .iload 6, 2, (0, 0, 0), 0), (44, .iload_n 3, 1, (0, 0, 0), 0), (45, .iload_n 1, 1, (0, 0, 0), 0), (46, .invokevirtual 460, 3, (282, 4, 0), 0), (49, .ifCond .eq 8, 3, (0, 0, 0), 0), (52, .iload 6, 2, (0, 0, 0), 0), (54, .goto 5, 3, (0, 0, 0), 0), (57, .iload 5, 2, (0, 0, 0), 0), (59, .istore 5, 2, (0, 0, 0), 0), (61, .iinc 6 (-1), 3, (0, 0, 0), 0), (64, .goto (-37), 3, (0, 0, 0), 0), (67, .iload 5, 2, (0, 0, 0), 0), (69, .iconst (-1), 1, (0, 0, 0), 0), (70, .if_icmp .ne 5, 3, (0, 0, 0), 0), (73, .iconst (-1), 1, (0, 0, 0), 0), (74, .ireturn, 1, (0, 0, 1), 0), (75, .iload_n 3, 1, (0, 0, 0), 0), (76, .iconst 1, 1, (0, 0, 0), 0), (77, .iload 5, 2, (0, 0, 0), 0), (79, .ishl, 1, (0, 0, 0), 0), (80, .ior, 1, (0, 0, 0), 0), (81, .istore_n 3, 1, (0, 0, 0), 0), (82, .bipush 10, 2, (0, 0, 0), 0), (84, .iload_n 2, 1, (0, 0, 0), 0)]), (97, [(85, .imul, 1, (0, 0, 0), 0), (86, .iload 5, 2, (0, 0, 0), 0), (88, .iadd, 1, (0, 0, 0), 0), (89, .istore_n 2, 1, (0, 0, 0), 0), (90, .iinc 4 1, 3, (0, 0, 0), 0), (93, .goto (-86), 3, (0, 0, 0), 0), (96, .iload_n 2, 1, (0, 0, 0), 0), (97, .ireturn, 1, (0, 0, 1), 0)])]
def mc_R_mayCome : List (Nat × List (Nat × Ent)) := [(46, [(0, .iconst 0, 1, (0, 0, 0), 0), (1, .istore 4, 2, (0, 0, 0), 0), (3, .iload 4, 2, (0, 0, 0), 0), (5, .aload_n 0, 1, (0, 0, 0), 0), (6, .getfield 305, 3, (11, 39, 0), 39), (9, .if_icmp .ge 45, 3, (0, 0, 0), 0), (12, .iload_n 3, 1, (0, 0, 0), 0), (13, .iload 4, 2, (0, 0, 0), 0), (15, .invokestatic 245, 3, (180, 2, 0), 0), (18, .ifCond .ne 30, 3, (0, 0, 0), 0), (21, .aload_n 0, 1, (0, 0, 0), 0), (22, .getfield 70, 3, (11, 32, 1), 32), (25, .iload 4, 2, (0, 0, 0), 0), (27, .iaload, 1, (0, 0, 0), 0), (28, .iload_n 1, 1, (0, 0, 0), 0), (29, .if_icmp .ne 19, 3, (0, 0, 0), 0), (32, .iload_n 2, 1, (0, 0, 0), 0), (33, .aload_n 0, 1, (0, 0, 0), 0), (34, .getfield 73, 3, (11, 33, 1), 33), (37, .iload 4, 2, (0, 0, 0), 0), (39, .iaload, 1, (0, 0, 0), 0), (40, .invokestatic 245, 3, (180, 2, 0), 0), (43, .ifCond .ne 5, 3, (0, 0, 0), 0), (46, .iconst 0, 1, (0, 0, 0), 0)]), (55, [(47, .ireturn, 1, (0, 0, 3), 0), (48, .iinc 4 1, 3, (0, 0, 0), 0), (51, .goto (-48), 3, (0, 0, 0), 0), (54, .iconst 1, 1, (0, 0, 0), 0), (55, .ireturn, 1, (0, 0, 3), 0)])]
def mc_R_clean : List (Nat × List (Nat × Ent)) := [(16, [(0, .aload_n 0, 1, (0, 0, 0), 0), (1, .getfield 299, 3, (11, 37, 0), 37), (4, .ifCond .ne 7, 3, (0, 0, 0), 0), (7, .iconst (-1), 1, (0, 0, 0), 0), (8, .goto 8, 3, (0, 0, 0), 0), (11, .aload_n 0, 1, (0, 0, 0), 0), (12, .iconst 0, 1, (0, 0, 0), 0), (13, .invokevirtual 463, 3, (281, 2, 0), 0), (16, .ireturn, 1, (0, 0, 1), 0)])]
def mc_R_rings : List (Nat × List (Nat × Ent)) := [(39, [(0, .aload_n 0, 1, (0, 0, 0), 0), (1, .getfield 299, 3, (11, 37, 0), 37), (4, .ifCond .ne 5, 3, (0, 0, 0), 0), (7, .iconst (-1), 1, (0, 0, 0), 0), (8, .ireturn, 1, (0, 0, 1), 0), (9, .aload_n 0, 1, (0, 0, 0), 0), (10, .getfield 305, 3, (11, 39, 0), 39), (13, .istore_n 1, 1, (0, 0, 0), 0), (14, .iconst 0, 1, (0, 0, 0), 0), (15, .istore_n 2, 1, (0, 0, 0), 0), (16, .iload_n 2, 1, (0, 0, 0), 0), (17, .iconst 1, 1, (0, 0, 0), 0), (18, .aload_n 0, 1, (0, 0, 0), 0), (19, .getfield 305, 3, (11, 39, 0), 39), (22, .ishl, 1, (0, 0, 0), 0), (23, .if_icmp .ge 35, 3, (0, 0, 0), 0), (26, .iload_n 2, 1, (0, 0, 0), 0), (27, .invokestatic 345, 3, (313, 1, 0), 0), (30, .iload_n 1, 1, (0, 0, 0), 0), (31, .if_icmp .ge 19, 3, (0, 0, 0), 0), (34, .aload_n 0, 1, (0, 0, 0), 0), (35, .iload_n 2, 1, (0, 0, 0), 0), (36, .invokevirtual 463, 3, (281, 2, 0), 0), (39, .iconst (-1), 1, (0, 0, 0), 0)]), (59, [(40, .if_icmp .eq 10, 3, (0, 0, 0), 0), (43, .iload_n 2, 1, (0, 0, 0), 0), (44, .invokestatic 345, 3, (313, 1, 0), 0), (47, .goto 4, 3, (0, 0, 0), 0), (50, .iload_n 1, 1, (0, 0, 0), 0), (51, .istore_n 1, 1, (0, 0, 0), 0), (52, .iinc 2 1, 3, (0, 0, 0), 0), (55, .goto (-39), 3, (0, 0, 0), 0), (58, .iload_n 1, 1, (0, 0, 0), 0), (59, .ireturn, 1, (0, 0, 1), 0)])]
def mc_R_isHeldBySomebody : List (Nat × List (Nat × Ent)) := [(28, [(0, .iconst 0, 1, (0, 0, 0), 0), (1, .istore_n 2, 1, (0, 0, 0), 0), (2, .iload_n 2, 1, (0, 0, 0), 0), (3, .aload_n 0, 1, (0, 0, 0), 0), (4, .getfield 302, 3, (11, 38, 0), 38), (7, .if_icmp .ge 20, 3, (0, 0, 0), 0), (10, .aload_n 0, 1, (0, 0, 0), 0), (11, .iload_n 2, 1, (0, 0, 0), 0), (12, .iload_n 1, 1, (0, 0, 0), 0), (13, .invokevirtual 339, 3, (231, 3, 0), 0), (16, .ifCond .le 5, 3, (0, 0, 0), 0), (19, .iconst 1, 1, (0, 0, 0), 0), (20, .ireturn, 1, (0, 0, 3), 0), (21, .iinc 2 1, 3, (0, 0, 0), 0), (24, .goto (-22), 3, (0, 0, 0), 0), (27, .iconst 0, 1, (0, 0, 0), 0), (28, .ireturn, 1, (0, 0, 3), 0)])]
def mc_R_tryMatch : List (Nat × List (Nat × Ent)) := [(43, [(0, .iload_n 1, 1, (0, 0, 0), 0), (1, .aload_n 0, 1, (0, 0, 0), 0), (2, .getfield 302, 3, (11, 38, 0), 38), (5, .if_icmp .ne 32, 3, (0, 0, 0), 0), (8, .aload_n 0, 1, (0, 0, 0), 0), (9, .getfield 466, 3, (11, 51, 0), 51), (12, .iconst (-1), 1, (0, 0, 0), 0), (13, .if_icmp .eq 12, 3, (0, 0, 0), 0), (16, .iload 4, 2, (0, 0, 0), 0), (18, .aload_n 0, 1, (0, 0, 0), 0), (19, .getfield 469, 3, (11, 52, 0), 52), (22, .if_icmp .le 14, 3, (0, 0, 0), 0), (25, .aload_n 0, 1, (0, 0, 0), 0), (26, .iload_n 3, 1, (0, 0, 0), 0), (27, .putfield 466, 3, (11, 51, 0), 51), (30, .aload_n 0, 1, (0, 0, 0), 0), (31, .iload 4, 2, (0, 0, 0), 0), (33, .putfield 469, 3, (11, 52, 0), 52), (36, .return_, 1, (0, 0, 0), 0), (37, .iconst 0, 1, (0, 0, 0), 0), (38, .istore 5, 2, (0, 0, 0), 0), (40, .iload 5, 2, (0, 0, 0), 0), (42, .aload_n 0, 1, (0, 0, 0), 0), (43, .getfield 299, 3, (11, 37, 0), 37)]), (80, [(46, .if_icmp .ge 50, 3, (0, 0, 0), 0), (49, .iload_n 2, 1, (0, 0, 0), 0), (50, .iload 5, 2, (0, 0, 0), 0), (52, .invokestatic 245, 3, (180, 2, 0), 0), (55, .ifCond .eq 35, 3, (0, 0, 0), 0), (58, .aload_n 0, 1, (0, 0, 0), 0), (59, .iload_n 1, 1, (0, 0, 0), 0), (60, .iconst 1, 1, (0, 0, 0), 0), (61, .iadd, 1, (0, 0, 0), 0), (62, .iload_n 2, 1, (0, 0, 0), 0), (63, .iconst 1, 1, (0, 0, 0), 0), (64, .iload 5, 2, (0, 0, 0), 0), (66, .ishl, 1, (0, 0, 0), 0), (67, .iconst (-1), 1, (0, 0, 0), 0), (68, .ixor, 1, (0, 0, 0), 0), (69, .iand, 1, (0, 0, 0), 0), (70, .bipush 10, 2, (0, 0, 0), 0), (72, .iload_n 3, 1, (0, 0, 0), 0), (73, .imul, 1, (0, 0, 0), 0), (74, .iload 5, 2, (0, 0, 0), 0), (76, .iadd, 1, (0, 0, 0), 0), (77, .iload 4, 2, (0, 0, 0), 0), (79, .aload_n 0, 1, (0, 0, 0), 0), (80, .iload_n 1, 1, (0, 0, 0), 0)]), (113, [(81, .iload 5, 2, (0, 0, 0), 0), (83, .invokevirtual 363, 3, (242, 3, 0), 0), (86, .iadd, 1, (0, 0, 0), 0), (87, .invokevirtual 472, 3, (286, 5, 0), 0), (90, .iinc 5 1, 3, (0, 0, 0), 0), (93, .goto (-53), 3, (0, 0, 0), 0), (96, .aload_n 0, 1, (0, 0, 0), 0), (97, .iload_n 1, 1, (0, 0, 0), 0), (98, .iconst 1, 1, (0, 0, 0), 0), (99, .iadd, 1, (0, 0, 0), 0), (100, .iload_n 2, 1, (0, 0, 0), 0), (101, .bipush 10, 2, (0, 0, 0), 0), (103, .iload_n 3, 1, (0, 0, 0), 0), (104, .imul, 1, (0, 0, 0), 0), (105, .bipush 8, 2, (0, 0, 0), 0), (107, .iadd, 1, (0, 0, 0), 0), (108, .iload 4, 2, (0, 0, 0), 0), (110, .invokevirtual 472, 3, (286, 5, 0), 0), (113, .return_, 1, (0, 0, 0), 0)])]
def mc_R_pairing : List (Nat × List (Nat × Ent)) := [(39, [(0, .aload_n 0, 1, (0, 0, 0), 0), (1, .getfield 299, 3, (11, 37, 0), 37), (4, .ifCond .eq 12, 3, (0, 0, 0), 0), (7, .iload_n 1, 1, (0, 0, 0), 0), (8, .iconst 0, 1, (0, 0, 0), 0), (9, .iconst 1, 1, (0, 0, 0), 0), (10, .invokestatic 234, 3, (179, 3, 0), 0), (13, .ifCond .ne 5, 3, (0, 0, 0), 0), (16, .iconst (-1), 1, (0, 0, 0), 0), (17, .ireturn, 1, (0, 0, 1), 0), (18, .iconst 0, 1, (0, 0, 0), 0), (19, .istore_n 2, 1, (0, 0, 0), 0), (20, .iconst 0, 1, (0, 0, 0), 0), (21, .istore_n 3, 1, (0, 0, 0), 0), (22, .iload_n 3, 1, (0, 0, 0), 0), (23, .aload_n 0, 1, (0, 0, 0), 0), (24, .getfield 299, 3, (11, 37, 0), 37), (27, .if_icmp .ge 27, 3, (0, 0, 0), 0), (30, .iload_n 2, 1, (0, 0, 0), 0), (31, .aload_n 0, 1, (0, 0, 0), 0), (32, .iload_n 3, 1, (0, 0, 0), 0), (33, .invokevirtual 475, 3, (285, 2, 0), 0), (36, .ifCond .eq 9, 3, (0, 0, 0), 0), (39, .iconst 1, 1, (0, 0, 0), 0)]), (79, [(40, .iload_n 3, 1, (0, 0, 0), 0), (41, .ishl, 1, (0, 0, 0), 0), (42, .goto 4, 3, (0, 0, 0), 0), (45, .iconst 0, 1, (0, 0, 0), 0), (46, .ior, 1, (0, 0, 0), 0), (47, .istore_n 2, 1, (0, 0, 0), 0), (48, .iinc 3 1, 3, (0, 0, 0), 0), (51, .goto (-29), 3, (0, 0, 0), 0), (54, .aload_n 0, 1, (0, 0, 0), 0), (55, .iconst (-1), 1, (0, 0, 0), 0), (56, .putfield 466, 3, (11, 51, 0), 51), (59, .aload_n 0, 1, (0, 0, 0), 0), (60, .iconst 0, 1, (0, 0, 0), 0), (61, .iload_n 2, 1, (0, 0, 0), 0), (62, .iconst 0, 1, (0, 0, 0), 0), (63, .iconst 0, 1, (0, 0, 0), 0), (64, .invokevirtual 472, 3, (286, 5, 0), 0), (67, .iload_n 1, 1, (0, 0, 0), 0), (68, .ifCond .ne 10, 3, (0, 0, 0), 0), (71, .aload_n 0, 1, (0, 0, 0), 0), (72, .getfield 466, 3, (11, 51, 0), 51), (75, .goto 7, 3, (0, 0, 0), 0), (78, .aload_n 0, 1, (0, 0, 0), 0), (79, .getfield 469, 3, (11, 52, 0), 52)]), (82, [(82, .ireturn, 1, (0, 0, 1), 0)])]
def mc_R_sale : List (Nat × List (Nat × Ent)) := [(40, [(0, .aload_n 0, 1, (0, 0, 0), 0), (1, .iload_n 1, 1, (0, 0, 0), 0), (2, .invokevirtual 336, 3, (228, 2, 0), 0), (5, .ifCond .eq 12, 3, (0, 0, 0), 0), (8, .iload_n 2, 1, (0, 0, 0), 0), (9, .iconst 0, 1, (0, 0, 0), 0), (10, .iconst 1, 1, (0, 0, 0), 0), (11, .invokestatic 234, 3, (179, 3, 0), 0), (14, .ifCond .ne 5, 3, (0, 0, 0), 0), (17, .iconst (-1), 1, (0, 0, 0), 0), (18, .ireturn, 1, (0, 0, 1), 0), (19, .iconst 0, 1, (0, 0, 0), 0), (20, .istore_n 3, 1, (0, 0, 0), 0), (21, .iconst 1, 1, (0, 0, 0), 0), (22, .istore 4, 2, (0, 0, 0), 0), (24, .iload 4, 2, (0, 0, 0), 0), (26, .aload_n 0, 1, (0, 0, 0), 0), (27, .getfield 302, 3, (11, 38, 0), 38), (30, .if_icmp .ge 32, 3, (0, 0, 0), 0), (33, .aload_n 0, 1, (0, 0, 0), 0), (34, .iload 4, 2, (0, 0, 0), 0), (36, .iload_n 1, 1, (0, 0, 0), 0), (37, .invokevirtual 363, 3, (242, 3, 0), 0), (40, .aload_n 0, 1, (0, 0, 0), 0)]), (86, [(41, .iload_n 3, 1, (0, 0, 0), 0), (42, .iload_n 1, 1, (0, 0, 0), 0), (43, .invokevirtual 363, 3, (242, 3, 0), 0), (46, .if_icmp .le 8, 3, (0, 0, 0), 0), (49, .iload 4, 2, (0, 0, 0), 0), (51, .goto 4, 3, (0, 0, 0), 0), (54, .iload_n 3, 1, (0, 0, 0), 0), (55, .istore_n 3, 1, (0, 0, 0), 0), (56, .iinc 4 1, 3, (0, 0, 0), 0), (59, .goto (-35), 3, (0, 0, 0), 0), (62, .iconst 0, 1, (0, 0, 0), 0), (63, .istore 4, 2, (0, 0, 0), 0), (65, .iconst 0, 1, (0, 0, 0), 0), (66, .istore 5, 2, (0, 0, 0), 0), (68, .iload 5, 2, (0, 0, 0), 0), (70, .aload_n 0, 1, (0, 0, 0), 0), (71, .getfield 302, 3, (11, 38, 0), 38), (74, .if_icmp .ge 34, 3, (0, 0, 0), 0), (77, .iload 5, 2, (0, 0, 0), 0), (79, .iload_n 3, 1, (0, 0, 0), 0), (80, .if_icmp .eq 18, 3, (0, 0, 0), 0), (83, .iload 4, 2, (0, 0, 0), 0), (85, .aload_n 0, 1, (0, 0, 0), 0), (86, .iload 5, 2, (0, 0, 0), 0)]), (118, [(88, .iload_n 1, 1, (0, 0, 0), 0), (89, .invokevirtual 363, 3, (242, 3, 0), 0), (92, .invokestatic 355, 3, (314, 2, 0), 0), (95, .goto 5, 3, (0, 0, 0), 0), (98, .iload 4, 2, (0, 0, 0), 0), (100, .istore 4, 2, (0, 0, 0), 0), (102, .iinc 5 1, 3, (0, 0, 0), 0), (105, .goto (-37), 3, (0, 0, 0), 0), (108, .iload_n 2, 1, (0, 0, 0), 0), (109, .ifCond .ne 7, 3, (0, 0, 0), 0), (112, .iload_n 3, 1, (0, 0, 0), 0), (113, .goto 5, 3, (0, 0, 0), 0), (116, .iload 4, 2, (0, 0, 0), 0), (118, .ireturn, 1, (0, 0, 1), 0)])]
def mc_R_awaits : List (Nat × List (Nat × Ent)) := [(43, [(0, .aload_n 0, 1, (0, 0, 0), 0), (1, .iload_n 1, 1, (0, 0, 0), 0), (2, .iload_n 2, 1, (0, 0, 0), 0), (3, .invokevirtual 379, 3, (248, 3, 0), 0), (6, .ifCond .eq 34, 3, (0, 0, 0), 0), (9, .iload_n 3, 1, (0, 0, 0), 0), (10, .iconst 0, 1, (0, 0, 0), 0), (11, .bipush 30, 2, (0, 0, 0), 0), (13, .invokestatic 234, 3, (179, 3, 0), 0), (16, .ifCond .eq 24, 3, (0, 0, 0), 0), (19, .iload 4, 2, (0, 0, 0), 0), (21, .iconst 0, 1, (0, 0, 0), 0), (22, .bipush 100, 2, (0, 0, 0), 0), (24, .invokestatic 234, 3, (179, 3, 0), 0), (27, .ifCond .eq 13, 3, (0, 0, 0), 0), (30, .iload 5, 2, (0, 0, 0), 0), (32, .iconst 0, 1, (0, 0, 0), 0), (33, .iconst 1, 1, (0, 0, 0), 0), (34, .invokestatic 234, 3, (179, 3, 0), 0), (37, .ifCond .ne 5, 3, (0, 0, 0), 0), (40, .iconst (-1), 1, (0, 0, 0), 0), (41, .ireturn, 1, (0, 0, 1), 0), (42, .aload_n 0, 1, (0, 0, 0), 0), (43, .invokevirtual 424, 3, (270, 1, 0), 0)]), (85, [(46, .ldc2_w 478, 3, (0, 0, 0), 1000000000), (49, .lstore 6, 2, (0, 0, 0), 0), (51, .iconst (-1), 1, (0, 0, 0), 0), (52, .istore 8, 2, (0, 0, 0), 0), (54, .iconst 0, 1, (0, 0, 0), 0), (55, .istore 9, 2, (0, 0, 0), 0), (57, .iconst 0, 1, (0, 0, 0), 0), (58, .istore 10, 2, (0, 0, 0), 0), (60, .iload 10, 2, (0, 0, 0), 0), (62, .iload_n 3, 1, (0, 0, 0), 0), (63, .if_icmp .gt 98, 3, (0, 0, 0), 0), (66, .lload 6, 2, (0, 0, 0), 0), (68, .aload_n 0, 1, (0, 0, 0), 0), (69, .iload_n 1, 1, (0, 0, 0), 0), (70, .iload_n 2, 1, (0, 0, 0), 0), (71, .invokevirtual 363, 3, (242, 3, 0), 0), (74, .i2l, 1, (0, 0, 0), 0), (75, .lmul, 1, (0, 0, 0), 0), (76, .ldc2_w 478, 3, (0, 0, 0), 1000000000), (79, .ldiv, 1, (0, 0, 0), 0), (80, .l2i, 1, (0, 0, 0), 0), (81, .istore 11, 2, (0, 0, 0), 0), (83, .iload 8, 2, (0, 0, 0), 0), (85, .iconst (-1), 1, (0, 0, 0), 0)]), (128, [(86, .if_icmp .eq 10, 3, (0, 0, 0), 0), (89, .iload 11, 2, (0, 0, 0), 0), (91, .iload 9, 2, (0, 0, 0), 0), (93, .if_icmp .le 11, 3, (0, 0, 0), 0), (96, .iload 10, 2, (0, 0, 0), 0), (98, .istore 8, 2, (0, 0, 0), 0), (100, .iload 11, 2, (0, 0, 0), 0), (102, .istore 9, 2, (0, 0, 0), 0), (104, .lload 6, 2, (0, 0, 0), 0), (106, .lload 6, 2, (0, 0, 0), 0), (108, .iload 4, 2, (0, 0, 0), 0), (110, .i2l, 1, (0, 0, 0), 0), (111, .lmul, 1, (0, 0, 0), 0), (112, .ldc2_w 480, 3, (0, 0, 0), 100), (115, .ldiv, 1, (0, 0, 0), 0), (116, .lsub, 1, (0, 0, 0), 0), (117, .lstore 6, 2, (0, 0, 0), 0), (119, .aload_n 0, 1, (0, 0, 0), 0), (120, .getfield 58, 3, (11, 28, 1), 28), (123, .bipush 72, 2, (0, 0, 0), 0), (125, .dup2, 1, (0, 0, 0), 0), (126, .iaload, 1, (0, 0, 0), 0), (127, .iconst 1, 1, (0, 0, 0), 0), (128, .iadd, 1, (0, 0, 0), 0)]), (170, [(129, .iastore, 1, (0, 0, 0), 0), (130, .aload_n 0, 1, (0, 0, 0), 0), (131, .getfield 58, 3, (11, 28, 1), 28), (134, .bipush 66, 2, (0, 0, 0), 0), (136, .iload_n 1, 1, (0, 0, 0), 0), (137, .iadd, 1, (0, 0, 0), 0), (138, .bipush 99, 2, (0, 0, 0), 0), (140, .aload_n 0, 1, (0, 0, 0), 0), (141, .getfield 58, 3, (11, 28, 1), 28), (144, .bipush 66, 2, (0, 0, 0), 0), (146, .iload_n 1, 1, (0, 0, 0), 0), (147, .iadd, 1, (0, 0, 0), 0), (148, .iaload, 1, (0, 0, 0), 0), (149, .iconst 1, 1, (0, 0, 0), 0), (150, .iadd, 1, (0, 0, 0), 0), (151, .invokestatic 353, 3, (316, 2, 0), 0), (154, .iastore, 1, (0, 0, 0), 0), (155, .iinc 10 1, 3, (0, 0, 0), 0), (158, .goto (-98), 3, (0, 0, 0), 0), (161, .aload_n 0, 1, (0, 0, 0), 0), (162, .invokevirtual 436, 3, (271, 1, 0), 0), (165, .iload 5, 2, (0, 0, 0), 0), (167, .ifCond .ne 8, 3, (0, 0, 0), 0), (170, .iload 8, 2, (0, 0, 0), 0)]), (177, [(172, .goto 5, 3, (0, 0, 0), 0), (175, .iload 9, 2, (0, 0, 0), 0), (177, .ireturn, 1, (0, 0, 1), 0)])]
def mc_R_repeats : List (Nat × List (Nat × Ent)) := [(42, [(0, .aload_n 0, 1, (0, 0, 0), 0), (1, .iload_n 1, 1, (0, 0, 0), 0), (2, .invokevirtual 333, 3, (229, 2, 0), 0), (5, .ifCond .eq 13, 3, (0, 0, 0), 0), (8, .iload_n 2, 1, (0, 0, 0), 0), (9, .iconst 0, 1, (0, 0, 0), 0), (10, .bipush 60, 2, (0, 0, 0), 0), (12, .invokestatic 234, 3, (179, 3, 0), 0), (15, .ifCond .ne 5, 3, (0, 0, 0), 0), (18, .iconst (-1), 1, (0, 0, 0), 0), (19, .ireturn, 1, (0, 0, 1), 0), (20, .aload_n 0, 1, (0, 0, 0), 0), (21, .invokevirtual 424, 3, (270, 1, 0), 0), (24, .iconst 0, 1, (0, 0, 0), 0), (25, .istore_n 3, 1, (0, 0, 0), 0), (26, .iload_n 3, 1, (0, 0, 0), 0), (27, .iload_n 2, 1, (0, 0, 0), 0), (28, .if_icmp .ge 13, 3, (0, 0, 0), 0), (31, .aload_n 0, 1, (0, 0, 0), 0), (32, .invokevirtual 417, 3, (262, 1, 0), 0), (35, .iinc 3 1, 3, (0, 0, 0), 0), (38, .goto (-12), 3, (0, 0, 0), 0), (41, .iconst 0, 1, (0, 0, 0), 0), (42, .istore_n 3, 1, (0, 0, 0), 0)]), (84, [(43, .iconst 0, 1, (0, 0, 0), 0), (44, .istore 4, 2, (0, 0, 0), 0), (46, .iload 4, 2, (0, 0, 0), 0), (48, .aload_n 0, 1, (0, 0, 0), 0), (49, .getfield 299, 3, (11, 37, 0), 37), (52, .if_icmp .ge 27, 3, (0, 0, 0), 0), (55, .iload_n 3, 1, (0, 0, 0), 0), (56, .aload_n 0, 1, (0, 0, 0), 0), (57, .iload_n 1, 1, (0, 0, 0), 0), (58, .iload 4, 2, (0, 0, 0), 0), (60, .invokevirtual 339, 3, (231, 3, 0), 0), (63, .ifCond .ne 7, 3, (0, 0, 0), 0), (66, .iconst 1, 1, (0, 0, 0), 0), (67, .goto 4, 3, (0, 0, 0), 0), (70, .iconst 0, 1, (0, 0, 0), 0), (71, .iadd, 1, (0, 0, 0), 0), (72, .istore_n 3, 1, (0, 0, 0), 0), (73, .iinc 4 1, 3, (0, 0, 0), 0), (76, .goto (-30), 3, (0, 0, 0), 0), (79, .aload_n 0, 1, (0, 0, 0), 0), (80, .invokevirtual 436, 3, (271, 1, 0), 0), (83, .iload_n 3, 1, (0, 0, 0), 0), (84, .ireturn, 1, (0, 0, 1), 0)])]
def mc_R_spoilsOf : List (Nat × List (Nat × Ent)) := [(39, [(0, .iconst 0, 1, (0, 0, 0), 0), (1, .istore_n 3, 1, (0, 0, 0), 0), (2, .iconst 0, 1, (0, 0, 0), 0), (3, .istore 4, 2, (0, 0, 0), 0), (5, .iload 4, 2, (0, 0, 0), 0), (7, .aload_n 0, 1, (0, 0, 0), 0), (8, .getfield 305, 3, (11, 39, 0), 39), (11, .if_icmp .ge 63, 3, (0, 0, 0), 0), (14, .aload_n 0, 1, (0, 0, 0), 0), (15, .getfield 73, 3, (11, 33, 1), 33), (18, .iload 4, 2, (0, 0, 0), 0), (20, .iaload, 1, (0, 0, 0), 0), (21, .istore 5, 2, (0, 0, 0), 0), (23, .iload_n 3, 1, (0, 0, 0), 0), (24, .aload_n 0, 1, (0, 0, 0), 0), (25, .getfield 70, 3, (11, 32, 1), 32), (28, .iload 4, 2, (0, 0, 0), 0), (30, .iaload, 1, (0, 0, 0), 0), (31, .iload_n 2, 1, (0, 0, 0), 0), (32, .if_icmp .ne 33, 3, (0, 0, 0), 0), (35, .aload_n 0, 1, (0, 0, 0), 0), (36, .iload_n 1, 1, (0, 0, 0), 0), (37, .iload 5, 2, (0, 0, 0), 0), (39, .invokevirtual 373, 3, (232, 3, 0), 0)]), (75, [(42, .ifCond .ne 23, 3, (0, 0, 0), 0), (45, .aload_n 0, 1, (0, 0, 0), 0), (46, .iload_n 1, 1, (0, 0, 0), 0), (47, .iload 5, 2, (0, 0, 0), 0), (49, .invokevirtual 339, 3, (231, 3, 0), 0), (52, .ifCond .le 13, 3, (0, 0, 0), 0), (55, .aload_n 0, 1, (0, 0, 0), 0), (56, .getfield 76, 3, (11, 34, 1), 34), (59, .iload 4, 2, (0, 0, 0), 0), (61, .iaload, 1, (0, 0, 0), 0), (62, .goto 4, 3, (0, 0, 0), 0), (65, .iconst 0, 1, (0, 0, 0), 0), (66, .iadd, 1, (0, 0, 0), 0), (67, .istore_n 3, 1, (0, 0, 0), 0), (68, .iinc 4 1, 3, (0, 0, 0), 0), (71, .goto (-66), 3, (0, 0, 0), 0), (74, .iload_n 3, 1, (0, 0, 0), 0), (75, .ireturn, 1, (0, 0, 1), 0)])]
def mc_R_chosenBy : List (Nat × List (Nat × Ent)) := [(42, [(0, .iconst (-1), 1, (0, 0, 0), 0), (1, .istore_n 3, 1, (0, 0, 0), 0), (2, .iconst 0, 1, (0, 0, 0), 0), (3, .istore 4, 2, (0, 0, 0), 0), (5, .iconst 0, 1, (0, 0, 0), 0), (6, .istore 5, 2, (0, 0, 0), 0), (8, .iload 5, 2, (0, 0, 0), 0), (10, .aload_n 0, 1, (0, 0, 0), 0), (11, .getfield 299, 3, (11, 37, 0), 37), (14, .if_icmp .ge 81, 3, (0, 0, 0), 0), (17, .aload_n 0, 1, (0, 0, 0), 0), (18, .iload_n 1, 1, (0, 0, 0), 0), (19, .iload 5, 2, (0, 0, 0), 0), (21, .invokevirtual 339, 3, (231, 3, 0), 0), (24, .ifCond .le 65, 3, (0, 0, 0), 0), (27, .aload_n 0, 1, (0, 0, 0), 0), (28, .iload_n 1, 1, (0, 0, 0), 0), (29, .iload 5, 2, (0, 0, 0), 0), (31, .invokevirtual 373, 3, (232, 3, 0), 0), (34, .ifCond .ne 55, 3, (0, 0, 0), 0), (37, .iload_n 2, 1, (0, 0, 0), 0), (38, .ifCond .ne 7, 3, (0, 0, 0), 0), (41, .iconst 0, 1, (0, 0, 0), 0), (42, .goto 26, 3, (0, 0, 0), 0)]), (87, [(45, .iload_n 2, 1, (0, 0, 0), 0), (46, .iconst 1, 1, (0, 0, 0), 0), (47, .if_icmp .ne 13, 3, (0, 0, 0), 0), (50, .aload_n 0, 1, (0, 0, 0), 0), (51, .iload_n 1, 1, (0, 0, 0), 0), (52, .iload 5, 2, (0, 0, 0), 0), (54, .invokevirtual 363, 3, (242, 3, 0), 0), (57, .goto 11, 3, (0, 0, 0), 0), (60, .aload_n 0, 1, (0, 0, 0), 0), (61, .iload_n 1, 1, (0, 0, 0), 0), (62, .iload 5, 2, (0, 0, 0), 0), (64, .invokevirtual 482, 3, (291, 3, 0), 0), (67, .ineg, 1, (0, 0, 0), 0), (68, .istore 6, 2, (0, 0, 0), 0), (70, .iload_n 3, 1, (0, 0, 0), 0), (71, .iconst (-1), 1, (0, 0, 0), 0), (72, .if_icmp .eq 10, 3, (0, 0, 0), 0), (75, .iload 6, 2, (0, 0, 0), 0), (77, .iload 4, 2, (0, 0, 0), 0), (79, .if_icmp .le 10, 3, (0, 0, 0), 0), (82, .iload 5, 2, (0, 0, 0), 0), (84, .istore_n 3, 1, (0, 0, 0), 0), (85, .iload 6, 2, (0, 0, 0), 0), (87, .istore 4, 2, (0, 0, 0), 0)]), (96, [(89, .iinc 5 1, 3, (0, 0, 0), 0), (92, .goto (-84), 3, (0, 0, 0), 0), (95, .iload_n 3, 1, (0, 0, 0), 0), (96, .ireturn, 1, (0, 0, 1), 0)])]
def mc_R_keptBy : List (Nat × List (Nat × Ent)) := [(38, [(0, .aload_n 0, 1, (0, 0, 0), 0), (1, .invokevirtual 424, 3, (270, 1, 0), 0), (4, .aload_n 0, 1, (0, 0, 0), 0), (5, .getfield 58, 3, (11, 28, 1), 28), (8, .bipush 54, 2, (0, 0, 0), 0), (10, .iload_n 1, 1, (0, 0, 0), 0), (11, .iadd, 1, (0, 0, 0), 0), (12, .iaload, 1, (0, 0, 0), 0), (13, .istore 4, 2, (0, 0, 0), 0), (15, .iconst 0, 1, (0, 0, 0), 0), (16, .istore 5, 2, (0, 0, 0), 0), (18, .iconst 0, 1, (0, 0, 0), 0), (19, .istore 6, 2, (0, 0, 0), 0), (21, .iload 6, 2, (0, 0, 0), 0), (23, .iload_n 3, 1, (0, 0, 0), 0), (24, .if_icmp .ge 70, 3, (0, 0, 0), 0), (27, .iload_n 2, 1, (0, 0, 0), 0), (28, .iconst 3, 1, (0, 0, 0), 0), (29, .if_icmp .ge 28, 3, (0, 0, 0), 0), (32, .aload_n 0, 1, (0, 0, 0), 0), (33, .iload_n 1, 1, (0, 0, 0), 0), (34, .iload_n 2, 1, (0, 0, 0), 0), (35, .invokevirtual 485, 3, (292, 3, 0), 0), (38, .istore 7, 2, (0, 0, 0), 0)]), (78, [(40, .iload 7, 2, (0, 0, 0), 0), (42, .iconst (-1), 1, (0, 0, 0), 0), (43, .if_icmp .eq 11, 3, (0, 0, 0), 0), (46, .aload_n 0, 1, (0, 0, 0), 0), (47, .iload_n 1, 1, (0, 0, 0), 0), (48, .iload 7, 2, (0, 0, 0), 0), (50, .invokevirtual 385, 3, (247, 3, 0), 0), (53, .pop, 1, (0, 0, 0), 0), (54, .goto 30, 3, (0, 0, 0), 0), (57, .iload 6, 2, (0, 0, 0), 0), (59, .iload_n 3, 1, (0, 0, 0), 0), (60, .iconst 1, 1, (0, 0, 0), 0), (61, .isub, 1, (0, 0, 0), 0), (62, .if_icmp .ne 22, 3, (0, 0, 0), 0), (65, .aload_n 0, 1, (0, 0, 0), 0), (66, .iload_n 1, 1, (0, 0, 0), 0), (67, .iconst 1, 1, (0, 0, 0), 0), (68, .aload_n 0, 1, (0, 0, 0), 0), (69, .getfield 299, 3, (11, 37, 0), 37), (72, .ishl, 1, (0, 0, 0), 0), (73, .iconst 1, 1, (0, 0, 0), 0), (74, .isub, 1, (0, 0, 0), 0), (75, .invokevirtual 457, 3, (279, 3, 0), 0), (78, .aload_n 0, 1, (0, 0, 0), 0)]), (117, [(79, .getfield 448, 3, (11, 50, 0), 50), (82, .istore 5, 2, (0, 0, 0), 0), (84, .aload_n 0, 1, (0, 0, 0), 0), (85, .invokevirtual 417, 3, (262, 1, 0), 0), (88, .iinc 6 1, 3, (0, 0, 0), 0), (91, .goto (-70), 3, (0, 0, 0), 0), (94, .aload_n 0, 1, (0, 0, 0), 0), (95, .getfield 58, 3, (11, 28, 1), 28), (98, .bipush 54, 2, (0, 0, 0), 0), (100, .iload_n 1, 1, (0, 0, 0), 0), (101, .iadd, 1, (0, 0, 0), 0), (102, .iaload, 1, (0, 0, 0), 0), (103, .iload 4, 2, (0, 0, 0), 0), (105, .isub, 1, (0, 0, 0), 0), (106, .iload 5, 2, (0, 0, 0), 0), (108, .iadd, 1, (0, 0, 0), 0), (109, .istore 6, 2, (0, 0, 0), 0), (111, .aload_n 0, 1, (0, 0, 0), 0), (112, .invokevirtual 436, 3, (271, 1, 0), 0), (115, .iload 6, 2, (0, 0, 0), 0), (117, .ireturn, 1, (0, 0, 1), 0)])]
def mc_R_kept : List (Nat × List (Nat × Ent)) := [(38, [(0, .aload_n 0, 1, (0, 0, 0), 0), (1, .iload_n 1, 1, (0, 0, 0), 0), (2, .invokevirtual 333, 3, (229, 2, 0), 0), (5, .ifCond .eq 32, 3, (0, 0, 0), 0), (8, .iload_n 2, 1, (0, 0, 0), 0), (9, .iconst 0, 1, (0, 0, 0), 0), (10, .iconst 3, 1, (0, 0, 0), 0), (11, .invokestatic 234, 3, (179, 3, 0), 0), (14, .ifCond .eq 23, 3, (0, 0, 0), 0), (17, .iload_n 3, 1, (0, 0, 0), 0), (18, .iconst 1, 1, (0, 0, 0), 0), (19, .bipush 30, 2, (0, 0, 0), 0), (21, .invokestatic 234, 3, (179, 3, 0), 0), (24, .ifCond .eq 13, 3, (0, 0, 0), 0), (27, .aload_n 0, 1, (0, 0, 0), 0), (28, .iload_n 1, 1, (0, 0, 0), 0), (29, .iload_n 2, 1, (0, 0, 0), 0), (30, .iload_n 3, 1, (0, 0, 0), 0), (31, .invokevirtual 488, 3, (293, 4, 0), 0), (34, .goto 4, 3, (0, 0, 0), 0), (37, .iconst (-1), 1, (0, 0, 0), 0), (38, .ireturn, 1, (0, 0, 1), 0)])]
def mc_R_habit : List (Nat × List (Nat × Ent)) := [(39, [(0, .aload_n 0, 1, (0, 0, 0), 0), (1, .iload_n 1, 1, (0, 0, 0), 0), (2, .invokevirtual 333, 3, (229, 2, 0), 0), (5, .ifCond .eq 22, 3, (0, 0, 0), 0), (8, .iload_n 2, 1, (0, 0, 0), 0), (9, .iconst 1, 1, (0, 0, 0), 0), (10, .bipush 30, 2, (0, 0, 0), 0), (12, .invokestatic 234, 3, (179, 3, 0), 0), (15, .ifCond .eq 12, 3, (0, 0, 0), 0), (18, .iload_n 3, 1, (0, 0, 0), 0), (19, .iconst 0, 1, (0, 0, 0), 0), (20, .iconst 1, 1, (0, 0, 0), 0), (21, .invokestatic 234, 3, (179, 3, 0), 0), (24, .ifCond .ne 5, 3, (0, 0, 0), 0), (27, .iconst (-1), 1, (0, 0, 0), 0), (28, .ireturn, 1, (0, 0, 1), 0), (29, .iconst 0, 1, (0, 0, 0), 0), (30, .istore 4, 2, (0, 0, 0), 0), (32, .aload_n 0, 1, (0, 0, 0), 0), (33, .iload_n 1, 1, (0, 0, 0), 0), (34, .iconst 0, 1, (0, 0, 0), 0), (35, .iload_n 2, 1, (0, 0, 0), 0), (36, .invokevirtual 488, 3, (293, 4, 0), 0), (39, .istore 5, 2, (0, 0, 0), 0)]), (88, [(41, .iconst 1, 1, (0, 0, 0), 0), (42, .istore 6, 2, (0, 0, 0), 0), (44, .iload 6, 2, (0, 0, 0), 0), (46, .iconst 3, 1, (0, 0, 0), 0), (47, .if_icmp .gt 44, 3, (0, 0, 0), 0), (50, .aload_n 0, 1, (0, 0, 0), 0), (51, .iload_n 1, 1, (0, 0, 0), 0), (52, .iload 6, 2, (0, 0, 0), 0), (54, .iload_n 2, 1, (0, 0, 0), 0), (55, .invokevirtual 488, 3, (293, 4, 0), 0), (58, .istore 7, 2, (0, 0, 0), 0), (60, .iload 7, 2, (0, 0, 0), 0), (62, .iload 5, 2, (0, 0, 0), 0), (64, .if_icmp .le 8, 3, (0, 0, 0), 0), (67, .iload 6, 2, (0, 0, 0), 0), (69, .goto 5, 3, (0, 0, 0), 0), (72, .iload 4, 2, (0, 0, 0), 0), (74, .istore 4, 2, (0, 0, 0), 0), (76, .iload 5, 2, (0, 0, 0), 0), (78, .iload 7, 2, (0, 0, 0), 0), (80, .invokestatic 355, 3, (314, 2, 0), 0), (83, .istore 5, 2, (0, 0, 0), 0), (85, .iinc 6 1, 3, (0, 0, 0), 0), (88, .goto (-44), 3, (0, 0, 0), 0)]), (102, [(91, .iload_n 3, 1, (0, 0, 0), 0), (92, .ifCond .ne 8, 3, (0, 0, 0), 0), (95, .iload 4, 2, (0, 0, 0), 0), (97, .goto 5, 3, (0, 0, 0), 0), (100, .iload 5, 2, (0, 0, 0), 0), (102, .ireturn, 1, (0, 0, 1), 0)])]
def mc_R_found : List (Nat × List (Nat × Ent)) := [(43, [(0, .aload_n 0, 1, (0, 0, 0), 0), (1, .iload_n 1, 1, (0, 0, 0), 0), (2, .invokevirtual 336, 3, (228, 2, 0), 0), (5, .ifCond .eq 22, 3, (0, 0, 0), 0), (8, .iload_n 2, 1, (0, 0, 0), 0), (9, .iconst 0, 1, (0, 0, 0), 0), (10, .bipush 10, 2, (0, 0, 0), 0), (12, .invokestatic 234, 3, (179, 3, 0), 0), (15, .ifCond .eq 12, 3, (0, 0, 0), 0), (18, .aload_n 0, 1, (0, 0, 0), 0), (19, .getfield 311, 3, (11, 55, 0), 55), (22, .bipush 12, 2, (0, 0, 0), 0), (24, .if_icmp .ne 5, 3, (0, 0, 0), 0), (27, .iconst (-1), 1, (0, 0, 0), 0), (28, .ireturn, 1, (0, 0, 1), 0), (29, .aload_n 0, 1, (0, 0, 0), 0), (30, .getfield 98, 3, (11, 53, 1), 53), (33, .aload_n 0, 1, (0, 0, 0), 0), (34, .getfield 311, 3, (11, 55, 0), 55), (37, .iload_n 1, 1, (0, 0, 0), 0), (38, .iastore, 1, (0, 0, 0), 0), (39, .aload_n 0, 1, (0, 0, 0), 0), (40, .getfield 101, 3, (11, 54, 1), 54), (43, .aload_n 0, 1, (0, 0, 0), 0)]), (63, [(44, .getfield 311, 3, (11, 55, 0), 55), (47, .iload_n 2, 1, (0, 0, 0), 0), (48, .iastore, 1, (0, 0, 0), 0), (49, .aload_n 0, 1, (0, 0, 0), 0), (50, .dup, 1, (0, 0, 0), 0), (51, .getfield 311, 3, (11, 55, 0), 55), (54, .iconst 1, 1, (0, 0, 0), 0), (55, .iadd, 1, (0, 0, 0), 0), (56, .putfield 311, 3, (11, 55, 0), 55), (59, .aload_n 0, 1, (0, 0, 0), 0), (60, .getfield 311, 3, (11, 55, 0), 55), (63, .ireturn, 1, (0, 0, 1), 0)])]
def mc_R_couldHaveHad : List (Nat × List (Nat × Ent)) := [(39, [(0, .iconst 0, 1, (0, 0, 0), 0), (1, .istore_n 2, 1, (0, 0, 0), 0), (2, .iload_n 2, 1, (0, 0, 0), 0), (3, .aload_n 0, 1, (0, 0, 0), 0), (4, .getfield 311, 3, (11, 55, 0), 55), (7, .if_icmp .ge 31, 3, (0, 0, 0), 0), (10, .aload_n 0, 1, (0, 0, 0), 0), (11, .iload_n 1, 1, (0, 0, 0), 0), (12, .aload_n 0, 1, (0, 0, 0), 0), (13, .getfield 98, 3, (11, 53, 1), 53), (16, .iload_n 2, 1, (0, 0, 0), 0), (17, .iaload, 1, (0, 0, 0), 0), (18, .invokevirtual 360, 3, (241, 3, 0), 0), (21, .aload_n 0, 1, (0, 0, 0), 0), (22, .getfield 101, 3, (11, 54, 1), 54), (25, .iload_n 2, 1, (0, 0, 0), 0), (26, .iaload, 1, (0, 0, 0), 0), (27, .if_icmp .eq 5, 3, (0, 0, 0), 0), (30, .iconst 0, 1, (0, 0, 0), 0), (31, .ireturn, 1, (0, 0, 3), 0), (32, .iinc 2 1, 3, (0, 0, 0), 0), (35, .goto (-33), 3, (0, 0, 0), 0), (38, .iconst 1, 1, (0, 0, 0), 0), (39, .ireturn, 1, (0, 0, 3), 0)])]
def mc_R_must : List (Nat × List (Nat × Ent)) := [(37, [(0, .aload_n 0, 1, (0, 0, 0), 0), (1, .getfield 299, 3, (11, 37, 0), 37), (4, .ifCond .eq 8, 3, (0, 0, 0), 0), (7, .iload_n 1, 1, (0, 0, 0), 0), (8, .iconst (-1), 1, (0, 0, 0), 0), (9, .if_icmp .ge 5, 3, (0, 0, 0), 0), (12, .iconst (-1), 1, (0, 0, 0), 0), (13, .ireturn, 1, (0, 0, 1), 0), (14, .iconst 0, 1, (0, 0, 0), 0), (15, .istore_n 2, 1, (0, 0, 0), 0), (16, .iconst 0, 1, (0, 0, 0), 0), (17, .istore_n 3, 1, (0, 0, 0), 0), (18, .iload_n 3, 1, (0, 0, 0), 0), (19, .iconst 1, 1, (0, 0, 0), 0), (20, .aload_n 0, 1, (0, 0, 0), 0), (21, .getfield 299, 3, (11, 37, 0), 37), (24, .ishl, 1, (0, 0, 0), 0), (25, .if_icmp .ge 27, 3, (0, 0, 0), 0), (28, .aload_n 0, 1, (0, 0, 0), 0), (29, .iload_n 3, 1, (0, 0, 0), 0), (30, .invokevirtual 491, 3, (297, 2, 0), 0), (33, .ifCond .eq 13, 3, (0, 0, 0), 0), (36, .iload_n 2, 1, (0, 0, 0), 0), (37, .iload_n 1, 1, (0, 0, 0), 0)]), (62, [(38, .if_icmp .ne 5, 3, (0, 0, 0), 0), (41, .iload_n 3, 1, (0, 0, 0), 0), (42, .ireturn, 1, (0, 0, 1), 0), (43, .iinc 2 1, 3, (0, 0, 0), 0), (46, .iinc 3 1, 3, (0, 0, 0), 0), (49, .goto (-31), 3, (0, 0, 0), 0), (52, .iload_n 1, 1, (0, 0, 0), 0), (53, .iconst (-1), 1, (0, 0, 0), 0), (54, .if_icmp .ne 7, 3, (0, 0, 0), 0), (57, .iload_n 2, 1, (0, 0, 0), 0), (58, .goto 4, 3, (0, 0, 0), 0), (61, .iconst (-1), 1, (0, 0, 0), 0), (62, .ireturn, 1, (0, 0, 1), 0)])]
def mc_R_sure : List (Nat × List (Nat × Ent)) := [(39, [(0, .iconst (-1), 1, (0, 0, 0), 0), (1, .istore_n 1, 1, (0, 0, 0), 0), (2, .iconst 0, 1, (0, 0, 0), 0), (3, .istore_n 2, 1, (0, 0, 0), 0), (4, .aload_n 0, 1, (0, 0, 0), 0), (5, .getfield 299, 3, (11, 37, 0), 37), (8, .ifCond .le 44, 3, (0, 0, 0), 0), (11, .iload_n 2, 1, (0, 0, 0), 0), (12, .iconst 1, 1, (0, 0, 0), 0), (13, .aload_n 0, 1, (0, 0, 0), 0), (14, .getfield 299, 3, (11, 37, 0), 37), (17, .ishl, 1, (0, 0, 0), 0), (18, .if_icmp .ge 34, 3, (0, 0, 0), 0), (21, .aload_n 0, 1, (0, 0, 0), 0), (22, .iload_n 2, 1, (0, 0, 0), 0), (23, .invokevirtual 491, 3, (297, 2, 0), 0), (26, .ifCond .ne 7, 3, (0, 0, 0), 0), (29, .iload_n 1, 1, (0, 0, 0), 0), (30, .goto 15, 3, (0, 0, 0), 0), (33, .iload_n 1, 1, (0, 0, 0), 0), (34, .iconst (-1), 1, (0, 0, 0), 0), (35, .if_icmp .ne 7, 3, (0, 0, 0), 0), (38, .iload_n 2, 1, (0, 0, 0), 0), (39, .goto 6, 3, (0, 0, 0), 0)]), (53, [(42, .iload_n 1, 1, (0, 0, 0), 0), (43, .iload_n 2, 1, (0, 0, 0), 0), (44, .iand, 1, (0, 0, 0), 0), (45, .istore_n 1, 1, (0, 0, 0), 0), (46, .iinc 2 1, 3, (0, 0, 0), 0), (49, .goto (-45), 3, (0, 0, 0), 0), (52, .iload_n 1, 1, (0, 0, 0), 0), (53, .ireturn, 1, (0, 0, 1), 0)])]
def mc_R_claim : List (Nat × List (Nat × Ent)) := [(47, [(0, .aload_n 0, 1, (0, 0, 0), 0), (1, .iload_n 1, 1, (0, 0, 0), 0), (2, .invokevirtual 333, 3, (229, 2, 0), 0), (5, .ifCond .eq 41, 3, (0, 0, 0), 0), (8, .aload_n 0, 1, (0, 0, 0), 0), (9, .iload_n 2, 1, (0, 0, 0), 0), (10, .invokevirtual 336, 3, (228, 2, 0), 0), (13, .ifCond .eq 33, 3, (0, 0, 0), 0), (16, .iload_n 3, 1, (0, 0, 0), 0), (17, .iconst 0, 1, (0, 0, 0), 0), (18, .bipush 99, 2, (0, 0, 0), 0), (20, .invokestatic 234, 3, (179, 3, 0), 0), (23, .ifCond .eq 23, 3, (0, 0, 0), 0), (26, .iload 4, 2, (0, 0, 0), 0), (28, .iconst 0, 1, (0, 0, 0), 0), (29, .bipush 9, 2, (0, 0, 0), 0), (31, .invokestatic 234, 3, (179, 3, 0), 0), (34, .ifCond .eq 12, 3, (0, 0, 0), 0), (37, .aload_n 0, 1, (0, 0, 0), 0), (38, .getfield 314, 3, (11, 60, 0), 60), (41, .bipush 12, 2, (0, 0, 0), 0), (43, .if_icmp .ne 5, 3, (0, 0, 0), 0), (46, .iconst (-1), 1, (0, 0, 0), 0), (47, .ireturn, 1, (0, 0, 1), 0)]), (86, [(48, .aload_n 0, 1, (0, 0, 0), 0), (49, .getfield 104, 3, (11, 56, 1), 56), (52, .aload_n 0, 1, (0, 0, 0), 0), (53, .getfield 314, 3, (11, 60, 0), 60), (56, .iload_n 1, 1, (0, 0, 0), 0), (57, .iastore, 1, (0, 0, 0), 0), (58, .aload_n 0, 1, (0, 0, 0), 0), (59, .getfield 107, 3, (11, 57, 1), 57), (62, .aload_n 0, 1, (0, 0, 0), 0), (63, .getfield 314, 3, (11, 60, 0), 60), (66, .iload_n 2, 1, (0, 0, 0), 0), (67, .iastore, 1, (0, 0, 0), 0), (68, .aload_n 0, 1, (0, 0, 0), 0), (69, .getfield 110, 3, (11, 58, 1), 58), (72, .aload_n 0, 1, (0, 0, 0), 0), (73, .getfield 314, 3, (11, 60, 0), 60), (76, .iconst 0, 1, (0, 0, 0), 0), (77, .iload_n 3, 1, (0, 0, 0), 0), (78, .iload 4, 2, (0, 0, 0), 0), (80, .isub, 1, (0, 0, 0), 0), (81, .invokestatic 355, 3, (314, 2, 0), 0), (84, .iastore, 1, (0, 0, 0), 0), (85, .aload_n 0, 1, (0, 0, 0), 0), (86, .getfield 113, 3, (11, 59, 1), 59)]), (112, [(89, .aload_n 0, 1, (0, 0, 0), 0), (90, .getfield 314, 3, (11, 60, 0), 60), (93, .iload_n 3, 1, (0, 0, 0), 0), (94, .iload 4, 2, (0, 0, 0), 0), (96, .iadd, 1, (0, 0, 0), 0), (97, .iastore, 1, (0, 0, 0), 0), (98, .aload_n 0, 1, (0, 0, 0), 0), (99, .dup, 1, (0, 0, 0), 0), (100, .getfield 314, 3, (11, 60, 0), 60), (103, .iconst 1, 1, (0, 0, 0), 0), (104, .iadd, 1, (0, 0, 0), 0), (105, .putfield 314, 3, (11, 60, 0), 60), (108, .aload_n 0, 1, (0, 0, 0), 0), (109, .getfield 314, 3, (11, 60, 0), 60), (112, .ireturn, 1, (0, 0, 1), 0)])]
def mc_R_firstBy : List (Nat × List (Nat × Ent)) := [(42, [(0, .iconst (-1), 1, (0, 0, 0), 0), (1, .istore 4, 2, (0, 0, 0), 0), (3, .iconst 0, 1, (0, 0, 0), 0), (4, .istore 5, 2, (0, 0, 0), 0), (6, .iload 5, 2, (0, 0, 0), 0), (8, .aload_n 0, 1, (0, 0, 0), 0), (9, .getfield 314, 3, (11, 60, 0), 60), (12, .if_icmp .ge 74, 3, (0, 0, 0), 0), (15, .aload_n 0, 1, (0, 0, 0), 0), (16, .getfield 104, 3, (11, 56, 1), 56), (19, .iload 5, 2, (0, 0, 0), 0), (21, .iaload, 1, (0, 0, 0), 0), (22, .iload_n 1, 1, (0, 0, 0), 0), (23, .if_icmp .ne 57, 3, (0, 0, 0), 0), (26, .aload_n 0, 1, (0, 0, 0), 0), (27, .getfield 107, 3, (11, 57, 1), 57), (30, .iload 5, 2, (0, 0, 0), 0), (32, .iaload, 1, (0, 0, 0), 0), (33, .iload_n 2, 1, (0, 0, 0), 0), (34, .if_icmp .ne 46, 3, (0, 0, 0), 0), (37, .iload_n 3, 1, (0, 0, 0), 0), (38, .ifCond .eq 13, 3, (0, 0, 0), 0), (41, .aload_n 0, 1, (0, 0, 0), 0), (42, .getfield 110, 3, (11, 58, 1), 58)]), (88, [(45, .iload 5, 2, (0, 0, 0), 0), (47, .iaload, 1, (0, 0, 0), 0), (48, .goto 10, 3, (0, 0, 0), 0), (51, .aload_n 0, 1, (0, 0, 0), 0), (52, .getfield 113, 3, (11, 59, 1), 59), (55, .iload 5, 2, (0, 0, 0), 0), (57, .iaload, 1, (0, 0, 0), 0), (58, .istore 6, 2, (0, 0, 0), 0), (60, .iload 4, 2, (0, 0, 0), 0), (62, .iconst (-1), 1, (0, 0, 0), 0), (63, .if_icmp .ne 8, 3, (0, 0, 0), 0), (66, .iload 6, 2, (0, 0, 0), 0), (68, .goto 10, 3, (0, 0, 0), 0), (71, .iload 4, 2, (0, 0, 0), 0), (73, .iload 6, 2, (0, 0, 0), 0), (75, .invokestatic 353, 3, (316, 2, 0), 0), (78, .istore 4, 2, (0, 0, 0), 0), (80, .iinc 5 1, 3, (0, 0, 0), 0), (83, .goto (-77), 3, (0, 0, 0), 0), (86, .iload 4, 2, (0, 0, 0), 0), (88, .ireturn, 1, (0, 0, 1), 0)])]
def mc_R_isFirst : List (Nat × List (Nat × Ent)) := [(42, [(0, .aload_n 0, 1, (0, 0, 0), 0), (1, .iload_n 1, 1, (0, 0, 0), 0), (2, .iload_n 2, 1, (0, 0, 0), 0), (3, .iload_n 3, 1, (0, 0, 0), 0), (4, .ifCond .ne 7, 3, (0, 0, 0), 0), (7, .iconst 1, 1, (0, 0, 0), 0), (8, .goto 4, 3, (0, 0, 0), 0), (11, .iconst 0, 1, (0, 0, 0), 0), (12, .invokevirtual 494, 3, (301, 4, 0), 0), (15, .istore 4, 2, (0, 0, 0), 0), (17, .iload 4, 2, (0, 0, 0), 0), (19, .iconst (-1), 1, (0, 0, 0), 0), (20, .if_icmp .eq 7, 3, (0, 0, 0), 0), (23, .iconst 1, 1, (0, 0, 0), 0), (24, .goto 4, 3, (0, 0, 0), 0), (27, .iconst 0, 1, (0, 0, 0), 0), (28, .istore 5, 2, (0, 0, 0), 0), (30, .iconst 0, 1, (0, 0, 0), 0), (31, .istore 6, 2, (0, 0, 0), 0), (33, .iload 6, 2, (0, 0, 0), 0), (35, .aload_n 0, 1, (0, 0, 0), 0), (36, .getfield 302, 3, (11, 38, 0), 38), (39, .if_icmp .ge 68, 3, (0, 0, 0), 0), (42, .iload 6, 2, (0, 0, 0), 0)]), (91, [(44, .iload_n 1, 1, (0, 0, 0), 0), (45, .if_icmp .ne 7, 3, (0, 0, 0), 0), (48, .iconst (-1), 1, (0, 0, 0), 0), (49, .goto 11, 3, (0, 0, 0), 0), (52, .aload_n 0, 1, (0, 0, 0), 0), (53, .iload 6, 2, (0, 0, 0), 0), (55, .iload_n 2, 1, (0, 0, 0), 0), (56, .iload_n 3, 1, (0, 0, 0), 0), (57, .invokevirtual 494, 3, (301, 4, 0), 0), (60, .istore 7, 2, (0, 0, 0), 0), (62, .iload 5, 2, (0, 0, 0), 0), (64, .ifCond .eq 34, 3, (0, 0, 0), 0), (67, .iload 7, 2, (0, 0, 0), 0), (69, .iconst (-1), 1, (0, 0, 0), 0), (70, .if_icmp .eq 24, 3, (0, 0, 0), 0), (73, .iload_n 3, 1, (0, 0, 0), 0), (74, .ifCond .eq 13, 3, (0, 0, 0), 0), (77, .iload 4, 2, (0, 0, 0), 0), (79, .iload 7, 2, (0, 0, 0), 0), (81, .if_icmp .ge 17, 3, (0, 0, 0), 0), (84, .goto 10, 3, (0, 0, 0), 0), (87, .iload 4, 2, (0, 0, 0), 0), (89, .iload 7, 2, (0, 0, 0), 0), (91, .if_icmp .gt 7, 3, (0, 0, 0), 0)]), (109, [(94, .iconst 1, 1, (0, 0, 0), 0), (95, .goto 4, 3, (0, 0, 0), 0), (98, .iconst 0, 1, (0, 0, 0), 0), (99, .istore 5, 2, (0, 0, 0), 0), (101, .iinc 6 1, 3, (0, 0, 0), 0), (104, .goto (-71), 3, (0, 0, 0), 0), (107, .iload 5, 2, (0, 0, 0), 0), (109, .ireturn, 1, (0, 0, 3), 0)])]
def mc_R_could : List (Nat × List (Nat × Ent)) := [(35, [(0, .aload_n 0, 1, (0, 0, 0), 0), (1, .iload_n 1, 1, (0, 0, 0), 0), (2, .invokevirtual 336, 3, (228, 2, 0), 0), (5, .ifCond .ne 5, 3, (0, 0, 0), 0), (8, .iconst (-1), 1, (0, 0, 0), 0), (9, .ireturn, 1, (0, 0, 1), 0), (10, .iconst 0, 1, (0, 0, 0), 0), (11, .istore_n 2, 1, (0, 0, 0), 0), (12, .iconst 0, 1, (0, 0, 0), 0), (13, .istore_n 3, 1, (0, 0, 0), 0), (14, .iload_n 3, 1, (0, 0, 0), 0), (15, .aload_n 0, 1, (0, 0, 0), 0), (16, .getfield 302, 3, (11, 38, 0), 38), (19, .if_icmp .ge 29, 3, (0, 0, 0), 0), (22, .iload_n 2, 1, (0, 0, 0), 0), (23, .aload_n 0, 1, (0, 0, 0), 0), (24, .iload_n 3, 1, (0, 0, 0), 0), (25, .iload_n 1, 1, (0, 0, 0), 0), (26, .iconst 0, 1, (0, 0, 0), 0), (27, .invokevirtual 498, 3, (302, 4, 0), 0), (30, .ifCond .eq 9, 3, (0, 0, 0), 0), (33, .iconst 1, 1, (0, 0, 0), 0), (34, .iload_n 3, 1, (0, 0, 0), 0), (35, .ishl, 1, (0, 0, 0), 0)]), (49, [(36, .goto 4, 3, (0, 0, 0), 0), (39, .iconst 0, 1, (0, 0, 0), 0), (40, .ior, 1, (0, 0, 0), 0), (41, .istore_n 2, 1, (0, 0, 0), 0), (42, .iinc 3 1, 3, (0, 0, 0), 0), (45, .goto (-31), 3, (0, 0, 0), 0), (48, .iload_n 2, 1, (0, 0, 0), 0), (49, .ireturn, 1, (0, 0, 1), 0)])]
def mc_R_alone : List (Nat × List (Nat × Ent)) := [(39, [(0, .iconst (-1), 1, (0, 0, 0), 0), (1, .istore_n 2, 1, (0, 0, 0), 0), (2, .iconst 0, 1, (0, 0, 0), 0), (3, .istore_n 3, 1, (0, 0, 0), 0), (4, .aload_n 0, 1, (0, 0, 0), 0), (5, .iload_n 1, 1, (0, 0, 0), 0), (6, .invokevirtual 336, 3, (228, 2, 0), 0), (9, .ifCond .eq 33, 3, (0, 0, 0), 0), (12, .iload_n 3, 1, (0, 0, 0), 0), (13, .aload_n 0, 1, (0, 0, 0), 0), (14, .getfield 302, 3, (11, 38, 0), 38), (17, .if_icmp .ge 25, 3, (0, 0, 0), 0), (20, .aload_n 0, 1, (0, 0, 0), 0), (21, .iload_n 3, 1, (0, 0, 0), 0), (22, .iload_n 1, 1, (0, 0, 0), 0), (23, .iconst 1, 1, (0, 0, 0), 0), (24, .invokevirtual 498, 3, (302, 4, 0), 0), (27, .ifCond .eq 7, 3, (0, 0, 0), 0), (30, .iload_n 3, 1, (0, 0, 0), 0), (31, .goto 4, 3, (0, 0, 0), 0), (34, .iload_n 2, 1, (0, 0, 0), 0), (35, .istore_n 2, 1, (0, 0, 0), 0), (36, .iinc 3 1, 3, (0, 0, 0), 0), (39, .goto (-35), 3, (0, 0, 0), 0)]), (43, [(42, .iload_n 2, 1, (0, 0, 0), 0), (43, .ireturn, 1, (0, 0, 1), 0)])]
def mc_R_draw : List (Nat × List (Nat × Ent)) := [(27, [(0, .aload_n 0, 1, (0, 0, 0), 0), (1, .aload_n 0, 1, (0, 0, 0), 0), (2, .getfield 502, 3, (11, 61, 2), 61), (5, .ldc2_w 506, 3, (0, 0, 0), 6364136223846793005), (8, .lmul, 1, (0, 0, 0), 0), (9, .ldc2_w 508, 3, (0, 0, 0), 1442695040888963407), (12, .ladd, 1, (0, 0, 0), 0), (13, .putfield 502, 3, (11, 61, 2), 61), (16, .aload_n 0, 1, (0, 0, 0), 0), (17, .getfield 502, 3, (11, 61, 2), 61), (20, .bipush 33, 2, (0, 0, 0), 0), (22, .lushr, 1, (0, 0, 0), 0), (23, .iload_n 1, 1, (0, 0, 0), 0), (24, .i2l, 1, (0, 0, 0), 0), (25, .lrem, 1, (0, 0, 0), 0), (26, .l2i, 1, (0, 0, 0), 0), (27, .ireturn, 1, (0, 0, 1), 0)])]
def mc_R_lucky : List (Nat × List (Nat × Ent)) := [(42, [(0, .aload_n 0, 1, (0, 0, 0), 0), (1, .aload_n 0, 1, (0, 0, 0), 0), (2, .getfield 299, 3, (11, 37, 0), 37), (5, .invokevirtual 510, 3, (305, 2, 0), 0), (8, .istore_n 2, 1, (0, 0, 0), 0), (9, .aload_n 0, 1, (0, 0, 0), 0), (10, .iload_n 1, 1, (0, 0, 0), 0), (11, .iload_n 2, 1, (0, 0, 0), 0), (12, .invokevirtual 339, 3, (231, 3, 0), 0), (15, .ifCond .le 13, 3, (0, 0, 0), 0), (18, .aload_n 0, 1, (0, 0, 0), 0), (19, .iload_n 1, 1, (0, 0, 0), 0), (20, .iload_n 2, 1, (0, 0, 0), 0), (21, .invokevirtual 385, 3, (247, 3, 0), 0), (24, .pop, 1, (0, 0, 0), 0), (25, .goto 72, 3, (0, 0, 0), 0), (28, .aload_n 0, 1, (0, 0, 0), 0), (29, .bipush 100, 2, (0, 0, 0), 0), (31, .invokevirtual 510, 3, (305, 2, 0), 0), (34, .aload_n 0, 1, (0, 0, 0), 0), (35, .getfield 342, 3, (11, 41, 0), 41), (38, .if_icmp .ge 59, 3, (0, 0, 0), 0), (41, .iconst (-1), 1, (0, 0, 0), 0), (42, .istore_n 3, 1, (0, 0, 0), 0)]), (87, [(43, .aload_n 0, 1, (0, 0, 0), 0), (44, .getfield 302, 3, (11, 38, 0), 38), (47, .iconst 1, 1, (0, 0, 0), 0), (48, .isub, 1, (0, 0, 0), 0), (49, .istore 4, 2, (0, 0, 0), 0), (51, .iload 4, 2, (0, 0, 0), 0), (53, .ifCond .lt 32, 3, (0, 0, 0), 0), (56, .iload 4, 2, (0, 0, 0), 0), (58, .iload_n 1, 1, (0, 0, 0), 0), (59, .if_icmp .eq 18, 3, (0, 0, 0), 0), (62, .aload_n 0, 1, (0, 0, 0), 0), (63, .iload 4, 2, (0, 0, 0), 0), (65, .iload_n 2, 1, (0, 0, 0), 0), (66, .invokevirtual 339, 3, (231, 3, 0), 0), (69, .ifCond .le 8, 3, (0, 0, 0), 0), (72, .iload 4, 2, (0, 0, 0), 0), (74, .goto 4, 3, (0, 0, 0), 0), (77, .iload_n 3, 1, (0, 0, 0), 0), (78, .istore_n 3, 1, (0, 0, 0), 0), (79, .iinc 4 (-1), 3, (0, 0, 0), 0), (82, .goto (-31), 3, (0, 0, 0), 0), (85, .iload_n 3, 1, (0, 0, 0), 0), (86, .iconst (-1), 1, (0, 0, 0), 0), (87, .if_icmp .eq 10, 3, (0, 0, 0), 0)]), (97, [(90, .aload_n 0, 1, (0, 0, 0), 0), (91, .iload_n 1, 1, (0, 0, 0), 0), (92, .iload_n 3, 1, (0, 0, 0), 0), (93, .iload_n 2, 1, (0, 0, 0), 0), (94, .invokevirtual 405, 3, (255, 4, 0), 0), (97, .return_, 1, (0, 0, 0), 0)])]
def mc_R_years : List (Nat × List (Nat × Ent)) := [(41, [(0, .aload_n 0, 1, (0, 0, 0), 0), (1, .iload_n 1, 1, (0, 0, 0), 0), (2, .invokevirtual 414, 3, (263, 2, 0), 0), (5, .ifCond .ne 5, 3, (0, 0, 0), 0), (8, .iconst (-1), 1, (0, 0, 0), 0), (9, .ireturn, 1, (0, 0, 1), 0), (10, .aload_n 0, 1, (0, 0, 0), 0), (11, .lload_n 2, 1, (0, 0, 0), 0), (12, .putfield 502, 3, (11, 61, 2), 61), (15, .iconst 0, 1, (0, 0, 0), 0), (16, .istore 4, 2, (0, 0, 0), 0), (18, .iload 4, 2, (0, 0, 0), 0), (20, .iload_n 1, 1, (0, 0, 0), 0), (21, .if_icmp .ge 41, 3, (0, 0, 0), 0), (24, .aload_n 0, 1, (0, 0, 0), 0), (25, .invokevirtual 382, 3, (244, 1, 0), 0), (28, .iconst 0, 1, (0, 0, 0), 0), (29, .istore 5, 2, (0, 0, 0), 0), (31, .iload 5, 2, (0, 0, 0), 0), (33, .aload_n 0, 1, (0, 0, 0), 0), (34, .getfield 302, 3, (11, 38, 0), 38), (37, .if_icmp .ge 15, 3, (0, 0, 0), 0), (40, .aload_n 0, 1, (0, 0, 0), 0), (41, .iload 5, 2, (0, 0, 0), 0)]), (69, [(43, .invokevirtual 513, 3, (306, 2, 0), 0), (46, .iinc 5 1, 3, (0, 0, 0), 0), (49, .goto (-18), 3, (0, 0, 0), 0), (52, .aload_n 0, 1, (0, 0, 0), 0), (53, .invokevirtual 417, 3, (262, 1, 0), 0), (56, .iinc 4 1, 3, (0, 0, 0), 0), (59, .goto (-41), 3, (0, 0, 0), 0), (62, .aload_n 0, 1, (0, 0, 0), 0), (63, .getfield 58, 3, (11, 28, 1), 28), (66, .bipush 72, 2, (0, 0, 0), 0), (68, .iaload, 1, (0, 0, 0), 0), (69, .ireturn, 1, (0, 0, 1), 0)])]
def mc_R_richest : List (Nat × List (Nat × Ent)) := [(39, [(0, .aload_n 0, 1, (0, 0, 0), 0), (1, .getfield 302, 3, (11, 38, 0), 38), (4, .ifCond .ne 7, 3, (0, 0, 0), 0), (7, .iconst (-1), 1, (0, 0, 0), 0), (8, .goto 4, 3, (0, 0, 0), 0), (11, .iconst 0, 1, (0, 0, 0), 0), (12, .istore_n 1, 1, (0, 0, 0), 0), (13, .iconst 1, 1, (0, 0, 0), 0), (14, .istore_n 2, 1, (0, 0, 0), 0), (15, .iload_n 2, 1, (0, 0, 0), 0), (16, .aload_n 0, 1, (0, 0, 0), 0), (17, .getfield 302, 3, (11, 38, 0), 38), (20, .if_icmp .ge 36, 3, (0, 0, 0), 0), (23, .aload_n 0, 1, (0, 0, 0), 0), (24, .getfield 58, 3, (11, 28, 1), 28), (27, .bipush 60, 2, (0, 0, 0), 0), (29, .iload_n 2, 1, (0, 0, 0), 0), (30, .iadd, 1, (0, 0, 0), 0), (31, .iaload, 1, (0, 0, 0), 0), (32, .aload_n 0, 1, (0, 0, 0), 0), (33, .getfield 58, 3, (11, 28, 1), 28), (36, .bipush 60, 2, (0, 0, 0), 0), (38, .iload_n 1, 1, (0, 0, 0), 0), (39, .iadd, 1, (0, 0, 0), 0)]), (57, [(40, .iaload, 1, (0, 0, 0), 0), (41, .if_icmp .le 7, 3, (0, 0, 0), 0), (44, .iload_n 2, 1, (0, 0, 0), 0), (45, .goto 4, 3, (0, 0, 0), 0), (48, .iload_n 1, 1, (0, 0, 0), 0), (49, .istore_n 1, 1, (0, 0, 0), 0), (50, .iinc 2 1, 3, (0, 0, 0), 0), (53, .goto (-38), 3, (0, 0, 0), 0), (56, .iload_n 1, 1, (0, 0, 0), 0), (57, .ireturn, 1, (0, 0, 1), 0)])]
def mc_R_last : List (Nat × List (Nat × Ent)) := [(37, [(0, .aload_n 0, 1, (0, 0, 0), 0), (1, .iload_n 1, 1, (0, 0, 0), 0), (2, .invokevirtual 336, 3, (228, 2, 0), 0), (5, .ifCond .ne 5, 3, (0, 0, 0), 0), (8, .iconst (-1), 1, (0, 0, 0), 0), (9, .ireturn, 1, (0, 0, 1), 0), (10, .iconst 0, 1, (0, 0, 0), 0), (11, .istore_n 2, 1, (0, 0, 0), 0), (12, .iconst 0, 1, (0, 0, 0), 0), (13, .istore_n 3, 1, (0, 0, 0), 0), (14, .iload_n 3, 1, (0, 0, 0), 0), (15, .aload_n 0, 1, (0, 0, 0), 0), (16, .getfield 302, 3, (11, 38, 0), 38), (19, .if_icmp .ge 18, 3, (0, 0, 0), 0), (22, .iload_n 2, 1, (0, 0, 0), 0), (23, .aload_n 0, 1, (0, 0, 0), 0), (24, .iload_n 3, 1, (0, 0, 0), 0), (25, .iload_n 1, 1, (0, 0, 0), 0), (26, .invokevirtual 339, 3, (231, 3, 0), 0), (29, .iadd, 1, (0, 0, 0), 0), (30, .istore_n 2, 1, (0, 0, 0), 0), (31, .iinc 3 1, 3, (0, 0, 0), 0), (34, .goto (-20), 3, (0, 0, 0), 0), (37, .iconst 0, 1, (0, 0, 0), 0)]), (75, [(38, .istore_n 3, 1, (0, 0, 0), 0), (39, .iload_n 3, 1, (0, 0, 0), 0), (40, .aload_n 0, 1, (0, 0, 0), 0), (41, .getfield 58, 3, (11, 28, 1), 28), (44, .bipush 73, 2, (0, 0, 0), 0), (46, .iaload, 1, (0, 0, 0), 0), (47, .if_icmp .ge 27, 3, (0, 0, 0), 0), (50, .iload_n 2, 1, (0, 0, 0), 0), (51, .aload_n 0, 1, (0, 0, 0), 0), (52, .iload_n 3, 1, (0, 0, 0), 0), (53, .iconst 2, 1, (0, 0, 0), 0), (54, .invokevirtual 408, 3, (258, 3, 0), 0), (57, .iload_n 1, 1, (0, 0, 0), 0), (58, .if_icmp .ne 7, 3, (0, 0, 0), 0), (61, .iconst 1, 1, (0, 0, 0), 0), (62, .goto 4, 3, (0, 0, 0), 0), (65, .iconst 0, 1, (0, 0, 0), 0), (66, .iadd, 1, (0, 0, 0), 0), (67, .istore_n 2, 1, (0, 0, 0), 0), (68, .iinc 3 1, 3, (0, 0, 0), 0), (71, .goto (-32), 3, (0, 0, 0), 0), (74, .iload_n 2, 1, (0, 0, 0), 0), (75, .ireturn, 1, (0, 0, 1), 0)])]
def mc_R_image : List (Nat × List (Nat × Ent)) := [(41, [(0, .aload_n 0, 1, (0, 0, 0), 0), (1, .getfield 299, 3, (11, 37, 0), 37), (4, .ifCond .ne 5, 3, (0, 0, 0), 0), (7, .iconst (-1), 1, (0, 0, 0), 0), (8, .ireturn, 1, (0, 0, 1), 0), (9, .iconst 0, 1, (0, 0, 0), 0), (10, .istore_n 1, 1, (0, 0, 0), 0), (11, .iload_n 1, 1, (0, 0, 0), 0), (12, .sipush 355, 3, (0, 0, 0), 0), (15, .if_icmp .ge 21, 3, (0, 0, 0), 0), (18, .aload_n 0, 1, (0, 0, 0), 0), (19, .getfield 116, 3, (11, 62, 1), 62), (22, .iload_n 1, 1, (0, 0, 0), 0), (23, .aload_n 0, 1, (0, 0, 0), 0), (24, .getfield 58, 3, (11, 28, 1), 28), (27, .iload_n 1, 1, (0, 0, 0), 0), (28, .iaload, 1, (0, 0, 0), 0), (29, .iastore, 1, (0, 0, 0), 0), (30, .iinc 1 1, 3, (0, 0, 0), 0), (33, .goto (-22), 3, (0, 0, 0), 0), (36, .aload_n 0, 1, (0, 0, 0), 0), (37, .iconst 1, 1, (0, 0, 0), 0), (38, .putfield 320, 3, (11, 63, 3), 63), (41, .aload_n 0, 1, (0, 0, 0), 0)]), (48, [(42, .getfield 58, 3, (11, 28, 1), 28), (45, .bipush 72, 2, (0, 0, 0), 0), (47, .iaload, 1, (0, 0, 0), 0), (48, .ireturn, 1, (0, 0, 1), 0)])]
def mc_R_back : List (Nat × List (Nat × Ent)) := [(41, [(0, .aload_n 0, 1, (0, 0, 0), 0), (1, .getfield 320, 3, (11, 63, 3), 63), (4, .ifCond .ne 5, 3, (0, 0, 0), 0), (7, .iconst (-1), 1, (0, 0, 0), 0), (8, .ireturn, 1, (0, 0, 1), 0), (9, .iconst 0, 1, (0, 0, 0), 0), (10, .istore_n 1, 1, (0, 0, 0), 0), (11, .iload_n 1, 1, (0, 0, 0), 0), (12, .sipush 355, 3, (0, 0, 0), 0), (15, .if_icmp .ge 21, 3, (0, 0, 0), 0), (18, .aload_n 0, 1, (0, 0, 0), 0), (19, .getfield 58, 3, (11, 28, 1), 28), (22, .iload_n 1, 1, (0, 0, 0), 0), (23, .aload_n 0, 1, (0, 0, 0), 0), (24, .getfield 116, 3, (11, 62, 1), 62), (27, .iload_n 1, 1, (0, 0, 0), 0), (28, .iaload, 1, (0, 0, 0), 0), (29, .iastore, 1, (0, 0, 0), 0), (30, .iinc 1 1, 3, (0, 0, 0), 0), (33, .goto (-22), 3, (0, 0, 0), 0), (36, .aload_n 0, 1, (0, 0, 0), 0), (37, .iconst 0, 1, (0, 0, 0), 0), (38, .putfield 317, 3, (11, 45, 0), 45), (41, .aload_n 0, 1, (0, 0, 0), 0)]), (48, [(42, .getfield 58, 3, (11, 28, 1), 28), (45, .bipush 72, 2, (0, 0, 0), 0), (47, .iaload, 1, (0, 0, 0), 0), (48, .ireturn, 1, (0, 0, 1), 0)])]
def mc_R_count : List (Nat × List (Nat × Ent)) := [(115, [(0, .iload_n 1, 1, (0, 0, 0), 0), (1, .tableswitch 168 0 15 #[79, 84, 89, 94, 99, 104, 109, 114, 119, 127, 132, 140, 148, 153, 158, 163], 79, (0, 0, 0), 0), (80, .aload_n 0, 1, (0, 0, 0), 0), (81, .getfield 299, 3, (11, 37, 0), 37), (84, .ireturn, 1, (0, 0, 1), 0), (85, .aload_n 0, 1, (0, 0, 0), 0), (86, .getfield 302, 3, (11, 38, 0), 38), (89, .ireturn, 1, (0, 0, 1), 0), (90, .aload_n 0, 1, (0, 0, 0), 0), (91, .getfield 305, 3, (11, 39, 0), 39), (94, .ireturn, 1, (0, 0, 1), 0), (95, .aload_n 0, 1, (0, 0, 0), 0), (96, .getfield 308, 3, (11, 40, 0), 40), (99, .ireturn, 1, (0, 0, 1), 0), (100, .aload_n 0, 1, (0, 0, 0), 0), (101, .getfield 327, 3, (11, 13, 0), 13), (104, .ireturn, 1, (0, 0, 1), 0), (105, .aload_n 0, 1, (0, 0, 0), 0), (106, .getfield 330, 3, (11, 27, 0), 27), (109, .ireturn, 1, (0, 0, 1), 0), (110, .aload_n 0, 1, (0, 0, 0), 0), (111, .getfield 126, 3, (11, 2, 0), 2), (114, .ireturn, 1, (0, 0, 1), 0), (115, .aload_n 0, 1, (0, 0, 0), 0)]), (154, [(116, .getfield 85, 3, (11, 42, 0), 42), (119, .ireturn, 1, (0, 0, 1), 0), (120, .aload_n 0, 1, (0, 0, 0), 0), (121, .getfield 58, 3, (11, 28, 1), 28), (124, .bipush 72, 2, (0, 0, 0), 0), (126, .iaload, 1, (0, 0, 0), 0), (127, .ireturn, 1, (0, 0, 1), 0), (128, .aload_n 0, 1, (0, 0, 0), 0), (129, .getfield 342, 3, (11, 41, 0), 41), (132, .ireturn, 1, (0, 0, 1), 0), (133, .aload_n 0, 1, (0, 0, 0), 0), (134, .getfield 58, 3, (11, 28, 1), 28), (137, .bipush 73, 2, (0, 0, 0), 0), (139, .iaload, 1, (0, 0, 0), 0), (140, .ireturn, 1, (0, 0, 1), 0), (141, .aload_n 0, 1, (0, 0, 0), 0), (142, .getfield 58, 3, (11, 28, 1), 28), (145, .bipush 114, 2, (0, 0, 0), 0), (147, .iaload, 1, (0, 0, 0), 0), (148, .ireturn, 1, (0, 0, 1), 0), (149, .aload_n 0, 1, (0, 0, 0), 0), (150, .getfield 311, 3, (11, 55, 0), 55), (153, .ireturn, 1, (0, 0, 1), 0), (154, .aload_n 0, 1, (0, 0, 0), 0)]), (172, [(155, .getfield 314, 3, (11, 60, 0), 60), (158, .ireturn, 1, (0, 0, 1), 0), (159, .aload_n 0, 1, (0, 0, 0), 0), (160, .getfield 317, 3, (11, 45, 0), 45), (163, .ireturn, 1, (0, 0, 1), 0), (164, .aload_n 0, 1, (0, 0, 0), 0), (165, .invokevirtual 427, 3, (272, 1, 0), 0), (168, .ireturn, 1, (0, 0, 1), 0), (169, .ldc_w 423, 3, (0, 0, 0), -1000000), (172, .ireturn, 1, (0, 0, 1), 0)])]
def mc_J_bitCount : List (Nat × List (Nat × Ent)) := [(29, [(0, .iload_n 0, 1, (0, 0, 0), 0), (1, .iload_n 0, 1, (0, 0, 0), 0), (2, .iconst 1, 1, (0, 0, 0), 0), (3, .iushr, 1, (0, 0, 0), 0), (4, .ldc_w 265, 3, (0, 0, 0), 1431655765), (7, .iand, 1, (0, 0, 0), 0), (8, .isub, 1, (0, 0, 0), 0), (9, .istore_n 0, 1, (0, 0, 0), 0), (10, .iload_n 0, 1, (0, 0, 0), 0), (11, .ldc_w 266, 3, (0, 0, 0), 858993459), (14, .iand, 1, (0, 0, 0), 0), (15, .iload_n 0, 1, (0, 0, 0), 0), (16, .iconst 2, 1, (0, 0, 0), 0), (17, .iushr, 1, (0, 0, 0), 0), (18, .ldc_w 266, 3, (0, 0, 0), 858993459), (21, .iand, 1, (0, 0, 0), 0), (22, .iadd, 1, (0, 0, 0), 0), (23, .istore_n 0, 1, (0, 0, 0), 0), (24, .iload_n 0, 1, (0, 0, 0), 0), (25, .iload_n 0, 1, (0, 0, 0), 0), (26, .iconst 4, 1, (0, 0, 0), 0), (27, .iushr, 1, (0, 0, 0), 0), (28, .iadd, 1, (0, 0, 0), 0), (29, .ldc_w 267, 3, (0, 0, 0), 252645135)]), (52, [(32, .iand, 1, (0, 0, 0), 0), (33, .istore_n 0, 1, (0, 0, 0), 0), (34, .iload_n 0, 1, (0, 0, 0), 0), (35, .iload_n 0, 1, (0, 0, 0), 0), (36, .bipush 8, 2, (0, 0, 0), 0), (38, .iushr, 1, (0, 0, 0), 0), (39, .iadd, 1, (0, 0, 0), 0), (40, .istore_n 0, 1, (0, 0, 0), 0), (41, .iload_n 0, 1, (0, 0, 0), 0), (42, .iload_n 0, 1, (0, 0, 0), 0), (43, .bipush 16, 2, (0, 0, 0), 0), (45, .iushr, 1, (0, 0, 0), 0), (46, .iadd, 1, (0, 0, 0), 0), (47, .istore_n 0, 1, (0, 0, 0), 0), (48, .iload_n 0, 1, (0, 0, 0), 0), (49, .bipush 63, 2, (0, 0, 0), 0), (51, .iand, 1, (0, 0, 0), 0), (52, .ireturn, 1, (0, 0, 1), 0)])]
def mc_J_max : List (Nat × List (Nat × Ent)) := [(10, [(0, .iload_n 0, 1, (0, 0, 0), 0), (1, .iload_n 1, 1, (0, 0, 0), 0), (2, .if_icmp .lt 7, 3, (0, 0, 0), 0), (5, .iload_n 0, 1, (0, 0, 0), 0), (6, .goto 4, 3, (0, 0, 0), 0), (9, .iload_n 1, 1, (0, 0, 0), 0), (10, .ireturn, 1, (0, 0, 1), 0)])]
def mc_J_maxL : List (Nat × List (Nat × Ent)) := [(11, [(0, .lload_n 0, 1, (0, 0, 0), 0), (1, .lload_n 2, 1, (0, 0, 0), 0), (2, .lcmp, 1, (0, 0, 0), 0), (3, .ifCond .lt 7, 3, (0, 0, 0), 0), (6, .lload_n 0, 1, (0, 0, 0), 0), (7, .goto 4, 3, (0, 0, 0), 0), (10, .lload_n 2, 1, (0, 0, 0), 0), (11, .lreturn, 1, (0, 0, 0), 0)])]
def mc_J_min : List (Nat × List (Nat × Ent)) := [(10, [(0, .iload_n 0, 1, (0, 0, 0), 0), (1, .iload_n 1, 1, (0, 0, 0), 0), (2, .if_icmp .gt 7, 3, (0, 0, 0), 0), (5, .iload_n 0, 1, (0, 0, 0), 0), (6, .goto 4, 3, (0, 0, 0), 0), (9, .iload_n 1, 1, (0, 0, 0), 0), (10, .ireturn, 1, (0, 0, 1), 0)])]
def mc_J_minL : List (Nat × List (Nat × Ent)) := [(11, [(0, .lload_n 0, 1, (0, 0, 0), 0), (1, .lload_n 2, 1, (0, 0, 0), 0), (2, .lcmp, 1, (0, 0, 0), 0), (3, .ifCond .gt 7, 3, (0, 0, 0), 0), (6, .lload_n 0, 1, (0, 0, 0), 0), (7, .goto 4, 3, (0, 0, 0), 0), (10, .lload_n 2, 1, (0, 0, 0), 0), (11, .lreturn, 1, (0, 0, 0), 0)])]
def mc_J_fill : List (Nat × List (Nat × Ent)) := [(20, [(0, .iconst 0, 1, (0, 0, 0), 0), (1, .istore_n 2, 1, (0, 0, 0), 0), (2, .aload_n 0, 1, (0, 0, 0), 0), (3, .arraylength, 1, (0, 0, 0), 0), (4, .istore_n 3, 1, (0, 0, 0), 0), (5, .iload_n 2, 1, (0, 0, 0), 0), (6, .iload_n 3, 1, (0, 0, 0), 0), (7, .if_icmp .ge 13, 3, (0, 0, 0), 0), (10, .aload_n 0, 1, (0, 0, 0), 0), (11, .iload_n 2, 1, (0, 0, 0), 0), (12, .iload_n 1, 1, (0, 0, 0), 0), (13, .iastore, 1, (0, 0, 0), 0), (14, .iinc 2 1, 3, (0, 0, 0), 0), (17, .goto (-12), 3, (0, 0, 0), 0), (20, .return_, 1, (0, 0, 0), 0)])]
def mc_L_law : List (Nat × List (Nat × Ent)) := [(249, [(23, .iload 4, 2, (0, 0, 0), 0), (25, .aload_n 0, 1, (0, 0, 0), 0), (26, .arraylength, 1, (0, 0, 0), 0), (27, .bipush 6, 2, (0, 0, 0), 0), (29, .isub, 1, (0, 0, 0), 0), (30, .if_icmp .gt 1832, 3, (0, 0, 0), 0), (33, .aload_n 0, 1, (0, 0, 0), 0), (34, .iload 4, 2, (0, 0, 0), 0), (36, .iaload, 1, (0, 0, 0), 0), (37, .bipush 63, 2, (0, 0, 0), 0), (39, .iand, 1, (0, 0, 0), 0), (40, .tableswitch 1816 0 44 #[196, 269, 294, 319, 344, 381, 449, 486, 523, 560, 585, 610, 659, 696, 757, 806, 879, 916, 941, 966, 979, 1016, 1065, 1102, 1127, 1176, 1189, 1202, 1227, 1264, 1337, 1374, 1423, 1472, 1509, 1534, 1547, 1608, 1633, 1658, 1727, 1740, 1765, 1778, 1791], 196, (0, 0, 0), 0), (236, .aload_n 1, 1, (0, 0, 0), 0), (237, .aload_n 0, 1, (0, 0, 0), 0), (238, .iload 4, 2, (0, 0, 0), 0), (240, .iconst 1, 1, (0, 0, 0), 0), (241, .iadd, 1, (0, 0, 0), 0), (242, .iaload, 1, (0, 0, 0), 0), (243, .aload_n 0, 1, (0, 0, 0), 0), (244, .iload 4, 2, (0, 0, 0), 0), (246, .iconst 2, 1, (0, 0, 0), 0), (247, .iadd, 1, (0, 0, 0), 0), (248, .iaload, 1, (0, 0, 0), 0), (249, .aload_n 0, 1, (0, 0, 0), 0)]), (280, [(250, .iload 4, 2, (0, 0, 0), 0), (252, .iconst 3, 1, (0, 0, 0), 0), (253, .iadd, 1, (0, 0, 0), 0), (254, .iaload, 1, (0, 0, 0), 0), (255, .aload_n 0, 1, (0, 0, 0), 0), (256, .iload 4, 2, (0, 0, 0), 0), (258, .iconst 4, 1, (0, 0, 0), 0), (259, .iadd, 1, (0, 0, 0), 0), (260, .iaload, 1, (0, 0, 0), 0), (261, .aload_n 0, 1, (0, 0, 0), 0), (262, .iload 4, 2, (0, 0, 0), 0), (264, .iconst 5, 1, (0, 0, 0), 0), (265, .iadd, 1, (0, 0, 0), 0), (266, .iaload, 1, (0, 0, 0), 0), (267, .invokevirtual 19, 3, (124, 6, 0), 0), (270, .aload_n 2, 1, (0, 0, 0), 0), (271, .aload_n 0, 1, (0, 0, 0), 0), (272, .iload 4, 2, (0, 0, 0), 0), (274, .iconst 1, 1, (0, 0, 0), 0), (275, .iadd, 1, (0, 0, 0), 0), (276, .iaload, 1, (0, 0, 0), 0), (277, .aload_n 0, 1, (0, 0, 0), 0), (278, .iload 4, 2, (0, 0, 0), 0), (280, .iconst 2, 1, (0, 0, 0), 0)]), (311, [(281, .iadd, 1, (0, 0, 0), 0), (282, .iaload, 1, (0, 0, 0), 0), (283, .aload_n 0, 1, (0, 0, 0), 0), (284, .iload 4, 2, (0, 0, 0), 0), (286, .iconst 3, 1, (0, 0, 0), 0), (287, .iadd, 1, (0, 0, 0), 0), (288, .iaload, 1, (0, 0, 0), 0), (289, .aload_n 0, 1, (0, 0, 0), 0), (290, .iload 4, 2, (0, 0, 0), 0), (292, .iconst 4, 1, (0, 0, 0), 0), (293, .iadd, 1, (0, 0, 0), 0), (294, .iaload, 1, (0, 0, 0), 0), (295, .aload_n 0, 1, (0, 0, 0), 0), (296, .iload 4, 2, (0, 0, 0), 0), (298, .iconst 5, 1, (0, 0, 0), 0), (299, .iadd, 1, (0, 0, 0), 0), (300, .iaload, 1, (0, 0, 0), 0), (301, .invokevirtual 23, 3, (184, 6, 0), 0), (304, .if_icmp .eq 1552, 3, (0, 0, 0), 0), (307, .iconst 0, 1, (0, 0, 0), 0), (308, .ireturn, 1, (0, 0, 3), 0), (309, .aload_n 1, 1, (0, 0, 0), 0), (310, .aload_n 0, 1, (0, 0, 0), 0), (311, .iload 4, 2, (0, 0, 0), 0)]), (346, [(313, .iconst 1, 1, (0, 0, 0), 0), (314, .iadd, 1, (0, 0, 0), 0), (315, .iaload, 1, (0, 0, 0), 0), (316, .invokevirtual 24, 3, (125, 2, 0), 0), (319, .aload_n 2, 1, (0, 0, 0), 0), (320, .aload_n 0, 1, (0, 0, 0), 0), (321, .iload 4, 2, (0, 0, 0), 0), (323, .iconst 1, 1, (0, 0, 0), 0), (324, .iadd, 1, (0, 0, 0), 0), (325, .iaload, 1, (0, 0, 0), 0), (326, .invokevirtual 28, 3, (185, 2, 0), 0), (329, .if_icmp .eq 1527, 3, (0, 0, 0), 0), (332, .iconst 0, 1, (0, 0, 0), 0), (333, .ireturn, 1, (0, 0, 3), 0), (334, .aload_n 1, 1, (0, 0, 0), 0), (335, .aload_n 0, 1, (0, 0, 0), 0), (336, .iload 4, 2, (0, 0, 0), 0), (338, .iconst 1, 1, (0, 0, 0), 0), (339, .iadd, 1, (0, 0, 0), 0), (340, .iaload, 1, (0, 0, 0), 0), (341, .invokevirtual 29, 3, (126, 2, 0), 0), (344, .aload_n 2, 1, (0, 0, 0), 0), (345, .aload_n 0, 1, (0, 0, 0), 0), (346, .iload 4, 2, (0, 0, 0), 0)]), (383, [(348, .iconst 1, 1, (0, 0, 0), 0), (349, .iadd, 1, (0, 0, 0), 0), (350, .iaload, 1, (0, 0, 0), 0), (351, .invokevirtual 33, 3, (225, 2, 0), 0), (354, .if_icmp .eq 1502, 3, (0, 0, 0), 0), (357, .iconst 0, 1, (0, 0, 0), 0), (358, .ireturn, 1, (0, 0, 3), 0), (359, .aload_n 1, 1, (0, 0, 0), 0), (360, .aload_n 0, 1, (0, 0, 0), 0), (361, .iload 4, 2, (0, 0, 0), 0), (363, .iconst 1, 1, (0, 0, 0), 0), (364, .iadd, 1, (0, 0, 0), 0), (365, .iaload, 1, (0, 0, 0), 0), (366, .invokevirtual 34, 3, (127, 2, 0), 0), (369, .aload_n 2, 1, (0, 0, 0), 0), (370, .aload_n 0, 1, (0, 0, 0), 0), (371, .iload 4, 2, (0, 0, 0), 0), (373, .iconst 1, 1, (0, 0, 0), 0), (374, .iadd, 1, (0, 0, 0), 0), (375, .iaload, 1, (0, 0, 0), 0), (376, .invokevirtual 37, 3, (227, 2, 0), 0), (379, .if_icmp .eq 1477, 3, (0, 0, 0), 0), (382, .iconst 0, 1, (0, 0, 0), 0), (383, .ireturn, 1, (0, 0, 3), 0)]), (413, [(384, .aload_n 1, 1, (0, 0, 0), 0), (385, .aload_n 0, 1, (0, 0, 0), 0), (386, .iload 4, 2, (0, 0, 0), 0), (388, .iconst 1, 1, (0, 0, 0), 0), (389, .iadd, 1, (0, 0, 0), 0), (390, .iaload, 1, (0, 0, 0), 0), (391, .aload_n 0, 1, (0, 0, 0), 0), (392, .iload 4, 2, (0, 0, 0), 0), (394, .iconst 2, 1, (0, 0, 0), 0), (395, .iadd, 1, (0, 0, 0), 0), (396, .iaload, 1, (0, 0, 0), 0), (397, .invokevirtual 38, 3, (128, 3, 0), 0), (400, .aload_n 2, 1, (0, 0, 0), 0), (401, .aload_n 0, 1, (0, 0, 0), 0), (402, .iload 4, 2, (0, 0, 0), 0), (404, .iconst 1, 1, (0, 0, 0), 0), (405, .iadd, 1, (0, 0, 0), 0), (406, .iaload, 1, (0, 0, 0), 0), (407, .aload_n 0, 1, (0, 0, 0), 0), (408, .iload 4, 2, (0, 0, 0), 0), (410, .iconst 2, 1, (0, 0, 0), 0), (411, .iadd, 1, (0, 0, 0), 0), (412, .iaload, 1, (0, 0, 0), 0), (413, .invokevirtual 41, 3, (233, 3, 0), 0)]), (447, [(416, .if_icmp .eq 1440, 3, (0, 0, 0), 0), (419, .iconst 0, 1, (0, 0, 0), 0), (420, .ireturn, 1, (0, 0, 3), 0), (421, .aload_n 1, 1, (0, 0, 0), 0), (422, .aload_n 0, 1, (0, 0, 0), 0), (423, .iload 4, 2, (0, 0, 0), 0), (425, .iconst 1, 1, (0, 0, 0), 0), (426, .iadd, 1, (0, 0, 0), 0), (427, .iaload, 1, (0, 0, 0), 0), (428, .aload_n 0, 1, (0, 0, 0), 0), (429, .iload 4, 2, (0, 0, 0), 0), (431, .iconst 2, 1, (0, 0, 0), 0), (432, .iadd, 1, (0, 0, 0), 0), (433, .iaload, 1, (0, 0, 0), 0), (434, .aload_n 3, 1, (0, 0, 0), 0), (435, .invokestatic 42, 3, (0, 0, 7), 0), (438, .istore 5, 2, (0, 0, 0), 0), (440, .aload_n 2, 1, (0, 0, 0), 0), (441, .aload_n 0, 1, (0, 0, 0), 0), (442, .iload 4, 2, (0, 0, 0), 0), (444, .iconst 1, 1, (0, 0, 0), 0), (445, .iadd, 1, (0, 0, 0), 0), (446, .iaload, 1, (0, 0, 0), 0), (447, .aload_n 0, 1, (0, 0, 0), 0)]), (486, [(448, .iload 4, 2, (0, 0, 0), 0), (450, .iconst 2, 1, (0, 0, 0), 0), (451, .iadd, 1, (0, 0, 0), 0), (452, .iaload, 1, (0, 0, 0), 0), (453, .invokevirtual 47, 3, (234, 3, 0), 0), (456, .istore 6, 2, (0, 0, 0), 0), (458, .aload_n 2, 1, (0, 0, 0), 0), (459, .invokevirtual 48, 3, (182, 1, 0), 0), (462, .iload 5, 2, (0, 0, 0), 0), (464, .if_icmp .eq 5, 3, (0, 0, 0), 0), (467, .iconst 0, 1, (0, 0, 0), 0), (468, .ireturn, 1, (0, 0, 3), 0), (469, .iload 5, 2, (0, 0, 0), 0), (471, .ifCond .ne 15, 3, (0, 0, 0), 0), (474, .aload_n 3, 1, (0, 0, 0), 0), (475, .iconst 0, 1, (0, 0, 0), 0), (476, .laload, 1, (0, 0, 0), 0), (477, .iload 6, 2, (0, 0, 0), 0), (479, .i2l, 1, (0, 0, 0), 0), (480, .lcmp, 1, (0, 0, 0), 0), (481, .ifCond .eq 5, 3, (0, 0, 0), 0), (484, .iconst 0, 1, (0, 0, 0), 0), (485, .ireturn, 1, (0, 0, 3), 0), (486, .goto 1370, 3, (0, 0, 0), 0)]), (518, [(489, .aload_n 1, 1, (0, 0, 0), 0), (490, .aload_n 0, 1, (0, 0, 0), 0), (491, .iload 4, 2, (0, 0, 0), 0), (493, .iconst 1, 1, (0, 0, 0), 0), (494, .iadd, 1, (0, 0, 0), 0), (495, .iaload, 1, (0, 0, 0), 0), (496, .aload_n 0, 1, (0, 0, 0), 0), (497, .iload 4, 2, (0, 0, 0), 0), (499, .iconst 2, 1, (0, 0, 0), 0), (500, .iadd, 1, (0, 0, 0), 0), (501, .iaload, 1, (0, 0, 0), 0), (502, .invokevirtual 52, 3, (129, 3, 0), 0), (505, .aload_n 2, 1, (0, 0, 0), 0), (506, .aload_n 0, 1, (0, 0, 0), 0), (507, .iload 4, 2, (0, 0, 0), 0), (509, .iconst 1, 1, (0, 0, 0), 0), (510, .iadd, 1, (0, 0, 0), 0), (511, .iaload, 1, (0, 0, 0), 0), (512, .aload_n 0, 1, (0, 0, 0), 0), (513, .iload 4, 2, (0, 0, 0), 0), (515, .iconst 2, 1, (0, 0, 0), 0), (516, .iadd, 1, (0, 0, 0), 0), (517, .iaload, 1, (0, 0, 0), 0), (518, .invokevirtual 55, 3, (235, 3, 0), 0)]), (552, [(521, .if_icmp .eq 1335, 3, (0, 0, 0), 0), (524, .iconst 0, 1, (0, 0, 0), 0), (525, .ireturn, 1, (0, 0, 3), 0), (526, .aload_n 1, 1, (0, 0, 0), 0), (527, .aload_n 0, 1, (0, 0, 0), 0), (528, .iload 4, 2, (0, 0, 0), 0), (530, .iconst 1, 1, (0, 0, 0), 0), (531, .iadd, 1, (0, 0, 0), 0), (532, .iaload, 1, (0, 0, 0), 0), (533, .aload_n 0, 1, (0, 0, 0), 0), (534, .iload 4, 2, (0, 0, 0), 0), (536, .iconst 2, 1, (0, 0, 0), 0), (537, .iadd, 1, (0, 0, 0), 0), (538, .iaload, 1, (0, 0, 0), 0), (539, .invokevirtual 56, 3, (130, 3, 0), 0), (542, .aload_n 2, 1, (0, 0, 0), 0), (543, .aload_n 0, 1, (0, 0, 0), 0), (544, .iload 4, 2, (0, 0, 0), 0), (546, .iconst 1, 1, (0, 0, 0), 0), (547, .iadd, 1, (0, 0, 0), 0), (548, .iaload, 1, (0, 0, 0), 0), (549, .aload_n 0, 1, (0, 0, 0), 0), (550, .iload 4, 2, (0, 0, 0), 0), (552, .iconst 2, 1, (0, 0, 0), 0)]), (585, [(553, .iadd, 1, (0, 0, 0), 0), (554, .iaload, 1, (0, 0, 0), 0), (555, .invokevirtual 59, 3, (236, 3, 0), 0), (558, .if_icmp .eq 1298, 3, (0, 0, 0), 0), (561, .iconst 0, 1, (0, 0, 0), 0), (562, .ireturn, 1, (0, 0, 3), 0), (563, .aload_n 1, 1, (0, 0, 0), 0), (564, .aload_n 0, 1, (0, 0, 0), 0), (565, .iload 4, 2, (0, 0, 0), 0), (567, .iconst 1, 1, (0, 0, 0), 0), (568, .iadd, 1, (0, 0, 0), 0), (569, .iaload, 1, (0, 0, 0), 0), (570, .aload_n 0, 1, (0, 0, 0), 0), (571, .iload 4, 2, (0, 0, 0), 0), (573, .iconst 2, 1, (0, 0, 0), 0), (574, .iadd, 1, (0, 0, 0), 0), (575, .iaload, 1, (0, 0, 0), 0), (576, .invokevirtual 60, 3, (131, 3, 0), 0), (579, .aload_n 2, 1, (0, 0, 0), 0), (580, .aload_n 0, 1, (0, 0, 0), 0), (581, .iload 4, 2, (0, 0, 0), 0), (583, .iconst 1, 1, (0, 0, 0), 0), (584, .iadd, 1, (0, 0, 0), 0), (585, .iaload, 1, (0, 0, 0), 0)]), (620, [(586, .aload_n 0, 1, (0, 0, 0), 0), (587, .iload 4, 2, (0, 0, 0), 0), (589, .iconst 2, 1, (0, 0, 0), 0), (590, .iadd, 1, (0, 0, 0), 0), (591, .iaload, 1, (0, 0, 0), 0), (592, .invokevirtual 63, 3, (237, 3, 0), 0), (595, .if_icmp .eq 1261, 3, (0, 0, 0), 0), (598, .iconst 0, 1, (0, 0, 0), 0), (599, .ireturn, 1, (0, 0, 3), 0), (600, .aload_n 1, 1, (0, 0, 0), 0), (601, .aload_n 0, 1, (0, 0, 0), 0), (602, .iload 4, 2, (0, 0, 0), 0), (604, .iconst 1, 1, (0, 0, 0), 0), (605, .iadd, 1, (0, 0, 0), 0), (606, .iaload, 1, (0, 0, 0), 0), (607, .invokevirtual 64, 3, (132, 2, 0), 0), (610, .aload_n 2, 1, (0, 0, 0), 0), (611, .aload_n 0, 1, (0, 0, 0), 0), (612, .iload 4, 2, (0, 0, 0), 0), (614, .iconst 1, 1, (0, 0, 0), 0), (615, .iadd, 1, (0, 0, 0), 0), (616, .iaload, 1, (0, 0, 0), 0), (617, .invokevirtual 67, 3, (238, 2, 0), 0), (620, .if_icmp .eq 1236, 3, (0, 0, 0), 0)]), (655, [(623, .iconst 0, 1, (0, 0, 0), 0), (624, .ireturn, 1, (0, 0, 3), 0), (625, .aload_n 1, 1, (0, 0, 0), 0), (626, .aload_n 0, 1, (0, 0, 0), 0), (627, .iload 4, 2, (0, 0, 0), 0), (629, .iconst 1, 1, (0, 0, 0), 0), (630, .iadd, 1, (0, 0, 0), 0), (631, .iaload, 1, (0, 0, 0), 0), (632, .invokevirtual 68, 3, (133, 2, 0), 0), (635, .aload_n 2, 1, (0, 0, 0), 0), (636, .aload_n 0, 1, (0, 0, 0), 0), (637, .iload 4, 2, (0, 0, 0), 0), (639, .iconst 1, 1, (0, 0, 0), 0), (640, .iadd, 1, (0, 0, 0), 0), (641, .iaload, 1, (0, 0, 0), 0), (642, .invokevirtual 71, 3, (239, 2, 0), 0), (645, .if_icmp .eq 1211, 3, (0, 0, 0), 0), (648, .iconst 0, 1, (0, 0, 0), 0), (649, .ireturn, 1, (0, 0, 3), 0), (650, .aload_n 1, 1, (0, 0, 0), 0), (651, .aload_n 0, 1, (0, 0, 0), 0), (652, .iload 4, 2, (0, 0, 0), 0), (654, .iconst 1, 1, (0, 0, 0), 0), (655, .iadd, 1, (0, 0, 0), 0)]), (685, [(656, .iaload, 1, (0, 0, 0), 0), (657, .aload_n 0, 1, (0, 0, 0), 0), (658, .iload 4, 2, (0, 0, 0), 0), (660, .iconst 2, 1, (0, 0, 0), 0), (661, .iadd, 1, (0, 0, 0), 0), (662, .iaload, 1, (0, 0, 0), 0), (663, .aload_n 0, 1, (0, 0, 0), 0), (664, .iload 4, 2, (0, 0, 0), 0), (666, .iconst 3, 1, (0, 0, 0), 0), (667, .iadd, 1, (0, 0, 0), 0), (668, .iaload, 1, (0, 0, 0), 0), (669, .invokevirtual 72, 3, (134, 4, 0), 0), (672, .aload_n 2, 1, (0, 0, 0), 0), (673, .aload_n 0, 1, (0, 0, 0), 0), (674, .iload 4, 2, (0, 0, 0), 0), (676, .iconst 1, 1, (0, 0, 0), 0), (677, .iadd, 1, (0, 0, 0), 0), (678, .iaload, 1, (0, 0, 0), 0), (679, .aload_n 0, 1, (0, 0, 0), 0), (680, .iload 4, 2, (0, 0, 0), 0), (682, .iconst 2, 1, (0, 0, 0), 0), (683, .iadd, 1, (0, 0, 0), 0), (684, .iaload, 1, (0, 0, 0), 0), (685, .aload_n 0, 1, (0, 0, 0), 0)]), (719, [(686, .iload 4, 2, (0, 0, 0), 0), (688, .iconst 3, 1, (0, 0, 0), 0), (689, .iadd, 1, (0, 0, 0), 0), (690, .iaload, 1, (0, 0, 0), 0), (691, .invokevirtual 76, 3, (243, 4, 0), 0), (694, .if_icmp .eq 1162, 3, (0, 0, 0), 0), (697, .iconst 0, 1, (0, 0, 0), 0), (698, .ireturn, 1, (0, 0, 3), 0), (699, .aload_n 1, 1, (0, 0, 0), 0), (700, .aload_n 0, 1, (0, 0, 0), 0), (701, .iload 4, 2, (0, 0, 0), 0), (703, .iconst 1, 1, (0, 0, 0), 0), (704, .iadd, 1, (0, 0, 0), 0), (705, .iaload, 1, (0, 0, 0), 0), (706, .aload_n 0, 1, (0, 0, 0), 0), (707, .iload 4, 2, (0, 0, 0), 0), (709, .iconst 2, 1, (0, 0, 0), 0), (710, .iadd, 1, (0, 0, 0), 0), (711, .iaload, 1, (0, 0, 0), 0), (712, .invokevirtual 77, 3, (135, 3, 0), 0), (715, .aload_n 2, 1, (0, 0, 0), 0), (716, .aload_n 0, 1, (0, 0, 0), 0), (717, .iload 4, 2, (0, 0, 0), 0), (719, .iconst 1, 1, (0, 0, 0), 0)]), (750, [(720, .iadd, 1, (0, 0, 0), 0), (721, .iaload, 1, (0, 0, 0), 0), (722, .aload_n 0, 1, (0, 0, 0), 0), (723, .iload 4, 2, (0, 0, 0), 0), (725, .iconst 2, 1, (0, 0, 0), 0), (726, .iadd, 1, (0, 0, 0), 0), (727, .iaload, 1, (0, 0, 0), 0), (728, .invokevirtual 80, 3, (249, 3, 0), 0), (731, .if_icmp .eq 1125, 3, (0, 0, 0), 0), (734, .iconst 0, 1, (0, 0, 0), 0), (735, .ireturn, 1, (0, 0, 3), 0), (736, .aload_n 1, 1, (0, 0, 0), 0), (737, .aload_n 0, 1, (0, 0, 0), 0), (738, .iload 4, 2, (0, 0, 0), 0), (740, .iconst 1, 1, (0, 0, 0), 0), (741, .iadd, 1, (0, 0, 0), 0), (742, .iaload, 1, (0, 0, 0), 0), (743, .aload_n 0, 1, (0, 0, 0), 0), (744, .iload 4, 2, (0, 0, 0), 0), (746, .iconst 2, 1, (0, 0, 0), 0), (747, .iadd, 1, (0, 0, 0), 0), (748, .iaload, 1, (0, 0, 0), 0), (749, .aload_n 0, 1, (0, 0, 0), 0), (750, .iload 4, 2, (0, 0, 0), 0)]), (781, [(752, .iconst 3, 1, (0, 0, 0), 0), (753, .iadd, 1, (0, 0, 0), 0), (754, .iaload, 1, (0, 0, 0), 0), (755, .aload_n 0, 1, (0, 0, 0), 0), (756, .iload 4, 2, (0, 0, 0), 0), (758, .iconst 4, 1, (0, 0, 0), 0), (759, .iadd, 1, (0, 0, 0), 0), (760, .iaload, 1, (0, 0, 0), 0), (761, .invokevirtual 81, 3, (136, 5, 0), 0), (764, .aload_n 2, 1, (0, 0, 0), 0), (765, .aload_n 0, 1, (0, 0, 0), 0), (766, .iload 4, 2, (0, 0, 0), 0), (768, .iconst 1, 1, (0, 0, 0), 0), (769, .iadd, 1, (0, 0, 0), 0), (770, .iaload, 1, (0, 0, 0), 0), (771, .aload_n 0, 1, (0, 0, 0), 0), (772, .iload 4, 2, (0, 0, 0), 0), (774, .iconst 2, 1, (0, 0, 0), 0), (775, .iadd, 1, (0, 0, 0), 0), (776, .iaload, 1, (0, 0, 0), 0), (777, .aload_n 0, 1, (0, 0, 0), 0), (778, .iload 4, 2, (0, 0, 0), 0), (780, .iconst 3, 1, (0, 0, 0), 0), (781, .iadd, 1, (0, 0, 0), 0)]), (813, [(782, .iaload, 1, (0, 0, 0), 0), (783, .aload_n 0, 1, (0, 0, 0), 0), (784, .iload 4, 2, (0, 0, 0), 0), (786, .iconst 4, 1, (0, 0, 0), 0), (787, .iadd, 1, (0, 0, 0), 0), (788, .iaload, 1, (0, 0, 0), 0), (789, .invokevirtual 85, 3, (253, 5, 0), 0), (792, .if_icmp .eq 1064, 3, (0, 0, 0), 0), (795, .iconst 0, 1, (0, 0, 0), 0), (796, .ireturn, 1, (0, 0, 3), 0), (797, .aload_n 1, 1, (0, 0, 0), 0), (798, .aload_n 0, 1, (0, 0, 0), 0), (799, .iload 4, 2, (0, 0, 0), 0), (801, .iconst 1, 1, (0, 0, 0), 0), (802, .iadd, 1, (0, 0, 0), 0), (803, .iaload, 1, (0, 0, 0), 0), (804, .aload_n 0, 1, (0, 0, 0), 0), (805, .iload 4, 2, (0, 0, 0), 0), (807, .iconst 2, 1, (0, 0, 0), 0), (808, .iadd, 1, (0, 0, 0), 0), (809, .iaload, 1, (0, 0, 0), 0), (810, .aload_n 0, 1, (0, 0, 0), 0), (811, .iload 4, 2, (0, 0, 0), 0), (813, .iconst 3, 1, (0, 0, 0), 0)]), (846, [(814, .iadd, 1, (0, 0, 0), 0), (815, .iaload, 1, (0, 0, 0), 0), (816, .invokevirtual 86, 3, (137, 4, 0), 0), (819, .aload_n 2, 1, (0, 0, 0), 0), (820, .aload_n 0, 1, (0, 0, 0), 0), (821, .iload 4, 2, (0, 0, 0), 0), (823, .iconst 1, 1, (0, 0, 0), 0), (824, .iadd, 1, (0, 0, 0), 0), (825, .iaload, 1, (0, 0, 0), 0), (826, .aload_n 0, 1, (0, 0, 0), 0), (827, .iload 4, 2, (0, 0, 0), 0), (829, .iconst 2, 1, (0, 0, 0), 0), (830, .iadd, 1, (0, 0, 0), 0), (831, .iaload, 1, (0, 0, 0), 0), (832, .aload_n 0, 1, (0, 0, 0), 0), (833, .iload 4, 2, (0, 0, 0), 0), (835, .iconst 3, 1, (0, 0, 0), 0), (836, .iadd, 1, (0, 0, 0), 0), (837, .iaload, 1, (0, 0, 0), 0), (838, .invokevirtual 89, 3, (256, 4, 0), 0), (841, .if_icmp .eq 1015, 3, (0, 0, 0), 0), (844, .iconst 0, 1, (0, 0, 0), 0), (845, .ireturn, 1, (0, 0, 3), 0), (846, .aload_n 1, 1, (0, 0, 0), 0)]), (875, [(847, .aload_n 0, 1, (0, 0, 0), 0), (848, .iload 4, 2, (0, 0, 0), 0), (850, .iconst 1, 1, (0, 0, 0), 0), (851, .iadd, 1, (0, 0, 0), 0), (852, .iaload, 1, (0, 0, 0), 0), (853, .aload_n 0, 1, (0, 0, 0), 0), (854, .iload 4, 2, (0, 0, 0), 0), (856, .iconst 2, 1, (0, 0, 0), 0), (857, .iadd, 1, (0, 0, 0), 0), (858, .iaload, 1, (0, 0, 0), 0), (859, .aload_n 0, 1, (0, 0, 0), 0), (860, .iload 4, 2, (0, 0, 0), 0), (862, .iconst 3, 1, (0, 0, 0), 0), (863, .iadd, 1, (0, 0, 0), 0), (864, .iaload, 1, (0, 0, 0), 0), (865, .aload_n 0, 1, (0, 0, 0), 0), (866, .iload 4, 2, (0, 0, 0), 0), (868, .iconst 4, 1, (0, 0, 0), 0), (869, .iadd, 1, (0, 0, 0), 0), (870, .iaload, 1, (0, 0, 0), 0), (871, .aload_n 0, 1, (0, 0, 0), 0), (872, .iload 4, 2, (0, 0, 0), 0), (874, .iconst 5, 1, (0, 0, 0), 0), (875, .iadd, 1, (0, 0, 0), 0)]), (905, [(876, .iaload, 1, (0, 0, 0), 0), (877, .invokevirtual 90, 3, (138, 6, 0), 0), (880, .aload_n 2, 1, (0, 0, 0), 0), (881, .aload_n 0, 1, (0, 0, 0), 0), (882, .iload 4, 2, (0, 0, 0), 0), (884, .iconst 1, 1, (0, 0, 0), 0), (885, .iadd, 1, (0, 0, 0), 0), (886, .iaload, 1, (0, 0, 0), 0), (887, .aload_n 0, 1, (0, 0, 0), 0), (888, .iload 4, 2, (0, 0, 0), 0), (890, .iconst 2, 1, (0, 0, 0), 0), (891, .iadd, 1, (0, 0, 0), 0), (892, .iaload, 1, (0, 0, 0), 0), (893, .aload_n 0, 1, (0, 0, 0), 0), (894, .iload 4, 2, (0, 0, 0), 0), (896, .iconst 3, 1, (0, 0, 0), 0), (897, .iadd, 1, (0, 0, 0), 0), (898, .iaload, 1, (0, 0, 0), 0), (899, .aload_n 0, 1, (0, 0, 0), 0), (900, .iload 4, 2, (0, 0, 0), 0), (902, .iconst 4, 1, (0, 0, 0), 0), (903, .iadd, 1, (0, 0, 0), 0), (904, .iaload, 1, (0, 0, 0), 0), (905, .aload_n 0, 1, (0, 0, 0), 0)]), (939, [(906, .iload 4, 2, (0, 0, 0), 0), (908, .iconst 5, 1, (0, 0, 0), 0), (909, .iadd, 1, (0, 0, 0), 0), (910, .iaload, 1, (0, 0, 0), 0), (911, .invokevirtual 93, 3, (257, 6, 0), 0), (914, .if_icmp .eq 942, 3, (0, 0, 0), 0), (917, .iconst 0, 1, (0, 0, 0), 0), (918, .ireturn, 1, (0, 0, 3), 0), (919, .aload_n 1, 1, (0, 0, 0), 0), (920, .aload_n 0, 1, (0, 0, 0), 0), (921, .iload 4, 2, (0, 0, 0), 0), (923, .iconst 1, 1, (0, 0, 0), 0), (924, .iadd, 1, (0, 0, 0), 0), (925, .iaload, 1, (0, 0, 0), 0), (926, .aload_n 0, 1, (0, 0, 0), 0), (927, .iload 4, 2, (0, 0, 0), 0), (929, .iconst 2, 1, (0, 0, 0), 0), (930, .iadd, 1, (0, 0, 0), 0), (931, .iaload, 1, (0, 0, 0), 0), (932, .invokevirtual 94, 3, (139, 3, 0), 0), (935, .aload_n 2, 1, (0, 0, 0), 0), (936, .aload_n 0, 1, (0, 0, 0), 0), (937, .iload 4, 2, (0, 0, 0), 0), (939, .iconst 1, 1, (0, 0, 0), 0)]), (972, [(940, .iadd, 1, (0, 0, 0), 0), (941, .iaload, 1, (0, 0, 0), 0), (942, .aload_n 0, 1, (0, 0, 0), 0), (943, .iload 4, 2, (0, 0, 0), 0), (945, .iconst 2, 1, (0, 0, 0), 0), (946, .iadd, 1, (0, 0, 0), 0), (947, .iaload, 1, (0, 0, 0), 0), (948, .invokevirtual 97, 3, (259, 3, 0), 0), (951, .if_icmp .eq 905, 3, (0, 0, 0), 0), (954, .iconst 0, 1, (0, 0, 0), 0), (955, .ireturn, 1, (0, 0, 3), 0), (956, .aload_n 1, 1, (0, 0, 0), 0), (957, .aload_n 0, 1, (0, 0, 0), 0), (958, .iload 4, 2, (0, 0, 0), 0), (960, .iconst 1, 1, (0, 0, 0), 0), (961, .iadd, 1, (0, 0, 0), 0), (962, .iaload, 1, (0, 0, 0), 0), (963, .invokevirtual 98, 3, (140, 2, 0), 0), (966, .aload_n 2, 1, (0, 0, 0), 0), (967, .aload_n 0, 1, (0, 0, 0), 0), (968, .iload 4, 2, (0, 0, 0), 0), (970, .iconst 1, 1, (0, 0, 0), 0), (971, .iadd, 1, (0, 0, 0), 0), (972, .iaload, 1, (0, 0, 0), 0)]), (1010, [(973, .invokevirtual 101, 3, (261, 2, 0), 0), (976, .if_icmp .eq 880, 3, (0, 0, 0), 0), (979, .iconst 0, 1, (0, 0, 0), 0), (980, .ireturn, 1, (0, 0, 3), 0), (981, .aload_n 1, 1, (0, 0, 0), 0), (982, .aload_n 0, 1, (0, 0, 0), 0), (983, .iload 4, 2, (0, 0, 0), 0), (985, .iconst 1, 1, (0, 0, 0), 0), (986, .iadd, 1, (0, 0, 0), 0), (987, .iaload, 1, (0, 0, 0), 0), (988, .invokevirtual 102, 3, (141, 2, 0), 0), (991, .aload_n 2, 1, (0, 0, 0), 0), (992, .aload_n 0, 1, (0, 0, 0), 0), (993, .iload 4, 2, (0, 0, 0), 0), (995, .iconst 1, 1, (0, 0, 0), 0), (996, .iadd, 1, (0, 0, 0), 0), (997, .iaload, 1, (0, 0, 0), 0), (998, .invokevirtual 105, 3, (264, 2, 0), 0), (1001, .if_icmp .eq 855, 3, (0, 0, 0), 0), (1004, .iconst 0, 1, (0, 0, 0), 0), (1005, .ireturn, 1, (0, 0, 3), 0), (1006, .aload_n 1, 1, (0, 0, 0), 0), (1007, .invokevirtual 106, 3, (142, 1, 0), 0), (1010, .aload_n 2, 1, (0, 0, 0), 0)]), (1043, [(1011, .invokevirtual 109, 3, (265, 1, 0), 0), (1014, .if_icmp .eq 842, 3, (0, 0, 0), 0), (1017, .iconst 0, 1, (0, 0, 0), 0), (1018, .ireturn, 1, (0, 0, 3), 0), (1019, .aload_n 1, 1, (0, 0, 0), 0), (1020, .aload_n 0, 1, (0, 0, 0), 0), (1021, .iload 4, 2, (0, 0, 0), 0), (1023, .iconst 1, 1, (0, 0, 0), 0), (1024, .iadd, 1, (0, 0, 0), 0), (1025, .iaload, 1, (0, 0, 0), 0), (1026, .aload_n 0, 1, (0, 0, 0), 0), (1027, .iload 4, 2, (0, 0, 0), 0), (1029, .iconst 2, 1, (0, 0, 0), 0), (1030, .iadd, 1, (0, 0, 0), 0), (1031, .iaload, 1, (0, 0, 0), 0), (1032, .invokevirtual 110, 3, (143, 3, 0), 0), (1035, .aload_n 2, 1, (0, 0, 0), 0), (1036, .aload_n 0, 1, (0, 0, 0), 0), (1037, .iload 4, 2, (0, 0, 0), 0), (1039, .iconst 1, 1, (0, 0, 0), 0), (1040, .iadd, 1, (0, 0, 0), 0), (1041, .iaload, 1, (0, 0, 0), 0), (1042, .aload_n 0, 1, (0, 0, 0), 0), (1043, .iload 4, 2, (0, 0, 0), 0)]), (1075, [(1045, .iconst 2, 1, (0, 0, 0), 0), (1046, .iadd, 1, (0, 0, 0), 0), (1047, .iaload, 1, (0, 0, 0), 0), (1048, .invokevirtual 113, 3, (266, 3, 0), 0), (1051, .if_icmp .eq 805, 3, (0, 0, 0), 0), (1054, .iconst 0, 1, (0, 0, 0), 0), (1055, .ireturn, 1, (0, 0, 3), 0), (1056, .aload_n 1, 1, (0, 0, 0), 0), (1057, .aload_n 0, 1, (0, 0, 0), 0), (1058, .iload 4, 2, (0, 0, 0), 0), (1060, .iconst 1, 1, (0, 0, 0), 0), (1061, .iadd, 1, (0, 0, 0), 0), (1062, .iaload, 1, (0, 0, 0), 0), (1063, .aload_n 0, 1, (0, 0, 0), 0), (1064, .iload 4, 2, (0, 0, 0), 0), (1066, .iconst 2, 1, (0, 0, 0), 0), (1067, .iadd, 1, (0, 0, 0), 0), (1068, .iaload, 1, (0, 0, 0), 0), (1069, .aload_n 0, 1, (0, 0, 0), 0), (1070, .iload 4, 2, (0, 0, 0), 0), (1072, .iconst 3, 1, (0, 0, 0), 0), (1073, .iadd, 1, (0, 0, 0), 0), (1074, .iaload, 1, (0, 0, 0), 0), (1075, .invokevirtual 114, 3, (144, 4, 0), 0)]), (1109, [(1078, .aload_n 2, 1, (0, 0, 0), 0), (1079, .aload_n 0, 1, (0, 0, 0), 0), (1080, .iload 4, 2, (0, 0, 0), 0), (1082, .iconst 1, 1, (0, 0, 0), 0), (1083, .iadd, 1, (0, 0, 0), 0), (1084, .iaload, 1, (0, 0, 0), 0), (1085, .aload_n 0, 1, (0, 0, 0), 0), (1086, .iload 4, 2, (0, 0, 0), 0), (1088, .iconst 2, 1, (0, 0, 0), 0), (1089, .iadd, 1, (0, 0, 0), 0), (1090, .iaload, 1, (0, 0, 0), 0), (1091, .aload_n 0, 1, (0, 0, 0), 0), (1092, .iload 4, 2, (0, 0, 0), 0), (1094, .iconst 3, 1, (0, 0, 0), 0), (1095, .iadd, 1, (0, 0, 0), 0), (1096, .iaload, 1, (0, 0, 0), 0), (1097, .invokevirtual 117, 3, (267, 4, 0), 0), (1100, .if_icmp .eq 756, 3, (0, 0, 0), 0), (1103, .iconst 0, 1, (0, 0, 0), 0), (1104, .ireturn, 1, (0, 0, 3), 0), (1105, .aload_n 1, 1, (0, 0, 0), 0), (1106, .aload_n 0, 1, (0, 0, 0), 0), (1107, .iload 4, 2, (0, 0, 0), 0), (1109, .iconst 1, 1, (0, 0, 0), 0)]), (1142, [(1110, .iadd, 1, (0, 0, 0), 0), (1111, .iaload, 1, (0, 0, 0), 0), (1112, .aload_n 0, 1, (0, 0, 0), 0), (1113, .iload 4, 2, (0, 0, 0), 0), (1115, .iconst 2, 1, (0, 0, 0), 0), (1116, .iadd, 1, (0, 0, 0), 0), (1117, .iaload, 1, (0, 0, 0), 0), (1118, .invokevirtual 118, 3, (145, 3, 0), 0), (1121, .aload_n 2, 1, (0, 0, 0), 0), (1122, .aload_n 0, 1, (0, 0, 0), 0), (1123, .iload 4, 2, (0, 0, 0), 0), (1125, .iconst 1, 1, (0, 0, 0), 0), (1126, .iadd, 1, (0, 0, 0), 0), (1127, .iaload, 1, (0, 0, 0), 0), (1128, .aload_n 0, 1, (0, 0, 0), 0), (1129, .iload 4, 2, (0, 0, 0), 0), (1131, .iconst 2, 1, (0, 0, 0), 0), (1132, .iadd, 1, (0, 0, 0), 0), (1133, .iaload, 1, (0, 0, 0), 0), (1134, .invokevirtual 121, 3, (274, 3, 0), 0), (1137, .if_icmp .eq 719, 3, (0, 0, 0), 0), (1140, .iconst 0, 1, (0, 0, 0), 0), (1141, .ireturn, 1, (0, 0, 3), 0), (1142, .aload_n 1, 1, (0, 0, 0), 0)]), (1175, [(1143, .aload_n 0, 1, (0, 0, 0), 0), (1144, .iload 4, 2, (0, 0, 0), 0), (1146, .iconst 1, 1, (0, 0, 0), 0), (1147, .iadd, 1, (0, 0, 0), 0), (1148, .iaload, 1, (0, 0, 0), 0), (1149, .invokevirtual 122, 3, (146, 2, 0), 0), (1152, .aload_n 2, 1, (0, 0, 0), 0), (1153, .aload_n 0, 1, (0, 0, 0), 0), (1154, .iload 4, 2, (0, 0, 0), 0), (1156, .iconst 1, 1, (0, 0, 0), 0), (1157, .iadd, 1, (0, 0, 0), 0), (1158, .iaload, 1, (0, 0, 0), 0), (1159, .invokevirtual 125, 3, (275, 2, 0), 0), (1162, .if_icmp .eq 694, 3, (0, 0, 0), 0), (1165, .iconst 0, 1, (0, 0, 0), 0), (1166, .ireturn, 1, (0, 0, 3), 0), (1167, .aload_n 1, 1, (0, 0, 0), 0), (1168, .aload_n 0, 1, (0, 0, 0), 0), (1169, .iload 4, 2, (0, 0, 0), 0), (1171, .iconst 1, 1, (0, 0, 0), 0), (1172, .iadd, 1, (0, 0, 0), 0), (1173, .iaload, 1, (0, 0, 0), 0), (1174, .aload_n 0, 1, (0, 0, 0), 0), (1175, .iload 4, 2, (0, 0, 0), 0)]), (1206, [(1177, .iconst 2, 1, (0, 0, 0), 0), (1178, .iadd, 1, (0, 0, 0), 0), (1179, .iaload, 1, (0, 0, 0), 0), (1180, .aload_n 0, 1, (0, 0, 0), 0), (1181, .iload 4, 2, (0, 0, 0), 0), (1183, .iconst 3, 1, (0, 0, 0), 0), (1184, .iadd, 1, (0, 0, 0), 0), (1185, .iaload, 1, (0, 0, 0), 0), (1186, .invokevirtual 126, 3, (147, 4, 0), 0), (1189, .aload_n 2, 1, (0, 0, 0), 0), (1190, .aload_n 0, 1, (0, 0, 0), 0), (1191, .iload 4, 2, (0, 0, 0), 0), (1193, .iconst 1, 1, (0, 0, 0), 0), (1194, .iadd, 1, (0, 0, 0), 0), (1195, .iaload, 1, (0, 0, 0), 0), (1196, .aload_n 0, 1, (0, 0, 0), 0), (1197, .iload 4, 2, (0, 0, 0), 0), (1199, .iconst 2, 1, (0, 0, 0), 0), (1200, .iadd, 1, (0, 0, 0), 0), (1201, .iaload, 1, (0, 0, 0), 0), (1202, .aload_n 0, 1, (0, 0, 0), 0), (1203, .iload 4, 2, (0, 0, 0), 0), (1205, .iconst 3, 1, (0, 0, 0), 0), (1206, .iadd, 1, (0, 0, 0), 0)]), (1247, [(1207, .iaload, 1, (0, 0, 0), 0), (1208, .invokevirtual 129, 3, (280, 4, 0), 0), (1211, .if_icmp .eq 645, 3, (0, 0, 0), 0), (1214, .iconst 0, 1, (0, 0, 0), 0), (1215, .ireturn, 1, (0, 0, 3), 0), (1216, .aload_n 1, 1, (0, 0, 0), 0), (1217, .invokevirtual 130, 3, (148, 1, 0), 0), (1220, .aload_n 2, 1, (0, 0, 0), 0), (1221, .invokevirtual 133, 3, (283, 1, 0), 0), (1224, .if_icmp .eq 632, 3, (0, 0, 0), 0), (1227, .iconst 0, 1, (0, 0, 0), 0), (1228, .ireturn, 1, (0, 0, 3), 0), (1229, .aload_n 1, 1, (0, 0, 0), 0), (1230, .invokevirtual 134, 3, (149, 1, 0), 0), (1233, .aload_n 2, 1, (0, 0, 0), 0), (1234, .invokevirtual 137, 3, (284, 1, 0), 0), (1237, .if_icmp .eq 619, 3, (0, 0, 0), 0), (1240, .iconst 0, 1, (0, 0, 0), 0), (1241, .ireturn, 1, (0, 0, 3), 0), (1242, .aload_n 1, 1, (0, 0, 0), 0), (1243, .aload_n 0, 1, (0, 0, 0), 0), (1244, .iload 4, 2, (0, 0, 0), 0), (1246, .iconst 1, 1, (0, 0, 0), 0), (1247, .iadd, 1, (0, 0, 0), 0)]), (1280, [(1248, .iaload, 1, (0, 0, 0), 0), (1249, .invokevirtual 138, 3, (150, 2, 0), 0), (1252, .aload_n 2, 1, (0, 0, 0), 0), (1253, .aload_n 0, 1, (0, 0, 0), 0), (1254, .iload 4, 2, (0, 0, 0), 0), (1256, .iconst 1, 1, (0, 0, 0), 0), (1257, .iadd, 1, (0, 0, 0), 0), (1258, .iaload, 1, (0, 0, 0), 0), (1259, .invokevirtual 141, 3, (287, 2, 0), 0), (1262, .if_icmp .eq 594, 3, (0, 0, 0), 0), (1265, .iconst 0, 1, (0, 0, 0), 0), (1266, .ireturn, 1, (0, 0, 3), 0), (1267, .aload_n 1, 1, (0, 0, 0), 0), (1268, .aload_n 0, 1, (0, 0, 0), 0), (1269, .iload 4, 2, (0, 0, 0), 0), (1271, .iconst 1, 1, (0, 0, 0), 0), (1272, .iadd, 1, (0, 0, 0), 0), (1273, .iaload, 1, (0, 0, 0), 0), (1274, .aload_n 0, 1, (0, 0, 0), 0), (1275, .iload 4, 2, (0, 0, 0), 0), (1277, .iconst 2, 1, (0, 0, 0), 0), (1278, .iadd, 1, (0, 0, 0), 0), (1279, .iaload, 1, (0, 0, 0), 0), (1280, .invokevirtual 142, 3, (151, 3, 0), 0)]), (1314, [(1283, .aload_n 2, 1, (0, 0, 0), 0), (1284, .aload_n 0, 1, (0, 0, 0), 0), (1285, .iload 4, 2, (0, 0, 0), 0), (1287, .iconst 1, 1, (0, 0, 0), 0), (1288, .iadd, 1, (0, 0, 0), 0), (1289, .iaload, 1, (0, 0, 0), 0), (1290, .aload_n 0, 1, (0, 0, 0), 0), (1291, .iload 4, 2, (0, 0, 0), 0), (1293, .iconst 2, 1, (0, 0, 0), 0), (1294, .iadd, 1, (0, 0, 0), 0), (1295, .iaload, 1, (0, 0, 0), 0), (1296, .invokevirtual 145, 3, (288, 3, 0), 0), (1299, .if_icmp .eq 557, 3, (0, 0, 0), 0), (1302, .iconst 0, 1, (0, 0, 0), 0), (1303, .ireturn, 1, (0, 0, 3), 0), (1304, .aload_n 1, 1, (0, 0, 0), 0), (1305, .aload_n 0, 1, (0, 0, 0), 0), (1306, .iload 4, 2, (0, 0, 0), 0), (1308, .iconst 1, 1, (0, 0, 0), 0), (1309, .iadd, 1, (0, 0, 0), 0), (1310, .iaload, 1, (0, 0, 0), 0), (1311, .aload_n 0, 1, (0, 0, 0), 0), (1312, .iload 4, 2, (0, 0, 0), 0), (1314, .iconst 2, 1, (0, 0, 0), 0)]), (1344, [(1315, .iadd, 1, (0, 0, 0), 0), (1316, .iaload, 1, (0, 0, 0), 0), (1317, .aload_n 0, 1, (0, 0, 0), 0), (1318, .iload 4, 2, (0, 0, 0), 0), (1320, .iconst 3, 1, (0, 0, 0), 0), (1321, .iadd, 1, (0, 0, 0), 0), (1322, .iaload, 1, (0, 0, 0), 0), (1323, .aload_n 0, 1, (0, 0, 0), 0), (1324, .iload 4, 2, (0, 0, 0), 0), (1326, .iconst 4, 1, (0, 0, 0), 0), (1327, .iadd, 1, (0, 0, 0), 0), (1328, .iaload, 1, (0, 0, 0), 0), (1329, .aload_n 0, 1, (0, 0, 0), 0), (1330, .iload 4, 2, (0, 0, 0), 0), (1332, .iconst 5, 1, (0, 0, 0), 0), (1333, .iadd, 1, (0, 0, 0), 0), (1334, .iaload, 1, (0, 0, 0), 0), (1335, .invokevirtual 146, 3, (152, 6, 0), 0), (1338, .aload_n 2, 1, (0, 0, 0), 0), (1339, .aload_n 0, 1, (0, 0, 0), 0), (1340, .iload 4, 2, (0, 0, 0), 0), (1342, .iconst 1, 1, (0, 0, 0), 0), (1343, .iadd, 1, (0, 0, 0), 0), (1344, .iaload, 1, (0, 0, 0), 0)]), (1376, [(1345, .aload_n 0, 1, (0, 0, 0), 0), (1346, .iload 4, 2, (0, 0, 0), 0), (1348, .iconst 2, 1, (0, 0, 0), 0), (1349, .iadd, 1, (0, 0, 0), 0), (1350, .iaload, 1, (0, 0, 0), 0), (1351, .aload_n 0, 1, (0, 0, 0), 0), (1352, .iload 4, 2, (0, 0, 0), 0), (1354, .iconst 3, 1, (0, 0, 0), 0), (1355, .iadd, 1, (0, 0, 0), 0), (1356, .iaload, 1, (0, 0, 0), 0), (1357, .aload_n 0, 1, (0, 0, 0), 0), (1358, .iload 4, 2, (0, 0, 0), 0), (1360, .iconst 4, 1, (0, 0, 0), 0), (1361, .iadd, 1, (0, 0, 0), 0), (1362, .iaload, 1, (0, 0, 0), 0), (1363, .aload_n 0, 1, (0, 0, 0), 0), (1364, .iload 4, 2, (0, 0, 0), 0), (1366, .iconst 5, 1, (0, 0, 0), 0), (1367, .iadd, 1, (0, 0, 0), 0), (1368, .iaload, 1, (0, 0, 0), 0), (1369, .invokevirtual 149, 3, (289, 6, 0), 0), (1372, .if_icmp .eq 484, 3, (0, 0, 0), 0), (1375, .iconst 0, 1, (0, 0, 0), 0), (1376, .ireturn, 1, (0, 0, 3), 0)]), (1406, [(1377, .aload_n 1, 1, (0, 0, 0), 0), (1378, .aload_n 0, 1, (0, 0, 0), 0), (1379, .iload 4, 2, (0, 0, 0), 0), (1381, .iconst 1, 1, (0, 0, 0), 0), (1382, .iadd, 1, (0, 0, 0), 0), (1383, .iaload, 1, (0, 0, 0), 0), (1384, .aload_n 0, 1, (0, 0, 0), 0), (1385, .iload 4, 2, (0, 0, 0), 0), (1387, .iconst 2, 1, (0, 0, 0), 0), (1388, .iadd, 1, (0, 0, 0), 0), (1389, .iaload, 1, (0, 0, 0), 0), (1390, .invokevirtual 150, 3, (153, 3, 0), 0), (1393, .aload_n 2, 1, (0, 0, 0), 0), (1394, .aload_n 0, 1, (0, 0, 0), 0), (1395, .iload 4, 2, (0, 0, 0), 0), (1397, .iconst 1, 1, (0, 0, 0), 0), (1398, .iadd, 1, (0, 0, 0), 0), (1399, .iaload, 1, (0, 0, 0), 0), (1400, .aload_n 0, 1, (0, 0, 0), 0), (1401, .iload 4, 2, (0, 0, 0), 0), (1403, .iconst 2, 1, (0, 0, 0), 0), (1404, .iadd, 1, (0, 0, 0), 0), (1405, .iaload, 1, (0, 0, 0), 0), (1406, .invokevirtual 153, 3, (290, 3, 0), 0)]), (1440, [(1409, .if_icmp .eq 447, 3, (0, 0, 0), 0), (1412, .iconst 0, 1, (0, 0, 0), 0), (1413, .ireturn, 1, (0, 0, 3), 0), (1414, .aload_n 1, 1, (0, 0, 0), 0), (1415, .aload_n 0, 1, (0, 0, 0), 0), (1416, .iload 4, 2, (0, 0, 0), 0), (1418, .iconst 1, 1, (0, 0, 0), 0), (1419, .iadd, 1, (0, 0, 0), 0), (1420, .iaload, 1, (0, 0, 0), 0), (1421, .aload_n 0, 1, (0, 0, 0), 0), (1422, .iload 4, 2, (0, 0, 0), 0), (1424, .iconst 2, 1, (0, 0, 0), 0), (1425, .iadd, 1, (0, 0, 0), 0), (1426, .iaload, 1, (0, 0, 0), 0), (1427, .aload_n 0, 1, (0, 0, 0), 0), (1428, .iload 4, 2, (0, 0, 0), 0), (1430, .iconst 3, 1, (0, 0, 0), 0), (1431, .iadd, 1, (0, 0, 0), 0), (1432, .iaload, 1, (0, 0, 0), 0), (1433, .invokevirtual 154, 3, (154, 4, 0), 0), (1436, .aload_n 2, 1, (0, 0, 0), 0), (1437, .aload_n 0, 1, (0, 0, 0), 0), (1438, .iload 4, 2, (0, 0, 0), 0), (1440, .iconst 1, 1, (0, 0, 0), 0)]), (1471, [(1441, .iadd, 1, (0, 0, 0), 0), (1442, .iaload, 1, (0, 0, 0), 0), (1443, .aload_n 0, 1, (0, 0, 0), 0), (1444, .iload 4, 2, (0, 0, 0), 0), (1446, .iconst 2, 1, (0, 0, 0), 0), (1447, .iadd, 1, (0, 0, 0), 0), (1448, .iaload, 1, (0, 0, 0), 0), (1449, .aload_n 0, 1, (0, 0, 0), 0), (1450, .iload 4, 2, (0, 0, 0), 0), (1452, .iconst 3, 1, (0, 0, 0), 0), (1453, .iadd, 1, (0, 0, 0), 0), (1454, .iaload, 1, (0, 0, 0), 0), (1455, .invokevirtual 157, 3, (294, 4, 0), 0), (1458, .if_icmp .eq 398, 3, (0, 0, 0), 0), (1461, .iconst 0, 1, (0, 0, 0), 0), (1462, .ireturn, 1, (0, 0, 3), 0), (1463, .aload_n 1, 1, (0, 0, 0), 0), (1464, .aload_n 0, 1, (0, 0, 0), 0), (1465, .iload 4, 2, (0, 0, 0), 0), (1467, .iconst 1, 1, (0, 0, 0), 0), (1468, .iadd, 1, (0, 0, 0), 0), (1469, .iaload, 1, (0, 0, 0), 0), (1470, .aload_n 0, 1, (0, 0, 0), 0), (1471, .iload 4, 2, (0, 0, 0), 0)]), (1502, [(1473, .iconst 2, 1, (0, 0, 0), 0), (1474, .iadd, 1, (0, 0, 0), 0), (1475, .iaload, 1, (0, 0, 0), 0), (1476, .aload_n 0, 1, (0, 0, 0), 0), (1477, .iload 4, 2, (0, 0, 0), 0), (1479, .iconst 3, 1, (0, 0, 0), 0), (1480, .iadd, 1, (0, 0, 0), 0), (1481, .iaload, 1, (0, 0, 0), 0), (1482, .invokevirtual 158, 3, (155, 4, 0), 0), (1485, .aload_n 2, 1, (0, 0, 0), 0), (1486, .aload_n 0, 1, (0, 0, 0), 0), (1487, .iload 4, 2, (0, 0, 0), 0), (1489, .iconst 1, 1, (0, 0, 0), 0), (1490, .iadd, 1, (0, 0, 0), 0), (1491, .iaload, 1, (0, 0, 0), 0), (1492, .aload_n 0, 1, (0, 0, 0), 0), (1493, .iload 4, 2, (0, 0, 0), 0), (1495, .iconst 2, 1, (0, 0, 0), 0), (1496, .iadd, 1, (0, 0, 0), 0), (1497, .iaload, 1, (0, 0, 0), 0), (1498, .aload_n 0, 1, (0, 0, 0), 0), (1499, .iload 4, 2, (0, 0, 0), 0), (1501, .iconst 3, 1, (0, 0, 0), 0), (1502, .iadd, 1, (0, 0, 0), 0)]), (1535, [(1503, .iaload, 1, (0, 0, 0), 0), (1504, .invokevirtual 161, 3, (295, 4, 0), 0), (1507, .if_icmp .eq 349, 3, (0, 0, 0), 0), (1510, .iconst 0, 1, (0, 0, 0), 0), (1511, .ireturn, 1, (0, 0, 3), 0), (1512, .aload_n 1, 1, (0, 0, 0), 0), (1513, .aload_n 0, 1, (0, 0, 0), 0), (1514, .iload 4, 2, (0, 0, 0), 0), (1516, .iconst 1, 1, (0, 0, 0), 0), (1517, .iadd, 1, (0, 0, 0), 0), (1518, .iaload, 1, (0, 0, 0), 0), (1519, .aload_n 0, 1, (0, 0, 0), 0), (1520, .iload 4, 2, (0, 0, 0), 0), (1522, .iconst 2, 1, (0, 0, 0), 0), (1523, .iadd, 1, (0, 0, 0), 0), (1524, .iaload, 1, (0, 0, 0), 0), (1525, .invokevirtual 162, 3, (156, 3, 0), 0), (1528, .aload_n 2, 1, (0, 0, 0), 0), (1529, .aload_n 0, 1, (0, 0, 0), 0), (1530, .iload 4, 2, (0, 0, 0), 0), (1532, .iconst 1, 1, (0, 0, 0), 0), (1533, .iadd, 1, (0, 0, 0), 0), (1534, .iaload, 1, (0, 0, 0), 0), (1535, .aload_n 0, 1, (0, 0, 0), 0)]), (1572, [(1536, .iload 4, 2, (0, 0, 0), 0), (1538, .iconst 2, 1, (0, 0, 0), 0), (1539, .iadd, 1, (0, 0, 0), 0), (1540, .iaload, 1, (0, 0, 0), 0), (1541, .invokevirtual 165, 3, (296, 3, 0), 0), (1544, .if_icmp .eq 312, 3, (0, 0, 0), 0), (1547, .iconst 0, 1, (0, 0, 0), 0), (1548, .ireturn, 1, (0, 0, 3), 0), (1549, .aload_n 1, 1, (0, 0, 0), 0), (1550, .aload_n 0, 1, (0, 0, 0), 0), (1551, .iload 4, 2, (0, 0, 0), 0), (1553, .iconst 1, 1, (0, 0, 0), 0), (1554, .iadd, 1, (0, 0, 0), 0), (1555, .iaload, 1, (0, 0, 0), 0), (1556, .invokevirtual 166, 3, (157, 2, 0), 0), (1559, .aload_n 2, 1, (0, 0, 0), 0), (1560, .aload_n 0, 1, (0, 0, 0), 0), (1561, .iload 4, 2, (0, 0, 0), 0), (1563, .iconst 1, 1, (0, 0, 0), 0), (1564, .iadd, 1, (0, 0, 0), 0), (1565, .iaload, 1, (0, 0, 0), 0), (1566, .invokevirtual 169, 3, (298, 2, 0), 0), (1569, .if_icmp .eq 287, 3, (0, 0, 0), 0), (1572, .iconst 0, 1, (0, 0, 0), 0)]), (1605, [(1573, .ireturn, 1, (0, 0, 3), 0), (1574, .aload_n 1, 1, (0, 0, 0), 0), (1575, .invokevirtual 170, 3, (158, 1, 0), 0), (1578, .aload_n 2, 1, (0, 0, 0), 0), (1579, .invokevirtual 173, 3, (299, 1, 0), 0), (1582, .if_icmp .eq 274, 3, (0, 0, 0), 0), (1585, .iconst 0, 1, (0, 0, 0), 0), (1586, .ireturn, 1, (0, 0, 3), 0), (1587, .aload_n 1, 1, (0, 0, 0), 0), (1588, .aload_n 0, 1, (0, 0, 0), 0), (1589, .iload 4, 2, (0, 0, 0), 0), (1591, .iconst 1, 1, (0, 0, 0), 0), (1592, .iadd, 1, (0, 0, 0), 0), (1593, .iaload, 1, (0, 0, 0), 0), (1594, .aload_n 0, 1, (0, 0, 0), 0), (1595, .iload 4, 2, (0, 0, 0), 0), (1597, .iconst 2, 1, (0, 0, 0), 0), (1598, .iadd, 1, (0, 0, 0), 0), (1599, .iaload, 1, (0, 0, 0), 0), (1600, .aload_n 0, 1, (0, 0, 0), 0), (1601, .iload 4, 2, (0, 0, 0), 0), (1603, .iconst 3, 1, (0, 0, 0), 0), (1604, .iadd, 1, (0, 0, 0), 0), (1605, .iaload, 1, (0, 0, 0), 0)]), (1635, [(1606, .aload_n 0, 1, (0, 0, 0), 0), (1607, .iload 4, 2, (0, 0, 0), 0), (1609, .iconst 4, 1, (0, 0, 0), 0), (1610, .iadd, 1, (0, 0, 0), 0), (1611, .iaload, 1, (0, 0, 0), 0), (1612, .invokevirtual 174, 3, (159, 5, 0), 0), (1615, .aload_n 2, 1, (0, 0, 0), 0), (1616, .aload_n 0, 1, (0, 0, 0), 0), (1617, .iload 4, 2, (0, 0, 0), 0), (1619, .iconst 1, 1, (0, 0, 0), 0), (1620, .iadd, 1, (0, 0, 0), 0), (1621, .iaload, 1, (0, 0, 0), 0), (1622, .aload_n 0, 1, (0, 0, 0), 0), (1623, .iload 4, 2, (0, 0, 0), 0), (1625, .iconst 2, 1, (0, 0, 0), 0), (1626, .iadd, 1, (0, 0, 0), 0), (1627, .iaload, 1, (0, 0, 0), 0), (1628, .aload_n 0, 1, (0, 0, 0), 0), (1629, .iload 4, 2, (0, 0, 0), 0), (1631, .iconst 3, 1, (0, 0, 0), 0), (1632, .iadd, 1, (0, 0, 0), 0), (1633, .iaload, 1, (0, 0, 0), 0), (1634, .aload_n 0, 1, (0, 0, 0), 0), (1635, .iload 4, 2, (0, 0, 0), 0)]), (1672, [(1637, .iconst 4, 1, (0, 0, 0), 0), (1638, .iadd, 1, (0, 0, 0), 0), (1639, .iaload, 1, (0, 0, 0), 0), (1640, .invokevirtual 177, 3, (300, 5, 0), 0), (1643, .if_icmp .eq 213, 3, (0, 0, 0), 0), (1646, .iconst 0, 1, (0, 0, 0), 0), (1647, .ireturn, 1, (0, 0, 3), 0), (1648, .aload_n 1, 1, (0, 0, 0), 0), (1649, .aload_n 0, 1, (0, 0, 0), 0), (1650, .iload 4, 2, (0, 0, 0), 0), (1652, .iconst 1, 1, (0, 0, 0), 0), (1653, .iadd, 1, (0, 0, 0), 0), (1654, .iaload, 1, (0, 0, 0), 0), (1655, .invokevirtual 178, 3, (160, 2, 0), 0), (1658, .aload_n 2, 1, (0, 0, 0), 0), (1659, .aload_n 0, 1, (0, 0, 0), 0), (1660, .iload 4, 2, (0, 0, 0), 0), (1662, .iconst 1, 1, (0, 0, 0), 0), (1663, .iadd, 1, (0, 0, 0), 0), (1664, .iaload, 1, (0, 0, 0), 0), (1665, .invokevirtual 181, 3, (303, 2, 0), 0), (1668, .if_icmp .eq 188, 3, (0, 0, 0), 0), (1671, .iconst 0, 1, (0, 0, 0), 0), (1672, .ireturn, 1, (0, 0, 3), 0)]), (1705, [(1673, .aload_n 1, 1, (0, 0, 0), 0), (1674, .aload_n 0, 1, (0, 0, 0), 0), (1675, .iload 4, 2, (0, 0, 0), 0), (1677, .iconst 1, 1, (0, 0, 0), 0), (1678, .iadd, 1, (0, 0, 0), 0), (1679, .iaload, 1, (0, 0, 0), 0), (1680, .invokevirtual 182, 3, (161, 2, 0), 0), (1683, .aload_n 2, 1, (0, 0, 0), 0), (1684, .aload_n 0, 1, (0, 0, 0), 0), (1685, .iload 4, 2, (0, 0, 0), 0), (1687, .iconst 1, 1, (0, 0, 0), 0), (1688, .iadd, 1, (0, 0, 0), 0), (1689, .iaload, 1, (0, 0, 0), 0), (1690, .invokevirtual 185, 3, (304, 2, 0), 0), (1693, .if_icmp .eq 163, 3, (0, 0, 0), 0), (1696, .iconst 0, 1, (0, 0, 0), 0), (1697, .ireturn, 1, (0, 0, 3), 0), (1698, .aload_n 1, 1, (0, 0, 0), 0), (1699, .aload_n 0, 1, (0, 0, 0), 0), (1700, .iload 4, 2, (0, 0, 0), 0), (1702, .iconst 1, 1, (0, 0, 0), 0), (1703, .iadd, 1, (0, 0, 0), 0), (1704, .iaload, 1, (0, 0, 0), 0), (1705, .aload_n 0, 1, (0, 0, 0), 0)]), (1737, [(1706, .iload 4, 2, (0, 0, 0), 0), (1708, .iconst 2, 1, (0, 0, 0), 0), (1709, .iadd, 1, (0, 0, 0), 0), (1710, .iaload, 1, (0, 0, 0), 0), (1711, .i2l, 1, (0, 0, 0), 0), (1712, .bipush 32, 2, (0, 0, 0), 0), (1714, .lshl, 1, (0, 0, 0), 0), (1715, .aload_n 0, 1, (0, 0, 0), 0), (1716, .iload 4, 2, (0, 0, 0), 0), (1718, .iconst 3, 1, (0, 0, 0), 0), (1719, .iadd, 1, (0, 0, 0), 0), (1720, .iaload, 1, (0, 0, 0), 0), (1721, .i2l, 1, (0, 0, 0), 0), (1722, .ldc2_w 186, 3, (0, 0, 0), 4294967295), (1725, .land, 1, (0, 0, 0), 0), (1726, .lor, 1, (0, 0, 0), 0), (1727, .invokevirtual 188, 3, (162, 3, 0), 0), (1730, .aload_n 2, 1, (0, 0, 0), 0), (1731, .aload_n 0, 1, (0, 0, 0), 0), (1732, .iload 4, 2, (0, 0, 0), 0), (1734, .iconst 1, 1, (0, 0, 0), 0), (1735, .iadd, 1, (0, 0, 0), 0), (1736, .iaload, 1, (0, 0, 0), 0), (1737, .aload_n 0, 1, (0, 0, 0), 0)]), (1772, [(1738, .iload 4, 2, (0, 0, 0), 0), (1740, .iconst 2, 1, (0, 0, 0), 0), (1741, .iadd, 1, (0, 0, 0), 0), (1742, .iaload, 1, (0, 0, 0), 0), (1743, .i2l, 1, (0, 0, 0), 0), (1744, .bipush 32, 2, (0, 0, 0), 0), (1746, .lshl, 1, (0, 0, 0), 0), (1747, .aload_n 0, 1, (0, 0, 0), 0), (1748, .iload 4, 2, (0, 0, 0), 0), (1750, .iconst 3, 1, (0, 0, 0), 0), (1751, .iadd, 1, (0, 0, 0), 0), (1752, .iaload, 1, (0, 0, 0), 0), (1753, .i2l, 1, (0, 0, 0), 0), (1754, .ldc2_w 186, 3, (0, 0, 0), 4294967295), (1757, .land, 1, (0, 0, 0), 0), (1758, .lor, 1, (0, 0, 0), 0), (1759, .invokevirtual 192, 3, (307, 3, 0), 0), (1762, .if_icmp .eq 94, 3, (0, 0, 0), 0), (1765, .iconst 0, 1, (0, 0, 0), 0), (1766, .ireturn, 1, (0, 0, 3), 0), (1767, .aload_n 1, 1, (0, 0, 0), 0), (1768, .invokevirtual 193, 3, (163, 1, 0), 0), (1771, .aload_n 2, 1, (0, 0, 0), 0), (1772, .invokevirtual 196, 3, (308, 1, 0), 0)]), (1810, [(1775, .if_icmp .eq 81, 3, (0, 0, 0), 0), (1778, .iconst 0, 1, (0, 0, 0), 0), (1779, .ireturn, 1, (0, 0, 3), 0), (1780, .aload_n 1, 1, (0, 0, 0), 0), (1781, .aload_n 0, 1, (0, 0, 0), 0), (1782, .iload 4, 2, (0, 0, 0), 0), (1784, .iconst 1, 1, (0, 0, 0), 0), (1785, .iadd, 1, (0, 0, 0), 0), (1786, .iaload, 1, (0, 0, 0), 0), (1787, .invokevirtual 197, 3, (164, 2, 0), 0), (1790, .aload_n 2, 1, (0, 0, 0), 0), (1791, .aload_n 0, 1, (0, 0, 0), 0), (1792, .iload 4, 2, (0, 0, 0), 0), (1794, .iconst 1, 1, (0, 0, 0), 0), (1795, .iadd, 1, (0, 0, 0), 0), (1796, .iaload, 1, (0, 0, 0), 0), (1797, .invokevirtual 200, 3, (309, 2, 0), 0), (1800, .if_icmp .eq 56, 3, (0, 0, 0), 0), (1803, .iconst 0, 1, (0, 0, 0), 0), (1804, .ireturn, 1, (0, 0, 3), 0), (1805, .aload_n 1, 1, (0, 0, 0), 0), (1806, .invokevirtual 201, 3, (165, 1, 0), 0), (1809, .aload_n 2, 1, (0, 0, 0), 0), (1810, .invokevirtual 204, 3, (310, 1, 0), 0)]), (1848, [(1813, .if_icmp .eq 43, 3, (0, 0, 0), 0), (1816, .iconst 0, 1, (0, 0, 0), 0), (1817, .ireturn, 1, (0, 0, 3), 0), (1818, .aload_n 1, 1, (0, 0, 0), 0), (1819, .invokevirtual 205, 3, (166, 1, 0), 0), (1822, .aload_n 2, 1, (0, 0, 0), 0), (1823, .invokevirtual 208, 3, (311, 1, 0), 0), (1826, .if_icmp .eq 30, 3, (0, 0, 0), 0), (1829, .iconst 0, 1, (0, 0, 0), 0), (1830, .ireturn, 1, (0, 0, 3), 0), (1831, .aload_n 1, 1, (0, 0, 0), 0), (1832, .aload_n 0, 1, (0, 0, 0), 0), (1833, .iload 4, 2, (0, 0, 0), 0), (1835, .iconst 1, 1, (0, 0, 0), 0), (1836, .iadd, 1, (0, 0, 0), 0), (1837, .iaload, 1, (0, 0, 0), 0), (1838, .invokevirtual 209, 3, (167, 2, 0), 0), (1841, .aload_n 2, 1, (0, 0, 0), 0), (1842, .aload_n 0, 1, (0, 0, 0), 0), (1843, .iload 4, 2, (0, 0, 0), 0), (1845, .iconst 1, 1, (0, 0, 0), 0), (1846, .iadd, 1, (0, 0, 0), 0), (1847, .iaload, 1, (0, 0, 0), 0), (1848, .invokevirtual 212, 3, (312, 2, 0), 0)]), (1863, [(1851, .if_icmp .eq 5, 3, (0, 0, 0), 0), (1854, .iconst 0, 1, (0, 0, 0), 0), (1855, .ireturn, 1, (0, 0, 3), 0), (1856, .iinc 4 6, 3, (0, 0, 0), 0), (1859, .goto (-1836), 3, (0, 0, 0), 0), (1862, .iconst 1, 1, (0, 0, 0), 0), (1863, .ireturn, 1, (0, 0, 3), 0)])]
def mc_F_person : List (Nat × List (Nat × Ent)) := [(53, [(0, .aload_n 0, 1, (0, 0, 0), 0), (1, .getfield 19, 3, (10, 1, 1), 1), (4, .iload_n 1, 1, (0, 0, 0), 0), (5, .invokevirtual 130, 3, (30, 2, 0), 0), (8, .ifCond .eq 12, 3, (0, 0, 0), 0), (11, .iload_n 2, 1, (0, 0, 0), 0), (12, .ifCond .lt 8, 3, (0, 0, 0), 0), (15, .iload_n 2, 1, (0, 0, 0), 0), (16, .iconst 4, 1, (0, 0, 0), 0), (17, .if_icmp .le 13, 3, (0, 0, 0), 0), (30, .iload_n 2, 1, (0, 0, 0), 0), (31, .ifCond .ne 12, 3, (0, 0, 0), 0), (34, .aload_n 0, 1, (0, 0, 0), 0), (35, .getfield 47, 3, (10, 5, 1), 5), (38, .iload_n 1, 1, (0, 0, 0), 0), (39, .invokevirtual 140, 3, (69, 2, 0), 0), (42, .ireturn, 1, (0, 0, 1), 0), (43, .iload_n 2, 1, (0, 0, 0), 0), (44, .iconst 1, 1, (0, 0, 0), 0), (45, .if_icmp .ne 12, 3, (0, 0, 0), 0), (48, .aload_n 0, 1, (0, 0, 0), 0), (49, .getfield 47, 3, (10, 5, 1), 5), (52, .iload_n 1, 1, (0, 0, 0), 0), (53, .invokevirtual 143, 3, (70, 2, 0), 0)]), (94, [(56, .ireturn, 1, (0, 0, 1), 0), (57, .iload_n 2, 1, (0, 0, 0), 0), (58, .iconst 2, 1, (0, 0, 0), 0), (59, .if_icmp .ne 26, 3, (0, 0, 0), 0), (62, .aload_n 0, 1, (0, 0, 0), 0), (63, .getfield 19, 3, (10, 1, 1), 1), (66, .iconst 1, 1, (0, 0, 0), 0), (67, .iload_n 1, 1, (0, 0, 0), 0), (68, .iconst 2, 1, (0, 0, 0), 0), (69, .invokevirtual 126, 3, (24, 4, 0), 0), (72, .istore_n 3, 1, (0, 0, 0), 0), (73, .iload_n 3, 1, (0, 0, 0), 0), (74, .bipush 8, 2, (0, 0, 0), 0), (76, .if_icmp .ge 7, 3, (0, 0, 0), 0), (79, .iload_n 3, 1, (0, 0, 0), 0), (80, .goto 4, 3, (0, 0, 0), 0), (83, .iconst (-1), 1, (0, 0, 0), 0), (84, .ireturn, 1, (0, 0, 1), 0), (85, .iload_n 2, 1, (0, 0, 0), 0), (86, .iconst 3, 1, (0, 0, 0), 0), (87, .if_icmp .ne 14, 3, (0, 0, 0), 0), (90, .aload_n 0, 1, (0, 0, 0), 0), (91, .getfield 47, 3, (10, 5, 1), 5), (94, .iload_n 1, 1, (0, 0, 0), 0)]), (109, [(95, .invokevirtual 146, 3, (71, 2, 0), 0), (98, .goto 11, 3, (0, 0, 0), 0), (101, .aload_n 0, 1, (0, 0, 0), 0), (102, .getfield 47, 3, (10, 5, 1), 5), (105, .iload_n 1, 1, (0, 0, 0), 0), (106, .invokevirtual 149, 3, (72, 2, 0), 0), (109, .ireturn, 1, (0, 0, 1), 0)])]
abbrev MRow : Type := (List (Nat × List (Nat × Ent))) × List Nat × (Nat × Nat × Nat × Nat)
def mrow_0 (M : Nat) : MRow := bif Nat.beq M 0 then (mc_Ed_init, [], (1, 1, 0, 1)) else (bif Nat.beq M 1 then (mc_Ed_forget, [], (1, 1, 0, 1)) else (bif Nat.beq M 2 then (mc_Ed_addFound, [], (3, 3, 1, 1)) else (bif Nat.beq M 3 then (mc_Ed_fits, [2], (3, 4, 3, 1)) else (bif Nat.beq M 4 then (mc_Ed_addClaim, [], (5, 5, 1, 1)) else (bif Nat.beq M 5 then (mc_Ed_weigh, [20], (2, 4, 0, 1)) else (bif Nat.beq M 6 then (mc_Ed_couldBeFirst, [15], (2, 3, 3, 1)) else (bif Nat.beq M 7 then (mc_Ed_surelyAhead, [15], (2, 3, 3, 1)) else (bif Nat.beq M 8 then (mc_Ey_init, [], (3, 3, 0, 2)) else (bif Nat.beq M 9 then (mc_Ey_look, [72, 91], (5, 9, 0, 2)) else (bif Nat.beq M 10 then (mc_Ey_weigh, [56], (3, 4, 1, 2)) else (bif Nat.beq M 11 then (mc_Ey_whole, [], (3, 3, 1, 2)) else (bif Nat.beq M 12 then (mc_Ey_delight, [], (3, 4, 1, 2)) else (bif Nat.beq M 13 then (mc_Ha_init, [], (3, 3, 0, 3)) else (bif Nat.beq M 14 then (mc_Ha_begin, [], (3, 3, 0, 3)) else (bif Nat.beq M 15 then (mc_Ha_take, [], (2, 2, 0, 3)) else (([], [], (0, 0, 0, 0))))))))))))))))))
def mrow_1 (M : Nat) : MRow := bif Nat.beq M 16 then (mc_Ha_add, [], (3, 3, 0, 3)) else (bif Nat.beq M 17 then (mc_Ha_bringAlong, [9], (3, 5, 0, 3)) else (bif Nat.beq M 18 then (mc_Mk_init, [], (1, 1, 0, 4)) else (bif Nat.beq M 19 then (mc_Mk_clear, [], (1, 1, 0, 4)) else (bif Nat.beq M 20 then (mc_Mk_takeOver, [], (2, 2, 0, 4)) else (bif Nat.beq M 21 then (mc_Mk_isFull, [], (2, 2, 3, 4)) else (bif Nat.beq M 22 then (mc_Mk_add, [], (2, 2, 0, 4)) else (bif Nat.beq M 23 then (mc_Mk_tellNewest, [], (4, 4, 0, 4)) else (bif Nat.beq M 24 then (mc_Mk_told, [], (4, 4, 1, 4)) else (bif Nat.beq M 25 then (mc_Mk_stands, [], (1, 1, 3, 4)) else (bif Nat.beq M 26 then (mc_Mk_things, [], (1, 1, 1, 4)) else (bif Nat.beq M 27 then (mc_Mk_persons, [], (1, 1, 1, 4)) else (bif Nat.beq M 28 then (mc_Mk_allThings, [], (1, 1, 1, 4)) else (bif Nat.beq M 29 then (mc_Mk_hasThing, [], (2, 2, 3, 4)) else (bif Nat.beq M 30 then (mc_Mk_hasPerson, [], (2, 2, 3, 4)) else (bif Nat.beq M 31 then (mc_Mk_hasBoth, [], (3, 3, 3, 4)) else (([], [], (0, 0, 0, 0))))))))))))))))))
def mrow_2 (M : Nat) : MRow := bif Nat.beq M 32 then (mc_Mk_isWhole, [24], (1, 3, 3, 4)) else (bif Nat.beq M 33 then (mc_Mk_joinsThings, [2], (2, 5, 3, 4)) else (bif Nat.beq M 34 then (mc_Mk_spoilt, [5], (3, 6, 1, 4)) else (bif Nat.beq M 35 then (mc_Mk_harm, [5], (3, 6, 1, 4)) else (bif Nat.beq M 36 then (mc_Mk_cleanRow, [9], (1, 5, 1, 4)) else (bif Nat.beq M 37 then (mc_Mk_lowestHarmless, [2], (2, 3, 1, 4)) else (bif Nat.beq M 38 then (mc_Mk_spoilsFrom, [5], (3, 6, 1, 4)) else (bif Nat.beq M 39 then (mc_Mr_read, [10], (2, 3, 3, 0)) else (bif Nat.beq M 40 then (mc_Mr_readClause, [50], (2, 6, 3, 0)) else (bif Nat.beq M 41 then (mc_Mr_readItem, [], (4, 6, 3, 0)) else (bif Nat.beq M 42 then (mc_Mr_kindOf, [2], (1, 2, 1, 0)) else (bif Nat.beq M 43 then (mc_Mr_itemOf, [2], (2, 3, 1, 0)) else (bif Nat.beq M 44 then (mc_Pa_init, [], (1, 1, 0, 5)) else (bif Nat.beq M 45 then (mc_Pa_keep, [], (2, 2, 0, 5)) else (bif Nat.beq M 46 then (mc_Pa_bring, [], (2, 2, 3, 5)) else (bif Nat.beq M 47 then (mc_Pa_forget, [], (1, 1, 0, 5)) else (([], [], (0, 0, 0, 0))))))))))))))))))
def mrow_3 (M : Nat) : MRow := bif Nat.beq M 48 then (mc_Pl_init, [], (2, 2, 0, 6)) else (bif Nat.beq M 49 then (mc_Pl_has, [], (2, 2, 3, 6)) else (bif Nat.beq M 50 then (mc_Pl_sizeOf, [], (2, 2, 1, 6)) else (bif Nat.beq M 51 then (mc_Pl_told, [], (4, 4, 1, 6)) else (bif Nat.beq M 52 then (mc_Pl_keepSpare, [], (1, 1, 1, 6)) else (bif Nat.beq M 53 then (mc_Pl_readSpare, [22], (1, 2, 3, 6)) else (bif Nat.beq M 54 then (mc_Pl_readStep, [117], (2, 4, 3, 6)) else (bif Nat.beq M 55 then (mc_Pl_sortOf, [], (1, 1, 1, 0)) else (bif Nat.beq M 56 then (mc_Se_init, [], (3, 3, 0, 7)) else (bif Nat.beq M 57 then (mc_Se_findOrders, [16], (4, 6, 0, 7)) else (bif Nat.beq M 58 then (mc_Se_findOrder, [32, 140], (4, 7, 0, 7)) else (bif Nat.beq M 59 then (mc_Se_fewestLeftOut, [17, 39], (1, 5, 1, 7)) else (bif Nat.beq M 60 then (mc_Se_beginMatch, [], (1, 1, 0, 7)) else (bif Nat.beq M 61 then (mc_Se_matchPerson, [2, 21], (2, 7, 0, 7)) else (bif Nat.beq M 62 then (mc_St_init, [], (2, 2, 0, 8)) else (bif Nat.beq M 63 then (mc_St_begin, [10, 63], (1, 3, 0, 8)) else (([], [], (0, 0, 0, 0))))))))))))))))))
def mrow_4 (M : Nat) : MRow := bif Nat.beq M 64 then (mc_St_takeOver, [], (2, 2, 0, 8)) else (bif Nat.beq M 65 then (mc_St_ofPerson, [], (2, 2, 1, 0)) else (bif Nat.beq M 66 then (mc_St_holding, [], (2, 2, 1, 0)) else (bif Nat.beq M 67 then (mc_St_inPledge, [], (2, 2, 1, 0)) else (bif Nat.beq M 68 then (mc_St_today, [], (1, 1, 1, 8)) else (bif Nat.beq M 69 then (mc_St_moneyOf, [], (2, 2, 1, 8)) else (bif Nat.beq M 70 then (mc_St_ageOf, [], (2, 2, 1, 8)) else (bif Nat.beq M 71 then (mc_St_joyBy, [], (2, 2, 1, 8)) else (bif Nat.beq M 72 then (mc_St_hadBy, [], (2, 2, 1, 8)) else (bif Nat.beq M 73 then (mc_St_heldOf, [], (3, 3, 1, 8)) else (bif Nat.beq M 74 then (mc_St_heldBy, [4], (2, 4, 1, 8)) else (bif Nat.beq M 75 then (mc_St_heldByAny, [4], (1, 3, 1, 8)) else (bif Nat.beq M 76 then (mc_St_joyOfAll, [4], (1, 3, 1, 8)) else (bif Nat.beq M 77 then (mc_St_leftOf, [4, 32], (2, 4, 1, 8)) else (bif Nat.beq M 78 then (mc_St_lowestOtherHolder, [2], (3, 4, 1, 8)) else (bif Nat.beq M 79 then (mc_St_mayHave, [], (3, 3, 3, 8)) else (([], [], (0, 0, 0, 0))))))))))))))))))
def mrow_5 (M : Nat) : MRow := bif Nat.beq M 80 then (mc_St_maySell, [], (5, 5, 3, 8)) else (bif Nat.beq M 81 then (mc_St_maySteal, [], (4, 4, 3, 8)) else (bif Nat.beq M 82 then (mc_St_doSell, [], (5, 5, 0, 8)) else (bif Nat.beq M 83 then (mc_St_doSteal, [], (4, 4, 0, 8)) else (bif Nat.beq M 84 then (mc_St_pay, [], (4, 4, 0, 8)) else (bif Nat.beq M 85 then (mc_St_pledgeCount, [], (1, 1, 1, 8)) else (bif Nat.beq M 86 then (mc_St_pledgesFull, [], (1, 1, 3, 8)) else (bif Nat.beq M 87 then (mc_St_hasPledge, [], (2, 2, 3, 8)) else (bif Nat.beq M 88 then (mc_St_ofPledge, [], (3, 3, 1, 8)) else (bif Nat.beq M 89 then (mc_St_doPledge, [], (6, 7, 0, 8)) else (bif Nat.beq M 90 then (mc_St_mayRedeem, [], (2, 2, 3, 8)) else (bif Nat.beq M 91 then (mc_St_doRedeem, [], (2, 3, 0, 8)) else (bif Nat.beq M 92 then (mc_St_handOver, [], (3, 4, 0, 8)) else (bif Nat.beq M 93 then (mc_St_endDay, [12, 58], (1, 2, 0, 8)) else (bif Nat.beq M 94 then (mc_St_dueTo, [5], (3, 5, 1, 8)) else (bif Nat.beq M 95 then (mc_St_gain, [], (4, 5, 0, 8)) else (([], [], (0, 0, 0, 0))))))))))))))))))
def mrow_6 (M : Nat) : MRow := bif Nat.beq M 96 then (mc_St_logLength, [], (1, 1, 1, 8)) else (bif Nat.beq M 97 then (mc_St_ofLog, [], (3, 5, 1, 8)) else (bif Nat.beq M 98 then (mc_Ta_init, [], (1, 1, 0, 9)) else (bif Nat.beq M 99 then (mc_Ta_bytesIn, [4], (1, 3, 1, 0)) else (bif Nat.beq M 100 then (mc_Ta_put, [3], (2, 4, 0, 9)) else (bif Nat.beq M 101 then (mc_Ta_rewind, [], (1, 1, 0, 9)) else (bif Nat.beq M 102 then (mc_Ta_sign, [0, 48], (1, 1, 1, 9)) else (bif Nat.beq M 103 then (mc_Ta_isOver, [], (1, 1, 3, 9)) else (bif Nat.beq M 104 then (mc_Ta_failAt, [], (2, 2, 3, 9)) else (bif Nat.beq M 105 then (mc_Ta_expect, [], (2, 2, 3, 9)) else (bif Nat.beq M 106 then (mc_Ta_digit, [], (1, 2, 1, 9)) else (bif Nat.beq M 107 then (mc_Ta_number, [9, 97, 151], (2, 5, 1, 9)) else (bif Nat.beq M 108 then (mc_Ts_init, [], (2, 2, 0, 10)) else (bif Nat.beq M 109 then (mc_Ts_readSpare, [19], (1, 2, 3, 10)) else (bif Nat.beq M 110 then (mc_Ts_keepSpare, [], (1, 1, 1, 10)) else (bif Nat.beq M 111 then (mc_Ts_emit, [], (2, 2, 0, 10)) else (([], [], (0, 0, 0, 0))))))))))))))))))
def mrow_7 (M : Nat) : MRow := bif Nat.beq M 112 then (mc_Ts_readClause, [46], (1, 2, 3, 10)) else (bif Nat.beq M 113 then (mc_Ts_readConsequence, [], (1, 1, 3, 10)) else (bif Nat.beq M 114 then (mc_Ts_readMoreUnits, [4, 37, 67, 80], (2, 5, 3, 10)) else (bif Nat.beq M 115 then (mc_Ts_readUnit, [31, 45], (3, 5, 3, 10)) else (bif Nat.beq M 116 then (mc_Ts_readNestedUnit, [], (3, 3, 3, 10)) else (bif Nat.beq M 117 then (mc_Ts_isComparison, [], (1, 1, 3, 0)) else (bif Nat.beq M 118 then (mc_Ts_readSum, [14, 49, 73, 99], (2, 6, 3, 10)) else (bif Nat.beq M 119 then (mc_Ts_emitIfAny, [], (2, 2, 0, 10)) else (bif Nat.beq M 120 then (mc_Ts_readAtom, [78], (2, 4, 3, 10)) else (bif Nat.beq M 121 then (mc_Ts_worth, [38], (2, 7, 1, 10)) else (bif Nat.beq M 122 then (mc_Ts_joined, [141], (3, 5, 1, 0)) else (bif Nat.beq M 123 then (mc_F_init, [], (1, 1, 0, 11)) else (bif Nat.beq M 124 then (mc_F_feed, [], (6, 7, 1, 11)) else (bif Nat.beq M 125 then (mc_F_end, [], (2, 2, 3, 11)) else (bif Nat.beq M 126 then (mc_F_fault, [], (2, 2, 1, 11)) else (bif Nat.beq M 127 then (mc_F_text, [], (2, 3, 1, 11)) else (([], [], (0, 0, 0, 0))))))))))))))))))
def mrow_8 (M : Nat) : MRow := bif Nat.beq M 128 then (mc_F_thing, [], (3, 3, 1, 11)) else (bif Nat.beq M 129 then (mc_F_firsts, [], (3, 3, 1, 11)) else (bif Nat.beq M 130 then (mc_F_spoil, [], (3, 3, 1, 11)) else (bif Nat.beq M 131 then (mc_F_coming, [], (3, 3, 1, 11)) else (bif Nat.beq M 132 then (mc_F_taste, [], (2, 2, 3, 11)) else (bif Nat.beq M 133 then (mc_F_theft, [], (2, 2, 3, 11)) else (bif Nat.beq M 134 then (mc_F_joy, [], (4, 5, 1, 11)) else (bif Nat.beq M 135 then (mc_F_have, [], (3, 3, 1, 11)) else (bif Nat.beq M 136 then (mc_F_sell, [], (5, 5, 1, 11)) else (bif Nat.beq M 137 then (mc_F_steal, [], (4, 4, 1, 11)) else (bif Nat.beq M 138 then (mc_F_pledge, [], (6, 6, 1, 11)) else (bif Nat.beq M 139 then (mc_F_pledged, [], (3, 3, 1, 11)) else (bif Nat.beq M 140 then (mc_F_redeem, [], (2, 3, 1, 11)) else (bif Nat.beq M 141 then (mc_F_days, [12], (2, 3, 1, 11)) else (bif Nat.beq M 142 then (mc_F_undo, [], (1, 1, 1, 11)) else (bif Nat.beq M 143 then (mc_F_log, [], (3, 3, 1, 11)) else (([], [], (0, 0, 0, 0))))))))))))))))))
def mrow_9 (M : Nat) : MRow := bif Nat.beq M 144 then (mc_F_step, [], (4, 4, 1, 11)) else (bif Nat.beq M 145 then (mc_F_run, [72, 116], (3, 7, 1, 11)) else (bif Nat.beq M 146 then (mc_F_perform, [37], (2, 5, 1, 11)) else (bif Nat.beq M 147 then (mc_F_order, [], (4, 5, 1, 11)) else (bif Nat.beq M 148 then (mc_F_clean, [], (1, 1, 1, 11)) else (bif Nat.beq M 149 then (mc_F_rings, [], (1, 1, 1, 11)) else (bif Nat.beq M 150 then (mc_F_pairing, [49, 72], (2, 6, 1, 11)) else (bif Nat.beq M 151 then (mc_F_sale, [33], (3, 8, 1, 11)) else (bif Nat.beq M 152 then (mc_F_awaits, [61], (6, 12, 1, 11)) else (bif Nat.beq M 153 then (mc_F_repeats, [], (3, 4, 1, 11)) else (bif Nat.beq M 154 then (mc_F_kept, [], (4, 4, 1, 11)) else (bif Nat.beq M 155 then (mc_F_habit, [42], (4, 8, 1, 11)) else (bif Nat.beq M 156 then (mc_F_found, [], (3, 3, 1, 11)) else (bif Nat.beq M 157 then (mc_F_must, [21], (2, 4, 1, 11)) else (bif Nat.beq M 158 then (mc_F_sure, [16], (1, 3, 1, 11)) else (bif Nat.beq M 159 then (mc_F_claim, [], (5, 5, 1, 11)) else (([], [], (0, 0, 0, 0))))))))))))))))))
def mrow_10 (M : Nat) : MRow := bif Nat.beq M 160 then (mc_F_could, [25], (2, 4, 1, 11)) else (bif Nat.beq M 161 then (mc_F_alone, [23], (2, 3, 1, 11)) else (bif Nat.beq M 162 then (mc_F_years, [18, 41], (3, 6, 1, 11)) else (bif Nat.beq M 163 then (mc_F_richest, [4], (1, 3, 1, 11)) else (bif Nat.beq M 164 then (mc_F_last, [], (2, 2, 1, 11)) else (bif Nat.beq M 165 then (mc_F_image, [], (1, 1, 1, 11)) else (bif Nat.beq M 166 then (mc_F_back, [], (1, 1, 1, 11)) else (bif Nat.beq M 167 then (mc_F_count, [], (2, 2, 1, 11)) else (bif Nat.beq M 168 then (mc_F_isFaultless, [], (2, 2, 3, 11)) else (bif Nat.beq M 169 then (mc_F_openMarket, [], (1, 1, 1, 11)) else (bif Nat.beq M 170 then (mc_F_mayPass, [], (2, 2, 3, 11)) else (bif Nat.beq M 171 then (mc_F_doHave, [47], (4, 5, 1, 11)) else (bif Nat.beq M 172 then (mc_F_mayStep, [], (4, 7, 3, 11)) else (bif Nat.beq M 173 then (mc_F_doStep, [], (4, 7, 0, 11)) else (bif Nat.beq M 174 then (mc_F_joyByHabit, [20], (4, 6, 1, 11)) else (bif Nat.beq M 175 then (mc_F_joyOfDay, [], (3, 4, 1, 11)) else (([], [], (0, 0, 0, 0))))))))))))))))))
def mrow_11 (M : Nat) : MRow := bif Nat.beq M 176 then (mc_F_pick, [46, 113], (3, 9, 1, 11)) else (bif Nat.beq M 177 then (mc_F_liveByDraws, [], (2, 4, 0, 11)) else (bif Nat.beq M 178 then (mc_F_draw, [], (2, 2, 1, 11)) else (bif Nat.beq M 179 then (mc_R_in, [], (3, 3, 3, 0)) else (bif Nat.beq M 180 then (mc_R_has, [], (2, 2, 3, 0)) else (bif Nat.beq M 181 then (mc_R_init, [], (1, 1, 0, 12)) else (bif Nat.beq M 182 then (mc_R_thrown, [], (1, 1, 1, 12)) else (bif Nat.beq M 183 then (mc_R_byteOf, [], (6, 7, 1, 0)) else (bif Nat.beq M 184 then (mc_R_feed, [6, 62], (6, 9, 1, 12)) else (bif Nat.beq M 185 then (mc_R_end, [], (2, 2, 3, 12)) else (bif Nat.beq M 186 then (mc_R_here, [], (1, 1, 1, 12)) else (bif Nat.beq M 187 then (mc_R_look, [0], (1, 1, 1, 12)) else (bif Nat.beq M 188 then (mc_R_bad, [], (1, 1, 0, 12)) else (bif Nat.beq M 189 then (mc_R_isDigit, [], (1, 1, 3, 0)) else (bif Nat.beq M 190 then (mc_R_put, [], (3, 3, 0, 12)) else (bif Nat.beq M 191 then (mc_R_letterOf, [], (1, 1, 1, 0)) else (([], [], (0, 0, 0, 0))))))))))))))))))
def mrow_12 (M : Nat) : MRow := bif Nat.beq M 192 then (mc_R_opens, [], (1, 1, 0, 12)) else (bif Nat.beq M 193 then (mc_R_closes, [], (2, 2, 0, 12)) else (bif Nat.beq M 194 then (mc_R_plainNumber, [4, 48], (1, 3, 1, 12)) else (bif Nat.beq M 195 then (mc_R_atom, [], (1, 2, 0, 12)) else (bif Nat.beq M 196 then (mc_R_term, [21, 33, 59], (1, 2, 0, 12)) else (bif Nat.beq M 197 then (mc_R_sum, [21, 33, 59], (1, 2, 0, 12)) else (bif Nat.beq M 198 then (mc_R_isSign, [], (1, 1, 3, 0)) else (bif Nat.beq M 199 then (mc_R_compare, [16], (1, 2, 0, 12)) else (bif Nat.beq M 200 then (mc_R_unit, [], (1, 2, 0, 12)) else (bif Nat.beq M 201 then (mc_R_goOnAnd, [0], (1, 1, 0, 12)) else (bif Nat.beq M 202 then (mc_R_goOnOr, [0], (1, 1, 0, 12)) else (bif Nat.beq M 203 then (mc_R_condition, [], (1, 1, 0, 12)) else (bif Nat.beq M 204 then (mc_R_clause, [40, 71, 128, 167, 184], (1, 3, 0, 12)) else (bif Nat.beq M 205 then (mc_R_open, [], (2, 2, 0, 12)) else (bif Nat.beq M 206 then (mc_R_atEnd, [], (1, 1, 1, 12)) else (bif Nat.beq M 207 then (mc_R_readLaw, [9], (2, 2, 1, 12)) else (([], [], (0, 0, 0, 0))))))))))))))))))
def mrow_13 (M : Nat) : MRow := bif Nat.beq M 208 then (mc_R_bounded, [], (1, 2, 1, 0)) else (bif Nat.beq M 209 then (mc_R_worked, [144], (3, 5, 1, 0)) else (bif Nat.beq M 210 then (mc_R_workOut, [12, 45], (4, 6, 1, 12)) else (bif Nat.beq M 211 then (mc_R_worthOf, [6], (2, 3, 1, 12)) else (bif Nat.beq M 212 then (mc_R_number, [67], (3, 4, 1, 12)) else (bif Nat.beq M 213 then (mc_R_itemOf, [], (2, 2, 1, 0)) else (bif Nat.beq M 214 then (mc_R_highest, [], (2, 2, 1, 0)) else (bif Nat.beq M 215 then (mc_R_usual, [], (2, 2, 1, 0)) else (bif Nat.beq M 216 then (mc_R_items, [3, 41, 107], (5, 7, 0, 12)) else (bif Nat.beq M 217 then (mc_R_clauseText, [59, 113, 167], (1, 2, 0, 12)) else (bif Nat.beq M 218 then (mc_R_areUnlike, [], (3, 3, 3, 12)) else (bif Nat.beq M 219 then (mc_R_isWhole, [23, 74, 125], (1, 4, 3, 12)) else (bif Nat.beq M 220 then (mc_R_readMarket, [32, 92], (1, 2, 1, 12)) else (bif Nat.beq M 221 then (mc_R_figure, [], (1, 2, 1, 12)) else (bif Nat.beq M 222 then (mc_R_figureIf, [], (1, 1, 1, 12)) else (bif Nat.beq M 223 then (mc_R_stepText, [50, 148], (2, 5, 0, 12)) else (([], [], (0, 0, 0, 0))))))))))))))))))
def mrow_14 (M : Nat) : MRow := bif Nat.beq M 224 then (mc_R_readPlan, [19, 113], (2, 3, 1, 12)) else (bif Nat.beq M 225 then (mc_R_fault, [], (2, 2, 1, 12)) else (bif Nat.beq M 226 then (mc_R_takeMarket, [34, 56, 102, 183, 217, 279], (1, 3, 1, 12)) else (bif Nat.beq M 227 then (mc_R_text, [22, 69], (2, 2, 1, 12)) else (bif Nat.beq M 228 then (mc_R_isThing, [], (2, 2, 3, 12)) else (bif Nat.beq M 229 then (mc_R_isPerson, [], (2, 2, 3, 12)) else (bif Nat.beq M 230 then (mc_R_areTwo, [], (3, 3, 3, 12)) else (bif Nat.beq M 231 then (mc_R_firstsOf, [], (3, 3, 1, 12)) else (bif Nat.beq M 232 then (mc_R_did, [], (3, 3, 3, 12)) else (bif Nat.beq M 233 then (mc_R_thing, [], (3, 3, 1, 12)) else (bif Nat.beq M 234 then (mc_R_person, [23], (3, 3, 1, 12)) else (bif Nat.beq M 235 then (mc_R_firsts, [], (3, 3, 1, 12)) else (bif Nat.beq M 236 then (mc_R_spoil, [], (3, 3, 1, 12)) else (bif Nat.beq M 237 then (mc_R_coming, [], (3, 3, 1, 12)) else (bif Nat.beq M 238 then (mc_R_taste, [], (2, 2, 3, 12)) else (bif Nat.beq M 239 then (mc_R_theft, [], (2, 2, 3, 12)) else (([], [], (0, 0, 0, 0))))))))))))))))))
def mrow_15 (M : Nat) : MRow := bif Nat.beq M 240 then (mc_R_wholeOf, [138], (3, 4, 1, 12)) else (bif Nat.beq M 241 then (mc_R_spoiltBy, [5], (3, 5, 1, 12)) else (bif Nat.beq M 242 then (mc_R_joyOf, [], (3, 3, 1, 12)) else (bif Nat.beq M 243 then (mc_R_joy, [], (4, 4, 1, 12)) else (bif Nat.beq M 244 then (mc_R_keep, [13, 54], (1, 2, 0, 12)) else (bif Nat.beq M 245 then (mc_R_note, [23, 70], (4, 5, 0, 12)) else (bif Nat.beq M 246 then (mc_R_haveFor, [56], (4, 7, 1, 12)) else (bif Nat.beq M 247 then (mc_R_haveNow, [], (3, 3, 1, 12)) else (bif Nat.beq M 248 then (mc_R_canHave, [], (3, 3, 3, 12)) else (bif Nat.beq M 249 then (mc_R_have, [], (3, 3, 1, 12)) else (bif Nat.beq M 250 then (mc_R_canSell, [], (5, 5, 3, 12)) else (bif Nat.beq M 251 then (mc_R_pay, [], (4, 4, 0, 12)) else (bif Nat.beq M 252 then (mc_R_sellNow, [], (5, 5, 0, 12)) else (bif Nat.beq M 253 then (mc_R_sell, [], (5, 5, 1, 12)) else (bif Nat.beq M 254 then (mc_R_canSteal, [], (4, 4, 3, 12)) else (bif Nat.beq M 255 then (mc_R_stealNow, [], (4, 4, 0, 12)) else (([], [], (0, 0, 0, 0))))))))))))))))))
def mrow_16 (M : Nat) : MRow := bif Nat.beq M 256 then (mc_R_steal, [], (4, 4, 1, 12)) else (bif Nat.beq M 257 then (mc_R_pledge, [], (6, 7, 1, 12)) else (bif Nat.beq M 258 then (mc_R_ofPledge, [], (3, 3, 1, 12)) else (bif Nat.beq M 259 then (mc_R_pledged, [], (3, 3, 1, 12)) else (bif Nat.beq M 260 then (mc_R_dropPledge, [6], (2, 3, 0, 12)) else (bif Nat.beq M 261 then (mc_R_redeem, [], (2, 3, 1, 12)) else (bif Nat.beq M 262 then (mc_R_endDay, [13, 54], (1, 2, 0, 12)) else (bif Nat.beq M 263 then (mc_R_areDays, [], (2, 2, 3, 12)) else (bif Nat.beq M 264 then (mc_R_days, [12], (2, 3, 1, 12)) else (bif Nat.beq M 265 then (mc_R_undo, [21], (1, 2, 1, 12)) else (bif Nat.beq M 266 then (mc_R_log, [], (3, 3, 1, 12)) else (bif Nat.beq M 267 then (mc_R_step, [], (4, 4, 1, 12)) else (bif Nat.beq M 268 then (mc_R_canStep, [], (2, 5, 3, 12)) else (bif Nat.beq M 269 then (mc_R_doStep, [], (2, 5, 0, 12)) else (bif Nat.beq M 270 then (mc_R_putAside, [2], (1, 2, 0, 12)) else (bif Nat.beq M 271 then (mc_R_takeBack, [2], (1, 2, 0, 12)) else (([], [], (0, 0, 0, 0))))))))))))))))))
def mrow_17 (M : Nat) : MRow := bif Nat.beq M 272 then (mc_R_joysOfAll, [4], (1, 3, 1, 12)) else (bif Nat.beq M 273 then (mc_R_isPlan, [], (2, 2, 3, 12)) else (bif Nat.beq M 274 then (mc_R_run, [33, 79], (3, 6, 1, 12)) else (bif Nat.beq M 275 then (mc_R_perform, [12], (2, 3, 1, 12)) else (bif Nat.beq M 276 then (mc_R_writeOwn, [2], (3, 4, 0, 12)) else (bif Nat.beq M 277 then (mc_R_readOwn, [2], (3, 4, 0, 12)) else (bif Nat.beq M 278 then (mc_R_tryOrders, [12, 135], (5, 7, 0, 12)) else (bif Nat.beq M 279 then (mc_R_layOrder, [], (3, 5, 0, 12)) else (bif Nat.beq M 280 then (mc_R_order, [], (4, 4, 1, 12)) else (bif Nat.beq M 281 then (mc_R_cleanRow, [7, 27], (2, 7, 1, 12)) else (bif Nat.beq M 282 then (mc_R_mayCome, [3], (4, 5, 3, 12)) else (bif Nat.beq M 283 then (mc_R_clean, [], (1, 1, 1, 12)) else (bif Nat.beq M 284 then (mc_R_rings, [16], (1, 3, 1, 12)) else (bif Nat.beq M 285 then (mc_R_isHeldBySomebody, [2], (2, 3, 3, 12)) else (bif Nat.beq M 286 then (mc_R_tryMatch, [40], (5, 6, 0, 12)) else (bif Nat.beq M 287 then (mc_R_pairing, [22], (2, 4, 1, 12)) else (([], [], (0, 0, 0, 0))))))))))))))))))
def mrow_18 (M : Nat) : MRow := bif Nat.beq M 288 then (mc_R_sale, [24, 68], (3, 6, 1, 12)) else (bif Nat.beq M 289 then (mc_R_awaits, [60, 104], (6, 12, 1, 12)) else (bif Nat.beq M 290 then (mc_R_repeats, [26, 46], (3, 5, 1, 12)) else (bif Nat.beq M 291 then (mc_R_spoilsOf, [5], (3, 6, 1, 12)) else (bif Nat.beq M 292 then (mc_R_chosenBy, [8, 68], (3, 7, 1, 12)) else (bif Nat.beq M 293 then (mc_R_keptBy, [21], (4, 8, 1, 12)) else (bif Nat.beq M 294 then (mc_R_kept, [], (4, 4, 1, 12)) else (bif Nat.beq M 295 then (mc_R_habit, [44], (4, 8, 1, 12)) else (bif Nat.beq M 296 then (mc_R_found, [], (3, 3, 1, 12)) else (bif Nat.beq M 297 then (mc_R_couldHaveHad, [2], (2, 3, 3, 12)) else (bif Nat.beq M 298 then (mc_R_must, [18], (2, 4, 1, 12)) else (bif Nat.beq M 299 then (mc_R_sure, [4], (1, 3, 1, 12)) else (bif Nat.beq M 300 then (mc_R_claim, [], (5, 5, 1, 12)) else (bif Nat.beq M 301 then (mc_R_firstBy, [6, 58], (4, 7, 1, 12)) else (bif Nat.beq M 302 then (mc_R_isFirst, [12, 33, 60], (4, 8, 3, 12)) else (bif Nat.beq M 303 then (mc_R_could, [14], (2, 4, 1, 12)) else (([], [], (0, 0, 0, 0))))))))))))))))))
def mrow_19 (M : Nat) : MRow := bif Nat.beq M 304 then (mc_R_alone, [4], (2, 4, 1, 12)) else (bif Nat.beq M 305 then (mc_R_draw, [], (2, 2, 1, 12)) else (bif Nat.beq M 306 then (mc_R_lucky, [51], (2, 5, 0, 12)) else (bif Nat.beq M 307 then (mc_R_years, [18, 31], (3, 6, 1, 12)) else (bif Nat.beq M 308 then (mc_R_richest, [15], (1, 3, 1, 12)) else (bif Nat.beq M 309 then (mc_R_last, [14, 39], (2, 4, 1, 12)) else (bif Nat.beq M 310 then (mc_R_image, [11], (1, 2, 1, 12)) else (bif Nat.beq M 311 then (mc_R_back, [11], (1, 2, 1, 12)) else (bif Nat.beq M 312 then (mc_R_count, [], (2, 2, 1, 12)) else (bif Nat.beq M 313 then (mc_J_bitCount, [], (1, 1, 1, 0)) else (bif Nat.beq M 314 then (mc_J_max, [], (2, 2, 1, 0)) else (bif Nat.beq M 315 then (mc_J_maxL, [], (2, 4, 2, 0)) else (bif Nat.beq M 316 then (mc_J_min, [], (2, 2, 1, 0)) else (bif Nat.beq M 317 then (mc_J_minL, [], (2, 4, 2, 0)) else (bif Nat.beq M 318 then (mc_J_fill, [5], (2, 4, 0, 0)) else (bif Nat.beq M 319 then (mc_L_law, [23, 236, 309, 334, 359, 384, 421, 489, 526, 563, 600, 625, 650, 699, 736, 797, 846, 919, 956, 981, 1006, 1019, 1056, 1105, 1142, 1167, 1216, 1229, 1242, 1267, 1304, 1377, 1414, 1463, 1512, 1549, 1574, 1587, 1648, 1673, 1698, 1767, 1780, 1805, 1818, 1831], (1, 7, 3, 0)) else (([], [], (0, 0, 0, 0))))))))))))))))))
def mrow_20 (M : Nat) : MRow := bif Nat.beq M 320 then (mc_F_person, [20], (3, 4, 1, 11)) else (([], [], (0, 0, 0, 0)))
def mrow (M : Nat) : MRow := bif Nat.blt M 321 then (bif Nat.blt M 160 then (bif Nat.blt M 80 then (bif Nat.blt M 32 then (bif Nat.blt M 16 then (mrow_0 M) else (mrow_1 M)) else (bif Nat.blt M 48 then (mrow_2 M) else (bif Nat.blt M 64 then (mrow_3 M) else (mrow_4 M)))) else (bif Nat.blt M 112 then (bif Nat.blt M 96 then (mrow_5 M) else (mrow_6 M)) else (bif Nat.blt M 128 then (mrow_7 M) else (bif Nat.blt M 144 then (mrow_8 M) else (mrow_9 M))))) else (bif Nat.blt M 240 then (bif Nat.blt M 192 then (bif Nat.blt M 176 then (mrow_10 M) else (mrow_11 M)) else (bif Nat.blt M 208 then (mrow_12 M) else (bif Nat.blt M 224 then (mrow_13 M) else (mrow_14 M)))) else (bif Nat.blt M 288 then (bif Nat.blt M 256 then (mrow_15 M) else (bif Nat.blt M 272 then (mrow_16 M) else (mrow_17 M))) else (bif Nat.blt M 304 then (mrow_18 M) else (bif Nat.blt M 320 then (mrow_19 M) else (mrow_20 M)))))) else ([], [], (0, 0, 0, 0))
def mcode (M : Nat) : List (Nat × List (Nat × Ent)) := (mrow M).1
def mtb (M : Nat) : Nat × Nat × Nat × Nat := (mrow M).2.2
def memN : List Nat → Nat → Bool
  | [], _ => false
  | x :: r, p => bif Nat.beq x p then true else memN r p
def cuts (M pc : Nat) : Bool := memN (mrow M).2.1 pc
abbrev mEd_init : Nat := 0
abbrev mEd_forget : Nat := 1
abbrev mEd_addFound : Nat := 2
abbrev mEd_fits : Nat := 3
abbrev mEd_addClaim : Nat := 4
abbrev mEd_weigh : Nat := 5
abbrev mEd_couldBeFirst : Nat := 6
abbrev mEd_surelyAhead : Nat := 7
abbrev mEy_init : Nat := 8
abbrev mEy_look : Nat := 9
abbrev mEy_weigh : Nat := 10
abbrev mEy_whole : Nat := 11
abbrev mEy_delight : Nat := 12
abbrev mHa_init : Nat := 13
abbrev mHa_begin : Nat := 14
abbrev mHa_take : Nat := 15
abbrev mHa_add : Nat := 16
abbrev mHa_bringAlong : Nat := 17
abbrev mMk_init : Nat := 18
abbrev mMk_clear : Nat := 19
abbrev mMk_takeOver : Nat := 20
abbrev mMk_isFull : Nat := 21
abbrev mMk_add : Nat := 22
abbrev mMk_tellNewest : Nat := 23
abbrev mMk_told : Nat := 24
abbrev mMk_stands : Nat := 25
abbrev mMk_things : Nat := 26
abbrev mMk_persons : Nat := 27
abbrev mMk_allThings : Nat := 28
abbrev mMk_hasThing : Nat := 29
abbrev mMk_hasPerson : Nat := 30
abbrev mMk_hasBoth : Nat := 31
abbrev mMk_isWhole : Nat := 32
abbrev mMk_joinsThings : Nat := 33
abbrev mMk_spoilt : Nat := 34
abbrev mMk_harm : Nat := 35
abbrev mMk_cleanRow : Nat := 36
abbrev mMk_lowestHarmless : Nat := 37
abbrev mMk_spoilsFrom : Nat := 38
abbrev mMr_read : Nat := 39
abbrev mMr_readClause : Nat := 40
abbrev mMr_readItem : Nat := 41
abbrev mMr_kindOf : Nat := 42
abbrev mMr_itemOf : Nat := 43
abbrev mPa_init : Nat := 44
abbrev mPa_keep : Nat := 45
abbrev mPa_bring : Nat := 46
abbrev mPa_forget : Nat := 47
abbrev mPl_init : Nat := 48
abbrev mPl_has : Nat := 49
abbrev mPl_sizeOf : Nat := 50
abbrev mPl_told : Nat := 51
abbrev mPl_keepSpare : Nat := 52
abbrev mPl_readSpare : Nat := 53
abbrev mPl_readStep : Nat := 54
abbrev mPl_sortOf : Nat := 55
abbrev mSe_init : Nat := 56
abbrev mSe_findOrders : Nat := 57
abbrev mSe_findOrder : Nat := 58
abbrev mSe_fewestLeftOut : Nat := 59
abbrev mSe_beginMatch : Nat := 60
abbrev mSe_matchPerson : Nat := 61
abbrev mSt_init : Nat := 62
abbrev mSt_begin : Nat := 63
abbrev mSt_takeOver : Nat := 64
abbrev mSt_ofPerson : Nat := 65
abbrev mSt_holding : Nat := 66
abbrev mSt_inPledge : Nat := 67
abbrev mSt_today : Nat := 68
abbrev mSt_moneyOf : Nat := 69
abbrev mSt_ageOf : Nat := 70
abbrev mSt_joyBy : Nat := 71
abbrev mSt_hadBy : Nat := 72
abbrev mSt_heldOf : Nat := 73
abbrev mSt_heldBy : Nat := 74
abbrev mSt_heldByAny : Nat := 75
abbrev mSt_joyOfAll : Nat := 76
abbrev mSt_leftOf : Nat := 77
abbrev mSt_lowestOtherHolder : Nat := 78
abbrev mSt_mayHave : Nat := 79
abbrev mSt_maySell : Nat := 80
abbrev mSt_maySteal : Nat := 81
abbrev mSt_doSell : Nat := 82
abbrev mSt_doSteal : Nat := 83
abbrev mSt_pay : Nat := 84
abbrev mSt_pledgeCount : Nat := 85
abbrev mSt_pledgesFull : Nat := 86
abbrev mSt_hasPledge : Nat := 87
abbrev mSt_ofPledge : Nat := 88
abbrev mSt_doPledge : Nat := 89
abbrev mSt_mayRedeem : Nat := 90
abbrev mSt_doRedeem : Nat := 91
abbrev mSt_handOver : Nat := 92
abbrev mSt_endDay : Nat := 93
abbrev mSt_dueTo : Nat := 94
abbrev mSt_gain : Nat := 95
abbrev mSt_logLength : Nat := 96
abbrev mSt_ofLog : Nat := 97
abbrev mTa_init : Nat := 98
abbrev mTa_bytesIn : Nat := 99
abbrev mTa_put : Nat := 100
abbrev mTa_rewind : Nat := 101
abbrev mTa_sign : Nat := 102
abbrev mTa_isOver : Nat := 103
abbrev mTa_failAt : Nat := 104
abbrev mTa_expect : Nat := 105
abbrev mTa_digit : Nat := 106
abbrev mTa_number : Nat := 107
abbrev mTs_init : Nat := 108
abbrev mTs_readSpare : Nat := 109
abbrev mTs_keepSpare : Nat := 110
abbrev mTs_emit : Nat := 111
abbrev mTs_readClause : Nat := 112
abbrev mTs_readConsequence : Nat := 113
abbrev mTs_readMoreUnits : Nat := 114
abbrev mTs_readUnit : Nat := 115
abbrev mTs_readNestedUnit : Nat := 116
abbrev mTs_isComparison : Nat := 117
abbrev mTs_readSum : Nat := 118
abbrev mTs_emitIfAny : Nat := 119
abbrev mTs_readAtom : Nat := 120
abbrev mTs_worth : Nat := 121
abbrev mTs_joined : Nat := 122
abbrev mF_init : Nat := 123
abbrev mF_feed : Nat := 124
abbrev mF_end : Nat := 125
abbrev mF_fault : Nat := 126
abbrev mF_text : Nat := 127
abbrev mF_thing : Nat := 128
abbrev mF_firsts : Nat := 129
abbrev mF_spoil : Nat := 130
abbrev mF_coming : Nat := 131
abbrev mF_taste : Nat := 132
abbrev mF_theft : Nat := 133
abbrev mF_joy : Nat := 134
abbrev mF_have : Nat := 135
abbrev mF_sell : Nat := 136
abbrev mF_steal : Nat := 137
abbrev mF_pledge : Nat := 138
abbrev mF_pledged : Nat := 139
abbrev mF_redeem : Nat := 140
abbrev mF_days : Nat := 141
abbrev mF_undo : Nat := 142
abbrev mF_log : Nat := 143
abbrev mF_step : Nat := 144
abbrev mF_run : Nat := 145
abbrev mF_perform : Nat := 146
abbrev mF_order : Nat := 147
abbrev mF_clean : Nat := 148
abbrev mF_rings : Nat := 149
abbrev mF_pairing : Nat := 150
abbrev mF_sale : Nat := 151
abbrev mF_awaits : Nat := 152
abbrev mF_repeats : Nat := 153
abbrev mF_kept : Nat := 154
abbrev mF_habit : Nat := 155
abbrev mF_found : Nat := 156
abbrev mF_must : Nat := 157
abbrev mF_sure : Nat := 158
abbrev mF_claim : Nat := 159
abbrev mF_could : Nat := 160
abbrev mF_alone : Nat := 161
abbrev mF_years : Nat := 162
abbrev mF_richest : Nat := 163
abbrev mF_last : Nat := 164
abbrev mF_image : Nat := 165
abbrev mF_back : Nat := 166
abbrev mF_count : Nat := 167
abbrev mF_isFaultless : Nat := 168
abbrev mF_openMarket : Nat := 169
abbrev mF_mayPass : Nat := 170
abbrev mF_doHave : Nat := 171
abbrev mF_mayStep : Nat := 172
abbrev mF_doStep : Nat := 173
abbrev mF_joyByHabit : Nat := 174
abbrev mF_joyOfDay : Nat := 175
abbrev mF_pick : Nat := 176
abbrev mF_liveByDraws : Nat := 177
abbrev mF_draw : Nat := 178
abbrev mR_in : Nat := 179
abbrev mR_has : Nat := 180
abbrev mR_init : Nat := 181
abbrev mR_thrown : Nat := 182
abbrev mR_byteOf : Nat := 183
abbrev mR_feed : Nat := 184
abbrev mR_end : Nat := 185
abbrev mR_here : Nat := 186
abbrev mR_look : Nat := 187
abbrev mR_bad : Nat := 188
abbrev mR_isDigit : Nat := 189
abbrev mR_put : Nat := 190
abbrev mR_letterOf : Nat := 191
abbrev mR_opens : Nat := 192
abbrev mR_closes : Nat := 193
abbrev mR_plainNumber : Nat := 194
abbrev mR_atom : Nat := 195
abbrev mR_term : Nat := 196
abbrev mR_sum : Nat := 197
abbrev mR_isSign : Nat := 198
abbrev mR_compare : Nat := 199
abbrev mR_unit : Nat := 200
abbrev mR_goOnAnd : Nat := 201
abbrev mR_goOnOr : Nat := 202
abbrev mR_condition : Nat := 203
abbrev mR_clause : Nat := 204
abbrev mR_open : Nat := 205
abbrev mR_atEnd : Nat := 206
abbrev mR_readLaw : Nat := 207
abbrev mR_bounded : Nat := 208
abbrev mR_worked : Nat := 209
abbrev mR_workOut : Nat := 210
abbrev mR_worthOf : Nat := 211
abbrev mR_number : Nat := 212
abbrev mR_itemOf : Nat := 213
abbrev mR_highest : Nat := 214
abbrev mR_usual : Nat := 215
abbrev mR_items : Nat := 216
abbrev mR_clauseText : Nat := 217
abbrev mR_areUnlike : Nat := 218
abbrev mR_isWhole : Nat := 219
abbrev mR_readMarket : Nat := 220
abbrev mR_figure : Nat := 221
abbrev mR_figureIf : Nat := 222
abbrev mR_stepText : Nat := 223
abbrev mR_readPlan : Nat := 224
abbrev mR_fault : Nat := 225
abbrev mR_takeMarket : Nat := 226
abbrev mR_text : Nat := 227
abbrev mR_isThing : Nat := 228
abbrev mR_isPerson : Nat := 229
abbrev mR_areTwo : Nat := 230
abbrev mR_firstsOf : Nat := 231
abbrev mR_did : Nat := 232
abbrev mR_thing : Nat := 233
abbrev mR_person : Nat := 234
abbrev mR_firsts : Nat := 235
abbrev mR_spoil : Nat := 236
abbrev mR_coming : Nat := 237
abbrev mR_taste : Nat := 238
abbrev mR_theft : Nat := 239
abbrev mR_wholeOf : Nat := 240
abbrev mR_spoiltBy : Nat := 241
abbrev mR_joyOf : Nat := 242
abbrev mR_joy : Nat := 243
abbrev mR_keep : Nat := 244
abbrev mR_note : Nat := 245
abbrev mR_haveFor : Nat := 246
abbrev mR_haveNow : Nat := 247
abbrev mR_canHave : Nat := 248
abbrev mR_have : Nat := 249
abbrev mR_canSell : Nat := 250
abbrev mR_pay : Nat := 251
abbrev mR_sellNow : Nat := 252
abbrev mR_sell : Nat := 253
abbrev mR_canSteal : Nat := 254
abbrev mR_stealNow : Nat := 255
abbrev mR_steal : Nat := 256
abbrev mR_pledge : Nat := 257
abbrev mR_ofPledge : Nat := 258
abbrev mR_pledged : Nat := 259
abbrev mR_dropPledge : Nat := 260
abbrev mR_redeem : Nat := 261
abbrev mR_endDay : Nat := 262
abbrev mR_areDays : Nat := 263
abbrev mR_days : Nat := 264
abbrev mR_undo : Nat := 265
abbrev mR_log : Nat := 266
abbrev mR_step : Nat := 267
abbrev mR_canStep : Nat := 268
abbrev mR_doStep : Nat := 269
abbrev mR_putAside : Nat := 270
abbrev mR_takeBack : Nat := 271
abbrev mR_joysOfAll : Nat := 272
abbrev mR_isPlan : Nat := 273
abbrev mR_run : Nat := 274
abbrev mR_perform : Nat := 275
abbrev mR_writeOwn : Nat := 276
abbrev mR_readOwn : Nat := 277
abbrev mR_tryOrders : Nat := 278
abbrev mR_layOrder : Nat := 279
abbrev mR_order : Nat := 280
abbrev mR_cleanRow : Nat := 281
abbrev mR_mayCome : Nat := 282
abbrev mR_clean : Nat := 283
abbrev mR_rings : Nat := 284
abbrev mR_isHeldBySomebody : Nat := 285
abbrev mR_tryMatch : Nat := 286
abbrev mR_pairing : Nat := 287
abbrev mR_sale : Nat := 288
abbrev mR_awaits : Nat := 289
abbrev mR_repeats : Nat := 290
abbrev mR_spoilsOf : Nat := 291
abbrev mR_chosenBy : Nat := 292
abbrev mR_keptBy : Nat := 293
abbrev mR_kept : Nat := 294
abbrev mR_habit : Nat := 295
abbrev mR_found : Nat := 296
abbrev mR_couldHaveHad : Nat := 297
abbrev mR_must : Nat := 298
abbrev mR_sure : Nat := 299
abbrev mR_claim : Nat := 300
abbrev mR_firstBy : Nat := 301
abbrev mR_isFirst : Nat := 302
abbrev mR_could : Nat := 303
abbrev mR_alone : Nat := 304
abbrev mR_draw : Nat := 305
abbrev mR_lucky : Nat := 306
abbrev mR_years : Nat := 307
abbrev mR_richest : Nat := 308
abbrev mR_last : Nat := 309
abbrev mR_image : Nat := 310
abbrev mR_back : Nat := 311
abbrev mR_count : Nat := 312
abbrev mJ_bitCount : Nat := 313
abbrev mJ_max : Nat := 314
abbrev mJ_maxL : Nat := 315
abbrev mJ_min : Nat := 316
abbrev mJ_minL : Nat := 317
abbrev mJ_fill : Nat := 318
abbrev mL_law : Nat := 319
abbrev mF_person : Nat := 320
end
section
-- ===== PART A: goes FIRST, ahead of the names: the tables' words, and 'selects' of the private methods out of them =====
/-- a private method of a class that the tables say can be made, by its rows of tables_1 -/
def lw_okq (q : MethodName × Nat) : Prop := (q.1.cls ≠ "java/lang/invoke/MethodHandle" ∧ q.1.cls ≠ "java/lang/invoke/VarHandle") ∧ Cond.instantiable q.1.cls q.2 ∈ tables_1 ∧ Cond.privateMethod q.1 ∈ tables_1 ∧ Cond.instanceMethod q.1 ∈ tables_1
theorem lw_p0 : lw_okq (⟨"FirstTimes", "isFaultless", "(I)Z"⟩, 16) := ⟨⟨by decide +kernel, by decide +kernel⟩, List.mem_of_getElem? (i := 23) (by decide +kernel), List.mem_of_getElem? (i := 348) (by decide +kernel), List.mem_of_getElem? (i := 349) (by decide +kernel)⟩
theorem lw_p1 : lw_okq (⟨"FirstTimes$Market", "joinsThings", "(I)Z"⟩, 2) := ⟨⟨by decide +kernel, by decide +kernel⟩, List.mem_of_getElem? (i := 58) (by decide +kernel), List.mem_of_getElem? (i := 437) (by decide +kernel), List.mem_of_getElem? (i := 438) (by decide +kernel)⟩
theorem lw_p2 : lw_okq (⟨"FirstTimes$Tastes", "readClause", "()Z"⟩, 6) := ⟨⟨by decide +kernel, by decide +kernel⟩, List.mem_of_getElem? (i := 74) (by decide +kernel), List.mem_of_getElem? (i := 450) (by decide +kernel), List.mem_of_getElem? (i := 451) (by decide +kernel)⟩
theorem lw_p3 : lw_okq (⟨"FirstTimes$Tastes", "readUnit", "(IZ)Z"⟩, 6) := ⟨⟨by decide +kernel, by decide +kernel⟩, List.mem_of_getElem? (i := 74) (by decide +kernel), List.mem_of_getElem? (i := 456) (by decide +kernel), List.mem_of_getElem? (i := 457) (by decide +kernel)⟩
theorem lw_p4 : lw_okq (⟨"FirstTimes$Tastes", "readNestedUnit", "(II)Z"⟩, 6) := ⟨⟨by decide +kernel, by decide +kernel⟩, List.mem_of_getElem? (i := 74) (by decide +kernel), List.mem_of_getElem? (i := 460) (by decide +kernel), List.mem_of_getElem? (i := 461) (by decide +kernel)⟩
theorem lw_p5 : lw_okq (⟨"FirstTimes$Tastes", "readMoreUnits", "(I)Z"⟩, 6) := ⟨⟨by decide +kernel, by decide +kernel⟩, List.mem_of_getElem? (i := 74) (by decide +kernel), List.mem_of_getElem? (i := 465) (by decide +kernel), List.mem_of_getElem? (i := 466) (by decide +kernel)⟩
theorem lw_p6 : lw_okq (⟨"FirstTimes$Tastes", "emit", "(I)V"⟩, 6) := ⟨⟨by decide +kernel, by decide +kernel⟩, List.mem_of_getElem? (i := 74) (by decide +kernel), List.mem_of_getElem? (i := 469) (by decide +kernel), List.mem_of_getElem? (i := 470) (by decide +kernel)⟩
theorem lw_p7 : lw_okq (⟨"FirstTimes$Tastes", "readSum", "(I)Z"⟩, 6) := ⟨⟨by decide +kernel, by decide +kernel⟩, List.mem_of_getElem? (i := 74) (by decide +kernel), List.mem_of_getElem? (i := 473) (by decide +kernel), List.mem_of_getElem? (i := 474) (by decide +kernel)⟩
theorem lw_p8 : lw_okq (⟨"FirstTimes$Tastes", "readAtom", "(I)Z"⟩, 6) := ⟨⟨by decide +kernel, by decide +kernel⟩, List.mem_of_getElem? (i := 74) (by decide +kernel), List.mem_of_getElem? (i := 477) (by decide +kernel), List.mem_of_getElem? (i := 478) (by decide +kernel)⟩
theorem lw_p9 : lw_okq (⟨"FirstTimes$Tastes", "emitIfAny", "(I)V"⟩, 6) := ⟨⟨by decide +kernel, by decide +kernel⟩, List.mem_of_getElem? (i := 74) (by decide +kernel), List.mem_of_getElem? (i := 484) (by decide +kernel), List.mem_of_getElem? (i := 485) (by decide +kernel)⟩
theorem lw_p10 : lw_okq (⟨"FirstTimes$Tastes", "readConsequence", "()Z"⟩, 6) := ⟨⟨by decide +kernel, by decide +kernel⟩, List.mem_of_getElem? (i := 74) (by decide +kernel), List.mem_of_getElem? (i := 491) (by decide +kernel), List.mem_of_getElem? (i := 492) (by decide +kernel)⟩
theorem lw_p11 : lw_okq (⟨"FirstTimes$Plans", "readStep", "(I)Z"⟩, 4) := ⟨⟨by decide +kernel, by decide +kernel⟩, List.mem_of_getElem? (i := 104) (by decide +kernel), List.mem_of_getElem? (i := 502) (by decide +kernel), List.mem_of_getElem? (i := 503) (by decide +kernel)⟩
theorem lw_p12 : lw_okq (⟨"FirstTimes", "openMarket", "()I"⟩, 16) := ⟨⟨by decide +kernel, by decide +kernel⟩, List.mem_of_getElem? (i := 23) (by decide +kernel), List.mem_of_getElem? (i := 522) (by decide +kernel), List.mem_of_getElem? (i := 523) (by decide +kernel)⟩
theorem lw_p13 : lw_okq (⟨"FirstTimes$Eye", "weigh", "(II)I"⟩, 4) := ⟨⟨by decide +kernel, by decide +kernel⟩, List.mem_of_getElem? (i := 156) (by decide +kernel), List.mem_of_getElem? (i := 644) (by decide +kernel), List.mem_of_getElem? (i := 645) (by decide +kernel)⟩
theorem lw_p14 : lw_okq (⟨"FirstTimes", "doHave", "(LFirstTimes$State;II)I"⟩, 16) := ⟨⟨by decide +kernel, by decide +kernel⟩, List.mem_of_getElem? (i := 23) (by decide +kernel), List.mem_of_getElem? (i := 692) (by decide +kernel), List.mem_of_getElem? (i := 693) (by decide +kernel)⟩
theorem lw_p15 : lw_okq (⟨"FirstTimes$Having", "add", "(II)V"⟩, 8) := ⟨⟨by decide +kernel, by decide +kernel⟩, List.mem_of_getElem? (i := 175) (by decide +kernel), List.mem_of_getElem? (i := 709) (by decide +kernel), List.mem_of_getElem? (i := 710) (by decide +kernel)⟩
def lw_privs_1 : List (MethodName × Nat) := [(⟨"FirstTimes", "isFaultless", "(I)Z"⟩, 16), (⟨"FirstTimes$Market", "joinsThings", "(I)Z"⟩, 2), (⟨"FirstTimes$Tastes", "readClause", "()Z"⟩, 6), (⟨"FirstTimes$Tastes", "readUnit", "(IZ)Z"⟩, 6), (⟨"FirstTimes$Tastes", "readNestedUnit", "(II)Z"⟩, 6), (⟨"FirstTimes$Tastes", "readMoreUnits", "(I)Z"⟩, 6), (⟨"FirstTimes$Tastes", "emit", "(I)V"⟩, 6), (⟨"FirstTimes$Tastes", "readSum", "(I)Z"⟩, 6), (⟨"FirstTimes$Tastes", "readAtom", "(I)Z"⟩, 6), (⟨"FirstTimes$Tastes", "emitIfAny", "(I)V"⟩, 6), (⟨"FirstTimes$Tastes", "readConsequence", "()Z"⟩, 6), (⟨"FirstTimes$Plans", "readStep", "(I)Z"⟩, 4), (⟨"FirstTimes", "openMarket", "()I"⟩, 16), (⟨"FirstTimes$Eye", "weigh", "(II)I"⟩, 4), (⟨"FirstTimes", "doHave", "(LFirstTimes$State;II)I"⟩, 16), (⟨"FirstTimes$Having", "add", "(II)V"⟩, 8)]
theorem lw_r1 : ∀ q ∈ lw_privs_1, lw_okq q := List.forall_mem_cons.mpr ⟨lw_p0, List.forall_mem_cons.mpr ⟨lw_p1, List.forall_mem_cons.mpr ⟨lw_p2, List.forall_mem_cons.mpr ⟨lw_p3, List.forall_mem_cons.mpr ⟨lw_p4, List.forall_mem_cons.mpr ⟨lw_p5, List.forall_mem_cons.mpr ⟨lw_p6, List.forall_mem_cons.mpr ⟨lw_p7, List.forall_mem_cons.mpr ⟨lw_p8, List.forall_mem_cons.mpr ⟨lw_p9, List.forall_mem_cons.mpr ⟨lw_p10, List.forall_mem_cons.mpr ⟨lw_p11, List.forall_mem_cons.mpr ⟨lw_p12, List.forall_mem_cons.mpr ⟨lw_p13, List.forall_mem_cons.mpr ⟨lw_p14, List.forall_mem_cons.mpr ⟨lw_p15, fun _ h => absurd h List.not_mem_nil⟩⟩⟩⟩⟩⟩⟩⟩⟩⟩⟩⟩⟩⟩⟩⟩
theorem lw_p16 : lw_okq (⟨"FirstTimes$Having", "bringAlong", "(II)V"⟩, 8) := ⟨⟨by decide +kernel, by decide +kernel⟩, List.mem_of_getElem? (i := 175) (by decide +kernel), List.mem_of_getElem? (i := 713) (by decide +kernel), List.mem_of_getElem? (i := 714) (by decide +kernel)⟩
theorem lw_p17 : lw_okq (⟨"FirstTimes$State", "pay", "(III)V"⟩, 2) := ⟨⟨by decide +kernel, by decide +kernel⟩, List.mem_of_getElem? (i := 125) (by decide +kernel), List.mem_of_getElem? (i := 744) (by decide +kernel), List.mem_of_getElem? (i := 745) (by decide +kernel)⟩
theorem lw_p18 : lw_okq (⟨"FirstTimes$State", "handOver", "(II)V"⟩, 2) := ⟨⟨by decide +kernel, by decide +kernel⟩, List.mem_of_getElem? (i := 125) (by decide +kernel), List.mem_of_getElem? (i := 808) (by decide +kernel), List.mem_of_getElem? (i := 809) (by decide +kernel)⟩
theorem lw_p19 : lw_okq (⟨"FirstTimes", "mayPass", "(I)Z"⟩, 16) := ⟨⟨by decide +kernel, by decide +kernel⟩, List.mem_of_getElem? (i := 23) (by decide +kernel), List.mem_of_getElem? (i := 816) (by decide +kernel), List.mem_of_getElem? (i := 817) (by decide +kernel)⟩
theorem lw_p20 : lw_okq (⟨"FirstTimes", "mayStep", "(LFirstTimes$State;II)Z"⟩, 16) := ⟨⟨by decide +kernel, by decide +kernel⟩, List.mem_of_getElem? (i := 23) (by decide +kernel), List.mem_of_getElem? (i := 882) (by decide +kernel), List.mem_of_getElem? (i := 883) (by decide +kernel)⟩
theorem lw_p21 : lw_okq (⟨"FirstTimes", "doStep", "(LFirstTimes$State;II)V"⟩, 16) := ⟨⟨by decide +kernel, by decide +kernel⟩, List.mem_of_getElem? (i := 23) (by decide +kernel), List.mem_of_getElem? (i := 886) (by decide +kernel), List.mem_of_getElem? (i := 887) (by decide +kernel)⟩
theorem lw_p22 : lw_okq (⟨"FirstTimes$Sets", "findOrder", "(III)V"⟩, 6) := ⟨⟨by decide +kernel, by decide +kernel⟩, List.mem_of_getElem? (i := 212) (by decide +kernel), List.mem_of_getElem? (i := 908) (by decide +kernel), List.mem_of_getElem? (i := 909) (by decide +kernel)⟩
theorem lw_p23 : lw_okq (⟨"FirstTimes$Market", "lowestHarmless", "(I)I"⟩, 2) := ⟨⟨by decide +kernel, by decide +kernel⟩, List.mem_of_getElem? (i := 58) (by decide +kernel), List.mem_of_getElem? (i := 927) (by decide +kernel), List.mem_of_getElem? (i := 928) (by decide +kernel)⟩
theorem lw_p24 : lw_okq (⟨"FirstTimes", "joyByHabit", "(III)I"⟩, 16) := ⟨⟨by decide +kernel, by decide +kernel⟩, List.mem_of_getElem? (i := 23) (by decide +kernel), List.mem_of_getElem? (i := 992) (by decide +kernel), List.mem_of_getElem? (i := 993) (by decide +kernel)⟩
theorem lw_p25 : lw_okq (⟨"FirstTimes", "joyOfDay", "(II)I"⟩, 16) := ⟨⟨by decide +kernel, by decide +kernel⟩, List.mem_of_getElem? (i := 23) (by decide +kernel), List.mem_of_getElem? (i := 996) (by decide +kernel), List.mem_of_getElem? (i := 997) (by decide +kernel)⟩
theorem lw_p26 : lw_okq (⟨"FirstTimes", "pick", "(II)I"⟩, 16) := ⟨⟨by decide +kernel, by decide +kernel⟩, List.mem_of_getElem? (i := 23) (by decide +kernel), List.mem_of_getElem? (i := 1000) (by decide +kernel), List.mem_of_getElem? (i := 1001) (by decide +kernel)⟩
theorem lw_p27 : lw_okq (⟨"FirstTimes", "liveByDraws", "(I)V"⟩, 16) := ⟨⟨by decide +kernel, by decide +kernel⟩, List.mem_of_getElem? (i := 23) (by decide +kernel), List.mem_of_getElem? (i := 1066) (by decide +kernel), List.mem_of_getElem? (i := 1067) (by decide +kernel)⟩
theorem lw_p28 : lw_okq (⟨"FirstTimes", "draw", "(I)I"⟩, 16) := ⟨⟨by decide +kernel, by decide +kernel⟩, List.mem_of_getElem? (i := 23) (by decide +kernel), List.mem_of_getElem? (i := 1070) (by decide +kernel), List.mem_of_getElem? (i := 1071) (by decide +kernel)⟩
theorem lw_p29 : lw_okq (⟨"java/lang/Throwable", "fillInStackTrace", "(I)Ljava/lang/Throwable;"⟩, 6) := ⟨⟨by decide +kernel, by decide +kernel⟩, List.mem_of_getElem? (i := 1150) (by decide +kernel), List.mem_of_getElem? (i := 1148) (by decide +kernel), List.mem_of_getElem? (i := 1149) (by decide +kernel)⟩
theorem lw_p30 : lw_okq (⟨"FirstTimesModel", "readMarket", "()I"⟩, 64) := ⟨⟨by decide +kernel, by decide +kernel⟩, List.mem_of_getElem? (i := 1182) (by decide +kernel), List.mem_of_getElem? (i := 1400) (by decide +kernel), List.mem_of_getElem? (i := 1401) (by decide +kernel)⟩
theorem lw_p31 : lw_okq (⟨"FirstTimesModel", "clauseText", "()V"⟩, 64) := ⟨⟨by decide +kernel, by decide +kernel⟩, List.mem_of_getElem? (i := 1182) (by decide +kernel), List.mem_of_getElem? (i := 1404) (by decide +kernel), List.mem_of_getElem? (i := 1405) (by decide +kernel)⟩
def lw_privs_2 : List (MethodName × Nat) := [(⟨"FirstTimes$Having", "bringAlong", "(II)V"⟩, 8), (⟨"FirstTimes$State", "pay", "(III)V"⟩, 2), (⟨"FirstTimes$State", "handOver", "(II)V"⟩, 2), (⟨"FirstTimes", "mayPass", "(I)Z"⟩, 16), (⟨"FirstTimes", "mayStep", "(LFirstTimes$State;II)Z"⟩, 16), (⟨"FirstTimes", "doStep", "(LFirstTimes$State;II)V"⟩, 16), (⟨"FirstTimes$Sets", "findOrder", "(III)V"⟩, 6), (⟨"FirstTimes$Market", "lowestHarmless", "(I)I"⟩, 2), (⟨"FirstTimes", "joyByHabit", "(III)I"⟩, 16), (⟨"FirstTimes", "joyOfDay", "(II)I"⟩, 16), (⟨"FirstTimes", "pick", "(II)I"⟩, 16), (⟨"FirstTimes", "liveByDraws", "(I)V"⟩, 16), (⟨"FirstTimes", "draw", "(I)I"⟩, 16), (⟨"java/lang/Throwable", "fillInStackTrace", "(I)Ljava/lang/Throwable;"⟩, 6), (⟨"FirstTimesModel", "readMarket", "()I"⟩, 64), (⟨"FirstTimesModel", "clauseText", "()V"⟩, 64)]
theorem lw_r2 : ∀ q ∈ lw_privs_2, lw_okq q := List.forall_mem_cons.mpr ⟨lw_p16, List.forall_mem_cons.mpr ⟨lw_p17, List.forall_mem_cons.mpr ⟨lw_p18, List.forall_mem_cons.mpr ⟨lw_p19, List.forall_mem_cons.mpr ⟨lw_p20, List.forall_mem_cons.mpr ⟨lw_p21, List.forall_mem_cons.mpr ⟨lw_p22, List.forall_mem_cons.mpr ⟨lw_p23, List.forall_mem_cons.mpr ⟨lw_p24, List.forall_mem_cons.mpr ⟨lw_p25, List.forall_mem_cons.mpr ⟨lw_p26, List.forall_mem_cons.mpr ⟨lw_p27, List.forall_mem_cons.mpr ⟨lw_p28, List.forall_mem_cons.mpr ⟨lw_p29, List.forall_mem_cons.mpr ⟨lw_p30, List.forall_mem_cons.mpr ⟨lw_p31, fun _ h => absurd h List.not_mem_nil⟩⟩⟩⟩⟩⟩⟩⟩⟩⟩⟩⟩⟩⟩⟩⟩
theorem lw_p32 : lw_okq (⟨"FirstTimesModel", "look", "()I"⟩, 64) := ⟨⟨by decide +kernel, by decide +kernel⟩, List.mem_of_getElem? (i := 1182) (by decide +kernel), List.mem_of_getElem? (i := 1408) (by decide +kernel), List.mem_of_getElem? (i := 1409) (by decide +kernel)⟩
theorem lw_p33 : lw_okq (⟨"FirstTimesModel", "here", "()I"⟩, 64) := ⟨⟨by decide +kernel, by decide +kernel⟩, List.mem_of_getElem? (i := 1182) (by decide +kernel), List.mem_of_getElem? (i := 1412) (by decide +kernel), List.mem_of_getElem? (i := 1413) (by decide +kernel)⟩
theorem lw_p34 : lw_okq (⟨"FirstTimesModel", "items", "(I[III)V"⟩, 64) := ⟨⟨by decide +kernel, by decide +kernel⟩, List.mem_of_getElem? (i := 1182) (by decide +kernel), List.mem_of_getElem? (i := 1416) (by decide +kernel), List.mem_of_getElem? (i := 1417) (by decide +kernel)⟩
theorem lw_p35 : lw_okq (⟨"FirstTimesModel", "number", "(II)I"⟩, 64) := ⟨⟨by decide +kernel, by decide +kernel⟩, List.mem_of_getElem? (i := 1182) (by decide +kernel), List.mem_of_getElem? (i := 1432) (by decide +kernel), List.mem_of_getElem? (i := 1433) (by decide +kernel)⟩
theorem lw_p36 : lw_okq (⟨"FirstTimesModel", "bad", "()V"⟩, 64) := ⟨⟨by decide +kernel, by decide +kernel⟩, List.mem_of_getElem? (i := 1182) (by decide +kernel), List.mem_of_getElem? (i := 1439) (by decide +kernel), List.mem_of_getElem? (i := 1440) (by decide +kernel)⟩
theorem lw_p37 : lw_okq (⟨"FirstTimesModel", "isWhole", "()Z"⟩, 64) := ⟨⟨by decide +kernel, by decide +kernel⟩, List.mem_of_getElem? (i := 1182) (by decide +kernel), List.mem_of_getElem? (i := 1446) (by decide +kernel), List.mem_of_getElem? (i := 1447) (by decide +kernel)⟩
theorem lw_p38 : lw_okq (⟨"FirstTimesModel", "areUnlike", "(II)Z"⟩, 64) := ⟨⟨by decide +kernel, by decide +kernel⟩, List.mem_of_getElem? (i := 1182) (by decide +kernel), List.mem_of_getElem? (i := 1450) (by decide +kernel), List.mem_of_getElem? (i := 1451) (by decide +kernel)⟩
theorem lw_p39 : lw_okq (⟨"FirstTimesModel", "readLaw", "(I)I"⟩, 64) := ⟨⟨by decide +kernel, by decide +kernel⟩, List.mem_of_getElem? (i := 1182) (by decide +kernel), List.mem_of_getElem? (i := 1454) (by decide +kernel), List.mem_of_getElem? (i := 1455) (by decide +kernel)⟩
theorem lw_p40 : lw_okq (⟨"FirstTimesModel", "open", "(I)V"⟩, 64) := ⟨⟨by decide +kernel, by decide +kernel⟩, List.mem_of_getElem? (i := 1182) (by decide +kernel), List.mem_of_getElem? (i := 1458) (by decide +kernel), List.mem_of_getElem? (i := 1459) (by decide +kernel)⟩
theorem lw_p41 : lw_okq (⟨"FirstTimesModel", "clause", "()V"⟩, 64) := ⟨⟨by decide +kernel, by decide +kernel⟩, List.mem_of_getElem? (i := 1182) (by decide +kernel), List.mem_of_getElem? (i := 1462) (by decide +kernel), List.mem_of_getElem? (i := 1463) (by decide +kernel)⟩
theorem lw_p42 : lw_okq (⟨"FirstTimesModel", "condition", "()V"⟩, 64) := ⟨⟨by decide +kernel, by decide +kernel⟩, List.mem_of_getElem? (i := 1182) (by decide +kernel), List.mem_of_getElem? (i := 1466) (by decide +kernel), List.mem_of_getElem? (i := 1467) (by decide +kernel)⟩
theorem lw_p43 : lw_okq (⟨"FirstTimesModel", "unit", "()V"⟩, 64) := ⟨⟨by decide +kernel, by decide +kernel⟩, List.mem_of_getElem? (i := 1182) (by decide +kernel), List.mem_of_getElem? (i := 1470) (by decide +kernel), List.mem_of_getElem? (i := 1471) (by decide +kernel)⟩
theorem lw_p44 : lw_okq (⟨"FirstTimesModel", "opens", "()V"⟩, 64) := ⟨⟨by decide +kernel, by decide +kernel⟩, List.mem_of_getElem? (i := 1182) (by decide +kernel), List.mem_of_getElem? (i := 1474) (by decide +kernel), List.mem_of_getElem? (i := 1475) (by decide +kernel)⟩
theorem lw_p45 : lw_okq (⟨"FirstTimesModel", "put", "(II)V"⟩, 64) := ⟨⟨by decide +kernel, by decide +kernel⟩, List.mem_of_getElem? (i := 1182) (by decide +kernel), List.mem_of_getElem? (i := 1478) (by decide +kernel), List.mem_of_getElem? (i := 1479) (by decide +kernel)⟩
theorem lw_p46 : lw_okq (⟨"FirstTimesModel", "closes", "(I)V"⟩, 64) := ⟨⟨by decide +kernel, by decide +kernel⟩, List.mem_of_getElem? (i := 1182) (by decide +kernel), List.mem_of_getElem? (i := 1482) (by decide +kernel), List.mem_of_getElem? (i := 1483) (by decide +kernel)⟩
theorem lw_p47 : lw_okq (⟨"FirstTimesModel", "sum", "()V"⟩, 64) := ⟨⟨by decide +kernel, by decide +kernel⟩, List.mem_of_getElem? (i := 1182) (by decide +kernel), List.mem_of_getElem? (i := 1486) (by decide +kernel), List.mem_of_getElem? (i := 1487) (by decide +kernel)⟩
def lw_privs_3 : List (MethodName × Nat) := [(⟨"FirstTimesModel", "look", "()I"⟩, 64), (⟨"FirstTimesModel", "here", "()I"⟩, 64), (⟨"FirstTimesModel", "items", "(I[III)V"⟩, 64), (⟨"FirstTimesModel", "number", "(II)I"⟩, 64), (⟨"FirstTimesModel", "bad", "()V"⟩, 64), (⟨"FirstTimesModel", "isWhole", "()Z"⟩, 64), (⟨"FirstTimesModel", "areUnlike", "(II)Z"⟩, 64), (⟨"FirstTimesModel", "readLaw", "(I)I"⟩, 64), (⟨"FirstTimesModel", "open", "(I)V"⟩, 64), (⟨"FirstTimesModel", "clause", "()V"⟩, 64), (⟨"FirstTimesModel", "condition", "()V"⟩, 64), (⟨"FirstTimesModel", "unit", "()V"⟩, 64), (⟨"FirstTimesModel", "opens", "()V"⟩, 64), (⟨"FirstTimesModel", "put", "(II)V"⟩, 64), (⟨"FirstTimesModel", "closes", "(I)V"⟩, 64), (⟨"FirstTimesModel", "sum", "()V"⟩, 64)]
theorem lw_r3 : ∀ q ∈ lw_privs_3, lw_okq q := List.forall_mem_cons.mpr ⟨lw_p32, List.forall_mem_cons.mpr ⟨lw_p33, List.forall_mem_cons.mpr ⟨lw_p34, List.forall_mem_cons.mpr ⟨lw_p35, List.forall_mem_cons.mpr ⟨lw_p36, List.forall_mem_cons.mpr ⟨lw_p37, List.forall_mem_cons.mpr ⟨lw_p38, List.forall_mem_cons.mpr ⟨lw_p39, List.forall_mem_cons.mpr ⟨lw_p40, List.forall_mem_cons.mpr ⟨lw_p41, List.forall_mem_cons.mpr ⟨lw_p42, List.forall_mem_cons.mpr ⟨lw_p43, List.forall_mem_cons.mpr ⟨lw_p44, List.forall_mem_cons.mpr ⟨lw_p45, List.forall_mem_cons.mpr ⟨lw_p46, List.forall_mem_cons.mpr ⟨lw_p47, fun _ h => absurd h List.not_mem_nil⟩⟩⟩⟩⟩⟩⟩⟩⟩⟩⟩⟩⟩⟩⟩⟩
theorem lw_p48 : lw_okq (⟨"FirstTimesModel", "term", "()V"⟩, 64) := ⟨⟨by decide +kernel, by decide +kernel⟩, List.mem_of_getElem? (i := 1182) (by decide +kernel), List.mem_of_getElem? (i := 1490) (by decide +kernel), List.mem_of_getElem? (i := 1491) (by decide +kernel)⟩
theorem lw_p49 : lw_okq (⟨"FirstTimesModel", "atom", "()V"⟩, 64) := ⟨⟨by decide +kernel, by decide +kernel⟩, List.mem_of_getElem? (i := 1182) (by decide +kernel), List.mem_of_getElem? (i := 1494) (by decide +kernel), List.mem_of_getElem? (i := 1495) (by decide +kernel)⟩
theorem lw_p50 : lw_okq (⟨"FirstTimesModel", "plainNumber", "()I"⟩, 64) := ⟨⟨by decide +kernel, by decide +kernel⟩, List.mem_of_getElem? (i := 1182) (by decide +kernel), List.mem_of_getElem? (i := 1498) (by decide +kernel), List.mem_of_getElem? (i := 1499) (by decide +kernel)⟩
theorem lw_p51 : lw_okq (⟨"FirstTimesModel", "compare", "()V"⟩, 64) := ⟨⟨by decide +kernel, by decide +kernel⟩, List.mem_of_getElem? (i := 1182) (by decide +kernel), List.mem_of_getElem? (i := 1505) (by decide +kernel), List.mem_of_getElem? (i := 1506) (by decide +kernel)⟩
theorem lw_p52 : lw_okq (⟨"FirstTimesModel", "goOnAnd", "()V"⟩, 64) := ⟨⟨by decide +kernel, by decide +kernel⟩, List.mem_of_getElem? (i := 1182) (by decide +kernel), List.mem_of_getElem? (i := 1512) (by decide +kernel), List.mem_of_getElem? (i := 1513) (by decide +kernel)⟩
theorem lw_p53 : lw_okq (⟨"FirstTimesModel", "goOnOr", "()V"⟩, 64) := ⟨⟨by decide +kernel, by decide +kernel⟩, List.mem_of_getElem? (i := 1182) (by decide +kernel), List.mem_of_getElem? (i := 1516) (by decide +kernel), List.mem_of_getElem? (i := 1517) (by decide +kernel)⟩
theorem lw_p54 : lw_okq (⟨"FirstTimesModel", "atEnd", "()I"⟩, 64) := ⟨⟨by decide +kernel, by decide +kernel⟩, List.mem_of_getElem? (i := 1182) (by decide +kernel), List.mem_of_getElem? (i := 1520) (by decide +kernel), List.mem_of_getElem? (i := 1521) (by decide +kernel)⟩
theorem lw_p55 : lw_okq (⟨"FirstTimesModel", "readPlan", "(I)I"⟩, 64) := ⟨⟨by decide +kernel, by decide +kernel⟩, List.mem_of_getElem? (i := 1182) (by decide +kernel), List.mem_of_getElem? (i := 1524) (by decide +kernel), List.mem_of_getElem? (i := 1525) (by decide +kernel)⟩
theorem lw_p56 : lw_okq (⟨"FirstTimesModel", "stepText", "(I)V"⟩, 64) := ⟨⟨by decide +kernel, by decide +kernel⟩, List.mem_of_getElem? (i := 1182) (by decide +kernel), List.mem_of_getElem? (i := 1528) (by decide +kernel), List.mem_of_getElem? (i := 1529) (by decide +kernel)⟩
theorem lw_p57 : lw_okq (⟨"FirstTimesModel", "figureIf", "()I"⟩, 64) := ⟨⟨by decide +kernel, by decide +kernel⟩, List.mem_of_getElem? (i := 1182) (by decide +kernel), List.mem_of_getElem? (i := 1532) (by decide +kernel), List.mem_of_getElem? (i := 1533) (by decide +kernel)⟩
theorem lw_p58 : lw_okq (⟨"FirstTimesModel", "figure", "()I"⟩, 64) := ⟨⟨by decide +kernel, by decide +kernel⟩, List.mem_of_getElem? (i := 1182) (by decide +kernel), List.mem_of_getElem? (i := 1536) (by decide +kernel), List.mem_of_getElem? (i := 1537) (by decide +kernel)⟩
theorem lw_p59 : lw_okq (⟨"FirstTimesModel", "takeMarket", "()I"⟩, 64) := ⟨⟨by decide +kernel, by decide +kernel⟩, List.mem_of_getElem? (i := 1182) (by decide +kernel), List.mem_of_getElem? (i := 1544) (by decide +kernel), List.mem_of_getElem? (i := 1545) (by decide +kernel)⟩
theorem lw_p60 : lw_okq (⟨"FirstTimesModel", "isThing", "(I)Z"⟩, 64) := ⟨⟨by decide +kernel, by decide +kernel⟩, List.mem_of_getElem? (i := 1182) (by decide +kernel), List.mem_of_getElem? (i := 1552) (by decide +kernel), List.mem_of_getElem? (i := 1553) (by decide +kernel)⟩
theorem lw_p61 : lw_okq (⟨"FirstTimesModel", "isPerson", "(I)Z"⟩, 64) := ⟨⟨by decide +kernel, by decide +kernel⟩, List.mem_of_getElem? (i := 1182) (by decide +kernel), List.mem_of_getElem? (i := 1560) (by decide +kernel), List.mem_of_getElem? (i := 1561) (by decide +kernel)⟩
theorem lw_p62 : lw_okq (⟨"FirstTimesModel", "firstsOf", "(II)I"⟩, 64) := ⟨⟨by decide +kernel, by decide +kernel⟩, List.mem_of_getElem? (i := 1182) (by decide +kernel), List.mem_of_getElem? (i := 1568) (by decide +kernel), List.mem_of_getElem? (i := 1569) (by decide +kernel)⟩
theorem lw_p63 : lw_okq (⟨"FirstTimesModel", "wholeOf", "(II)I"⟩, 64) := ⟨⟨by decide +kernel, by decide +kernel⟩, List.mem_of_getElem? (i := 1182) (by decide +kernel), List.mem_of_getElem? (i := 1592) (by decide +kernel), List.mem_of_getElem? (i := 1593) (by decide +kernel)⟩
def lw_privs_4 : List (MethodName × Nat) := [(⟨"FirstTimesModel", "term", "()V"⟩, 64), (⟨"FirstTimesModel", "atom", "()V"⟩, 64), (⟨"FirstTimesModel", "plainNumber", "()I"⟩, 64), (⟨"FirstTimesModel", "compare", "()V"⟩, 64), (⟨"FirstTimesModel", "goOnAnd", "()V"⟩, 64), (⟨"FirstTimesModel", "goOnOr", "()V"⟩, 64), (⟨"FirstTimesModel", "atEnd", "()I"⟩, 64), (⟨"FirstTimesModel", "readPlan", "(I)I"⟩, 64), (⟨"FirstTimesModel", "stepText", "(I)V"⟩, 64), (⟨"FirstTimesModel", "figureIf", "()I"⟩, 64), (⟨"FirstTimesModel", "figure", "()I"⟩, 64), (⟨"FirstTimesModel", "takeMarket", "()I"⟩, 64), (⟨"FirstTimesModel", "isThing", "(I)Z"⟩, 64), (⟨"FirstTimesModel", "isPerson", "(I)Z"⟩, 64), (⟨"FirstTimesModel", "firstsOf", "(II)I"⟩, 64), (⟨"FirstTimesModel", "wholeOf", "(II)I"⟩, 64)]
theorem lw_r4 : ∀ q ∈ lw_privs_4, lw_okq q := List.forall_mem_cons.mpr ⟨lw_p48, List.forall_mem_cons.mpr ⟨lw_p49, List.forall_mem_cons.mpr ⟨lw_p50, List.forall_mem_cons.mpr ⟨lw_p51, List.forall_mem_cons.mpr ⟨lw_p52, List.forall_mem_cons.mpr ⟨lw_p53, List.forall_mem_cons.mpr ⟨lw_p54, List.forall_mem_cons.mpr ⟨lw_p55, List.forall_mem_cons.mpr ⟨lw_p56, List.forall_mem_cons.mpr ⟨lw_p57, List.forall_mem_cons.mpr ⟨lw_p58, List.forall_mem_cons.mpr ⟨lw_p59, List.forall_mem_cons.mpr ⟨lw_p60, List.forall_mem_cons.mpr ⟨lw_p61, List.forall_mem_cons.mpr ⟨lw_p62, List.forall_mem_cons.mpr ⟨lw_p63, fun _ h => absurd h List.not_mem_nil⟩⟩⟩⟩⟩⟩⟩⟩⟩⟩⟩⟩⟩⟩⟩⟩
theorem lw_p64 : lw_okq (⟨"FirstTimesModel", "worthOf", "(I)I"⟩, 64) := ⟨⟨by decide +kernel, by decide +kernel⟩, List.mem_of_getElem? (i := 1182) (by decide +kernel), List.mem_of_getElem? (i := 1597) (by decide +kernel), List.mem_of_getElem? (i := 1598) (by decide +kernel)⟩
theorem lw_p65 : lw_okq (⟨"FirstTimesModel", "workOut", "(III)I"⟩, 64) := ⟨⟨by decide +kernel, by decide +kernel⟩, List.mem_of_getElem? (i := 1182) (by decide +kernel), List.mem_of_getElem? (i := 1601) (by decide +kernel), List.mem_of_getElem? (i := 1602) (by decide +kernel)⟩
theorem lw_p66 : lw_okq (⟨"FirstTimesModel", "spoiltBy", "(II)I"⟩, 64) := ⟨⟨by decide +kernel, by decide +kernel⟩, List.mem_of_getElem? (i := 1182) (by decide +kernel), List.mem_of_getElem? (i := 1617) (by decide +kernel), List.mem_of_getElem? (i := 1618) (by decide +kernel)⟩
theorem lw_p67 : lw_okq (⟨"FirstTimesModel", "joyOf", "(II)I"⟩, 64) := ⟨⟨by decide +kernel, by decide +kernel⟩, List.mem_of_getElem? (i := 1182) (by decide +kernel), List.mem_of_getElem? (i := 1621) (by decide +kernel), List.mem_of_getElem? (i := 1622) (by decide +kernel)⟩
theorem lw_p68 : lw_okq (⟨"FirstTimesModel", "canHave", "(II)Z"⟩, 64) := ⟨⟨by decide +kernel, by decide +kernel⟩, List.mem_of_getElem? (i := 1182) (by decide +kernel), List.mem_of_getElem? (i := 1629) (by decide +kernel), List.mem_of_getElem? (i := 1630) (by decide +kernel)⟩
theorem lw_p69 : lw_okq (⟨"FirstTimesModel", "keep", "()V"⟩, 64) := ⟨⟨by decide +kernel, by decide +kernel⟩, List.mem_of_getElem? (i := 1182) (by decide +kernel), List.mem_of_getElem? (i := 1633) (by decide +kernel), List.mem_of_getElem? (i := 1634) (by decide +kernel)⟩
theorem lw_p70 : lw_okq (⟨"FirstTimesModel", "haveNow", "(II)I"⟩, 64) := ⟨⟨by decide +kernel, by decide +kernel⟩, List.mem_of_getElem? (i := 1182) (by decide +kernel), List.mem_of_getElem? (i := 1637) (by decide +kernel), List.mem_of_getElem? (i := 1638) (by decide +kernel)⟩
theorem lw_p71 : lw_okq (⟨"FirstTimesModel", "haveFor", "(III)I"⟩, 64) := ⟨⟨by decide +kernel, by decide +kernel⟩, List.mem_of_getElem? (i := 1182) (by decide +kernel), List.mem_of_getElem? (i := 1641) (by decide +kernel), List.mem_of_getElem? (i := 1642) (by decide +kernel)⟩
theorem lw_p72 : lw_okq (⟨"FirstTimesModel", "note", "(III)V"⟩, 64) := ⟨⟨by decide +kernel, by decide +kernel⟩, List.mem_of_getElem? (i := 1182) (by decide +kernel), List.mem_of_getElem? (i := 1645) (by decide +kernel), List.mem_of_getElem? (i := 1646) (by decide +kernel)⟩
theorem lw_p73 : lw_okq (⟨"FirstTimesModel", "did", "(II)Z"⟩, 64) := ⟨⟨by decide +kernel, by decide +kernel⟩, List.mem_of_getElem? (i := 1182) (by decide +kernel), List.mem_of_getElem? (i := 1649) (by decide +kernel), List.mem_of_getElem? (i := 1650) (by decide +kernel)⟩
theorem lw_p74 : lw_okq (⟨"FirstTimesModel", "canSell", "(IIII)Z"⟩, 64) := ⟨⟨by decide +kernel, by decide +kernel⟩, List.mem_of_getElem? (i := 1182) (by decide +kernel), List.mem_of_getElem? (i := 1657) (by decide +kernel), List.mem_of_getElem? (i := 1658) (by decide +kernel)⟩
theorem lw_p75 : lw_okq (⟨"FirstTimesModel", "areTwo", "(II)Z"⟩, 64) := ⟨⟨by decide +kernel, by decide +kernel⟩, List.mem_of_getElem? (i := 1182) (by decide +kernel), List.mem_of_getElem? (i := 1661) (by decide +kernel), List.mem_of_getElem? (i := 1662) (by decide +kernel)⟩
theorem lw_p76 : lw_okq (⟨"FirstTimesModel", "sellNow", "(IIII)V"⟩, 64) := ⟨⟨by decide +kernel, by decide +kernel⟩, List.mem_of_getElem? (i := 1182) (by decide +kernel), List.mem_of_getElem? (i := 1665) (by decide +kernel), List.mem_of_getElem? (i := 1666) (by decide +kernel)⟩
theorem lw_p77 : lw_okq (⟨"FirstTimesModel", "pay", "(III)V"⟩, 64) := ⟨⟨by decide +kernel, by decide +kernel⟩, List.mem_of_getElem? (i := 1182) (by decide +kernel), List.mem_of_getElem? (i := 1669) (by decide +kernel), List.mem_of_getElem? (i := 1670) (by decide +kernel)⟩
theorem lw_p78 : lw_okq (⟨"FirstTimesModel", "canSteal", "(III)Z"⟩, 64) := ⟨⟨by decide +kernel, by decide +kernel⟩, List.mem_of_getElem? (i := 1182) (by decide +kernel), List.mem_of_getElem? (i := 1677) (by decide +kernel), List.mem_of_getElem? (i := 1678) (by decide +kernel)⟩
theorem lw_p79 : lw_okq (⟨"FirstTimesModel", "stealNow", "(III)V"⟩, 64) := ⟨⟨by decide +kernel, by decide +kernel⟩, List.mem_of_getElem? (i := 1182) (by decide +kernel), List.mem_of_getElem? (i := 1681) (by decide +kernel), List.mem_of_getElem? (i := 1682) (by decide +kernel)⟩
def lw_privs_5 : List (MethodName × Nat) := [(⟨"FirstTimesModel", "worthOf", "(I)I"⟩, 64), (⟨"FirstTimesModel", "workOut", "(III)I"⟩, 64), (⟨"FirstTimesModel", "spoiltBy", "(II)I"⟩, 64), (⟨"FirstTimesModel", "joyOf", "(II)I"⟩, 64), (⟨"FirstTimesModel", "canHave", "(II)Z"⟩, 64), (⟨"FirstTimesModel", "keep", "()V"⟩, 64), (⟨"FirstTimesModel", "haveNow", "(II)I"⟩, 64), (⟨"FirstTimesModel", "haveFor", "(III)I"⟩, 64), (⟨"FirstTimesModel", "note", "(III)V"⟩, 64), (⟨"FirstTimesModel", "did", "(II)Z"⟩, 64), (⟨"FirstTimesModel", "canSell", "(IIII)Z"⟩, 64), (⟨"FirstTimesModel", "areTwo", "(II)Z"⟩, 64), (⟨"FirstTimesModel", "sellNow", "(IIII)V"⟩, 64), (⟨"FirstTimesModel", "pay", "(III)V"⟩, 64), (⟨"FirstTimesModel", "canSteal", "(III)Z"⟩, 64), (⟨"FirstTimesModel", "stealNow", "(III)V"⟩, 64)]
theorem lw_r5 : ∀ q ∈ lw_privs_5, lw_okq q := List.forall_mem_cons.mpr ⟨lw_p64, List.forall_mem_cons.mpr ⟨lw_p65, List.forall_mem_cons.mpr ⟨lw_p66, List.forall_mem_cons.mpr ⟨lw_p67, List.forall_mem_cons.mpr ⟨lw_p68, List.forall_mem_cons.mpr ⟨lw_p69, List.forall_mem_cons.mpr ⟨lw_p70, List.forall_mem_cons.mpr ⟨lw_p71, List.forall_mem_cons.mpr ⟨lw_p72, List.forall_mem_cons.mpr ⟨lw_p73, List.forall_mem_cons.mpr ⟨lw_p74, List.forall_mem_cons.mpr ⟨lw_p75, List.forall_mem_cons.mpr ⟨lw_p76, List.forall_mem_cons.mpr ⟨lw_p77, List.forall_mem_cons.mpr ⟨lw_p78, List.forall_mem_cons.mpr ⟨lw_p79, fun _ h => absurd h List.not_mem_nil⟩⟩⟩⟩⟩⟩⟩⟩⟩⟩⟩⟩⟩⟩⟩⟩
theorem lw_p80 : lw_okq (⟨"FirstTimesModel", "ofPledge", "(II)I"⟩, 64) := ⟨⟨by decide +kernel, by decide +kernel⟩, List.mem_of_getElem? (i := 1182) (by decide +kernel), List.mem_of_getElem? (i := 1693) (by decide +kernel), List.mem_of_getElem? (i := 1694) (by decide +kernel)⟩
theorem lw_p81 : lw_okq (⟨"FirstTimesModel", "dropPledge", "(I)V"⟩, 64) := ⟨⟨by decide +kernel, by decide +kernel⟩, List.mem_of_getElem? (i := 1182) (by decide +kernel), List.mem_of_getElem? (i := 1701) (by decide +kernel), List.mem_of_getElem? (i := 1702) (by decide +kernel)⟩
theorem lw_p82 : lw_okq (⟨"FirstTimesModel", "areDays", "(I)Z"⟩, 64) := ⟨⟨by decide +kernel, by decide +kernel⟩, List.mem_of_getElem? (i := 1182) (by decide +kernel), List.mem_of_getElem? (i := 1709) (by decide +kernel), List.mem_of_getElem? (i := 1710) (by decide +kernel)⟩
theorem lw_p83 : lw_okq (⟨"FirstTimesModel", "endDay", "()V"⟩, 64) := ⟨⟨by decide +kernel, by decide +kernel⟩, List.mem_of_getElem? (i := 1182) (by decide +kernel), List.mem_of_getElem? (i := 1713) (by decide +kernel), List.mem_of_getElem? (i := 1714) (by decide +kernel)⟩
theorem lw_p84 : lw_okq (⟨"FirstTimesModel", "isPlan", "(I)Z"⟩, 64) := ⟨⟨by decide +kernel, by decide +kernel⟩, List.mem_of_getElem? (i := 1182) (by decide +kernel), List.mem_of_getElem? (i := 1733) (by decide +kernel), List.mem_of_getElem? (i := 1734) (by decide +kernel)⟩
theorem lw_p85 : lw_okq (⟨"FirstTimesModel", "putAside", "()V"⟩, 64) := ⟨⟨by decide +kernel, by decide +kernel⟩, List.mem_of_getElem? (i := 1182) (by decide +kernel), List.mem_of_getElem? (i := 1738) (by decide +kernel), List.mem_of_getElem? (i := 1739) (by decide +kernel)⟩
theorem lw_p86 : lw_okq (⟨"FirstTimesModel", "joysOfAll", "()I"⟩, 64) := ⟨⟨by decide +kernel, by decide +kernel⟩, List.mem_of_getElem? (i := 1182) (by decide +kernel), List.mem_of_getElem? (i := 1742) (by decide +kernel), List.mem_of_getElem? (i := 1743) (by decide +kernel)⟩
theorem lw_p87 : lw_okq (⟨"FirstTimesModel", "canStep", "(I)Z"⟩, 64) := ⟨⟨by decide +kernel, by decide +kernel⟩, List.mem_of_getElem? (i := 1182) (by decide +kernel), List.mem_of_getElem? (i := 1746) (by decide +kernel), List.mem_of_getElem? (i := 1747) (by decide +kernel)⟩
theorem lw_p88 : lw_okq (⟨"FirstTimesModel", "doStep", "(I)V"⟩, 64) := ⟨⟨by decide +kernel, by decide +kernel⟩, List.mem_of_getElem? (i := 1182) (by decide +kernel), List.mem_of_getElem? (i := 1750) (by decide +kernel), List.mem_of_getElem? (i := 1751) (by decide +kernel)⟩
theorem lw_p89 : lw_okq (⟨"FirstTimesModel", "takeBack", "()V"⟩, 64) := ⟨⟨by decide +kernel, by decide +kernel⟩, List.mem_of_getElem? (i := 1182) (by decide +kernel), List.mem_of_getElem? (i := 1754) (by decide +kernel), List.mem_of_getElem? (i := 1755) (by decide +kernel)⟩
theorem lw_p90 : lw_okq (⟨"FirstTimesModel", "layOrder", "(II)V"⟩, 64) := ⟨⟨by decide +kernel, by decide +kernel⟩, List.mem_of_getElem? (i := 1182) (by decide +kernel), List.mem_of_getElem? (i := 1766) (by decide +kernel), List.mem_of_getElem? (i := 1767) (by decide +kernel)⟩
theorem lw_p91 : lw_okq (⟨"FirstTimesModel", "tryOrders", "(IIII)V"⟩, 64) := ⟨⟨by decide +kernel, by decide +kernel⟩, List.mem_of_getElem? (i := 1182) (by decide +kernel), List.mem_of_getElem? (i := 1770) (by decide +kernel), List.mem_of_getElem? (i := 1771) (by decide +kernel)⟩
theorem lw_p92 : lw_okq (⟨"FirstTimesModel", "writeOwn", "(II)V"⟩, 64) := ⟨⟨by decide +kernel, by decide +kernel⟩, List.mem_of_getElem? (i := 1182) (by decide +kernel), List.mem_of_getElem? (i := 1774) (by decide +kernel), List.mem_of_getElem? (i := 1775) (by decide +kernel)⟩
theorem lw_p93 : lw_okq (⟨"FirstTimesModel", "readOwn", "(II)V"⟩, 64) := ⟨⟨by decide +kernel, by decide +kernel⟩, List.mem_of_getElem? (i := 1182) (by decide +kernel), List.mem_of_getElem? (i := 1778) (by decide +kernel), List.mem_of_getElem? (i := 1779) (by decide +kernel)⟩
theorem lw_p94 : lw_okq (⟨"FirstTimesModel", "cleanRow", "(I)I"⟩, 64) := ⟨⟨by decide +kernel, by decide +kernel⟩, List.mem_of_getElem? (i := 1182) (by decide +kernel), List.mem_of_getElem? (i := 1786) (by decide +kernel), List.mem_of_getElem? (i := 1787) (by decide +kernel)⟩
theorem lw_p95 : lw_okq (⟨"FirstTimesModel", "mayCome", "(III)Z"⟩, 64) := ⟨⟨by decide +kernel, by decide +kernel⟩, List.mem_of_getElem? (i := 1182) (by decide +kernel), List.mem_of_getElem? (i := 1790) (by decide +kernel), List.mem_of_getElem? (i := 1791) (by decide +kernel)⟩
def lw_privs_6 : List (MethodName × Nat) := [(⟨"FirstTimesModel", "ofPledge", "(II)I"⟩, 64), (⟨"FirstTimesModel", "dropPledge", "(I)V"⟩, 64), (⟨"FirstTimesModel", "areDays", "(I)Z"⟩, 64), (⟨"FirstTimesModel", "endDay", "()V"⟩, 64), (⟨"FirstTimesModel", "isPlan", "(I)Z"⟩, 64), (⟨"FirstTimesModel", "putAside", "()V"⟩, 64), (⟨"FirstTimesModel", "joysOfAll", "()I"⟩, 64), (⟨"FirstTimesModel", "canStep", "(I)Z"⟩, 64), (⟨"FirstTimesModel", "doStep", "(I)V"⟩, 64), (⟨"FirstTimesModel", "takeBack", "()V"⟩, 64), (⟨"FirstTimesModel", "layOrder", "(II)V"⟩, 64), (⟨"FirstTimesModel", "tryOrders", "(IIII)V"⟩, 64), (⟨"FirstTimesModel", "writeOwn", "(II)V"⟩, 64), (⟨"FirstTimesModel", "readOwn", "(II)V"⟩, 64), (⟨"FirstTimesModel", "cleanRow", "(I)I"⟩, 64), (⟨"FirstTimesModel", "mayCome", "(III)Z"⟩, 64)]
theorem lw_r6 : ∀ q ∈ lw_privs_6, lw_okq q := List.forall_mem_cons.mpr ⟨lw_p80, List.forall_mem_cons.mpr ⟨lw_p81, List.forall_mem_cons.mpr ⟨lw_p82, List.forall_mem_cons.mpr ⟨lw_p83, List.forall_mem_cons.mpr ⟨lw_p84, List.forall_mem_cons.mpr ⟨lw_p85, List.forall_mem_cons.mpr ⟨lw_p86, List.forall_mem_cons.mpr ⟨lw_p87, List.forall_mem_cons.mpr ⟨lw_p88, List.forall_mem_cons.mpr ⟨lw_p89, List.forall_mem_cons.mpr ⟨lw_p90, List.forall_mem_cons.mpr ⟨lw_p91, List.forall_mem_cons.mpr ⟨lw_p92, List.forall_mem_cons.mpr ⟨lw_p93, List.forall_mem_cons.mpr ⟨lw_p94, List.forall_mem_cons.mpr ⟨lw_p95, fun _ h => absurd h List.not_mem_nil⟩⟩⟩⟩⟩⟩⟩⟩⟩⟩⟩⟩⟩⟩⟩⟩
theorem lw_p96 : lw_okq (⟨"FirstTimesModel", "isHeldBySomebody", "(I)Z"⟩, 64) := ⟨⟨by decide +kernel, by decide +kernel⟩, List.mem_of_getElem? (i := 1182) (by decide +kernel), List.mem_of_getElem? (i := 1802) (by decide +kernel), List.mem_of_getElem? (i := 1803) (by decide +kernel)⟩
theorem lw_p97 : lw_okq (⟨"FirstTimesModel", "tryMatch", "(IIII)V"⟩, 64) := ⟨⟨by decide +kernel, by decide +kernel⟩, List.mem_of_getElem? (i := 1182) (by decide +kernel), List.mem_of_getElem? (i := 1806) (by decide +kernel), List.mem_of_getElem? (i := 1807) (by decide +kernel)⟩
theorem lw_p98 : lw_okq (⟨"FirstTimesModel", "keptBy", "(III)I"⟩, 64) := ⟨⟨by decide +kernel, by decide +kernel⟩, List.mem_of_getElem? (i := 1182) (by decide +kernel), List.mem_of_getElem? (i := 1828) (by decide +kernel), List.mem_of_getElem? (i := 1829) (by decide +kernel)⟩
theorem lw_p99 : lw_okq (⟨"FirstTimesModel", "chosenBy", "(II)I"⟩, 64) := ⟨⟨by decide +kernel, by decide +kernel⟩, List.mem_of_getElem? (i := 1182) (by decide +kernel), List.mem_of_getElem? (i := 1832) (by decide +kernel), List.mem_of_getElem? (i := 1833) (by decide +kernel)⟩
theorem lw_p100 : lw_okq (⟨"FirstTimesModel", "spoilsOf", "(II)I"⟩, 64) := ⟨⟨by decide +kernel, by decide +kernel⟩, List.mem_of_getElem? (i := 1182) (by decide +kernel), List.mem_of_getElem? (i := 1836) (by decide +kernel), List.mem_of_getElem? (i := 1837) (by decide +kernel)⟩
theorem lw_p101 : lw_okq (⟨"FirstTimesModel", "couldHaveHad", "(I)Z"⟩, 64) := ⟨⟨by decide +kernel, by decide +kernel⟩, List.mem_of_getElem? (i := 1182) (by decide +kernel), List.mem_of_getElem? (i := 1852) (by decide +kernel), List.mem_of_getElem? (i := 1853) (by decide +kernel)⟩
theorem lw_p102 : lw_okq (⟨"FirstTimesModel", "isFirst", "(IIZ)Z"⟩, 64) := ⟨⟨by decide +kernel, by decide +kernel⟩, List.mem_of_getElem? (i := 1182) (by decide +kernel), List.mem_of_getElem? (i := 1868) (by decide +kernel), List.mem_of_getElem? (i := 1869) (by decide +kernel)⟩
theorem lw_p103 : lw_okq (⟨"FirstTimesModel", "firstBy", "(IIZ)I"⟩, 64) := ⟨⟨by decide +kernel, by decide +kernel⟩, List.mem_of_getElem? (i := 1182) (by decide +kernel), List.mem_of_getElem? (i := 1872) (by decide +kernel), List.mem_of_getElem? (i := 1873) (by decide +kernel)⟩
theorem lw_p104 : lw_okq (⟨"FirstTimesModel", "lucky", "(I)V"⟩, 64) := ⟨⟨by decide +kernel, by decide +kernel⟩, List.mem_of_getElem? (i := 1182) (by decide +kernel), List.mem_of_getElem? (i := 1884) (by decide +kernel), List.mem_of_getElem? (i := 1885) (by decide +kernel)⟩
theorem lw_p105 : lw_okq (⟨"FirstTimesModel", "draw", "(I)I"⟩, 64) := ⟨⟨by decide +kernel, by decide +kernel⟩, List.mem_of_getElem? (i := 1182) (by decide +kernel), List.mem_of_getElem? (i := 1888) (by decide +kernel), List.mem_of_getElem? (i := 1889) (by decide +kernel)⟩
def lw_privs_7 : List (MethodName × Nat) := [(⟨"FirstTimesModel", "isHeldBySomebody", "(I)Z"⟩, 64), (⟨"FirstTimesModel", "tryMatch", "(IIII)V"⟩, 64), (⟨"FirstTimesModel", "keptBy", "(III)I"⟩, 64), (⟨"FirstTimesModel", "chosenBy", "(II)I"⟩, 64), (⟨"FirstTimesModel", "spoilsOf", "(II)I"⟩, 64), (⟨"FirstTimesModel", "couldHaveHad", "(I)Z"⟩, 64), (⟨"FirstTimesModel", "isFirst", "(IIZ)Z"⟩, 64), (⟨"FirstTimesModel", "firstBy", "(IIZ)I"⟩, 64), (⟨"FirstTimesModel", "lucky", "(I)V"⟩, 64), (⟨"FirstTimesModel", "draw", "(I)I"⟩, 64)]
theorem lw_r7 : ∀ q ∈ lw_privs_7, lw_okq q := List.forall_mem_cons.mpr ⟨lw_p96, List.forall_mem_cons.mpr ⟨lw_p97, List.forall_mem_cons.mpr ⟨lw_p98, List.forall_mem_cons.mpr ⟨lw_p99, List.forall_mem_cons.mpr ⟨lw_p100, List.forall_mem_cons.mpr ⟨lw_p101, List.forall_mem_cons.mpr ⟨lw_p102, List.forall_mem_cons.mpr ⟨lw_p103, List.forall_mem_cons.mpr ⟨lw_p104, List.forall_mem_cons.mpr ⟨lw_p105, fun _ h => absurd h List.not_mem_nil⟩⟩⟩⟩⟩⟩⟩⟩⟩⟩
def lw_privs : List (MethodName × Nat) := lw_privs_1 ++ (lw_privs_2 ++ (lw_privs_3 ++ (lw_privs_4 ++ (lw_privs_5 ++ (lw_privs_6 ++ (lw_privs_7))))))
def lw_tbl : List Cond := k2_sels lw_privs ++ tables_1
theorem lw_privs_ok : ∀ q ∈ lw_privs, lw_okq q := by
  show ∀ q ∈ lw_privs_1 ++ (lw_privs_2 ++ (lw_privs_3 ++ (lw_privs_4 ++ (lw_privs_5 ++ (lw_privs_6 ++ (lw_privs_7)))))), lw_okq q
  exact List.forall_mem_append.mpr ⟨lw_r1, List.forall_mem_append.mpr ⟨lw_r2, List.forall_mem_append.mpr ⟨lw_r3, List.forall_mem_append.mpr ⟨lw_r4, List.forall_mem_append.mpr ⟨lw_r5, List.forall_mem_append.mpr ⟨lw_r6, lw_r7⟩⟩⟩⟩⟩⟩
end
section
/-! ===== NAMES AND WORDS, printed by wip/whole/links.py ===== -/
def cnL : List String := ["FirstTimes$Evidence", "FirstTimes$Eye", "FirstTimes$Having", "FirstTimes$Market", "FirstTimes$MarketReader", "FirstTimes$Past", "FirstTimes$Plans", "FirstTimes$Sets", "FirstTimes$State", "FirstTimes$Tape", "FirstTimes$Tastes", "FirstTimes", "FirstTimesModel", "FirstTimesLaw", "java/lang/Integer", "java/lang/Math", "java/util/Arrays"]
def cnm (c : Nat) : String := nthD cnL c ""
def ownL : List Nat := [0, 0, 0, 0, 0, 0, 0, 0, 1, 1, 1, 1, 1, 2, 2, 2, 2, 2, 3, 3, 3, 3, 3, 3, 3, 3, 3, 3, 3, 3, 3, 3, 3, 3, 3, 3, 3, 3, 3, 4, 4, 4, 4, 4, 5, 5, 5, 5, 6, 6, 6, 6, 6, 6, 6, 6, 7, 7, 7, 7, 7, 7, 8, 8, 8, 8, 8, 8, 8, 8, 8, 8, 8, 8, 8, 8, 8, 8, 8, 8, 8, 8, 8, 8, 8, 8, 8, 8, 8, 8, 8, 8, 8, 8, 8, 8, 8, 8, 9, 9, 9, 9, 9, 9, 9, 9, 9, 9, 10, 10, 10, 10, 10, 10, 10, 10, 10, 10, 10, 10, 10, 10, 10, 11, 11, 11, 11, 11, 11, 11, 11, 11, 11, 11, 11, 11, 11, 11, 11, 11, 11, 11, 11, 11, 11, 11, 11, 11, 11, 11, 11, 11, 11, 11, 11, 11, 11, 11, 11, 11, 11, 11, 11, 11, 11, 11, 11, 11, 11, 11, 11, 11, 11, 11, 11, 11, 11, 11, 11, 12, 12, 12, 12, 12, 12, 12, 12, 12, 12, 12, 12, 12, 12, 12, 12, 12, 12, 12, 12, 12, 12, 12, 12, 12, 12, 12, 12, 12, 12, 12, 12, 12, 12, 12, 12, 12, 12, 12, 12, 12, 12, 12, 12, 12, 12, 12, 12, 12, 12, 12, 12, 12, 12, 12, 12, 12, 12, 12, 12, 12, 12, 12, 12, 12, 12, 12, 12, 12, 12, 12, 12, 12, 12, 12, 12, 12, 12, 12, 12, 12, 12, 12, 12, 12, 12, 12, 12, 12, 12, 12, 12, 12, 12, 12, 12, 12, 12, 12, 12, 12, 12, 12, 12, 12, 12, 12, 12, 12, 12, 12, 12, 12, 12, 12, 12, 12, 12, 12, 12, 12, 12, 12, 12, 12, 12, 12, 12, 12, 12, 12, 12, 12, 12, 14, 15, 15, 15, 15, 16, 13, 11]
def own (M : Nat) : Nat := nthD ownL M 99
def ysL : List MethodName := [⟨"FirstTimes$Evidence", "<init>", "()V"⟩, ⟨"FirstTimes$Evidence", "forget", "()V"⟩, ⟨"FirstTimes$Evidence", "addFound", "(II)I"⟩, ⟨"FirstTimes$Evidence", "fits", "(LFirstTimes$Market;I)Z"⟩, ⟨"FirstTimes$Evidence", "addClaim", "(IIII)I"⟩, ⟨"FirstTimes$Evidence", "weigh", "(I)V"⟩, ⟨"FirstTimes$Evidence", "couldBeFirst", "(I)Z"⟩, ⟨"FirstTimes$Evidence", "surelyAhead", "(I)Z"⟩, ⟨"FirstTimes$Eye", "<init>", "(LFirstTimes$Market;LFirstTimes$Tastes;)V"⟩, ⟨"FirstTimes$Eye", "look", "(LFirstTimes$State;III)V"⟩, ⟨"FirstTimes$Eye", "weigh", "(II)I"⟩, ⟨"FirstTimes$Eye", "whole", "(II)I"⟩, ⟨"FirstTimes$Eye", "delight", "(II)I"⟩, ⟨"FirstTimes$Having", "<init>", "(LFirstTimes$Market;LFirstTimes$Eye;)V"⟩, ⟨"FirstTimes$Having", "begin", "(II)V"⟩, ⟨"FirstTimes$Having", "take", "(I)V"⟩, ⟨"FirstTimes$Having", "add", "(II)V"⟩, ⟨"FirstTimes$Having", "bringAlong", "(II)V"⟩, ⟨"FirstTimes$Market", "<init>", "()V"⟩, ⟨"FirstTimes$Market", "clear", "()V"⟩, ⟨"FirstTimes$Market", "takeOver", "(LFirstTimes$Market;)V"⟩, ⟨"FirstTimes$Market", "isFull", "(I)Z"⟩, ⟨"FirstTimes$Market", "add", "(I)V"⟩, ⟨"FirstTimes$Market", "tellNewest", "(III)V"⟩, ⟨"FirstTimes$Market", "told", "(III)I"⟩, ⟨"FirstTimes$Market", "stands", "()Z"⟩, ⟨"FirstTimes$Market", "things", "()I"⟩, ⟨"FirstTimes$Market", "persons", "()I"⟩, ⟨"FirstTimes$Market", "allThings", "()I"⟩, ⟨"FirstTimes$Market", "hasThing", "(I)Z"⟩, ⟨"FirstTimes$Market", "hasPerson", "(I)Z"⟩, ⟨"FirstTimes$Market", "hasBoth", "(II)Z"⟩, ⟨"FirstTimes$Market", "isWhole", "()Z"⟩, ⟨"FirstTimes$Market", "joinsThings", "(I)Z"⟩, ⟨"FirstTimes$Market", "spoilt", "(II)I"⟩, ⟨"FirstTimes$Market", "harm", "(II)I"⟩, ⟨"FirstTimes$Market", "cleanRow", "()I"⟩, ⟨"FirstTimes$Market", "lowestHarmless", "(I)I"⟩, ⟨"FirstTimes$Market", "spoilsFrom", "(II)I"⟩, ⟨"FirstTimes$MarketReader", "read", "(LFirstTimes$Tape;LFirstTimes$Market;)Z"⟩, ⟨"FirstTimes$MarketReader", "readClause", "(LFirstTimes$Tape;LFirstTimes$Market;)Z"⟩, ⟨"FirstTimes$MarketReader", "readItem", "(LFirstTimes$Tape;LFirstTimes$Market;II)Z"⟩, ⟨"FirstTimes$MarketReader", "kindOf", "(I)I"⟩, ⟨"FirstTimes$MarketReader", "itemOf", "(II)I"⟩, ⟨"FirstTimes$Past", "<init>", "()V"⟩, ⟨"FirstTimes$Past", "keep", "([I)V"⟩, ⟨"FirstTimes$Past", "bring", "([I)Z"⟩, ⟨"FirstTimes$Past", "forget", "()V"⟩, ⟨"FirstTimes$Plans", "<init>", "(LFirstTimes$Tape;)V"⟩, ⟨"FirstTimes$Plans", "has", "(I)Z"⟩, ⟨"FirstTimes$Plans", "sizeOf", "(I)I"⟩, ⟨"FirstTimes$Plans", "told", "(III)I"⟩, ⟨"FirstTimes$Plans", "keepSpare", "()I"⟩, ⟨"FirstTimes$Plans", "readSpare", "()Z"⟩, ⟨"FirstTimes$Plans", "readStep", "(I)Z"⟩, ⟨"FirstTimes$Plans", "sortOf", "(I)I"⟩, ⟨"FirstTimes$Sets", "<init>", "(LFirstTimes$Market;LFirstTimes$Having;)V"⟩, ⟨"FirstTimes$Sets", "findOrders", "(III)V"⟩, ⟨"FirstTimes$Sets", "findOrder", "(III)V"⟩, ⟨"FirstTimes$Sets", "fewestLeftOut", "()I"⟩, ⟨"FirstTimes$Sets", "beginMatch", "()V"⟩, ⟨"FirstTimes$Sets", "matchPerson", "(I)V"⟩, ⟨"FirstTimes$State", "<init>", "(LFirstTimes$Market;)V"⟩, ⟨"FirstTimes$State", "begin", "()V"⟩, ⟨"FirstTimes$State", "takeOver", "([I)V"⟩, ⟨"FirstTimes$State", "ofPerson", "(II)I"⟩, ⟨"FirstTimes$State", "holding", "(II)I"⟩, ⟨"FirstTimes$State", "inPledge", "(II)I"⟩, ⟨"FirstTimes$State", "today", "()I"⟩, ⟨"FirstTimes$State", "moneyOf", "(I)I"⟩, ⟨"FirstTimes$State", "ageOf", "(I)I"⟩, ⟨"FirstTimes$State", "joyBy", "(I)I"⟩, ⟨"FirstTimes$State", "hadBy", "(I)I"⟩, ⟨"FirstTimes$State", "heldOf", "(II)I"⟩, ⟨"FirstTimes$State", "heldBy", "(I)I"⟩, ⟨"FirstTimes$State", "heldByAny", "()I"⟩, ⟨"FirstTimes$State", "joyOfAll", "()I"⟩, ⟨"FirstTimes$State", "leftOf", "(I)I"⟩, ⟨"FirstTimes$State", "lowestOtherHolder", "(II)I"⟩, ⟨"FirstTimes$State", "mayHave", "(II)Z"⟩, ⟨"FirstTimes$State", "maySell", "(IIII)Z"⟩, ⟨"FirstTimes$State", "maySteal", "(III)Z"⟩, ⟨"FirstTimes$State", "doSell", "(IIII)V"⟩, ⟨"FirstTimes$State", "doSteal", "(III)V"⟩, ⟨"FirstTimes$State", "pay", "(III)V"⟩, ⟨"FirstTimes$State", "pledgeCount", "()I"⟩, ⟨"FirstTimes$State", "pledgesFull", "()Z"⟩, ⟨"FirstTimes$State", "hasPledge", "(I)Z"⟩, ⟨"FirstTimes$State", "ofPledge", "(II)I"⟩, ⟨"FirstTimes$State", "doPledge", "(IIIII)V"⟩, ⟨"FirstTimes$State", "mayRedeem", "(I)Z"⟩, ⟨"FirstTimes$State", "doRedeem", "(I)V"⟩, ⟨"FirstTimes$State", "handOver", "(II)V"⟩, ⟨"FirstTimes$State", "endDay", "()V"⟩, ⟨"FirstTimes$State", "dueTo", "(II)I"⟩, ⟨"FirstTimes$State", "gain", "(III)V"⟩, ⟨"FirstTimes$State", "logLength", "()I"⟩, ⟨"FirstTimes$State", "ofLog", "(II)I"⟩, ⟨"FirstTimes$Tape", "<init>", "()V"⟩, ⟨"FirstTimes$Tape", "bytesIn", "(I)I"⟩, ⟨"FirstTimes$Tape", "put", "(I)V"⟩, ⟨"FirstTimes$Tape", "rewind", "()V"⟩, ⟨"FirstTimes$Tape", "sign", "()I"⟩, ⟨"FirstTimes$Tape", "isOver", "()Z"⟩, ⟨"FirstTimes$Tape", "failAt", "(I)Z"⟩, ⟨"FirstTimes$Tape", "expect", "(I)Z"⟩, ⟨"FirstTimes$Tape", "digit", "()I"⟩, ⟨"FirstTimes$Tape", "number", "(I)I"⟩, ⟨"FirstTimes$Tastes", "<init>", "(LFirstTimes$Tape;)V"⟩, ⟨"FirstTimes$Tastes", "readSpare", "()Z"⟩, ⟨"FirstTimes$Tastes", "keepSpare", "()I"⟩, ⟨"FirstTimes$Tastes", "emit", "(I)V"⟩, ⟨"FirstTimes$Tastes", "readClause", "()Z"⟩, ⟨"FirstTimes$Tastes", "readConsequence", "()Z"⟩, ⟨"FirstTimes$Tastes", "readMoreUnits", "(I)Z"⟩, ⟨"FirstTimes$Tastes", "readUnit", "(IZ)Z"⟩, ⟨"FirstTimes$Tastes", "readNestedUnit", "(II)Z"⟩, ⟨"FirstTimes$Tastes", "isComparison", "(I)Z"⟩, ⟨"FirstTimes$Tastes", "readSum", "(I)Z"⟩, ⟨"FirstTimes$Tastes", "emitIfAny", "(I)V"⟩, ⟨"FirstTimes$Tastes", "readAtom", "(I)Z"⟩, ⟨"FirstTimes$Tastes", "worth", "([I)I"⟩, ⟨"FirstTimes$Tastes", "joined", "(III)I"⟩, ⟨"FirstTimes", "<init>", "()V"⟩, ⟨"FirstTimes", "feed", "(IIIII)I"⟩, ⟨"FirstTimes", "end", "(I)Z"⟩, ⟨"FirstTimes", "fault", "(I)I"⟩, ⟨"FirstTimes", "text", "(I)I"⟩, ⟨"FirstTimes", "thing", "(II)I"⟩, ⟨"FirstTimes", "firsts", "(II)I"⟩, ⟨"FirstTimes", "spoil", "(II)I"⟩, ⟨"FirstTimes", "coming", "(II)I"⟩, ⟨"FirstTimes", "taste", "(I)Z"⟩, ⟨"FirstTimes", "theft", "(I)Z"⟩, ⟨"FirstTimes", "joy", "(III)I"⟩, ⟨"FirstTimes", "have", "(II)I"⟩, ⟨"FirstTimes", "sell", "(IIII)I"⟩, ⟨"FirstTimes", "steal", "(III)I"⟩, ⟨"FirstTimes", "pledge", "(IIIII)I"⟩, ⟨"FirstTimes", "pledged", "(II)I"⟩, ⟨"FirstTimes", "redeem", "(I)I"⟩, ⟨"FirstTimes", "days", "(I)I"⟩, ⟨"FirstTimes", "undo", "()I"⟩, ⟨"FirstTimes", "log", "(II)I"⟩, ⟨"FirstTimes", "step", "(III)I"⟩, ⟨"FirstTimes", "run", "(II)I"⟩, ⟨"FirstTimes", "perform", "(I)I"⟩, ⟨"FirstTimes", "order", "(III)I"⟩, ⟨"FirstTimes", "clean", "()I"⟩, ⟨"FirstTimes", "rings", "()I"⟩, ⟨"FirstTimes", "pairing", "(I)I"⟩, ⟨"FirstTimes", "sale", "(II)I"⟩, ⟨"FirstTimes", "awaits", "(IIIII)I"⟩, ⟨"FirstTimes", "repeats", "(II)I"⟩, ⟨"FirstTimes", "kept", "(III)I"⟩, ⟨"FirstTimes", "habit", "(III)I"⟩, ⟨"FirstTimes", "found", "(II)I"⟩, ⟨"FirstTimes", "must", "(I)I"⟩, ⟨"FirstTimes", "sure", "()I"⟩, ⟨"FirstTimes", "claim", "(IIII)I"⟩, ⟨"FirstTimes", "could", "(I)I"⟩, ⟨"FirstTimes", "alone", "(I)I"⟩, ⟨"FirstTimes", "years", "(IJ)I"⟩, ⟨"FirstTimes", "richest", "()I"⟩, ⟨"FirstTimes", "last", "(I)I"⟩, ⟨"FirstTimes", "image", "()I"⟩, ⟨"FirstTimes", "back", "()I"⟩, ⟨"FirstTimes", "count", "(I)I"⟩, ⟨"FirstTimes", "isFaultless", "(I)Z"⟩, ⟨"FirstTimes", "openMarket", "()I"⟩, ⟨"FirstTimes", "mayPass", "(I)Z"⟩, ⟨"FirstTimes", "doHave", "(LFirstTimes$State;II)I"⟩, ⟨"FirstTimes", "mayStep", "(LFirstTimes$State;II)Z"⟩, ⟨"FirstTimes", "doStep", "(LFirstTimes$State;II)V"⟩, ⟨"FirstTimes", "joyByHabit", "(III)I"⟩, ⟨"FirstTimes", "joyOfDay", "(II)I"⟩, ⟨"FirstTimes", "pick", "(II)I"⟩, ⟨"FirstTimes", "liveByDraws", "(I)V"⟩, ⟨"FirstTimes", "draw", "(I)I"⟩, ⟨"FirstTimesModel", "in", "(III)Z"⟩, ⟨"FirstTimesModel", "has", "(II)Z"⟩, ⟨"FirstTimesModel", "<init>", "()V"⟩, ⟨"FirstTimesModel", "thrown", "()I"⟩, ⟨"FirstTimesModel", "byteOf", "(IIIIII)I"⟩, ⟨"FirstTimesModel", "feed", "(IIIII)I"⟩, ⟨"FirstTimesModel", "end", "(I)Z"⟩, ⟨"FirstTimesModel", "here", "()I"⟩, ⟨"FirstTimesModel", "look", "()I"⟩, ⟨"FirstTimesModel", "bad", "()V"⟩, ⟨"FirstTimesModel", "isDigit", "(I)Z"⟩, ⟨"FirstTimesModel", "put", "(II)V"⟩, ⟨"FirstTimesModel", "letterOf", "(I)I"⟩, ⟨"FirstTimesModel", "opens", "()V"⟩, ⟨"FirstTimesModel", "closes", "(I)V"⟩, ⟨"FirstTimesModel", "plainNumber", "()I"⟩, ⟨"FirstTimesModel", "atom", "()V"⟩, ⟨"FirstTimesModel", "term", "()V"⟩, ⟨"FirstTimesModel", "sum", "()V"⟩, ⟨"FirstTimesModel", "isSign", "(I)Z"⟩, ⟨"FirstTimesModel", "compare", "()V"⟩, ⟨"FirstTimesModel", "unit", "()V"⟩, ⟨"FirstTimesModel", "goOnAnd", "()V"⟩, ⟨"FirstTimesModel", "goOnOr", "()V"⟩, ⟨"FirstTimesModel", "condition", "()V"⟩, ⟨"FirstTimesModel", "clause", "()V"⟩, ⟨"FirstTimesModel", "open", "(I)V"⟩, ⟨"FirstTimesModel", "atEnd", "()I"⟩, ⟨"FirstTimesModel", "readLaw", "(I)I"⟩, ⟨"FirstTimesModel", "bounded", "(J)I"⟩, ⟨"FirstTimesModel", "worked", "(IJJ)I"⟩, ⟨"FirstTimesModel", "workOut", "(III)I"⟩, ⟨"FirstTimesModel", "worthOf", "(I)I"⟩, ⟨"FirstTimesModel", "number", "(II)I"⟩, ⟨"FirstTimesModel", "itemOf", "(II)I"⟩, ⟨"FirstTimesModel", "highest", "(II)I"⟩, ⟨"FirstTimesModel", "usual", "(II)I"⟩, ⟨"FirstTimesModel", "items", "(I[III)V"⟩, ⟨"FirstTimesModel", "clauseText", "()V"⟩, ⟨"FirstTimesModel", "areUnlike", "(II)Z"⟩, ⟨"FirstTimesModel", "isWhole", "()Z"⟩, ⟨"FirstTimesModel", "readMarket", "()I"⟩, ⟨"FirstTimesModel", "figure", "()I"⟩, ⟨"FirstTimesModel", "figureIf", "()I"⟩, ⟨"FirstTimesModel", "stepText", "(I)V"⟩, ⟨"FirstTimesModel", "readPlan", "(I)I"⟩, ⟨"FirstTimesModel", "fault", "(I)I"⟩, ⟨"FirstTimesModel", "takeMarket", "()I"⟩, ⟨"FirstTimesModel", "text", "(I)I"⟩, ⟨"FirstTimesModel", "isThing", "(I)Z"⟩, ⟨"FirstTimesModel", "isPerson", "(I)Z"⟩, ⟨"FirstTimesModel", "areTwo", "(II)Z"⟩, ⟨"FirstTimesModel", "firstsOf", "(II)I"⟩, ⟨"FirstTimesModel", "did", "(II)Z"⟩, ⟨"FirstTimesModel", "thing", "(II)I"⟩, ⟨"FirstTimesModel", "person", "(II)I"⟩, ⟨"FirstTimesModel", "firsts", "(II)I"⟩, ⟨"FirstTimesModel", "spoil", "(II)I"⟩, ⟨"FirstTimesModel", "coming", "(II)I"⟩, ⟨"FirstTimesModel", "taste", "(I)Z"⟩, ⟨"FirstTimesModel", "theft", "(I)Z"⟩, ⟨"FirstTimesModel", "wholeOf", "(II)I"⟩, ⟨"FirstTimesModel", "spoiltBy", "(II)I"⟩, ⟨"FirstTimesModel", "joyOf", "(II)I"⟩, ⟨"FirstTimesModel", "joy", "(III)I"⟩, ⟨"FirstTimesModel", "keep", "()V"⟩, ⟨"FirstTimesModel", "note", "(III)V"⟩, ⟨"FirstTimesModel", "haveFor", "(III)I"⟩, ⟨"FirstTimesModel", "haveNow", "(II)I"⟩, ⟨"FirstTimesModel", "canHave", "(II)Z"⟩, ⟨"FirstTimesModel", "have", "(II)I"⟩, ⟨"FirstTimesModel", "canSell", "(IIII)Z"⟩, ⟨"FirstTimesModel", "pay", "(III)V"⟩, ⟨"FirstTimesModel", "sellNow", "(IIII)V"⟩, ⟨"FirstTimesModel", "sell", "(IIII)I"⟩, ⟨"FirstTimesModel", "canSteal", "(III)Z"⟩, ⟨"FirstTimesModel", "stealNow", "(III)V"⟩, ⟨"FirstTimesModel", "steal", "(III)I"⟩, ⟨"FirstTimesModel", "pledge", "(IIIII)I"⟩, ⟨"FirstTimesModel", "ofPledge", "(II)I"⟩, ⟨"FirstTimesModel", "pledged", "(II)I"⟩, ⟨"FirstTimesModel", "dropPledge", "(I)V"⟩, ⟨"FirstTimesModel", "redeem", "(I)I"⟩, ⟨"FirstTimesModel", "endDay", "()V"⟩, ⟨"FirstTimesModel", "areDays", "(I)Z"⟩, ⟨"FirstTimesModel", "days", "(I)I"⟩, ⟨"FirstTimesModel", "undo", "()I"⟩, ⟨"FirstTimesModel", "log", "(II)I"⟩, ⟨"FirstTimesModel", "step", "(III)I"⟩, ⟨"FirstTimesModel", "canStep", "(I)Z"⟩, ⟨"FirstTimesModel", "doStep", "(I)V"⟩, ⟨"FirstTimesModel", "putAside", "()V"⟩, ⟨"FirstTimesModel", "takeBack", "()V"⟩, ⟨"FirstTimesModel", "joysOfAll", "()I"⟩, ⟨"FirstTimesModel", "isPlan", "(I)Z"⟩, ⟨"FirstTimesModel", "run", "(II)I"⟩, ⟨"FirstTimesModel", "perform", "(I)I"⟩, ⟨"FirstTimesModel", "writeOwn", "(II)V"⟩, ⟨"FirstTimesModel", "readOwn", "(II)V"⟩, ⟨"FirstTimesModel", "tryOrders", "(IIII)V"⟩, ⟨"FirstTimesModel", "layOrder", "(II)V"⟩, ⟨"FirstTimesModel", "order", "(III)I"⟩, ⟨"FirstTimesModel", "cleanRow", "(I)I"⟩, ⟨"FirstTimesModel", "mayCome", "(III)Z"⟩, ⟨"FirstTimesModel", "clean", "()I"⟩, ⟨"FirstTimesModel", "rings", "()I"⟩, ⟨"FirstTimesModel", "isHeldBySomebody", "(I)Z"⟩, ⟨"FirstTimesModel", "tryMatch", "(IIII)V"⟩, ⟨"FirstTimesModel", "pairing", "(I)I"⟩, ⟨"FirstTimesModel", "sale", "(II)I"⟩, ⟨"FirstTimesModel", "awaits", "(IIIII)I"⟩, ⟨"FirstTimesModel", "repeats", "(II)I"⟩, ⟨"FirstTimesModel", "spoilsOf", "(II)I"⟩, ⟨"FirstTimesModel", "chosenBy", "(II)I"⟩, ⟨"FirstTimesModel", "keptBy", "(III)I"⟩, ⟨"FirstTimesModel", "kept", "(III)I"⟩, ⟨"FirstTimesModel", "habit", "(III)I"⟩, ⟨"FirstTimesModel", "found", "(II)I"⟩, ⟨"FirstTimesModel", "couldHaveHad", "(I)Z"⟩, ⟨"FirstTimesModel", "must", "(I)I"⟩, ⟨"FirstTimesModel", "sure", "()I"⟩, ⟨"FirstTimesModel", "claim", "(IIII)I"⟩, ⟨"FirstTimesModel", "firstBy", "(IIZ)I"⟩, ⟨"FirstTimesModel", "isFirst", "(IIZ)Z"⟩, ⟨"FirstTimesModel", "could", "(I)I"⟩, ⟨"FirstTimesModel", "alone", "(I)I"⟩, ⟨"FirstTimesModel", "draw", "(I)I"⟩, ⟨"FirstTimesModel", "lucky", "(I)V"⟩, ⟨"FirstTimesModel", "years", "(IJ)I"⟩, ⟨"FirstTimesModel", "richest", "()I"⟩, ⟨"FirstTimesModel", "last", "(I)I"⟩, ⟨"FirstTimesModel", "image", "()I"⟩, ⟨"FirstTimesModel", "back", "()I"⟩, ⟨"FirstTimesModel", "count", "(I)I"⟩, ⟨"java/lang/Integer", "bitCount", "(I)I"⟩, ⟨"java/lang/Math", "max", "(II)I"⟩, ⟨"java/lang/Math", "max", "(JJ)J"⟩, ⟨"java/lang/Math", "min", "(II)I"⟩, ⟨"java/lang/Math", "min", "(JJ)J"⟩, ⟨"java/util/Arrays", "fill", "([II)V"⟩, ⟨"FirstTimesLaw", "law", "([I)Z"⟩, ⟨"FirstTimes", "person", "(II)I"⟩]
def yof (M : Nat) : MethodName := nthD ysL M ⟨"", "", ""⟩
def bysL : List ByteArray := [prog_2_method_1_code, prog_2_method_2_code, prog_2_method_3_code, prog_2_method_4_code, prog_2_method_5_code, prog_2_method_6_code, prog_2_method_7_code, prog_2_method_8_code, prog_3_method_1_code, prog_3_method_2_code, prog_3_method_3_code, prog_3_method_4_code, prog_3_method_5_code, prog_4_method_1_code, prog_4_method_2_code, prog_4_method_3_code, prog_4_method_4_code, prog_4_method_5_code, prog_5_method_1_code, prog_5_method_2_code, prog_5_method_3_code, prog_5_method_4_code, prog_5_method_5_code, prog_5_method_6_code, prog_5_method_7_code, prog_5_method_8_code, prog_5_method_9_code, prog_5_method_10_code, prog_5_method_11_code, prog_5_method_12_code, prog_5_method_13_code, prog_5_method_14_code, prog_5_method_15_code, prog_5_method_16_code, prog_5_method_17_code, prog_5_method_18_code, prog_5_method_19_code, prog_5_method_20_code, prog_5_method_21_code, prog_6_method_2_code, prog_6_method_3_code, prog_6_method_4_code, prog_6_method_5_code, prog_6_method_6_code, prog_7_method_1_code, prog_7_method_2_code, prog_7_method_3_code, prog_7_method_4_code, prog_8_method_1_code, prog_8_method_2_code, prog_8_method_3_code, prog_8_method_4_code, prog_8_method_5_code, prog_8_method_6_code, prog_8_method_7_code, prog_8_method_8_code, prog_9_method_1_code, prog_9_method_2_code, prog_9_method_3_code, prog_9_method_4_code, prog_9_method_5_code, prog_9_method_6_code, prog_10_method_1_code, prog_10_method_2_code, prog_10_method_3_code, prog_10_method_4_code, prog_10_method_5_code, prog_10_method_6_code, prog_10_method_7_code, prog_10_method_8_code, prog_10_method_9_code, prog_10_method_10_code, prog_10_method_11_code, prog_10_method_12_code, prog_10_method_13_code, prog_10_method_14_code, prog_10_method_15_code, prog_10_method_16_code, prog_10_method_17_code, prog_10_method_18_code, prog_10_method_19_code, prog_10_method_20_code, prog_10_method_21_code, prog_10_method_22_code, prog_10_method_23_code, prog_10_method_24_code, prog_10_method_25_code, prog_10_method_26_code, prog_10_method_27_code, prog_10_method_28_code, prog_10_method_29_code, prog_10_method_30_code, prog_10_method_31_code, prog_10_method_32_code, prog_10_method_33_code, prog_10_method_34_code, prog_10_method_35_code, prog_10_method_36_code, prog_11_method_1_code, prog_11_method_2_code, prog_11_method_3_code, prog_11_method_4_code, prog_11_method_5_code, prog_11_method_6_code, prog_11_method_7_code, prog_11_method_8_code, prog_11_method_9_code, prog_11_method_10_code, prog_12_method_1_code, prog_12_method_2_code, prog_12_method_3_code, prog_12_method_4_code, prog_12_method_5_code, prog_12_method_6_code, prog_12_method_7_code, prog_12_method_8_code, prog_12_method_9_code, prog_12_method_10_code, prog_12_method_11_code, prog_12_method_12_code, prog_12_method_13_code, prog_12_method_14_code, prog_12_method_15_code, prog_1_method_1_code, prog_1_method_2_code, prog_1_method_3_code, prog_1_method_4_code, prog_1_method_5_code, prog_1_method_6_code, prog_1_method_8_code, prog_1_method_9_code, prog_1_method_10_code, prog_1_method_11_code, prog_1_method_12_code, prog_1_method_13_code, prog_1_method_14_code, prog_1_method_15_code, prog_1_method_16_code, prog_1_method_17_code, prog_1_method_18_code, prog_1_method_19_code, prog_1_method_20_code, prog_1_method_21_code, prog_1_method_22_code, prog_1_method_23_code, prog_1_method_24_code, prog_1_method_25_code, prog_1_method_26_code, prog_1_method_27_code, prog_1_method_28_code, prog_1_method_29_code, prog_1_method_30_code, prog_1_method_31_code, prog_1_method_32_code, prog_1_method_33_code, prog_1_method_34_code, prog_1_method_35_code, prog_1_method_36_code, prog_1_method_37_code, prog_1_method_38_code, prog_1_method_39_code, prog_1_method_40_code, prog_1_method_41_code, prog_1_method_42_code, prog_1_method_43_code, prog_1_method_44_code, prog_1_method_45_code, prog_1_method_46_code, prog_1_method_47_code, prog_1_method_48_code, prog_1_method_49_code, prog_1_method_50_code, prog_1_method_51_code, prog_1_method_52_code, prog_1_method_53_code, prog_1_method_54_code, prog_1_method_55_code, prog_1_method_56_code, prog_1_method_57_code, prog_14_method_1_code, prog_14_method_2_code, prog_14_method_3_code, prog_14_method_4_code, prog_14_method_5_code, prog_14_method_6_code, prog_14_method_7_code, prog_14_method_8_code, prog_14_method_9_code, prog_14_method_10_code, prog_14_method_11_code, prog_14_method_12_code, prog_14_method_13_code, prog_14_method_14_code, prog_14_method_15_code, prog_14_method_16_code, prog_14_method_17_code, prog_14_method_18_code, prog_14_method_19_code, prog_14_method_20_code, prog_14_method_21_code, prog_14_method_22_code, prog_14_method_23_code, prog_14_method_24_code, prog_14_method_25_code, prog_14_method_26_code, prog_14_method_27_code, prog_14_method_28_code, prog_14_method_29_code, prog_14_method_30_code, prog_14_method_31_code, prog_14_method_32_code, prog_14_method_33_code, prog_14_method_34_code, prog_14_method_35_code, prog_14_method_36_code, prog_14_method_37_code, prog_14_method_38_code, prog_14_method_39_code, prog_14_method_40_code, prog_14_method_41_code, prog_14_method_42_code, prog_14_method_43_code, prog_14_method_44_code, prog_14_method_45_code, prog_14_method_46_code, prog_14_method_47_code, prog_14_method_48_code, prog_14_method_49_code, prog_14_method_50_code, prog_14_method_51_code, prog_14_method_52_code, prog_14_method_53_code, prog_14_method_54_code, prog_14_method_55_code, prog_14_method_56_code, prog_14_method_57_code, prog_14_method_58_code, prog_14_method_59_code, prog_14_method_60_code, prog_14_method_61_code, prog_14_method_62_code, prog_14_method_63_code, prog_14_method_64_code, prog_14_method_65_code, prog_14_method_66_code, prog_14_method_67_code, prog_14_method_68_code, prog_14_method_69_code, prog_14_method_70_code, prog_14_method_71_code, prog_14_method_72_code, prog_14_method_73_code, prog_14_method_74_code, prog_14_method_75_code, prog_14_method_76_code, prog_14_method_77_code, prog_14_method_78_code, prog_14_method_79_code, prog_14_method_80_code, prog_14_method_81_code, prog_14_method_82_code, prog_14_method_83_code, prog_14_method_84_code, prog_14_method_85_code, prog_14_method_86_code, prog_14_method_87_code, prog_14_method_88_code, prog_14_method_89_code, prog_14_method_90_code, prog_14_method_91_code, prog_14_method_92_code, prog_14_method_93_code, prog_14_method_94_code, prog_14_method_95_code, prog_14_method_96_code, prog_14_method_97_code, prog_14_method_98_code, prog_14_method_99_code, prog_14_method_100_code, prog_14_method_101_code, prog_14_method_102_code, prog_14_method_103_code, prog_14_method_104_code, prog_14_method_105_code, prog_14_method_106_code, prog_14_method_107_code, prog_14_method_108_code, prog_14_method_109_code, prog_14_method_110_code, prog_14_method_111_code, prog_14_method_112_code, prog_14_method_113_code, prog_14_method_114_code, prog_14_method_115_code, prog_14_method_116_code, prog_14_method_117_code, prog_14_method_118_code, prog_14_method_119_code, prog_14_method_120_code, prog_14_method_121_code, prog_14_method_122_code, prog_14_method_123_code, prog_14_method_124_code, prog_14_method_125_code, prog_14_method_126_code, prog_14_method_127_code, prog_14_method_128_code, prog_14_method_129_code, prog_14_method_130_code, prog_14_method_131_code, prog_14_method_132_code, prog_14_method_133_code, prog_14_method_134_code, prog_17_method_49_code, prog_18_method_65_code, prog_18_method_66_code, prog_18_method_69_code, prog_18_method_70_code, prog_23_method_103_code, code, prog_1_method_7_code]
def byt (M : Nat) : ByteArray := nthD bysL M ⟨#[]⟩
def rtT (z : Nat) : Option FieldType := match z with
  | 0 => none
  | 1 => some .int
  | 2 => some .long
  | _ => some .boolean
def rty (M : Nat) : Option FieldType := rtT (mtb M).2.2.1
def fTL : List (List (String × String × String × Bool)) := [[("FirstTimes$Evidence", "foundThing", "[I", true), ("FirstTimes$Evidence", "foundSpoilt", "[I", true), ("FirstTimes$Evidence", "claimPerson", "[I", true), ("FirstTimes$Evidence", "claimThing", "[I", true), ("FirstTimes$Evidence", "claimFrom", "[I", true), ("FirstTimes$Evidence", "claimTo", "[I", true), ("FirstTimes$Evidence", "from", "[I", true), ("FirstTimes$Evidence", "to", "[I", true), ("FirstTimes$Evidence", "founds", "I", false), ("FirstTimes$Evidence", "claims", "I", false)], [("FirstTimes$Eye", "market", "LFirstTimes$Market;", true), ("FirstTimes$Eye", "tastes", "LFirstTimes$Tastes;", true), ("FirstTimes$Eye", "letters", "[I", true), ("FirstTimes$Eye", "wholes", "[I", true)], [("FirstTimes$Having", "market", "LFirstTimes$Market;", true), ("FirstTimes$Having", "eye", "LFirstTimes$Eye;", true), ("FirstTimes$Having", "what", "[I", true), ("FirstTimes$Having", "gave", "[I", true), ("FirstTimes$Having", "size", "I", false), ("FirstTimes$Having", "total", "I", false), ("FirstTimes$Having", "had", "I", false), ("FirstTimes$Having", "held", "I", false)], [("FirstTimes$Market", "counts", "[I", true), ("FirstTimes$Market", "rows", "[I", true)], [("FirstTimes$Past", "rows", "[I", true), ("FirstTimes$Past", "next", "I", false), ("FirstTimes$Past", "size", "I", false)], [("FirstTimes$Plans", "steps", "[[I", true), ("FirstTimes$Plans", "sizes", "[I", true), ("FirstTimes$Plans", "tape", "LFirstTimes$Tape;", true), ("FirstTimes$Plans", "count", "I", false)], [("FirstTimes$Sets", "market", "LFirstTimes$Market;", true), ("FirstTimes$Sets", "having", "LFirstTimes$Having;", true), ("FirstTimes$Sets", "best", "[I", true), ("FirstTimes$Sets", "lengths", "[I", true), ("FirstTimes$Sets", "digits", "[I", true), ("FirstTimes$Sets", "offers", "[I", true)], [("FirstTimes$State", "market", "LFirstTimes$Market;", true), ("FirstTimes$State", "cells", "[I", true)], [("FirstTimes$Tape", "bytes", "[I", true), ("FirstTimes$Tape", "length", "I", false), ("FirstTimes$Tape", "at", "I", false), ("FirstTimes$Tape", "wrong", "I", false)], [("FirstTimes$Tastes", "codes", "[[I", true), ("FirstTimes$Tastes", "sizes", "[I", true), ("FirstTimes$Tastes", "waiting", "[I", true), ("FirstTimes$Tastes", "tape", "LFirstTimes$Tape;", true), ("FirstTimes$Tastes", "count", "I", false), ("FirstTimes$Tastes", "holding", "I", false)], [("FirstTimes", "tape", "LFirstTimes$Tape;", true), ("FirstTimes", "market", "LFirstTimes$Market;", true), ("FirstTimes", "draft", "LFirstTimes$Market;", true), ("FirstTimes", "tastes", "LFirstTimes$Tastes;", true), ("FirstTimes", "plans", "LFirstTimes$Plans;", true), ("FirstTimes", "now", "LFirstTimes$State;", true), ("FirstTimes", "apart", "LFirstTimes$State;", true), ("FirstTimes", "past", "LFirstTimes$Past;", true), ("FirstTimes", "image", "[I", true), ("FirstTimes", "eye", "LFirstTimes$Eye;", true), ("FirstTimes", "having", "LFirstTimes$Having;", true), ("FirstTimes", "sets", "LFirstTimes$Sets;", true), ("FirstTimes", "evidence", "LFirstTimes$Evidence;", true), ("FirstTimes", "imaged", "Z", false), ("FirstTimes", "thefts", "I", false), ("FirstTimes", "drawn", "J", false)], [("FirstTimesModel", "thrown", "I", false), ("FirstTimesModel", "tape", "[I", true), ("FirstTimesModel", "size", "I", false), ("FirstTimesModel", "at", "I", false), ("FirstTimesModel", "wrong", "I", false), ("FirstTimesModel", "deep", "I", false), ("FirstTimesModel", "code", "[I", true), ("FirstTimesModel", "value", "[I", true), ("FirstTimesModel", "codes", "[I", true), ("FirstTimesModel", "clauses", "[I", true), ("FirstTimesModel", "testFrom", "[I", true), ("FirstTimesModel", "sumFrom", "[I", true), ("FirstTimesModel", "sumTo", "[I", true), ("FirstTimesModel", "laws", "I", false), ("FirstTimesModel", "text", "I", false), ("FirstTimesModel", "letters", "[I", true), ("FirstTimesModel", "stack", "[I", true), ("FirstTimesModel", "readThing", "[I", true), ("FirstTimesModel", "readPerson", "[I", true), ("FirstTimesModel", "readSpoil", "[I", true), ("FirstTimesModel", "readComing", "[I", true), ("FirstTimesModel", "readThings", "I", false), ("FirstTimesModel", "readPersons", "I", false), ("FirstTimesModel", "readSpoils", "I", false), ("FirstTimesModel", "readComings", "I", false), ("FirstTimesModel", "steps", "[I", true), ("FirstTimesModel", "planLong", "[I", true), ("FirstTimesModel", "plans", "I", false), ("FirstTimesModel", "now", "[I", true), ("FirstTimesModel", "toldValue", "[I", true), ("FirstTimesModel", "rise", "[I", true), ("FirstTimesModel", "likes", "[I", true), ("FirstTimesModel", "spoilFrom", "[I", true), ("FirstTimesModel", "spoilTo", "[I", true), ("FirstTimesModel", "spoilParts", "[I", true), ("FirstTimesModel", "comeFrom", "[I", true), ("FirstTimesModel", "comeTo", "[I", true), ("FirstTimesModel", "things", "I", false), ("FirstTimesModel", "persons", "I", false), ("FirstTimesModel", "spoils", "I", false), ("FirstTimesModel", "comings", "I", false), ("FirstTimesModel", "theft", "I", false), ("FirstTimesModel", "holding", "I", false), ("FirstTimesModel", "isQuiet", "Z", false), ("FirstTimesModel", "kept", "[I", true), ("FirstTimesModel", "acts", "I", false), ("FirstTimesModel", "aside", "[I", true), ("FirstTimesModel", "ownRows", "[I", true), ("FirstTimesModel", "orderRow", "I", false), ("FirstTimesModel", "orderLong", "I", false), ("FirstTimesModel", "orderJoy", "I", false), ("FirstTimesModel", "matchRow", "I", false), ("FirstTimesModel", "matchMost", "I", false), ("FirstTimesModel", "foundThing", "[I", true), ("FirstTimesModel", "foundParts", "[I", true), ("FirstTimesModel", "founds", "I", false), ("FirstTimesModel", "claimBy", "[I", true), ("FirstTimesModel", "claimThing", "[I", true), ("FirstTimesModel", "claimLow", "[I", true), ("FirstTimesModel", "claimHigh", "[I", true), ("FirstTimesModel", "claims", "I", false), ("FirstTimesModel", "draws", "J", false), ("FirstTimesModel", "image", "[I", true), ("FirstTimesModel", "hasImage", "Z", false)]]
def fT (c : Nat) : u_T := fun k => nthD (nthD fTL c []) k ("", "", "", false)
def fNL : List Nat := [10, 4, 8, 2, 3, 4, 6, 2, 4, 6, 16, 64]
def fN (c : Nat) : Nat := nthD fNL c 0
def oCL : List Nat := [0, 1, 2, 3, 5, 6, 7, 8, 9, 10, 11, 12]
/-- the name of the class whose objects have the number c -/
def oC (c : Nat) : String := cnm (nthD oCL c 99)
/-- sort of a field: 0 int, 1 reference, 2 long, 3 boolean -/
def fgL : List (List Nat) := [[1, 1, 1, 1, 1, 1, 1, 1, 0, 0], [1, 1, 1, 1], [1, 1, 1, 1, 0, 0, 0, 0], [1, 1], [1, 0, 0], [1, 1, 1, 0], [1, 1, 1, 1, 1, 1], [1, 1], [1, 0, 0, 0], [1, 1, 1, 1, 0, 0], [1, 1, 1, 1, 1, 1, 1, 1, 1, 1, 1, 1, 1, 3, 0, 2], [0, 1, 0, 0, 0, 0, 1, 1, 1, 1, 1, 1, 1, 0, 0, 1, 1, 1, 1, 1, 1, 0, 0, 0, 0, 1, 1, 0, 1, 1, 1, 1, 1, 1, 1, 1, 1, 0, 0, 0, 0, 0, 0, 3, 1, 0, 1, 1, 0, 0, 0, 0, 0, 1, 1, 0, 1, 1, 1, 1, 0, 2, 1, 3]]
def fg (c k : Nat) : Nat := nthD (nthD fgL c []) k 0
def FLk : List (Nat × Nat × Nat × Nat) := [(11, 10, 10, 0), (11, 19, 10, 1), (11, 23, 10, 2), (11, 31, 10, 3), (11, 38, 10, 4), (11, 47, 10, 5), (11, 51, 10, 6), (11, 57, 10, 7), (11, 61, 10, 8), (11, 70, 10, 9), (11, 79, 10, 10), (11, 88, 10, 11), (11, 95, 10, 12), (11, 103, 8, 1), (11, 115, 8, 3), (11, 160, 9, 4), (11, 163, 9, 5), (11, 166, 10, 14), (11, 185, 7, 1), (11, 248, 4, 2), (11, 294, 6, 2), (11, 297, 6, 3), (11, 300, 6, 4), (11, 318, 6, 5), (11, 367, 10, 15), (11, 383, 10, 13), (11, 390, 3, 0), (11, 393, 5, 3), (11, 394, 0, 8), (11, 397, 0, 9), (11, 422, 2, 4), (11, 423, 2, 2), (11, 426, 2, 3), (11, 432, 2, 5), (0, 11, 0, 0), (0, 15, 0, 1), (0, 18, 0, 2), (0, 21, 0, 3), (0, 24, 0, 4), (0, 27, 0, 5), (0, 32, 0, 6), (0, 35, 0, 7), (0, 38, 0, 8), (0, 42, 0, 9), (1, 11, 1, 2), (1, 19, 1, 3), (1, 22, 1, 0), (1, 26, 1, 1), (1, 67, 9, 5), (2, 9, 2, 2), (2, 15, 2, 3), (2, 18, 2, 0), (2, 22, 2, 1), (2, 26, 2, 4), (2, 30, 2, 5), (2, 33, 2, 6), (2, 36, 2, 7), (2, 52, 3, 0), (3, 11, 3, 0), (3, 15, 3, 1), (4, 32, 8, 1), (4, 54, 8, 2), (5, 11, 4, 0), (5, 15, 4, 1), (5, 25, 4, 2), (6, 13, 5, 0), (6, 16, 5, 1), (6, 20, 5, 2), (6, 24, 5, 3), (6, 57, 8, 2), (7, 13, 6, 2), (7, 17, 6, 3), (7, 20, 6, 4), (7, 23, 6, 5), (7, 26, 6, 0), (7, 30, 6, 1), (7, 55, 2, 6), (7, 59, 2, 5), (7, 65, 3, 0), (8, 13, 7, 1), (8, 17, 7, 0), (9, 11, 8, 0), (9, 15, 8, 1), (9, 19, 8, 2), (9, 22, 8, 3), (10, 13, 9, 0), (10, 18, 9, 1), (10, 22, 9, 2), (10, 25, 9, 5), (10, 29, 9, 3), (10, 36, 9, 4), (10, 54, 8, 1), (10, 80, 8, 2), (12, 9, 11, 1), (12, 13, 11, 6), (12, 16, 11, 7), (12, 19, 11, 8), (12, 22, 11, 9), (12, 25, 11, 10), (12, 28, 11, 11), (12, 31, 11, 12), (12, 34, 11, 15), (12, 37, 11, 16), (12, 40, 11, 17), (12, 43, 11, 18), (12, 46, 11, 19), (12, 49, 11, 20), (12, 52, 11, 25), (12, 55, 11, 26), (12, 58, 11, 28), (12, 61, 11, 29), (12, 64, 11, 30), (12, 67, 11, 31), (12, 70, 11, 32), (12, 73, 11, 33), (12, 76, 11, 34), (12, 79, 11, 35), (12, 82, 11, 36), (12, 85, 11, 42), (12, 89, 11, 44), (12, 92, 11, 46), (12, 95, 11, 47), (12, 98, 11, 53), (12, 101, 11, 54), (12, 104, 11, 56), (12, 107, 11, 57), (12, 110, 11, 58), (12, 113, 11, 59), (12, 116, 11, 62), (12, 119, 11, 0), (12, 126, 11, 2), (12, 129, 11, 3), (12, 136, 11, 4), (12, 139, 11, 14), (12, 142, 11, 5), (12, 255, 11, 21), (12, 262, 11, 22), (12, 265, 11, 23), (12, 268, 11, 24), (12, 299, 11, 37), (12, 302, 11, 38), (12, 305, 11, 39), (12, 308, 11, 40), (12, 311, 11, 55), (12, 314, 11, 60), (12, 317, 11, 45), (12, 320, 11, 63), (12, 327, 11, 13), (12, 330, 11, 27), (12, 342, 11, 41), (12, 366, 11, 43), (12, 448, 11, 50), (12, 451, 11, 49), (12, 454, 11, 48), (12, 466, 11, 51), (12, 469, 11, 52), (12, 502, 11, 61)]
def FLw (f : Nat × Nat × Nat × Nat) : Cond := .fieldLink (cnm f.1) f.2.1 (fT f.2.2.1 f.2.2.2).1 (fT f.2.2.1 f.2.2.2).2.1 (fT f.2.2.1 f.2.2.2).2.2.1
def FLi : List (Nat × Nat) := [(2, 39), (2, 40), (2, 41), (2, 42), (2, 43), (2, 44), (2, 45), (2, 46), (2, 47), (2, 48), (2, 49), (2, 50), (2, 51), (1, 37), (1, 46), (1, 86), (1, 89), (2, 53), (1, 132), (1, 147), (1, 220), (1, 222), (1, 224), (1, 226), (2, 54), (2, 52), (1, 66), (1, 114), (2, 15), (2, 17), (1, 187), (1, 183), (1, 185), (1, 190), (2, 6), (2, 7), (2, 8), (2, 9), (2, 10), (2, 11), (2, 12), (2, 13), (2, 14), (2, 16), (1, 163), (1, 164), (1, 161), (1, 162), (1, 88), (1, 182), (1, 184), (1, 180), (1, 181), (1, 186), (1, 188), (1, 191), (1, 193), (1, 65), (1, 63), (1, 67), (1, 38), (1, 41), (1, 144), (1, 145), (1, 146), (1, 110), (1, 111), (1, 112), (1, 113), (1, 43), (1, 219), (1, 221), (1, 223), (1, 225), (1, 217), (1, 218), (1, 192), (1, 189), (1, 64), (1, 131), (1, 130), (1, 36), (1, 40), (1, 42), (1, 45), (1, 81), (1, 82), (1, 83), (1, 87), (1, 84), (1, 85), (1, 39), (1, 44), (5, 228), (5, 233), (5, 234), (5, 235), (5, 236), (5, 237), (5, 238), (5, 239), (6, 2), (6, 3), (6, 4), (6, 5), (6, 6), (6, 7), (6, 12), (6, 13), (6, 15), (6, 16), (6, 17), (6, 18), (6, 19), (6, 20), (6, 21), (6, 22), (6, 23), (6, 29), (6, 31), (6, 33), (6, 34), (6, 40), (6, 41), (6, 43), (6, 44), (6, 45), (6, 46), (6, 49), (5, 227), (5, 229), (5, 230), (5, 231), (6, 1), (5, 232), (6, 8), (6, 9), (6, 10), (6, 11), (6, 24), (6, 25), (6, 26), (6, 27), (6, 42), (6, 47), (6, 32), (6, 50), (6, 0), (6, 14), (6, 28), (6, 30), (6, 37), (6, 36), (6, 35), (6, 38), (6, 39), (6, 48)]
def stL : List (String × String × String) := [("FirstTimes$MarketReader", "KIND_SIGNS", "[C"), ("FirstTimes$Market", "MOST", "[I"), ("FirstTimes$Market", "UNTOLD", "[I"), ("FirstTimes$MarketReader", "ITEM_SIGNS", "[C"), ("FirstTimes$MarketReader", "LOWEST", "[I"), ("FirstTimes$MarketReader", "HIGHEST", "[I"), ("FirstTimes$Market", "ITEMS", "[I"), ("FirstTimes$Tastes", "LETTERS", "[C"), ("FirstTimes$Sets", "TENS", "[I")]
def stn (x : Nat) : String × String × String := nthD stL (x - 2) ("", "", "")
def SLk : List (Nat × Nat × Nat) := [(3, 30, 3), (3, 33, 4), (3, 36, 8), (4, 72, 6), (4, 76, 7), (4, 83, 2), (4, 87, 5), (7, 62, 10), (10, 93, 9)]
def SLw (f : Nat × Nat × Nat) : Cond := .fieldLink (cnm f.1) f.2.1 (stn f.2.2).1 (stn f.2.2).2.1 (stn f.2.2).2.2
def SLi : List (Nat × Nat) := [(2, 141), (2, 151), (2, 190), (2, 170), (2, 172), (2, 135), (2, 159), (4, 194), (3, 0)]
def MLk : List (Nat × Nat × Nat) := [(11, 99, 99), (11, 107, 100), (11, 111, 168), (11, 118, 169), (11, 122, 110), (11, 125, 52), (11, 126, 24), (11, 130, 30), (11, 140, 69), (11, 143, 70), (11, 146, 71), (11, 149, 72), (11, 152, 31), (11, 156, 73), (11, 169, 34), (11, 172, 9), (11, 176, 11), (11, 179, 12), (11, 182, 79), (11, 188, 45), (11, 192, 171), (11, 196, 80), (11, 200, 82), (11, 204, 81), (11, 208, 83), (11, 212, 86), (11, 216, 89), (11, 220, 85), (11, 223, 87), (11, 226, 88), (11, 229, 90), (11, 232, 91), (11, 235, 170), (11, 238, 93), (11, 241, 68), (11, 244, 46), (11, 251, 96), (11, 254, 97), (11, 257, 51), (11, 258, 49), (11, 261, 25), (11, 265, 64), (11, 268, 76), (11, 271, 50), (11, 274, 172), (11, 278, 173), (11, 282, 28), (11, 285, 26), (11, 288, 74), (11, 291, 57), (11, 303, 36), (11, 306, 59), (11, 309, 75), (11, 312, 60), (11, 315, 27), (11, 321, 61), (11, 324, 29), (11, 327, 314), (11, 336, 94), (11, 339, 313), (11, 344, 174), (11, 347, 2), (11, 350, 3), (11, 354, 4), (11, 358, 5), (11, 361, 6), (11, 364, 7), (11, 371, 177), (11, 374, 77), (11, 387, 47), (11, 400, 39), (11, 406, 109), (11, 409, 53), (11, 410, 20), (11, 412, 63), (11, 415, 1), (11, 416, 14), (11, 419, 15), (11, 429, 95), (11, 435, 175), (11, 438, 176), (11, 441, 35), (11, 444, 178), (11, 447, 78), (0, 45, 34), (0, 49, 314), (0, 55, 318), (0, 61, 316), (1, 30, 68), (1, 36, 70), (1, 40, 316), (1, 46, 69), (1, 49, 72), (1, 52, 313), (1, 57, 26), (1, 60, 10), (1, 63, 24), (1, 71, 121), (1, 75, 314), (1, 78, 34), (2, 39, 12), (2, 45, 16), (2, 49, 17), (2, 55, 24), (3, 18, 318), (3, 39, 30), (3, 43, 29), (3, 46, 24), (3, 50, 33), (3, 53, 316), (3, 59, 28), (3, 63, 26), (3, 66, 37), (3, 70, 35), (4, 9, 19), (4, 14, 101), (4, 19, 40), (4, 25, 103), (4, 29, 32), (4, 36, 104), (4, 40, 105), (4, 43, 102), (4, 47, 42), (4, 51, 21), (4, 57, 22), (4, 61, 43), (4, 65, 41), (4, 69, 107), (4, 79, 23), (5, 28, 316), (6, 28, 49), (6, 32, 50), (6, 36, 101), (6, 41, 318), (6, 47, 54), (6, 50, 103), (6, 54, 105), (6, 60, 104), (6, 63, 102), (6, 67, 55), (6, 70, 106), (6, 73, 107), (7, 34, 28), (7, 38, 58), (7, 42, 26), (7, 45, 14), (7, 51, 15), (7, 68, 38), (7, 72, 316), (7, 77, 318), (8, 21, 318), (8, 27, 27), (8, 31, 65), (8, 35, 24), (8, 39, 26), (8, 42, 66), (8, 51, 73), (8, 54, 74), (8, 58, 71), (8, 61, 85), (8, 64, 88), (8, 67, 81), (8, 71, 31), (8, 75, 79), (8, 78, 30), (8, 82, 69), (8, 85, 84), (8, 89, 83), (8, 92, 67), (8, 95, 68), (8, 98, 87), (8, 101, 92), (8, 105, 70), (8, 108, 316), (8, 113, 96), (9, 25, 102), (9, 29, 104), (10, 33, 101), (10, 39, 112), (10, 43, 111), (10, 47, 103), (10, 50, 105), (10, 57, 104), (10, 60, 102), (10, 64, 115), (10, 68, 114), (10, 71, 113), (10, 74, 118), (10, 77, 117), (10, 83, 116), (10, 87, 120), (10, 90, 119), (10, 97, 107), (10, 101, 122), (10, 109, 317), (10, 115, 315), (13, 19, 124), (13, 23, 184), (13, 24, 125), (13, 28, 185), (13, 29, 126), (13, 33, 225), (13, 34, 127), (13, 37, 227), (13, 38, 128), (13, 41, 233), (13, 47, 234), (13, 48, 182), (13, 52, 129), (13, 55, 235), (13, 56, 130), (13, 59, 236), (13, 60, 131), (13, 63, 237), (13, 64, 132), (13, 67, 238), (13, 68, 133), (13, 71, 239), (13, 72, 134), (13, 76, 243), (13, 77, 135), (13, 80, 249), (13, 81, 136), (13, 85, 253), (13, 86, 137), (13, 89, 256), (13, 90, 138), (13, 93, 257), (13, 94, 139), (13, 97, 259), (13, 98, 140), (13, 101, 261), (13, 102, 141), (13, 105, 264), (13, 106, 142), (13, 109, 265), (13, 110, 143), (13, 113, 266), (13, 114, 144), (13, 117, 267), (13, 118, 145), (13, 121, 274), (13, 122, 146), (13, 125, 275), (13, 126, 147), (13, 129, 280), (13, 130, 148), (13, 133, 283), (13, 134, 149), (13, 137, 284), (13, 138, 150), (13, 141, 287), (13, 142, 151), (13, 145, 288), (13, 146, 152), (13, 149, 289), (13, 150, 153), (13, 153, 290), (13, 154, 154), (13, 157, 294), (13, 158, 155), (13, 161, 295), (13, 162, 156), (13, 165, 296), (13, 166, 157), (13, 169, 298), (13, 170, 158), (13, 173, 299), (13, 174, 159), (13, 177, 300), (13, 178, 160), (13, 181, 303), (13, 182, 161), (13, 185, 304), (13, 188, 162), (13, 192, 307), (13, 193, 163), (13, 196, 308), (13, 197, 164), (13, 200, 309), (13, 201, 165), (13, 204, 310), (13, 205, 166), (13, 208, 311), (13, 209, 167), (13, 212, 312), (12, 122, 183), (12, 132, 186), (12, 145, 188), (12, 148, 187), (12, 151, 189), (12, 155, 194), (12, 158, 190), (12, 162, 191), (12, 166, 192), (12, 169, 197), (12, 172, 193), (12, 176, 195), (12, 179, 196), (12, 182, 198), (12, 185, 200), (12, 188, 203), (12, 191, 199), (12, 194, 201), (12, 197, 202), (12, 200, 205), (12, 203, 204), (12, 206, 206), (12, 213, 317), (12, 219, 315), (12, 222, 208), (12, 226, 209), (12, 230, 210), (12, 234, 179), (12, 238, 215), (12, 242, 213), (12, 245, 180), (12, 249, 214), (12, 252, 212), (12, 258, 216), (12, 271, 218), (12, 274, 217), (12, 277, 219), (12, 281, 221), (12, 284, 222), (12, 287, 223), (12, 290, 220), (12, 293, 207), (12, 296, 224), (12, 324, 226), (12, 333, 229), (12, 336, 228), (12, 339, 231), (12, 345, 313), (12, 350, 211), (12, 353, 316), (12, 355, 314), (12, 357, 240), (12, 360, 241), (12, 363, 242), (12, 369, 245), (12, 373, 232), (12, 376, 246), (12, 379, 248), (12, 382, 244), (12, 385, 247), (12, 388, 230), (12, 391, 251), (12, 394, 250), (12, 398, 252), (12, 402, 254), (12, 405, 255), (12, 408, 258), (12, 411, 260), (12, 414, 263), (12, 417, 262), (12, 420, 273), (12, 424, 270), (12, 427, 272), (12, 430, 268), (12, 433, 269), (12, 436, 271), (12, 439, 276), (12, 442, 278), (12, 445, 277), (12, 457, 279), (12, 460, 282), (12, 463, 281), (12, 472, 286), (12, 475, 285), (12, 482, 291), (12, 485, 292), (12, 488, 293), (12, 491, 297), (12, 494, 301), (12, 498, 302), (12, 510, 305), (12, 513, 306)]
def MLw (f : Nat × Nat × Nat) : Cond := .methodLink (cnm f.1) f.2.1 (yof f.2.2)
def MLi : List (Nat × Nat) := [(2, 92), (2, 95), (2, 107), (3, 41), (3, 78), (3, 82), (3, 90), (4, 177), (4, 31), (5, 219), (5, 220), (3, 127), (3, 95), (3, 103), (3, 131), (3, 138), (3, 186), (3, 190), (3, 199), (3, 205), (3, 211), (4, 12), (4, 19), (4, 36), (4, 40), (4, 45), (4, 53), (4, 60), (4, 65), (4, 69), (4, 77), (4, 83), (4, 95), (4, 104), (4, 103), (4, 113), (4, 121), (4, 122), (4, 130), (4, 146), (4, 99), (4, 148), (4, 152), (4, 160), (4, 161), (4, 165), (4, 178), (3, 77), (3, 215), (4, 182), (4, 200), (4, 218), (4, 231), (4, 236), (5, 1), (5, 2), (5, 10), (5, 11), (5, 22), (5, 26), (5, 31), (5, 52), (5, 60), (5, 73), (5, 82), (5, 89), (5, 97), (5, 105), (5, 128), (3, 69), (2, 111), (2, 204), (3, 15), (3, 45), (3, 49), (3, 73), (3, 219), (3, 223), (3, 237), (5, 35), (5, 39), (5, 43), (5, 109), (5, 115), (5, 64), (5, 77), (5, 87), (5, 88), (3, 142), (3, 146), (3, 150), (3, 151), (3, 155), (3, 156), (3, 162), (3, 163), (3, 167), (3, 168), (3, 183), (3, 194), (3, 227), (3, 228), (3, 232), (3, 236), (2, 118), (3, 99), (2, 192), (2, 186), (2, 196), (3, 135), (4, 204), (4, 205), (4, 206), (4, 210), (2, 114), (2, 121), (2, 125), (2, 178), (2, 182), (2, 143), (2, 200), (2, 128), (2, 132), (2, 137), (2, 147), (2, 156), (2, 161), (2, 164), (2, 174), (3, 210), (4, 138), (4, 134), (3, 19), (3, 20), (3, 21), (3, 36), (3, 34), (3, 29), (3, 25), (3, 26), (3, 30), (3, 35), (4, 186), (4, 187), (4, 191), (4, 192), (4, 193), (4, 222), (4, 226), (5, 0), (3, 53), (3, 54), (3, 58), (3, 61), (3, 62), (3, 66), (3, 204), (4, 235), (4, 156), (4, 49), (4, 82), (5, 119), (3, 203), (4, 16), (4, 17), (4, 18), (4, 23), (4, 27), (4, 57), (4, 7), (4, 81), (4, 87), (4, 108), (4, 5), (4, 1), (2, 168), (2, 169), (2, 208), (2, 209), (2, 228), (3, 14), (2, 213), (2, 223), (2, 214), (2, 215), (2, 224), (3, 10), (2, 232), (3, 7), (2, 219), (2, 236), (3, 3), (3, 2), (3, 172), (3, 177), (3, 180), (2, 88), (6, 184), (2, 99), (6, 191), (2, 103), (6, 195), (3, 37), (7, 99), (3, 86), (7, 107), (7, 115), (6, 180), (3, 91), (7, 123), (3, 107), (7, 131), (3, 111), (7, 135), (3, 115), (7, 139), (3, 119), (7, 143), (3, 123), (7, 147), (3, 195), (7, 184), (4, 8), (7, 212), (4, 32), (7, 232), (4, 41), (8, 4), (4, 61), (8, 8), (4, 73), (8, 16), (4, 91), (8, 24), (4, 109), (8, 36), (4, 117), (8, 40), (4, 126), (8, 44), (4, 142), (8, 48), (4, 169), (8, 77), (4, 173), (8, 81), (4, 196), (8, 101), (4, 214), (8, 113), (4, 227), (8, 117), (5, 6), (8, 129), (5, 12), (8, 133), (5, 18), (8, 139), (5, 27), (8, 143), (5, 44), (8, 159), (5, 48), (8, 163), (5, 56), (8, 167), (5, 65), (8, 175), (5, 69), (8, 179), (5, 78), (8, 183), (5, 93), (8, 195), (5, 101), (8, 199), (5, 120), (8, 213), (5, 124), (8, 217), (5, 132), (8, 221), (5, 137), (8, 225), (5, 141), (8, 229), (6, 188), (6, 211), (6, 238), (6, 207), (6, 235), (7, 57), (7, 37), (7, 61), (7, 33), (7, 45), (7, 41), (7, 53), (7, 49), (7, 68), (7, 29), (7, 25), (7, 64), (7, 71), (7, 75), (7, 17), (7, 21), (7, 79), (7, 172), (7, 173), (7, 167), (7, 164), (7, 160), (7, 2), (6, 219), (6, 222), (6, 225), (6, 228), (6, 231), (6, 215), (7, 9), (6, 203), (7, 5), (7, 95), (7, 91), (7, 87), (6, 199), (7, 13), (7, 83), (7, 103), (7, 119), (7, 111), (7, 127), (7, 155), (7, 156), (7, 174), (7, 175), (7, 151), (7, 176), (7, 180), (7, 204), (7, 208), (7, 200), (7, 188), (7, 192), (7, 196), (7, 220), (7, 228), (7, 216), (7, 224), (7, 236), (8, 0), (8, 12), (8, 20), (8, 28), (8, 32), (8, 52), (8, 57), (8, 61), (8, 65), (8, 69), (8, 73), (8, 93), (8, 89), (8, 97), (8, 85), (8, 109), (8, 105), (8, 125), (8, 121), (8, 155), (8, 151), (8, 147), (8, 171), (8, 191), (8, 187), (8, 207), (8, 203)]
def CLk : List (Nat × Nat × Int) := [(11, 264, -1000000), (0, 54, 1000000), (12, 423, -1000000), (14, 265, 1431655765), (14, 266, 858993459), (14, 267, 252645135)]
def CLw (f : Nat × Nat × Int) : Cond := .constant (cnm f.1) f.2.1 (Int32.ofInt f.2.2)
def CLi : List (Nat × Nat) := [(4, 147), (5, 86), (8, 56), (3, 159), (3, 160), (3, 161)]
def CJk : List (Nat × Nat × Int) := [(11, 332, 1000000000), (11, 334, 100), (11, 450, 6364136223846793005), (11, 452, 1442695040888963407), (10, 105, -1000000), (10, 107, 1000000), (13, 186, 4294967295), (12, 209, -1000000), (12, 211, 1000000), (12, 478, 1000000000), (12, 480, 100), (12, 506, 6364136223846793005), (12, 508, 1442695040888963407)]
def CJw (f : Nat × Nat × Int) : Cond := .constantLong (cnm f.1) f.2.1 (Int64.ofInt f.2.2)
def CJi : List (Nat × Nat) := [(5, 16), (5, 17), (5, 113), (5, 114), (3, 175), (3, 176), (8, 233), (7, 170), (7, 171), (8, 137), (8, 138), (8, 211), (8, 212)]
def ACk : List (Nat × Nat) := [(11, 377), (3, 24), (5, 19), (8, 45)]
def ACw (f : Nat × Nat) : Cond := .methodLink (cnm f.1) f.2 arraycopyName
def ACi : List (Nat × Nat) := [(5, 136), (2, 153), (3, 209), (4, 6)]
def ACs : List Cond := [.native arraycopyName, .static arraycopyName, .initialized "java/lang/System"]
def ACj : List (Nat × Nat) := [(2, 155), (2, 154), (1, 15)]
def mIns : List Nat := [1, 2, 3, 4, 5, 6, 7, 9, 10, 11, 12, 14, 15, 16, 17, 19, 20, 21, 22, 23, 24, 25, 26, 27, 28, 29, 30, 31, 32, 33, 34, 35, 36, 37, 38, 45, 46, 47, 49, 50, 51, 52, 53, 54, 57, 58, 59, 60, 61, 63, 64, 68, 69, 70, 71, 72, 73, 74, 75, 76, 77, 78, 79, 80, 81, 82, 83, 84, 85, 86, 87, 88, 89, 90, 91, 92, 93, 94, 95, 96, 97, 100, 101, 102, 103, 104, 105, 106, 107, 109, 110, 111, 112, 113, 114, 115, 116, 118, 119, 120, 121, 124, 125, 126, 127, 128, 129, 130, 131, 132, 133, 134, 135, 136, 137, 138, 139, 140, 141, 142, 143, 144, 145, 146, 147, 148, 149, 150, 151, 152, 153, 154, 155, 156, 157, 158, 159, 160, 161, 162, 163, 164, 165, 166, 167, 168, 169, 170, 171, 172, 173, 174, 175, 176, 177, 178, 182, 184, 185, 186, 187, 188, 190, 192, 193, 194, 195, 196, 197, 199, 200, 201, 202, 203, 204, 205, 206, 207, 210, 211, 212, 216, 217, 218, 219, 220, 221, 222, 223, 224, 225, 226, 227, 228, 229, 230, 231, 232, 233, 234, 235, 236, 237, 238, 239, 240, 241, 242, 243, 244, 245, 246, 247, 248, 249, 250, 251, 252, 253, 254, 255, 256, 257, 258, 259, 260, 261, 262, 263, 264, 265, 266, 267, 268, 269, 270, 271, 272, 273, 274, 275, 276, 277, 278, 279, 280, 281, 282, 283, 284, 285, 286, 287, 288, 289, 290, 291, 292, 293, 294, 295, 296, 297, 298, 299, 300, 301, 302, 303, 304, 305, 306, 307, 308, 309, 310, 311, 312, 320]
def mSta : List Nat := [39, 40, 41, 42, 43, 55, 65, 66, 67, 99, 117, 122, 179, 180, 183, 189, 191, 198, 208, 209, 213, 214, 215, 313, 314, 315, 316, 317, 318]
def wIns (M : Nat) : List Cond := [.code (yof M) (byt M) (mtb M).2.1 (rty M), .instanceMethod (yof M), .selects (cnm (own M)) (yof M) (yof M), .initialized (cnm (own M))]
def wSta (M : Nat) : List Cond := [.code (yof M) (byt M) (mtb M).2.1 (rty M), .static (yof M), .initialized (cnm (own M))]
def IIi : List (Nat × Nat) := [(3, 76), (3, 74), (3, 75), (1, 11), (5, 55), (5, 53), (5, 54), (1, 11), (5, 63), (5, 61), (5, 62), (1, 11), (5, 76), (5, 74), (5, 75), (1, 11), (5, 85), (5, 83), (5, 84), (1, 11), (5, 92), (5, 90), (5, 91), (1, 11), (5, 100), (5, 98), (5, 99), (1, 11), (3, 141), (3, 139), (3, 140), (1, 8), (3, 166), (3, 165), (0, 13), (1, 8), (3, 189), (3, 187), (3, 188), (1, 8), (3, 193), (3, 191), (3, 192), (1, 8), (3, 222), (3, 220), (3, 221), (1, 9), (3, 226), (3, 224), (3, 225), (1, 9), (3, 231), (3, 230), (0, 15), (1, 9), (3, 235), (3, 234), (0, 16), (1, 9), (2, 117), (2, 115), (2, 116), (1, 3), (3, 48), (3, 46), (3, 47), (1, 3), (2, 140), (2, 138), (2, 139), (1, 3), (2, 150), (2, 148), (2, 149), (1, 3), (2, 177), (2, 175), (2, 176), (1, 3), (2, 189), (2, 187), (2, 188), (1, 3), (4, 102), (4, 100), (4, 101), (1, 3), (3, 65), (3, 63), (3, 64), (1, 3), (3, 57), (3, 55), (3, 56), (1, 3), (4, 181), (4, 179), (4, 180), (1, 3), (2, 195), (2, 193), (2, 194), (1, 3), (3, 102), (3, 100), (3, 101), (1, 3), (3, 98), (3, 96), (3, 97), (1, 3), (2, 185), (2, 183), (2, 184), (1, 3), (2, 199), (2, 198), (0, 1), (1, 3), (3, 134), (3, 132), (3, 133), (1, 3), (4, 213), (4, 211), (4, 212), (1, 3), (4, 203), (4, 201), (4, 202), (1, 3), (4, 209), (4, 208), (0, 23), (1, 3), (4, 225), (4, 223), (4, 224), (1, 3), (3, 208), (3, 206), (3, 207), (1, 7), (4, 116), (4, 114), (4, 115), (1, 7), (3, 72), (3, 70), (3, 71), (1, 7), (4, 141), (4, 139), (4, 140), (1, 5), (4, 137), (4, 135), (4, 136), (1, 5), (4, 133), (4, 131), (4, 132), (1, 5), (3, 85), (3, 83), (3, 84), (1, 5), (3, 18), (3, 16), (3, 17), (1, 5), (3, 24), (3, 23), (0, 11), (1, 5), (4, 185), (4, 183), (4, 184), (1, 10), (4, 190), (4, 189), (0, 22), (1, 10), (4, 221), (4, 219), (4, 220), (1, 10), (4, 239), (4, 237), (4, 238), (1, 10), (5, 5), (5, 3), (5, 4), (1, 10), (3, 52), (3, 50), (3, 51), (1, 6), (4, 151), (4, 149), (4, 150), (1, 6), (3, 145), (3, 143), (3, 144), (1, 6), (3, 154), (3, 152), (3, 153), (1, 6), (3, 149), (3, 147), (3, 148), (1, 6), (4, 159), (4, 157), (4, 158), (1, 6), (3, 130), (3, 128), (3, 129), (1, 6), (3, 106), (3, 104), (3, 105), (1, 6), (3, 218), (3, 216), (3, 217), (1, 6), (4, 234), (4, 232), (4, 233), (1, 6), (4, 155), (4, 153), (4, 154), (1, 6), (5, 131), (5, 129), (5, 130), (1, 6), (5, 118), (5, 116), (5, 117), (1, 6), (3, 202), (3, 200), (3, 201), (1, 6), (4, 15), (4, 13), (4, 14), (1, 6), (4, 39), (4, 37), (4, 38), (1, 6), (4, 22), (4, 20), (4, 21), (1, 6), (4, 30), (4, 28), (4, 29), (1, 6), (4, 26), (4, 25), (0, 17), (1, 6), (4, 52), (4, 50), (4, 51), (1, 6), (4, 48), (4, 46), (4, 47), (1, 6), (4, 68), (4, 66), (4, 67), (1, 6), (4, 72), (4, 70), (4, 71), (1, 6), (4, 56), (4, 54), (4, 55), (1, 6), (4, 80), (4, 78), (4, 79), (1, 6), (4, 86), (4, 84), (4, 85), (1, 6), (4, 90), (4, 89), (0, 18), (1, 6), (4, 107), (4, 105), (4, 106), (1, 6), (5, 25), (5, 23), (5, 24), (1, 6), (4, 0), (3, 238), (3, 239), (1, 6), (4, 4), (4, 2), (4, 3), (1, 6), (4, 125), (4, 123), (4, 124), (1, 6), (2, 98), (2, 96), (2, 97), (1, 2), (2, 124), (2, 122), (2, 123), (1, 2), (2, 131), (2, 129), (2, 130), (1, 2), (2, 181), (2, 179), (2, 180), (1, 2), (2, 146), (2, 144), (2, 145), (1, 2), (2, 203), (2, 201), (2, 202), (1, 2), (3, 33), (3, 31), (3, 32), (1, 2), (2, 167), (2, 165), (2, 166), (1, 2), (2, 207), (2, 205), (2, 206), (1, 4), (3, 81), (3, 79), (3, 80), (1, 4), (2, 231), (2, 230), (0, 6), (1, 4), (2, 212), (2, 211), (0, 2), (1, 4), (3, 13), (3, 12), (0, 10), (1, 4), (2, 227), (2, 226), (0, 5), (1, 4), (2, 218), (2, 217), (0, 3), (1, 4), (2, 222), (2, 221), (0, 4), (1, 4), (2, 235), (2, 234), (0, 7), (1, 4), (3, 6), (3, 5), (0, 9), (1, 4), (2, 239), (2, 238), (0, 8), (1, 4), (3, 171), (3, 169), (3, 170), (1, 4), (2, 91), (2, 89), (2, 90), (1, 1), (2, 102), (2, 100), (2, 101), (1, 1), (2, 106), (2, 104), (2, 105), (1, 1), (3, 40), (3, 38), (3, 39), (1, 1), (3, 89), (3, 87), (3, 88), (1, 1), (3, 94), (3, 92), (3, 93), (1, 1), (3, 110), (3, 108), (3, 109), (1, 1), (3, 114), (3, 112), (3, 113), (1, 1), (3, 118), (3, 116), (3, 117), (1, 1), (3, 122), (3, 120), (3, 121), (1, 1), (3, 126), (3, 124), (3, 125), (1, 1), (3, 198), (3, 196), (3, 197), (1, 1), (4, 11), (4, 9), (4, 10), (1, 1), (4, 35), (4, 33), (4, 34), (1, 1), (4, 44), (4, 42), (4, 43), (1, 1), (4, 64), (4, 62), (4, 63), (1, 1), (4, 76), (4, 74), (4, 75), (1, 1), (4, 94), (4, 92), (4, 93), (1, 1), (4, 112), (4, 110), (4, 111), (1, 1), (4, 120), (4, 118), (4, 119), (1, 1), (4, 129), (4, 127), (4, 128), (1, 1), (4, 145), (4, 143), (4, 144), (1, 1), (4, 172), (4, 170), (4, 171), (1, 1), (4, 176), (4, 174), (4, 175), (1, 1), (4, 199), (4, 197), (4, 198), (1, 1), (4, 217), (4, 215), (4, 216), (1, 1), (4, 230), (4, 228), (4, 229), (1, 1), (5, 9), (5, 7), (5, 8), (1, 1), (5, 15), (5, 13), (5, 14), (1, 1), (5, 21), (5, 19), (5, 20), (1, 1), (5, 30), (5, 28), (5, 29), (1, 1), (5, 47), (5, 45), (5, 46), (1, 1), (5, 51), (5, 49), (5, 50), (1, 1), (5, 59), (5, 57), (5, 58), (1, 1), (5, 68), (5, 66), (5, 67), (1, 1), (5, 72), (5, 70), (5, 71), (1, 1), (5, 81), (5, 79), (5, 80), (1, 1), (5, 96), (5, 94), (5, 95), (1, 1), (5, 104), (5, 102), (5, 103), (1, 1), (5, 123), (5, 121), (5, 122), (1, 1), (5, 127), (5, 125), (5, 126), (1, 1), (5, 135), (5, 133), (5, 134), (1, 1), (5, 140), (5, 138), (5, 139), (1, 1), (5, 144), (5, 142), (5, 143), (1, 1), (2, 110), (2, 109), (0, 0), (1, 1), (3, 44), (3, 43), (0, 12), (1, 1), (4, 98), (4, 97), (0, 19), (1, 1), (3, 214), (3, 213), (0, 14), (1, 1), (4, 164), (4, 163), (0, 20), (1, 1), (4, 168), (4, 167), (0, 21), (1, 1), (5, 34), (5, 33), (0, 24), (1, 1), (5, 38), (5, 37), (0, 25), (1, 1), (5, 42), (5, 41), (0, 26), (1, 1), (5, 108), (5, 107), (0, 27), (1, 1), (5, 112), (5, 111), (0, 28), (1, 1), (6, 183), (6, 181), (6, 182), (1, 12), (6, 187), (6, 185), (6, 186), (1, 12), (6, 194), (6, 192), (6, 193), (1, 12), (6, 214), (6, 213), (0, 33), (1, 12), (6, 210), (6, 209), (0, 32), (1, 12), (7, 1), (7, 0), (0, 36), (1, 12), (7, 40), (7, 39), (0, 45), (1, 12), (7, 36), (7, 35), (0, 44), (1, 12), (7, 44), (7, 43), (0, 46), (1, 12), (7, 60), (7, 59), (0, 50), (1, 12), (7, 56), (7, 55), (0, 49), (1, 12), (7, 52), (7, 51), (0, 48), (1, 12), (7, 48), (7, 47), (0, 47), (1, 12), (7, 67), (7, 66), (0, 51), (1, 12), (7, 32), (7, 31), (0, 43), (1, 12), (7, 74), (7, 73), (0, 52), (1, 12), (7, 78), (7, 77), (0, 53), (1, 12), (7, 28), (7, 27), (0, 42), (1, 12), (7, 24), (7, 23), (0, 41), (1, 12), (7, 20), (7, 19), (0, 40), (1, 12), (7, 82), (7, 81), (0, 54), (1, 12), (7, 16), (7, 15), (0, 39), (1, 12), (7, 163), (7, 162), (0, 65), (1, 12), (7, 159), (7, 158), (0, 64), (1, 12), (6, 234), (6, 233), (0, 35), (1, 12), (6, 218), (6, 217), (0, 34), (1, 12), (6, 206), (6, 205), (0, 31), (1, 12), (7, 12), (7, 11), (0, 38), (1, 12), (7, 8), (7, 7), (0, 37), (1, 12), (6, 202), (6, 201), (0, 30), (1, 12), (7, 98), (7, 97), (0, 58), (1, 12), (7, 94), (7, 93), (0, 57), (1, 12), (7, 90), (7, 89), (0, 56), (1, 12), (7, 86), (7, 85), (0, 55), (1, 12), (6, 198), (6, 196), (6, 197), (1, 12), (7, 106), (7, 105), (0, 59), (1, 12), (7, 102), (7, 100), (7, 101), (1, 12), (7, 114), (7, 113), (0, 60), (1, 12), (7, 122), (7, 121), (0, 61), (1, 12), (7, 223), (7, 222), (0, 75), (1, 12), (7, 130), (7, 129), (0, 62), (1, 12), (7, 211), (7, 210), (0, 73), (1, 12), (7, 110), (7, 108), (7, 109), (1, 12), (7, 118), (7, 116), (7, 117), (1, 12), (7, 126), (7, 124), (7, 125), (1, 12), (7, 134), (7, 132), (7, 133), (1, 12), (7, 138), (7, 136), (7, 137), (1, 12), (7, 142), (7, 140), (7, 141), (1, 12), (7, 146), (7, 144), (7, 145), (1, 12), (7, 154), (7, 153), (0, 63), (1, 12), (7, 179), (7, 178), (0, 66), (1, 12), (7, 183), (7, 182), (0, 67), (1, 12), (7, 150), (7, 148), (7, 149), (1, 12), (7, 195), (7, 194), (0, 69), (1, 12), (7, 207), (7, 206), (0, 72), (1, 12), (7, 203), (7, 202), (0, 71), (1, 12), (7, 199), (7, 198), (0, 70), (1, 12), (7, 191), (7, 190), (0, 68), (1, 12), (7, 187), (7, 185), (7, 186), (1, 12), (7, 219), (7, 218), (0, 74), (1, 12), (7, 231), (7, 230), (0, 77), (1, 12), (7, 227), (7, 226), (0, 76), (1, 12), (7, 215), (7, 213), (7, 214), (1, 12), (7, 239), (7, 238), (0, 78), (1, 12), (8, 3), (8, 2), (0, 79), (1, 12), (7, 235), (7, 233), (7, 234), (1, 12), (8, 7), (8, 5), (8, 6), (1, 12), (8, 15), (8, 14), (0, 80), (1, 12), (8, 11), (8, 9), (8, 10), (1, 12), (8, 23), (8, 22), (0, 81), (1, 12), (8, 19), (8, 17), (8, 18), (1, 12), (8, 35), (8, 34), (0, 83), (1, 12), (8, 31), (8, 30), (0, 82), (1, 12), (8, 27), (8, 25), (8, 26), (1, 12), (8, 39), (8, 37), (8, 38), (1, 12), (8, 43), (8, 41), (8, 42), (1, 12), (8, 47), (8, 45), (8, 46), (1, 12), (8, 68), (8, 67), (0, 87), (1, 12), (8, 72), (8, 71), (0, 88), (1, 12), (8, 60), (8, 59), (0, 85), (1, 12), (8, 76), (8, 75), (0, 89), (1, 12), (8, 64), (8, 63), (0, 86), (1, 12), (8, 55), (8, 54), (0, 84), (1, 12), (8, 51), (8, 49), (8, 50), (1, 12), (8, 80), (8, 78), (8, 79), (1, 12), (8, 96), (8, 95), (0, 92), (1, 12), (8, 100), (8, 99), (0, 93), (1, 12), (8, 92), (8, 91), (0, 91), (1, 12), (8, 88), (8, 87), (0, 90), (1, 12), (8, 84), (8, 82), (8, 83), (1, 12), (8, 108), (8, 107), (0, 94), (1, 12), (8, 112), (8, 111), (0, 95), (1, 12), (8, 104), (8, 102), (8, 103), (1, 12), (8, 116), (8, 114), (8, 115), (1, 12), (8, 124), (8, 123), (0, 96), (1, 12), (8, 128), (8, 127), (0, 97), (1, 12), (8, 120), (8, 118), (8, 119), (1, 12), (8, 132), (8, 130), (8, 131), (1, 12), (8, 136), (8, 134), (8, 135), (1, 12), (8, 142), (8, 140), (8, 141), (1, 12), (8, 158), (8, 157), (0, 100), (1, 12), (8, 154), (8, 153), (0, 99), (1, 12), (8, 150), (8, 149), (0, 98), (1, 12), (8, 146), (8, 144), (8, 145), (1, 12), (8, 162), (8, 160), (8, 161), (1, 12), (8, 166), (8, 164), (8, 165), (1, 12), (8, 174), (8, 173), (0, 101), (1, 12), (8, 170), (8, 168), (8, 169), (1, 12), (8, 178), (8, 176), (8, 177), (1, 12), (8, 182), (8, 180), (8, 181), (1, 12), (8, 194), (8, 193), (0, 103), (1, 12), (8, 190), (8, 189), (0, 102), (1, 12), (8, 186), (8, 184), (8, 185), (1, 12), (8, 198), (8, 196), (8, 197), (1, 12), (8, 210), (8, 209), (0, 105), (1, 12), (8, 206), (8, 205), (0, 104), (1, 12), (8, 202), (8, 200), (8, 201), (1, 12), (8, 216), (8, 214), (8, 215), (1, 12), (8, 220), (8, 218), (8, 219), (1, 12), (8, 224), (8, 222), (8, 223), (1, 12), (8, 228), (8, 226), (8, 227), (1, 12), (8, 232), (8, 230), (8, 231), (1, 12), (5, 152), (5, 150), (5, 151), (1, 1)]
def SIi : List (Nat × Nat) := [(2, 113), (2, 112), (1, 13), (2, 127), (2, 126), (1, 13), (2, 163), (2, 162), (1, 13), (2, 134), (2, 133), (1, 13), (2, 158), (2, 157), (1, 13), (3, 28), (3, 27), (1, 5), (3, 60), (3, 59), (1, 6), (3, 68), (3, 67), (1, 6), (4, 59), (4, 58), (1, 6), (2, 94), (2, 93), (1, 2), (3, 9), (3, 8), (1, 4), (3, 174), (3, 173), (1, 4), (7, 4), (7, 3), (1, 12), (6, 227), (6, 226), (1, 12), (6, 190), (6, 189), (1, 12), (6, 237), (6, 236), (1, 12), (7, 63), (7, 62), (1, 12), (7, 70), (7, 69), (1, 12), (7, 169), (7, 168), (1, 12), (7, 166), (7, 165), (1, 12), (6, 224), (6, 223), (1, 12), (6, 230), (6, 229), (1, 12), (6, 221), (6, 220), (1, 12), (3, 158), (3, 157), (1, 21), (3, 185), (3, 184), (1, 20), (3, 182), (3, 181), (1, 20), (3, 137), (3, 136), (1, 20), (3, 179), (3, 178), (1, 20), (2, 120), (2, 119), (1, 14)]
def LYi : List (Nat × Nat) := [(2, 18), (2, 20), (2, 22), (2, 24), (2, 26), (2, 28), (2, 30), (2, 32), (2, 34), (2, 36), (1, 165), (1, 167), (1, 169), (1, 171), (1, 194), (1, 196), (1, 198), (1, 200), (1, 202), (1, 204), (1, 206), (1, 208), (1, 68), (1, 70), (1, 148), (1, 150), (1, 152), (1, 115), (1, 117), (1, 119), (1, 121), (1, 227), (1, 229), (1, 231), (1, 233), (1, 235), (1, 237), (1, 133), (1, 135), (1, 47), (1, 49), (1, 51), (1, 53), (1, 90), (1, 92), (1, 94), (1, 96), (1, 98), (1, 100), (2, 55), (2, 57), (2, 59), (2, 61), (2, 63), (2, 65), (2, 67), (2, 69), (2, 71), (2, 73), (2, 75), (2, 77), (2, 79), (2, 81), (2, 83), (2, 85), (6, 51), (6, 53), (6, 55), (6, 57), (6, 59), (6, 61), (6, 63), (6, 65), (6, 67), (6, 69), (6, 71), (6, 73), (6, 75), (6, 77), (6, 79), (6, 81), (6, 83), (6, 85), (6, 87), (6, 89), (6, 91), (6, 93), (6, 95), (6, 97), (6, 99), (6, 101), (6, 103), (6, 105), (6, 107), (6, 109), (6, 111), (6, 113), (6, 115), (6, 117), (6, 119), (6, 121), (6, 123), (6, 125), (6, 127), (6, 129), (6, 131), (6, 133), (6, 135), (6, 137), (6, 139), (6, 141), (6, 143), (6, 145), (6, 147), (6, 149), (6, 151), (6, 153), (6, 155), (6, 157), (6, 159), (6, 161), (6, 163), (6, 165), (6, 167), (6, 169), (6, 171), (6, 173), (6, 175), (6, 177)]
def TB : List Cond := lw_tbl.filter goodWord
def tsg (k : Nat) : List Cond := match k with
  | 0 => k2_sels lw_privs
  | 1 => tables_1_1
  | 2 => tables_1_2
  | 3 => tables_1_3
  | 4 => tables_1_4
  | 5 => tables_1_5
  | 6 => tables_1_6
  | 7 => tables_1_7
  | 8 => tables_1_8
  | 9 => tables_1_9
  | _ => []
theorem tsg_in {k : Nat} {w : Cond} (h : w ∈ tsg k) : w ∈ lw_tbl := by
  unfold tsg at h
  unfold lw_tbl tables_1
  split at h
  · exact List.mem_append_left _ h
  · exact List.mem_append_right _ (List.mem_append_left _ h)
  · exact List.mem_append_right _ (List.mem_append_right _ (List.mem_append_left _ h))
  · exact List.mem_append_right _ (List.mem_append_right _ (List.mem_append_right _ (List.mem_append_left _ h)))
  · exact List.mem_append_right _ (List.mem_append_right _ (List.mem_append_right _ (List.mem_append_right _ (List.mem_append_left _ h))))
  · exact List.mem_append_right _ (List.mem_append_right _ (List.mem_append_right _ (List.mem_append_right _ (List.mem_append_right _ (List.mem_append_left _ h)))))
  · exact List.mem_append_right _ (List.mem_append_right _ (List.mem_append_right _ (List.mem_append_right _ (List.mem_append_right _ (List.mem_append_right _ (List.mem_append_left _ h))))))
  · exact List.mem_append_right _ (List.mem_append_right _ (List.mem_append_right _ (List.mem_append_right _ (List.mem_append_right _ (List.mem_append_right _ (List.mem_append_right _ (List.mem_append_left _ h)))))))
  · exact List.mem_append_right _ (List.mem_append_right _ (List.mem_append_right _ (List.mem_append_right _ (List.mem_append_right _ (List.mem_append_right _ (List.mem_append_right _ (List.mem_append_right _ (List.mem_append_left _ h))))))))
  · exact List.mem_append_right _ (List.mem_append_right _ (List.mem_append_right _ (List.mem_append_right _ (List.mem_append_right _ (List.mem_append_right _ (List.mem_append_right _ (List.mem_append_right _ (List.mem_append_right _ (h)))))))))
  · cases h
theorem tb_mem {w : Cond} {ws : List Cond} {ps : List (Nat × Nat)} (h : ws.map some = ps.map (fun i => (tsg i.1)[i.2]?)) (hg : ws.all goodWord = true) (hw : w ∈ ws) : w ∈ TB := by
  refine List.mem_filter.mpr ⟨?_, List.all_eq_true.mp hg w hw⟩
  have h1 : some w ∈ ws.map some := List.mem_map.mpr ⟨w, hw, rfl⟩
  rw [h] at h1
  obtain ⟨i, -, hi⟩ := List.mem_map.mp h1
  exact tsg_in (List.mem_of_getElem? hi)
set_option maxRecDepth 1000000 in
set_option maxHeartbeats 4000000 in
theorem fl_ok_e : (FLk.map FLw).map some = FLi.map (fun i => (tsg i.1)[i.2]?) := rfl
set_option maxRecDepth 1000000 in
set_option maxHeartbeats 4000000 in
theorem fl_ok_g : (FLk.map FLw).all goodWord = true := rfl
theorem fl_ok {w : Cond} (h : w ∈ FLk.map FLw) : w ∈ TB := tb_mem fl_ok_e fl_ok_g h
set_option maxRecDepth 1000000 in
set_option maxHeartbeats 4000000 in
theorem sl_ok_e : (SLk.map SLw).map some = SLi.map (fun i => (tsg i.1)[i.2]?) := rfl
set_option maxRecDepth 1000000 in
set_option maxHeartbeats 4000000 in
theorem sl_ok_g : (SLk.map SLw).all goodWord = true := rfl
theorem sl_ok {w : Cond} (h : w ∈ SLk.map SLw) : w ∈ TB := tb_mem sl_ok_e sl_ok_g h
set_option maxRecDepth 1000000 in
set_option maxHeartbeats 4000000 in
theorem ml_ok_e : (MLk.map MLw).map some = MLi.map (fun i => (tsg i.1)[i.2]?) := rfl
set_option maxRecDepth 1000000 in
set_option maxHeartbeats 4000000 in
theorem ml_ok_g : (MLk.map MLw).all goodWord = true := rfl
theorem ml_ok {w : Cond} (h : w ∈ MLk.map MLw) : w ∈ TB := tb_mem ml_ok_e ml_ok_g h
set_option maxRecDepth 1000000 in
set_option maxHeartbeats 4000000 in
theorem cl_ok_e : (CLk.map CLw).map some = CLi.map (fun i => (tsg i.1)[i.2]?) := rfl
set_option maxRecDepth 1000000 in
set_option maxHeartbeats 4000000 in
theorem cl_ok_g : (CLk.map CLw).all goodWord = true := rfl
theorem cl_ok {w : Cond} (h : w ∈ CLk.map CLw) : w ∈ TB := tb_mem cl_ok_e cl_ok_g h
set_option maxRecDepth 1000000 in
set_option maxHeartbeats 4000000 in
theorem cj_ok_e : (CJk.map CJw).map some = CJi.map (fun i => (tsg i.1)[i.2]?) := rfl
set_option maxRecDepth 1000000 in
set_option maxHeartbeats 4000000 in
theorem cj_ok_g : (CJk.map CJw).all goodWord = true := rfl
theorem cj_ok {w : Cond} (h : w ∈ CJk.map CJw) : w ∈ TB := tb_mem cj_ok_e cj_ok_g h
set_option maxRecDepth 1000000 in
set_option maxHeartbeats 4000000 in
theorem ii_ok_e : (mIns.flatMap wIns).map some = IIi.map (fun i => (tsg i.1)[i.2]?) := rfl
set_option maxRecDepth 1000000 in
set_option maxHeartbeats 4000000 in
theorem ii_ok_g : (mIns.flatMap wIns).all goodWord = true := rfl
theorem ii_ok {w : Cond} (h : w ∈ mIns.flatMap wIns) : w ∈ TB := tb_mem ii_ok_e ii_ok_g h
set_option maxRecDepth 1000000 in
set_option maxHeartbeats 4000000 in
theorem si_ok_e : (mSta.flatMap wSta).map some = SIi.map (fun i => (tsg i.1)[i.2]?) := rfl
set_option maxRecDepth 1000000 in
set_option maxHeartbeats 4000000 in
theorem si_ok_g : (mSta.flatMap wSta).all goodWord = true := rfl
theorem si_ok {w : Cond} (h : w ∈ mSta.flatMap wSta) : w ∈ TB := tb_mem si_ok_e si_ok_g h
set_option maxRecDepth 1000000 in
set_option maxHeartbeats 4000000 in
theorem ac_ok_e : (ACk.map ACw).map some = ACi.map (fun i => (tsg i.1)[i.2]?) := rfl
set_option maxRecDepth 1000000 in
set_option maxHeartbeats 4000000 in
theorem ac_ok_g : (ACk.map ACw).all goodWord = true := rfl
theorem ac_ok {w : Cond} (h : w ∈ ACk.map ACw) : w ∈ TB := tb_mem ac_ok_e ac_ok_g h
set_option maxRecDepth 1000000 in
set_option maxHeartbeats 4000000 in
theorem as_ok_e : (ACs).map some = ACj.map (fun i => (tsg i.1)[i.2]?) := rfl
set_option maxRecDepth 1000000 in
set_option maxHeartbeats 4000000 in
theorem as_ok_g : (ACs).all goodWord = true := rfl
theorem as_ok {w : Cond} (h : w ∈ ACs) : w ∈ TB := tb_mem as_ok_e as_ok_g h
set_option maxRecDepth 1000000 in
set_option maxHeartbeats 4000000 in
theorem ly_ok_e : ((List.range 12).flatMap (fun c => u_ws (oC c) (fT c) (fN c))).map some = LYi.map (fun i => (tsg i.1)[i.2]?) := rfl
set_option maxRecDepth 1000000 in
set_option maxHeartbeats 4000000 in
theorem ly_ok_g : ((List.range 12).flatMap (fun c => u_ws (oC c) (fT c) (fN c))).all goodWord = true := rfl
theorem ly_ok {w : Cond} (h : w ∈ (List.range 12).flatMap (fun c => u_ws (oC c) (fT c) (fN c))) : w ∈ TB := tb_mem ly_ok_e ly_ok_g h
end
section
/-! ===== EACH INSTRUCTION of the tables against its bytes and links ===== -/
def memF : List (Nat × Nat × Nat × Nat) → Nat → Nat → Nat → Nat → Bool
  | [], _, _, _, _ => false
  | (a, b, c, d) :: r, x, y, z, w => (Nat.beq a x && Nat.beq b y && Nat.beq c z && Nat.beq d w) || memF r x y z w
def memS : List (Nat × Nat × Nat) → Nat → Nat → Nat → Bool
  | [], _, _, _ => false
  | (a, b, c) :: r, x, y, z => (Nat.beq a x && Nat.beq b y && Nat.beq c z) || memS r x y z
def memC : List (Nat × Nat × Int) → Nat → Nat → Int → Bool
  | [], _, _, _ => false
  | (a, b, c) :: r, x, y, z => (Nat.beq a x && Nat.beq b y && c == z) || memC r x y z
def memP : List (Nat × Nat) → Nat → Nat → Bool
  | [], _, _ => false
  | (a, b) :: r, x, y => (Nat.beq a x && Nat.beq b y) || memP r x y
theorem memF_ok : ∀ (l : List (Nat × Nat × Nat × Nat)) {x y z w : Nat}, memF l x y z w = true → (x, y, z, w) ∈ l
  | [], _, _, _, _, h => by cases h
  | (a, b, c, d) :: r, x, y, z, w, h => by
    simp only [memF, Bool.or_eq_true, Bool.and_eq_true, Nat.beq_eq] at h
    rcases h with ⟨⟨⟨rfl, rfl⟩, rfl⟩, rfl⟩ | h
    · exact List.mem_cons_self
    · exact List.mem_cons_of_mem _ (memF_ok r h)
theorem memS_ok : ∀ (l : List (Nat × Nat × Nat)) {x y z : Nat}, memS l x y z = true → (x, y, z) ∈ l
  | [], _, _, _, h => by cases h
  | (a, b, c) :: r, x, y, z, h => by
    simp only [memS, Bool.or_eq_true, Bool.and_eq_true, Nat.beq_eq] at h
    rcases h with ⟨⟨rfl, rfl⟩, rfl⟩ | h
    · exact List.mem_cons_self
    · exact List.mem_cons_of_mem _ (memS_ok r h)
theorem memC_ok : ∀ (l : List (Nat × Nat × Int)) {x y : Nat} {z : Int}, memC l x y z = true → (x, y, z) ∈ l
  | [], _, _, _, h => by cases h
  | (a, b, c) :: r, x, y, z, h => by
    simp only [memC, Bool.or_eq_true, Bool.and_eq_true, Nat.beq_eq, beq_iff_eq] at h
    rcases h with ⟨⟨rfl, rfl⟩, rfl⟩ | h
    · exact List.mem_cons_self
    · exact List.mem_cons_of_mem _ (memC_ok r h)
theorem memP_ok : ∀ (l : List (Nat × Nat)) {x y : Nat}, memP l x y = true → (x, y) ∈ l
  | [], _, _, h => by cases h
  | (a, b) :: r, x, y, h => by
    simp only [memP, Bool.or_eq_true, Bool.and_eq_true, Nat.beq_eq] at h
    rcases h with ⟨rfl, rfl⟩ | h
    · exact List.mem_cons_self
    · exact List.mem_cons_of_mem _ (memP_ok r h)
theorem memN_ok : ∀ (l : List Nat) {x : Nat}, memN l x = true → x ∈ l
  | [], _, h => by cases h
  | a :: r, x, h => by
    unfold memN at h
    cases hc : Nat.beq a x with
    | true => rw [Nat.beq_eq] at hc; subst hc; exact List.mem_cons_self
    | false => rw [hc] at h; exact List.mem_cons_of_mem _ (memN_ok r h)
def chkE (o rk pc : Nat) (e : Ent) : Bool := match e with
  | (i, n, (x, y, z), v) => match i with
    | .iconst _ => Nat.beq n 1
    | .bipush k => Nat.beq n 2 && decide (-128 ≤ k) && decide (k ≤ 127)
    | .sipush k => Nat.beq n 3 && decide (-32768 ≤ k) && decide (k ≤ 32767)
    | .lconst k => Nat.beq n 1 && v == Int.ofNat k.val
    | .ldc k => Nat.beq n 2 && memC CLk o k v
    | .ldc_w k => Nat.beq n 3 && memC CLk o k v
    | .ldc2_w k => Nat.beq n 3 && memC CJk o k v
    | .iload _ => Nat.beq n 2
    | .lload _ => Nat.beq n 2
    | .aload _ => Nat.beq n 2
    | .istore _ => Nat.beq n 2
    | .lstore _ => Nat.beq n 2
    | .astore _ => Nat.beq n 2
    | .iinc _ _ => Nat.beq n 3
    | .ifCond _ off => Nat.beq n 3 && decide (0 ≤ Int.ofNat pc + off)
    | .if_icmp _ off => Nat.beq n 3 && decide (0 ≤ Int.ofNat pc + off)
    | .goto off => Nat.beq n 3 && decide (0 ≤ Int.ofNat pc + off)
    | .tableswitch d lo hi offs => decide (hi - lo + 1 = Int.ofNat offs.toList.length) && decide (0 ≤ Int.ofNat pc + d) && offs.toList.all (fun o => decide (0 ≤ Int.ofNat pc + o))
    | .lookupswitch d ps => (ps.toList.zip (ps.toList.drop 1)).all (fun (a, next) => a.1 < next.1) && decide (0 ≤ Int.ofNat pc + d) && ps.toList.all (fun o => decide (0 ≤ Int.ofNat pc + o.2))
    | .getfield k => Nat.beq n 3 && memF FLk o k x y && v == Int.ofNat y && Nat.beq z (fg x y) && Nat.blt x 12 && Nat.blt y (fN x)
    | .putfield k => Nat.beq n 3 && memF FLk o k x y && v == Int.ofNat y && Nat.beq z (fg x y) && Nat.blt x 12 && Nat.blt y (fN x) && !(fT x y).2.2.2
    | .getstatic k => Nat.beq n 3 && memS SLk o k x && Nat.ble 2 x && Nat.ble x 10
    | .invokevirtual k => Nat.beq n 3 && memS MLk o k x && memN mIns x
    | .invokestatic k => Nat.beq n 3 && (match z with
      | 2 => memP ACk o k
      | 7 => Nat.beq o 13
      | _ => memS MLk o k x && memN mSta x)
    | .invokespecial _ => false
    | .multianewarray _ _ => false
    | .new _ => false
    | .newarray _ => false
    | .ireturn => Nat.beq n 1 && Nat.beq z rk && (Nat.beq z 1 || Nat.beq z 3)
    | .lreturn => Nat.beq n 1 && Nat.beq rk 2
    | .return_ => Nat.beq n 1 && Nat.beq rk 0
    | _ => Nat.beq n 1
def chkM (M : Nat) : Bool := (mcode M).all (fun s => s.2.all (fun q => decide (decode (byt M) q.1 = .ok (q.2.1, q.2.2.1)) && chkE (own M) (mtb M).2.2.1 q.1 q.2))
set_option maxRecDepth 100000 in
theorem ck_0 : chkM 0 = true := by decide +kernel
set_option maxRecDepth 100000 in
theorem ck_1 : chkM 1 = true := by decide +kernel
set_option maxRecDepth 100000 in
theorem ck_2 : chkM 2 = true := by decide +kernel
set_option maxRecDepth 100000 in
theorem ck_3 : chkM 3 = true := by decide +kernel
set_option maxRecDepth 100000 in
theorem ck_4 : chkM 4 = true := by decide +kernel
set_option maxRecDepth 100000 in
theorem ck_5 : chkM 5 = true := by decide +kernel
set_option maxRecDepth 100000 in
theorem ck_6 : chkM 6 = true := by decide +kernel
set_option maxRecDepth 100000 in
theorem ck_7 : chkM 7 = true := by decide +kernel
set_option maxRecDepth 100000 in
theorem ck_8 : chkM 8 = true := by decide +kernel
set_option maxRecDepth 100000 in
theorem ck_9 : chkM 9 = true := by decide +kernel
set_option maxRecDepth 100000 in
theorem ck_10 : chkM 10 = true := by decide +kernel
set_option maxRecDepth 100000 in
theorem ck_11 : chkM 11 = true := by decide +kernel
set_option maxRecDepth 100000 in
theorem ck_12 : chkM 12 = true := by decide +kernel
set_option maxRecDepth 100000 in
theorem ck_13 : chkM 13 = true := by decide +kernel
set_option maxRecDepth 100000 in
theorem ck_14 : chkM 14 = true := by decide +kernel
set_option maxRecDepth 100000 in
theorem ck_15 : chkM 15 = true := by decide +kernel
set_option maxRecDepth 100000 in
theorem ck_16 : chkM 16 = true := by decide +kernel
set_option maxRecDepth 100000 in
theorem ck_17 : chkM 17 = true := by decide +kernel
set_option maxRecDepth 100000 in
theorem ck_18 : chkM 18 = true := by decide +kernel
set_option maxRecDepth 100000 in
theorem ck_19 : chkM 19 = true := by decide +kernel
set_option maxRecDepth 100000 in
theorem ck_20 : chkM 20 = true := by decide +kernel
set_option maxRecDepth 100000 in
theorem ck_21 : chkM 21 = true := by decide +kernel
set_option maxRecDepth 100000 in
theorem ck_22 : chkM 22 = true := by decide +kernel
set_option maxRecDepth 100000 in
theorem ck_23 : chkM 23 = true := by decide +kernel
set_option maxRecDepth 100000 in
theorem ck_24 : chkM 24 = true := by decide +kernel
set_option maxRecDepth 100000 in
theorem ck_25 : chkM 25 = true := by decide +kernel
set_option maxRecDepth 100000 in
theorem ck_26 : chkM 26 = true := by decide +kernel
set_option maxRecDepth 100000 in
theorem ck_27 : chkM 27 = true := by decide +kernel
set_option maxRecDepth 100000 in
theorem ck_28 : chkM 28 = true := by decide +kernel
set_option maxRecDepth 100000 in
theorem ck_29 : chkM 29 = true := by decide +kernel
set_option maxRecDepth 100000 in
theorem ck_30 : chkM 30 = true := by decide +kernel
set_option maxRecDepth 100000 in
theorem ck_31 : chkM 31 = true := by decide +kernel
set_option maxRecDepth 100000 in
theorem ck_32 : chkM 32 = true := by decide +kernel
set_option maxRecDepth 100000 in
theorem ck_33 : chkM 33 = true := by decide +kernel
set_option maxRecDepth 100000 in
theorem ck_34 : chkM 34 = true := by decide +kernel
set_option maxRecDepth 100000 in
theorem ck_35 : chkM 35 = true := by decide +kernel
set_option maxRecDepth 100000 in
theorem ck_36 : chkM 36 = true := by decide +kernel
set_option maxRecDepth 100000 in
theorem ck_37 : chkM 37 = true := by decide +kernel
set_option maxRecDepth 100000 in
theorem ck_38 : chkM 38 = true := by decide +kernel
set_option maxRecDepth 100000 in
theorem ck_39 : chkM 39 = true := by decide +kernel
set_option maxRecDepth 100000 in
theorem ck_40 : chkM 40 = true := by decide +kernel
set_option maxRecDepth 100000 in
theorem ck_41 : chkM 41 = true := by decide +kernel
set_option maxRecDepth 100000 in
theorem ck_42 : chkM 42 = true := by decide +kernel
set_option maxRecDepth 100000 in
theorem ck_43 : chkM 43 = true := by decide +kernel
set_option maxRecDepth 100000 in
theorem ck_44 : chkM 44 = true := by decide +kernel
set_option maxRecDepth 100000 in
theorem ck_45 : chkM 45 = true := by decide +kernel
set_option maxRecDepth 100000 in
theorem ck_46 : chkM 46 = true := by decide +kernel
set_option maxRecDepth 100000 in
theorem ck_47 : chkM 47 = true := by decide +kernel
set_option maxRecDepth 100000 in
theorem ck_48 : chkM 48 = true := by decide +kernel
set_option maxRecDepth 100000 in
theorem ck_49 : chkM 49 = true := by decide +kernel
set_option maxRecDepth 100000 in
theorem ck_50 : chkM 50 = true := by decide +kernel
set_option maxRecDepth 100000 in
theorem ck_51 : chkM 51 = true := by decide +kernel
set_option maxRecDepth 100000 in
theorem ck_52 : chkM 52 = true := by decide +kernel
set_option maxRecDepth 100000 in
theorem ck_53 : chkM 53 = true := by decide +kernel
set_option maxRecDepth 100000 in
theorem ck_54 : chkM 54 = true := by decide +kernel
set_option maxRecDepth 100000 in
theorem ck_55 : chkM 55 = true := by decide +kernel
set_option maxRecDepth 100000 in
theorem ck_56 : chkM 56 = true := by decide +kernel
set_option maxRecDepth 100000 in
theorem ck_57 : chkM 57 = true := by decide +kernel
set_option maxRecDepth 100000 in
theorem ck_58 : chkM 58 = true := by decide +kernel
set_option maxRecDepth 100000 in
theorem ck_59 : chkM 59 = true := by decide +kernel
set_option maxRecDepth 100000 in
theorem ck_60 : chkM 60 = true := by decide +kernel
set_option maxRecDepth 100000 in
theorem ck_61 : chkM 61 = true := by decide +kernel
set_option maxRecDepth 100000 in
theorem ck_62 : chkM 62 = true := by decide +kernel
set_option maxRecDepth 100000 in
theorem ck_63 : chkM 63 = true := by decide +kernel
set_option maxRecDepth 100000 in
theorem ck_64 : chkM 64 = true := by decide +kernel
set_option maxRecDepth 100000 in
theorem ck_65 : chkM 65 = true := by decide +kernel
set_option maxRecDepth 100000 in
theorem ck_66 : chkM 66 = true := by decide +kernel
set_option maxRecDepth 100000 in
theorem ck_67 : chkM 67 = true := by decide +kernel
set_option maxRecDepth 100000 in
theorem ck_68 : chkM 68 = true := by decide +kernel
set_option maxRecDepth 100000 in
theorem ck_69 : chkM 69 = true := by decide +kernel
set_option maxRecDepth 100000 in
theorem ck_70 : chkM 70 = true := by decide +kernel
set_option maxRecDepth 100000 in
theorem ck_71 : chkM 71 = true := by decide +kernel
set_option maxRecDepth 100000 in
theorem ck_72 : chkM 72 = true := by decide +kernel
set_option maxRecDepth 100000 in
theorem ck_73 : chkM 73 = true := by decide +kernel
set_option maxRecDepth 100000 in
theorem ck_74 : chkM 74 = true := by decide +kernel
set_option maxRecDepth 100000 in
theorem ck_75 : chkM 75 = true := by decide +kernel
set_option maxRecDepth 100000 in
theorem ck_76 : chkM 76 = true := by decide +kernel
set_option maxRecDepth 100000 in
theorem ck_77 : chkM 77 = true := by decide +kernel
set_option maxRecDepth 100000 in
theorem ck_78 : chkM 78 = true := by decide +kernel
set_option maxRecDepth 100000 in
theorem ck_79 : chkM 79 = true := by decide +kernel
set_option maxRecDepth 100000 in
theorem ck_80 : chkM 80 = true := by decide +kernel
set_option maxRecDepth 100000 in
theorem ck_81 : chkM 81 = true := by decide +kernel
set_option maxRecDepth 100000 in
theorem ck_82 : chkM 82 = true := by decide +kernel
set_option maxRecDepth 100000 in
theorem ck_83 : chkM 83 = true := by decide +kernel
set_option maxRecDepth 100000 in
theorem ck_84 : chkM 84 = true := by decide +kernel
set_option maxRecDepth 100000 in
theorem ck_85 : chkM 85 = true := by decide +kernel
set_option maxRecDepth 100000 in
theorem ck_86 : chkM 86 = true := by decide +kernel
set_option maxRecDepth 100000 in
theorem ck_87 : chkM 87 = true := by decide +kernel
set_option maxRecDepth 100000 in
theorem ck_88 : chkM 88 = true := by decide +kernel
set_option maxRecDepth 100000 in
theorem ck_89 : chkM 89 = true := by decide +kernel
set_option maxRecDepth 100000 in
theorem ck_90 : chkM 90 = true := by decide +kernel
set_option maxRecDepth 100000 in
theorem ck_91 : chkM 91 = true := by decide +kernel
set_option maxRecDepth 100000 in
theorem ck_92 : chkM 92 = true := by decide +kernel
set_option maxRecDepth 100000 in
theorem ck_93 : chkM 93 = true := by decide +kernel
set_option maxRecDepth 100000 in
theorem ck_94 : chkM 94 = true := by decide +kernel
set_option maxRecDepth 100000 in
theorem ck_95 : chkM 95 = true := by decide +kernel
set_option maxRecDepth 100000 in
theorem ck_96 : chkM 96 = true := by decide +kernel
set_option maxRecDepth 100000 in
theorem ck_97 : chkM 97 = true := by decide +kernel
set_option maxRecDepth 100000 in
theorem ck_98 : chkM 98 = true := by decide +kernel
set_option maxRecDepth 100000 in
theorem ck_99 : chkM 99 = true := by decide +kernel
set_option maxRecDepth 100000 in
theorem ck_100 : chkM 100 = true := by decide +kernel
set_option maxRecDepth 100000 in
theorem ck_101 : chkM 101 = true := by decide +kernel
set_option maxRecDepth 100000 in
theorem ck_102 : chkM 102 = true := by decide +kernel
set_option maxRecDepth 100000 in
theorem ck_103 : chkM 103 = true := by decide +kernel
set_option maxRecDepth 100000 in
theorem ck_104 : chkM 104 = true := by decide +kernel
set_option maxRecDepth 100000 in
theorem ck_105 : chkM 105 = true := by decide +kernel
set_option maxRecDepth 100000 in
theorem ck_106 : chkM 106 = true := by decide +kernel
set_option maxRecDepth 100000 in
theorem ck_107 : chkM 107 = true := by decide +kernel
set_option maxRecDepth 100000 in
theorem ck_108 : chkM 108 = true := by decide +kernel
set_option maxRecDepth 100000 in
theorem ck_109 : chkM 109 = true := by decide +kernel
set_option maxRecDepth 100000 in
theorem ck_110 : chkM 110 = true := by decide +kernel
set_option maxRecDepth 100000 in
theorem ck_111 : chkM 111 = true := by decide +kernel
set_option maxRecDepth 100000 in
theorem ck_112 : chkM 112 = true := by decide +kernel
set_option maxRecDepth 100000 in
theorem ck_113 : chkM 113 = true := by decide +kernel
set_option maxRecDepth 100000 in
theorem ck_114 : chkM 114 = true := by decide +kernel
set_option maxRecDepth 100000 in
theorem ck_115 : chkM 115 = true := by decide +kernel
set_option maxRecDepth 100000 in
theorem ck_116 : chkM 116 = true := by decide +kernel
set_option maxRecDepth 100000 in
theorem ck_117 : chkM 117 = true := by decide +kernel
set_option maxRecDepth 100000 in
theorem ck_118 : chkM 118 = true := by decide +kernel
set_option maxRecDepth 100000 in
theorem ck_119 : chkM 119 = true := by decide +kernel
set_option maxRecDepth 100000 in
theorem ck_120 : chkM 120 = true := by decide +kernel
set_option maxRecDepth 100000 in
theorem ck_121 : chkM 121 = true := by decide +kernel
set_option maxRecDepth 100000 in
theorem ck_122 : chkM 122 = true := by decide +kernel
set_option maxRecDepth 100000 in
theorem ck_123 : chkM 123 = true := by decide +kernel
set_option maxRecDepth 100000 in
theorem ck_124 : chkM 124 = true := by decide +kernel
set_option maxRecDepth 100000 in
theorem ck_125 : chkM 125 = true := by decide +kernel
set_option maxRecDepth 100000 in
theorem ck_126 : chkM 126 = true := by decide +kernel
set_option maxRecDepth 100000 in
theorem ck_127 : chkM 127 = true := by decide +kernel
set_option maxRecDepth 100000 in
theorem ck_128 : chkM 128 = true := by decide +kernel
set_option maxRecDepth 100000 in
theorem ck_129 : chkM 129 = true := by decide +kernel
set_option maxRecDepth 100000 in
theorem ck_130 : chkM 130 = true := by decide +kernel
set_option maxRecDepth 100000 in
theorem ck_131 : chkM 131 = true := by decide +kernel
set_option maxRecDepth 100000 in
theorem ck_132 : chkM 132 = true := by decide +kernel
set_option maxRecDepth 100000 in
theorem ck_133 : chkM 133 = true := by decide +kernel
set_option maxRecDepth 100000 in
theorem ck_134 : chkM 134 = true := by decide +kernel
set_option maxRecDepth 100000 in
theorem ck_135 : chkM 135 = true := by decide +kernel
set_option maxRecDepth 100000 in
theorem ck_136 : chkM 136 = true := by decide +kernel
set_option maxRecDepth 100000 in
theorem ck_137 : chkM 137 = true := by decide +kernel
set_option maxRecDepth 100000 in
theorem ck_138 : chkM 138 = true := by decide +kernel
set_option maxRecDepth 100000 in
theorem ck_139 : chkM 139 = true := by decide +kernel
set_option maxRecDepth 100000 in
theorem ck_140 : chkM 140 = true := by decide +kernel
set_option maxRecDepth 100000 in
theorem ck_141 : chkM 141 = true := by decide +kernel
set_option maxRecDepth 100000 in
theorem ck_142 : chkM 142 = true := by decide +kernel
set_option maxRecDepth 100000 in
theorem ck_143 : chkM 143 = true := by decide +kernel
set_option maxRecDepth 100000 in
theorem ck_144 : chkM 144 = true := by decide +kernel
set_option maxRecDepth 100000 in
theorem ck_145 : chkM 145 = true := by decide +kernel
set_option maxRecDepth 100000 in
theorem ck_146 : chkM 146 = true := by decide +kernel
set_option maxRecDepth 100000 in
theorem ck_147 : chkM 147 = true := by decide +kernel
set_option maxRecDepth 100000 in
theorem ck_148 : chkM 148 = true := by decide +kernel
set_option maxRecDepth 100000 in
theorem ck_149 : chkM 149 = true := by decide +kernel
set_option maxRecDepth 100000 in
theorem ck_150 : chkM 150 = true := by decide +kernel
set_option maxRecDepth 100000 in
theorem ck_151 : chkM 151 = true := by decide +kernel
set_option maxRecDepth 100000 in
theorem ck_152 : chkM 152 = true := by decide +kernel
set_option maxRecDepth 100000 in
theorem ck_153 : chkM 153 = true := by decide +kernel
set_option maxRecDepth 100000 in
theorem ck_154 : chkM 154 = true := by decide +kernel
set_option maxRecDepth 100000 in
theorem ck_155 : chkM 155 = true := by decide +kernel
set_option maxRecDepth 100000 in
theorem ck_156 : chkM 156 = true := by decide +kernel
set_option maxRecDepth 100000 in
theorem ck_157 : chkM 157 = true := by decide +kernel
set_option maxRecDepth 100000 in
theorem ck_158 : chkM 158 = true := by decide +kernel
set_option maxRecDepth 100000 in
theorem ck_159 : chkM 159 = true := by decide +kernel
set_option maxRecDepth 100000 in
theorem ck_160 : chkM 160 = true := by decide +kernel
set_option maxRecDepth 100000 in
theorem ck_161 : chkM 161 = true := by decide +kernel
set_option maxRecDepth 100000 in
theorem ck_162 : chkM 162 = true := by decide +kernel
set_option maxRecDepth 100000 in
theorem ck_163 : chkM 163 = true := by decide +kernel
set_option maxRecDepth 100000 in
theorem ck_164 : chkM 164 = true := by decide +kernel
set_option maxRecDepth 100000 in
theorem ck_165 : chkM 165 = true := by decide +kernel
set_option maxRecDepth 100000 in
theorem ck_166 : chkM 166 = true := by decide +kernel
set_option maxRecDepth 100000 in
theorem ck_167 : chkM 167 = true := by decide +kernel
set_option maxRecDepth 100000 in
theorem ck_168 : chkM 168 = true := by decide +kernel
set_option maxRecDepth 100000 in
theorem ck_169 : chkM 169 = true := by decide +kernel
set_option maxRecDepth 100000 in
theorem ck_170 : chkM 170 = true := by decide +kernel
set_option maxRecDepth 100000 in
theorem ck_171 : chkM 171 = true := by decide +kernel
set_option maxRecDepth 100000 in
theorem ck_172 : chkM 172 = true := by decide +kernel
set_option maxRecDepth 100000 in
theorem ck_173 : chkM 173 = true := by decide +kernel
set_option maxRecDepth 100000 in
theorem ck_174 : chkM 174 = true := by decide +kernel
set_option maxRecDepth 100000 in
theorem ck_175 : chkM 175 = true := by decide +kernel
set_option maxRecDepth 100000 in
theorem ck_176 : chkM 176 = true := by decide +kernel
set_option maxRecDepth 100000 in
theorem ck_177 : chkM 177 = true := by decide +kernel
set_option maxRecDepth 100000 in
theorem ck_178 : chkM 178 = true := by decide +kernel
set_option maxRecDepth 100000 in
theorem ck_179 : chkM 179 = true := by decide +kernel
set_option maxRecDepth 100000 in
theorem ck_180 : chkM 180 = true := by decide +kernel
set_option maxRecDepth 100000 in
theorem ck_181 : chkM 181 = true := by decide +kernel
set_option maxRecDepth 100000 in
theorem ck_182 : chkM 182 = true := by decide +kernel
set_option maxRecDepth 100000 in
theorem ck_183 : chkM 183 = true := by decide +kernel
set_option maxRecDepth 100000 in
theorem ck_184 : chkM 184 = true := by decide +kernel
set_option maxRecDepth 100000 in
theorem ck_185 : chkM 185 = true := by decide +kernel
set_option maxRecDepth 100000 in
theorem ck_186 : chkM 186 = true := by decide +kernel
set_option maxRecDepth 100000 in
theorem ck_187 : chkM 187 = true := by decide +kernel
set_option maxRecDepth 100000 in
theorem ck_188 : chkM 188 = true := by decide +kernel
set_option maxRecDepth 100000 in
theorem ck_189 : chkM 189 = true := by decide +kernel
set_option maxRecDepth 100000 in
theorem ck_190 : chkM 190 = true := by decide +kernel
set_option maxRecDepth 100000 in
theorem ck_191 : chkM 191 = true := by decide +kernel
set_option maxRecDepth 100000 in
theorem ck_192 : chkM 192 = true := by decide +kernel
set_option maxRecDepth 100000 in
theorem ck_193 : chkM 193 = true := by decide +kernel
set_option maxRecDepth 100000 in
theorem ck_194 : chkM 194 = true := by decide +kernel
set_option maxRecDepth 100000 in
theorem ck_195 : chkM 195 = true := by decide +kernel
set_option maxRecDepth 100000 in
theorem ck_196 : chkM 196 = true := by decide +kernel
set_option maxRecDepth 100000 in
theorem ck_197 : chkM 197 = true := by decide +kernel
set_option maxRecDepth 100000 in
theorem ck_198 : chkM 198 = true := by decide +kernel
set_option maxRecDepth 100000 in
theorem ck_199 : chkM 199 = true := by decide +kernel
set_option maxRecDepth 100000 in
theorem ck_200 : chkM 200 = true := by decide +kernel
set_option maxRecDepth 100000 in
theorem ck_201 : chkM 201 = true := by decide +kernel
set_option maxRecDepth 100000 in
theorem ck_202 : chkM 202 = true := by decide +kernel
set_option maxRecDepth 100000 in
theorem ck_203 : chkM 203 = true := by decide +kernel
set_option maxRecDepth 100000 in
theorem ck_204 : chkM 204 = true := by decide +kernel
set_option maxRecDepth 100000 in
theorem ck_205 : chkM 205 = true := by decide +kernel
set_option maxRecDepth 100000 in
theorem ck_206 : chkM 206 = true := by decide +kernel
set_option maxRecDepth 100000 in
theorem ck_207 : chkM 207 = true := by decide +kernel
set_option maxRecDepth 100000 in
theorem ck_208 : chkM 208 = true := by decide +kernel
set_option maxRecDepth 100000 in
theorem ck_209 : chkM 209 = true := by decide +kernel
set_option maxRecDepth 100000 in
theorem ck_210 : chkM 210 = true := by decide +kernel
set_option maxRecDepth 100000 in
theorem ck_211 : chkM 211 = true := by decide +kernel
set_option maxRecDepth 100000 in
theorem ck_212 : chkM 212 = true := by decide +kernel
set_option maxRecDepth 100000 in
theorem ck_213 : chkM 213 = true := by decide +kernel
set_option maxRecDepth 100000 in
theorem ck_214 : chkM 214 = true := by decide +kernel
set_option maxRecDepth 100000 in
theorem ck_215 : chkM 215 = true := by decide +kernel
set_option maxRecDepth 100000 in
theorem ck_216 : chkM 216 = true := by decide +kernel
set_option maxRecDepth 100000 in
theorem ck_217 : chkM 217 = true := by decide +kernel
set_option maxRecDepth 100000 in
theorem ck_218 : chkM 218 = true := by decide +kernel
set_option maxRecDepth 100000 in
theorem ck_219 : chkM 219 = true := by decide +kernel
set_option maxRecDepth 100000 in
theorem ck_220 : chkM 220 = true := by decide +kernel
set_option maxRecDepth 100000 in
theorem ck_221 : chkM 221 = true := by decide +kernel
set_option maxRecDepth 100000 in
theorem ck_222 : chkM 222 = true := by decide +kernel
set_option maxRecDepth 100000 in
theorem ck_223 : chkM 223 = true := by decide +kernel
set_option maxRecDepth 100000 in
theorem ck_224 : chkM 224 = true := by decide +kernel
set_option maxRecDepth 100000 in
theorem ck_225 : chkM 225 = true := by decide +kernel
set_option maxRecDepth 100000 in
theorem ck_226 : chkM 226 = true := by decide +kernel
set_option maxRecDepth 100000 in
theorem ck_227 : chkM 227 = true := by decide +kernel
set_option maxRecDepth 100000 in
theorem ck_228 : chkM 228 = true := by decide +kernel
set_option maxRecDepth 100000 in
theorem ck_229 : chkM 229 = true := by decide +kernel
set_option maxRecDepth 100000 in
theorem ck_230 : chkM 230 = true := by decide +kernel
set_option maxRecDepth 100000 in
theorem ck_231 : chkM 231 = true := by decide +kernel
set_option maxRecDepth 100000 in
theorem ck_232 : chkM 232 = true := by decide +kernel
set_option maxRecDepth 100000 in
theorem ck_233 : chkM 233 = true := by decide +kernel
set_option maxRecDepth 100000 in
theorem ck_234 : chkM 234 = true := by decide +kernel
set_option maxRecDepth 100000 in
theorem ck_235 : chkM 235 = true := by decide +kernel
set_option maxRecDepth 100000 in
theorem ck_236 : chkM 236 = true := by decide +kernel
set_option maxRecDepth 100000 in
theorem ck_237 : chkM 237 = true := by decide +kernel
set_option maxRecDepth 100000 in
theorem ck_238 : chkM 238 = true := by decide +kernel
set_option maxRecDepth 100000 in
theorem ck_239 : chkM 239 = true := by decide +kernel
set_option maxRecDepth 100000 in
theorem ck_240 : chkM 240 = true := by decide +kernel
set_option maxRecDepth 100000 in
theorem ck_241 : chkM 241 = true := by decide +kernel
set_option maxRecDepth 100000 in
theorem ck_242 : chkM 242 = true := by decide +kernel
set_option maxRecDepth 100000 in
theorem ck_243 : chkM 243 = true := by decide +kernel
set_option maxRecDepth 100000 in
theorem ck_244 : chkM 244 = true := by decide +kernel
set_option maxRecDepth 100000 in
theorem ck_245 : chkM 245 = true := by decide +kernel
set_option maxRecDepth 100000 in
theorem ck_246 : chkM 246 = true := by decide +kernel
set_option maxRecDepth 100000 in
theorem ck_247 : chkM 247 = true := by decide +kernel
set_option maxRecDepth 100000 in
theorem ck_248 : chkM 248 = true := by decide +kernel
set_option maxRecDepth 100000 in
theorem ck_249 : chkM 249 = true := by decide +kernel
set_option maxRecDepth 100000 in
theorem ck_250 : chkM 250 = true := by decide +kernel
set_option maxRecDepth 100000 in
theorem ck_251 : chkM 251 = true := by decide +kernel
set_option maxRecDepth 100000 in
theorem ck_252 : chkM 252 = true := by decide +kernel
set_option maxRecDepth 100000 in
theorem ck_253 : chkM 253 = true := by decide +kernel
set_option maxRecDepth 100000 in
theorem ck_254 : chkM 254 = true := by decide +kernel
set_option maxRecDepth 100000 in
theorem ck_255 : chkM 255 = true := by decide +kernel
set_option maxRecDepth 100000 in
theorem ck_256 : chkM 256 = true := by decide +kernel
set_option maxRecDepth 100000 in
theorem ck_257 : chkM 257 = true := by decide +kernel
set_option maxRecDepth 100000 in
theorem ck_258 : chkM 258 = true := by decide +kernel
set_option maxRecDepth 100000 in
theorem ck_259 : chkM 259 = true := by decide +kernel
set_option maxRecDepth 100000 in
theorem ck_260 : chkM 260 = true := by decide +kernel
set_option maxRecDepth 100000 in
theorem ck_261 : chkM 261 = true := by decide +kernel
set_option maxRecDepth 100000 in
theorem ck_262 : chkM 262 = true := by decide +kernel
set_option maxRecDepth 100000 in
theorem ck_263 : chkM 263 = true := by decide +kernel
set_option maxRecDepth 100000 in
theorem ck_264 : chkM 264 = true := by decide +kernel
set_option maxRecDepth 100000 in
theorem ck_265 : chkM 265 = true := by decide +kernel
set_option maxRecDepth 100000 in
theorem ck_266 : chkM 266 = true := by decide +kernel
set_option maxRecDepth 100000 in
theorem ck_267 : chkM 267 = true := by decide +kernel
set_option maxRecDepth 100000 in
theorem ck_268 : chkM 268 = true := by decide +kernel
set_option maxRecDepth 100000 in
theorem ck_269 : chkM 269 = true := by decide +kernel
set_option maxRecDepth 100000 in
theorem ck_270 : chkM 270 = true := by decide +kernel
set_option maxRecDepth 100000 in
theorem ck_271 : chkM 271 = true := by decide +kernel
set_option maxRecDepth 100000 in
theorem ck_272 : chkM 272 = true := by decide +kernel
set_option maxRecDepth 100000 in
theorem ck_273 : chkM 273 = true := by decide +kernel
set_option maxRecDepth 100000 in
theorem ck_274 : chkM 274 = true := by decide +kernel
set_option maxRecDepth 100000 in
theorem ck_275 : chkM 275 = true := by decide +kernel
set_option maxRecDepth 100000 in
theorem ck_276 : chkM 276 = true := by decide +kernel
set_option maxRecDepth 100000 in
theorem ck_277 : chkM 277 = true := by decide +kernel
set_option maxRecDepth 100000 in
theorem ck_278 : chkM 278 = true := by decide +kernel
set_option maxRecDepth 100000 in
theorem ck_279 : chkM 279 = true := by decide +kernel
set_option maxRecDepth 100000 in
theorem ck_280 : chkM 280 = true := by decide +kernel
set_option maxRecDepth 100000 in
theorem ck_281 : chkM 281 = true := by decide +kernel
set_option maxRecDepth 100000 in
theorem ck_282 : chkM 282 = true := by decide +kernel
set_option maxRecDepth 100000 in
theorem ck_283 : chkM 283 = true := by decide +kernel
set_option maxRecDepth 100000 in
theorem ck_284 : chkM 284 = true := by decide +kernel
set_option maxRecDepth 100000 in
theorem ck_285 : chkM 285 = true := by decide +kernel
set_option maxRecDepth 100000 in
theorem ck_286 : chkM 286 = true := by decide +kernel
set_option maxRecDepth 100000 in
theorem ck_287 : chkM 287 = true := by decide +kernel
set_option maxRecDepth 100000 in
theorem ck_288 : chkM 288 = true := by decide +kernel
set_option maxRecDepth 100000 in
theorem ck_289 : chkM 289 = true := by decide +kernel
set_option maxRecDepth 100000 in
theorem ck_290 : chkM 290 = true := by decide +kernel
set_option maxRecDepth 100000 in
theorem ck_291 : chkM 291 = true := by decide +kernel
set_option maxRecDepth 100000 in
theorem ck_292 : chkM 292 = true := by decide +kernel
set_option maxRecDepth 100000 in
theorem ck_293 : chkM 293 = true := by decide +kernel
set_option maxRecDepth 100000 in
theorem ck_294 : chkM 294 = true := by decide +kernel
set_option maxRecDepth 100000 in
theorem ck_295 : chkM 295 = true := by decide +kernel
set_option maxRecDepth 100000 in
theorem ck_296 : chkM 296 = true := by decide +kernel
set_option maxRecDepth 100000 in
theorem ck_297 : chkM 297 = true := by decide +kernel
set_option maxRecDepth 100000 in
theorem ck_298 : chkM 298 = true := by decide +kernel
set_option maxRecDepth 100000 in
theorem ck_299 : chkM 299 = true := by decide +kernel
set_option maxRecDepth 100000 in
theorem ck_300 : chkM 300 = true := by decide +kernel
set_option maxRecDepth 100000 in
theorem ck_301 : chkM 301 = true := by decide +kernel
set_option maxRecDepth 100000 in
theorem ck_302 : chkM 302 = true := by decide +kernel
set_option maxRecDepth 100000 in
theorem ck_303 : chkM 303 = true := by decide +kernel
set_option maxRecDepth 100000 in
theorem ck_304 : chkM 304 = true := by decide +kernel
set_option maxRecDepth 100000 in
theorem ck_305 : chkM 305 = true := by decide +kernel
set_option maxRecDepth 100000 in
theorem ck_306 : chkM 306 = true := by decide +kernel
set_option maxRecDepth 100000 in
theorem ck_307 : chkM 307 = true := by decide +kernel
set_option maxRecDepth 100000 in
theorem ck_308 : chkM 308 = true := by decide +kernel
set_option maxRecDepth 100000 in
theorem ck_309 : chkM 309 = true := by decide +kernel
set_option maxRecDepth 100000 in
theorem ck_310 : chkM 310 = true := by decide +kernel
set_option maxRecDepth 100000 in
theorem ck_311 : chkM 311 = true := by decide +kernel
set_option maxRecDepth 100000 in
theorem ck_312 : chkM 312 = true := by decide +kernel
set_option maxRecDepth 100000 in
theorem ck_313 : chkM 313 = true := by decide +kernel
set_option maxRecDepth 100000 in
theorem ck_314 : chkM 314 = true := by decide +kernel
set_option maxRecDepth 100000 in
theorem ck_315 : chkM 315 = true := by decide +kernel
set_option maxRecDepth 100000 in
theorem ck_316 : chkM 316 = true := by decide +kernel
set_option maxRecDepth 100000 in
theorem ck_317 : chkM 317 = true := by decide +kernel
set_option maxRecDepth 100000 in
theorem ck_318 : chkM 318 = true := by decide +kernel
set_option maxRecDepth 100000 in
theorem ck_320 : chkM 320 = true := by decide +kernel
end
section
/-! ===== the law, piece by piece ===== -/
def chkS (M : Nat) (l : List (Nat × List (Nat × Ent))) : Bool := l.all (fun s => s.2.all (fun q => decide (decode (byt M) q.1 = .ok (q.2.1, q.2.2.1)) && chkE (own M) (mtb M).2.2.1 q.1 q.2))
theorem chkS_step {M k n : Nat} {l : List (Nat × List (Nat × Ent))} (h1 : chkS M ((l.drop k).take n) = true) (h2 : chkS M (l.drop (k + n)) = true) : chkS M (l.drop k) = true := by
  rw [← List.take_append_drop n (l.drop k)]
  unfold chkS at *
  rw [List.all_append, h1, List.drop_drop, h2]
  rfl
set_option maxRecDepth 100000 in
theorem ckl_0 : chkS 319 ((mc_L_law.drop 0).take 3) = true := by decide +kernel
set_option maxRecDepth 100000 in
theorem ckl_1 : chkS 319 ((mc_L_law.drop 3).take 3) = true := by decide +kernel
set_option maxRecDepth 100000 in
theorem ckl_2 : chkS 319 ((mc_L_law.drop 6).take 3) = true := by decide +kernel
set_option maxRecDepth 100000 in
theorem ckl_3 : chkS 319 ((mc_L_law.drop 9).take 3) = true := by decide +kernel
set_option maxRecDepth 100000 in
theorem ckl_4 : chkS 319 ((mc_L_law.drop 12).take 3) = true := by decide +kernel
set_option maxRecDepth 100000 in
theorem ckl_5 : chkS 319 ((mc_L_law.drop 15).take 3) = true := by decide +kernel
set_option maxRecDepth 100000 in
theorem ckl_6 : chkS 319 ((mc_L_law.drop 18).take 3) = true := by decide +kernel
set_option maxRecDepth 100000 in
theorem ckl_7 : chkS 319 ((mc_L_law.drop 21).take 3) = true := by decide +kernel
set_option maxRecDepth 100000 in
theorem ckl_8 : chkS 319 ((mc_L_law.drop 24).take 3) = true := by decide +kernel
set_option maxRecDepth 100000 in
theorem ckl_9 : chkS 319 ((mc_L_law.drop 27).take 3) = true := by decide +kernel
set_option maxRecDepth 100000 in
theorem ckl_10 : chkS 319 ((mc_L_law.drop 30).take 3) = true := by decide +kernel
set_option maxRecDepth 100000 in
theorem ckl_11 : chkS 319 ((mc_L_law.drop 33).take 3) = true := by decide +kernel
set_option maxRecDepth 100000 in
theorem ckl_12 : chkS 319 ((mc_L_law.drop 36).take 3) = true := by decide +kernel
set_option maxRecDepth 100000 in
theorem ckl_13 : chkS 319 ((mc_L_law.drop 39).take 3) = true := by decide +kernel
set_option maxRecDepth 100000 in
theorem ckl_14 : chkS 319 ((mc_L_law.drop 42).take 3) = true := by decide +kernel
set_option maxRecDepth 100000 in
theorem ckl_15 : chkS 319 ((mc_L_law.drop 45).take 3) = true := by decide +kernel
set_option maxRecDepth 100000 in
theorem ckl_16 : chkS 319 ((mc_L_law.drop 48).take 3) = true := by decide +kernel
theorem ckt_17 : chkS 319 (mc_L_law.drop 51) = true := by decide +kernel
theorem ckt_16 : chkS 319 (mc_L_law.drop 48) = true := chkS_step ckl_16 ckt_17
theorem ckt_15 : chkS 319 (mc_L_law.drop 45) = true := chkS_step ckl_15 ckt_16
theorem ckt_14 : chkS 319 (mc_L_law.drop 42) = true := chkS_step ckl_14 ckt_15
theorem ckt_13 : chkS 319 (mc_L_law.drop 39) = true := chkS_step ckl_13 ckt_14
theorem ckt_12 : chkS 319 (mc_L_law.drop 36) = true := chkS_step ckl_12 ckt_13
theorem ckt_11 : chkS 319 (mc_L_law.drop 33) = true := chkS_step ckl_11 ckt_12
theorem ckt_10 : chkS 319 (mc_L_law.drop 30) = true := chkS_step ckl_10 ckt_11
theorem ckt_9 : chkS 319 (mc_L_law.drop 27) = true := chkS_step ckl_9 ckt_10
theorem ckt_8 : chkS 319 (mc_L_law.drop 24) = true := chkS_step ckl_8 ckt_9
theorem ckt_7 : chkS 319 (mc_L_law.drop 21) = true := chkS_step ckl_7 ckt_8
theorem ckt_6 : chkS 319 (mc_L_law.drop 18) = true := chkS_step ckl_6 ckt_7
theorem ckt_5 : chkS 319 (mc_L_law.drop 15) = true := chkS_step ckl_5 ckt_6
theorem ckt_4 : chkS 319 (mc_L_law.drop 12) = true := chkS_step ckl_4 ckt_5
theorem ckt_3 : chkS 319 (mc_L_law.drop 9) = true := chkS_step ckl_3 ckt_4
theorem ckt_2 : chkS 319 (mc_L_law.drop 6) = true := chkS_step ckl_2 ckt_3
theorem ckt_1 : chkS 319 (mc_L_law.drop 3) = true := chkS_step ckl_1 ckt_2
theorem ckt_0 : chkS 319 (mc_L_law.drop 0) = true := chkS_step ckl_0 ckt_1
theorem ck_319 : chkM 319 = true := ckt_0
end
section
/-! ===== all of them ===== -/
theorem ckg_0 (M : Nat) (h1 : 0 ≤ M) (h2 : M < 8) : chkM M = true := by
  rcases (show M = 0 ∨ M = 1 ∨ M = 2 ∨ M = 3 ∨ M = 4 ∨ M = 5 ∨ M = 6 ∨ M = 7 by omega) with rfl | rfl | rfl | rfl | rfl | rfl | rfl | rfl
  · exact ck_0
  · exact ck_1
  · exact ck_2
  · exact ck_3
  · exact ck_4
  · exact ck_5
  · exact ck_6
  · exact ck_7
theorem ckg_1 (M : Nat) (h1 : 8 ≤ M) (h2 : M < 16) : chkM M = true := by
  rcases (show M = 8 ∨ M = 9 ∨ M = 10 ∨ M = 11 ∨ M = 12 ∨ M = 13 ∨ M = 14 ∨ M = 15 by omega) with rfl | rfl | rfl | rfl | rfl | rfl | rfl | rfl
  · exact ck_8
  · exact ck_9
  · exact ck_10
  · exact ck_11
  · exact ck_12
  · exact ck_13
  · exact ck_14
  · exact ck_15
theorem ckg_2 (M : Nat) (h1 : 16 ≤ M) (h2 : M < 24) : chkM M = true := by
  rcases (show M = 16 ∨ M = 17 ∨ M = 18 ∨ M = 19 ∨ M = 20 ∨ M = 21 ∨ M = 22 ∨ M = 23 by omega) with rfl | rfl | rfl | rfl | rfl | rfl | rfl | rfl
  · exact ck_16
  · exact ck_17
  · exact ck_18
  · exact ck_19
  · exact ck_20
  · exact ck_21
  · exact ck_22
  · exact ck_23
theorem ckg_3 (M : Nat) (h1 : 24 ≤ M) (h2 : M < 32) : chkM M = true := by
  rcases (show M = 24 ∨ M = 25 ∨ M = 26 ∨ M = 27 ∨ M = 28 ∨ M = 29 ∨ M = 30 ∨ M = 31 by omega) with rfl | rfl | rfl | rfl | rfl | rfl | rfl | rfl
  · exact ck_24
  · exact ck_25
  · exact ck_26
  · exact ck_27
  · exact ck_28
  · exact ck_29
  · exact ck_30
  · exact ck_31
theorem ckg_4 (M : Nat) (h1 : 32 ≤ M) (h2 : M < 40) : chkM M = true := by
  rcases (show M = 32 ∨ M = 33 ∨ M = 34 ∨ M = 35 ∨ M = 36 ∨ M = 37 ∨ M = 38 ∨ M = 39 by omega) with rfl | rfl | rfl | rfl | rfl | rfl | rfl | rfl
  · exact ck_32
  · exact ck_33
  · exact ck_34
  · exact ck_35
  · exact ck_36
  · exact ck_37
  · exact ck_38
  · exact ck_39
theorem ckg_5 (M : Nat) (h1 : 40 ≤ M) (h2 : M < 48) : chkM M = true := by
  rcases (show M = 40 ∨ M = 41 ∨ M = 42 ∨ M = 43 ∨ M = 44 ∨ M = 45 ∨ M = 46 ∨ M = 47 by omega) with rfl | rfl | rfl | rfl | rfl | rfl | rfl | rfl
  · exact ck_40
  · exact ck_41
  · exact ck_42
  · exact ck_43
  · exact ck_44
  · exact ck_45
  · exact ck_46
  · exact ck_47
theorem ckg_6 (M : Nat) (h1 : 48 ≤ M) (h2 : M < 56) : chkM M = true := by
  rcases (show M = 48 ∨ M = 49 ∨ M = 50 ∨ M = 51 ∨ M = 52 ∨ M = 53 ∨ M = 54 ∨ M = 55 by omega) with rfl | rfl | rfl | rfl | rfl | rfl | rfl | rfl
  · exact ck_48
  · exact ck_49
  · exact ck_50
  · exact ck_51
  · exact ck_52
  · exact ck_53
  · exact ck_54
  · exact ck_55
theorem ckg_7 (M : Nat) (h1 : 56 ≤ M) (h2 : M < 64) : chkM M = true := by
  rcases (show M = 56 ∨ M = 57 ∨ M = 58 ∨ M = 59 ∨ M = 60 ∨ M = 61 ∨ M = 62 ∨ M = 63 by omega) with rfl | rfl | rfl | rfl | rfl | rfl | rfl | rfl
  · exact ck_56
  · exact ck_57
  · exact ck_58
  · exact ck_59
  · exact ck_60
  · exact ck_61
  · exact ck_62
  · exact ck_63
theorem ckg_8 (M : Nat) (h1 : 64 ≤ M) (h2 : M < 72) : chkM M = true := by
  rcases (show M = 64 ∨ M = 65 ∨ M = 66 ∨ M = 67 ∨ M = 68 ∨ M = 69 ∨ M = 70 ∨ M = 71 by omega) with rfl | rfl | rfl | rfl | rfl | rfl | rfl | rfl
  · exact ck_64
  · exact ck_65
  · exact ck_66
  · exact ck_67
  · exact ck_68
  · exact ck_69
  · exact ck_70
  · exact ck_71
theorem ckg_9 (M : Nat) (h1 : 72 ≤ M) (h2 : M < 80) : chkM M = true := by
  rcases (show M = 72 ∨ M = 73 ∨ M = 74 ∨ M = 75 ∨ M = 76 ∨ M = 77 ∨ M = 78 ∨ M = 79 by omega) with rfl | rfl | rfl | rfl | rfl | rfl | rfl | rfl
  · exact ck_72
  · exact ck_73
  · exact ck_74
  · exact ck_75
  · exact ck_76
  · exact ck_77
  · exact ck_78
  · exact ck_79
theorem ckg_10 (M : Nat) (h1 : 80 ≤ M) (h2 : M < 88) : chkM M = true := by
  rcases (show M = 80 ∨ M = 81 ∨ M = 82 ∨ M = 83 ∨ M = 84 ∨ M = 85 ∨ M = 86 ∨ M = 87 by omega) with rfl | rfl | rfl | rfl | rfl | rfl | rfl | rfl
  · exact ck_80
  · exact ck_81
  · exact ck_82
  · exact ck_83
  · exact ck_84
  · exact ck_85
  · exact ck_86
  · exact ck_87
theorem ckg_11 (M : Nat) (h1 : 88 ≤ M) (h2 : M < 96) : chkM M = true := by
  rcases (show M = 88 ∨ M = 89 ∨ M = 90 ∨ M = 91 ∨ M = 92 ∨ M = 93 ∨ M = 94 ∨ M = 95 by omega) with rfl | rfl | rfl | rfl | rfl | rfl | rfl | rfl
  · exact ck_88
  · exact ck_89
  · exact ck_90
  · exact ck_91
  · exact ck_92
  · exact ck_93
  · exact ck_94
  · exact ck_95
theorem ckg_12 (M : Nat) (h1 : 96 ≤ M) (h2 : M < 104) : chkM M = true := by
  rcases (show M = 96 ∨ M = 97 ∨ M = 98 ∨ M = 99 ∨ M = 100 ∨ M = 101 ∨ M = 102 ∨ M = 103 by omega) with rfl | rfl | rfl | rfl | rfl | rfl | rfl | rfl
  · exact ck_96
  · exact ck_97
  · exact ck_98
  · exact ck_99
  · exact ck_100
  · exact ck_101
  · exact ck_102
  · exact ck_103
theorem ckg_13 (M : Nat) (h1 : 104 ≤ M) (h2 : M < 112) : chkM M = true := by
  rcases (show M = 104 ∨ M = 105 ∨ M = 106 ∨ M = 107 ∨ M = 108 ∨ M = 109 ∨ M = 110 ∨ M = 111 by omega) with rfl | rfl | rfl | rfl | rfl | rfl | rfl | rfl
  · exact ck_104
  · exact ck_105
  · exact ck_106
  · exact ck_107
  · exact ck_108
  · exact ck_109
  · exact ck_110
  · exact ck_111
theorem ckg_14 (M : Nat) (h1 : 112 ≤ M) (h2 : M < 120) : chkM M = true := by
  rcases (show M = 112 ∨ M = 113 ∨ M = 114 ∨ M = 115 ∨ M = 116 ∨ M = 117 ∨ M = 118 ∨ M = 119 by omega) with rfl | rfl | rfl | rfl | rfl | rfl | rfl | rfl
  · exact ck_112
  · exact ck_113
  · exact ck_114
  · exact ck_115
  · exact ck_116
  · exact ck_117
  · exact ck_118
  · exact ck_119
theorem ckg_15 (M : Nat) (h1 : 120 ≤ M) (h2 : M < 128) : chkM M = true := by
  rcases (show M = 120 ∨ M = 121 ∨ M = 122 ∨ M = 123 ∨ M = 124 ∨ M = 125 ∨ M = 126 ∨ M = 127 by omega) with rfl | rfl | rfl | rfl | rfl | rfl | rfl | rfl
  · exact ck_120
  · exact ck_121
  · exact ck_122
  · exact ck_123
  · exact ck_124
  · exact ck_125
  · exact ck_126
  · exact ck_127
theorem ckg_16 (M : Nat) (h1 : 128 ≤ M) (h2 : M < 136) : chkM M = true := by
  rcases (show M = 128 ∨ M = 129 ∨ M = 130 ∨ M = 131 ∨ M = 132 ∨ M = 133 ∨ M = 134 ∨ M = 135 by omega) with rfl | rfl | rfl | rfl | rfl | rfl | rfl | rfl
  · exact ck_128
  · exact ck_129
  · exact ck_130
  · exact ck_131
  · exact ck_132
  · exact ck_133
  · exact ck_134
  · exact ck_135
theorem ckg_17 (M : Nat) (h1 : 136 ≤ M) (h2 : M < 144) : chkM M = true := by
  rcases (show M = 136 ∨ M = 137 ∨ M = 138 ∨ M = 139 ∨ M = 140 ∨ M = 141 ∨ M = 142 ∨ M = 143 by omega) with rfl | rfl | rfl | rfl | rfl | rfl | rfl | rfl
  · exact ck_136
  · exact ck_137
  · exact ck_138
  · exact ck_139
  · exact ck_140
  · exact ck_141
  · exact ck_142
  · exact ck_143
theorem ckg_18 (M : Nat) (h1 : 144 ≤ M) (h2 : M < 152) : chkM M = true := by
  rcases (show M = 144 ∨ M = 145 ∨ M = 146 ∨ M = 147 ∨ M = 148 ∨ M = 149 ∨ M = 150 ∨ M = 151 by omega) with rfl | rfl | rfl | rfl | rfl | rfl | rfl | rfl
  · exact ck_144
  · exact ck_145
  · exact ck_146
  · exact ck_147
  · exact ck_148
  · exact ck_149
  · exact ck_150
  · exact ck_151
theorem ckg_19 (M : Nat) (h1 : 152 ≤ M) (h2 : M < 160) : chkM M = true := by
  rcases (show M = 152 ∨ M = 153 ∨ M = 154 ∨ M = 155 ∨ M = 156 ∨ M = 157 ∨ M = 158 ∨ M = 159 by omega) with rfl | rfl | rfl | rfl | rfl | rfl | rfl | rfl
  · exact ck_152
  · exact ck_153
  · exact ck_154
  · exact ck_155
  · exact ck_156
  · exact ck_157
  · exact ck_158
  · exact ck_159
theorem ckg_20 (M : Nat) (h1 : 160 ≤ M) (h2 : M < 168) : chkM M = true := by
  rcases (show M = 160 ∨ M = 161 ∨ M = 162 ∨ M = 163 ∨ M = 164 ∨ M = 165 ∨ M = 166 ∨ M = 167 by omega) with rfl | rfl | rfl | rfl | rfl | rfl | rfl | rfl
  · exact ck_160
  · exact ck_161
  · exact ck_162
  · exact ck_163
  · exact ck_164
  · exact ck_165
  · exact ck_166
  · exact ck_167
theorem ckg_21 (M : Nat) (h1 : 168 ≤ M) (h2 : M < 176) : chkM M = true := by
  rcases (show M = 168 ∨ M = 169 ∨ M = 170 ∨ M = 171 ∨ M = 172 ∨ M = 173 ∨ M = 174 ∨ M = 175 by omega) with rfl | rfl | rfl | rfl | rfl | rfl | rfl | rfl
  · exact ck_168
  · exact ck_169
  · exact ck_170
  · exact ck_171
  · exact ck_172
  · exact ck_173
  · exact ck_174
  · exact ck_175
theorem ckg_22 (M : Nat) (h1 : 176 ≤ M) (h2 : M < 184) : chkM M = true := by
  rcases (show M = 176 ∨ M = 177 ∨ M = 178 ∨ M = 179 ∨ M = 180 ∨ M = 181 ∨ M = 182 ∨ M = 183 by omega) with rfl | rfl | rfl | rfl | rfl | rfl | rfl | rfl
  · exact ck_176
  · exact ck_177
  · exact ck_178
  · exact ck_179
  · exact ck_180
  · exact ck_181
  · exact ck_182
  · exact ck_183
theorem ckg_23 (M : Nat) (h1 : 184 ≤ M) (h2 : M < 192) : chkM M = true := by
  rcases (show M = 184 ∨ M = 185 ∨ M = 186 ∨ M = 187 ∨ M = 188 ∨ M = 189 ∨ M = 190 ∨ M = 191 by omega) with rfl | rfl | rfl | rfl | rfl | rfl | rfl | rfl
  · exact ck_184
  · exact ck_185
  · exact ck_186
  · exact ck_187
  · exact ck_188
  · exact ck_189
  · exact ck_190
  · exact ck_191
theorem ckg_24 (M : Nat) (h1 : 192 ≤ M) (h2 : M < 200) : chkM M = true := by
  rcases (show M = 192 ∨ M = 193 ∨ M = 194 ∨ M = 195 ∨ M = 196 ∨ M = 197 ∨ M = 198 ∨ M = 199 by omega) with rfl | rfl | rfl | rfl | rfl | rfl | rfl | rfl
  · exact ck_192
  · exact ck_193
  · exact ck_194
  · exact ck_195
  · exact ck_196
  · exact ck_197
  · exact ck_198
  · exact ck_199
theorem ckg_25 (M : Nat) (h1 : 200 ≤ M) (h2 : M < 208) : chkM M = true := by
  rcases (show M = 200 ∨ M = 201 ∨ M = 202 ∨ M = 203 ∨ M = 204 ∨ M = 205 ∨ M = 206 ∨ M = 207 by omega) with rfl | rfl | rfl | rfl | rfl | rfl | rfl | rfl
  · exact ck_200
  · exact ck_201
  · exact ck_202
  · exact ck_203
  · exact ck_204
  · exact ck_205
  · exact ck_206
  · exact ck_207
theorem ckg_26 (M : Nat) (h1 : 208 ≤ M) (h2 : M < 216) : chkM M = true := by
  rcases (show M = 208 ∨ M = 209 ∨ M = 210 ∨ M = 211 ∨ M = 212 ∨ M = 213 ∨ M = 214 ∨ M = 215 by omega) with rfl | rfl | rfl | rfl | rfl | rfl | rfl | rfl
  · exact ck_208
  · exact ck_209
  · exact ck_210
  · exact ck_211
  · exact ck_212
  · exact ck_213
  · exact ck_214
  · exact ck_215
theorem ckg_27 (M : Nat) (h1 : 216 ≤ M) (h2 : M < 224) : chkM M = true := by
  rcases (show M = 216 ∨ M = 217 ∨ M = 218 ∨ M = 219 ∨ M = 220 ∨ M = 221 ∨ M = 222 ∨ M = 223 by omega) with rfl | rfl | rfl | rfl | rfl | rfl | rfl | rfl
  · exact ck_216
  · exact ck_217
  · exact ck_218
  · exact ck_219
  · exact ck_220
  · exact ck_221
  · exact ck_222
  · exact ck_223
theorem ckg_28 (M : Nat) (h1 : 224 ≤ M) (h2 : M < 232) : chkM M = true := by
  rcases (show M = 224 ∨ M = 225 ∨ M = 226 ∨ M = 227 ∨ M = 228 ∨ M = 229 ∨ M = 230 ∨ M = 231 by omega) with rfl | rfl | rfl | rfl | rfl | rfl | rfl | rfl
  · exact ck_224
  · exact ck_225
  · exact ck_226
  · exact ck_227
  · exact ck_228
  · exact ck_229
  · exact ck_230
  · exact ck_231
theorem ckg_29 (M : Nat) (h1 : 232 ≤ M) (h2 : M < 240) : chkM M = true := by
  rcases (show M = 232 ∨ M = 233 ∨ M = 234 ∨ M = 235 ∨ M = 236 ∨ M = 237 ∨ M = 238 ∨ M = 239 by omega) with rfl | rfl | rfl | rfl | rfl | rfl | rfl | rfl
  · exact ck_232
  · exact ck_233
  · exact ck_234
  · exact ck_235
  · exact ck_236
  · exact ck_237
  · exact ck_238
  · exact ck_239
theorem ckg_30 (M : Nat) (h1 : 240 ≤ M) (h2 : M < 248) : chkM M = true := by
  rcases (show M = 240 ∨ M = 241 ∨ M = 242 ∨ M = 243 ∨ M = 244 ∨ M = 245 ∨ M = 246 ∨ M = 247 by omega) with rfl | rfl | rfl | rfl | rfl | rfl | rfl | rfl
  · exact ck_240
  · exact ck_241
  · exact ck_242
  · exact ck_243
  · exact ck_244
  · exact ck_245
  · exact ck_246
  · exact ck_247
theorem ckg_31 (M : Nat) (h1 : 248 ≤ M) (h2 : M < 256) : chkM M = true := by
  rcases (show M = 248 ∨ M = 249 ∨ M = 250 ∨ M = 251 ∨ M = 252 ∨ M = 253 ∨ M = 254 ∨ M = 255 by omega) with rfl | rfl | rfl | rfl | rfl | rfl | rfl | rfl
  · exact ck_248
  · exact ck_249
  · exact ck_250
  · exact ck_251
  · exact ck_252
  · exact ck_253
  · exact ck_254
  · exact ck_255
theorem ckg_32 (M : Nat) (h1 : 256 ≤ M) (h2 : M < 264) : chkM M = true := by
  rcases (show M = 256 ∨ M = 257 ∨ M = 258 ∨ M = 259 ∨ M = 260 ∨ M = 261 ∨ M = 262 ∨ M = 263 by omega) with rfl | rfl | rfl | rfl | rfl | rfl | rfl | rfl
  · exact ck_256
  · exact ck_257
  · exact ck_258
  · exact ck_259
  · exact ck_260
  · exact ck_261
  · exact ck_262
  · exact ck_263
theorem ckg_33 (M : Nat) (h1 : 264 ≤ M) (h2 : M < 272) : chkM M = true := by
  rcases (show M = 264 ∨ M = 265 ∨ M = 266 ∨ M = 267 ∨ M = 268 ∨ M = 269 ∨ M = 270 ∨ M = 271 by omega) with rfl | rfl | rfl | rfl | rfl | rfl | rfl | rfl
  · exact ck_264
  · exact ck_265
  · exact ck_266
  · exact ck_267
  · exact ck_268
  · exact ck_269
  · exact ck_270
  · exact ck_271
theorem ckg_34 (M : Nat) (h1 : 272 ≤ M) (h2 : M < 280) : chkM M = true := by
  rcases (show M = 272 ∨ M = 273 ∨ M = 274 ∨ M = 275 ∨ M = 276 ∨ M = 277 ∨ M = 278 ∨ M = 279 by omega) with rfl | rfl | rfl | rfl | rfl | rfl | rfl | rfl
  · exact ck_272
  · exact ck_273
  · exact ck_274
  · exact ck_275
  · exact ck_276
  · exact ck_277
  · exact ck_278
  · exact ck_279
theorem ckg_35 (M : Nat) (h1 : 280 ≤ M) (h2 : M < 288) : chkM M = true := by
  rcases (show M = 280 ∨ M = 281 ∨ M = 282 ∨ M = 283 ∨ M = 284 ∨ M = 285 ∨ M = 286 ∨ M = 287 by omega) with rfl | rfl | rfl | rfl | rfl | rfl | rfl | rfl
  · exact ck_280
  · exact ck_281
  · exact ck_282
  · exact ck_283
  · exact ck_284
  · exact ck_285
  · exact ck_286
  · exact ck_287
theorem ckg_36 (M : Nat) (h1 : 288 ≤ M) (h2 : M < 296) : chkM M = true := by
  rcases (show M = 288 ∨ M = 289 ∨ M = 290 ∨ M = 291 ∨ M = 292 ∨ M = 293 ∨ M = 294 ∨ M = 295 by omega) with rfl | rfl | rfl | rfl | rfl | rfl | rfl | rfl
  · exact ck_288
  · exact ck_289
  · exact ck_290
  · exact ck_291
  · exact ck_292
  · exact ck_293
  · exact ck_294
  · exact ck_295
theorem ckg_37 (M : Nat) (h1 : 296 ≤ M) (h2 : M < 304) : chkM M = true := by
  rcases (show M = 296 ∨ M = 297 ∨ M = 298 ∨ M = 299 ∨ M = 300 ∨ M = 301 ∨ M = 302 ∨ M = 303 by omega) with rfl | rfl | rfl | rfl | rfl | rfl | rfl | rfl
  · exact ck_296
  · exact ck_297
  · exact ck_298
  · exact ck_299
  · exact ck_300
  · exact ck_301
  · exact ck_302
  · exact ck_303
theorem ckg_38 (M : Nat) (h1 : 304 ≤ M) (h2 : M < 312) : chkM M = true := by
  rcases (show M = 304 ∨ M = 305 ∨ M = 306 ∨ M = 307 ∨ M = 308 ∨ M = 309 ∨ M = 310 ∨ M = 311 by omega) with rfl | rfl | rfl | rfl | rfl | rfl | rfl | rfl
  · exact ck_304
  · exact ck_305
  · exact ck_306
  · exact ck_307
  · exact ck_308
  · exact ck_309
  · exact ck_310
  · exact ck_311
theorem ckg_39 (M : Nat) (h1 : 312 ≤ M) (h2 : M < 320) : chkM M = true := by
  rcases (show M = 312 ∨ M = 313 ∨ M = 314 ∨ M = 315 ∨ M = 316 ∨ M = 317 ∨ M = 318 ∨ M = 319 by omega) with rfl | rfl | rfl | rfl | rfl | rfl | rfl | rfl
  · exact ck_312
  · exact ck_313
  · exact ck_314
  · exact ck_315
  · exact ck_316
  · exact ck_317
  · exact ck_318
  · exact ck_319
theorem ckg_40 (M : Nat) (h1 : 320 ≤ M) (h2 : M < 321) : chkM M = true := by
  rcases (show M = 320 by omega) with rfl
  · exact ck_320
theorem ck_all (M : Nat) : chkM M = true := by
  by_cases h : M < 321
  · skip
    by_cases h20 : M < 160
    · skip
      by_cases h10 : M < 80
      · skip
        by_cases h5 : M < 40
        · skip
          by_cases h2 : M < 16
          · skip
            by_cases h1 : M < 8
            · skip
              exact ckg_0 M (by omega) (by omega)
            · skip
              exact ckg_1 M (by omega) (by omega)
          · skip
            by_cases h3 : M < 24
            · skip
              exact ckg_2 M (by omega) (by omega)
            · skip
              by_cases h4 : M < 32
              · skip
                exact ckg_3 M (by omega) (by omega)
              · skip
                exact ckg_4 M (by omega) (by omega)
        · skip
          by_cases h7 : M < 56
          · skip
            by_cases h6 : M < 48
            · skip
              exact ckg_5 M (by omega) (by omega)
            · skip
              exact ckg_6 M (by omega) (by omega)
          · skip
            by_cases h8 : M < 64
            · skip
              exact ckg_7 M (by omega) (by omega)
            · skip
              by_cases h9 : M < 72
              · skip
                exact ckg_8 M (by omega) (by omega)
              · skip
                exact ckg_9 M (by omega) (by omega)
      · skip
        by_cases h15 : M < 120
        · skip
          by_cases h12 : M < 96
          · skip
            by_cases h11 : M < 88
            · skip
              exact ckg_10 M (by omega) (by omega)
            · skip
              exact ckg_11 M (by omega) (by omega)
          · skip
            by_cases h13 : M < 104
            · skip
              exact ckg_12 M (by omega) (by omega)
            · skip
              by_cases h14 : M < 112
              · skip
                exact ckg_13 M (by omega) (by omega)
              · skip
                exact ckg_14 M (by omega) (by omega)
        · skip
          by_cases h17 : M < 136
          · skip
            by_cases h16 : M < 128
            · skip
              exact ckg_15 M (by omega) (by omega)
            · skip
              exact ckg_16 M (by omega) (by omega)
          · skip
            by_cases h18 : M < 144
            · skip
              exact ckg_17 M (by omega) (by omega)
            · skip
              by_cases h19 : M < 152
              · skip
                exact ckg_18 M (by omega) (by omega)
              · skip
                exact ckg_19 M (by omega) (by omega)
    · skip
      by_cases h30 : M < 240
      · skip
        by_cases h25 : M < 200
        · skip
          by_cases h22 : M < 176
          · skip
            by_cases h21 : M < 168
            · skip
              exact ckg_20 M (by omega) (by omega)
            · skip
              exact ckg_21 M (by omega) (by omega)
          · skip
            by_cases h23 : M < 184
            · skip
              exact ckg_22 M (by omega) (by omega)
            · skip
              by_cases h24 : M < 192
              · skip
                exact ckg_23 M (by omega) (by omega)
              · skip
                exact ckg_24 M (by omega) (by omega)
        · skip
          by_cases h27 : M < 216
          · skip
            by_cases h26 : M < 208
            · skip
              exact ckg_25 M (by omega) (by omega)
            · skip
              exact ckg_26 M (by omega) (by omega)
          · skip
            by_cases h28 : M < 224
            · skip
              exact ckg_27 M (by omega) (by omega)
            · skip
              by_cases h29 : M < 232
              · skip
                exact ckg_28 M (by omega) (by omega)
              · skip
                exact ckg_29 M (by omega) (by omega)
      · skip
        by_cases h35 : M < 280
        · skip
          by_cases h32 : M < 256
          · skip
            by_cases h31 : M < 248
            · skip
              exact ckg_30 M (by omega) (by omega)
            · skip
              exact ckg_31 M (by omega) (by omega)
          · skip
            by_cases h33 : M < 264
            · skip
              exact ckg_32 M (by omega) (by omega)
            · skip
              by_cases h34 : M < 272
              · skip
                exact ckg_33 M (by omega) (by omega)
              · skip
                exact ckg_34 M (by omega) (by omega)
        · skip
          by_cases h38 : M < 304
          · skip
            by_cases h36 : M < 288
            · skip
              exact ckg_35 M (by omega) (by omega)
            · skip
              by_cases h37 : M < 296
              · skip
                exact ckg_36 M (by omega) (by omega)
              · skip
                exact ckg_37 M (by omega) (by omega)
          · skip
            by_cases h39 : M < 312
            · skip
              exact ckg_38 M (by omega) (by omega)
            · skip
              by_cases h40 : M < 320
              · skip
                exact ckg_39 M (by omega) (by omega)
              · skip
                exact ckg_40 M (by omega) (by omega)
  · have h0 : mcode M = [] := by
      unfold mcode mrow
      rw [show Nat.blt M 321 = false from by rw [Bool.eq_false_iff]; intro q; rw [Nat.blt_eq] at q; exact h q]
      rfl
    unfold chkM
    rw [h0]
    rfl
end
section
/-! ===== ONE STEP as what it asks; runs by fuel; blocks ===== -/
def okObj (a c : Nat) : Bool := match shp a with
  | (4, n, _) => n == Int.ofNat c
  | _ => false
abbrev oI (r : RV) (k : Int → Prop) : Prop := match r with
  | some (.inl w) => k w
  | _ => False
abbrev oJ (r : RV) (k : Int → Prop) : Prop := match r with
  | some (.inr (.inr (.inl w))) => k w
  | _ => False
abbrev oV (r : RV) (k : Prop) : Prop := match r with
  | none => k
  | _ => False
def ldI (ls : Lo) (k : Nat) (g : Int → Prop) : Prop := match ls[k]? with
  | some (some (.inl w)) => g w
  | _ => False
def ldJ (ls : Lo) (k : Nat) (g : Int → Prop) : Prop := match ls[k]? with
  | some (some (.inr (.inr (.inl w)))) => g w
  | _ => False
def ldA (ls : Lo) (k : Nat) (g : AV → Prop) : Prop := match ls[k]? with
  | some (some (.inr (.inl a))) => g (.inr (.inl a))
  | some (some (.inr (.inr (.inr q)))) => g (.inr (.inr (.inr q)))
  | _ => False
def stI (ls : Lo) (k : Nat) (st : List AV) (g : Lo → List AV → Prop) : Prop := match st with
  | .inl w :: r => bif stOk ls k then g (setL (vI w) k ls) r else False
  | _ => False
def stJ (ls : Lo) (k : Nat) (st : List AV) (g : Lo → List AV → Prop) : Prop := match st with
  | .inr (.inr (.inl w)) :: r => bif (stOk ls k && Nat.blt (k + 1) ls.length) then g ((setL none (k + 1) (setL none k ls)).set k (vJ w)) r else False
  | _ => False
def stA (ls : Lo) (k : Nat) (st : List AV) (g : Lo → List AV → Prop) : Prop := match st with
  | .inr (.inl a) :: r => bif stOk ls k then g (setL (vR a) k ls) r else False
  | .inr (.inr (.inr (o, i))) :: r => bif stOk ls k then g (setL (vW o i) k ls) r else False
  | _ => False
/-- two ints on the stack -/
def two (st : List AV) (g : Int → Int → List AV → Prop) : Prop := match st with
  | .inl b :: .inl a :: r => g a b r
  | _ => False
def one (st : List AV) (g : Int → List AV → Prop) : Prop := match st with
  | .inl a :: r => g a r
  | _ => False
def twoJ (st : List AV) (g : Int → Int → List AV → Prop) : Prop := match st with
  | .inr (.inr (.inl b)) :: .inr (.inr (.inl a)) :: r => g a b r
  | _ => False
def oneJ (st : List AV) (g : Int → List AV → Prop) : Prop := match st with
  | .inr (.inr (.inl a)) :: r => g a r
  | _ => False
/-- an array's place read -/
def rdI (σ : Mem) (i : Int) (v : AV) (g : Int → Prop) : Prop := match v with
  | .inr (.inl a) => (match shp a with
    | (0, n, _) => (0 ≤ i ∧ i < n) ∧ g (σ a i)
    | (6, _, _) => (0 ≤ i ∧ i < σ 0 0) ∧ g (σ a i)
    | (7, n, _) => (0 ≤ i ∧ i < n) ∧ g (cst a i)
    | _ => False)
  | .inr (.inr (.inr (o, q))) => (match shp o with
    | (1, n, w) => ((0 ≤ q ∧ q < n) ∧ 0 ≤ i ∧ i < w) ∧ g (σ o (q * w + i))
    | _ => False)
  | _ => False
def wrI (σ : Mem) (x i : Int) (v : AV) (g : Mem → Prop) : Prop := match v with
  | .inr (.inl a) => (match shp a with
    | (0, n, _) => (0 ≤ i ∧ i < n) ∧ g (ups σ a i x)
    | _ => False)
  | .inr (.inr (.inr (o, q))) => (match shp o with
    | (1, n, w) => ((0 ≤ q ∧ q < n) ∧ 0 ≤ i ∧ i < w) ∧ g (ups σ o (q * w + i) x)
    | _ => False)
  | _ => False
def lenA (σ : Mem) (v : AV) (g : Int → Prop) : Prop := match v with
  | .inr (.inl a) => (match shp a with
    | (0, n, _) => g n
    | (6, _, _) => g (σ 0 0)
    | _ => False)
  | .inr (.inr (.inr (o, q))) => (match shp o with
    | (1, n, w) => (0 ≤ q ∧ q < n) ∧ g w
    | _ => False)
  | _ => False
/-- System.arraycopy -/
def acp (σ : Mem) (st : List AV) (g : List AV → Mem → Prop) : Prop := match st with
  | [.inl n, .inl dp, .inr (.inl b), .inl sp, .inr (.inl a)] => (match shp a, shp b with
    | (0, na, _), (0, nb, _) => ((0 ≤ sp ∧ 0 ≤ dp ∧ 0 ≤ n) ∧ sp + n ≤ na ∧ dp + n ≤ nb) ∧ g [] (su σ b (cpy (σ a) (σ b) sp dp n))
    | (7, na, _), (0, nb, _) => ((0 ≤ sp ∧ 0 ≤ dp ∧ 0 ≤ n) ∧ sp + n ≤ na ∧ dp + n ≤ nb) ∧ g [] (su σ b (cpy (cst a) (σ b) sp dp n))
    | _, _ => False)
  | _ => False
def gf (σ : Mem) (a x y z : Nat) (v : Int) (g : AV → Prop) : Prop := bif okObj a x then (match z with
    | 1 => g (.inr (.inl (rf a y)))
    | 2 => g (.inr (.inr (.inl (σ a v))))
    | _ => g (.inl (σ a v))) else False
def pf (σ : Mem) (st : List AV) (x z : Nat) (v : Int) (g : List AV → Mem → Prop) : Prop := match st with
  | .inl w :: .inr (.inl a) :: r => bif okObj a x then (match z with
    | 0 => g r (ups σ a v w)
    | 3 => (w = 0 ∨ w = 1) ∧ g r (ups σ a v w)
    | _ => False) else False
  | .inr (.inr (.inl w)) :: .inr (.inl a) :: r => bif okObj a x then (match z with
    | 2 => g r (ups σ a v w)
    | _ => False) else False
  | _ => False
/-- the receiver, where there is one -/
def rcv (c : Nat) (args : List AV) : Bool := match c with
  | 0 => true
  | c + 1 => (match args with
    | .inr (.inl a) :: _ => okObj a c
    | _ => false)
/-- a call: y arguments, of method x; what it answers lies on the stack behind it -/
def inv (call : Nat → List AV → Mem → (RV → Mem → Prop) → Prop) (g : List AV → Mem → Prop) (x y : Nat) (st : List AV) (σ : Mem) : Prop :=
  bif (Nat.ble y st.length && Nat.ble (widS (st.drop y)) 8 && Nat.beq y (mtb x).1 && rcv (mtb x).2.2.2 (st.take y).reverse && Nat.ble (widS (st.take y).reverse) (mtb x).2.1) then (match (mtb x).2.2.1 with
    | 0 => call x (st.take y).reverse σ (fun r σ => oV r (g (st.drop y) σ))
    | 2 => call x (st.take y).reverse σ (fun r σ => oJ r (fun w => g (.inr (.inr (.inl w)) :: st.drop y) σ))
    | _ => call x (st.take y).reverse σ (fun r σ => oI r (fun w => g (.inl w :: st.drop y) σ))) else False
/-- what FirstTimes.person answers -/
def pval (σ : Mem) (p w : Int) : Int := if w = 0 then σ 38 (3 + p * 4) else if w = 1 then σ 38 (3 + p * 4 + 1) else if w = 2 then (if σ 16 (30 + p * 3 + 2) < 8 then σ 16 (30 + p * 3 + 2) else -1) else if w = 3 then σ 38 (3 + p * 4 + 2) else σ 38 (3 + p * 4 + 3)
/-- the law's own method person -/
def prs (σ : Mem) (st : List AV) (g : List AV → Mem → Prop) : Prop := match st with
  | [.inr (.inl 100), .inl w, .inl p, .inr (.inl 11)] => (rg p ∧ rg w ∧ (0 ≤ σ 15 1 ∧ σ 15 1 ≤ 6) ∧ 0 ≤ σ 0 2 ∧ σ 0 2 < 600) ∧
    ((0 ≤ p ∧ p < σ 15 1 ∧ 0 ≤ w ∧ w ≤ 4) → rg (pval σ p w) ∧ rg (σ 16 (30 + p * 3 + 2)) ∧ g [.inl 0] (ups σ 100 0 (pval σ p w))) ∧
    (¬ (0 ≤ p ∧ p < σ 15 1 ∧ 0 ≤ w ∧ w ≤ 4) → g [.inl 1] (ups σ 0 2 (σ 0 2 + 1)))
  | _ => False
def stp (call : Nat → List AV → Mem → (RV → Mem → Prop) → Prop) (go : Nat → Lo → List AV → Mem → Prop) (fin : RV → Mem → Prop) (dp M pc : Nat) (ls : Lo) (st : List AV) (σ : Mem) : Prop :=
  match lks (mcode M) pc with
  | none => False
  | some (i, n, (x, y, z), v) => match i with
    | .iconst k => go (pc + n) ls (.inl k :: st) σ
    | .bipush k => go (pc + n) ls (.inl k :: st) σ
    | .sipush k => go (pc + n) ls (.inl k :: st) σ
    | .lconst _ => go (pc + n) ls (.inr (.inr (.inl v)) :: st) σ
    | .ldc _ => go (pc + n) ls (.inl v :: st) σ
    | .ldc_w _ => go (pc + n) ls (.inl v :: st) σ
    | .ldc2_w _ => go (pc + n) ls (.inr (.inr (.inl v)) :: st) σ
    | .iload k => ldI ls k (fun w => go (pc + n) ls (.inl w :: st) σ)
    | .iload_n k => ldI ls k.val (fun w => go (pc + n) ls (.inl w :: st) σ)
    | .lload k => ldJ ls k (fun w => go (pc + n) ls (.inr (.inr (.inl w)) :: st) σ)
    | .lload_n k => ldJ ls k.val (fun w => go (pc + n) ls (.inr (.inr (.inl w)) :: st) σ)
    | .aload k => ldA ls k (fun w => go (pc + n) ls (w :: st) σ)
    | .aload_n k => ldA ls k.val (fun w => go (pc + n) ls (w :: st) σ)
    | .istore k => stI ls k st (fun ls r => go (pc + n) ls r σ)
    | .istore_n k => stI ls k.val st (fun ls r => go (pc + n) ls r σ)
    | .lstore k => stJ ls k st (fun ls r => go (pc + n) ls r σ)
    | .lstore_n k => stJ ls k.val st (fun ls r => go (pc + n) ls r σ)
    | .astore k => stA ls k st (fun ls r => go (pc + n) ls r σ)
    | .astore_n k => stA ls k.val st (fun ls r => go (pc + n) ls r σ)
    | .iinc k c => ldI ls k (fun w => bif stOk ls k then go (pc + n) (setL (vI (w + c)) k ls) st σ else False)
    | .iadd => two st (fun a b r => go (pc + n) ls (.inl (a + b) :: r) σ)
    | .isub => two st (fun a b r => go (pc + n) ls (.inl (a - b) :: r) σ)
    | .imul => two st (fun a b r => go (pc + n) ls (.inl (a * b) :: r) σ)
    | .idiv => two st (fun a b r => (rg a ∧ rg b ∧ b ≠ 0) ∧ go (pc + n) ls (.inl (Int.tdiv a b) :: r) σ)
    | .irem => two st (fun a b r => (rg a ∧ rg b ∧ b ≠ 0) ∧ go (pc + n) ls (.inl (Int.tmod a b) :: r) σ)
    | .iand => two st (fun a b r => go (pc + n) ls (.inl (i_and a b) :: r) σ)
    | .ior => two st (fun a b r => go (pc + n) ls (.inl (i_or a b) :: r) σ)
    | .ixor => two st (fun a b r => go (pc + n) ls (.inl (i_xor a b) :: r) σ)
    | .ishl => two st (fun a b r => go (pc + n) ls (.inl (i_shl a b) :: r) σ)
    | .ishr => two st (fun a b r => go (pc + n) ls (.inl (i_shr a b) :: r) σ)
    | .iushr => two st (fun a b r => go (pc + n) ls (.inl (i_ushr a b) :: r) σ)
    | .ineg => one st (fun a r => go (pc + n) ls (.inl (-a) :: r) σ)
    | .i2l => one st (fun a r => rg a ∧ go (pc + n) ls (.inr (.inr (.inl a)) :: r) σ)
    | .l2i => oneJ st (fun a r => go (pc + n) ls (.inl a :: r) σ)
    | .ladd => twoJ st (fun a b r => go (pc + n) ls (.inr (.inr (.inl (a + b))) :: r) σ)
    | .lsub => twoJ st (fun a b r => go (pc + n) ls (.inr (.inr (.inl (a - b))) :: r) σ)
    | .lmul => twoJ st (fun a b r => go (pc + n) ls (.inr (.inr (.inl (a * b))) :: r) σ)
    | .ldiv => twoJ st (fun a b r => (rgL a ∧ rgL b ∧ b ≠ 0) ∧ go (pc + n) ls (.inr (.inr (.inl (Int.tdiv a b))) :: r) σ)
    | .lrem => twoJ st (fun a b r => (rgL a ∧ rgL b ∧ b ≠ 0) ∧ go (pc + n) ls (.inr (.inr (.inl (Int.tmod a b))) :: r) σ)
    | .land => twoJ st (fun a b r => go (pc + n) ls (.inr (.inr (.inl (l_and a b))) :: r) σ)
    | .lor => twoJ st (fun a b r => go (pc + n) ls (.inr (.inr (.inl (l_or a b))) :: r) σ)
    | .lcmp => twoJ st (fun a b r => (rgL a ∧ rgL b) ∧ go (pc + n) ls (.inl (cmpL a b) :: r) σ)
    | .lushr => (match st with
      | .inl b :: .inr (.inr (.inl a)) :: r => go (pc + n) ls (.inr (.inr (.inl (l_ushr a b))) :: r) σ
      | _ => False)
    | .lshl => (match st with
      | .inl b :: .inr (.inr (.inl a)) :: r => go (pc + n) ls (.inr (.inr (.inl (l_shl a b))) :: r) σ
      | _ => False)
    | .dup => (match st with
      | w :: r => bif Nat.beq (wid w) 1 then go (pc + n) ls (w :: w :: r) σ else False
      | _ => False)
    | .pop => (match st with
      | w :: r => bif Nat.beq (wid w) 1 then go (pc + n) ls r σ else False
      | _ => False)
    | .dup2 => (match st with
      | .inr (.inr (.inl w)) :: r => go (pc + n) ls (.inr (.inr (.inl w)) :: .inr (.inr (.inl w)) :: r) σ
      | a :: b :: r => bif (Nat.beq (wid a) 1 && Nat.beq (wid b) 1) then go (pc + n) ls (a :: b :: a :: b :: r) σ else False
      | _ => False)
    | .goto off => go (tg pc off) ls st σ
    | .ifCond c off => one st (fun a r => rg a ∧ (cnd c a 0 → go (tg pc off) ls r σ) ∧ (ncnd c a 0 → go (pc + n) ls r σ))
    | .if_icmp c off => two st (fun a b r => (rg a ∧ rg b) ∧ (cnd c a b → go (tg pc off) ls r σ) ∧ (ncnd c a b → go (pc + n) ls r σ))
    | .tableswitch d lo _ offs => one st (fun a r => rg a ∧ sw a lo offs.toList d (fun o => go (tg pc o) ls r σ))
    | .lookupswitch d ps => one st (fun a r => rg a ∧ swL a ps.toList d (fun o => go (tg pc o) ls r σ))
    | .getfield _ => (match st with
      | .inr (.inl a) :: r => gf σ a x y z v (fun w => go (pc + n) ls (w :: r) σ)
      | _ => False)
    | .putfield _ => pf σ st x z v (fun r σ => go (pc + n) ls r σ)
    | .getstatic _ => go (pc + n) ls (.inr (.inl x) :: st) σ
    | .iaload => (match st with
      | .inl i :: a :: r => rdI σ i a (fun w => go (pc + n) ls (.inl w :: r) σ)
      | _ => False)
    | .caload => (match st with
      | .inl i :: .inr (.inl a) :: r => (match shp a with
        | (3, m, _) => (0 ≤ i ∧ i < m) ∧ go (pc + n) ls (.inl (cst a i) :: r) σ
        | _ => False)
      | _ => False)
    | .laload => (match st with
      | .inl i :: .inr (.inl a) :: r => (match shp a with
        | (2, m, _) => (0 ≤ i ∧ i < m) ∧ go (pc + n) ls (.inr (.inr (.inl (σ a i))) :: r) σ
        | _ => False)
      | _ => False)
    | .aaload => (match st with
      | .inl i :: .inr (.inl a) :: r => (match shp a with
        | (1, m, _) => (0 ≤ i ∧ i < m) ∧ go (pc + n) ls (.inr (.inr (.inr (a, i))) :: r) σ
        | _ => False)
      | _ => False)
    | .iastore => (match st with
      | .inl w :: .inl i :: a :: r => wrI σ w i a (fun σ => go (pc + n) ls r σ)
      | _ => False)
    | .lastore => (match st with
      | .inr (.inr (.inl w)) :: .inl i :: .inr (.inl a) :: r => (match shp a with
        | (2, m, _) => (0 ≤ i ∧ i < m) ∧ go (pc + n) ls r (ups σ a i w)
        | _ => False)
      | _ => False)
    | .arraylength => (match st with
      | a :: r => lenA σ a (fun w => go (pc + n) ls (.inl w :: r) σ)
      | _ => False)
    | .invokevirtual _ => inv call (fun r σ => go (pc + n) ls r σ) x y st σ
    | .invokestatic _ => (match z with
      | 2 => (match dp with
        | 0 => False
        | _ + 1 => acp σ st (fun r σ => go (pc + n) ls r σ))
      | 7 => bif Nat.beq dp 1000 then prs σ st (fun r σ => go (pc + n) ls r σ) else False
      | _ => inv call (fun r σ => go (pc + n) ls r σ) x y st σ)
    | .invokespecial _ => (match z with
      | 1 => (match dp, st with
        | _ + 1, .inr (.inl _) :: r => go (pc + n) ls r σ
        | _, _ => False)
      | _ => inv call (fun r σ => go (pc + n) ls r σ) x y st σ)
    | .ireturn => (match st with
      | [.inl w] => (match z with
        | 3 => (w = 0 ∨ w = 1) ∧ fin (rI w) σ
        | _ => fin (rI w) σ)
      | _ => False)
    | .lreturn => (match st with
      | [.inr (.inr (.inl w))] => fin (rJ w) σ
      | _ => False)
    | .return_ => (match st with
      | [] => fin rV σ
      | _ => False)
    | _ => False
abbrev Cfg : Type := Nat → Nat → Nat → Lo → List AV → Mem → (RV → Mem → Prop) → Prop
/-- the calls of a frame that stands d deep -/
def clX (X : Cfg) (d : Nat) : Nat → List AV → Mem → (RV → Mem → Prop) → Prop := fun x args σ K => match d with
  | 0 => False
  | d + 1 => X d x 0 (entL args (mtb x).2.1) [] σ K
/-- what is asked by a step is enough -/
def Clos (X : Cfg) : Prop := ∀ d M pc ls st σ Q, stp (clX X d) (fun pc ls st σ => X d M pc ls st σ Q) Q d M pc ls st σ → X d M pc ls st σ Q
/-- the least of these: from here the method comes to its end, with Q; d calls deep at most -/
def Ev (d M pc : Nat) (ls : Lo) (st : List AV) (σ : Mem) (Q : RV → Mem → Prop) : Prop := ∀ X : Cfg, Clos X → X d M pc ls st σ Q
/-- a call of M with these arguments -/
def Cl (d M : Nat) (args : List AV) (σ : Mem) (Q : RV → Mem → Prop) : Prop := Ev d M 0 (entL args (mtb M).2.1) [] σ Q
def clE (d : Nat) : Nat → List AV → Mem → (RV → Mem → Prop) → Prop := fun x args σ K => match d with
  | 0 => False
  | d + 1 => Cl d x args σ K
/-- from here to the next cut -/
def wp (d M : Nat) (Q : RV → Mem → Prop) : Nat → Nat → Lo → List AV → Mem → Prop
  | 0, pc, ls, st, σ => Ev d M pc ls st σ Q
  | n + 1, pc, ls, st, σ => bif cuts M pc then Ev d M pc ls st σ Q else stp (clE d) (wp d M Q n) Q d M pc ls st σ
end
section
/-! ===== LAWS OF THE ABSTRACT MACHINE: what is asked may be weakened; blocks ===== -/
theorem ldI_m {ls : Lo} {k : Nat} {g g' : Int → Prop} (h : ∀ w, g w → g' w) : ldI ls k g → ldI ls k g' := by
  unfold ldI; split
  · exact h _
  · exact id
theorem ldJ_m {ls : Lo} {k : Nat} {g g' : Int → Prop} (h : ∀ w, g w → g' w) : ldJ ls k g → ldJ ls k g' := by
  unfold ldJ; split
  · exact h _
  · exact id
theorem ldA_m {ls : Lo} {k : Nat} {g g' : AV → Prop} (h : ∀ w, g w → g' w) : ldA ls k g → ldA ls k g' := by
  unfold ldA; split
  · exact h _
  · exact h _
  · exact id
theorem bif_m {b : Bool} {p q : Prop} (h : p → q) : (bif b then p else False) → (bif b then q else False) := by
  cases b
  · exact id
  · exact h
theorem stI_m {ls : Lo} {k : Nat} {st : List AV} {g g' : Lo → List AV → Prop} (h : ∀ l r, g l r → g' l r) : stI ls k st g → stI ls k st g' := by
  unfold stI; split
  · exact bif_m (h _ _)
  · exact id
theorem stJ_m {ls : Lo} {k : Nat} {st : List AV} {g g' : Lo → List AV → Prop} (h : ∀ l r, g l r → g' l r) : stJ ls k st g → stJ ls k st g' := by
  unfold stJ; split
  · exact bif_m (h _ _)
  · exact id
theorem stA_m {ls : Lo} {k : Nat} {st : List AV} {g g' : Lo → List AV → Prop} (h : ∀ l r, g l r → g' l r) : stA ls k st g → stA ls k st g' := by
  unfold stA; split
  · exact bif_m (h _ _)
  · exact bif_m (h _ _)
  · exact id
theorem two_m {st : List AV} {g g' : Int → Int → List AV → Prop} (h : ∀ a b r, g a b r → g' a b r) : two st g → two st g' := by
  unfold two; split
  · exact h _ _ _
  · exact id
theorem one_m {st : List AV} {g g' : Int → List AV → Prop} (h : ∀ a r, g a r → g' a r) : one st g → one st g' := by
  unfold one; split
  · exact h _ _
  · exact id
theorem twoJ_m {st : List AV} {g g' : Int → Int → List AV → Prop} (h : ∀ a b r, g a b r → g' a b r) : twoJ st g → twoJ st g' := by
  unfold twoJ; split
  · exact h _ _ _
  · exact id
theorem oneJ_m {st : List AV} {g g' : Int → List AV → Prop} (h : ∀ a r, g a r → g' a r) : oneJ st g → oneJ st g' := by
  unfold oneJ; split
  · exact h _ _
  · exact id
theorem and_m {p q q' : Prop} (h : q → q') : p ∧ q → p ∧ q' := fun x => ⟨x.1, h x.2⟩
theorem rdI_m {σ : Mem} {i : Int} {v : AV} {g g' : Int → Prop} (h : ∀ w, g w → g' w) : rdI σ i v g → rdI σ i v g' := by
  unfold rdI; split
  · split
    · exact and_m (h _)
    · exact and_m (h _)
    · exact and_m (h _)
    · exact id
  · split
    · exact and_m (h _)
    · exact id
  · exact id
theorem wrI_m {σ : Mem} {x i : Int} {v : AV} {g g' : Mem → Prop} (h : ∀ w, g w → g' w) : wrI σ x i v g → wrI σ x i v g' := by
  unfold wrI; split
  · split
    · exact and_m (h _)
    · exact id
  · split
    · exact and_m (h _)
    · exact id
  · exact id
theorem lenA_m {σ : Mem} {v : AV} {g g' : Int → Prop} (h : ∀ w, g w → g' w) : lenA σ v g → lenA σ v g' := by
  unfold lenA; split
  · split
    · exact h _
    · exact h _
    · exact id
  · split
    · exact and_m (h _)
    · exact id
  · exact id
theorem acp_m {σ : Mem} {st : List AV} {g g' : List AV → Mem → Prop} (h : ∀ r w, g r w → g' r w) : acp σ st g → acp σ st g' := by
  unfold acp; split
  · split
    · exact and_m (h _ _)
    · exact and_m (h _ _)
    · exact id
  · exact id
theorem gf_m {σ : Mem} {a x y z : Nat} {v : Int} {g g' : AV → Prop} (h : ∀ w, g w → g' w) : gf σ a x y z v g → gf σ a x y z v g' := by
  unfold gf
  refine bif_m ?_
  split
  · exact h _
  · exact h _
  · exact h _
theorem pf_m {σ : Mem} {st : List AV} {x z : Nat} {v : Int} {g g' : List AV → Mem → Prop} (h : ∀ r w, g r w → g' r w) : pf σ st x z v g → pf σ st x z v g' := by
  unfold pf; split
  · refine bif_m ?_
    split
    · exact h _ _
    · exact and_m (h _ _)
    · exact id
  · refine bif_m ?_
    split
    · exact h _ _
    · exact id
  · exact id
theorem prs_m {σ : Mem} {st : List AV} {g g' : List AV → Mem → Prop} (h : ∀ r w, g r w → g' r w) : prs σ st g → prs σ st g' := by
  unfold prs; split
  · exact fun q => ⟨q.1, fun c => ⟨(q.2.1 c).1, (q.2.1 c).2.1, h _ _ (q.2.1 c).2.2⟩, fun c => h _ _ (q.2.2 c)⟩
  · exact id
theorem sw_m {x : Int} {k k' : Int → Prop} (h : ∀ o, k o → k' o) : ∀ (os : List Int) (lo d : Int), sw x lo os d k → sw x lo os d k'
  | [], _, _ => h _
  | _ :: r, lo, d => fun q => ⟨fun e => h _ (q.1 e), fun e => sw_m h r (lo + 1) d (q.2 e)⟩
theorem swL_m {x : Int} {k k' : Int → Prop} (h : ∀ o, k o → k' o) : ∀ (os : List (Int × Int)) (d : Int), swL x os d k → swL x os d k'
  | [], _ => h _
  | (_, _) :: r, d => fun q => ⟨fun e => h _ (q.1 e), fun e => swL_m h r d (q.2 e)⟩
theorem oI_m {r : RV} {k k' : Int → Prop} (h : ∀ w, k w → k' w) : oI r k → oI r k' := by
  unfold oI; split
  · exact h _
  · exact id
theorem oJ_m {r : RV} {k k' : Int → Prop} (h : ∀ w, k w → k' w) : oJ r k → oJ r k' := by
  unfold oJ; split
  · exact h _
  · exact id
theorem oV_m {r : RV} {k k' : Prop} (h : k → k') : oV r k → oV r k' := by
  unfold oV; split
  · exact h
  · exact id
theorem inv_m {call call' : Nat → List AV → Mem → (RV → Mem → Prop) → Prop} (hc : ∀ x a σ K K', (∀ r τ, K r τ → K' r τ) → call x a σ K → call' x a σ K') {g g' : List AV → Mem → Prop} (h : ∀ r w, g r w → g' r w) {x y : Nat} {st : List AV} {σ : Mem} : inv call g x y st σ → inv call' g' x y st σ := by
  unfold inv
  refine bif_m ?_
  split
  · exact hc _ _ _ _ _ (fun r τ => oV_m (h _ _))
  · exact hc _ _ _ _ _ (fun r τ => oJ_m (fun w => h _ _))
  · exact hc _ _ _ _ _ (fun r τ => oI_m (fun w => h _ _))
set_option maxHeartbeats 4000000 in
theorem stp_m {call call' : Nat → List AV → Mem → (RV → Mem → Prop) → Prop} (hc : ∀ x a σ K K', (∀ r τ, K r τ → K' r τ) → call x a σ K → call' x a σ K') {go go' : Nat → Lo → List AV → Mem → Prop} (hg : ∀ pc ls st σ, go pc ls st σ → go' pc ls st σ) {fin fin' : RV → Mem → Prop} (hf : ∀ r σ, fin r σ → fin' r σ) {dp M pc : Nat} {ls : Lo} {st : List AV} {σ : Mem} :
    stp call go fin dp M pc ls st σ → stp call' go' fin' dp M pc ls st σ := by
  unfold stp
  split
  · exact id
  · rename_i i n x y z v _
    cases i
    all_goals first
      | exact id
      | exact hg _ _ _ _
      | exact ldI_m (fun w => hg _ _ _ _)
      | exact ldJ_m (fun w => hg _ _ _ _)
      | exact ldA_m (fun w => hg _ _ _ _)
      | exact stI_m (fun l r => hg _ _ _ _)
      | exact stJ_m (fun l r => hg _ _ _ _)
      | exact stA_m (fun l r => hg _ _ _ _)
      | exact ldI_m (fun w => bif_m (hg _ _ _ _))
      | exact two_m (fun a b r => hg _ _ _ _)
      | exact two_m (fun a b r => and_m (hg _ _ _ _))
      | exact one_m (fun a r => hg _ _ _ _)
      | exact one_m (fun a r => and_m (hg _ _ _ _))
      | exact twoJ_m (fun a b r => hg _ _ _ _)
      | exact twoJ_m (fun a b r => and_m (hg _ _ _ _))
      | exact oneJ_m (fun a r => hg _ _ _ _)
      | exact one_m (fun a r => and_m (fun q => ⟨fun e => hg _ _ _ _ (q.1 e), fun e => hg _ _ _ _ (q.2 e)⟩))
      | exact two_m (fun a b r => and_m (fun q => ⟨fun e => hg _ _ _ _ (q.1 e), fun e => hg _ _ _ _ (q.2 e)⟩))
      | exact one_m (fun a r => and_m (sw_m (fun o => hg _ _ _ _) _ _ _))
      | exact one_m (fun a r => and_m (swL_m (fun o => hg _ _ _ _) _ _))
      | exact pf_m (fun r w => hg _ _ _ _)
      | exact inv_m hc (fun r w => hg _ _ _ _)
      | skip
    all_goals (dsimp only; repeat' split)
    all_goals first
      | exact id
      | exact hg _ _ _ _
      | exact bif_m (hg _ _ _ _)
      | exact gf_m (fun w => hg _ _ _ _)
      | exact rdI_m (fun w => hg _ _ _ _)
      | exact wrI_m (fun w => hg _ _ _ _)
      | exact lenA_m (fun w => hg _ _ _ _)
      | exact and_m (hg _ _ _ _)
      | exact acp_m (fun r w => hg _ _ _ _)
      | exact bif_m (prs_m (fun r w => hg _ _ _ _))
      | exact inv_m hc (fun r w => hg _ _ _ _)
      | exact hf _ _
      | exact and_m (hf _ _)
theorem Ev.mono {d M pc : Nat} {ls : Lo} {st : List AV} {σ : Mem} {Q Q' : RV → Mem → Prop} (h : Ev d M pc ls st σ Q) (hq : ∀ r τ, Q r τ → Q' r τ) : Ev d M pc ls st σ Q' := by
  intro X hX
  have h1 := h (fun d M pc ls st σ Q => ∀ Q', (∀ r τ, Q r τ → Q' r τ) → X d M pc ls st σ Q') (by
    intro d M pc ls st σ Q hs Q' hq
    refine hX _ _ _ _ _ _ _ (stp_m ?_ ?_ hq hs)
    · intro x a σ K K' hk
      unfold clX
      cases d with
      | zero => exact id
      | succ d => exact fun q => q _ hk
    · exact fun pc ls st σ q => q _ hq)
  exact h1 _ hq
theorem Ev.step {d M pc : Nat} {ls : Lo} {st : List AV} {σ : Mem} {Q : RV → Mem → Prop} (h : stp (clE d) (fun pc ls st σ => Ev d M pc ls st σ Q) Q d M pc ls st σ) : Ev d M pc ls st σ Q := by
  intro X hX
  refine hX _ _ _ _ _ _ _ (stp_m ?_ ?_ (fun _ _ => id) h)
  · intro x a σ K K' hk
    unfold clX clE
    cases d with
    | zero => exact id
    | succ d => exact fun q => (Ev.mono q hk) X hX
  · exact fun pc ls st σ q => q X hX
theorem wp_ev {d M : Nat} {Q : RV → Mem → Prop} : ∀ (n pc : Nat) (ls : Lo) (st : List AV) (σ : Mem), wp d M Q n pc ls st σ → Ev d M pc ls st σ Q
  | 0, _, _, _, _, h => h
  | n + 1, pc, ls, st, σ, h => by
    unfold wp at h
    cases hc : cuts M pc with
    | true => rw [hc] at h; exact h
    | false =>
      rw [hc] at h
      refine Ev.step (stp_m ?_ ?_ (fun _ _ => id) h)
      · intro x a σ K K' hk
        unfold clE
        cases d with
        | zero => exact id
        | succ d => exact fun q => Ev.mono q hk
      · exact fun pc ls st σ q => wp_ev n pc ls st σ q
/-- a block: from a cut to the next ones -/
theorem blk {d M : Nat} {Q : RV → Mem → Prop} (n : Nat) {pc : Nat} {ls : Lo} {st : List AV} {σ : Mem} (h : stp (clE d) (wp d M Q n) Q d M pc ls st σ) : Ev d M pc ls st σ Q := by
  refine Ev.step (stp_m ?_ ?_ (fun _ _ => id) h)
  · intro x a σ K K' hk
    unfold clE
    cases d with
    | zero => exact id
    | succ d => exact fun q => Ev.mono q hk
  · exact fun pc ls st σ q => wp_ev n pc ls st σ q
theorem Cl.mono {d M : Nat} {args : List AV} {σ : Mem} {Q Q' : RV → Mem → Prop} (h : Cl d M args σ Q) (hq : ∀ r τ, Q r τ → Q' r τ) : Cl d M args σ Q' := Ev.mono h hq
end
section
/-! ===== THE MACHINE'S HEAP AND THE ABSTRACT MEMORY ===== -/
def cv (ad : Nat → Nat) : AV → Value
  | .inl x => .int (Int32.ofInt x)
  | .inr (.inl a) => .ref (ad a)
  | .inr (.inr (.inl x)) => .long (Int64.ofInt x)
  | .inr (.inr (.inr (o, i))) => .ref (ad (o + 1 + i.toNat))
def fval (ad : Nat → Nat) (σ : Mem) (a c k : Nat) : Value := match fg c k with
  | 1 => .ref (ad (rf a k))
  | 2 => .long (Int64.ofInt (σ a (Int.ofNat k)))
  | _ => .int (Int32.ofInt (σ a (Int.ofNat k)))
/-- what stays the same from the law's start on: the classes' numbers, the places of their fields, the addresses, the heap's size at the start, the classes of int[], long[], int[][], the heap at the start, the script's length and ints -/
abbrev GP : Type := (Nat → ClassId) × (Nat → Nat → Nat) × (Nat → Nat) × Nat × (Nat → ClassId) × Heap × Nat × (Nat → Int32)
abbrev gC (G : GP) : Nat → ClassId := G.1
abbrev gI (G : GP) : Nat → Nat → Nat := G.2.1
abbrev gA (G : GP) : Nat → Nat := G.2.2.1
abbrev gB (G : GP) : Nat := G.2.2.2.1
abbrev gT (G : GP) : Nat → ClassId := G.2.2.2.2.1
abbrev gH (G : GP) : Heap := G.2.2.2.2.2.1
abbrev gL (G : GP) : Nat := G.2.2.2.2.2.2.1
abbrev gX (G : GP) : Nat → Int32 := G.2.2.2.2.2.2.2
theorem arrV_fn {cA : ClassId} {n : Nat} {f g : Nat → Value} (h : ∀ j, j < n → f j = g j) : arrV cA n f = arrV cA n g := by
  unfold arrV
  rw [show (fun j : Fin n => f j.val) = (fun j : Fin n => g j.val) from funext fun j => h j.val j.isLt]
def CR (G : GP) (σ : Mem) (H : Heap) (a : Nat) : Prop := match shp a with
  | (0, n, _) => H[gA G a]? = some (arrV (gT G 0) n.toNat (fun j => .int (Int32.ofInt (σ a (Int.ofNat j)))))
  | (1, n, w) => H[gA G a]? = some (arrV (gT G 2) n.toNat (fun j => .ref (gA G (a + 1 + j)))) ∧ ∀ j, j < n.toNat → H[gA G (a + 1 + j)]? = some (arrV (gT G 0) w.toNat (fun i => .int (Int32.ofInt (σ a (Int.ofNat j * w + Int.ofNat i)))))
  | (2, n, _) => H[gA G a]? = some (arrV (gT G 1) n.toNat (fun j => .long (Int64.ofInt (σ a (Int.ofNat j)))))
  | (6, _, _) => σ 0 0 = Int.ofNat (gL G) ∧ ∀ j, j < gL G → Int32.ofInt (σ a (Int.ofNat j)) = gX G j
  | (4, c, _) => t_OB (gA G a) (gC G c.toNat) (fN c.toNat) (gI G c.toNat) H (fun k => fval (gA G) σ a c.toNat k)
  | _ => True
def foot (a : Nat) : List Nat := match shp a with
  | (1, n, _) => (List.range (n.toNat + 1)).map (fun j => a + j)
  | _ => [a]
def AdOk (ad : Nat → Nat) (base : Nat) : Prop := (∀ a, a ≤ 10 → ad a < base) ∧ ∀ a, 11 ≤ a → ad a = base + (a - 11)
theorem ad_ne {ad : Nat → Nat} {base x y : Nat} (h : AdOk ad base) (hx : 11 ≤ x) (hn : y ≠ x) : ad y ≠ ad x := by
  intro he
  by_cases hy : y ≤ 10
  · have h1 := h.1 y hy
    have h2 := h.2 x hx
    omega
  · have h1 := h.2 y (by omega)
    have h2 := h.2 x hx
    omega
theorem CR.congr {G : GP} {σ σ1 : Mem} {H H1 : Heap} {a : Nat} (hH : ∀ x ∈ foot a, H1[gA G x]? = H[gA G x]?) (hs : σ1 a = σ a) (h0 : σ1 0 0 = σ 0 0) : CR G σ H a → CR G σ1 H1 a := by
  unfold CR
  unfold foot at hH
  split <;> rename_i he
  · intro h; rw [hs, hH a (by rw [he]; exact List.mem_singleton.mpr rfl)]; exact h
  · intro h
    rw [he] at hH
    rename_i n w
    have hm : ∀ j, j ≤ n.toNat → a + j ∈ (List.range (n.toNat + 1)).map (fun j => a + j) := fun j hj => List.mem_map.mpr ⟨j, List.mem_range.mpr (by omega), rfl⟩
    refine ⟨by rw [hH a (by simpa using hm 0 (by omega))]; exact h.1, fun j hj => ?_⟩
    rw [hs, hH (a + 1 + j) (by have := hm (j + 1) (by omega); rwa [show a + (j + 1) = a + 1 + j by omega] at this)]
    exact h.2 j hj
  · intro h; rw [hs, hH a (by rw [he]; exact List.mem_singleton.mpr rfl)]; exact h
  · intro h; rw [hs, h0]; exact h
  · intro h
    have h1 := hH a (by rw [he]; exact List.mem_singleton.mpr rfl)
    refine (t_OB.kept h h1).to (fun k _ => ?_)
    unfold fval
    rw [hs]
  · exact id
def Rel (G : GP) (σ : Mem) (H : Heap) : Prop :=
  (∀ a, a < 101 → CR G σ H a) ∧ ∀ q : Nat, q < gB G → H[q]? = (gH G)[q]?
/-- what the tables say, at a method's start -/
def Kx (G : GP) (U : State) : Prop :=
  (∀ k, k < 12 → u_Kn U (oC k) (fT k) (fN k) (gC G k) (gI G k)) ∧ (ArrOfT U (gT G 0) .int ∧ va_RA U (gT G 0) .int) ∧ (ArrOfT U (gT G 1) .long ∧ va_RA U (gT G 1) .long) ∧ (ArrOfT U (gT G 2) (.array .int) ∧ va_RA U (gT G 2) (.array .int)) ∧
  va_X (gA G 1) (gL G) (gX G) U (gH G) ∧ gL G ≤ 3072 ∧
  ∀ x, 2 ≤ x → x ≤ 10 → va_Z (stn x).1 (stn x).2.1 (stn x).2.2 (.ref (gA G x)) (fun q => gB G ≤ q) U (gH G) ∧
    va_T (if (shp x).1 = 3 then .char else .int) (gA G x) (shp x).2.1.toNat (fun j => .int (Int32.ofInt (cst x (Int.ofNat j)))) (fun q => gB G ≤ q) U (gH G)
theorem Kx.moved {G : GP} {u U : State} (hv : u.vm.Alike U.vm) (h : Kx G u) : Kx G U :=
  ⟨fun k hk => u_Kn_moved hv (h.1 k hk), ⟨arrOfT_moved hv h.2.1.1, h.2.1.2.moved hv⟩, ⟨arrOfT_moved hv h.2.2.1.1, h.2.2.1.2.moved hv⟩, ⟨arrOfT_moved hv h.2.2.2.1.1, h.2.2.2.1.2.moved hv⟩, va_X.moved hv h.2.2.2.2.1, h.2.2.2.2.2.1, fun x h1 h2 => ⟨(h.2.2.2.2.2.2 x h1 h2).1.moved hv, (h.2.2.2.2.2.2 x h1 h2).2.moved hv⟩⟩
theorem memN_of : ∀ {l : List Nat} {x : Nat}, x ∈ l → memN l x = true
  | a :: r, x, h => by
    unfold memN
    cases hb : Nat.beq a x with
    | true => rfl
    | false =>
      rcases List.mem_cons.mp h with e | h
      · subst e; rw [Nat.beq_refl] at hb; cases hb
      · exact memN_of h
def ftc : Bool := (List.range 101).all (fun a => (List.range 101).all (fun b => Nat.beq a b || Nat.beq (shp a).1 5 || Nat.beq (shp b).1 5 || (foot a).all (fun x => !(memN (foot b) x))))
set_option maxRecDepth 100000 in
theorem ftc_ok : ftc = true := by decide +kernel
theorem foot_dis (a : Nat) (ha : a < 101) (b : Nat) (hb : b < 101) (hab : a ≠ b) (h5 : (shp a).1 ≠ 5) (h6 : (shp b).1 ≠ 5) : ∀ x ∈ foot a, x ∉ foot b := by
  intro x hx hx2
  have h := List.all_eq_true.mp (List.all_eq_true.mp ftc_ok a (List.mem_range.mpr ha)) b (List.mem_range.mpr hb)
  simp only [Bool.or_eq_true, Nat.beq_eq, List.all_eq_true, Bool.not_eq_true'] at h
  rcases h with ((h | h) | h) | h
  · exact hab h
  · exact h5 h
  · exact h6 h
  · have := h x hx
    rw [memN_of hx2] at this
    cases this
theorem foot_ge {a x : Nat} (h : x ∈ foot a) : a ≤ x := by
  unfold foot at h
  split at h
  · obtain ⟨j, -, rfl⟩ := List.mem_map.mp h
    omega
  · simp at h; omega
theorem su_ne {σ : Mem} {a b : Nat} {c : Int → Int} (h : b ≠ a) : su σ a c b = σ b := if_neg h
theorem su_eq {σ : Mem} {a : Nat} {c : Int → Int} : su σ a c a = c := if_pos rfl
theorem Rel.put {G : GP} {σ : Mem} {H H1 : Heap} {a x : Nat} {c : Int → Int} (hA : AdOk (gA G) (gB G)) (h : Rel G σ H) (ha : a < 101) (ha2 : 11 ≤ a) (hk : (shp a).1 ≠ 5) (hx : x ∈ foot a) (hH : ∀ q : Nat, q ≠ gA G x → H1[q]? = H[q]?) (hc : CR G (su σ a c) H1 a) : Rel G (su σ a c) H1 := by
  have hx11 : 11 ≤ x := Nat.le_trans ha2 (foot_ge hx)
  refine ⟨fun b hb => ?_, fun q hq => ?_⟩
  · by_cases hab : b = a
    · subst hab; exact hc
    · by_cases h5 : (shp b).1 = 5
      · unfold CR
        split <;> rename_i he <;> first | trivial | (rw [he] at h5; simp at h5)
      · exact (h.1 b hb).congr (fun y hy => hH _ (ad_ne hA hx11 (fun e => foot_dis a ha b hb (fun e => hab e.symm) hk h5 x hx (e ▸ hy)))) (su_ne hab) (by rw [su_ne (by omega)])
  · have h1 := hA.2 x hx11
    rw [hH q (by omega)]
    exact h.2 q hq
/-! ===== locals ===== -/
def lvl (ad : Nat → Nat) : Nat → Lo → List (Nat × Value)
  | _, [] => []
  | i, none :: r => lvl ad (i + 1) r
  | i, some v :: r => (i, cv ad v) :: lvl ad (i + 1) r
theorem lvl_mem {ad : Nat → Nat} : ∀ (ls : Lo) (i : Nat) (q : Nat × Value), q ∈ lvl ad i ls ↔ ∃ (j : Nat) (v : AV), ls[j]? = some (some v) ∧ q = (i + j, cv ad v)
  | [], i, q => by simp [lvl]
  | none :: r, i, q => by
    rw [lvl, lvl_mem r (i + 1) q]
    constructor
    · rintro ⟨j, v, h1, rfl⟩
      exact ⟨j + 1, v, by simpa using h1, by rw [show i + 1 + j = i + (j + 1) by omega]⟩
    · rintro ⟨j, v, h1, rfl⟩
      cases j with
      | zero => simp at h1
      | succ j => exact ⟨j, v, by simpa using h1, by rw [show i + 1 + j = i + (j + 1) by omega]⟩
  | some w :: r, i, q => by
    rw [lvl, List.mem_cons, lvl_mem r (i + 1) q]
    constructor
    · rintro (rfl | ⟨j, v, h1, rfl⟩)
      · exact ⟨0, w, by simp, by simp⟩
      · exact ⟨j + 1, v, by simpa using h1, by rw [show i + 1 + j = i + (j + 1) by omega]⟩
    · rintro ⟨j, v, h1, rfl⟩
      cases j with
      | zero => left; simp at h1; rw [h1]; simp
      | succ j => right; exact ⟨j, v, by simpa using h1, by rw [show i + 1 + j = i + (j + 1) by omega]⟩
/-- the locals hold these -/
def LR (ad : Nat → Nat) (ls : Lo) (als : Array Slot) : Prop := lv_has als ls.length (lvl ad 0 ls)
theorem LR.at {ad : Nat → Nat} {ls : Lo} {als : Array Slot} (h : LR ad ls als) {k : Nat} {v : AV} (hk : ls[k]? = some (some v)) : als[k]? = some (.val (cv ad v)) := h.2.2 (k, cv ad v) ((lvl_mem ls 0 _).mpr ⟨k, v, hk, by simp⟩)
theorem lv_has.mono {als : Array Slot} {n : Nat} {l l' : List (Nat × Value)} (h : lv_has als n l) (hs : ∀ q ∈ l', q ∈ l) : lv_has als n l' := ⟨h.1, h.2.1, fun q hq => h.2.2 q (hs q hq)⟩
theorem setL_len (v : Option AV) : ∀ (k : Nat) (ls : Lo), (setL v k ls).length = ls.length
  | 0, [] => rfl
  | 0, _ :: r => rfl
  | 1, [] => rfl
  | 1, [_] => rfl
  | 1, _ :: _ :: r => rfl
  | k + 2, [] => rfl
  | k + 2, u :: r => by show (setL v (k + 1) r).length + 1 = r.length + 1; rw [setL_len v (k + 1) r]
theorem setL_get (v : Option AV) : ∀ (k : Nat) (ls : Lo), k < ls.length → ∀ j, (setL v k ls)[j]? = if j = k then some v else if j + 1 = k then (ls[j]?).map kl else ls[j]?
  | 0, [], h, j => by simp at h
  | 0, _ :: r, _, j => by
    cases j with
    | zero => simp [setL]
    | succ j => simp [setL]
  | 1, [], h, j => by simp at h
  | 1, [_], h, j => by simp at h
  | 1, a :: b :: r, _, j => by
    match j with
    | 0 => simp [setL]
    | 1 => simp [setL]
    | j + 2 => simp [setL]
  | k + 2, [], h, j => by simp at h
  | k + 2, u :: r, h, j => by
    have ih := setL_get v (k + 1) r (by have h2 := h; simp at h2; omega)
    cases j with
    | zero => simp [setL]
    | succ j =>
      show (setL v (k + 1) r)[j]? = _
      rw [ih j]
      simp only [List.getElem?_cons_succ, Nat.add_right_cancel_iff]
theorem kl_some {u : Option AV} {v : AV} (h : kl u = some v) : u = some v ∧ wid v = 1 := by
  unfold kl at h
  split at h
  · cases h
  · rename_i hn
    subst h
    refine ⟨rfl, ?_⟩
    match v, hn with
    | .inl _, _ => rfl
    | .inr (.inl _), _ => rfl
    | .inr (.inr (.inl x)), hn => exact absurd rfl (hn x)
    | .inr (.inr (.inr _)), _ => rfl
theorem cv_cat (ad : Nat → Nat) (v : AV) : (cv ad v).category = wid v := by
  match v with
  | .inl _ => rfl
  | .inr (.inl _) => rfl
  | .inr (.inr (.inl x)) => rfl
  | .inr (.inr (.inr (o, i))) => rfl
theorem LR.st1 {ad : Nat → Nat} {ls : Lo} {als : Array Slot} {k : Nat} {v : AV} (hk : k < ls.length) (h : lv_has als ls.length ((k, cv ad v) :: (lvl ad 0 ls).filter (fun q => !(q.1 == k) && !(q.1 + 1 == k && q.2.category == 2)))) : LR ad (setL (some v) k ls) als := by
  unfold LR
  rw [setL_len]
  refine h.mono (fun q hq => ?_)
  obtain ⟨j, w, hj, rfl⟩ := (lvl_mem _ 0 q).mp hq
  rw [setL_get _ _ _ hk] at hj
  rw [Nat.zero_add]
  by_cases h1 : j = k
  · subst h1
    rw [if_pos rfl] at hj
    cases hj
    exact List.mem_cons_self
  · rw [if_neg h1] at hj
    refine List.mem_cons_of_mem _ (List.mem_filter.mpr ?_)
    by_cases h2 : j + 1 = k
    · rw [if_pos h2] at hj
      cases hu : ls[j]? with
      | none => rw [hu] at hj; cases hj
      | some u =>
        rw [hu] at hj
        obtain ⟨e1, e2⟩ := kl_some (Option.some.inj hj)
        subst e1
        exact ⟨(lvl_mem _ 0 _).mpr ⟨j, w, hu, by simp⟩, by simp [h1, cv_cat, e2]⟩
    · rw [if_neg h2] at hj
      exact ⟨(lvl_mem _ 0 _).mpr ⟨j, w, hj, by simp⟩, by simp [h1, h2]⟩
theorem LR.st2 {ad : Nat → Nat} {ls : Lo} {als : Array Slot} {k : Nat} {x : Int} (hk : k + 1 < ls.length) (h : lv_has als ls.length ((k, Value.long (Int64.ofInt x)) :: (lvl ad 0 ls).filter (fun q => !(q.1 == k) && (!(q.1 == k + 1) && !(q.1 + 1 == k && q.2.category == 2))))) : LR ad ((setL none (k + 1) (setL none k ls)).set k (vJ x)) als := by
  unfold LR
  rw [List.length_set, setL_len, setL_len]
  refine h.mono (fun q hq => ?_)
  obtain ⟨j, w, hj, rfl⟩ := (lvl_mem _ 0 q).mp hq
  rw [Nat.zero_add]
  by_cases h1 : j = k
  · subst h1
    rw [List.getElem?_set_self (by rw [setL_len, setL_len]; omega)] at hj
    cases hj
    exact List.mem_cons_self
  · rw [List.getElem?_set_ne (fun e => h1 e.symm), setL_get _ _ _ (by rw [setL_len]; exact hk)] at hj
    refine List.mem_cons_of_mem _ (List.mem_filter.mpr ?_)
    by_cases h2 : j = k + 1
    · rw [if_pos h2] at hj; cases hj
    · rw [if_neg h2, if_neg (by omega), setL_get _ _ _ (by omega), if_neg h1] at hj
      by_cases h3 : j + 1 = k
      · rw [if_pos h3] at hj
        cases hu : ls[j]? with
        | none => rw [hu] at hj; cases hj
        | some u =>
          rw [hu] at hj
          obtain ⟨e1, e2⟩ := kl_some (Option.some.inj hj)
          subst e1
          exact ⟨(lvl_mem _ 0 _).mpr ⟨j, w, hu, by simp⟩, by simp [h1, h2, cv_cat, e2]⟩
      · rw [if_neg h3] at hj
        exact ⟨(lvl_mem _ 0 _).mpr ⟨j, w, hj, by simp⟩, by simp [h1, h2, h3]⟩
end
section
/-! ===== numbers ===== -/
theorem i32_ix {i : Int} (h0 : 0 ≤ i) (h1 : i < 2147483648) : (Int32.ofInt i).toNatClampNeg = i.toNat ∧ ¬ (Int32.ofInt i) < 0 := by
  have e : (Int32.ofInt i).toInt = i := Int32.toInt_ofInt_of_le (by omega) (by omega)
  refine ⟨?_, ?_⟩
  · show (Int32.ofInt i).toInt.toNat = _
    rw [e]
  · rw [Int32.lt_iff_toInt_lt, e]
    show ¬ i < (0 : Int32).toInt
    simp; omega
theorem i32_in {i n : Int} (h0 : 0 ≤ i) (h1 : i < n) (h2 : n ≤ 1000000) {sz : Nat} (hs : n.toNat ≤ sz) : ¬ (Int32.ofInt i < 0 ∨ sz ≤ (Int32.ofInt i).toNatClampNeg) := by
  obtain ⟨e, e2⟩ := i32_ix h0 (by omega)
  rw [e]
  rintro (h | h)
  · exact e2 h
  · omega
theorem i32_to {x : Int} (h : rg x) : (Int32.ofInt x).toInt = x := Int32.toInt_ofInt_of_le (by have := h.1; omega) (by have := h.2; omega)
theorem i64_to {x : Int} (h : rgL x) : (Int64.ofInt x).toInt = x := Int64.toInt_ofInt_of_le (by have := h.1; omega) (by have := h.2; omega)
theorem i32_lt {x y : Int} (hx : rg x) (hy : rg y) : (Int32.ofInt x < Int32.ofInt y) ↔ x < y := by rw [Int32.lt_iff_toInt_lt, i32_to hx, i32_to hy]
theorem i32_le {x y : Int} (hx : rg x) (hy : rg y) : (Int32.ofInt x ≤ Int32.ofInt y) ↔ x ≤ y := by rw [Int32.le_iff_toInt_le, i32_to hx, i32_to hy]
theorem i32_eq {x y : Int} (hx : rg x) (hy : rg y) : (Int32.ofInt x = Int32.ofInt y) ↔ x = y := by rw [← Int32.toInt_inj, i32_to hx, i32_to hy]
theorem i64_lt {x y : Int} (hx : rgL x) (hy : rgL y) : (Int64.ofInt x < Int64.ofInt y) ↔ x < y := by rw [Int64.lt_iff_toInt_lt, i64_to hx, i64_to hy]
theorem i64_eq {x y : Int} (hx : rgL x) (hy : rgL y) : (Int64.ofInt x = Int64.ofInt y) ↔ x = y := by rw [← Int64.toInt_inj, i64_to hx, i64_to hy]
theorem i32_div {x y : Int} (hx : rg x) (hy : rg y) : Int32.ofInt (x.tdiv y) = Int32.ofInt x / Int32.ofInt y := by
  apply Int32.toInt_inj.mp
  rw [Int32.toInt_div, i32_to hx, i32_to hy, Int32.toInt_ofInt]
theorem i64_div {x y : Int} (hx : rgL x) (hy : rgL y) : Int64.ofInt (x.tdiv y) = Int64.ofInt x / Int64.ofInt y := by
  apply Int64.toInt_inj.mp
  rw [Int64.toInt_div, i64_to hx, i64_to hy, Int64.toInt_ofInt]
theorem i32_rem {x y : Int} (hx : rg x) (hy : rg y) : Int32.ofInt (x.tmod y) = Int32.ofInt x - Int32.ofInt x / Int32.ofInt y * Int32.ofInt y := by
  rw [← i32_div hx hy, ← Int32.ofInt_mul, ← Int32.ofInt_sub]
  congr 1
  have := Int.tmod_add_mul_tdiv x y
  rw [Int.mul_comm] at this
  omega
theorem i64_rem {x y : Int} (hx : rgL x) (hy : rgL y) : Int64.ofInt (x.tmod y) = Int64.ofInt x - Int64.ofInt x / Int64.ofInt y * Int64.ofInt y := by
  rw [← i64_div hx hy, ← Int64.ofInt_mul, ← Int64.ofInt_sub]
  congr 1
  have := Int.tmod_add_mul_tdiv x y
  rw [Int.mul_comm] at this
  omega
theorem i32_ne0 {y : Int} (hy : rg y) (h : y ≠ 0) : ¬ Int32.ofInt y = 0 := fun e => h (by have := (i32_eq (y := 0) hy (by decide)).mp (by rw [e]; rfl); exact this)
theorem i64_ne0 {y : Int} (hy : rgL y) (h : y ≠ 0) : ¬ Int64.ofInt y = 0 := fun e => h (by have := (i64_eq (y := 0) hy (by decide)).mp (by rw [e]; rfl); exact this)
theorem i32_push8 {k : Int} (h1 : -128 ≤ k) (h2 : k ≤ 127) : (Int8.ofInt k).toInt32 = Int32.ofInt k := by
  have e : (Int8.ofInt k).toInt = k := Int8.toInt_ofInt_of_le (by omega) (by omega)
  rw [← Int32.ofInt_int8ToInt, e]
theorem i32_push16 {k : Int} (h1 : -32768 ≤ k) (h2 : k ≤ 32767) : (Int16.ofInt k).toInt32 = Int32.ofInt k := by
  have e : (Int16.ofInt k).toInt = k := Int16.toInt_ofInt_of_le (by omega) (by omega)
  rw [← Int32.ofInt_int16ToInt, e]
theorem i64_of32 {x : Int} (h : rg x) : (Int32.ofInt x).toInt64 = Int64.ofInt x := by
  rw [← Int64.ofInt_int32ToInt, i32_to h]
theorem i32_of64 (x : Int) : (Int64.ofInt x).toInt32 = Int32.ofInt x := by
  apply Int32.toInt_inj.mp
  rw [Int64.toInt_toInt32, Int64.toInt_ofInt, Int32.toInt_ofInt]
  exact Int.bmod_bmod_of_dvd (by decide)
theorem lcmp_of {x y : Int} (hx : rgL x) (hy : rgL y) : lg_cmp (Int64.ofInt x) (Int64.ofInt y) = Int32.ofInt (cmpL x y) := by
  unfold lg_cmp cmpL
  simp only [gt_iff_lt, i64_lt hx hy, i64_lt hy hx, i64_eq hx hy]
  by_cases h1 : x < y
  · rw [if_neg (show ¬ y < x by omega), if_neg (show ¬ x = y by omega), if_pos h1]
    rfl
  · by_cases h2 : x = y
    · rw [if_neg (show ¬ y < x by omega), if_pos h2, if_neg h1, if_pos h2]
      rfl
    · rw [if_pos (show y < x by omega), if_neg h1, if_neg h2]
      rfl
theorem shp_lim : ∀ a, (shp a).2.1 ≤ 20000 ∧ (shp a).2.2 ≤ 20000 ∧ 0 ≤ (shp a).2.1 ∧ 0 ≤ (shp a).2.2 := by
  intro a
  by_cases h : a < 101
  · revert a; decide +kernel
  · have : shp a = (9, 0, 0) := by
      unfold shp
      have key : ∀ (l : List (Nat × Int × Int)) (k : Nat), l.length ≤ k → nthD l k (9, 0, 0) = (9, 0, 0) := by
        intro l
        induction l with
        | nil => intro k _; rfl
        | cons x r ih =>
          intro k hk
          cases k with
          | zero => simp at hk
          | succ k => exact ih k (by simpa using hk)
      exact key _ _ (by show 101 ≤ a; omega)
    rw [this]; decide
theorem shp_lt {a : Nat} (h : (shp a).1 ≠ 9) : a < 101 := by
  by_cases ha : a < 101
  · exact ha
  · exfalso; apply h
    unfold shp
    have key : ∀ (l : List (Nat × Int × Int)) (k : Nat), l.length ≤ k → nthD l k (9, 0, 0) = (9, 0, 0) := by
      intro l
      induction l with
      | nil => intro k _; rfl
      | cons x r ih =>
        intro k hk
        cases k with
        | zero => simp at hk
        | succ k => exact ih k (by simpa using hk)
    rw [key _ _ (by show 101 ≤ a; omega)]
set_option maxRecDepth 100000 in
theorem shp_new : ∀ a, a < 101 → ((shp a).1 = 0 ∨ (shp a).1 = 1 ∨ (shp a).1 = 2 ∨ (shp a).1 = 4) → 11 ≤ a := by decide +kernel
end
section
/-! ===== BEGIN words of one list among another's, by their places ===== -/
theorem goodIn_r {big : List Cond} (ws : List Cond) (ps : List Nat) (hp : ws = ps.filterMap (fun i => big[i]?)) (h : ws.all goodWord = true) : GoodIn big ws := by
  intro w hw
  have h1 := List.all_eq_true.mp h w hw
  rw [hp] at hw
  obtain ⟨i, -, hi⟩ := List.mem_filterMap.mp hw
  have hm : w ∈ big := by first | exact List.mem_of_getElem? hi | exact List.getElem?_mem hi
  exact ⟨hm, good_of_word h1⟩
theorem goodIn_app {big a b : List Cond} (ha : GoodIn big a) (hb : GoodIn big b) : GoodIn big (a ++ b) := fun w h => (List.mem_append.mp h).elim (ha w) (hb w)
theorem goodIn_ca {big a b : List Cond} {c : Cond} (ha : GoodIn big (c :: a)) (hb : GoodIn big b) : GoodIn big (c :: (a ++ b)) := fun w h => (List.mem_cons.mp h).elim (fun e => ha w (List.mem_cons.mpr (Or.inl e))) (fun h => (List.mem_append.mp h).elim (fun h => ha w (List.mem_cons.mpr (Or.inr h))) (hb w))
theorem goodIn_sub {big ws : List Cond} (hm : ∀ w ∈ ws, w ∈ big) (h : ws.all goodWord = true) : GoodIn big ws := fun w hw => ⟨hm w hw, good_of_word (List.all_eq_true.mp h w hw)⟩
/-! ===== END ===== -/
/-! ===== BEGIN exceptions that leave a method, and their catching by the caller (launches without stack traces) ===== -/
section VXA
/-! The laws vx_back, vx_callV, vx_callS, vx_callSW, vx_throw0, vx_throwS follow proofs of the library, with one case more: JvmDerived/Free/Laws.lean (Back.of_free), Shelf42/LK1.lean (callV, callS), Shelf/KitTraced.lean (throwNew0V, throwNewS). -/
/-- where a method has thrown q: the class by its name, the cell, what was written, the world -/
def vx_T (XC : String → State → State → Prop) (st : State) (q : Addr) (t : State) (mc ms : Nat) (free : Addr → Prop) : Prop :=
  ∃ (E : String) (ce : Cell) (L : List Loc), XC E st t ∧ t.heap[q]? = some ce ∧ ce.vm = .none ∧ st.vm.findClass E = some ce.cls ∧ st.WarmedH t.vm ∧ st.sameButNew ({ t with vm := st.vm } : State) L mc ms ∧ ∀ z ∈ L, free z.base
def vx_Q (Qc : Array Value → State → Outcome → State → Prop) (XC : String → State → State → Prop) (mc ms : Nat) (free : Addr → Prop) : Array Value → State → Outcome → State → Prop := fun a st o t =>
  (Qc a st o t ∧ ∃ L, FrameEnd st o t L mc ms ∧ ∀ q ∈ L, free q.base) ∨ ∃ q, o = .threw q ∧ vx_T XC st q t mc ms free
/-- a callee that returns or throws -/
def vx_Met (l : Launch) (y : MethodName) (ws : List Cond) (rm : Room) (Pc : Array Value → State → Prop) (Qc : Array Value → State → Outcome → State → Prop) (XC : String → State → State → Prop) (mc ms : Nat) (free : Addr → Prop) : Prop :=
  MetFree l y (headSpec ws rm) Pc (fun _ _ _ _ _ => True) (vx_Q Qc XC mc ms free)
def vx_Post (XC : String → State → State → Prop) (mc ms : Nat) (free : Addr → Prop) : Pt → Array Value → Addr → Pt → Prop := fun A a q B =>
  ∃ (g : JFrame) (mk : MethodId) (t : State) (L : List Loc) (E : String) (ce : Cell), B.U.heap = t.heap ∧ B.U.vm = t.vm ∧ XC E (A.U.calling g mk a) t ∧ t.heap[q]? = some ce ∧ ce.vm = .none ∧ A.U.vm.findClass E = some ce.cls ∧ B.locs = A.locs ++ L ∧ (∀ z ∈ L, free z.base) ∧ B.cells = A.cells + mc ∧ B.slots = A.slots + ms
def vx_Back (l : Launch) (R : Room) (p : Program) (e : Env) (below : List Frame) (s : State) (sargs : Array Value) (y : MethodName) (len W9 : Nat)
    (Pre : Pt → Array Value → Prop) (Post : Pt → Array Value → Option Value → Pt → Prop) (PostX : Pt → Array Value → Addr → Pt → Prop) : Prop :=
  ∀ (m : MethodId) (meth : Method) (c : Code) (A : Pt) (g : JFrame) (ig : Instr) (mk : MethodId) (a : Array Value),
    Stand p l e R s m sargs below meth c A.U A.locs A.cells A.slots → g.method = m → g.locals.size = c.maxLocals → decode c.code g.pc = .ok (ig, len) →
    2 * g.monitorRoom + (g.stack.map fun v => v.category).sum ≤ W9 → A.U.methodNamed? y = some mk → Pre A a →
    (∃ (v : Option Value) (B : Pt), Stand p l e R s m sargs below meth c B.U B.locs B.cells B.slots ∧ Post A a v B ∧
      Steps p.tables e below (doInvoke e (A.U.setTop g) [] mk a).1 (B.U.setTop { g with pc := g.pc + len, stack := v.toList ++ g.stack })) ∨
    (∃ (q : Addr) (B : Pt), Stand p l e R s m sargs below meth c B.U B.locs B.cells B.slots ∧ PostX A a q B ∧
      Steps p.tables e below (doInvoke e (A.U.setTop g) [] mk a).1 ((B.U.setTop g).pushFrame (.throwing q)))
section Payer
variable {l : Launch} {R : Room} {p : Program} {e : Env} {below : List Frame} {s : State} {sargs : Array Value} {y : MethodName} {len W9 : Nat}
theorem vx_back {ws : List Cond} {rm : Room} {Pc : Array Value → State → Prop} {Qc : Array Value → State → Outcome → State → Prop} {XC : String → State → State → Prop} {mc ms : Nat} {free : Addr → Prop} {bytes : ByteArray} {maxL : Nat} {ret : Option FieldType}
    (hM : vx_Met l y ws rm Pc Qc XC mc ms free) (hblind : FrameBlind Pc) (hrc : rm.cells = mc) (hrs : rm.slots = ms)
    (hframes : rm.frames + 1 ≤ R.frames) (hlocals : W9 + (maxL + 11) + rm.locals ≤ R.locals)
    (hws : ∀ w ∈ ws, ∀ a' U, s.WarmedH U.vm → w.before a' U = true) (hcode : Cond.code y bytes maxL ret ∈ ws) (hinit : ∀ a' U, s.WarmedH U.vm → (Cond.initialized y.cls).before a' U = true) :
    vx_Back l R p e below s sargs y len W9 (PreOf R mc ms Pc) (PostOf Qc mc ms free) (vx_Post XC mc ms free) := by
  intro m meth c A g ig mk a X hg hsize hdg hW hn hp
  have h1 : (headSpec ws rm).pre.before a A.U = true := atoms_intro fun w hw => hws w hw _ _ X.warmed
  have h2 : (Cond.code y bytes maxL ret).before a A.U = true := hws _ hcode _ _ X.warmed
  have h3 : (Cond.initialized y.cls).before a A.U = true := hinit _ _ X.warmed
  have h4 : A.cells + (headSpec ws rm).room.cells ≤ R.cells := by rw [show (headSpec ws rm).room.cells = mc from hrc]; exact hp.1
  have h5 : A.slots + (headSpec ws rm).room.slots ≤ R.slots := by rw [show (headSpec ws rm).room.slots = ms from hrs]; exact hp.2.1
  have hPc : Pc a (A.U.calling g mk a) := hblind _ _ _ _ hp.2.2
  obtain ⟨U, Ls, c0, s0⟩ := A
  dsimp only [Pt.U, Pt.locs, Pt.cells, Pt.slots] at h1 h2 h3 h4 h5 X hn hPc ⊢
  obtain ⟨methY, cY, hmY, hcY, -, hlY, -, -, -, -⟩ := Cond.code_spec hn h2
  obtain ⟨kY, hkY, -⟩ := className_of_methodNamed hn
  have hinitY : kY.init = .initialized := Cond.initialized_spec (findClass_of_methodNamed hn) hkY h3
  have h : At U g.method c below := by rw [hg]; exact X.here
  have hlocals9 : W9 + (maxL + 11) + (headSpec ws rm).room.locals ≤ R.locals := hlocals
  have happ : (headSpec ws rm).appliesLoose y e.platform (U.calling g mk a) = true :=
    Spec.appliesLoose_calling (g := g) h hdg hn hkY hinitY
      (X.room_calling (g := g) (R' := (headSpec ws rm).room) hsize hmY hcY hframes (by rw [hlY]; omega) h4 h5) h1
  obtain ⟨mid, hmid⟩ := h.above
  have hfr : (U.setTop g).frames = (.java g :: mid) ++ below := by rw [State.frames_setTop' g h.top, hmid]; rfl
  obtain ⟨o, s₂, hsteps, -, hend, hq⟩ := Steps.callFree hM p X.admits X.cas X.clock (acts := []) hfr happ hPc trivial
  have hq' : vx_Q Qc XC mc ms free a (U.calling g mk a) o s₂ := hq
  rw [State.frames_setTop' g h.top] at hend
  obtain ⟨g₀, hg0⟩ := Option.isSome_iff_exists.mp h.top
  obtain ⟨r, hr⟩ := State.topJava?_eq_some.mp hg0
  have hr' : (({ U with heap := s₂.heap, slotsUsed := s₂.slotsUsed } : State).setVm s₂.vm).frames = .java g₀ :: r := hr
  rcases hq' with ⟨hqc, L, hfe, hL⟩ | ⟨q, rfl, E, ce, L, hx, hce, hcv, hcl, hW₂, hsm, hL⟩
  · obtain ⟨⟨v, rfl⟩, hW₂, e2, q2, q3, q4, q5, q6⟩ := id hfe
    have e3 : s₂ = ({ (U.calling g mk a).setFrames s₂.frames with heap := s₂.heap, slotsUsed := s₂.slotsUsed } : State).setVm s₂.vm := by
      have : s₂ = ({ s₂ with vm := (U.calling g mk a).vm } : State).setVm s₂.vm := rfl
      rw [e2] at this
      exact this
    obtain ⟨c₂, i₂, len₂, hc₂, hd₂, hf₂⟩ := hend
    have hW' : U.WarmedH s₂.vm := hW₂
    have hcc : c₂ = c := by
      have h1 : s₂.code? g.method = U.code? g.method := by
        rw [State.code?_eq, State.code?_eq, hW'.alike.method?]
      exact Option.some.inj (hc₂.symm.trans (h1.trans h.code))
    subst hcc
    have hlen : len₂ = len := by rw [hdg] at hd₂; cases hd₂; rfl
    subst hlen
    have hs₂ : s₂ = (({ U with heap := s₂.heap, slotsUsed := s₂.slotsUsed } : State).setVm s₂.vm).setTop { g with pc := g.pc + len₂, stack := v.toList ++ g.stack } := by
      refine e3.trans ?_
      rw [hf₂, State.calling_eq h.top, State.setFrames_setFrames, State.setTop_of_frames _ hr', hr]
      rfl
    have hsame : U.sameButNew ({ U with heap := s₂.heap, slotsUsed := s₂.slotsUsed } : State) L mc ms := by
      refine ⟨?_, q2, q3, q4, q5, q6⟩
      obtain ⟨t, ht, -⟩ := State.frames_cons hr
      show ({ U with heap := s₂.heap, slotsUsed := s₂.slotsUsed } : State) = { U.setFrames U.frames with heap := s₂.heap, slotsUsed := s₂.slotsUsed }
      rw [State.setFrames_self ht]
    subst hg
    refine Or.inl ⟨v, ⟨(({ U with heap := s₂.heap, slotsUsed := s₂.slotsUsed } : State).setVm s₂.vm), Ls ++ L, c0 + mc, s0 + ms⟩,
      ⟨X.admits, X.cas, X.clock, X.frames, X.room, X.hears, X.method, X.code, (X.here.setHeapUsed s₂.heap s₂.slotsUsed).setVm hW'.alike, X.tail, State.WarmedH.trans X.warmed hW', X.limits, X.bytes, X.same.trans (hsame.setVm s.vm)⟩,
      ⟨g, mk, s₂, L, rfl, rfl, hqc, rfl, hL, rfl, rfl⟩, ?_⟩
    show Steps p.tables e below _ ((({ U with heap := s₂.heap, slotsUsed := s₂.slotsUsed } : State).setVm s₂.vm).setTop { g with pc := g.pc + len₂, stack := v.toList ++ g.stack })
    rw [← hs₂]
    exact hsteps
  · obtain ⟨e2, q2, q3, q4, q5, q6⟩ := id hsm
    have e3 : s₂ = ({ (U.calling g mk a).setFrames s₂.frames with heap := s₂.heap, slotsUsed := s₂.slotsUsed } : State).setVm s₂.vm := by
      have : s₂ = ({ s₂ with vm := (U.calling g mk a).vm } : State).setVm s₂.vm := rfl
      rw [e2] at this
      exact this
    have hf₂ : s₂.frames = .throwing q :: .java g :: U.frames.tail := hend
    have hW' : U.WarmedH s₂.vm := hW₂
    have hs₂ : s₂ = ((({ U with heap := s₂.heap, slotsUsed := s₂.slotsUsed } : State).setVm s₂.vm).setTop g).pushFrame (.throwing q) := by
      refine e3.trans ?_
      rw [hf₂, State.calling_eq h.top, State.setFrames_setFrames, State.pushFrame, State.frames_setTop _ hr', State.setTop_of_frames _ hr', State.setFrames_setFrames, hr]
      rfl
    have hsame : U.sameButNew ({ U with heap := s₂.heap, slotsUsed := s₂.slotsUsed } : State) L mc ms := by
      refine ⟨?_, q2, q3, q4, q5, q6⟩
      obtain ⟨t, ht, -⟩ := State.frames_cons hr
      show ({ U with heap := s₂.heap, slotsUsed := s₂.slotsUsed } : State) = { U.setFrames U.frames with heap := s₂.heap, slotsUsed := s₂.slotsUsed }
      rw [State.setFrames_self ht]
    subst hg
    refine Or.inr ⟨q, ⟨(({ U with heap := s₂.heap, slotsUsed := s₂.slotsUsed } : State).setVm s₂.vm), Ls ++ L, c0 + mc, s0 + ms⟩,
      ⟨X.admits, X.cas, X.clock, X.frames, X.room, X.hears, X.method, X.code, (X.here.setHeapUsed s₂.heap s₂.slotsUsed).setVm hW'.alike, X.tail, State.WarmedH.trans X.warmed hW', X.limits, X.bytes, X.same.trans (hsame.setVm s.vm)⟩,
      ⟨g, mk, s₂, L, E, ce, rfl, rfl, hx, hce, hcv, hcl, rfl, hL, rfl, rfl⟩, ?_⟩
    show Steps p.tables e below _ (((({ U with heap := s₂.heap, slotsUsed := s₂.slotsUsed } : State).setVm s₂.vm).setTop g).pushFrame (.throwing q))
    rw [← hs₂]
    exact hsteps
end Payer
section Calls
variable {p : Program} {l : Launch} {e : Env} {R : Room} {s : State} {m : MethodId} {args : Array Value} {below : List Frame} {meth : Method} {c : Code} {T : State} {locs : List Loc} {cells slots : Nat}
theorem vx_callV (X : Stand p l e R s m args below meth c T locs cells slots) (hexec : p.tables.exec = Jvm.exec) {own C : String} {index : Nat} {y : MethodName} {bytes : ByteArray} {maxL : Nat} {ret : Option FieldType}
    (hown : s.vm.findClass own = some m.cls) (hlink : (Cond.methodLink own index y).before args s = true) (hinst : (Cond.instanceMethod y).before args s = true) (hsel : (Cond.selects C y y).before args s = true)
    (hcode : (Cond.code y bytes maxL ret).before args s = true) (hy : y.cls ≠ "java/lang/invoke/MethodHandle" ∧ y.cls ≠ "java/lang/invoke/VarHandle")
    {W9 : Nat} {Pre : Pt → Array Value → Prop} {Post : Pt → Array Value → Option Value → Pt → Prop} {PostX : Pt → Array Value → Addr → Pt → Prop} (hK : vx_Back l R p e below s args y 3 W9 Pre Post PostX)
    {b : Addr} {cellB : Cell} (hcell : T.heap[b]? = some cellB) (hobj : cellB.vm.isStatics = false) (hcls : s.vm.findClass C = some cellB.cls)
    {g : JFrame} (hg : g.method = m) (hsize : g.locals.size = c.maxLocals) {argsL rest : List Value} (hlen : ∀ sig, parseMethodDescriptor y.desc = some sig → argsL.length = sig.parameters.length)
    (hstack : g.stack = argsL.reverse ++ .ref b :: rest) (hW : 2 * g.monitorRoom + (rest.map fun v => v.category).sum ≤ W9) (hdg : decode c.code g.pc = .ok (.invokevirtual index, 3))
    (hpre : ∀ vm₁, s.WarmedH vm₁ → Pre ⟨T.setVm vm₁, locs, cells, slots⟩ (Value.ref b :: argsL).toArray) :
    (∃ (v : Option Value) (vm₁ : Vm) (B : Pt), s.WarmedH vm₁ ∧ Stand p l e R s m args below meth c B.U B.locs B.cells B.slots ∧ Post ⟨T.setVm vm₁, locs, cells, slots⟩ (Value.ref b :: argsL).toArray v B ∧
      ∀ target, Steps p.tables e below (B.U.setTop { g with pc := g.pc + 3, stack := v.toList ++ rest }) target → Steps p.tables e below (T.setTop g) target) ∨
    (∃ (q : Addr) (vm₁ : Vm) (B : Pt), s.WarmedH vm₁ ∧ Stand p l e R s m args below meth c B.U B.locs B.cells B.slots ∧ PostX ⟨T.setVm vm₁, locs, cells, slots⟩ (Value.ref b :: argsL).toArray q B ∧
      Steps p.tables e below (T.setTop g) ((B.U.setTop { g with stack := rest }).pushFrame (.throwing q))) := by
  obtain ⟨mk, methM, hnamed, hmethM, hstM, habM⟩ := Cond.instanceMethod_spec hinst
  obtain ⟨methM', cM, hmethM', -, -, -, -, -, -, hsigM⟩ := Cond.code_spec hnamed hcode
  cases hmethM.symm.trans hmethM'
  obtain ⟨c2, r2, m2, q1, q2, q3, q4, kP, hkP, hkPi⟩ := Cond.selects_spec hsel
  cases hcls.symm.trans q1
  cases (State.methodFound?_of_named hnamed hy).symm.trans q2
  cases hnamed.symm.trans q3
  have hselP : selectMethod e.platform s.vm cellB.cls mk = .method mk := by rw [Launch.admits_selectMethod X.admits]; exact q4
  obtain ⟨vm₁, X₁, hstep₁⟩ := X.invokevirtual hexec hown hlink hnamed hmethM hstM hkP hkPi hy (a := b) (cell := cellB) hcell
    (fun z h => by rw [h] at hobj; cases hobj) hselP hmethM habM hkP hkPi (g := g) hg (argsL := argsL) (rest := rest) (hlen _ hsigM) hstack hdg
  rcases hK m meth c ⟨T.setVm vm₁, locs, cells, slots⟩ { g with stack := rest } (.invokevirtual index) mk (Value.ref b :: argsL).toArray X₁ hg hsize hdg hW (X₁.named hnamed) (hpre vm₁ X₁.warmed) with ⟨v, B, X', hpost, hsteps⟩ | ⟨q, B, X', hpost, hsteps⟩
  · exact Or.inl ⟨v, vm₁, B, X₁.warmed, X', hpost, fun target h => hstep₁ _ fun acts => by rw [doInvoke_state]; exact hsteps.trans h⟩
  · exact Or.inr ⟨q, vm₁, B, X₁.warmed, X', hpost, hstep₁ _ fun acts => by rw [doInvoke_state]; exact hsteps⟩
theorem vx_callS (X : Stand p l e R s m args below meth c T locs cells slots) (hexec : p.tables.exec = Jvm.exec) {own : String} {index : Nat} {y : MethodName} {bytes : ByteArray} {maxL : Nat} {ret : Option FieldType}
    (hown : s.vm.findClass own = some m.cls) (hlink : (Cond.methodLink own index y).before args s = true) (hstat : (Cond.static y).before args s = true) (hinit : (Cond.initialized y.cls).before args s = true)
    (hcode : (Cond.code y bytes maxL ret).before args s = true) (hy : y.cls ≠ "java/lang/invoke/MethodHandle" ∧ y.cls ≠ "java/lang/invoke/VarHandle")
    {W9 : Nat} {Pre : Pt → Array Value → Prop} {Post : Pt → Array Value → Option Value → Pt → Prop} {PostX : Pt → Array Value → Addr → Pt → Prop} (hK : vx_Back l R p e below s args y 3 W9 Pre Post PostX)
    {g : JFrame} (hg : g.method = m) (hsize : g.locals.size = c.maxLocals) {argsL rest : List Value} (hlen : ∀ sig, parseMethodDescriptor y.desc = some sig → argsL.length = sig.parameters.length)
    (hstack : g.stack = argsL.reverse ++ rest) (hW : 2 * g.monitorRoom + (rest.map fun v => v.category).sum ≤ W9) (hdg : decode c.code g.pc = .ok (.invokestatic index, 3))
    (hpre : ∀ vm₁, s.WarmedH vm₁ → Pre ⟨T.setVm vm₁, locs, cells, slots⟩ argsL.toArray) :
    (∃ (v : Option Value) (vm₁ : Vm) (B : Pt), s.WarmedH vm₁ ∧ Stand p l e R s m args below meth c B.U B.locs B.cells B.slots ∧ Post ⟨T.setVm vm₁, locs, cells, slots⟩ argsL.toArray v B ∧
      ∀ target, Steps p.tables e below (B.U.setTop { g with pc := g.pc + 3, stack := v.toList ++ rest }) target → Steps p.tables e below (T.setTop g) target) ∨
    (∃ (q : Addr) (vm₁ : Vm) (B : Pt), s.WarmedH vm₁ ∧ Stand p l e R s m args below meth c B.U B.locs B.cells B.slots ∧ PostX ⟨T.setVm vm₁, locs, cells, slots⟩ argsL.toArray q B ∧
      Steps p.tables e below (T.setTop g) ((B.U.setTop { g with stack := rest }).pushFrame (.throwing q))) := by
  obtain ⟨mk, hnamed⟩ := Cond.code_named hcode
  obtain ⟨methM, cM, hmethM, -, -, -, -, -, -, hsigM⟩ := Cond.code_spec hnamed hcode
  have hstatic : methM.isStatic = true := Cond.static_spec hnamed hmethM hstat
  obtain ⟨kP, hkP, -⟩ := className_of_methodNamed hnamed
  have hinitP : kP.init = .initialized := Cond.initialized_spec (findClass_of_methodNamed hnamed) hkP hinit
  obtain ⟨vm₁, X₁, hstep₁⟩ := X.invokestatic hexec hown hlink hnamed hmethM hstatic hkP hinitP hy (g := g) hg (argsL := argsL) (rest := rest) (hlen _ hsigM) hstack hdg
  rcases hK m meth c ⟨T.setVm vm₁, locs, cells, slots⟩ { g with stack := rest } (.invokestatic index) mk argsL.toArray X₁ hg hsize hdg hW (X₁.named hnamed) (hpre vm₁ X₁.warmed) with ⟨v, B, X', hpost, hsteps⟩ | ⟨q, B, X', hpost, hsteps⟩
  · exact Or.inl ⟨v, vm₁, B, X₁.warmed, X', hpost, fun target h => hstep₁ _ fun acts => by rw [doInvoke_state]; exact hsteps.trans h⟩
  · exact Or.inr ⟨q, vm₁, B, X₁.warmed, X', hpost, hstep₁ _ fun acts => by rw [doInvoke_state]; exact hsteps⟩
end Calls
theorem vx_cls {s : State} {T : State} {vm₁ : Vm} {E : String} {k : ClassId} (hW : s.WarmedH vm₁) (h : (T.setVm vm₁).vm.findClass E = some k) : s.vm.findClass E = some k := by
  have h1 : vm₁.findClass E = some k := h
  rw [hW.alike.findClass] at h1
  exact h1
/-- the method's frame g, with q thrown over it -/
def vx_W (p : Program) (l : Launch) (e : Env) (R : Room) (s : State) (m : MethodId) (args : Array Value) (below : List Frame) (meth : Method) (c : Code) (H : Heap) (locs : List Loc) (cells slots : Nat) (Q : State → Prop) (g : JFrame) (q : Addr) : Prop :=
  ∀ T : State, T.heap = H → Stand p l e R s m args below meth c T locs cells slots → ∃ t, Steps p.tables e below ((T.setTop g).pushFrame (.throwing q)) t ∧ Q t
def vx_Run (p : Program) (l : Launch) (e : Env) (R : Room) (s : State) (m : MethodId) (args : Array Value) (below : List Frame) (meth : Method) (c : Code) (H : Heap) (locs : List Loc) (cells slots mc ms : Nat) (g : JFrame) (rest : List Value) (Qa : State → Outcome → State → Prop) (XC : String → State → State → Prop) (free : Addr → Prop) : Prop :=
  ∀ T : State, T.heap = H → Stand p l e R s m args below meth c T locs cells slots →
    (∃ (v : Option Value) (st₀ t T' : State) (L : List Loc), st₀.heap = H ∧ Stand p l e R s m args below meth c T' (locs ++ L) (cells + mc) (slots + ms) ∧ (∀ q ∈ L, free q.base) ∧ T'.heap = t.heap ∧ T'.vm = t.vm ∧ Qa st₀ (.returned v) t ∧
      Goes p e below T g T' { g with pc := g.pc + 3, stack := v.toList ++ rest }) ∨
    (∃ (q : Addr) (st₀ t T' : State) (L : List Loc) (E : String) (ce : Cell), st₀.heap = H ∧ Stand p l e R s m args below meth c T' (locs ++ L) (cells + mc) (slots + ms) ∧ (∀ z ∈ L, free z.base) ∧ T'.heap = t.heap ∧ T'.vm = t.vm ∧ XC E st₀ t ∧ t.heap[q]? = some ce ∧ ce.vm = .none ∧ s.vm.findClass E = some ce.cls ∧
      Steps p.tables e below (T.setTop g) ((T'.setTop { g with stack := rest }).pushFrame (.throwing q)))
def vx_X {S : Type} (px : S → Prop) (B : String → S → State → Prop) (A : Nat → Prop) : String → State → State → Prop := fun E st t => ∃ u : S, px u ∧ B E u t ∧ va_F A st t
section Runs
variable {p : Program} {l : Launch} {e : Env} {R : Room} {s : State} {m : MethodId} {args : Array Value} {below : List Frame} {meth : Method} {c : Code} {H : Heap} {locs : List Loc} {cells slots : Nat}
variable {y : MethodName} {bytes cc : ByteArray} {maxL nL mc ms n index : Nat} {ret : Option FieldType} {ws : List Cond} {rm : Room} {Pc : Array Value → State → Prop} {Qc : Array Value → State → Outcome → State → Prop} {XC : String → State → State → Prop} {free : Addr → Prop} {Ts : List Cond} {own C : String} {b : Addr} {As rest : List Value} {g : JFrame}
theorem vx_callBack (cb : CallB R s args own index y bytes maxL ret ws rm mc ms n) (hM : vx_Met l y ws rm Pc Qc XC mc ms free) (hbl : FrameBlind Pc) : vx_Back l R p e below s args y 3 8 (PreOf R mc ms Pc) (PostOf Qc mc ms free) (vx_Post XC mc ms free) := by
  obtain ⟨hrc, hrs, hfr, hlo, hws, hcw, -, hini, -⟩ := cb
  exact vx_back (bytes := bytes) (maxL := maxL) (ret := ret) hM hbl hrc hrs hfr hlo hws hcw (fun a' U hW => word_at hW (Or.inl (by first | rfl | simp [Cond.onTables, Cond.keeps, Cond.steady])) hini)
theorem vx_runV (S : CallFix p m c cc nL s args Ts own) (hM : vx_Met l y ws rm Pc Qc XC mc ms free) (cw : CallW R s args own C index y bytes maxL ret ws rm mc ms n) (hp : PreV s H C b Pc As)
    (hg : g.method = m) (hn : As.length = n) (hsize : g.locals.size = nL) (hstack : g.stack = As.reverse ++ .ref b :: rest) (hW : 2 * g.monitorRoom + (rest.map fun v => v.category).sum ≤ 8) (hdg : decode cc g.pc = .ok (.invokevirtual index, 3)) (hf : cells + mc ≤ R.cells ∧ slots + ms ≤ R.slots) :
    vx_Run p l e R s m args below meth c H locs cells slots mc ms g rest (Qc (Value.ref b :: As).toArray) XC free := by
  have hK : vx_Back l R p e below s args y 3 8 (PreOf R mc ms Pc) (PostOf Qc mc ms free) (vx_Post XC mc ms free) := vx_callBack cw.1 hM hp.1
  obtain ⟨⟨-, -, -, -, -, -, hcode, -, hy, hlen, hl⟩, hin, hse⟩ := cw
  obtain ⟨hx, hb, hml, ho, -⟩ := S
  obtain ⟨-, ⟨cellB, hcB, hoB, hclB⟩, hPc⟩ := hp
  intro T hT X
  rcases vx_callV X hx (C := C) (bytes := bytes) (maxL := maxL) (ret := ret) ho hl hin hse hcode hy hK (by rw [hT]; exact hcB) hoB hclB hg (hsize.trans hml.symm) (argsL := As) (rest := rest) (fun sig h => hn.trans (hlen sig h)) hstack hW (by rw [hb]; exact hdg)
    (fun vm₁ hW₁ => ⟨hf.1, hf.2, hPc (T.setVm vm₁) hT hW₁⟩) with ⟨v, vm₁, ⟨U', l2, c2, s2⟩, hW₁, X', ⟨g', mk, t, L, e1, e2, hq, h1, hL, h2, h3⟩, st⟩ | ⟨q, vm₁, ⟨U', l2, c2, s2⟩, hW₁, X', ⟨g', mk, t, L, E, ce, e1, e2, hq, hce, hcv, hcl, h1, hL, h2, h3⟩, st⟩
  · dsimp only [Pt.U, Pt.locs, Pt.cells, Pt.slots] at X' e1 e2 h1 h2 h3 st
    subst h1; subst h2; subst h3
    exact Or.inl ⟨v, (T.setVm vm₁).calling g' mk (Value.ref b :: As).toArray, t, U', L, hT, X', hL, e1, e2, hq, st⟩
  · dsimp only [Pt.U, Pt.locs, Pt.cells, Pt.slots] at X' e1 e2 h1 h2 h3 st hcl
    subst h1; subst h2; subst h3
    exact Or.inr ⟨q, (T.setVm vm₁).calling g' mk (Value.ref b :: As).toArray, t, U', L, E, ce, hT, X', hL, e1, e2, hq, hce, hcv, vx_cls hW₁ hcl, st⟩
theorem vx_runS (S : CallFix p m c cc nL s args Ts own) (hM : vx_Met l y ws rm Pc Qc XC mc ms free) (cw : CallB R s args own index y bytes maxL ret ws rm mc ms n ∧ (Cond.static y).before args s = true) (hp : PreS s H Pc As)
    (hg : g.method = m) (hn : As.length = n) (hsize : g.locals.size = nL) (hstack : g.stack = As.reverse ++ rest) (hW : 2 * g.monitorRoom + (rest.map fun v => v.category).sum ≤ 8) (hdg : decode cc g.pc = .ok (.invokestatic index, 3)) (hf : cells + mc ≤ R.cells ∧ slots + ms ≤ R.slots) :
    vx_Run p l e R s m args below meth c H locs cells slots mc ms g rest (Qc As.toArray) XC free := by
  have hK : vx_Back l R p e below s args y 3 8 (PreOf R mc ms Pc) (PostOf Qc mc ms free) (vx_Post XC mc ms free) := vx_callBack cw.1 hM hp.1
  obtain ⟨⟨-, -, -, -, -, -, hcode, hini, hy, hlen, hl⟩, hstt⟩ := cw
  obtain ⟨hx, hb, hml, ho, -⟩ := S
  intro T hT X
  rcases vx_callS X hx (bytes := bytes) (maxL := maxL) (ret := ret) ho hl hstt hini hcode hy hK hg (hsize.trans hml.symm) (argsL := As) (rest := rest) (fun sig h => hn.trans (hlen sig h)) hstack hW (by rw [hb]; exact hdg)
    (fun vm₁ hW₁ => ⟨hf.1, hf.2, hp.2 (T.setVm vm₁) hT hW₁⟩) with ⟨v, vm₁, ⟨U', l2, c2, s2⟩, hW₁, X', ⟨g', mk, t, L, e1, e2, hq, h1, hL, h2, h3⟩, st⟩ | ⟨q, vm₁, ⟨U', l2, c2, s2⟩, hW₁, X', ⟨g', mk, t, L, E, ce, e1, e2, hq, hce, hcv, hcl, h1, hL, h2, h3⟩, st⟩
  · dsimp only [Pt.U, Pt.locs, Pt.cells, Pt.slots] at X' e1 e2 h1 h2 h3 st
    subst h1; subst h2; subst h3
    exact Or.inl ⟨v, (T.setVm vm₁).calling g' mk As.toArray, t, U', L, hT, X', hL, e1, e2, hq, st⟩
  · dsimp only [Pt.U, Pt.locs, Pt.cells, Pt.slots] at X' e1 e2 h1 h2 h3 st hcl
    subst h1; subst h2; subst h3
    exact Or.inr ⟨q, (T.setVm vm₁).calling g' mk As.toArray, t, U', L, E, ce, hT, X', hL, e1, e2, hq, hce, hcv, vx_cls hW₁ hcl, st⟩
end Runs
section Rows
variable {p : Program} {l : Launch} {e : Env} {R : Room} {s : State} {m : MethodId} {args : Array Value} {below : List Frame} {meth : Method} {c : Code} {H : Heap} {locs : List Loc} {cells slots : Nat} {Q : State → Prop}
variable {mc ms : Nat} {free : Addr → Prop} {A0 A1 : Nat → Prop} {H0 : Heap} {a : Array Value} {pc : Nat} {ls : Array Slot} {st0 rest : List Value}
theorem vx_keep {st₀ t T' : State} {L : List Loc} (h0 : st₀.heap = H) (e1 : T'.heap = t.heap) (hS : va_S A0 H0 H locs) (hA : ∀ q, q < H.size → A1 q → A0 q) (hf : ∀ q, free q → A0 q) (hL : ∀ q ∈ L, free q.base) (hF : va_F A1 st₀ t) :
    H.size ≤ T'.heap.size ∧ (∀ q : Nat, q < H.size → ¬ A1 q → T'.heap[q]? = H[q]?) ∧ va_S A0 H0 T'.heap (locs ++ L) := by
  obtain ⟨hz, hk⟩ := hF
  rw [h0] at hz hk
  exact ⟨by rw [e1]; exact hz, fun q h1 h2 => by rw [e1]; exact hk q h1 h2,
    ⟨Nat.le_trans hS.1 (by rw [e1]; exact hz), fun q h1 h2 => by rw [e1, hk q (Nat.lt_of_lt_of_le h1 hS.1) (fun z => h2 (hA q (Nat.lt_of_lt_of_le h1 hS.1) z))]; exact hS.2.1 q h1 h2, fun q hq => by
      rcases List.mem_append.mp hq with h | h
      · exact hS.2.2 q h
      · exact hf _ (hL q h)⟩⟩
theorem vx_calli {S SX : Type} {post : Int32 → S → Prop} {px : SX → Prop} {B : S → State → Prop} {BX : String → SX → State → Prop} {AX : Nat → Prop} (hr : vx_Run p l e R s m args below meth c H locs cells slots mc ms (F0 m pc ls st0) rest (va_Qi post B A1 a) (vx_X px BX AX) free) (hS : va_S A0 H0 H locs) (hA : ∀ q, q < H.size → A1 q → A0 q) (hf : ∀ q, free q → A0 q) (hAX : ∀ q, q < H.size → AX q → A0 q)
    (kx : ∀ (E : String) (ce : Cell) (q9 : Addr) (u : SX) (t : State) (H1 : Heap) (locs1 : List Loc), t.heap = H1 → s.vm.Alike t.vm → px u → BX E u t → H.size ≤ H1.size → (∀ q : Nat, q < H.size → ¬ AX q → H1[q]? = H[q]?) → va_S A0 H0 H1 locs1 → H1[q9]? = some ce → ce.vm = .none → s.vm.findClass E = some ce.cls → vx_W p l e R s m args below meth c H1 locs1 (cells + mc) (slots + ms) Q (F0 m pc ls rest) q9)
    (kk : ∀ (r : Int32) (u : S) (t : State) (H1 : Heap) (locs1 : List Loc), t.heap = H1 → s.vm.Alike t.vm → post r u → B u t → H.size ≤ H1.size → (∀ q : Nat, q < H.size → ¬ A1 q → H1[q]? = H[q]?) → va_S A0 H0 H1 locs1 → W p l e R s m args below meth c H1 locs1 (cells + mc) (slots + ms) Q (F0 m (pc + 3) ls (.int r :: rest))) : W p l e R s m args below meth c H locs cells slots Q (F0 m pc ls st0) := by
  intro T hT X
  rcases hr T hT X with ⟨v, st₀, t, T', L, h0, X', hL, e1, e2, ⟨⟨r, u, hv, hp, hb⟩, hF⟩, st⟩ | ⟨q, st₀, t, T', L, E, ce, h0, X', hL, e1, e2, ⟨u, hp, hb, hF⟩, hce, hcv, hcl, st⟩
  · cases hv
    obtain ⟨k1, k2, k3⟩ := vx_keep h0 e1 hS hA hf hL hF
    obtain ⟨t2, a1, b1⟩ := kk r u t T'.heap (locs ++ L) e1.symm (by rw [← e2]; exact X'.warmed.alike) hp hb k1 k2 k3 T' rfl X'
    exact ⟨t2, st t2 a1, b1⟩
  · obtain ⟨k1, k2, k3⟩ := vx_keep h0 e1 hS hAX hf hL hF
    obtain ⟨t2, a1, b1⟩ := kx E ce q u t T'.heap (locs ++ L) e1.symm (by rw [← e2]; exact X'.warmed.alike) hp hb k1 k2 k3 (by rw [e1]; exact hce) hcv hcl T' rfl X'
    exact ⟨t2, st.trans a1, b1⟩
theorem vx_calll {S SX : Type} {post : Int64 → S → Prop} {px : SX → Prop} {B : S → State → Prop} {BX : String → SX → State → Prop} {AX : Nat → Prop} (hr : vx_Run p l e R s m args below meth c H locs cells slots mc ms (F0 m pc ls st0) rest (va_Ql post B A1 a) (vx_X px BX AX) free) (hS : va_S A0 H0 H locs) (hA : ∀ q, q < H.size → A1 q → A0 q) (hf : ∀ q, free q → A0 q) (hAX : ∀ q, q < H.size → AX q → A0 q)
    (kx : ∀ (E : String) (ce : Cell) (q9 : Addr) (u : SX) (t : State) (H1 : Heap) (locs1 : List Loc), t.heap = H1 → s.vm.Alike t.vm → px u → BX E u t → H.size ≤ H1.size → (∀ q : Nat, q < H.size → ¬ AX q → H1[q]? = H[q]?) → va_S A0 H0 H1 locs1 → H1[q9]? = some ce → ce.vm = .none → s.vm.findClass E = some ce.cls → vx_W p l e R s m args below meth c H1 locs1 (cells + mc) (slots + ms) Q (F0 m pc ls rest) q9)
    (kk : ∀ (r : Int64) (u : S) (t : State) (H1 : Heap) (locs1 : List Loc), t.heap = H1 → s.vm.Alike t.vm → post r u → B u t → H.size ≤ H1.size → (∀ q : Nat, q < H.size → ¬ A1 q → H1[q]? = H[q]?) → va_S A0 H0 H1 locs1 → W p l e R s m args below meth c H1 locs1 (cells + mc) (slots + ms) Q (F0 m (pc + 3) ls (.long r :: rest))) : W p l e R s m args below meth c H locs cells slots Q (F0 m pc ls st0) := by
  intro T hT X
  rcases hr T hT X with ⟨v, st₀, t, T', L, h0, X', hL, e1, e2, ⟨⟨r, u, hv, hp, hb⟩, hF⟩, st⟩ | ⟨q, st₀, t, T', L, E, ce, h0, X', hL, e1, e2, ⟨u, hp, hb, hF⟩, hce, hcv, hcl, st⟩
  · cases hv
    obtain ⟨k1, k2, k3⟩ := vx_keep h0 e1 hS hA hf hL hF
    obtain ⟨t2, a1, b1⟩ := kk r u t T'.heap (locs ++ L) e1.symm (by rw [← e2]; exact X'.warmed.alike) hp hb k1 k2 k3 T' rfl X'
    exact ⟨t2, st t2 a1, b1⟩
  · obtain ⟨k1, k2, k3⟩ := vx_keep h0 e1 hS hAX hf hL hF
    obtain ⟨t2, a1, b1⟩ := kx E ce q u t T'.heap (locs ++ L) e1.symm (by rw [← e2]; exact X'.warmed.alike) hp hb k1 k2 k3 (by rw [e1]; exact hce) hcv hcl T' rfl X'
    exact ⟨t2, st.trans a1, b1⟩
theorem vx_callf {S SX : Type} {post : UInt32 → S → Prop} {px : SX → Prop} {B : S → State → Prop} {BX : String → SX → State → Prop} {AX : Nat → Prop} (hr : vx_Run p l e R s m args below meth c H locs cells slots mc ms (F0 m pc ls st0) rest (va_Qf post B A1 a) (vx_X px BX AX) free) (hS : va_S A0 H0 H locs) (hA : ∀ q, q < H.size → A1 q → A0 q) (hf : ∀ q, free q → A0 q) (hAX : ∀ q, q < H.size → AX q → A0 q)
    (kx : ∀ (E : String) (ce : Cell) (q9 : Addr) (u : SX) (t : State) (H1 : Heap) (locs1 : List Loc), t.heap = H1 → s.vm.Alike t.vm → px u → BX E u t → H.size ≤ H1.size → (∀ q : Nat, q < H.size → ¬ AX q → H1[q]? = H[q]?) → va_S A0 H0 H1 locs1 → H1[q9]? = some ce → ce.vm = .none → s.vm.findClass E = some ce.cls → vx_W p l e R s m args below meth c H1 locs1 (cells + mc) (slots + ms) Q (F0 m pc ls rest) q9)
    (kk : ∀ (r : UInt32) (u : S) (t : State) (H1 : Heap) (locs1 : List Loc), t.heap = H1 → s.vm.Alike t.vm → post r u → B u t → H.size ≤ H1.size → (∀ q : Nat, q < H.size → ¬ A1 q → H1[q]? = H[q]?) → va_S A0 H0 H1 locs1 → W p l e R s m args below meth c H1 locs1 (cells + mc) (slots + ms) Q (F0 m (pc + 3) ls (.float r :: rest))) : W p l e R s m args below meth c H locs cells slots Q (F0 m pc ls st0) := by
  intro T hT X
  rcases hr T hT X with ⟨v, st₀, t, T', L, h0, X', hL, e1, e2, ⟨⟨r, u, hv, hp, hb⟩, hF⟩, st⟩ | ⟨q, st₀, t, T', L, E, ce, h0, X', hL, e1, e2, ⟨u, hp, hb, hF⟩, hce, hcv, hcl, st⟩
  · cases hv
    obtain ⟨k1, k2, k3⟩ := vx_keep h0 e1 hS hA hf hL hF
    obtain ⟨t2, a1, b1⟩ := kk r u t T'.heap (locs ++ L) e1.symm (by rw [← e2]; exact X'.warmed.alike) hp hb k1 k2 k3 T' rfl X'
    exact ⟨t2, st t2 a1, b1⟩
  · obtain ⟨k1, k2, k3⟩ := vx_keep h0 e1 hS hAX hf hL hF
    obtain ⟨t2, a1, b1⟩ := kx E ce q u t T'.heap (locs ++ L) e1.symm (by rw [← e2]; exact X'.warmed.alike) hp hb k1 k2 k3 (by rw [e1]; exact hce) hcv hcl T' rfl X'
    exact ⟨t2, st.trans a1, b1⟩
theorem vx_calld {S SX : Type} {post : UInt64 → S → Prop} {px : SX → Prop} {B : S → State → Prop} {BX : String → SX → State → Prop} {AX : Nat → Prop} (hr : vx_Run p l e R s m args below meth c H locs cells slots mc ms (F0 m pc ls st0) rest (va_Qd post B A1 a) (vx_X px BX AX) free) (hS : va_S A0 H0 H locs) (hA : ∀ q, q < H.size → A1 q → A0 q) (hf : ∀ q, free q → A0 q) (hAX : ∀ q, q < H.size → AX q → A0 q)
    (kx : ∀ (E : String) (ce : Cell) (q9 : Addr) (u : SX) (t : State) (H1 : Heap) (locs1 : List Loc), t.heap = H1 → s.vm.Alike t.vm → px u → BX E u t → H.size ≤ H1.size → (∀ q : Nat, q < H.size → ¬ AX q → H1[q]? = H[q]?) → va_S A0 H0 H1 locs1 → H1[q9]? = some ce → ce.vm = .none → s.vm.findClass E = some ce.cls → vx_W p l e R s m args below meth c H1 locs1 (cells + mc) (slots + ms) Q (F0 m pc ls rest) q9)
    (kk : ∀ (r : UInt64) (u : S) (t : State) (H1 : Heap) (locs1 : List Loc), t.heap = H1 → s.vm.Alike t.vm → post r u → B u t → H.size ≤ H1.size → (∀ q : Nat, q < H.size → ¬ A1 q → H1[q]? = H[q]?) → va_S A0 H0 H1 locs1 → W p l e R s m args below meth c H1 locs1 (cells + mc) (slots + ms) Q (F0 m (pc + 3) ls (.double r :: rest))) : W p l e R s m args below meth c H locs cells slots Q (F0 m pc ls st0) := by
  intro T hT X
  rcases hr T hT X with ⟨v, st₀, t, T', L, h0, X', hL, e1, e2, ⟨⟨r, u, hv, hp, hb⟩, hF⟩, st⟩ | ⟨q, st₀, t, T', L, E, ce, h0, X', hL, e1, e2, ⟨u, hp, hb, hF⟩, hce, hcv, hcl, st⟩
  · cases hv
    obtain ⟨k1, k2, k3⟩ := vx_keep h0 e1 hS hA hf hL hF
    obtain ⟨t2, a1, b1⟩ := kk r u t T'.heap (locs ++ L) e1.symm (by rw [← e2]; exact X'.warmed.alike) hp hb k1 k2 k3 T' rfl X'
    exact ⟨t2, st t2 a1, b1⟩
  · obtain ⟨k1, k2, k3⟩ := vx_keep h0 e1 hS hAX hf hL hF
    obtain ⟨t2, a1, b1⟩ := kx E ce q u t T'.heap (locs ++ L) e1.symm (by rw [← e2]; exact X'.warmed.alike) hp hb k1 k2 k3 (by rw [e1]; exact hce) hcv hcl T' rfl X'
    exact ⟨t2, st.trans a1, b1⟩
theorem vx_callv {S SX : Type} {post : S → Prop} {px : SX → Prop} {B : S → State → Prop} {BX : String → SX → State → Prop} {AX : Nat → Prop} (hr : vx_Run p l e R s m args below meth c H locs cells slots mc ms (F0 m pc ls st0) rest (va_Qv post B A1 a) (vx_X px BX AX) free) (hS : va_S A0 H0 H locs) (hA : ∀ q, q < H.size → A1 q → A0 q) (hf : ∀ q, free q → A0 q) (hAX : ∀ q, q < H.size → AX q → A0 q)
    (kx : ∀ (E : String) (ce : Cell) (q9 : Addr) (u : SX) (t : State) (H1 : Heap) (locs1 : List Loc), t.heap = H1 → s.vm.Alike t.vm → px u → BX E u t → H.size ≤ H1.size → (∀ q : Nat, q < H.size → ¬ AX q → H1[q]? = H[q]?) → va_S A0 H0 H1 locs1 → H1[q9]? = some ce → ce.vm = .none → s.vm.findClass E = some ce.cls → vx_W p l e R s m args below meth c H1 locs1 (cells + mc) (slots + ms) Q (F0 m pc ls rest) q9)
    (kk : ∀ (u : S) (t : State) (H1 : Heap) (locs1 : List Loc), t.heap = H1 → s.vm.Alike t.vm → post u → B u t → H.size ≤ H1.size → (∀ q : Nat, q < H.size → ¬ A1 q → H1[q]? = H[q]?) → va_S A0 H0 H1 locs1 → W p l e R s m args below meth c H1 locs1 (cells + mc) (slots + ms) Q (F0 m (pc + 3) ls (rest))) : W p l e R s m args below meth c H locs cells slots Q (F0 m pc ls st0) := by
  intro T hT X
  rcases hr T hT X with ⟨v, st₀, t, T', L, h0, X', hL, e1, e2, ⟨⟨u, hv, hp, hb⟩, hF⟩, st⟩ | ⟨q, st₀, t, T', L, E, ce, h0, X', hL, e1, e2, ⟨u, hp, hb, hF⟩, hce, hcv, hcl, st⟩
  · cases hv
    obtain ⟨k1, k2, k3⟩ := vx_keep h0 e1 hS hA hf hL hF
    obtain ⟨t2, a1, b1⟩ := kk u t T'.heap (locs ++ L) e1.symm (by rw [← e2]; exact X'.warmed.alike) hp hb k1 k2 k3 T' rfl X'
    exact ⟨t2, st t2 a1, b1⟩
  · obtain ⟨k1, k2, k3⟩ := vx_keep h0 e1 hS hAX hf hL hF
    obtain ⟨t2, a1, b1⟩ := kx E ce q u t T'.heap (locs ++ L) e1.symm (by rw [← e2]; exact X'.warmed.alike) hp hb k1 k2 k3 (by rw [e1]; exact hce) hcv hcl T' rfl X'
    exact ⟨t2, st.trans a1, b1⟩
/-- caught by the row x of this method's table; the rows ahead don't take it -/
theorem vx_catch {own name : String} {E : String} {ce : Cell} {q : Addr} (hown : s.vm.findClass own = some m.cls) (pre : List ExceptionTableEntry) (x : ExceptionTableEntry) (suf : List ExceptionTableEntry) (hsplit : c.exceptionTable.toList = pre ++ x :: suf)
    (hpass : ∀ z ∈ pre, covers z pc = false ∨ (z.catchType ≠ 0 ∧ ∃ nm : String, (Cond.classLink own z.catchType nm).before args s = true ∧ va_Nc E nm s)) (hx : covers x pc = true) (h0 : x.catchType ≠ 0)
    (hlink : (Cond.classLink own x.catchType name).before args s = true) (hcast : (Cond.castable E name).before args s = true) (hcell : H[q]? = some ce) (hv : ce.vm = .none) (hcl : s.vm.findClass E = some ce.cls)
    (kk : W p l e R s m args below meth c H locs cells slots Q (F0 m x.handlerPc ls [.ref q])) : vx_W p l e R s m args below meth c H locs cells slots Q (F0 m pc ls rest) q := by
  intro T hT X
  have hpl : e.platform.magicAccessors = ({} : Platform).magicAccessors := by rw [X.admits.platform]
  obtain ⟨c3, c4, hc3, hc4, hasg⟩ := Cond.castable_spec hcast
  cases Option.some.inj (hc3.symm.trans hcl)
  obtain ⟨c5, hc5, hcl5⟩ := Cond.classLink_spec hown hlink e.platform hpl
  cases Option.some.inj (hc4.symm.trans hc5)
  obtain ⟨vm', X', st⟩ := X.thenCaughtThrough q (g := F0 m pc ls rest) rfl (Steps.refl _) (by rw [hT]; exact hcell) (by rw [hv]; rfl) (by obtain ⟨k9, h9, -⟩ := Vm.findClass_spec hcl; exact ⟨k9, h9⟩) pre x suf hsplit
    (fun z hz => by
      rcases hpass z hz with h | ⟨hz0, nm, hl1, hn1⟩
      · exact Or.inl h
      · obtain ⟨c6, hc6, hcl6⟩ := Cond.classLink_spec hown hl1 e.platform hpl
        obtain ⟨a8, b8, h1, h2, h3⟩ := hn1
        cases Option.some.inj (h1.symm.trans hcl)
        cases Option.some.inj (h2.symm.trans hc6)
        exact Or.inr ⟨hz0, _, hcl6, h3⟩) hx (Or.inr ⟨h0, c4, hcl5, hasg⟩)
  obtain ⟨t, a1, b1⟩ := kk (T.setVm vm') hT X'
  exact ⟨t, st.trans a1, b1⟩
end Rows
section Ends
variable {p : Program} {l : Launch} {e : Env} {R : Room} {s : State} {m : MethodId} {args : Array Value} {below : List Frame} {meth : Method} {c : Code} {H : Heap} {locs : List Loc} {cells slots : Nat} {Q : State → Prop}
variable {mc ms : Nat} {free : Addr → Prop} {A0 A1 : Nat → Prop} {H0 : Heap} {a : Array Value} {ls : Array Slot} {st0 rest : List Value}
variable {Qc : Array Value → State → Outcome → State → Prop} {XC : String → State → State → Prop}
/-- what a body that may throw owes at its end -/
def vx_MQ (below : List Frame) (Qc : Array Value → State → Outcome → State → Prop) (XC : String → State → State → Prop) (a : Array Value) (s : State) (mc ms : Nat) (free : Addr → Prop) : State → Prop := fun t =>
  ∃ o, t.status = .running ∧ Ended t below o ∧ vx_Q Qc XC mc ms free a s o t
theorem vx_ret {g : JFrame} {mc ms : Nat} (k : W p l e R s m args below meth c H locs cells slots (MQ below Qc args s mc ms free) g) : W p l e R s m args below meth c H locs cells slots (vx_MQ below Qc XC args s mc ms free) g := by
  intro T hT X
  obtain ⟨t, a1, o, b1, b2, b3, b4⟩ := k T hT X
  exact ⟨t, a1, o, b1, b2, Or.inl ⟨b3, b4⟩⟩
/-- not caught here: it goes on to the caller -/
theorem vx_widen {g : JFrame} {q : Addr} {k n : Nat} (h1 : cells ≤ k) (h2 : slots ≤ n) (kk : vx_W p l e R s m args below meth c H locs k n Q g q) : vx_W p l e R s m args below meth c H locs cells slots Q g q := fun T hT X => kk T hT (stand_widen X h1 h2)
theorem vx_out {pc : Nat} {E : String} {ce : Cell} {q : Addr} {mc ms : Nat} (hout : ∀ x ∈ c.exceptionTable.toList, covers x pc = false) (hlocks : meth.locks = false) (hcell : H[q]? = some ce) (hv : ce.vm = .none) (hcl : s.vm.findClass E = some ce.cls)
    (hx : ∀ t : State, t.heap = H → s.vm.Alike t.vm → XC E s t) (hf : ∀ z ∈ locs, free z.base) (hc : cells ≤ mc) (hs : slots ≤ ms) :
    vx_W p l e R s m args below meth c H locs cells slots (vx_MQ below Qc XC args s mc ms free) (F0 m pc ls rest) q := by
  intro T hT X
  obtain ⟨st1, hrun, hend, hW, hsm⟩ := X.leaveThrown q (g := F0 m pc ls rest) rfl rfl rfl hout hlocks
  have hcell9 : (T.setFrames (.throwing q :: below)).heap[q]? = some ce := by
    show T.heap[q]? = some ce
    rw [hT]; exact hcell
  exact ⟨_, st1, .threw q, hrun, hend, Or.inr ⟨q, rfl, E, ce, locs, hx _ hT hW.alike, hcell9, hv, hcl, hW, hsm.mono hc hs, hf⟩⟩
theorem vx_frame {U : State} {k n : Nat} (h : s.sameButNew ({ U with vm := s.vm } : State) locs k n) : s.heap.size ≤ U.heap.size ∧ ∀ q : Nat, q < s.heap.size → (∀ z ∈ locs, z.base ≠ q) → U.heap[q]? = s.heap[q]? := by
  obtain ⟨-, h2, -, -, -, h6⟩ := h
  refine ⟨h2, fun q hq hz => ?_⟩
  obtain ⟨c9, e1, e2, e3, e4⟩ := h6 q _ (Array.getElem?_eq_getElem hq)
  have hs : c9.slots = (s.heap[q]).slots := Array.ext_getElem? fun i => e4 i fun hm => hz _ hm rfl
  have h9 : c9 = s.heap[q] := by
    rw [hs] at e2
    exact e2
  have e5 : U.heap[q]? = some c9 := e1
  rw [e5, h9, Array.getElem?_eq_getElem hq]
/-- the words of a throw but the four that speak of the heap -/
def vx_no (w : Cond) : Bool := decide (w ≠ .isRef (.static Bundle.tN "UNASSIGNED_STACK" Bundle.steD)) && decide (w ≠ .isRef (.static Bundle.tN "SUPPRESSED_SENTINEL" Bundle.listD)) && decide (w ≠ .laysStatic Bundle.tN "UNASSIGNED_STACK" Bundle.steD) && decide (w ≠ .laysStatic Bundle.tN "SUPPRESSED_SENTINEL" Bundle.listD)
def vx_at0 (own : String) (ic : Nat) (X : String) (names : List String) : List Cond := (Bundle.ownAtoms0 own ic X names).filter vx_no
def vx_atS (own : String) (ic : Nat) (X : String) (names : List String) : List Cond := (Bundle.ownAtoms own ic X names).filter vx_no
/-- a word that the tables alone decide, or a good one -/
def vx_ot (w : Cond) : Bool := w.onTables || goodWord w
theorem vx_ot_at {args a' : Array Value} {s U : State} {w : Cond} (hW : s.WarmedH U.vm) (hvm : s.vm = U.vm) (hg : vx_ot w = true) (h : w.before args s = true) : w.before a' U = true := by
  simp only [vx_ot, Bool.or_eq_true] at hg
  rcases hg with hg | hg
  · exact va_tabs hg hvm h
  · exact word_at hW (good_of_word hg) h
/-- a list's words: the good ones out of the method's own list, the others by premises of their own -/
theorem vx_hat {args : Array Value} {s : State} {L B : List Cond} (h1 : ∀ w ∈ L.filter goodWord, w.before args s = true) (h2 : ∀ w ∈ L.filter (fun w => !goodWord w), w ∈ B) (h3 : ∀ w ∈ B, w.before args s = true) : ∀ w ∈ L, w.before args s = true := by
  intro w hw
  by_cases g : goodWord w = true
  · exact h1 w (List.mem_filter.mpr ⟨hw, g⟩)
  · refine h3 w (h2 w (List.mem_filter.mpr ⟨hw, ?_⟩))
    show (!goodWord w) = true
    cases hgw : goodWord w
    · rfl
    · exact absurd hgw g
theorem vx_c {args : Array Value} {s : State} {w : Cond} {B : List Cond} (h : w.before args s = true) (t : ∀ w ∈ B, w.before args s = true) : ∀ w' ∈ w :: B, w'.before args s = true := fun w' h' => (List.mem_cons.mp h').elim (fun e => by rw [e]; exact h) (t w')
theorem vx_n {args : Array Value} {s : State} : ∀ w ∈ ([] : List Cond), w.before args s = true := fun _ h => nomatch h
theorem vx_own {args : Array Value} {s : State} {L : List Cond} (h1 : ∀ w ∈ L.filter vx_no, w.before args s = true)
    (hU : (Cond.isRef (.static Bundle.tN "UNASSIGNED_STACK" Bundle.steD)).before args s = true) (hN : (Cond.isRef (.static Bundle.tN "SUPPRESSED_SENTINEL" Bundle.listD)).before args s = true)
    (lU : (Cond.laysStatic Bundle.tN "UNASSIGNED_STACK" Bundle.steD).before args s = true) (lN : (Cond.laysStatic Bundle.tN "SUPPRESSED_SENTINEL" Bundle.listD).before args s = true) : ∀ w ∈ L, w.before args s = true := by
  intro w hw
  by_cases e1 : w = .isRef (.static Bundle.tN "UNASSIGNED_STACK" Bundle.steD)
  · rw [e1]; exact hU
  · by_cases e2 : w = .isRef (.static Bundle.tN "SUPPRESSED_SENTINEL" Bundle.listD)
    · rw [e2]; exact hN
    · by_cases e3 : w = .laysStatic Bundle.tN "UNASSIGNED_STACK" Bundle.steD
      · rw [e3]; exact lU
      · by_cases e4 : w = .laysStatic Bundle.tN "SUPPRESSED_SENTINEL" Bundle.listD
        · rw [e4]; exact lN
        · exact h1 w (List.mem_filter.mpr ⟨hw, by unfold vx_no; rw [decide_eq_true e1, decide_eq_true e2, decide_eq_true e3, decide_eq_true e4]; rfl⟩)
/-- where a static field lies, its class's statics cell in H -/
def vx_L (C n d : String) (A : Nat → Prop) (U : State) (H : Heap) : Prop := ∃ (c : ClassId) (k : Class) (i : Nat) (f : Field) (a : Nat) (cell : Cell), U.vm.findClass C = some c ∧ U.fieldFound? C n d = some (c, k, i, f) ∧ f.isStatic = true ∧ k.statics = some a ∧ H[a]? = some cell ∧ cell.vm.isStatics = true ∧ cell.cls = c ∧ f.slot < cell.slots.size ∧ k.staticTypes[f.slot]? = some f.type ∧ ¬ A a
theorem vx_L.moved {C n d : String} {A : Nat → Prop} {u U : State} {H : Heap} (hvm : u.vm.Alike U.vm) (h : vx_L C n d A u H) : vx_L C n d A U H := by
  obtain ⟨c, k, i, f, a, cell, h1, h2, h3, h4, h5, h6, h7, h8, h9, h10⟩ := h
  obtain ⟨k', hi', he⟩ := State.fieldFound?_setVm hvm h2
  exact ⟨c, k', i, f, a, cell, by rw [hvm.findClass]; exact h1, hi', h3, by rw [he]; exact h4, h5, h6, h7, h8, by rw [he]; exact h9, h10⟩
theorem vx_L.kept {C n d : String} {A : Nat → Prop} {U : State} {H H1 : Heap} (h : vx_L C n d A U H) (hq : ∀ a : Nat, a < H.size → ¬ A a → H1[a]? = H[a]?) : vx_L C n d A U H1 := by
  obtain ⟨c, k, i, f, a, cell, h1, h2, h3, h4, h5, h6, h7, h8, h9, h10⟩ := h
  exact ⟨c, k, i, f, a, cell, h1, h2, h3, h4, by rw [hq a (Array.getElem?_eq_some_iff.mp h5).1 h10]; exact h5, h6, h7, h8, h9, h10⟩
theorem vx_L.narrow {C n d : String} {A B : Nat → Prop} {U : State} {H : Heap} (h : vx_L C n d A U H) (hAB : ∀ q, B q → A q) : vx_L C n d B U H := by
  obtain ⟨c, k, i, f, a, cell, h1, h2, h3, h4, h5, h6, h7, h8, h9, h10⟩ := h
  exact ⟨c, k, i, f, a, cell, h1, h2, h3, h4, h5, h6, h7, h8, h9, fun z => h10 (hAB _ z)⟩
theorem vx_L.word {C n d : String} {A : Nat → Prop} {s : State} {args : Array Value} (h : vx_L C n d A s s.heap) : (Cond.laysStatic C n d).before args s = true := by
  obtain ⟨c, k, i, f, a, cell, h1, h2, h3, h4, h5, h6, h7, h8, h9, -⟩ := h
  show (Cond.laysStatic C n d).holds args s none s [] = true
  exact Cond.laysStatic_of h1 h2 h3 h4 h5 h6 h7 h8 h9
/-- .. and what it holds: null or some reference -/
def vx_Zq (C n d : String) (A : Nat → Prop) (U : State) (H : Heap) : Prop := va_Zq C n d A U H ∧ vx_L C n d A U H
theorem vx_Zq.moved {C n d : String} {A : Nat → Prop} {u U : State} {H : Heap} (hvm : u.vm.Alike U.vm) (h : vx_Zq C n d A u H) : vx_Zq C n d A U H := ⟨va_Zq.moved hvm h.1, vx_L.moved hvm h.2⟩
theorem vx_Zq.kept {C n d : String} {A : Nat → Prop} {U : State} {H H1 : Heap} (h : vx_Zq C n d A U H) (hq : ∀ a : Nat, a < H.size → ¬ A a → H1[a]? = H[a]?) : vx_Zq C n d A U H1 := ⟨va_Zq.kept h.1 hq, vx_L.kept h.2 hq⟩
theorem vx_Zq.narrow {C n d : String} {A B : Nat → Prop} {U : State} {H : Heap} (h : vx_Zq C n d A U H) (hAB : ∀ q, B q → A q) : vx_Zq C n d B U H := ⟨va_Zq.narrow h.1 hAB, vx_L.narrow h.2 hAB⟩
theorem vx_Zqof {args : Array Value} {s : State} {C n d : String} {A : Nat → Prop} (hl : (Cond.laysStatic C n d).before args s = true) (hini : (Cond.initialized C).before args s = true) (h : (Cond.isRef (.static C n d)).before args s = true) (hA : ∀ a : Nat, a < s.heap.size → ¬ A a) : vx_Zq C n d A s s.heap := by
  refine ⟨va_Zqof hl hini h hA, ?_⟩
  obtain ⟨c, k, i, f, a, cell, h1, h2, h3, h4, h5, h6, h7, h8, h9⟩ := Cond.laysStatic_spec hl
  exact ⟨c, k, i, f, a, cell, h1, h2, h3, h4, h5, h6, h7, h8, h9, hA a (Array.getElem?_eq_some_iff.mp h5).1⟩
theorem vx_isRef {C n d : String} {v : Value} {A : Nat → Prop} {s : State} {args : Array Value} (h : va_Z C n d v A s s.heap) (hv : v.isRef = true) : (Cond.isRef (.static C n d)).before args s = true := by
  obtain ⟨cf, kf, fi, f, a, cell, h1, h2, h3, h4, h5, h6, h7, -⟩ := h
  have he : (Term.static C n d).eval args s none [] s = some v := by
    simp [Term.eval, State.fieldNamed?, h1, h2, h4, h5, h6, h7]
  simp only [Cond.before, Cond.holds, Cond.value, he]
  cases v <;> simp_all [Value.isRef]
theorem vx_isRefq {C n d : String} {A : Nat → Prop} {s : State} {args : Array Value} (h : va_Zq C n d A s s.heap) : (Cond.isRef (.static C n d)).before args s = true := by
  rcases h with h | ⟨t, h⟩
  · exact vx_isRef h rfl
  · exact vx_isRef h rfl
/-- the same frame, seen from here: as if the method were called anew in this heap -/
theorem vx_rebase {T : State} (X : Stand p l e R s m args below meth c T locs cells slots) {R' : Room} (hf : R'.frames ≤ R.frames) (hl : R'.locals ≤ R.locals) (hc : cells + R'.cells ≤ R.cells) (hs : slots + R'.slots ≤ R.slots) :
    Stand p l e R' ((T.setVm s.vm).setFrames (.invoking m args :: below)) m args below meth c T [] 0 0 := by
  have htop : (T.setVm s.vm).topJava?.isSome := X.here.top
  have hF : ((T.setVm s.vm).setFrames (.invoking m args :: below)).frames = .invoking m args :: below := State.frames_setFrames _ (State.cur_lt_of_top htop)
  obtain ⟨g₀, hg0⟩ := Option.isSome_iff_exists.mp htop
  obtain ⟨r, hr⟩ := State.topJava?_eq_some.mp hg0
  have hl9 : e.platform.stackLimits (T.setVm s.vm).me = e.platform.stackLimits s.me := X.limits
  have hb9 : (T.setVm s.vm).me.stackBytes = s.me.stackBytes := X.bytes
  refine ⟨X.admits, X.cas, X.clock, hF, ?_, X.hears, X.method, X.code, X.here, X.tail, X.warmed, ?_, ?_, ?_⟩
  · have h := X.room
    have hU : ((T.setVm s.vm).setFrames (.invoking m args :: below)).localsInUse = s.localsInUse := by
      rw [State.localsInUse_invoking hF (meth := meth) (c := c) X.method X.code, State.localsInUse_invoking X.frames X.method X.code]
    simp only [State.hasRoom, Bool.and_eq_true, decide_eq_true_eq] at h ⊢
    obtain ⟨⟨⟨⟨h1, h2, h3, h4, h5, h6⟩, h7⟩, h8⟩, h9⟩ := h
    rw [X.frames, List.length_cons] at h2 h3
    have q1 := X.heapSize
    have q2 := X.used
    simp only [hF, hU, List.length_cons, State.stackLimits_setFrames, State.stackBytes_setFrames, hl9, hb9]
    refine ⟨⟨⟨⟨by omega, by omega, by omega, by omega, by omega, h6⟩, ?_⟩, ?_⟩, X.book⟩
    · show T.heap.size + R'.cells ≤ e.platform.maxCells
      omega
    · show T.slotsUsed + R'.slots ≤ e.platform.maxSlots
      omega
  · rw [State.stackLimits_setFrames]; rfl
  · rw [State.stackBytes_setFrames]; rfl
  · refine ⟨?_, Nat.le_refl _, Nat.le_refl _, ?_, ?_, fun a c9 h9 => ⟨c9, h9, rfl, rfl, fun _ _ => rfl⟩⟩
    · obtain ⟨t, ht, -⟩ := State.frames_cons hr
      show T.setVm s.vm = { ((T.setVm s.vm).setFrames (.invoking m args :: below)).setFrames (T.setVm s.vm).frames with heap := T.heap, slotsUsed := T.slotsUsed }
      rw [State.setFrames_setFrames, State.setFrames_self ht]
      rfl
    · show T.slotsUsed = T.slotsUsed + ((T.heap.toList.drop T.heap.size).map (·.slots.size)).sum
      rw [List.drop_eq_nil_of_le (Nat.le_of_eq Array.length_toList)]
      rfl
    · show ((T.heap.toList.drop T.heap.size).map (·.slots.size)).sum ≤ 0
      rw [List.drop_eq_nil_of_le (Nat.le_of_eq Array.length_toList)]
      exact Nat.le_refl _
/-- 'throw new E()': new; dup; invokespecial; athrow -/
theorem vx_throw0 {cc : ByteArray} {pc : Nat} (hexec : p.tables.exec = Jvm.exec) (hb : c.code = cc) (hl : l.stackTraces = false) {own cls : String} {names : List String} {ik ic mc ms : Nat} {A : Nat → Prop}
    (hown : s.vm.findClass own = some m.cls) (hcls : Bundle.fit cls = true) (hnames : ∀ n ∈ names, Bundle.fit n = true)
    (hk : (Cond.classLink own ik cls).before args s = true) (hini : (Cond.initialized cls).before args s = true) (hat : ∀ w ∈ vx_at0 own ic cls names, w.before args s = true)
    (hgood : ∀ w ∈ Cond.classLink own ik cls :: Cond.initialized cls :: vx_at0 own ic cls names, vx_ot w = true)
    (hU : vx_Zq Bundle.tN "UNASSIGNED_STACK" Bundle.steD A s s.heap) (hN : vx_Zq Bundle.tN "SUPPRESSED_SENTINEL" Bundle.listD A s s.heap) (hS : va_S A s.heap H locs) (hsize : ls.size = c.maxLocals)
    (d0 : decode cc pc = .ok (.new ik, 3)) (d3 : decode cc (pc + 3) = .ok (.dup, 1)) (d4 : decode cc (pc + 4) = .ok (.invokespecial ic, 3)) (d7 : decode cc (pc + 7) = .ok (.athrow, 1))
    (hout : ∀ x ∈ c.exceptionTable.toList, covers x (pc + 7) = false)
    (hRframes : names.length + 3 < R.frames) (hRlocals : (rest.map fun v => v.category).sum + (13 * (names.length + 1) + 42) ≤ R.locals) (hRcells : cells + 1 ≤ R.cells) (hRslots : slots + 6 ≤ R.slots) (hlocks : meth.locks = false)
    (hx : ∀ t : State, s.vm.Alike t.vm → H.size ≤ t.heap.size → (∀ q : Nat, q < H.size → t.heap[q]? = H[q]?) → XC cls s t)
    (hf : ∀ z ∈ locs, free z.base) (hc : cells + 1 ≤ mc) (hs : slots + 6 ≤ ms) :
    W p l e R s m args below meth c H locs cells slots (vx_MQ below Qc XC args s mc ms free) (F0 m pc ls rest) := by
  intro T hT X
  have htr : e.platform.stackTraces = false := (show e.platform.stackTraces = l.stackTraces by rw [X.admits.platform]).trans hl
  have Y := vx_rebase X (R' := { frames := R.frames, locals := R.locals, cells := 1, slots := 6 }) (Nat.le_refl _) (Nat.le_refl _) hRcells hRslots
  obtain ⟨s', hA⟩ : ∃ z, z = (T.setVm s.vm).setFrames (.invoking m args :: below) := ⟨_, rfl⟩
  rw [← hA] at Y
  have hvm : s'.vm = s.vm := by rw [hA]; rfl
  have hhp : s'.heap = H := by rw [hA]; exact hT
  have hW0 : s.WarmedH s'.vm := by rw [hvm]; exact State.WarmedH.refl s
  have hat' : ∀ w ∈ vx_at0 own ic cls names, w.before args s' = true := fun w hw => vx_ot_at hW0 hvm.symm (hgood w (List.mem_cons_of_mem _ (List.mem_cons_of_mem _ hw))) (hat w hw)
  have hk' : (Cond.classLink own ik cls).before args s' = true := vx_ot_at hW0 hvm.symm (hgood _ List.mem_cons_self) hk
  have hini' : (Cond.initialized cls).before args s' = true := vx_ot_at hW0 hvm.symm (hgood _ (List.mem_cons_of_mem _ List.mem_cons_self)) hini
  have hU' : vx_Zq Bundle.tN "UNASSIGNED_STACK" Bundle.steD A s' s'.heap := by rw [hhp]; exact vx_Zq.moved hW0.alike (hU.kept hS.2.1)
  have hN' : vx_Zq Bundle.tN "SUPPRESSED_SENTINEL" Bundle.listD A s' s'.heap := by rw [hhp]; exact vx_Zq.moved hW0.alike (hN.kept hS.2.1)
  have h : ∀ w ∈ Bundle.ownAtoms0 own ic cls names, w.before args s' = true := vx_own hat' (vx_isRefq hU'.1) (vx_isRefq hN'.1) hU'.2.word hN'.2.word
  have hown' : s'.vm.findClass own = some m.cls := by rw [hvm]; exact hown
  have hins : (Cond.instantiable cls 6).before args s' = true := h _ (by simp [Bundle.ownAtoms0])
  obtain ⟨vm₁, cX, kX, hfX, hkX, -, -, X₁, st1⟩ := Y.newCold hexec (own := own) (C := cls) (index := ik) (n := 6) hown' hk' hins hini'
    (g := F0 m pc ls rest) rfl (by rw [hb]; exact d0) (Nat.le_refl _) (Nat.le_refl _)
  generalize hT1 : (T.setVm vm₁).pushCell { cls := cX, slots := kX.instanceTypes.map defaultValue, vm := .none } = T1 at X₁ st1
  have hcat : (Value.ref T.heap.size).category = 1 := rfl
  have hcellA : T1.heap[T.heap.size]? = some (freshCell cX kX) := by rw [← hT1]; exact State.heap_pushCell_size _ _
  have d3' : decode c.code (pc + 3) = .ok (.dup, 1) := by rw [hb]; exact d3
  obtain ⟨U, hsteps, hrun, hend, hW, hsame, ce, hce, hO⟩ := X₁.ctorThrow0 hexec htr (own := own) (cls := cls) (names := names) (ic := ic) hown' hcls hnames h (fun x hx => nomatch hx) hfX hkX hcellA (by rw [hhp, hT]; exact Nat.le_refl _)
    (g := { method := m, pc := pc + 4, locals := ls, stack := .ref T.heap.size :: .ref T.heap.size :: rest, locked := none }) rfl hsize rfl rfl (rest := rest) rfl
    (by rw [hb]; exact d4) (by rw [hb]; exact d7) hout hRframes (by simp only [List.map_cons, List.sum_cons, hcat]; omega) hlocks
  obtain ⟨f1, f2⟩ := vx_frame hsame
  rw [hhp] at f1 f2
  have hWs : s.WarmedH U.vm := State.WarmedH.trans hW0 hW
  have hcl : s.vm.findClass cls = some ce.cls := by
    have h9 := hO.cls
    rw [hvm] at h9
    exact h9
  have hall : s.sameButNew ({ U with vm := s.vm } : State) locs mc ms := by
    subst hA
    obtain ⟨e1, e2⟩ := hsame
    rw [State.setFrames_setFrames] at e1
    have h2 : (T.setVm s.vm).sameButNew ({ U with vm := s.vm } : State) [] (0 + 1) (0 + 6) := ⟨e1, e2⟩
    have h3 := X.same.trans h2
    rw [List.append_nil] at h3
    exact h3.mono hc hs
  refine ⟨U, ?_, .threw T.heap.size, hrun, hend, Or.inr ⟨T.heap.size, rfl, cls, ce, locs, hx U hWs.alike f1 (fun q hq => f2 q hq (fun z hz => nomatch hz)), hce, hO.vm, hcl, hWs, hall, hf⟩⟩
  refine st1 _ ?_
  show Steps p.tables e below (T1.setTop { method := m, pc := pc + 3, locals := ls, stack := .ref T.heap.size :: rest, locked := none }) _
  jvm_step X₁.here [X₁.here.top, hexec, d3', Value.category]
  exact hsteps
/-- 'throw new E("text")': new; dup; ldc; invokespecial; athrow -/
theorem vx_throwS {cc : ByteArray} {pc : Nat} (hexec : p.tables.exec = Jvm.exec) (hb : c.code = cc) (hl : l.stackTraces = false) {own cls text : String} {names : List String} {ik is ic mc ms sa : Nat} {A : Nat → Prop}
    (hown : s.vm.findClass own = some m.cls) (hcls : Bundle.fit cls = true) (hnames : ∀ n ∈ names, Bundle.fit n = true)
    (hk : (Cond.classLink own ik cls).before args s = true) (hini : (Cond.initialized cls).before args s = true) (hstr : vk_R own is text sa s) (hat : ∀ w ∈ vx_atS own ic cls names, w.before args s = true)
    (hgood : ∀ w ∈ Cond.classLink own ik cls :: Cond.initialized cls :: vx_atS own ic cls names, vx_ot w = true)
    (hU : vx_Zq Bundle.tN "UNASSIGNED_STACK" Bundle.steD A s s.heap) (hN : vx_Zq Bundle.tN "SUPPRESSED_SENTINEL" Bundle.listD A s s.heap) (hS : va_S A s.heap H locs) (hsize : ls.size = c.maxLocals)
    (d0 : decode cc pc = .ok (.new ik, 3)) (d3 : decode cc (pc + 3) = .ok (.dup, 1)) (d4 : decode cc (pc + 4) = .ok (.ldc is, 2)) (d6 : decode cc (pc + 6) = .ok (.invokespecial ic, 3)) (d9 : decode cc (pc + 9) = .ok (.athrow, 1))
    (hout : ∀ x ∈ c.exceptionTable.toList, covers x (pc + 9) = false)
    (hRframes : names.length + 3 < R.frames) (hRlocals : (rest.map fun v => v.category).sum + (13 * (names.length + 1) + 43) ≤ R.locals) (hRcells : cells + 1 ≤ R.cells) (hRslots : slots + 6 ≤ R.slots) (hlocks : meth.locks = false)
    (hx : ∀ t : State, s.vm.Alike t.vm → H.size ≤ t.heap.size → (∀ q : Nat, q < H.size → t.heap[q]? = H[q]?) → XC cls s t)
    (hf : ∀ z ∈ locs, free z.base) (hc : cells + 1 ≤ mc) (hs : slots + 6 ≤ ms) :
    W p l e R s m args below meth c H locs cells slots (vx_MQ below Qc XC args s mc ms free) (F0 m pc ls rest) := by
  intro T hT X
  have htr : e.platform.stackTraces = false := (show e.platform.stackTraces = l.stackTraces by rw [X.admits.platform]).trans hl
  have Y := vx_rebase X (R' := { frames := R.frames, locals := R.locals, cells := 1, slots := 6 }) (Nat.le_refl _) (Nat.le_refl _) hRcells hRslots
  obtain ⟨s', hA⟩ : ∃ z, z = (T.setVm s.vm).setFrames (.invoking m args :: below) := ⟨_, rfl⟩
  rw [← hA] at Y
  have hvm : s'.vm = s.vm := by rw [hA]; rfl
  have hhp : s'.heap = H := by rw [hA]; exact hT
  have hW0 : s.WarmedH s'.vm := by rw [hvm]; exact State.WarmedH.refl s
  have hat' : ∀ w ∈ vx_atS own ic cls names, w.before args s' = true := fun w hw => vx_ot_at hW0 hvm.symm (hgood w (List.mem_cons_of_mem _ (List.mem_cons_of_mem _ hw))) (hat w hw)
  have hk' : (Cond.classLink own ik cls).before args s' = true := vx_ot_at hW0 hvm.symm (hgood _ List.mem_cons_self) hk
  have hini' : (Cond.initialized cls).before args s' = true := vx_ot_at hW0 hvm.symm (hgood _ (List.mem_cons_of_mem _ List.mem_cons_self)) hini
  have hU' : vx_Zq Bundle.tN "UNASSIGNED_STACK" Bundle.steD A s' s'.heap := by rw [hhp]; exact vx_Zq.moved hW0.alike (hU.kept hS.2.1)
  have hN' : vx_Zq Bundle.tN "SUPPRESSED_SENTINEL" Bundle.listD A s' s'.heap := by rw [hhp]; exact vx_Zq.moved hW0.alike (hN.kept hS.2.1)
  have h : ∀ w ∈ Bundle.ownAtoms own ic cls names, w.before args s' = true := vx_own hat' (vx_isRefq hU'.1) (vx_isRefq hN'.1) hU'.2.word hN'.2.word
  have hown' : s'.vm.findClass own = some m.cls := by rw [hvm]; exact hown
  have hins : (Cond.instantiable cls 6).before args s' = true := h _ (by simp [Bundle.ownAtoms])
  obtain ⟨vm₁, cX, kX, hfX, hkX, -, -, X₁, st1⟩ := Y.newCold hexec (own := own) (C := cls) (index := ik) (n := 6) hown' hk' hins hini'
    (g := F0 m pc ls rest) rfl (by rw [hb]; exact d0) (Nat.le_refl _) (Nat.le_refl _)
  generalize hT1 : (T.setVm vm₁).pushCell { cls := cX, slots := kX.instanceTypes.map defaultValue, vm := .none } = T1 at X₁ st1
  have hcat : (Value.ref T.heap.size).category = 1 := rfl
  have hcellA : T1.heap[T.heap.size]? = some (freshCell cX kX) := by rw [← hT1]; exact State.heap_pushCell_size _ _
  have d3' : decode c.code (pc + 3) = .ok (.dup, 1) := by rw [hb]; exact d3
  have d4' : decode c.code (pc + 4) = .ok (.ldc is, 2) := by rw [hb]; exact d4
  have hstr' : vk_R own is text sa s' := vk_R.warm hW0 hstr
  obtain ⟨U, hsteps, hrun, hend, hW, hsame, ce, hce, hO⟩ := X₁.ctorThrowS hexec htr (own := own) (cls := cls) (names := names) (ic := ic) hown' hcls hnames h (fun x hx => nomatch hx) hfX hkX hcellA (by rw [hhp, hT]; exact Nat.le_refl _) (msg := .ref sa) rfl
    (g := { method := m, pc := pc + 6, locals := ls, stack := .ref sa :: .ref T.heap.size :: .ref T.heap.size :: rest, locked := none }) rfl hsize rfl rfl (rest := rest) rfl
    (by rw [hb]; exact d6) (by rw [hb]; exact d9) hout hRframes (by simp only [List.map_cons, List.sum_cons, hcat]; omega) hlocks
  obtain ⟨f1, f2⟩ := vx_frame hsame
  rw [hhp] at f1 f2
  have hWs : s.WarmedH U.vm := State.WarmedH.trans hW0 hW
  have hcl : s.vm.findClass cls = some ce.cls := by
    have h9 := hO.cls
    rw [hvm] at h9
    exact h9
  have hall : s.sameButNew ({ U with vm := s.vm } : State) locs mc ms := by
    subst hA
    obtain ⟨e1, e2⟩ := hsame
    rw [State.setFrames_setFrames] at e1
    have h2 : (T.setVm s.vm).sameButNew ({ U with vm := s.vm } : State) [] (0 + 1) (0 + 6) := ⟨e1, e2⟩
    have h3 := X.same.trans h2
    rw [List.append_nil] at h3
    exact h3.mono hc hs
  refine ⟨U, ?_, .threw T.heap.size, hrun, hend, Or.inr ⟨T.heap.size, rfl, cls, ce, locs, hx U hWs.alike f1 (fun q hq => f2 q hq (fun z hz => nomatch hz)), hce, hO.vm, hcl, hWs, hall, hf⟩⟩
  refine st1 _ ?_
  show Steps p.tables e below (T1.setTop { method := m, pc := pc + 3, locals := ls, stack := .ref T.heap.size :: rest, locked := none }) _
  jvm_step X₁.here [X₁.here.top, hexec, d3', Value.category]
  exact X₁.ldcString hexec (own := own) (text := text) (index := is) (a := sa) hown' hstr'.1 hstr'.2
    (g := { method := m, pc := pc + 4, locals := ls, stack := .ref T.heap.size :: .ref T.heap.size :: rest, locked := none }) rfl d4' _ hsteps
/-- 'throw new E("text")', the text by a wide index -/
theorem vx_throwSW {cc : ByteArray} {pc : Nat} (hexec : p.tables.exec = Jvm.exec) (hb : c.code = cc) (hl : l.stackTraces = false) {own cls text : String} {names : List String} {ik is ic mc ms sa : Nat} {A : Nat → Prop}
    (hown : s.vm.findClass own = some m.cls) (hcls : Bundle.fit cls = true) (hnames : ∀ n ∈ names, Bundle.fit n = true)
    (hk : (Cond.classLink own ik cls).before args s = true) (hini : (Cond.initialized cls).before args s = true) (hstr : vk_R own is text sa s) (hat : ∀ w ∈ vx_atS own ic cls names, w.before args s = true)
    (hgood : ∀ w ∈ Cond.classLink own ik cls :: Cond.initialized cls :: vx_atS own ic cls names, vx_ot w = true)
    (hU : vx_Zq Bundle.tN "UNASSIGNED_STACK" Bundle.steD A s s.heap) (hN : vx_Zq Bundle.tN "SUPPRESSED_SENTINEL" Bundle.listD A s s.heap) (hS : va_S A s.heap H locs) (hsize : ls.size = c.maxLocals)
    (d0 : decode cc pc = .ok (.new ik, 3)) (d3 : decode cc (pc + 3) = .ok (.dup, 1)) (d4 : decode cc (pc + 4) = .ok (.ldc_w is, 3)) (d7 : decode cc (pc + 7) = .ok (.invokespecial ic, 3)) (d10 : decode cc (pc + 10) = .ok (.athrow, 1))
    (hout : ∀ x ∈ c.exceptionTable.toList, covers x (pc + 10) = false)
    (hRframes : names.length + 3 < R.frames) (hRlocals : (rest.map fun v => v.category).sum + (13 * (names.length + 1) + 43) ≤ R.locals) (hRcells : cells + 1 ≤ R.cells) (hRslots : slots + 6 ≤ R.slots) (hlocks : meth.locks = false)
    (hx : ∀ t : State, s.vm.Alike t.vm → H.size ≤ t.heap.size → (∀ q : Nat, q < H.size → t.heap[q]? = H[q]?) → XC cls s t)
    (hf : ∀ z ∈ locs, free z.base) (hc : cells + 1 ≤ mc) (hs : slots + 6 ≤ ms) :
    W p l e R s m args below meth c H locs cells slots (vx_MQ below Qc XC args s mc ms free) (F0 m pc ls rest) := by
  intro T hT X
  have htr : e.platform.stackTraces = false := (show e.platform.stackTraces = l.stackTraces by rw [X.admits.platform]).trans hl
  have Y := vx_rebase X (R' := { frames := R.frames, locals := R.locals, cells := 1, slots := 6 }) (Nat.le_refl _) (Nat.le_refl _) hRcells hRslots
  obtain ⟨s', hA⟩ : ∃ z, z = (T.setVm s.vm).setFrames (.invoking m args :: below) := ⟨_, rfl⟩
  rw [← hA] at Y
  have hvm : s'.vm = s.vm := by rw [hA]; rfl
  have hhp : s'.heap = H := by rw [hA]; exact hT
  have hW0 : s.WarmedH s'.vm := by rw [hvm]; exact State.WarmedH.refl s
  have hat' : ∀ w ∈ vx_atS own ic cls names, w.before args s' = true := fun w hw => vx_ot_at hW0 hvm.symm (hgood w (List.mem_cons_of_mem _ (List.mem_cons_of_mem _ hw))) (hat w hw)
  have hk' : (Cond.classLink own ik cls).before args s' = true := vx_ot_at hW0 hvm.symm (hgood _ List.mem_cons_self) hk
  have hini' : (Cond.initialized cls).before args s' = true := vx_ot_at hW0 hvm.symm (hgood _ (List.mem_cons_of_mem _ List.mem_cons_self)) hini
  have hU' : vx_Zq Bundle.tN "UNASSIGNED_STACK" Bundle.steD A s' s'.heap := by rw [hhp]; exact vx_Zq.moved hW0.alike (hU.kept hS.2.1)
  have hN' : vx_Zq Bundle.tN "SUPPRESSED_SENTINEL" Bundle.listD A s' s'.heap := by rw [hhp]; exact vx_Zq.moved hW0.alike (hN.kept hS.2.1)
  have h : ∀ w ∈ Bundle.ownAtoms own ic cls names, w.before args s' = true := vx_own hat' (vx_isRefq hU'.1) (vx_isRefq hN'.1) hU'.2.word hN'.2.word
  have hown' : s'.vm.findClass own = some m.cls := by rw [hvm]; exact hown
  have hins : (Cond.instantiable cls 6).before args s' = true := h _ (by simp [Bundle.ownAtoms])
  obtain ⟨vm₁, cX, kX, hfX, hkX, -, -, X₁, st1⟩ := Y.newCold hexec (own := own) (C := cls) (index := ik) (n := 6) hown' hk' hins hini'
    (g := F0 m pc ls rest) rfl (by rw [hb]; exact d0) (Nat.le_refl _) (Nat.le_refl _)
  generalize hT1 : (T.setVm vm₁).pushCell { cls := cX, slots := kX.instanceTypes.map defaultValue, vm := .none } = T1 at X₁ st1
  have hcat : (Value.ref T.heap.size).category = 1 := rfl
  have hcellA : T1.heap[T.heap.size]? = some (freshCell cX kX) := by rw [← hT1]; exact State.heap_pushCell_size _ _
  have d3' : decode c.code (pc + 3) = .ok (.dup, 1) := by rw [hb]; exact d3
  have d4' : decode c.code (pc + 4) = .ok (.ldc_w is, 3) := by rw [hb]; exact d4
  have hstr' : vk_R own is text sa s' := vk_R.warm hW0 hstr
  obtain ⟨U, hsteps, hrun, hend, hW, hsame, ce, hce, hO⟩ := X₁.ctorThrowS hexec htr (own := own) (cls := cls) (names := names) (ic := ic) hown' hcls hnames h (fun x hx => nomatch hx) hfX hkX hcellA (by rw [hhp, hT]; exact Nat.le_refl _) (msg := .ref sa) rfl
    (g := { method := m, pc := pc + 7, locals := ls, stack := .ref sa :: .ref T.heap.size :: .ref T.heap.size :: rest, locked := none }) rfl hsize rfl rfl (rest := rest) rfl
    (by rw [hb]; exact d7) (by rw [hb]; exact d10) hout hRframes (by simp only [List.map_cons, List.sum_cons, hcat]; omega) hlocks
  obtain ⟨f1, f2⟩ := vx_frame hsame
  rw [hhp] at f1 f2
  have hWs : s.WarmedH U.vm := State.WarmedH.trans hW0 hW
  have hcl : s.vm.findClass cls = some ce.cls := by
    have h9 := hO.cls
    rw [hvm] at h9
    exact h9
  have hall : s.sameButNew ({ U with vm := s.vm } : State) locs mc ms := by
    subst hA
    obtain ⟨e1, e2⟩ := hsame
    rw [State.setFrames_setFrames] at e1
    have h2 : (T.setVm s.vm).sameButNew ({ U with vm := s.vm } : State) [] (0 + 1) (0 + 6) := ⟨e1, e2⟩
    have h3 := X.same.trans h2
    rw [List.append_nil] at h3
    exact h3.mono hc hs
  refine ⟨U, ?_, .threw T.heap.size, hrun, hend, Or.inr ⟨T.heap.size, rfl, cls, ce, locs, hx U hWs.alike f1 (fun q hq => f2 q hq (fun z hz => nomatch hz)), hce, hO.vm, hcl, hWs, hall, hf⟩⟩
  refine st1 _ ?_
  show Steps p.tables e below (T1.setTop { method := m, pc := pc + 3, locals := ls, stack := .ref T.heap.size :: rest, locked := none }) _
  jvm_step X₁.here [X₁.here.top, hexec, d3', Value.category]
  exact X₁.ldcStringW hexec (own := own) (text := text) (index := is) (a := sa) hown' hstr'.1 hstr'.2
    (g := { method := m, pc := pc + 4, locals := ls, stack := .ref T.heap.size :: .ref T.heap.size :: rest, locked := none }) rfl d4' _ hsteps
end Ends
section Bodies
variable {l : Launch}
theorem vx_ofW {y : MethodName} {ws ws' : List Cond} {rm : Room} {Pc : Array Value → State → Prop} {Qc : Array Value → State → Outcome → State → Prop} {XC : String → State → State → Prop} {mc ms : Nat} {free : Addr → Prop} {cc : ByteArray} {maxL : Nat} {ret : Option FieldType}
    (hy : plainName y.cls = true) (hw : ws = Cond.code y cc maxL ret :: ws')
    (body : ∀ p e s m args below meth c s₁, BodyLoose p l y (headSpec ws rm) cc maxL ret e s m args below meth c s₁ → c.maxLocals = maxL → (∀ x ∈ c.exceptionTable.toList, False) → Pc args s →
      W p l e (headSpec ws rm).room s m args below meth c s.heap [] 0 0 (vx_MQ below Qc XC args s mc ms free) (entryFrame m args maxL)) : vx_Met l y ws rm Pc Qc XC mc ms free := by
  refine MetFree.of_bodyS (code := cc) (maxLocals := maxL) (ret := ret) hy ?_ ?_
  · intro args s m h hn
    obtain ⟨meth, c, h1, h2, h3, h4, h5, h6, -, -⟩ := Cond.code_spec hn (atoms_spec (ws := ws) h _ (by rw [hw]; exact List.mem_cons_self))
    exact ⟨meth, c, h1, h2, h3, h4, h5, h6⟩
  · intro p e s m args below meth c s₁ B hml hP _
    have hh0 : s₁.heap = s.heap := by rw [B.state]; rfl
    have ht : ∀ x ∈ c.exceptionTable.toList, False := by
      obtain ⟨meth9, c9, h1, h2, -, -, -, -, h7, -⟩ := Cond.code_spec B.named (atoms_spec (ws := ws) B.pre _ (by rw [hw]; exact List.mem_cons_self))
      cases Option.some.inj (h1.symm.trans B.method)
      cases Option.some.inj (h2.symm.trans (Stand.of_body B).code)
      intro x hx
      rw [Array.isEmpty_iff.mp h7] at hx
      cases hx
    obtain ⟨t, a1, o, b1, b2, b3⟩ := body p e s m args below meth c s₁ B hml ht hP s₁ hh0 (Stand.of_body B)
    exact ⟨t, o, a1, b1, b2, b3⟩
/-- the table of a body with handlers -/
theorem vx_table {p : Program} {x y : MethodName} {S : Spec} {cc bytes : ByteArray} {maxL maxL' : Nat} {ret ret' : Option FieldType} {e : Env} {s s₁ : State} {m : MethodId} {args : Array Value} {below : List Frame} {meth : Method} {c : Code} {hh : List (Nat × Nat × Nat × Nat)}
    (B : BodyLoose p l y S cc maxL ret e s m args below meth c s₁) (h : (Cond.codeWith y bytes maxL' ret' hh).before args s = true) : c.exceptionTable.toList = tableOf hh := by
  obtain ⟨m9, meth9, c9, hn9, h1, h2, -, -, h6, -⟩ := Cond.codeWith_spec h
  cases Option.some.inj (hn9.symm.trans B.named)
  cases Option.some.inj (h1.symm.trans B.method)
  cases Option.some.inj (h2.symm.trans (Stand.of_body B).code)
  rw [← h6, table_eq]
end Bodies
end VXA
/-! ===== END ===== -/
/-! ===== BEGIN a static call of a method with an exception table ===== -/
section VXS
variable {p : Program} {l : Launch} {e : Env} {R : Room} {s : State} {m : MethodId} {args : Array Value} {below : List Frame} {meth : Method} {c : Code} {T : State} {H : Heap} {locs : List Loc} {cells slots : Nat}
abbrev vx_CSW (R : Room) (s : State) (args : Array Value) (own : String) (index : Nat) (y : MethodName) (bytes : ByteArray) (maxL : Nat) (ret : Option FieldType) (hh : List (Nat × Nat × Nat × Nat)) (ws : List Cond) (rm : Room) (mc ms n : Nat) : Prop :=
  (rm.cells = mc ∧ rm.slots = ms ∧ rm.frames + 1 ≤ R.frames ∧ 8 + (maxL + 11) + rm.locals ≤ R.locals ∧ (∀ w ∈ ws, ∀ (a' : Array Value) (U : State), s.WarmedH U.vm → w.before a' U = true) ∧ Cond.codeWith y bytes maxL ret hh ∈ ws) ∧
  (Cond.codeWith y bytes maxL ret hh).before args s = true ∧ (Cond.initialized y.cls).before args s = true ∧ (y.cls ≠ "java/lang/invoke/MethodHandle" ∧ y.cls ≠ "java/lang/invoke/VarHandle") ∧
  (∀ sig, parseMethodDescriptor y.desc = some sig → n = sig.parameters.length) ∧ (Cond.methodLink own index y).before args s = true ∧ (Cond.static y).before args s = true
theorem vx_cwSW {own : String} {index maxL mc ms : Nat} {y : MethodName} {bytes : ByteArray} {ret : Option FieldType} {hh : List (Nat × Nat × Nat × Nat)} {Ts ws ws' : List Cond} {rm : Room} (n : Nat) (ht : ∀ w ∈ Ts, w.before args s = true) (hT : GoodIn Ts (va_wsS own index y ws)) (hw : ws = Cond.codeWith y bytes maxL ret hh :: ws') (hrc : rm.cells = mc) (hrs : rm.slots = ms)
    (hd : y.cls ≠ "java/lang/invoke/MethodHandle" ∧ y.cls ≠ "java/lang/invoke/VarHandle" ∧ (parseMethodDescriptor y.desc).map (fun d => d.parameters.length) = some n) (hR : rm.frames + 1 ≤ R.frames ∧ 8 + (maxL + 11) + rm.locals ≤ R.locals) :
    vx_CSW R s args own index y bytes maxL ret hh ws rm mc ms n := by
  have ok : ∀ w ∈ va_wsS own index y ws, w.before args s = true := fun w h => ht w (hT w h).1
  have hG : GoodIn Ts ws := fun w h => hT w (by unfold va_wsS; exact List.mem_append_right _ h)
  have hc : Cond.codeWith y bytes maxL ret hh ∈ ws := by rw [hw]; exact List.mem_cons_self
  refine ⟨⟨hrc, hrs, hR.1, hR.2, pay_in ht hG, hc⟩, ht _ (hG _ hc).1, ok _ (by simp [va_wsS]), ⟨hd.1, hd.2.1⟩, fun sig h => ?_, ok _ (by simp [va_wsS]), ok _ (by simp [va_wsS])⟩
  have h2 := hd.2.2
  rw [h] at h2
  exact (Option.some.inj h2).symm
theorem vx_callSW (X : Stand p l e R s m args below meth c T locs cells slots) (hexec : p.tables.exec = Jvm.exec) {own : String} {index : Nat} {y : MethodName} {bytes : ByteArray} {maxL : Nat} {ret : Option FieldType} {hh : List (Nat × Nat × Nat × Nat)}
    (hown : s.vm.findClass own = some m.cls) (hlink : (Cond.methodLink own index y).before args s = true) (hstat : (Cond.static y).before args s = true) (hinit : (Cond.initialized y.cls).before args s = true)
    (hcode : (Cond.codeWith y bytes maxL ret hh).before args s = true) (hy : y.cls ≠ "java/lang/invoke/MethodHandle" ∧ y.cls ≠ "java/lang/invoke/VarHandle")
    {W9 : Nat} {Pre : Pt → Array Value → Prop} {Post : Pt → Array Value → Option Value → Pt → Prop} (hK : Back l R p e below s args y 3 W9 Pre Post)
    {g : JFrame} (hg : g.method = m) (hsize : g.locals.size = c.maxLocals) {argsL rest : List Value} (hlen : ∀ sig, parseMethodDescriptor y.desc = some sig → argsL.length = sig.parameters.length)
    (hstack : g.stack = argsL.reverse ++ rest) (hW : 2 * g.monitorRoom + (rest.map fun v => v.category).sum ≤ W9) (hdg : decode c.code g.pc = .ok (.invokestatic index, 3))
    (hpre : ∀ vm₁, s.WarmedH vm₁ → Pre ⟨T.setVm vm₁, locs, cells, slots⟩ argsL.toArray) :
    ∃ (v : Option Value) (vm₁ : Vm) (B : Pt), s.WarmedH vm₁ ∧ Stand p l e R s m args below meth c B.U B.locs B.cells B.slots ∧ Post ⟨T.setVm vm₁, locs, cells, slots⟩ argsL.toArray v B ∧
      ∀ target, Steps p.tables e below (B.U.setTop { g with pc := g.pc + 3, stack := v.toList ++ rest }) target → Steps p.tables e below (T.setTop g) target := by
  obtain ⟨mk, methM, cM, hnamed, hmethM, -, -, -, -, -, -, hsigM⟩ := Cond.codeWith_spec hcode
  have hstatic : methM.isStatic = true := Cond.static_spec hnamed hmethM hstat
  obtain ⟨kP, hkP, -⟩ := className_of_methodNamed hnamed
  have hinitP : kP.init = .initialized := Cond.initialized_spec (findClass_of_methodNamed hnamed) hkP hinit
  obtain ⟨vm₁, X₁, hstep₁⟩ := X.invokestatic hexec hown hlink hnamed hmethM hstatic hkP hinitP hy (g := g) hg (argsL := argsL) (rest := rest) (hlen _ hsigM) hstack hdg
  obtain ⟨v, B, X', hpost, hsteps⟩ := hK m meth c ⟨T.setVm vm₁, locs, cells, slots⟩ { g with stack := rest } (.invokestatic index) mk argsL.toArray X₁ hg hsize hdg hW (X₁.named hnamed) (hpre vm₁ X₁.warmed)
  exact ⟨v, vm₁, B, X₁.warmed, X', hpost, fun target h => hstep₁ _ fun acts => by rw [doInvoke_state]; exact hsteps.trans h⟩
theorem vx_runSW {y : MethodName} {bytes cc : ByteArray} {maxL nL mc ms n index : Nat} {ret : Option FieldType} {hh : List (Nat × Nat × Nat × Nat)} {ws : List Cond} {rm : Room} {Pc : Array Value → State → Prop} {Qc : Array Value → State → Outcome → State → Prop} {free : Addr → Prop} {Ts : List Cond} {own : String} {As rest : List Value} {g : JFrame}
    (S : CallFix p m c cc nL s args Ts own) (hM : Met l y ws rm Pc Qc mc ms free) (cw : vx_CSW R s args own index y bytes maxL ret hh ws rm mc ms n) (hp : PreS s H Pc As)
    (hg : g.method = m) (hn : As.length = n) (hsize : g.locals.size = nL) (hstack : g.stack = As.reverse ++ rest) (hW : 2 * g.monitorRoom + (rest.map fun v => v.category).sum ≤ 8) (hdg : decode cc g.pc = .ok (.invokestatic index, 3)) (hf : cells + mc ≤ R.cells ∧ slots + ms ≤ R.slots) :
    va_Run p l e R s m args below meth c H locs cells slots mc ms g rest (Qc As.toArray) (free) := by
  obtain ⟨⟨hrc, hrs, hfr, hlo, hws, hcw⟩, hcode, hini, hy, hlen, hl, hstt⟩ := cw
  have hK : Back l R p e below s args y 3 8 (PreOf R mc ms Pc) (PostOf Qc mc ms free) := va_backW (hh := hh) (bytes := bytes) (maxL := maxL) (ret := ret) hM hp.1 hrc hrs hfr hlo hws hcw (fun a' U hW => word_at hW (Or.inl (by first | rfl | simp [Cond.onTables, Cond.keeps, Cond.steady])) hini)
  obtain ⟨hx, hb, hml, ho, -⟩ := S
  intro T hT X
  obtain ⟨v, vm₁, ⟨U', l2, c2, s2⟩, hW₁, X', ⟨g', mk, t, L, e1, e2, hq, h1, hL, h2, h3⟩, st⟩ := vx_callSW X hx (hh := hh) (bytes := bytes) (maxL := maxL) (ret := ret) ho hl hstt hini hcode hy hK hg (hsize.trans hml.symm) (argsL := As) (rest := rest) (fun sig h => hn.trans (hlen sig h)) hstack hW (by rw [hb]; exact hdg)
    (fun vm₁ hW₁ => ⟨hf.1, hf.2, hp.2 (T.setVm vm₁) hT hW₁⟩)
  dsimp only [Pt.U, Pt.locs, Pt.cells, Pt.slots] at X' e1 e2 h1 h2 h3 st
  subst h1; subst h2; subst h3
  exact ⟨v, (T.setVm vm₁).calling g' mk As.toArray, t, U', L, hT, X', hL, e1, e2, hq, st⟩
/-- not caught here, past rows that name other classes: it goes on to the caller -/
theorem vx_outP {p : Program} {l : Launch} {e : Env} {R : Room} {s : State} {m : MethodId} {args : Array Value} {below : List Frame} {meth : Method} {c : Code} {H : Heap} {locs : List Loc} {cells slots : Nat} {free : Addr → Prop} {ls : Array Slot} {rest : List Value} {Qc : Array Value → State → Outcome → State → Prop} {XC : String → State → State → Prop}
    {pc : Nat} {own E : String} {ce : Cell} {q : Addr} {mc ms : Nat} (hown : s.vm.findClass own = some m.cls) (hlocks : meth.locks = false)
    (hpass : ∀ z ∈ c.exceptionTable.toList, covers z pc = false ∨ (z.catchType ≠ 0 ∧ ∃ nm : String, (Cond.classLink own z.catchType nm).before args s = true ∧ va_Nc E nm s)) (hcell : H[q]? = some ce) (hv : ce.vm = .none) (hcl : s.vm.findClass E = some ce.cls)
    (hx : ∀ t : State, t.heap = H → s.vm.Alike t.vm → XC E s t) (hf : ∀ z ∈ locs, free z.base) (hc : cells ≤ mc) (hs : slots ≤ ms) :
    vx_W p l e R s m args below meth c H locs cells slots (vx_MQ below Qc XC args s mc ms free) (F0 m pc ls rest) q := by
  intro T hT X
  have hpl : e.platform.magicAccessors = ({} : Platform).magicAccessors := by rw [X.admits.platform]
  obtain ⟨vm', hW', X', st⟩ := X.outThrough hlocks q (g := F0 m pc ls rest) rfl rfl rfl (cell := ce) (by rw [hT]; exact hcell) (by rw [hv]; rfl)
    (by obtain ⟨k9, h9, -⟩ := Vm.findClass_spec hcl; exact ⟨k9, h9⟩) (fun z hz => by
      rcases hpass z hz with h | ⟨hz0, nm, hl1, hn1⟩
      · exact Or.inl h
      · obtain ⟨c6, hc6, hcl6⟩ := Cond.classLink_spec hown hl1 e.platform hpl
        obtain ⟨a8, b8, h1, h2, h3⟩ := hn1
        cases Option.some.inj (h1.symm.trans hcl)
        cases Option.some.inj (h2.symm.trans hc6)
        exact Or.inr ⟨hz0, _, hcl6, h3⟩)
  obtain ⟨g₀, hfr⟩ := X'.frames_eq
  have hcell9 : ((T.setVm vm').setFrames (.throwing q :: below)).heap[q]? = some ce := by
    show T.heap[q]? = some ce
    rw [hT]; exact hcell
  have hend : Ended ((T.setVm vm').setFrames (.throwing q :: below)) below (.threw q) := State.frames_setFrames _ (State.cur_lt_of_frames hfr)
  refine ⟨(T.setVm vm').setFrames (.throwing q :: below), ?_, .threw q, X'.here.running, hend, Or.inr ⟨q, rfl, E, ce, locs, hx _ hT (X'.ends _).1.alike, hcell9, hv, hcl, (X'.ends _).1, (X'.ends _).2.mono hc hs, hf⟩⟩
  rw [X.pushThrowing_eq]
  exact st
/-- a thing of a world lies in the heap -/
theorem vx_lt {D : va_G} {cl : List vw_C} {ws : va_W} {H1 : Heap} (h : va_P D cl ws H1) {k : Nat} {q : Nat × va_E} (hk : ws[k]? = some q) : q.1 < H1.size := (h k q hk).lt
end VXS
/-! ===== END ===== -/
/-! ===== 'throw new E(text)' where E's constructor calls its super by another index (no traces kept) ===== -/
section CTX
/-! follows the library's proof of ctorThrowS (BundleOwnThrow.lean), with Bundle.chainSX (Shelf42/F29a.lean) for the chain -/
variable {p : Program} {l : Launch} {e : Env} {R : Room} {s : State} {m₀ : MethodId} {args : Array Value} {below : List Frame} {meth : Method} {c : Code} {W : State} {locs : List Loc} {cells slots : Nat}
set_option maxHeartbeats 1000000 in
theorem Stand.ctorThrowSX (X : Stand p l e R s m₀ args below meth c W locs cells slots) (hexec : p.tables.exec = Jvm.exec) (htr : e.platform.stackTraces = false) {own cls : String} {names : List String} {ic ix : Nat} {rx : ByteArray} (x0 : decode rx 0 = .ok (.aload_n 0, 1)) (x1 : decode rx 1 = .ok (.aload_n 1, 1)) (x2 : decode rx 2 = .ok (.invokespecial ix, 3)) (x5 : decode rx 5 = .ok (.return_, 1))
    (hown : s.vm.findClass own = some m₀.cls) (hcls : Bundle.fit cls = true) (hnames : ∀ n ∈ names, Bundle.fit n = true)
    (h : ∀ a ∈ Bundle.ownAtomsX own ic cls ix rx names, a.before args s = true)
    (hlocs : ∀ x ∈ locs, ∀ cell, s.heap[x.base]? = some cell → cell.vm.isStatics = false)
    {a : Addr} {cX : ClassId} {kX : Class} (hfoundX : s.vm.findClass cls = some cX) (hkX : s.vm.classes[cX]? = some kX) (hcell : W.heap[a]? = some (freshCell cX kX)) (hnew : s.heap.size ≤ a)
    {msg : Value} (hmsg : msg.isRef = true)
    {g : JFrame} (hg : g.method = m₀) (hsize : g.locals.size = c.maxLocals) (hlocked : g.locked = none) (hentered : g.entered = []) {rest : List Value} (hstack : g.stack = msg :: .ref a :: .ref a :: rest)
    (hd6 : decode c.code g.pc = .ok (.invokespecial ic, 3)) (hd9 : decode c.code (g.pc + 3) = .ok (.athrow, 1)) (hout : ∀ x ∈ c.exceptionTable.toList, covers x (g.pc + 3) = false)
    (hRframes : names.length + 3 < R.frames) (hRlocals : 2 * g.monitorRoom + ((Value.ref a :: rest).map fun v => v.category).sum + (13 * (names.length + 1) + 42) ≤ R.locals) (hlocks : meth.locks = false := by first | assumption | exact BodyLoose.notSynchronized (by assumption) | exact Body.notSynchronized (by assumption)) :
    ∃ U : State, Steps p.tables e below (W.setTop g) U ∧ U.status = .running ∧ Ended U below (.threw a) ∧ s.WarmedH U.vm ∧ s.sameButNew ({ U with vm := s.vm } : State) locs cells slots ∧
      ∃ ce, U.heap[a]? = some ce ∧ Bundle.OwnCell args s cls a msg ce := by
  have howns : e.platform.frameOwnsMonitors = true := by rw [X.admits.platform]
  have hfin : e.platform.finalization = false := by rw [X.admits.platform]
  have hpl : e.platform.magicAccessors = ({} : Platform).magicAccessors := by rw [X.admits.platform]
  have a' : ∀ x, x ∈ Bundle.ownAtomsX own ic cls ix rx names → x.holds args s none s [] = true := fun x hx => h x hx
  obtain ⟨T, Z0, L, -, Y⟩ := ThrowableC.of_atoms (args := args) howns hfin hpl (fun x hx => h x (by simp [Bundle.ownAtomsX, hx]))
  obtain ⟨Z, M, LZ, LM, hnZ⟩ := Init0T.ofS_atoms (args := args) hpl L Y (fun x hx => h x (by simp [Bundle.ownAtomsX, hx]))
  obtain ⟨P1, Ps, hlen, L1, hL, hP1m, hlink1, hlink⟩ := Bundle.chainSX (args := args) hpl hnZ x0 x1 x2 x5 names cls hcls hnames (fun x hx => h x (by simp [Bundle.ownAtomsX, hx]))
  have hfound : s.vm.findClass cls = some P1.m.cls := findClass_of_methodNamed hP1m
  cases Option.some.inj (hfoundX.symm.trans hfound)
  obtain ⟨c1, kX', hc1, hk, hord, -, -, hn6⟩ := Cond.instantiable_spec (a' (.instantiable cls 6) (by simp [Bundle.ownAtomsX]))
  cases Option.some.inj (hc1.symm.trans hfound)
  cases Option.some.inj (hkX.symm.trans hk)
  have hsel0 : selectMethod e.platform s.vm P1.m.cls T.fill0 = .method T.fill0 := by
    obtain ⟨c2, r2, m2, q1, q2, q3, q4, -⟩ := Cond.selects_spec (a' (.selects cls Bundle.tFill0 Bundle.tFill0) (by simp [Bundle.ownAtomsX]))
    cases Option.some.inj (q1.symm.trans hfound)
    cases Option.some.inj (q2.symm.trans (State.methodFound?_of_named Y.fill0 (by decide)))
    cases Option.some.inj (q3.symm.trans Y.fill0)
    rw [Launch.admits_selectMethod X.admits]; exact q4
  have hselF : selectMethod e.platform s.vm P1.m.cls T.fill = .method T.fill := by
    obtain ⟨c2, r2, m2, q1, q2, q3, q4, -⟩ := Cond.selects_spec (a' (.selects cls Bundle.tFill Bundle.tFill) (by simp [Bundle.ownAtomsX]))
    cases Option.some.inj (q1.symm.trans hfound)
    cases Option.some.inj (q2.symm.trans (State.methodFound?_of_named Y.fill (by decide)))
    cases Option.some.inj (q3.symm.trans Y.fill)
    rw [Launch.admits_selectMethod X.admits]; exact q4
  obtain ⟨cellS0, hcS0, hiss⟩ := Y.statics
  obtain ⟨u0, hu0⟩ := Cond.staticRefV Y.unassigned L.unassignedStatic L.statics hcS0 hiss (a' (.isRef (.static Bundle.tN "UNASSIGNED_STACK" Bundle.steD)) (by simp [Bundle.ownAtomsX]))
  obtain ⟨sen, hsen⟩ := Cond.staticRefV Y.sentinel L.sentinelStatic L.statics hcS0 hiss (a' (.isRef (.static Bundle.tN "SUPPRESSED_SENTINEL" Bundle.listD)) (by simp [Bundle.ownAtomsX]))
  obtain ⟨ci198, i198, fB, hk198, hg198, ha198, hsB, -, hnB, htB, hffB⟩ := Cond.ownField (t := .object "java/lang/Object") Y.found L.cls (by decide +kernel) (a' (.fieldLink Bundle.tN 198 Bundle.tN "backtrace" "Ljava/lang/Object;") (by simp [Bundle.ownAtomsX])) (a' (.lays Bundle.tN Bundle.tN "backtrace" "Ljava/lang/Object;") (by simp [Bundle.ownAtomsX])) e.platform hpl
  obtain ⟨cellS, hcS', heS, -, hkeep⟩ := X.same.2.2.2.2.2 T.aS cellS0 hcS0
  have hcellS : W.heap[T.aS]? = some cellS := hcS'
  have hout' : ∀ i, (⟨T.aS, i⟩ : Loc) ∉ locs := fun i hmem => by
    have := hlocs _ hmem cellS0 hcS0
    rw [hiss] at this; cases this
  have hknownS : cellS.vm ≠ .unknown := by
    rw [heS]; intro hu
    rw [show cellS0.vm = .unknown from hu] at hiss
    cases hiss
  have hneS : T.aS ≠ a := Nat.ne_of_lt (Nat.lt_of_lt_of_le (Array.getElem?_eq_some_iff.mp hcS0).1 hnew)
  obtain ⟨iM, hffM⟩ := Y.msg
  obtain ⟨tyC, dC, hdC, hdnC⟩ := Cond.laysAt hfound hk Y.cause (a' (.lays cls Bundle.tN "cause" "Ljava/lang/Throwable;") (by simp [Bundle.ownAtomsX]))
  obtain ⟨tyS, dS, hdS, hdnS⟩ := Cond.laysAt hfound hk Y.stack (a' (.lays cls Bundle.tN "stackTrace" Bundle.steD) (by simp [Bundle.ownAtomsX]))
  obtain ⟨tyP, dP, hdP, hdnP⟩ := Cond.laysAt hfound hk Y.supp (a' (.lays cls Bundle.tN "suppressedExceptions" Bundle.listD) (by simp [Bundle.ownAtomsX]))
  obtain ⟨tyM, dM, hdM, hdnM⟩ := Cond.laysAt hfound hk hffM (a' (.lays cls Bundle.tN "detailMessage" "Ljava/lang/String;") (by simp [Bundle.ownAtomsX]))
  obtain ⟨tyB, dB, hdB, hdnB⟩ := Cond.laysAt hfound hk hffB (a' (.lays cls Bundle.tN "backtrace" "Ljava/lang/Object;") (by simp [Bundle.ownAtomsX]))
  have bC := Cond.laysApart hdB hdC hdnB hdnC (by rw [hnB, Y.causeName]; decide)
  have bS := Cond.laysApart hdB hdS hdnB hdnS (by rw [hnB, Y.stackName]; decide)
  have bP := Cond.laysApart hdB hdP hdnB hdnP (by rw [hnB, Y.suppName]; decide)
  have hskip : SkipFacts T e.platform s (fun u => u) u0 ((preparedCellV T.toThrowableT (freshCell P1.m.cls kX) a u0 sen).withEntry W.cur) :=
    ⟨{ ci198 := ci198, i198 := i198, fBack := fB }, ⟨hk198, hg198, ha198, hsB⟩, by
      have := fresh_default (c := P1.m.cls) tyB
      rw [htB] at this
      simpa [preparedCellV, Cell.setSlot, Cell.withEntry, Array.getElem?_setIfInBounds, bC, bS, bP, bC.symm, bS.symm, bP.symm, defaultValue] using this, fun _ _ => rfl⟩
  obtain ⟨tm, methC, cdC, kC, vm₁, hnC, -, -, -, -, -, -, -, hW₁, st1⟩ := Steps.initColdS (tb := p.tables) (e := e) (below := below) (s := s) (U := W) X.here hexec X.warmed hpl hown (t := Bundle.initS cls) rfl rfl (Bundle.fit_spec hcls).2
    (a' (.methodLink own ic (Bundle.initS cls)) (by simp [Bundle.ownAtomsX])) (h (.instanceMethod (Bundle.initS cls)) (by cases names <;> simp [Bundle.ownAtomsX, Bundle.chainSAtomsX, Bundle.passSAtoms])) (bytes := rx) (maxL := 2) (h (.code (Bundle.initS cls) rx 2 none) (by cases names <;> simp [Bundle.ownAtomsX, Bundle.chainSAtomsX, Bundle.passSAtoms]))
    (f := g) hg (a := a) (msg := msg) (rest := .ref a :: rest) hstack hd6
  cases Option.some.inj (hnC.symm.trans hP1m)
  have X₁ := X.noted hW₁
  obtain ⟨vm₂, X₂, st2⟩ := X₁.ctorMessageOffV hexec (g := { g with stack := .ref a :: rest }) hg hsize T L Z LZ M LM (P1 :: Ps)
    (fun P hP => by rcases List.mem_cons.mp hP with rfl | hP; exact L1; exact hL P hP) ⟨hlink1, hlink⟩ (u0 := u0) (sen := sen) (self := a) hmsg (cell := freshCell P1.m.cls kX) (cellS := cellS)
    hcell (fun _ => by simp) (by simp) rfl rfl hsel0 hselF hcellS hneS hknownS (by rw [hkeep _ (hout' _)]; exact hu0) (by rw [hkeep _ (hout' _)]; exact hsen)
    (Takes.of_laid hk hord tyC (by rw [Y.causeType]; rfl)) (Takes.of_laid hk hord tyS (by rw [Y.stackType]; exact fits_refV_array _ u0)) (Takes.of_laid hk hord tyP (by rw [Y.suppType]; exact fits_refV_object _ sen))
    (Takes.of_laid hk hord tyM (by rw [Y.msgType]; exact fits_refV_object _ ⟨msg, hmsg⟩)) Y.objLocals hskip htr [] hd6
    (by simp only [List.length_cons, hlen]; omega) (by simp only [List.length_cons, hlen]; exact hRlocals)
  obtain ⟨hwalk, hrun, hended, hWU, hsame⟩ := X₂.athrowLeaves hexec (g := { g with stack := .ref a :: rest, pc := g.pc + 3 }) hg hlocked hentered hout (a := a) (rest := rest) rfl hd9
  obtain ⟨c3, c4, hc3, hc4, hasg⟩ := Cond.castable_spec (a' (.castable cls cls) (by simp [Bundle.ownAtomsX]))
  cases Option.some.inj (hc3.symm.trans hfound)
  cases Option.some.inj (hc4.symm.trans hfound)
  have hlt : a < ((W.setVm vm₁).setVm vm₂).heap.size := (Array.getElem?_eq_some_iff.mp hcell).1
  have hU := heapAt_setCell_self (s := (W.setVm vm₁).setVm vm₂) (plainBareV T.toThrowableT (freshCell P1.m.cls kX) a u0 sen msg) hlt
  have hnM : T.fMsg.name = "detailMessage" := (State.fieldFound?_type hffM (t := .object "java/lang/String") (by decide +kernel)).1
  have nCS := Cond.laysApart hdC hdS hdnC hdnS (by rw [Y.causeName, Y.stackName]; decide)
  have nCP := Cond.laysApart hdC hdP hdnC hdnP (by rw [Y.causeName, Y.suppName]; decide)
  have nCM := Cond.laysApart hdC hdM hdnC hdnM (by rw [Y.causeName, hnM]; decide)
  have nSP := Cond.laysApart hdS hdP hdnS hdnP (by rw [Y.stackName, Y.suppName]; decide)
  have nSM := Cond.laysApart hdS hdM hdnS hdnM (by rw [Y.stackName, hnM]; decide)
  have nPM := Cond.laysApart hdP hdM hdnP hdnM (by rw [Y.suppName, hnM]; decide)
  have lC : T.fCause.slot < kX.instanceTypes.size := (Array.getElem?_eq_some_iff.mp tyC).1
  have lS : T.fStack.slot < kX.instanceTypes.size := (Array.getElem?_eq_some_iff.mp tyS).1
  have lP : T.fSupp.slot < kX.instanceTypes.size := (Array.getElem?_eq_some_iff.mp tyP).1
  have lM : T.fMsg.slot < kX.instanceTypes.size := (Array.getElem?_eq_some_iff.mp tyM).1
  have evU : ∀ o, (Term.static Bundle.tN "UNASSIGNED_STACK" Bundle.steD).eval args s o [] s = some u0.v := by
    intro o
    simp [Term.eval, State.fieldNamed?, Y.unassigned, L.unassignedStatic, L.statics, hcS0, hiss, hu0]
  have evS : ∀ o, (Term.static Bundle.tN "SUPPRESSED_SENTINEL" Bundle.listD).eval args s o [] s = some sen.v := by
    intro o
    simp [Term.eval, State.fieldNamed?, Y.sentinel, L.sentinelStatic, L.statics, hcS0, hiss, hsen]
  refine ⟨_, st1 _ (fun acts => ?_), hrun, hended, hWU, hsame.weaken (fun y hy hlt' => ?_) (Nat.le_refl _) (Nat.le_refl _), _, hU, ?_⟩
  · rw [doInvoke_state]
    exact st2 _ hwalk
  · rcases List.mem_append.mp hy with h1 | h1
    · exact h1
    · exfalso
      have hb : y.base = a := by
        simp only [List.mem_cons, List.not_mem_nil, or_false] at h1
        rcases h1 with rfl | rfl | rfl | rfl | rfl <;> rfl
      rw [hb] at hlt'
      exact Nat.not_lt.mpr hnew hlt'
  · exact { cls := hfound, self := hasg, monitor := rfl, hash := rfl, vm := rfl, size := by simp [plainBareV, preparedCellV, Cell.setSlot, hn6]
            cause := ⟨_, _, _, _, Y.cause, by simp [plainBareV, preparedCellV, Cell.setSlot, nCS.symm, nCP.symm, nCM.symm, lC]⟩
            stack := ⟨_, _, _, _, u0, Y.stack, by simp [plainBareV, preparedCellV, Cell.setSlot, nSM.symm, lS], evU⟩
            supp := ⟨_, _, _, _, sen, Y.supp, by simp [plainBareV, preparedCellV, Cell.setSlot, nSP, nPM.symm, lP], evS⟩
            msg := ⟨_, _, _, _, hffM, by simp [plainBareV, preparedCellV, Cell.setSlot, lM]⟩
            other := fun O f d c k i fd hf hy n1 n2 n3 n4 => by
              obtain ⟨ty, dd, hdd, hddn⟩ := Cond.laysAt hfound hk hf hy
              have m1 := Cond.laysApart hdd hdC hddn hdnC (by rw [Y.causeName]; exact n1)
              have m2 := Cond.laysApart hdd hdS hddn hdnS (by rw [Y.stackName]; exact n2)
              have m3 := Cond.laysApart hdd hdP hddn hdnP (by rw [Y.suppName]; exact n3)
              have m4 := Cond.laysApart hdd hdM hddn hdnM (by rw [hnM]; exact n4)
              have := fresh_default (c := P1.m.cls) ty
              simpa [plainBareV, preparedCellV, Cell.setSlot, Array.getElem?_setIfInBounds, m1, m2, m3, m4, m1.symm, m2.symm, m3.symm, m4.symm] using this }
end CTX
section VXSX
def vx_atX (own : String) (ic : Nat) (X : String) (ix : Nat) (rx : ByteArray) (names : List String) : List Cond := (Bundle.ownAtomsX own ic X ix rx names).filter vx_no
variable {p : Program} {l : Launch} {e : Env} {R : Room} {s : State} {m : MethodId} {args : Array Value} {below : List Frame} {meth : Method} {c : Code} {H : Heap} {locs : List Loc} {cells slots : Nat} {Q : State → Prop}
variable {mc ms : Nat} {free : Addr → Prop} {A0 A1 : Nat → Prop} {H0 : Heap} {a : Array Value} {ls : Array Slot} {st0 rest : List Value}
variable {Qc : Array Value → State → Outcome → State → Prop} {XC : String → State → State → Prop}
/-- 'throw new E("text")': new; dup; ldc; invokespecial; athrow -/
theorem vx_throwSX {cc : ByteArray} {pc : Nat} (hexec : p.tables.exec = Jvm.exec) (hb : c.code = cc) (hl : l.stackTraces = false) {own cls text : String} {names : List String} {ik is ic ix mc ms sa : Nat} {rx : ByteArray} (x0 : decode rx 0 = .ok (.aload_n 0, 1)) (x1 : decode rx 1 = .ok (.aload_n 1, 1)) (x2 : decode rx 2 = .ok (.invokespecial ix, 3)) (x5 : decode rx 5 = .ok (.return_, 1)) {A : Nat → Prop}
    (hown : s.vm.findClass own = some m.cls) (hcls : Bundle.fit cls = true) (hnames : ∀ n ∈ names, Bundle.fit n = true)
    (hk : (Cond.classLink own ik cls).before args s = true) (hini : (Cond.initialized cls).before args s = true) (hstr : vk_R own is text sa s) (hat : ∀ w ∈ vx_atX own ic cls ix rx names, w.before args s = true)
    (hgood : ∀ w ∈ Cond.classLink own ik cls :: Cond.initialized cls :: vx_atX own ic cls ix rx names, vx_ot w = true)
    (hU : vx_Zq Bundle.tN "UNASSIGNED_STACK" Bundle.steD A s s.heap) (hN : vx_Zq Bundle.tN "SUPPRESSED_SENTINEL" Bundle.listD A s s.heap) (hS : va_S A s.heap H locs) (hsize : ls.size = c.maxLocals)
    (d0 : decode cc pc = .ok (.new ik, 3)) (d3 : decode cc (pc + 3) = .ok (.dup, 1)) (d4 : decode cc (pc + 4) = .ok (.ldc is, 2)) (d6 : decode cc (pc + 6) = .ok (.invokespecial ic, 3)) (d9 : decode cc (pc + 9) = .ok (.athrow, 1))
    (hout : ∀ x ∈ c.exceptionTable.toList, covers x (pc + 9) = false)
    (hRframes : names.length + 3 < R.frames) (hRlocals : (rest.map fun v => v.category).sum + (13 * (names.length + 1) + 43) ≤ R.locals) (hRcells : cells + 1 ≤ R.cells) (hRslots : slots + 6 ≤ R.slots) (hlocks : meth.locks = false)
    (hx : ∀ t : State, s.vm.Alike t.vm → H.size ≤ t.heap.size → (∀ q : Nat, q < H.size → t.heap[q]? = H[q]?) → XC cls s t)
    (hf : ∀ z ∈ locs, free z.base) (hc : cells + 1 ≤ mc) (hs : slots + 6 ≤ ms) :
    W p l e R s m args below meth c H locs cells slots (vx_MQ below Qc XC args s mc ms free) (F0 m pc ls rest) := by
  intro T hT X
  have htr : e.platform.stackTraces = false := (show e.platform.stackTraces = l.stackTraces by rw [X.admits.platform]).trans hl
  have Y := vx_rebase X (R' := { frames := R.frames, locals := R.locals, cells := 1, slots := 6 }) (Nat.le_refl _) (Nat.le_refl _) hRcells hRslots
  obtain ⟨s', hA⟩ : ∃ z, z = (T.setVm s.vm).setFrames (.invoking m args :: below) := ⟨_, rfl⟩
  rw [← hA] at Y
  have hvm : s'.vm = s.vm := by rw [hA]; rfl
  have hhp : s'.heap = H := by rw [hA]; exact hT
  have hW0 : s.WarmedH s'.vm := by rw [hvm]; exact State.WarmedH.refl s
  have hat' : ∀ w ∈ vx_atX own ic cls ix rx names, w.before args s' = true := fun w hw => vx_ot_at hW0 hvm.symm (hgood w (List.mem_cons_of_mem _ (List.mem_cons_of_mem _ hw))) (hat w hw)
  have hk' : (Cond.classLink own ik cls).before args s' = true := vx_ot_at hW0 hvm.symm (hgood _ List.mem_cons_self) hk
  have hini' : (Cond.initialized cls).before args s' = true := vx_ot_at hW0 hvm.symm (hgood _ (List.mem_cons_of_mem _ List.mem_cons_self)) hini
  have hU' : vx_Zq Bundle.tN "UNASSIGNED_STACK" Bundle.steD A s' s'.heap := by rw [hhp]; exact vx_Zq.moved hW0.alike (hU.kept hS.2.1)
  have hN' : vx_Zq Bundle.tN "SUPPRESSED_SENTINEL" Bundle.listD A s' s'.heap := by rw [hhp]; exact vx_Zq.moved hW0.alike (hN.kept hS.2.1)
  have h : ∀ w ∈ Bundle.ownAtomsX own ic cls ix rx names, w.before args s' = true := vx_own hat' (vx_isRefq hU'.1) (vx_isRefq hN'.1) hU'.2.word hN'.2.word
  have hown' : s'.vm.findClass own = some m.cls := by rw [hvm]; exact hown
  have hins : (Cond.instantiable cls 6).before args s' = true := h _ (by simp [Bundle.ownAtomsX])
  obtain ⟨vm₁, cX, kX, hfX, hkX, -, -, X₁, st1⟩ := Y.newCold hexec (own := own) (C := cls) (index := ik) (n := 6) hown' hk' hins hini'
    (g := F0 m pc ls rest) rfl (by rw [hb]; exact d0) (Nat.le_refl _) (Nat.le_refl _)
  generalize hT1 : (T.setVm vm₁).pushCell { cls := cX, slots := kX.instanceTypes.map defaultValue, vm := .none } = T1 at X₁ st1
  have hcat : (Value.ref T.heap.size).category = 1 := rfl
  have hcellA : T1.heap[T.heap.size]? = some (freshCell cX kX) := by rw [← hT1]; exact State.heap_pushCell_size _ _
  have d3' : decode c.code (pc + 3) = .ok (.dup, 1) := by rw [hb]; exact d3
  have d4' : decode c.code (pc + 4) = .ok (.ldc is, 2) := by rw [hb]; exact d4
  have hstr' : vk_R own is text sa s' := vk_R.warm hW0 hstr
  obtain ⟨U, hsteps, hrun, hend, hW, hsame, ce, hce, hO⟩ := X₁.ctorThrowSX hexec htr x0 x1 x2 x5 (own := own) (cls := cls) (names := names) (ic := ic) hown' hcls hnames h (fun x hx => nomatch hx) hfX hkX hcellA (by rw [hhp, hT]; exact Nat.le_refl _) (msg := .ref sa) rfl
    (g := { method := m, pc := pc + 6, locals := ls, stack := .ref sa :: .ref T.heap.size :: .ref T.heap.size :: rest, locked := none }) rfl hsize rfl rfl (rest := rest) rfl
    (by rw [hb]; exact d6) (by rw [hb]; exact d9) hout hRframes (by simp only [List.map_cons, List.sum_cons, hcat]; omega) hlocks
  obtain ⟨f1, f2⟩ := vx_frame hsame
  rw [hhp] at f1 f2
  have hWs : s.WarmedH U.vm := State.WarmedH.trans hW0 hW
  have hcl : s.vm.findClass cls = some ce.cls := by
    have h9 := hO.cls
    rw [hvm] at h9
    exact h9
  have hall : s.sameButNew ({ U with vm := s.vm } : State) locs mc ms := by
    subst hA
    obtain ⟨e1, e2⟩ := hsame
    rw [State.setFrames_setFrames] at e1
    have h2 : (T.setVm s.vm).sameButNew ({ U with vm := s.vm } : State) [] (0 + 1) (0 + 6) := ⟨e1, e2⟩
    have h3 := X.same.trans h2
    rw [List.append_nil] at h3
    exact h3.mono hc hs
  refine ⟨U, ?_, .threw T.heap.size, hrun, hend, Or.inr ⟨T.heap.size, rfl, cls, ce, locs, hx U hWs.alike f1 (fun q hq => f2 q hq (fun z hz => nomatch hz)), hce, hO.vm, hcl, hWs, hall, hf⟩⟩
  refine st1 _ ?_
  show Steps p.tables e below (T1.setTop { method := m, pc := pc + 3, locals := ls, stack := .ref T.heap.size :: rest, locked := none }) _
  jvm_step X₁.here [X₁.here.top, hexec, d3', Value.category]
  exact X₁.ldcString hexec (own := own) (text := text) (index := is) (a := sa) hown' hstr'.1 hstr'.2
    (g := { method := m, pc := pc + 4, locals := ls, stack := .ref T.heap.size :: .ref T.heap.size :: rest, locked := none }) rfl d4' _ hsteps
end VXSX
/-! ===== WHAT THE LAW'S START SAYS OF THE EXCEPTION THAT FirstTimes.person THROWS ===== -/
def xNS : String := "java/util/NoSuchElementException"
def xTx : String := "no such person, or nothing such of it"
def xnm : List String := ["java/lang/RuntimeException", "java/lang/Exception"]
def xrx : ByteArray := prog_24_method_4_code
def xat : List Cond := vx_atX "FirstTimes" 137 xNS 13 xrx xnm
def xbad : List Cond := xat.filter (fun w => !goodWord w)
def xok : Cond → Bool
  | .castable _ _ => true
  | .declares _ => true
  | _ => false
theorem xbad_ok : xbad.all xok = true := by decide +kernel
def KE (G : GP) (U : State) : Prop := ((∀ w ∈ xbad, va_Nw w U) ∧ va_Nw (.castable xNS xNS) U) ∧ (∃ sa, vk_R "FirstTimes" 135 xTx sa U) ∧
  vx_Zq Bundle.tN "UNASSIGNED_STACK" Bundle.steD (fun q => gB G ≤ q) U (gH G) ∧ vx_Zq Bundle.tN "SUPPRESSED_SENTINEL" Bundle.listD (fun q => gB G ≤ q) U (gH G)
theorem KE.warm {G : GP} {s U : State} (hW : s.WarmedH U.vm) (h : KE G s) : KE G U := by
  refine ⟨⟨fun w hw => ?_, va_Nw.warmC hW h.1.2⟩, ?_, vx_Zq.moved hW.alike h.2.2.1, vx_Zq.moved hW.alike h.2.2.2⟩
  · have h1 := List.all_eq_true.mp xbad_ok w hw
    have h2 := h.1.1 w hw
    unfold xok at h1
    split at h1
    · exact va_Nw.warmC hW h2
    · exact va_Nw.warmD hW h2
    · cases h1
  · obtain ⟨sa, q⟩ := h.2.1
    exact ⟨sa, vk_R.warm hW q⟩
end
