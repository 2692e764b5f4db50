/-! ===== ONE STEP as what it asks; runs by fuel; blocks ===== -/
def okObj (a c : Nat) : Bool := match shp a with
  | (4, n, _) => n == Int.ofNat c
  | _ => false
abbrev oI (r : RV) (k : Int → Prop) : Prop := match r with
  | some (.inl w) => k w
  | _ => False
abbrev oJ (r : RV) (k : Int → Prop) : Prop := match r with
  | some (.inr (.inr (.inl w))) => k w
  | _ => False
abbrev oV (r : RV) (k : Prop) : Prop := match r with
  | none => k
  | _ => False
def ldI (ls : Lo) (k : Nat) (g : Int → Prop) : Prop := match ls[k]? with
  | some (some (.inl w)) => g w
  | _ => False
def ldJ (ls : Lo) (k : Nat) (g : Int → Prop) : Prop := match ls[k]? with
  | some (some (.inr (.inr (.inl w)))) => g w
  | _ => False
def ldA (ls : Lo) (k : Nat) (g : AV → Prop) : Prop := match ls[k]? with
  | some (some (.inr (.inl a))) => g (.inr (.inl a))
  | some (some (.inr (.inr (.inr q)))) => g (.inr (.inr (.inr q)))
  | _ => False
def stI (ls : Lo) (k : Nat) (st : List AV) (g : Lo → List AV → Prop) : Prop := match st with
  | .inl w :: r => bif stOk ls k then g (setL (vI w) k ls) r else False
  | _ => False
def stJ (ls : Lo) (k : Nat) (st : List AV) (g : Lo → List AV → Prop) : Prop := match st with
  | .inr (.inr (.inl w)) :: r => bif (stOk ls k && Nat.blt (k + 1) ls.length) then g ((setL none (k + 1) (setL none k ls)).set k (vJ w)) r else False
  | _ => False
def stA (ls : Lo) (k : Nat) (st : List AV) (g : Lo → List AV → Prop) : Prop := match st with
  | .inr (.inl a) :: r => bif stOk ls k then g (setL (vR a) k ls) r else False
  | .inr (.inr (.inr (o, i))) :: r => bif stOk ls k then g (setL (vW o i) k ls) r else False
  | _ => False
/-- two ints on the stack -/
def two (st : List AV) (g : Int → Int → List AV → Prop) : Prop := match st with
  | .inl b :: .inl a :: r => g a b r
  | _ => False
def one (st : List AV) (g : Int → List AV → Prop) : Prop := match st with
  | .inl a :: r => g a r
  | _ => False
def twoJ (st : List AV) (g : Int → Int → List AV → Prop) : Prop := match st with
  | .inr (.inr (.inl b)) :: .inr (.inr (.inl a)) :: r => g a b r
  | _ => False
def oneJ (st : List AV) (g : Int → List AV → Prop) : Prop := match st with
  | .inr (.inr (.inl a)) :: r => g a r
  | _ => False
/-- an array's place read -/
def rdI (σ : Mem) (i : Int) (v : AV) (g : Int → Prop) : Prop := match v with
  | .inr (.inl a) => (match shp a with
    | (0, n, _) => (0 ≤ i ∧ i < n) ∧ g (σ a i)
    | (6, _, _) => (0 ≤ i ∧ i < σ 0 0) ∧ g (σ a i)
    | (7, n, _) => (0 ≤ i ∧ i < n) ∧ g (cst a i)
    | _ => False)
  | .inr (.inr (.inr (o, q))) => (match shp o with
    | (1, n, w) => ((0 ≤ q ∧ q < n) ∧ 0 ≤ i ∧ i < w) ∧ g (σ o (q * w + i))
    | _ => False)
  | _ => False
def wrI (σ : Mem) (x i : Int) (v : AV) (g : Mem → Prop) : Prop := match v with
  | .inr (.inl a) => (match shp a with
    | (0, n, _) => (0 ≤ i ∧ i < n) ∧ g (ups σ a i x)
    | _ => False)
  | .inr (.inr (.inr (o, q))) => (match shp o with
    | (1, n, w) => ((0 ≤ q ∧ q < n) ∧ 0 ≤ i ∧ i < w) ∧ g (ups σ o (q * w + i) x)
    | _ => False)
  | _ => False
def lenA (σ : Mem) (v : AV) (g : Int → Prop) : Prop := match v with
  | .inr (.inl a) => (match shp a with
    | (0, n, _) => g n
    | (6, _, _) => g (σ 0 0)
    | _ => False)
  | .inr (.inr (.inr (o, q))) => (match shp o with
    | (1, n, w) => (0 ≤ q ∧ q < n) ∧ g w
    | _ => False)
  | _ => False
/-- System.arraycopy -/
def acp (σ : Mem) (st : List AV) (g : List AV → Mem → Prop) : Prop := match st with
  | [.inl n, .inl dp, .inr (.inl b), .inl sp, .inr (.inl a)] => (match shp a, shp b with
    | (0, na, _), (0, nb, _) => ((0 ≤ sp ∧ 0 ≤ dp ∧ 0 ≤ n) ∧ sp + n ≤ na ∧ dp + n ≤ nb) ∧ g [] (su σ b (cpy (σ a) (σ b) sp dp n))
    | (7, na, _), (0, nb, _) => ((0 ≤ sp ∧ 0 ≤ dp ∧ 0 ≤ n) ∧ sp + n ≤ na ∧ dp + n ≤ nb) ∧ g [] (su σ b (cpy (cst a) (σ b) sp dp n))
    | _, _ => False)
  | _ => False
def gf (σ : Mem) (a x y z : Nat) (v : Int) (g : AV → Prop) : Prop := bif okObj a x then (match z with
    | 1 => g (.inr (.inl (rf a y)))
    | 2 => g (.inr (.inr (.inl (σ a v))))
    | _ => g (.inl (σ a v))) else False
def pf (σ : Mem) (st : List AV) (x z : Nat) (v : Int) (g : List AV → Mem → Prop) : Prop := match st with
  | .inl w :: .inr (.inl a) :: r => bif okObj a x then (match z with
    | 0 => g r (ups σ a v w)
    | 3 => (w = 0 ∨ w = 1) ∧ g r (ups σ a v w)
    | _ => False) else False
  | .inr (.inr (.inl w)) :: .inr (.inl a) :: r => bif okObj a x then (match z with
    | 2 => g r (ups σ a v w)
    | _ => False) else False
  | _ => False
/-- the receiver, where there is one -/
def rcv (c : Nat) (args : List AV) : Bool := match c with
  | 0 => true
  | c + 1 => (match args with
    | .inr (.inl a) :: _ => okObj a c
    | _ => false)
/-- a call: y arguments, of method x; what it answers lies on the stack behind it -/
def inv (call : Nat → List AV → Mem → (RV → Mem → Prop) → Prop) (g : List AV → Mem → Prop) (x y : Nat) (st : List AV) (σ : Mem) : Prop :=
  bif (Nat.ble y st.length && Nat.ble (widS (st.drop y)) 8 && Nat.beq y (mtb x).1 && rcv (mtb x).2.2.2 (st.take y).reverse && Nat.ble (widS (st.take y).reverse) (mtb x).2.1) then (match (mtb x).2.2.1 with
    | 0 => call x (st.take y).reverse σ (fun r σ => oV r (g (st.drop y) σ))
    | 2 => call x (st.take y).reverse σ (fun r σ => oJ r (fun w => g (.inr (.inr (.inl w)) :: st.drop y) σ))
    | _ => call x (st.take y).reverse σ (fun r σ => oI r (fun w => g (.inl w :: st.drop y) σ))) else False
/-- what FirstTimes.person answers -/
def pval (σ : Mem) (p w : Int) : Int := if w = 0 then σ 38 (3 + p * 4) else if w = 1 then σ 38 (3 + p * 4 + 1) else if w = 2 then (if σ 16 (30 + p * 3 + 2) < 8 then σ 16 (30 + p * 3 + 2) else -1) else if w = 3 then σ 38 (3 + p * 4 + 2) else σ 38 (3 + p * 4 + 3)
/-- the law's own method person -/
def prs (σ : Mem) (st : List AV) (g : List AV → Mem → Prop) : Prop := match st with
  | [.inr (.inl 100), .inl w, .inl p, .inr (.inl 11)] => (rg p ∧ rg w ∧ (0 ≤ σ 15 1 ∧ σ 15 1 ≤ 6) ∧ 0 ≤ σ 0 2 ∧ σ 0 2 < 600) ∧
    ((0 ≤ p ∧ p < σ 15 1 ∧ 0 ≤ w ∧ w ≤ 4) → rg (pval σ p w) ∧ rg (σ 16 (30 + p * 3 + 2)) ∧ g [.inl 0] (ups σ 100 0 (pval σ p w))) ∧
    (¬ (0 ≤ p ∧ p < σ 15 1 ∧ 0 ≤ w ∧ w ≤ 4) → g [.inl 1] (ups σ 0 2 (σ 0 2 + 1)))
  | _ => False
def stp (call : Nat → List AV → Mem → (RV → Mem → Prop) → Prop) (go : Nat → Lo → List AV → Mem → Prop) (fin : RV → Mem → Prop) (dp M pc : Nat) (ls : Lo) (st : List AV) (σ : Mem) : Prop :=
  match lks (mcode M) pc with
  | none => False
  | some (i, n, (x, y, z), v) => match i with
    | .iconst k => go (pc + n) ls (.inl k :: st) σ
    | .bipush k => go (pc + n) ls (.inl k :: st) σ
    | .sipush k => go (pc + n) ls (.inl k :: st) σ
    | .lconst _ => go (pc + n) ls (.inr (.inr (.inl v)) :: st) σ
    | .ldc _ => go (pc + n) ls (.inl v :: st) σ
    | .ldc_w _ => go (pc + n) ls (.inl v :: st) σ
    | .ldc2_w _ => go (pc + n) ls (.inr (.inr (.inl v)) :: st) σ
    | .iload k => ldI ls k (fun w => go (pc + n) ls (.inl w :: st) σ)
    | .iload_n k => ldI ls k.val (fun w => go (pc + n) ls (.inl w :: st) σ)
    | .lload k => ldJ ls k (fun w => go (pc + n) ls (.inr (.inr (.inl w)) :: st) σ)
    | .lload_n k => ldJ ls k.val (fun w => go (pc + n) ls (.inr (.inr (.inl w)) :: st) σ)
    | .aload k => ldA ls k (fun w => go (pc + n) ls (w :: st) σ)
    | .aload_n k => ldA ls k.val (fun w => go (pc + n) ls (w :: st) σ)
    | .istore k => stI ls k st (fun ls r => go (pc + n) ls r σ)
    | .istore_n k => stI ls k.val st (fun ls r => go (pc + n) ls r σ)
    | .lstore k => stJ ls k st (fun ls r => go (pc + n) ls r σ)
    | .lstore_n k => stJ ls k.val st (fun ls r => go (pc + n) ls r σ)
    | .astore k => stA ls k st (fun ls r => go (pc + n) ls r σ)
    | .astore_n k => stA ls k.val st (fun ls r => go (pc + n) ls r σ)
    | .iinc k c => ldI ls k (fun w => bif stOk ls k then go (pc + n) (setL (vI (w + c)) k ls) st σ else False)
    | .iadd => two st (fun a b r => go (pc + n) ls (.inl (a + b) :: r) σ)
    | .isub => two st (fun a b r => go (pc + n) ls (.inl (a - b) :: r) σ)
    | .imul => two st (fun a b r => go (pc + n) ls (.inl (a * b) :: r) σ)
    | .idiv => two st (fun a b r => (rg a ∧ rg b ∧ b ≠ 0) ∧ go (pc + n) ls (.inl (Int.tdiv a b) :: r) σ)
    | .irem => two st (fun a b r => (rg a ∧ rg b ∧ b ≠ 0) ∧ go (pc + n) ls (.inl (Int.tmod a b) :: r) σ)
    | .iand => two st (fun a b r => go (pc + n) ls (.inl (i_and a b) :: r) σ)
    | .ior => two st (fun a b r => go (pc + n) ls (.inl (i_or a b) :: r) σ)
    | .ixor => two st (fun a b r => go (pc + n) ls (.inl (i_xor a b) :: r) σ)
    | .ishl => two st (fun a b r => go (pc + n) ls (.inl (i_shl a b) :: r) σ)
    | .ishr => two st (fun a b r => go (pc + n) ls (.inl (i_shr a b) :: r) σ)
    | .iushr => two st (fun a b r => go (pc + n) ls (.inl (i_ushr a b) :: r) σ)
    | .ineg => one st (fun a r => go (pc + n) ls (.inl (-a) :: r) σ)
    | .i2l => one st (fun a r => rg a ∧ go (pc + n) ls (.inr (.inr (.inl a)) :: r) σ)
    | .l2i => oneJ st (fun a r => go (pc + n) ls (.inl a :: r) σ)
    | .ladd => twoJ st (fun a b r => go (pc + n) ls (.inr (.inr (.inl (a + b))) :: r) σ)
    | .lsub => twoJ st (fun a b r => go (pc + n) ls (.inr (.inr (.inl (a - b))) :: r) σ)
    | .lmul => twoJ st (fun a b r => go (pc + n) ls (.inr (.inr (.inl (a * b))) :: r) σ)
    | .ldiv => twoJ st (fun a b r => (rgL a ∧ rgL b ∧ b ≠ 0) ∧ go (pc + n) ls (.inr (.inr (.inl (Int.tdiv a b))) :: r) σ)
    | .lrem => twoJ st (fun a b r => (rgL a ∧ rgL b ∧ b ≠ 0) ∧ go (pc + n) ls (.inr (.inr (.inl (Int.tmod a b))) :: r) σ)
    | .land => twoJ st (fun a b r => go (pc + n) ls (.inr (.inr (.inl (l_and a b))) :: r) σ)
    | .lor => twoJ st (fun a b r => go (pc + n) ls (.inr (.inr (.inl (l_or a b))) :: r) σ)
    | .lcmp => twoJ st (fun a b r => (rgL a ∧ rgL b) ∧ go (pc + n) ls (.inl (cmpL a b) :: r) σ)
    | .lushr => (match st with
      | .inl b :: .inr (.inr (.inl a)) :: r => go (pc + n) ls (.inr (.inr (.inl (l_ushr a b))) :: r) σ
      | _ => False)
    | .lshl => (match st with
      | .inl b :: .inr (.inr (.inl a)) :: r => go (pc + n) ls (.inr (.inr (.inl (l_shl a b))) :: r) σ
      | _ => False)
    | .dup => (match st with
      | w :: r => bif Nat.beq (wid w) 1 then go (pc + n) ls (w :: w :: r) σ else False
      | _ => False)
    | .pop => (match st with
      | w :: r => bif Nat.beq (wid w) 1 then go (pc + n) ls r σ else False
      | _ => False)
    | .dup2 => (match st with
      | .inr (.inr (.inl w)) :: r => go (pc + n) ls (.inr (.inr (.inl w)) :: .inr (.inr (.inl w)) :: r) σ
      | a :: b :: r => bif (Nat.beq (wid a) 1 && Nat.beq (wid b) 1) then go (pc + n) ls (a :: b :: a :: b :: r) σ else False
      | _ => False)
    | .goto off => go (tg pc off) ls st σ
    | .ifCond c off => one st (fun a r => rg a ∧ (cnd c a 0 → go (tg pc off) ls r σ) ∧ (ncnd c a 0 → go (pc + n) ls r σ))
    | .if_icmp c off => two st (fun a b r => (rg a ∧ rg b) ∧ (cnd c a b → go (tg pc off) ls r σ) ∧ (ncnd c a b → go (pc + n) ls r σ))
    | .tableswitch d lo _ offs => one st (fun a r => rg a ∧ sw a lo offs.toList d (fun o => go (tg pc o) ls r σ))
    | .lookupswitch d ps => one st (fun a r => rg a ∧ swL a ps.toList d (fun o => go (tg pc o) ls r σ))
    | .getfield _ => (match st with
      | .inr (.inl a) :: r => gf σ a x y z v (fun w => go (pc + n) ls (w :: r) σ)
      | _ => False)
    | .putfield _ => pf σ st x z v (fun r σ => go (pc + n) ls r σ)
    | .getstatic _ => go (pc + n) ls (.inr (.inl x) :: st) σ
    | .iaload => (match st with
      | .inl i :: a :: r => rdI σ i a (fun w => go (pc + n) ls (.inl w :: r) σ)
      | _ => False)
    | .caload => (match st with
      | .inl i :: .inr (.inl a) :: r => (match shp a with
        | (3, m, _) => (0 ≤ i ∧ i < m) ∧ go (pc + n) ls (.inl (cst a i) :: r) σ
        | _ => False)
      | _ => False)
    | .laload => (match st with
      | .inl i :: .inr (.inl a) :: r => (match shp a with
        | (2, m, _) => (0 ≤ i ∧ i < m) ∧ go (pc + n) ls (.inr (.inr (.inl (σ a i))) :: r) σ
        | _ => False)
      | _ => False)
    | .aaload => (match st with
      | .inl i :: .inr (.inl a) :: r => (match shp a with
        | (1, m, _) => (0 ≤ i ∧ i < m) ∧ go (pc + n) ls (.inr (.inr (.inr (a, i))) :: r) σ
        | _ => False)
      | _ => False)
    | .iastore => (match st with
      | .inl w :: .inl i :: a :: r => wrI σ w i a (fun σ => go (pc + n) ls r σ)
      | _ => False)
    | .lastore => (match st with
      | .inr (.inr (.inl w)) :: .inl i :: .inr (.inl a) :: r => (match shp a with
        | (2, m, _) => (0 ≤ i ∧ i < m) ∧ go (pc + n) ls r (ups σ a i w)
        | _ => False)
      | _ => False)
    | .arraylength => (match st with
      | a :: r => lenA σ a (fun w => go (pc + n) ls (.inl w :: r) σ)
      | _ => False)
    | .invokevirtual _ => inv call (fun r σ => go (pc + n) ls r σ) x y st σ
    | .invokestatic _ => (match z with
      | 2 => (match dp with
        | 0 => False
        | _ + 1 => acp σ st (fun r σ => go (pc + n) ls r σ))
      | 7 => bif Nat.beq dp 1000 then prs σ st (fun r σ => go (pc + n) ls r σ) else False
      | _ => inv call (fun r σ => go (pc + n) ls r σ) x y st σ)
    | .invokespecial _ => (match z with
      | 1 => (match dp, st with
        | _ + 1, .inr (.inl _) :: r => go (pc + n) ls r σ
        | _, _ => False)
      | _ => inv call (fun r σ => go (pc + n) ls r σ) x y st σ)
    | .ireturn => (match st with
      | [.inl w] => (match z with
        | 3 => (w = 0 ∨ w = 1) ∧ fin (rI w) σ
        | _ => fin (rI w) σ)
      | _ => False)
    | .lreturn => (match st with
      | [.inr (.inr (.inl w))] => fin (rJ w) σ
      | _ => False)
    | .return_ => (match st with
      | [] => fin rV σ
      | _ => False)
    | _ => False
abbrev Cfg : Type := Nat → Nat → Nat → Lo → List AV → Mem → (RV → Mem → Prop) → Prop
/-- the calls of a frame that stands d deep -/
def clX (X : Cfg) (d : Nat) : Nat → List AV → Mem → (RV → Mem → Prop) → Prop := fun x args σ K => match d with
  | 0 => False
  | d + 1 => X d x 0 (entL args (mtb x).2.1) [] σ K
/-- what is asked by a step is enough -/
def Clos (X : Cfg) : Prop := ∀ d M pc ls st σ Q, stp (clX X d) (fun pc ls st σ => X d M pc ls st σ Q) Q d M pc ls st σ → X d M pc ls st σ Q
/-- the least of these: from here the method comes to its end, with Q; d calls deep at most -/
def Ev (d M pc : Nat) (ls : Lo) (st : List AV) (σ : Mem) (Q : RV → Mem → Prop) : Prop := ∀ X : Cfg, Clos X → X d M pc ls st σ Q
/-- a call of M with these arguments -/
def Cl (d M : Nat) (args : List AV) (σ : Mem) (Q : RV → Mem → Prop) : Prop := Ev d M 0 (entL args (mtb M).2.1) [] σ Q
def clE (d : Nat) : Nat → List AV → Mem → (RV → Mem → Prop) → Prop := fun x args σ K => match d with
  | 0 => False
  | d + 1 => Cl d x args σ K
/-- from here to the next cut -/
def wp (d M : Nat) (Q : RV → Mem → Prop) : Nat → Nat → Lo → List AV → Mem → Prop
  | 0, pc, ls, st, σ => Ev d M pc ls st σ Q
  | n + 1, pc, ls, st, σ => bif cuts M pc then Ev d M pc ls st σ Q else stp (clE d) (wp d M Q n) Q d M pc ls st σ
