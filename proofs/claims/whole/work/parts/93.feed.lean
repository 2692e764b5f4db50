/-! ===== CASE feed ===== -/
def bo (w s : Int) : Int := i_and (i_ushr w s) 255
theorem bv_and {x y : BitVec 32} (h : ∀ i : Nat, i < 8 → x.getLsbD i = y.getLsbD i) : x &&& 255#32 = y &&& 255#32 := by
  apply BitVec.eq_of_getLsbD_eq
  intro i hi
  rw [BitVec.getLsbD_and, BitVec.getLsbD_and]
  by_cases c : i < 8
  · rw [h i c]
  · have : ∀ i : Fin 32, ¬ i.val < 8 → (255#32).getLsbD i.val = false := by decide +kernel
    rw [this ⟨i, hi⟩ c, Bool.and_false, Bool.and_false]
theorem shm_k : ∀ t : Fin 32, ((Int32.ofInt (t.val : Int)).toUInt32 &&& Int32.toUInt32 31).toBitVec % 32#32 = BitVec.ofNat 32 t.val := by decide +kernel
theorem sh_n (w : Int) {k : Nat} (hk : k ≤ 24) : i_and (i_shr w (k : Int)) 255 = bo w (k : Int) := by
  have h1 := shm_n ⟨k, by omega⟩
  have h2 := shm_k ⟨k, by omega⟩
  dsimp only at h1 h2
  show (Int32.ofInt (Int32.ofInt w >>> (Int32.ofInt (k : Int) &&& 31)).toInt &&& Int32.ofInt 255).toInt = (Int32.ofInt (((Int32.ofInt w).toUInt32 >>> ((Int32.ofInt (k : Int)).toUInt32 &&& Int32.toUInt32 31)).toInt32.toInt) &&& Int32.ofInt 255).toInt
  rw [Int32.ofInt_toInt, Int32.ofInt_toInt]
  show ((BitVec.sshiftRight' (BitVec.ofInt 32 w) ((Int32.ofInt (k : Int) &&& 31).toBitVec.smod 32)) &&& 255#32).toInt = ((BitVec.ofInt 32 w >>> (((Int32.ofInt (k : Int)).toUInt32 &&& Int32.toUInt32 31).toBitVec % 32#32)) &&& 255#32).toInt
  rw [h2, BitVec.sshiftRight_eq', h1]
  congr 1
  apply bv_and
  intro i hi
  rw [BitVec.getLsbD_sshiftRight, BitVec.ushiftRight_eq', BitVec.getLsbD_ushiftRight, BitVec.toNat_ofNat]
  rw [if_pos (by omega), decide_eq_false (by omega), Nat.mod_eq_of_lt (by omega)]
  rfl
theorem bo_r (w s : Int) : 0 ≤ bo w s ∧ bo w s ≤ 255 := by
  have e : ∀ x : BitVec 32, (x &&& 255#32).toNat ≤ 255 := fun x => by rw [BitVec.toNat_and]; exact Nat.and_le_right
  have h := e (BitVec.ofInt 32 (i_ushr w s))
  show 0 ≤ (BitVec.ofInt 32 (i_ushr w s) &&& 255#32).toInt ∧ (BitVec.ofInt 32 (i_ushr w s) &&& 255#32).toInt ≤ 255
  rw [BitVec.toInt_eq_toNat_of_lt (by omega)]
  omega
/-- one more sign, nothing for 0 -/
abbrev TpS := (Int → Int) × Int
def apS (s : TpS) (v : Int) : TpS := if v = 0 then s else (fu s.1 s.2 v, s.2 + 1)
def nz (v : Int) : Int := if v = 0 then 0 else 1
theorem apS_n (s : TpS) (v : Int) : (apS s v).2 = s.2 + nz v := by
  unfold apS nz; split
  · omega
  · rfl
theorem nz_r (v : Int) : 0 ≤ nz v ∧ nz v ≤ 1 := by unfold nz; split <;> omega
def pwS (s : TpS) (w : Int) : TpS := apS (apS (apS (apS s (bo w 24)) (bo w 16)) (bo w 8)) (bo w 0)
def cw (w : Int) : Int := nz (bo w 0) + nz (bo w 8) + nz (bo w 16) + nz (bo w 24)
theorem pwS_n (s : TpS) (w : Int) : (pwS s w).2 = s.2 + cw w := by
  unfold pwS cw
  rw [apS_n, apS_n, apS_n, apS_n]; omega
theorem cw_r (w : Int) : 0 ≤ cw w ∧ cw w ≤ 4 := by
  have := nz_r (bo w 0); have := nz_r (bo w 8); have := nz_r (bo w 16); have := nz_r (bo w 24)
  unfold cw; omega
/-- the word in which the k-th byte lies -/
def wd (a b c d e k : Int) : Int := if k < 4 then a else if k < 8 then b else if k < 12 then c else if k < 16 then d else e
def Bk (a b c d e k : Int) : Int := bo (wd a b c d e k) (24 - 8 * Int.tmod k 4)
def fK (a b c d e : Int) (s : TpS) : Nat → TpS
  | 0 => s
  | n + 1 => apS (fK a b c d e s n) (Bk a b c d e (Int.ofNat n))
def cK (a b c d e : Int) : Nat → Int
  | 0 => 0
  | n + 1 => cK a b c d e n + nz (Bk a b c d e (Int.ofNat n))
theorem fK_S {a b c d e : Int} {s : TpS} {i : Int} (h : 0 ≤ i) : fK a b c d e s (i + 1).toNat = apS (fK a b c d e s i.toNat) (Bk a b c d e i) := by
  rw [show (i + 1).toNat = i.toNat + 1 by omega]
  show apS (fK a b c d e s i.toNat) (Bk a b c d e (Int.ofNat i.toNat)) = _
  rw [show Int.ofNat i.toNat = i from Int.toNat_of_nonneg h]
theorem cK_S {a b c d e : Int} {i : Int} (h : 0 ≤ i) : cK a b c d e (i + 1).toNat = cK a b c d e i.toNat + nz (Bk a b c d e i) := by
  rw [show (i + 1).toNat = i.toNat + 1 by omega]
  show cK a b c d e i.toNat + nz (Bk a b c d e (Int.ofNat i.toNat)) = _
  rw [show Int.ofNat i.toNat = i from Int.toNat_of_nonneg h]
theorem fK_n {a b c d e : Int} {s : TpS} : ∀ n : Nat, (fK a b c d e s n).2 = s.2 + cK a b c d e n
  | 0 => by show s.2 = s.2 + 0; omega
  | n + 1 => by
    show (apS (fK a b c d e s n) (Bk a b c d e (Int.ofNat n))).2 = s.2 + (cK a b c d e n + nz (Bk a b c d e (Int.ofNat n)))
    rw [apS_n, fK_n n]; omega
theorem cK_mono {a b c d e : Int} : ∀ {m n : Nat}, m ≤ n → cK a b c d e m ≤ cK a b c d e n
  | m, 0, h => by rw [show m = 0 by omega]; exact Int.le_refl _
  | m, n + 1, h => by
    by_cases q : m = n + 1
    · rw [q]; exact Int.le_refl _
    · have := cK_mono (a := a) (b := b) (c := c) (d := d) (e := e) (m := m) (n := n) (by omega)
      have := nz_r (Bk a b c d e (Int.ofNat n))
      show _ ≤ cK a b c d e n + nz (Bk a b c d e (Int.ofNat n))
      omega
theorem cK_r {a b c d e : Int} : ∀ n : Nat, 0 ≤ cK a b c d e n ∧ cK a b c d e n ≤ (n : Int)
  | 0 => by show (0 : Int) ≤ 0 ∧ (0 : Int) ≤ ((0 : Nat) : Int); decide
  | n + 1 => by
    have := cK_r (a := a) (b := b) (c := c) (d := d) (e := e) n
    have := nz_r (Bk a b c d e (Int.ofNat n))
    show 0 ≤ cK a b c d e n + nz (Bk a b c d e (Int.ofNat n)) ∧ cK a b c d e n + nz (Bk a b c d e (Int.ofNat n)) ≤ ((n + 1 : Nat) : Int)
    omega
theorem Bk_all (a b c d e : Int) : (Bk a b c d e 0 = bo a 24 ∧ Bk a b c d e 1 = bo a 16 ∧ Bk a b c d e 2 = bo a 8 ∧ Bk a b c d e 3 = bo a 0) ∧ (Bk a b c d e 4 = bo b 24 ∧ Bk a b c d e 5 = bo b 16 ∧ Bk a b c d e 6 = bo b 8 ∧ Bk a b c d e 7 = bo b 0) ∧ (Bk a b c d e 8 = bo c 24 ∧ Bk a b c d e 9 = bo c 16 ∧ Bk a b c d e 10 = bo c 8 ∧ Bk a b c d e 11 = bo c 0) ∧ (Bk a b c d e 12 = bo d 24 ∧ Bk a b c d e 13 = bo d 16 ∧ Bk a b c d e 14 = bo d 8 ∧ Bk a b c d e 15 = bo d 0) ∧ (Bk a b c d e 16 = bo e 24 ∧ Bk a b c d e 17 = bo e 16 ∧ Bk a b c d e 18 = bo e 8 ∧ Bk a b c d e 19 = bo e 0) := by
  refine ⟨⟨rfl, rfl, rfl, rfl⟩, ⟨rfl, rfl, rfl, rfl⟩, ⟨rfl, rfl, rfl, rfl⟩, ⟨rfl, rfl, rfl, rfl⟩, ⟨rfl, rfl, rfl, rfl⟩⟩
theorem fK_20 (a b c d e : Int) (s : TpS) : fK a b c d e s 20 = pwS (pwS (pwS (pwS (pwS s a) b) c) d) e := by
  obtain ⟨⟨a0, a1, a2, a3⟩, ⟨b0, b1, b2, b3⟩, ⟨c0, c1, c2, c3⟩, ⟨d0, d1, d2, d3⟩, ⟨e0, e1, e2, e3⟩⟩ := Bk_all a b c d e
  show apS (apS (apS (apS (apS (apS (apS (apS (apS (apS (apS (apS (apS (apS (apS (apS (apS (apS (apS (apS s (Bk a b c d e 0)) (Bk a b c d e 1)) (Bk a b c d e 2)) (Bk a b c d e 3)) (Bk a b c d e 4)) (Bk a b c d e 5)) (Bk a b c d e 6)) (Bk a b c d e 7)) (Bk a b c d e 8)) (Bk a b c d e 9)) (Bk a b c d e 10)) (Bk a b c d e 11)) (Bk a b c d e 12)) (Bk a b c d e 13)) (Bk a b c d e 14)) (Bk a b c d e 15)) (Bk a b c d e 16)) (Bk a b c d e 17)) (Bk a b c d e 18)) (Bk a b c d e 19) = _
  rw [a0, a1, a2, a3, b0, b1, b2, b3, c0, c1, c2, c3, d0, d1, d2, d3, e0, e1, e2, e3]
  rfl
theorem cK_20 (a b c d e : Int) : cK a b c d e 20 = cw a + cw b + cw c + cw d + cw e := by
  have h1 := fK_n (a := a) (b := b) (c := c) (d := d) (e := e) (s := (fun _ => 0, 0)) 20
  rw [fK_20, pwS_n, pwS_n, pwS_n, pwS_n, pwS_n] at h1
  dsimp only at h1
  omega
theorem byteR {σ : Mem} (d0 : Nat) {a b c d e k : Int} (hk : 0 ≤ k ∧ k < 20) {Q : RV → Mem → Prop} (h : Q (rI (Bk a b c d e k)) σ) : Cl (d0 + 1) mR_byteOf [aI a, aI b, aI c, aI d, aI e, aI k] σ Q := by
  have hm : Int.tmod k 4 = k % 4 := Int.tmod_eq_emod_of_nonneg hk.1
  have s0 : ∀ w, i_and (i_shr w (24 - 8 * Int.tmod k 4)) 255 = bo w (24 - 8 * Int.tmod k 4) := fun w => by
    obtain ⟨n, hn⟩ : ∃ n : Nat, 24 - 8 * Int.tmod k 4 = (n : Int) := ⟨_, toN (by omega)⟩
    rw [hn]; exact sh_n w (by omega)
  unfold Bk wd at h
  refine bR_byteOf_in ⟨⟨by omega, by omega⟩, fun z => ⟨fun z1 => ⟨fun z2 => ⟨fun z3 => ?_, fun z3 => ?_⟩, fun z2 => ?_⟩, fun z1 => ?_⟩, fun z => ?_⟩
  · rw [s0]; rw [if_neg (by omega), if_neg (by omega), if_neg (by omega), if_neg (by omega)] at h; exact h
  · rw [s0]; rw [if_neg (by omega), if_neg (by omega), if_neg (by omega), if_pos z3] at h; exact h
  · rw [s0]; rw [if_neg (by omega), if_neg (by omega), if_pos z2] at h; exact h
  · rw [s0]; rw [if_neg (by omega), if_pos z1] at h; exact h
  · rw [s0]; rw [if_pos z] at h; exact h
theorem bytesC {σ : Mem} (d : Nat) {w : Int} {Q : RV → Mem → Prop} (h : Q (rI (cw w)) σ) : Cl (d + 1) mTa_bytesIn [aI w] σ Q := by
  have one : ∀ (c s : Int), (0 ≤ s ∧ s < 32) → Ev (d + 1) mTa_bytesIn 4 [vI w, vI (c + nz (bo w s)), vI (s + 8)] [] σ Q → Ev (d + 1) mTa_bytesIn 4 [vI w, vI c, vI s] [] σ Q := by
    intro c s hs g
    refine bTa_bytesIn_4 ⟨⟨by omega, by omega⟩, fun z => absurd z (by omega), fun _ => ⟨rg_and _ _, fun z => ?_, fun z => ?_⟩⟩
    · rw [show nz (bo w s) = 1 from if_neg z] at g; exact g
    · rw [show nz (bo w s) = 0 from if_pos z] at g; exact g
  refine bTa_bytesIn_in (one 0 0 (by decide) (one _ _ (by decide) (one _ _ (by decide) (one _ _ (by decide) (bTa_bytesIn_4 ⟨by decide, fun _ => ?_, fun z => absurd z (by decide)⟩)))))
  rw [show 0 + nz (bo w 0) + nz (bo w (0 + 8)) + nz (bo w (0 + 8 + 8)) + nz (bo w (0 + 8 + 8 + 8)) = cw w by
    show 0 + nz (bo w 0) + nz (bo w 8) + nz (bo w 16) + nz (bo w 24) = _
    unfold cw; omega]
  exact h
theorem putC {σ : Mem} (d : Nat) {w : Int} {s : TpS} (hs : σ 13 = s.1 ∧ σ 12 1 = s.2) (h0 : 0 ≤ s.2) (h1 : s.2 + cw w ≤ 240) {Q : RV → Mem → Prop} (h : ∀ τ, Sm σ τ [12, 13] [] → τ 13 = (pwS s w).1 ∧ τ 12 1 = (pwS s w).2 → Q rV τ) : Cl (d + 1) mTa_put [aR 12, aI w] σ Q := by
  have one : ∀ (τ : Mem) (s' : TpS) (t : Int) (u : Option AV), (0 ≤ t ∧ t < 32) → Sm σ τ [12, 13] [] → (τ 13 = s'.1 ∧ τ 12 1 = s'.2) → 0 ≤ s'.2 → s'.2 + nz (bo w t) ≤ 240 → (∀ τ' u, Sm σ τ' [12, 13] [] → (τ' 13 = (apS s' (bo w t)).1 ∧ τ' 12 1 = (apS s' (bo w t)).2) → Ev (d + 1) mTa_put 3 [vR 12, vI w, vI (t + (-8)), u] [] τ' Q) → Ev (d + 1) mTa_put 3 [vR 12, vI w, vI t, u] [] τ Q := by
    intro τ s' t u ht sm hs' n0 n1 g
    have nzr := nz_r (bo w t)
    refine bTa_put_3 ⟨⟨by omega, by omega⟩, fun z => absurd z (by omega), fun _ => ⟨rg_and _ _, fun z => ?_, fun z => ⟨by rw [hs'.2]; exact ⟨by omega, by omega⟩, fun y => ?_, fun y => ⟨by rw [hs'.2]; exact n0, ?_⟩⟩⟩⟩
    · refine g τ _ sm ?_
      unfold apS; rw [if_pos (show bo w t = 0 from z)]; exact hs'
    · rw [hs'.2] at y
      rw [show nz (bo w t) = 1 from if_neg z] at n1
      omega
    · refine g _ _ ((sm.ups rfl (Or.inl (by decide))).ups rfl (Or.inl (by decide))) ?_
      unfold apS; rw [if_neg (show ¬ bo w t = 0 from z)]
      refine ⟨?_, ?_⟩
      · rw [ups_ne (by decide), ups_row, hs'.1, hs'.2]; rfl
      · rw [ups_hit, hs'.2]
  have n4 := nz_r (bo w 0); have n3 := nz_r (bo w 8); have n2 := nz_r (bo w 16); have n1 := nz_r (bo w 24)
  unfold cw at h1
  refine bTa_put_in (one σ s 24 _ (by decide) Sm.refl hs h0 (by omega) (fun τ1 u1 s1 g1 => one τ1 _ 16 _ (by decide) s1 g1 (by rw [apS_n]; omega) (by rw [apS_n]; omega) (fun τ2 u2 s2 g2 => one τ2 _ 8 _ (by decide) s2 g2 (by rw [apS_n, apS_n]; omega) (by rw [apS_n, apS_n]; omega) (fun τ3 u3 s3 g3 => one τ3 _ 0 _ (by decide) s3 g3 (by rw [apS_n, apS_n, apS_n]; omega) (by rw [apS_n, apS_n, apS_n]; omega) (fun τ4 u4 s4 g4 => bTa_put_3 ⟨by decide, fun _ => h τ4 s4 g4, fun z => absurd z (by decide)⟩)))))
/-- the two tapes go on alike -/
def TpR (f g : TpS) : Prop := f.2 = g.2 ∧ 0 ≤ f.2 ∧ ∀ i, 0 ≤ i → i < f.2 → f.1 i = g.1 i ∧ 1 ≤ g.1 i ∧ g.1 i ≤ 255
theorem TpR.ap {f g : TpS} {v : Int} (h : TpR f g) (hv : 0 ≤ v ∧ v ≤ 255) : TpR (apS f v) (apS g v) := by
  obtain ⟨a, b, c⟩ := h
  unfold apS
  by_cases z : v = 0
  · rw [if_pos z, if_pos z]; exact ⟨a, b, c⟩
  · rw [if_neg z, if_neg z]
    refine ⟨by show f.2 + 1 = g.2 + 1; omega, by show 0 ≤ f.2 + 1; omega, fun i i0 i1 => ?_⟩
    have i1' : i < f.2 + 1 := i1
    show fu f.1 f.2 v i = fu g.1 g.2 v i ∧ 1 ≤ fu g.1 g.2 v i ∧ fu g.1 g.2 v i ≤ 255
    by_cases e : i = f.2
    · rw [e, fu_hit, a, fu_hit]; exact ⟨rfl, by omega, hv.2⟩
    · rw [fu_ne e, fu_ne (by rw [← a]; exact e)]; exact c i i0 (by omega)
theorem TpR.fK {a b c d e : Int} {f g : TpS} (h : TpR f g) : ∀ n : Nat, TpR (fK a b c d e f n) (fK a b c d e g n)
  | 0 => h
  | n + 1 => (TpR.fK h n).ap (bo_r _ _)
theorem c_feed : ∀ (a b c d e : Int) (σ : Mem), Inv σ → rg a → rg b → rg c → rg d → rg e → Pair mF_feed mR_feed [aI a, aI b, aI c, aI d, aI e] σ := by
  intro a b c d e σ hI _ _ _ _ _
  have hT := hI.1.1
  obtain ⟨t1, t2, t3, t4⟩ := hI.1.1
  have k20 := cK_20 a b c d e
  have kr := cK_r (a := a) (b := b) (c := c) (d := d) (e := e) 20
  have ra := cw_r a; have rb := cw_r b; have rc := cw_r c; have rd := cw_r d; have re := cw_r e
  -- how many come, by the reference
  have cnt : ∀ (τ : Mem) (Q : RV → Mem → Prop), τ 64 2 = σ 64 2 → (σ 64 2 + cK a b c d e 20 ≤ 240 → ∀ u, Ev 999 mR_feed 62 [vR 64, vI a, vI b, vI c, vI d, vI e, vI (cK a b c d e 20), vI 0, u] [] τ Q) → (240 < σ 64 2 + cK a b c d e 20 → Q (rI (-1)) τ) → Cl 999 mR_feed [aR 64, aI a, aI b, aI c, aI d, aI e] τ Q := by
    intro τ Q e2 g1 g0
    refine bR_feed_in (d := 997) ?_
    refine loop_up (G := fun k => ∀ u, Ev 999 mR_feed 6 [vR 64, vI a, vI b, vI c, vI d, vI e, vI (cK a b c d e k.toNat), vI k, u] [] τ Q) (hi := 20) _ 0 rfl (by decide) (fun k k0 k1 g => ?_) ?_ vU
    · intro u
      rw [cK_S k0] at g
      refine bR_feed_6 (d := 997) ⟨⟨by omega, by omega⟩, fun z => absurd z (by omega), fun _ => byteR 997 ⟨by omega, by omega⟩ ⟨by have := bo_r (wd a b c d e k) (24 - 8 * Int.tmod k 4); unfold Bk; exact ⟨by omega, by omega⟩, fun z => ?_, fun z => ?_⟩⟩
      · rw [show nz (Bk a b c d e k) = 0 from if_pos z] at g; exact g u
      · rw [show nz (Bk a b c d e k) = 1 from if_neg z] at g; exact g u
    · intro u
      have e20 : (20 : Int).toNat = 20 := rfl
      rw [e20]
      exact bR_feed_6 (d := 997) ⟨by decide, fun _ => ⟨by rw [e2]; exact ⟨by omega, by omega⟩, fun z => g1 (by rw [e2] at z; exact z) u, fun z => g0 (by rw [e2] at z; exact z)⟩, fun z => absurd z (by decide)⟩
  by_cases fit : σ 64 2 + cK a b c d e 20 ≤ 240
  · -- it fits
    have cls : Cl 999 mF_feed [aR 11, aI a, aI b, aI c, aI d, aI e] σ (fun r τ => r = rI (σ 64 2 + cK a b c d e 20) ∧ Sm σ τ [12, 13] [] ∧ τ 13 = (fK a b c d e (σ 13, σ 12 1) 20).1 ∧ τ 12 1 = (fK a b c d e (σ 13, σ 12 1) 20).2) := by
      refine bF_feed_in (d := 997) (bytesC 997 (bytesC 997 (bytesC 997 (bytesC 997 (bytesC 997 ⟨by rw [t1]; exact ⟨by omega, by omega⟩, fun _ => ?_, fun z => absurd z (by rw [t1]; omega)⟩)))))
      refine putC 997 (s := (σ 13, σ 12 1)) ⟨rfl, rfl⟩ (by show 0 ≤ σ 12 1; omega) (by show σ 12 1 + cw a ≤ 240; omega) (fun τ1 s1 g1 => putC 997 g1 (by rw [pwS_n]; show 0 ≤ σ 12 1 + cw a; omega) (by rw [pwS_n]; show σ 12 1 + cw a + cw b ≤ 240; omega) (fun τ2 s2 g2 => putC 997 g2 (by rw [pwS_n, pwS_n]; show 0 ≤ σ 12 1 + cw a + cw b; omega) (by rw [pwS_n, pwS_n]; show σ 12 1 + cw a + cw b + cw c ≤ 240; omega) (fun τ3 s3 g3 => putC 997 g3 (by rw [pwS_n, pwS_n, pwS_n]; show 0 ≤ σ 12 1 + cw a + cw b + cw c; omega) (by rw [pwS_n, pwS_n, pwS_n]; show σ 12 1 + cw a + cw b + cw c + cw d ≤ 240; omega) (fun τ4 s4 g4 => putC 997 g4 (by rw [pwS_n, pwS_n, pwS_n, pwS_n]; show 0 ≤ σ 12 1 + cw a + cw b + cw c + cw d; omega) (by rw [pwS_n, pwS_n, pwS_n, pwS_n]; show σ 12 1 + cw a + cw b + cw c + cw d + cw e ≤ 240; omega) (fun τ5 s5 g5 => ?_)))))
      rw [← fK_20] at g5
      refine ⟨?_, (((s1.trans s2).trans s3).trans s4).trans s5, g5⟩
      rw [g5.2, fK_n]
      show rI (σ 12 1 + cK a b c d e 20) = _
      rw [t1]
    refine Cl.mono cls (fun r τ h => ?_)
    obtain ⟨rfl, sm, c13, c12⟩ := h
    refine ⟨⟨sm.1 0 rfl, sm.1 1 rfl⟩, cnt τ _ (by rw [sm.1 64 rfl]) (fun _ u => ?_) (fun z => absurd z (by omega))⟩
    have r65 : τ 65 = σ 65 := sm.1 65 rfl
    have r2 : τ 64 2 = σ 64 2 := by rw [sm.1 64 rfl]
    refine loop_up (G := fun k => ∀ ω u, Sm τ ω [64, 65] [2] → (ω 65 = (fK a b c d e (σ 65, σ 64 2) k.toNat).1 ∧ ω 64 2 = (fK a b c d e (σ 65, σ 64 2) k.toNat).2) → Ev 999 mR_feed 62 [vR 64, vI a, vI b, vI c, vI d, vI e, vI (cK a b c d e 20), vI k, u] [] ω (fun r4 τ5 => oI r4 (fun w6 => (σ 64 2 + cK a b c d e 20 = w6 ∧ rg (σ 64 2 + cK a b c d e 20)) ∧ (τ5 0 = σ 0 ∧ τ5 1 = σ 1) ∧ Inv τ5))) (hi := 20) _ 0 rfl (by decide) (fun k k0 k1 g => ?_) ?_ τ u Sm.refl ⟨r65, r2⟩
    · intro ω u so hk
      have br := bo_r (wd a b c d e k) (24 - 8 * Int.tmod k 4)
      have n2 := fK_n (a := a) (b := b) (c := c) (d := d) (e := e) (s := (σ 65, σ 64 2)) k.toNat
      have ck := cK_r (a := a) (b := b) (c := c) (d := d) (e := e) k.toNat
      have cs := cK_S (a := a) (b := b) (c := c) (d := d) (e := e) k0
      have cm := cK_mono (a := a) (b := b) (c := c) (d := d) (e := e) (m := (k + 1).toNat) (n := 20) (by omega)
      have e2 : ω 64 2 = σ 64 2 + cK a b c d e k.toNat := by rw [hk.2, n2]
      refine bR_feed_62 (d := 997) ⟨⟨by omega, by omega⟩, fun z => absurd z (by omega), fun _ => byteR 997 ⟨by omega, by omega⟩ ⟨by unfold Bk; exact ⟨by omega, by omega⟩, fun z => ?_, fun z => ⟨by rw [e2]; omega, ?_, ?_⟩⟩⟩
      · refine g ω _ so ?_
        rw [fK_S k0]
        unfold apS; rw [if_pos z]; exact hk
      · rw [show nz (Bk a b c d e k) = 1 from if_neg z] at cs
        rw [e2]; omega
      · refine g _ _ ((so.ups rfl (Or.inl (by decide))).ups rfl (Or.inr rfl)) ?_
        rw [fK_S k0]
        unfold apS; rw [if_neg z]
        refine ⟨?_, ?_⟩
        · rw [ups_ne (by decide), ups_row, hk.1, hk.2]
        · rw [ups_hit, hk.2]
    · intro ω u so hk
      have e20 : (20 : Int).toNat = 20 := rfl
      rw [e20] at hk
      have n2 := fK_n (a := a) (b := b) (c := c) (d := d) (e := e) (s := (σ 65, σ 64 2)) 20
      have e2 : ω 64 2 = σ 64 2 + cK a b c d e 20 := by rw [hk.2, n2]
      refine bR_feed_62 (d := 997) ⟨by decide, fun _ => ?_, fun z => absurd z (by decide)⟩
      have ss : Sm σ ω [12, 13, 64, 65] [2] := (sm.mono (by decide) (by decide)).trans (so.mono (by decide) (by decide))
      refine ⟨⟨e2.symm, ⟨by omega, by omega⟩⟩, ⟨ss.1 0 rfl, ss.1 1 rfl⟩, hI.tape ss ?_⟩
      have tr : TpR (σ 13, σ 12 1) (σ 65, σ 64 2) := ⟨t1, by show 0 ≤ σ 12 1; omega, fun i i0 i1 => t4 i i0 (by rw [← t1]; exact i1)⟩
      have t20 := tr.fK (a := a) (b := b) (c := c) (d := d) (e := e) 20
      obtain ⟨u1, u2, u3⟩ := t20
      have w13 : ω 13 = (fK a b c d e (σ 13, σ 12 1) 20).1 := by rw [so.1 13 rfl, c13]
      have w12 : ω 12 1 = (fK a b c d e (σ 13, σ 12 1) 20).2 := by rw [so.1 12 rfl, c12]
      refine ⟨by rw [w12, hk.2]; exact u1, by rw [e2]; omega, by rw [e2]; exact fit, fun i i0 i1 => ?_⟩
      rw [w13, hk.1]
      exact u3 i i0 (by rw [u1, ← hk.2]; exact i1)
  · refine pair_q (v := -1) hI (by decide) ?_ ?_
    · exact bF_feed_in (d := 997) (bytesC 997 (bytesC 997 (bytesC 997 (bytesC 997 (bytesC 997 ⟨by rw [t1]; exact ⟨by omega, by omega⟩, fun z => absurd z (by rw [t1]; omega), fun _ => ⟨rfl, rfl⟩⟩)))))
    · exact cnt σ _ rfl (fun z => absurd z fit) (fun _ => ⟨rfl, rfl⟩)
