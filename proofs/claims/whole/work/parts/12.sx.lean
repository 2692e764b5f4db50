/-! ===== SOUNDNESS: what the abstract machine asks is enough for the machine ===== -/
def Cx (G : GP) (d M : Nat) (p : Program) (R : Room) (s : State) (m : MethodId) (args : Array Value) (c : Code) : Prop :=
  p.tables.exec = Jvm.exec ∧ c.code = byt M ∧ c.maxLocals = (mtb M).2.1 ∧ s.vm.findClass (cnm (own M)) = some m.cls ∧ (∀ w ∈ TB, w.before args s = true) ∧ Kx G s ∧ AdOk (gA G) (gB G) ∧ d ≤ R.frames ∧ 64 * d ≤ R.locals ∧ (d = 1000 → KE G s)
def retOk (M pc : Nat) : RV → Prop
  | none => decode (byt M) pc = .ok (.return_, 1) ∧ rty M = none
  | some (.inl w) => decode (byt M) pc = .ok (.ireturn, 1) ∧ (rty M = some .int ∨ rty M = some .boolean ∧ (w = 0 ∨ w = 1))
  | some (.inr (.inr (.inl _))) => decode (byt M) pc = .ok (.lreturn, 1) ∧ rty M = some .long
  | _ => False
/-- from an abstract place the machine comes to Z, if it does so from every return -/
def noE : Nat → Lo → List AV → Mem → Prop := fun _ _ _ _ => False
def SX (l : Launch) (G : GP) (E : Nat → Lo → List AV → Mem → Prop) : Cfg := fun d M pc ls st σ Q =>
  ∀ (p : Program) (e : Env) (R : Room) (s : State) (m : MethodId) (args : Array Value) (below : List Frame) (meth : Method) (c : Code) (cb kc sb ks : Nat) (e0 : Int) (Z : State → Prop),
    Cx G d M p R s m args c → cb + kc * 600 ≤ R.cells → sb + ks * 600 ≤ R.slots →
    ((∀ (pc : Nat) (als : Array Slot) (H : Heap) (locs : List Loc) (r : RV) (τ : Mem), Q r τ → Rel G τ H → (∀ q ∈ locs, gB G ≤ q.base) → (d = 1000 ∨ τ 0 2 = e0) → retOk M pc r → W p l e R s m args below meth c H locs (cb + kc * (τ 0 2).toNat) (sb + ks * (τ 0 2).toNat) Z (F0 m pc als (r.toList.map (cv (gA G))))) ∧
    (∀ (pc : Nat) (ls : Lo) (st : List AV) (τ : Mem) (als : Array Slot) (H : Heap) (locs : List Loc), E pc ls st τ → Rel G τ H → (∀ q ∈ locs, gB G ≤ q.base) → LR (gA G) ls als → (d = 1000 ∨ τ 0 2 = e0) → W p l e R s m args below meth c H locs (cb + kc * (τ 0 2).toNat) (sb + ks * (τ 0 2).toNat) Z (F0 m pc als (st.map (cv (gA G)))))) →
    ∀ (H : Heap) (locs : List Loc) (als : Array Slot), Rel G σ H → (∀ q ∈ locs, gB G ≤ q.base) → LR (gA G) ls als → ls.length = (mtb M).2.1 → (d = 1000 ∨ σ 0 2 = e0) → ((kc = 0 ∧ ks = 0 ∧ d < 1000) ∨ ((1 ≤ kc ∧ 6 ≤ ks) ∧ (σ 0 2).toNat ≤ 600)) →
    W p l e R s m args below meth c H locs (cb + kc * (σ 0 2).toNat) (sb + ks * (σ 0 2).toNat) Z (F0 m pc als (st.map (cv (gA G))))
section SND
variable {l : Launch} {G : GP} {E : Nat → Lo → List AV → Mem → Prop} {d M pc pc' : Nat} {ls ls' : Lo} {st st' : List AV} {σ σ' : Mem} {Q : RV → Mem → Prop}
theorem sx_rd (h : SX l G E d M pc' ls st' σ Q) (hw : ∀ (p : Program) (e : Env) (R : Room) (s : State) (m : MethodId) (args : Array Value) (below : List Frame) (meth : Method) (c : Code) (H : Heap) (locs : List Loc) (cells slots : Nat) (Z : State → Prop) (als : Array Slot), Cx G d M p R s m args c → Rel G σ H → LR (gA G) ls als →
      W p l e R s m args below meth c H locs cells slots Z (F0 m pc' als (st'.map (cv (gA G)))) → W p l e R s m args below meth c H locs cells slots Z (F0 m pc als (st.map (cv (gA G))))) : SX l G E d M pc ls st σ Q := by
  intro p e R s m args below meth c cb kc sb ks e0 Z hC hc1 hs1 hend H locs als hR hl hL hn hz hk
  exact hw p e R s m args below meth c H locs _ _ Z als hC hR hL (h p e R s m args below meth c cb kc sb ks e0 Z hC hc1 hs1 hend H locs als hR hl hL hn hz hk)
/-- an instruction over the stack alone -/
theorem sx_k (h : SX l G E d M pc' ls st' σ Q) (hw : ∀ (p : Program) (e : Env) (R : Room) (s : State) (m : MethodId) (args : Array Value) (below : List Frame) (meth : Method) (c : Code) (H : Heap) (locs : List Loc) (cells slots : Nat) (Z : State → Prop) (als : Array Slot), p.tables.exec = Jvm.exec → c.code = byt M →
      W p l e R s m args below meth c H locs cells slots Z (F0 m pc' als (st'.map (cv (gA G)))) → W p l e R s m args below meth c H locs cells slots Z (F0 m pc als (st.map (cv (gA G))))) : SX l G E d M pc ls st σ Q :=
  sx_rd h (fun p e R s m args below meth c H locs cells slots Z als hC _ _ k => hw p e R s m args below meth c H locs cells slots Z als hC.1 hC.2.1 k)
theorem sx_st (hk : Nat) (hkl : hk < ls.length) {v : AV} (h : SX l G E d M pc' (setL (some v) hk ls) st' σ Q) (hw : ∀ (p : Program) (e : Env) (R : Room) (s : State) (m : MethodId) (args : Array Value) (below : List Frame) (meth : Method) (c : Code) (H : Heap) (locs : List Loc) (cells slots : Nat) (Z : State → Prop) (als : Array Slot), p.tables.exec = Jvm.exec → c.code = byt M → lv_has als ls.length (lvl (gA G) 0 ls) →
      (∀ als' : Array Slot, lv_has als' ls.length ((hk, cv (gA G) v) :: (lvl (gA G) 0 ls).filter (fun q => !(q.1 == hk) && !(q.1 + 1 == hk && q.2.category == 2))) → W p l e R s m args below meth c H locs cells slots Z (F0 m pc' als' (st'.map (cv (gA G))))) → W p l e R s m args below meth c H locs cells slots Z (F0 m pc als (st.map (cv (gA G))))) : SX l G E d M pc ls st σ Q := by
  intro p e R s m args below meth c cb kc sb ks e0 Z hC hc1 hs1 hend H locs als hR hl hL hn hz hk2
  exact hw p e R s m args below meth c H locs _ _ Z als hC.1 hC.2.1 hL (fun als' hl' => h p e R s m args below meth c cb kc sb ks e0 Z hC hc1 hs1 hend H locs als' hR hl (LR.st1 hkl hl') (by rw [setL_len]; exact hn) hz hk2)
theorem sx_ldI {k : Nat} {g : Int → Prop} (h : ldI ls k g) (hg : ∀ w, ls[k]? = some (some (.inl w)) → g w → SX l G E d M pc ls st σ Q) : SX l G E d M pc ls st σ Q := by
  unfold ldI at h; split at h
  · rename_i w e; exact hg w e h
  · exact h.elim
theorem sx_ldJ {k : Nat} {g : Int → Prop} (h : ldJ ls k g) (hg : ∀ w, ls[k]? = some (some (.inr (.inr (.inl w)))) → g w → SX l G E d M pc ls st σ Q) : SX l G E d M pc ls st σ Q := by
  unfold ldJ at h; split at h
  · rename_i w e; exact hg w e h
  · exact h.elim
theorem sx_ldA {k : Nat} {g : AV → Prop} (h : ldA ls k g) (hg : ∀ w, ls[k]? = some (some w) → (∃ a, cv (gA G) w = .ref a) → g w → SX l G E d M pc ls st σ Q) : SX l G E d M pc ls st σ Q := by
  unfold ldA at h; split at h
  · rename_i w e; exact hg _ e ⟨_, rfl⟩ h
  · rename_i w e; obtain ⟨o, i⟩ := w; exact hg _ e ⟨_, rfl⟩ h
  · exact h.elim
end SND
