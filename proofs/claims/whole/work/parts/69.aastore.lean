/-! ===== a row into an array of rows; the class's begin ===== -/
theorem sr_mi (σ : PS) (a : Nat) (f : Nat → Option Nat) : mi (sr σ a f) = mi σ ∧ ml (sr σ a f) = ml σ := ⟨rfl, rfl⟩
theorem as_self (vm : Vm) (c : ClassId) : vm.assignable c c = true := by
  show vm.assignableAux _ c c = true
  unfold Vm.assignableAux
  simp
theorem x_aast {g : GV} {Z : ZC} {own : String} {cc : ByteArray} {nL d mc ms k n pc : Nat} {L : List (Option Value)} {st : List Value} {σ : PS} {id z v nv : Nat} {i : Int32} (hkd : kd σ id = some (.inr (5, z))) (hv : kd σ v = some (.inr (0, nv))) (hin : vp_in i z) (hdg : decode cc pc = .ok (.aastore, 1)) (h : X g Z own cc nL d mc ms k n (pc + 1) L st (sq σ id i.toNatClampNeg (some v))) : X g Z own cc nL d mc ms k n pc L (.ref v :: .int i :: .ref id :: st) σ := by
  intro p e R s m args below meth c Q hZ hB hk hn H locs ls hR hS hL
  have hK : Kt g s := hB.2.2.2.2.2.1
  have hZs : Zs g s s.heap := hB.2.2.2.2.2.2.1
  obtain ⟨kA, ka1, ka2⟩ := hZs.2.2.2.2.2.2.2.2.2.2.2.2.2.2.2
  have hfc : s.vm.findClass ("[" ++ (FieldType.int).toString) = some (gA g 0) := (hK.2 0 _ rfl).2
  obtain ⟨kI, hkI, -⟩ := Vm.findClass_spec hfc
  have hlt : i.toNatClampNeg < z := Nat.not_le.mp fun q => hin (Or.inr q)
  have h0 : ¬ i < 0 := fun q => hin (Or.inl q)
  have ha := hR.arr hkd
  have hva := hR.arr hv
  refine W.aast (v := adr g v) hB.1 hB.2.1 ha (fun q h => by cases h) (fun h => by cases h) ka1 ka2 rfl hkI ⟨h0, by show _ < (arrV _ _ _).slots.size; rw [arrV_size]; exact hlt⟩ hva (fun q h => by cases h) hkI (as_self _ _) rfl rfl hdg fun H1 e1 z1 oq => ?_
  refine h p e R s m args below meth c Q hZ hB hk hn H1 _ ls (hR.put hkd z1 oq rfl rfl (fun b hb => ⟨rfl, rfl, sr_mr_ne _ hb⟩) ?_) (hS.put z1 oq (adr_A (hR.at hkd).1)) hL
  unfold RelAt
  rw [show kd (sq σ id i.toNatClampNeg (some v)) = kd σ from rfl, hkd]
  show H1[adr g id]? = some (vp_cell (gA g 5) (z, .inr (.inr (.inr (.inr (fun j => (mr (sq σ id i.toNatClampNeg (some v)) id j).map (adr g)))))))
  rw [show mr (sq σ id i.toNatClampNeg (some v)) id = va_up (mr σ id) i.toNatClampNeg (some v) from sr_mr id _]
  rw [e1]
  show some ((vp_cell (gA g 5) (z, .inr (.inr (.inr (.inr (fun j => (mr σ id j).map (adr g))))))).setSlot _ _) = _
  rw [vp_cell_q, vp_cell_q, arrV_store]
  congr 2
  funext q
  by_cases hq : q = i.toNatClampNeg
  · subst hq
    simp [updV, va_up, va_rf]
  · simp [updV, va_up, hq]
theorem lay39 : ∀ q ∈ layR, q.1 ≠ 39 := by decide +kernel
theorem Lay.sq39 {s : PS} {i : Nat} {v : Option Nat} (h : Lay s) : Lay (sq s 39 i v) := by
  refine ⟨h.1, fun q hq => ?_⟩
  have := lay39 q hq
  rw [show mr (sq s 39 i v) q.1 = mr s q.1 from sr_mr_ne _ this]
  exact h.2 q hq
