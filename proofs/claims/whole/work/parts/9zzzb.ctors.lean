/-! ===== contracts of constructors, and their calls ===== -/
def PcI (g : GV) (σ : PS) (vs : List Value) : Array Value → State → Prop := fun a U => PcG g σ vs a U ∧ va_AO RX3 U
/-- constructor y, called at store σ with these values, returns, and the store behind it is as Post says -/
def CtI (g : GV) (y : MethodName) (cy : ByteArray) (nLy d mc ms : Nat) (vs : List Value) (σ : PS) (Post : PS → Prop) : Prop :=
  Met (gl g) y (.code y cy nLy none :: lwG) (rmO d mc ms) (PcI g σ vs) (QcG g (PV Post)) mc ms (Ag g)
def ZI (g : GV) (a0 mc ms : Nat) (Post : PS → Prop) : ZC := fun _ _ _ s _ args below meth _ Q => Q = MQ below (QcG g (PV Post)) args s mc ms (Ag g) ∧ meth.sig.returnType = none ∧ meth.locks = false ∧ meth.name = "<init>" ∧ va_AO RX3 s ∧ s.heap.size = gN g + (a0 - 10)
theorem ZI.ao {g : GV} {a0 mc ms : Nat} {P : PS → Prop} : ∀ p e R s m args below meth c Q, ZI g a0 mc ms P p e R s m args below meth c Q → va_AO RX3 s := fun _ _ _ _ _ _ _ _ _ _ h => h.2.2.2.2.1
theorem ZI.nm {g : GV} {a0 mc ms : Nat} {P : PS → Prop} : ∀ p e R s m args below meth c Q, ZI g a0 mc ms P p e R s m args below meth c Q → meth.name = "<init>" := fun _ _ _ _ _ _ _ _ _ _ h => h.2.2.2.1
theorem ZI.hs {g : GV} {a0 mc ms : Nat} {P : PS → Prop} : ∀ p e R s m args below meth c Q, ZI g a0 mc ms P p e R s m args below meth c Q → s.heap.size = gN g + (a0 - 10) := fun _ _ _ _ _ _ _ _ _ _ h => h.2.2.2.2.2
theorem x_entryI {g : GV} {y : MethodName} {cy : ByteArray} {nLy d mc ms a0 : Nat} {vs : List Value} {σ : PS} {Post : PS → Prop} {L : List (Option Value)} (hy : plainName y.cls = true) (hy1 : y.name = "<init>") (ha : nx σ = a0) (hn : ((vs.map fun v => if v.category = 2 then 2 else 1).sum) ≤ nLy) (hL : ∃ k, L = argL vs ++ List.replicate k none)
    (h : X g (ZI g a0 mc ms Post) y.cls cy nLy d mc ms 0 0 0 L [] σ) : CtI g y cy nLy d mc ms vs σ Post := by
  refine Met.ofW (cc := cy) (maxL := nLy) (ret := none) hy rfl ?_
  intro p e s m args below meth c s₁ B hml hv
  obtain ⟨⟨rfl, hK, hZ, hN, hR⟩, hao⟩ := hv
  have hts := atoms_spec (ws := .code y cy nLy none :: lwG) B.pre
  rw [lg_entry_eq]
  have hlen : (lg_sl (vs.map (mv g))).length ≤ nLy := by
    refine Nat.le_trans (Nat.le_of_eq ?_) hn
    clear h hL hn hR hts B
    induction vs with
    | nil => rfl
    | cons v vs ih =>
      have hc := mv_cat g v
      simp only [lg_sl, List.map_cons, List.flatMap_cons, List.length_append, List.sum_cons] at ih ⊢
      rw [ih, hc]
      by_cases h2 : v.category = 2 <;> simp [h2]
  have hsz : s.heap.size = gN g + (a0 - 10) := by rw [← ha]; exact hR.2.1
  exact h p e _ s m _ below meth c _ ⟨rfl, B.returns, B.notSynchronized, (name_of_methodNamed B.named B.method).1.trans hy1, hao, hsz⟩ ⟨B.exec, B.bytes, hml, findClass_of_methodNamed B.named, fun w hw => hts w (List.mem_cons_of_mem _ hw), hK, hZ, hN, rfl, rfl, Nat.le_refl _, Nat.le_refl _⟩ (Nat.zero_le _) (Nat.zero_le _) s.heap [] _ hR va_S.rf (LR.entry hlen hL)
section XI
variable {g : GV} {Z : ZC} {own : String} {cc : ByteArray} {nL d mc ms k n pc : Nat} {L : List (Option Value)} {st : List Value} {σ : PS}
theorem x_vretI {a0 : Nat} {P : PS → Prop} (hdg : decode cc pc = .ok (.return_, 1)) (hp : P σ) : X g (ZI g a0 mc ms P) own cc nL d mc ms k n pc L [] σ := by
  intro p e R s m args below meth c Q hZ
  exact x_vret (ret := none) (Post := PV P) rfl hdg ⟨rfl, hp⟩ p e R s m args below meth c Q ⟨hZ.1, hZ.2.1, hZ.2.2.1⟩
theorem PcI_blind (σ : PS) (vs : List Value) : FrameBlind (PcI g σ vs) := fun a U gf mk q => ⟨PcG_blind σ vs a U gf mk q.1, va_AO.moved (u := U) (U := U.calling gf mk a) (Vm.Alike.refl U.vm) q.2⟩
theorem x_callI {y : MethodName} {cy : ByteArray} {nLy ix mc' ms' id : Nat} {As : List Value} {Post : PS → Prop} {sa0 : List Value} (hao : ∀ p e R s m args below meth c Q, Z p e R s m args below meth c Q → va_AO RX3 s) (hdg : decode cc pc = .ok (.invokespecial ix, 3)) (w1 : Cond.methodLink own ix y ∈ lwG) (w2 : Cond.instanceMethod y ∈ lwG) (w4 : Cond.initialized y.cls ∈ lwG) (w5 : Cond.code y cy nLy none ∈ lwG) (hy1 : y.name = "<init>")
    (hd : y.cls ≠ "java/lang/invoke/MethodHandle" ∧ y.cls ≠ "java/lang/invoke/VarHandle" ∧ (parseMethodDescriptor y.desc).map (fun d => d.parameters.length) = some As.length) (hst : (st.map fun v => v.category).sum ≤ 8) (hnL : nLy ≤ 45) (hmc : k + mc' ≤ mc) (hms : n + ms' ≤ ms) (hsa : sa0 = As.reverse ++ .ref id :: st)
    (hM : CtI g y cy nLy d mc' ms' (.ref id :: As) σ Post) (h : ∀ σ1, Post σ1 → X g Z own cc nL (d + 1) mc ms (k + mc') (n + ms') (pc + 3) L st σ1) : X g Z own cc nL (d + 1) mc ms k n pc L sa0 σ := by
  intro p e R s m args below meth c Q hZ hB hk hn H locs ls hR hS hL
  subst hsa
  have ee : (As.reverse ++ Value.ref id :: st).map (mv g) = (As.map (mv g)).reverse ++ .ref (adr g id) :: st.map (mv g) := by simp [List.map_append, List.map_reverse, mv]
  rw [ee]
  have hts := hB.2.2.2.2.1
  refine x_back (va_runI (As := As.map (mv g)) (rest := st.map (mv g)) (Ts := lwG) ⟨hB.1, hB.2.1, hB.2.2.1, hB.2.2.2.1, hB.2.2.2.2.1⟩ hM (cwI As.length hB.2.2.2.2.1 ?_ rfl rfl rfl (hts _ w4) (hts _ w1) (hts _ w2) hy1 hd ?_) ⟨PcI_blind σ _, fun U hU hW => ⟨x_pre hB hR hS U hU hW, va_AO.moved hW.alike (hao _ _ _ _ _ _ _ _ _ _ hZ)⟩⟩ rfl (by simp) hL.1 rfl (lv_room (by rw [cat_map]; exact hst)) hdg ?_) hS (fun r σ1 H1 locs1 hR1 hp hS1 => ?_)
  · intro w hw
    rcases List.mem_cons.mp hw with rfl | hw
    · exact lwG_good _ w5
    · exact lwG_good _ hw
  · obtain ⟨-, -, -, -, -, -, -, -, -, -, b1, b2⟩ := hB
    exact ⟨by show 16 + d + 1 ≤ R.frames; omega, by show 8 + (nLy + 11) + (1024 + 64 * d) ≤ R.locals; omega⟩
  · obtain ⟨-, -, -, -, -, -, -, -, c1, c2, -, -⟩ := hB
    rw [c1, c2]
    exact ⟨hmc, hms⟩
  · obtain ⟨rfl, hp⟩ := hp
    exact h σ1 hp p e R s m args below meth c Q hZ hB hmc hms H1 locs1 ls hR1 hS1 hL
theorem x_callIN {y : MethodName} {host : String} {cy : ByteArray} {nLy ix mc' ms' id : Nat} {As : List Value} {Post : PS → Prop} {sa0 : List Value} (hao : ∀ p e R s m args below meth c Q, Z p e R s m args below meth c Q → va_AO RX3 s) (hdg : decode cc pc = .ok (.invokespecial ix, 3)) (w1 : (own, ix, y, host) ∈ znM) (w2 : Cond.instanceMethod y ∈ lwG) (w4 : Cond.initialized y.cls ∈ lwG) (w5 : Cond.code y cy nLy none ∈ lwG) (hy1 : y.name = "<init>")
    (hd : y.cls ≠ "java/lang/invoke/MethodHandle" ∧ y.cls ≠ "java/lang/invoke/VarHandle" ∧ (parseMethodDescriptor y.desc).map (fun d => d.parameters.length) = some As.length) (hst : (st.map fun v => v.category).sum ≤ 8) (hnL : nLy ≤ 45) (hmc : k + mc' ≤ mc) (hms : n + ms' ≤ ms) (hsa : sa0 = As.reverse ++ .ref id :: st)
    (hM : CtI g y cy nLy d mc' ms' (.ref id :: As) σ Post) (h : ∀ σ1, Post σ1 → X g Z own cc nL (d + 1) mc ms (k + mc') (n + ms') (pc + 3) L st σ1) : X g Z own cc nL (d + 1) mc ms k n pc L sa0 σ := by
  intro p e R s m args below meth c Q hZ hB hk hn H locs ls hR hS hL
  subst hsa
  have ee : (As.reverse ++ Value.ref id :: st).map (mv g) = (As.map (mv g)).reverse ++ .ref (adr g id) :: st.map (mv g) := by simp [List.map_append, List.map_reverse, mv]
  rw [ee]
  have hts := hB.2.2.2.2.1
  have hZs : Zs g s s.heap := hB.2.2.2.2.2.2.1
  have hw := hZs.2.2.2.2.2.2.2.2.2.2.2.2.1 _ w1
  refine x_back (va_runIN (As := As.map (mv g)) (rest := st.map (mv g)) (Ts := lwG) ⟨hB.1, hB.2.1, hB.2.2.1, hB.2.2.2.1, hB.2.2.2.2.1⟩ hM ⟨va_cnB As.length hB.2.2.2.2.1 ?_ rfl rfl rfl hw (hts _ w4) hd ?_, hy1, hts _ w2⟩ ⟨PcI_blind σ _, fun U hU hW => ⟨x_pre hB hR hS U hU hW, va_AO.moved hW.alike (hao _ _ _ _ _ _ _ _ _ _ hZ)⟩⟩ rfl (by simp) hL.1 rfl (lv_room (by rw [cat_map]; exact hst)) hdg ?_) hS (fun r σ1 H1 locs1 hR1 hp hS1 => ?_)
  · intro w hw
    rcases List.mem_cons.mp hw with rfl | hw
    · exact lwG_good _ w5
    · exact lwG_good _ hw
  · obtain ⟨-, -, -, -, -, -, -, -, -, -, b1, b2⟩ := hB
    exact ⟨by show 16 + d + 1 ≤ R.frames; omega, by show 8 + (nLy + 11) + (1024 + 64 * d) ≤ R.locals; omega⟩
  · obtain ⟨-, -, -, -, -, -, -, -, c1, c2, -, -⟩ := hB
    rw [c1, c2]
    exact ⟨hmc, hms⟩
  · obtain ⟨rfl, hp⟩ := hp
    exact h σ1 hp p e R s m args below meth c Q hZ hB hmc hms H1 locs1 ls hR1 hS1 hL
theorem x_backN {p : Program} {e : Env} {R : Room} {s : State} {m : MethodId} {args : Array Value} {below : List Frame} {meth : Method} {c : Code} {Q : State → Prop} {H : Heap} {locs : List Loc} {ls : Array Slot} {mc' ms' : Nat} {rest st0 : List Value} {a : Array Value} {Post : Option Value → PS → Prop}
    (hr : va_Run p (gl g) e R s m args below meth c H locs k n mc' ms' (F0 m pc ls st0) rest (QcG g Post a) (Ag g)) (hS : va_S (Ag g) s.heap H locs)
    (kk : ∀ (r : Option Value) (σ1 : PS) (H1 : Heap) (locs1 : List Loc), Rel g σ1 H1 → Post r σ1 → va_S (Ag g) s.heap H1 locs1 → H.size ≤ H1.size → H1.size ≤ s.heap.size + (k + mc') → W p (gl g) e R s m args below meth c H1 locs1 (k + mc') (n + ms') Q (F0 m (pc + 3) ls ((r.map (mv g)).toList ++ rest))) : W p (gl g) e R s m args below meth c H locs k n Q (F0 m pc ls st0) := by
  intro T hT X
  obtain ⟨v, st₀, t, T', Lc, h0, X', hLc, e1, e2, ⟨⟨r, σ1, hv, hrel, hpost⟩, hz, hk⟩, st⟩ := hr T hT X
  have hv' : v = r.map (mv g) := Outcome.returned.inj hv
  subst hv'
  rw [h0] at hz hk
  obtain ⟨t2, a1, b1⟩ := kk r σ1 T'.heap (locs ++ Lc) (by rw [e1]; exact hrel) hpost
    ⟨Nat.le_trans hS.1 (by rw [e1]; exact hz), fun q h1 h2 => by rw [e1, hk q (Nat.lt_of_lt_of_le h1 hS.1) h2]; exact hS.2.1 q h1 h2, fun q hq => by
      rcases List.mem_append.mp hq with h | h
      · exact hS.2.2 q h
      · exact hLc q h⟩ (by rw [e1]; exact hz) X'.heapSize T' rfl X'
  exact ⟨t2, st t2 a1, b1⟩
/-- a call that makes nothing: the next number stays -/
theorem x_callVN {y : MethodName} {cy : ByteArray} {nLy ix ci N id a0 : Nat} {T : u_T} {As : List Value} {P : PS → Prop} {sa0 : List Value} (hh : ∀ p e R s m args below meth c Q, Z p e R s m args below meth c Q → s.heap.size = gN g + (a0 - 10)) (h10 : 10 ≤ a0) (hnx : nx σ = a0 + k) (hdg : decode cc pc = .ok (.invokevirtual ix, 3)) (w1 : Cond.methodLink own ix y ∈ lwG) (w2 : Cond.instanceMethod y ∈ lwG) (w3 : Cond.selects y.cls y y ∈ lwG) (w4 : Cond.initialized y.cls ∈ lwG) (w5 : Cond.code y cy nLy none ∈ lwG)
    (hd : y.cls ≠ "java/lang/invoke/MethodHandle" ∧ y.cls ≠ "java/lang/invoke/VarHandle" ∧ (parseMethodDescriptor y.desc).map (fun d => d.parameters.length) = some As.length) (hc : cl13[ci]? = some (y.cls, T, N)) (hkd : kd σ id = some (.inl ci)) (hst : (st.map fun v => v.category).sum ≤ 8) (hnL : nLy ≤ 45) (hsa : sa0 = As.reverse ++ .ref id :: st)
    (hM : Ct g y cy nLy none d 0 0 (.ref id :: As) σ (PV P)) (h : ∀ σ1, P σ1 → nx σ1 = nx σ → X g Z own cc nL (d + 1) mc ms k n (pc + 3) L st σ1) : X g Z own cc nL (d + 1) mc ms k n pc L sa0 σ := by
  intro p e R s m args below meth c Q hZ hB hk hn H locs ls hR hS hL
  subst hsa
  have ee : (As.reverse ++ Value.ref id :: st).map (mv g) = (As.map (mv g)).reverse ++ .ref (adr g id) :: st.map (mv g) := by simp [List.map_append, List.map_reverse, mv]
  rw [ee]
  have hK : Kt g s := hB.2.2.2.2.2.1
  have hs0 := hh _ _ _ _ _ _ _ _ _ _ hZ
  obtain ⟨r0, h1, cell, q1, q2, q3, -⟩ := hR.obj hkd
  have hr0 : r0 = (y.cls, T, N) := Option.some.inj (h1.symm.trans hc)
  subst hr0
  refine x_backN (mc' := 0) (ms' := 0) (va_runV (As := As.map (mv g)) (rest := st.map (mv g)) (Ts := lwG) ⟨hB.1, hB.2.1, hB.2.2.1, hB.2.2.2.1, hB.2.2.2.2.1⟩ hM (cwV As.length hB.2.2.2.2.1 ?_ rfl rfl rfl ⟨rfl, hd⟩ ?_) ⟨PcG_blind σ _, ⟨cell, q1, by rw [q3]; rfl, by rw [q2]; exact (hK.1 ci _ hc).2.1⟩, x_pre hB hR hS⟩ rfl (by simp) hL.1 rfl (lv_room (by rw [cat_map]; exact hst)) hdg ?_) hS (fun r σ1 H1 locs1 hR1 hp hS1 hz1 hz2 => ?_)
  · intro w hw
    unfold wsV at hw
    rcases List.mem_append.mp hw with hw | hw
    · simp only [List.mem_cons, List.not_mem_nil, or_false] at hw
      rcases hw with rfl | rfl | rfl | rfl
      · exact lwG_good _ w1
      · exact lwG_good _ w2
      · exact lwG_good _ w3
      · exact lwG_good _ w4
    · rcases List.mem_cons.mp hw with rfl | hw
      · exact lwG_good _ w5
      · exact lwG_good _ hw
  · obtain ⟨-, -, -, -, -, -, -, -, -, -, b1, b2⟩ := hB
    exact ⟨by show 16 + d + 1 ≤ R.frames; omega, by show 8 + (nLy + 11) + (1024 + 64 * d) ≤ R.locals; omega⟩
  · obtain ⟨-, -, -, -, -, -, -, -, c1, c2, -, -⟩ := hB
    rw [c1, c2]
    exact ⟨hk, hn⟩
  · obtain ⟨rfl, hp⟩ := hp
    have g1 := hR1.1
    have g2 := hR1.2.1
    have g3 := hR.2.1
    exact h σ1 hp (by omega) p e R s m args below meth c Q hZ hB hk hn H1 locs1 ls hR1 hS1 hL
end XI
