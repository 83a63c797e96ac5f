theorem mt_ofWH {l : Launch} {y : MethodName} {ws ws' : List Cond} {rm : Room} {Pc : Array Value → State → Prop} {Qc : Array Value → State → Outcome → State → Prop} {mc ms : Nat} {free : Addr → Prop} {cc : ByteArray} {maxL : Nat} {ret : Option FieldType} {hh : List (Nat × Nat × Nat × Nat)}
    (hy : plainName y.cls = true) (hw : ws = Cond.codeWith y cc maxL ret hh :: ws')
    (body : ∀ p e s m args below meth c s₁, BodyLoose p l y (headSpec ws rm) cc maxL ret e s m args below meth c s₁ → c.maxLocals = maxL → Pc args s →
      W p l e (headSpec ws rm).room s m args below meth c s.heap [] 0 0 (MQ below Qc args s mc ms free) (entryFrame m args maxL)) : Met l y ws rm Pc Qc mc ms free := by
  refine MetFree.of_bodyS (code := cc) (maxLocals := maxL) (ret := ret) hy ?_ ?_
  · intro args s m h hn
    obtain ⟨m9, meth, c, hn9, h1, h2, h3, h4, -, h5, h6, -⟩ := Cond.codeWith_spec (atoms_spec (ws := ws) h _ (by rw [hw]; exact List.mem_cons_self))
    cases hn.symm.trans hn9
    exact ⟨meth, c, h1, h2, h3, h4, h5, h6⟩
  · intro p e s m args below meth c s₁ B hml hP _
    have hh0 : s₁.heap = s.heap := by rw [B.state]; rfl
    obtain ⟨t, a1, o, b1, b2, b3⟩ := body p e s m args below meth c s₁ B hml hP s₁ hh0 (Stand.of_body B)
    exact ⟨t, o, a1, b1, b2, b3⟩
/-- like Ct, for a method with a table of handlers -/
def CtW (g : GV) (y : MethodName) (cy : ByteArray) (nLy : Nat) (ret : Option FieldType) (hh : List (Nat × Nat × Nat × Nat)) (d mc ms : Nat) (vs : List Value) (σ : PS) (Post : Option Value → PS → Prop) : Prop :=
  Met (gl g) y (.codeWith y cy nLy ret hh :: lwG) (rmO d mc ms) (PcN g σ vs) (QcG g Post) mc ms (Ag g)
def ZMW (g : GV) (ret : Option FieldType) (hh : List (Nat × Nat × Nat × Nat)) (mc ms : Nat) (Post : Option Value → PS → Prop) : ZC := fun _ _ _ s _ args below meth c Q =>
  Q = MQ below (QcG g Post) args s mc ms (Ag g) ∧ meth.sig.returnType = ret ∧ meth.locks = false ∧ c.exceptionTable.toList = tableOf hh ∧ nsW s
theorem PcN_blind {g : GV} (σ : PS) (vs : List Value) : FrameBlind (PcN g σ vs) := by
  intro a U gf mk q
  exact ⟨PcG_blind σ vs a U gf mk q.1, nsW.moved (u := U) (U := U.calling gf mk a) (Vm.Alike.refl U.vm) q.2⟩
theorem LR.set0 {g : GV} {ls' : Array Slot} {nL i : Nat} {L : List (Option Value)} {w : Value} (ho : okL L i = true) (h : lv_has ls' nL ((i, w) :: ((prs L).map fun q => (q.1, mv g q.2)).filter (fun q => !(q.1 == i) && !(q.1 + 1 == i && q.2.category == 2)))) : LR g ls' nL (L.set i none) := by
  refine ⟨h.1, h.2.1, fun j w hj => ?_⟩
  by_cases e : j = i
  · subst e
    by_cases hl : j < L.length
    · rw [List.getElem?_set_self hl] at hj
      cases Option.some.inj hj
    · rw [List.getElem?_eq_none (by rw [List.length_set]; omega)] at hj
      cases hj
  · rw [List.getElem?_set_ne (fun q => e q.symm)] at hj
    refine h.2.2 (j, mv g w) (List.mem_cons_of_mem _ (List.mem_filter.mpr ⟨List.mem_map.mpr ⟨(j, w), prs_mem hj, rfl⟩, ?_⟩))
    by_cases e2 : j + 1 = i
    · have hc := okL_cat ho hj e2
      simp [e, e2, mv_cat, hc]
    · simp [e, e2]
section XW
variable {g : GV} {own : String} {cc : ByteArray} {nL d mc ms k n pc : Nat} {L : List (Option Value)} {st : List Value} {σ : PS} {ret : Option FieldType} {hh : List (Nat × Nat × Nat × Nat)} {Post : Option Value → PS → Prop} {PX : PS → Prop}
theorem x_ofZW (h : X g (ZM g ret mc ms Post) own cc nL d mc ms k n pc L st σ) : X g (ZMW g ret hh mc ms Post) own cc nL d mc ms k n pc L st σ := by
  intro p e R s m args below meth c Q hZ hB hk hn H locs ls hR hS hL
  obtain ⟨rfl, hrt, hlk, -, -⟩ := hZ
  exact h p e R s m args below meth c _ ⟨rfl, hrt, hlk⟩ hB hk hn H locs ls hR hS hL
theorem x_entryW {y : MethodName} {cy : ByteArray} {nLy : Nat} {vs : List Value} (hy : plainName y.cls = true) (hn : ((vs.map fun v => if v.category = 2 then 2 else 1).sum) ≤ nLy) (hL : ∃ k, L = argL vs ++ List.replicate k none)
    (h : X g (ZMW g ret hh mc ms Post) y.cls cy nLy d mc ms 0 0 0 L [] σ) : CtW g y cy nLy ret hh d mc ms vs σ Post := by
  refine mt_ofWH (cc := cy) (maxL := nLy) (ret := ret) (hh := hh) hy rfl ?_
  intro p e s m args below meth c s₁ B hml hv
  obtain ⟨⟨rfl, hK, hZ, hN, hR⟩, hns⟩ := hv
  have hts := atoms_spec (ws := .codeWith y cy nLy ret hh :: lwG) B.pre
  have htb := vx_table (x := y) B (hts _ List.mem_cons_self)
  rw [lg_entry_eq]
  have hlen : (lg_sl (vs.map (mv g))).length ≤ nLy := by
    refine Nat.le_trans (Nat.le_of_eq ?_) hn
    clear h hL hn hR hts htb B
    induction vs with
    | nil => rfl
    | cons v vs ih =>
      have hc := mv_cat g v
      simp only [lg_sl, List.map_cons, List.flatMap_cons, List.length_append, List.sum_cons] at ih ⊢
      rw [ih, hc]
      by_cases h2 : v.category = 2 <;> simp [h2]
  exact h p e _ s m _ below meth c _ ⟨rfl, B.returns, B.notSynchronized, htb, hns⟩ ⟨B.exec, B.bytes, hml, findClass_of_methodNamed B.named, fun w hw => hts w (List.mem_cons_of_mem _ hw), hK, hZ, hN, rfl, rfl, Nat.le_refl _, Nat.le_refl _⟩ (Nat.zero_le _) (Nat.zero_le _) s.heap [] _ hR va_S.rf (LR.entry hlen hL)
theorem x_backX {p : Program} {e : Env} {R : Room} {s : State} {m : MethodId} {args : Array Value} {below : List Frame} {meth : Method} {c : Code} {Q : State → Prop} {H : Heap} {locs : List Loc} {ls : Array Slot} {mc' ms' : Nat} {rest st0 : List Value} {a : Array Value}
    (hr : vx_Run p (gl g) e R s m args below meth c H locs k n mc' ms' (F0 m pc ls st0) rest (QcG g Post a) (XcG g PX) (Ag g)) (hS : va_S (Ag g) s.heap H locs)
    (kk : ∀ (r : Option Value) (σ1 : PS) (H1 : Heap) (locs1 : List Loc), Rel g σ1 H1 → Post r σ1 → va_S (Ag g) s.heap H1 locs1 → W p (gl g) e R s m args below meth c H1 locs1 (k + mc') (n + ms') Q (F0 m (pc + 3) ls ((r.map (mv g)).toList ++ rest)))
    (kx : ∀ (ce : Cell) (q : Addr) (σ1 : PS) (H1 : Heap) (locs1 : List Loc), Rel g σ1 H1 → PX σ1 → va_S (Ag g) s.heap H1 locs1 → H1[q]? = some ce → ce.vm = .none → s.vm.findClass nsE = some ce.cls → vx_W p (gl g) e R s m args below meth c H1 locs1 (k + mc') (n + ms') Q (F0 m pc ls rest) q) : W p (gl g) e R s m args below meth c H locs k n Q (F0 m pc ls st0) := by
  intro T hT X
  rcases hr T hT X with ⟨v, st₀, t, T', Lc, h0, X', hLc, e1, e2, ⟨⟨r, σ1, hv, hrel, hpost⟩, hF⟩, st⟩ | ⟨q, st₀, t, T', Lc, E, ce, h0, X', hLc, e1, e2, ⟨⟨rfl, σ1, hrel, hpx⟩, hF⟩, hce, hcv, hcl, st⟩
  · have hv' : v = r.map (mv g) := Outcome.returned.inj hv
    subst hv'
    obtain ⟨-, -, k3⟩ := vx_keep h0 e1 hS (fun _ _ h => h) (fun _ h => h) hLc hF
    obtain ⟨t2, a1, b1⟩ := kk r σ1 T'.heap (locs ++ Lc) (by rw [e1]; exact hrel) hpost k3 T' rfl X'
    exact ⟨t2, st t2 a1, b1⟩
  · obtain ⟨-, -, k3⟩ := vx_keep h0 e1 hS (fun _ _ h => h) (fun _ h => h) hLc hF
    obtain ⟨t2, a1, b1⟩ := kx ce q σ1 T'.heap (locs ++ Lc) (by rw [e1]; exact hrel) hpx k3 (by rw [e1]; exact hce) hcv hcl T' rfl X'
    exact ⟨t2, st.trans a1, b1⟩
/-- the call of a method that may throw, and the handler that takes it: it puts the thrown object into local i -/
theorem x_callVX {y : MethodName} {cy : ByteArray} {nLy ix ci N mc' ms' id i hp a0 b0 ct : Nat} {rety : Option FieldType} {T : u_T} {As : List Value} {Posty : Option Value → PS → Prop} {sa0 : List Value} {L1 : List (Option Value)} (hdg : decode cc pc = .ok (.invokevirtual ix, 3)) (w1 : Cond.methodLink own ix y ∈ lwG) (w2 : Cond.instanceMethod y ∈ lwG) (w3 : Cond.selects y.cls y y ∈ lwG) (w4 : Cond.initialized y.cls ∈ lwG) (w5 : Cond.code y cy nLy rety ∈ lwG)
    (hd : y.cls ≠ "java/lang/invoke/MethodHandle" ∧ y.cls ≠ "java/lang/invoke/VarHandle" ∧ (parseMethodDescriptor y.desc).map (fun d => d.parameters.length) = some As.length) (hc : cl13[ci]? = some (y.cls, T, N)) (hkd : kd σ id = some (.inl ci)) (hst : (st.map fun v => v.category).sum ≤ 8) (hnL : nLy ≤ 45) (hmc : k + mc' ≤ mc) (hms : n + ms' ≤ ms) (hsa : sa0 = As.reverse ++ .ref id :: st)
    (hM : CtX g y cy nLy rety d mc' ms' (.ref id :: As) σ Posty PX) (h : ∀ r σ1, Posty r σ1 → X g (ZMW g ret [(a0, b0, hp, ct)] mc ms Post) own cc nL (d + 1) mc ms (k + mc') (n + ms') (pc + 3) L (r.toList ++ st) σ1)
    (hcov : covers ⟨a0, b0, hp, ct⟩ pc = true) (hct : ct ≠ 0) (wl : Cond.classLink own ct nsE ∈ lwG) (hdh : decode cc hp = .ok (.astore i, 2)) (hi : i < nL) (ho : okL L i = true) (hL1 : L.set i none = L1)
    (hx : ∀ σ1, PX σ1 → X g (ZMW g ret [(a0, b0, hp, ct)] mc ms Post) own cc nL (d + 1) mc ms (k + mc') (n + ms') (hp + 2) L1 [] σ1) : X g (ZMW g ret [(a0, b0, hp, ct)] mc ms Post) own cc nL (d + 1) mc ms k n pc L sa0 σ := by
  intro p e R s m args below meth c Q hZ hB hk hn H locs ls hR hS hL
  subst hsa
  subst hL1
  have ee : (As.reverse ++ Value.ref id :: st).map (mv g) = (As.map (mv g)).reverse ++ .ref (adr g id) :: st.map (mv g) := by simp [List.map_append, List.map_reverse, mv]
  rw [ee]
  have hK : Kt g s := hB.2.2.2.2.2.1
  obtain ⟨r0, h1, cell, q1, q2, q3, -⟩ := hR.obj hkd
  have hr0 : r0 = (y.cls, T, N) := Option.some.inj (h1.symm.trans hc)
  subst hr0
  have hZ' := hZ
  obtain ⟨-, -, -, htb, hns⟩ := hZ'
  refine x_backX (vx_runV (As := As.map (mv g)) (rest := st.map (mv g)) (Ts := lwG) ⟨hB.1, hB.2.1, hB.2.2.1, hB.2.2.2.1, hB.2.2.2.2.1⟩ hM (cwV As.length hB.2.2.2.2.1 ?_ rfl rfl rfl ⟨rfl, hd⟩ ?_) ⟨PcN_blind σ _, ⟨cell, q1, by rw [q3]; rfl, by rw [q2]; exact (hK.1 ci _ hc).2.1⟩, fun U hU hW => ⟨x_pre hB hR hS U hU hW, hns.moved hW.alike⟩⟩ rfl (by simp) hL.1 rfl (lv_room (by rw [cat_map]; exact hst)) hdg ?_) hS (fun r σ1 H1 locs1 hR1 hp hS1 => ?_) (fun ce q σ1 H1 locs1 hR1 hpx hS1 hce hcv hcl => ?_)
  · intro w hw
    unfold wsV at hw
    rcases List.mem_append.mp hw with hw | hw
    · simp only [List.mem_cons, List.not_mem_nil, or_false] at hw
      rcases hw with rfl | rfl | rfl | rfl
      · exact lwG_good _ w1
      · exact lwG_good _ w2
      · exact lwG_good _ w3
      · exact lwG_good _ w4
    · rcases List.mem_cons.mp hw with rfl | hw
      · exact lwG_good _ w5
      · exact lwG_good _ hw
  · obtain ⟨-, -, -, -, -, -, -, -, -, -, b1, b2⟩ := hB
    exact ⟨by show 16 + d + 1 ≤ R.frames; omega, by show 8 + (nLy + 11) + (1024 + 64 * d) ≤ R.locals; omega⟩
  · obtain ⟨-, -, -, -, -, -, -, -, c1, c2, -, -⟩ := hB
    rw [c1, c2]
    exact ⟨hmc, hms⟩
  · have h2 := h r σ1 hp p e R s m args below meth c Q hZ hB hmc hms H1 locs1 ls hR1 hS1 hL
    have e2 : (r.toList ++ st).map (mv g) = (r.map (mv g)).toList ++ st.map (mv g) := by cases r <;> rfl
    rw [e2] at h2
    exact h2
  · refine vx_catch (own := own) (name := nsE) (E := nsE) hB.2.2.2.1 [] ⟨a0, b0, hp, ct⟩ [] htb (fun z hz => nomatch hz) hcov hct (hB.2.2.2.2.1 _ wl) (nsW_at hns (by simp [nsBad])) hce hcv hcl ?_
    exact lv_astore hB.1 hB.2.1 hdh (hL.hs (prs L) (fun q hq => prs_of hq)) hi rfl (fun ls1 hl1 => hx σ1 hpx p e R s m args below meth c Q hZ hB hmc hms H1 locs1 ls1 hR1 hS1 (LR.set0 ho hl1))
end XW
