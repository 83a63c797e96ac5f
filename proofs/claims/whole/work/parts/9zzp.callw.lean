section XS
variable {g : GV} {Z : ZC} {own : String} {cc : ByteArray} {nL d mc ms k n pc : Nat} {L : List (Option Value)} {st : List Value} {σ : PS}
/-- the static call of a method with a table of handlers -/
theorem x_callSW {y : MethodName} {cy : ByteArray} {nLy ix mc' ms' : Nat} {ret : Option FieldType} {hh : List (Nat × Nat × Nat × Nat)} {As : List Value} {Post : Option Value → PS → Prop} {sa0 : List Value} (hZn : ∀ p e R s m args below meth c Q, Z p e R s m args below meth c Q → nsW s) (hdg : decode cc pc = .ok (.invokestatic ix, 3)) (w1 : Cond.methodLink own ix y ∈ lwG) (w2 : Cond.static y ∈ lwG) (w4 : Cond.initialized y.cls ∈ lwG) (w5 : Cond.codeWith y cy nLy ret hh ∈ lwG)
    (hd : y.cls ≠ "java/lang/invoke/MethodHandle" ∧ y.cls ≠ "java/lang/invoke/VarHandle" ∧ (parseMethodDescriptor y.desc).map (fun d => d.parameters.length) = some As.length) (hst : (st.map fun v => v.category).sum ≤ 8) (hnL : nLy ≤ 45) (hmc : k + mc' ≤ mc) (hms : n + ms' ≤ ms) (hsa : sa0 = As.reverse ++ st)
    (hM : CtW g y cy nLy ret hh d mc' ms' As σ Post) (h : ∀ r σ1, Post r σ1 → X g Z own cc nL (d + 1) mc ms (k + mc') (n + ms') (pc + 3) L (r.toList ++ st) σ1) : X g Z own cc nL (d + 1) mc ms k n pc L sa0 σ := by
  intro p e R s m args below meth c Q hZ hB hk hn H locs ls hR hS hL
  subst hsa
  have ee : (As.reverse ++ st).map (mv g) = (As.map (mv g)).reverse ++ st.map (mv g) := by simp [List.map_append, List.map_reverse]
  rw [ee]
  have hns := hZn _ _ _ _ _ _ _ _ _ _ hZ
  refine x_back (vx_runSW (As := As.map (mv g)) (rest := st.map (mv g)) (Ts := lwG) (hh := hh) ⟨hB.1, hB.2.1, hB.2.2.1, hB.2.2.2.1, hB.2.2.2.2.1⟩ hM (vx_cwSW As.length hB.2.2.2.2.1 ?_ rfl rfl rfl hd ?_) ⟨PcN_blind σ _, fun U hU hW => ⟨x_pre hB hR hS U hU hW, hns.moved hW.alike⟩⟩ rfl (by simp) hL.1 rfl (lv_room (by rw [cat_map]; exact hst)) hdg ?_) hS (fun r σ1 H1 locs1 hR1 hp hS1 => ?_)
  · intro w hw
    unfold va_wsS at hw
    rcases List.mem_append.mp hw with hw | hw
    · simp only [List.mem_cons, List.not_mem_nil, or_false] at hw
      rcases hw with rfl | rfl | rfl
      · exact lwG_good _ w1
      · exact lwG_good _ w2
      · exact lwG_good _ w4
    · rcases List.mem_cons.mp hw with rfl | hw
      · exact lwG_good _ w5
      · exact lwG_good _ hw
  · obtain ⟨-, -, -, -, -, -, -, -, -, -, b1, b2⟩ := hB
    exact ⟨by show 16 + d + 1 ≤ R.frames; omega, by show 8 + (nLy + 11) + (1024 + 64 * d) ≤ R.locals; omega⟩
  · obtain ⟨-, -, -, -, -, -, -, -, c1, c2, -, -⟩ := hB
    rw [c1, c2]
    exact ⟨hmc, hms⟩
  · have h2 := h r σ1 hp p e R s m args below meth c Q hZ hB hmc hms H1 locs1 ls hR1 hS1 hL
    have e2 : (r.toList ++ st).map (mv g) = (r.map (mv g)).toList ++ st.map (mv g) := by cases r <;> rfl
    rw [e2] at h2
    exact h2
end XS
