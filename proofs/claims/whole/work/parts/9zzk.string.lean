/-! ===== String.indexOf over the constant "()<=+-*;" ===== -/
theorem gv_120 : Cond.initialized RJ1 ∈ lwG := gw 120 (by decide +kernel) rfl
theorem gv_719 : Cond.methodLink RJ0 633 yJ0_indexOf_7cf53 ∈ lwG := gw 719 (by decide +kernel) rfl
theorem gv_720 : Cond.instanceMethod yJ0_indexOf_7cf53 ∈ lwG := gw 720 (by decide +kernel) rfl
theorem gv_721 : Cond.selects RJ0 yJ0_indexOf_7cf53 yJ0_indexOf_7cf53 ∈ lwG := gw 721 (by decide +kernel) rfl
theorem gv_722 : Cond.code yJ0_indexOf_7cf53 cJ0_indexOf_7cf53 3 (some .int) ∈ lwG := gw 722 (by decide +kernel) rfl
theorem gv_723 : Cond.methodLink RJ0 492 yJ0_isLatin1_aae02 ∈ lwG := gw 723 (by decide +kernel) rfl
theorem gv_724 : Cond.instanceMethod yJ0_isLatin1_aae02 ∈ lwG := gw 724 (by decide +kernel) rfl
theorem gv_725 : Cond.selects RJ0 yJ0_isLatin1_aae02 yJ0_isLatin1_aae02 ∈ lwG := gw 725 (by decide +kernel) rfl
theorem gv_726 : Cond.code yJ0_isLatin1_aae02 cJ0_isLatin1_aae02 1 (some .boolean) ∈ lwG := gw 726 (by decide +kernel) rfl
theorem gv_727 : Cond.fieldLink RJ0 38 "java/lang/String" "COMPACT_STRINGS" "Z" ∈ lwG := gw 727 (by decide +kernel) rfl
theorem gv_729 : Cond.methodLink RJ0 505 yJ0_length_8abf5 ∈ lwG := gw 729 (by decide +kernel) rfl
theorem gv_730 : Cond.instanceMethod yJ0_length_8abf5 ∈ lwG := gw 730 (by decide +kernel) rfl
theorem gv_731 : Cond.selects RJ0 yJ0_length_8abf5 yJ0_length_8abf5 ∈ lwG := gw 731 (by decide +kernel) rfl
theorem gv_732 : Cond.code yJ0_length_8abf5 cJ0_length_8abf5 1 (some .int) ∈ lwG := gw 732 (by decide +kernel) rfl
theorem gv_733 : Cond.methodLink RJ0 335 yJ0_coder_7d493 ∈ lwG := gw 733 (by decide +kernel) rfl
theorem gv_734 : Cond.instanceMethod yJ0_coder_7d493 ∈ lwG := gw 734 (by decide +kernel) rfl
theorem gv_735 : Cond.selects RJ0 yJ0_coder_7d493 yJ0_coder_7d493 ∈ lwG := gw 735 (by decide +kernel) rfl
theorem gv_736 : Cond.code yJ0_coder_7d493 cJ0_coder_7d493 1 (some .byte) ∈ lwG := gw 736 (by decide +kernel) rfl
theorem gv_737 : Cond.methodLink RJ0 637 yJ1_indexOf_4cfef ∈ lwG := gw 737 (by decide +kernel) rfl
theorem gv_738 : Cond.static yJ1_indexOf_4cfef ∈ lwG := gw 738 (by decide +kernel) rfl
theorem gv_739 : Cond.code yJ1_indexOf_4cfef cJ1_indexOf_4cfef 4 (some .int) ∈ lwG := gw 739 (by decide +kernel) rfl
theorem gv_740 : Cond.methodLink RJ1 88 yJ1_canEncode_9a6ad ∈ lwG := gw 740 (by decide +kernel) rfl
theorem gv_741 : Cond.static yJ1_canEncode_9a6ad ∈ lwG := gw 741 (by decide +kernel) rfl
theorem gv_742 : Cond.code yJ1_canEncode_9a6ad cJ1_canEncode_9a6ad 1 (some .boolean) ∈ lwG := gw 742 (by decide +kernel) rfl
theorem gv_745 : Cond.methodLink RJ1 95 yJ1_indexOfChar_4cfef ∈ lwG := gw 745 (by decide +kernel) rfl
theorem gv_746 : Cond.static yJ1_indexOfChar_4cfef ∈ lwG := gw 746 (by decide +kernel) rfl
theorem gv_747 : Cond.code yJ1_indexOfChar_4cfef cJ1_indexOfChar_4cfef 6 (some .int) ∈ lwG := gw 747 (by decide +kernel) rfl
theorem gv_1840 : Cond.fieldLink RJ0 15 "java/lang/String" "coder" "B" ∈ lwG := gw 1840 (by decide +kernel) rfl
theorem gv_1841 : Cond.fieldLink RJ0 9 "java/lang/String" "value" "[B" ∈ lwG := gw 1841 (by decide +kernel) rfl
theorem pv_yJ1_canEncode_9a6ad : yJ1_canEncode_9a6ad.cls ≠ "java/lang/invoke/MethodHandle" ∧ yJ1_canEncode_9a6ad.cls ≠ "java/lang/invoke/VarHandle" ∧ (parseMethodDescriptor yJ1_canEncode_9a6ad.desc).map (fun d => d.parameters.length) = some 1 := by decide +kernel
theorem pv_yJ1_indexOfChar_4cfef : yJ1_indexOfChar_4cfef.cls ≠ "java/lang/invoke/MethodHandle" ∧ yJ1_indexOfChar_4cfef.cls ≠ "java/lang/invoke/VarHandle" ∧ (parseMethodDescriptor yJ1_indexOfChar_4cfef.desc).map (fun d => d.parameters.length) = some 4 := by decide +kernel
theorem pv_yJ0_length_8abf5 : yJ0_length_8abf5.cls ≠ "java/lang/invoke/MethodHandle" ∧ yJ0_length_8abf5.cls ≠ "java/lang/invoke/VarHandle" ∧ (parseMethodDescriptor yJ0_length_8abf5.desc).map (fun d => d.parameters.length) = some 0 := by decide +kernel
theorem pv_yJ1_indexOf_4cfef : yJ1_indexOf_4cfef.cls ≠ "java/lang/invoke/MethodHandle" ∧ yJ1_indexOf_4cfef.cls ≠ "java/lang/invoke/VarHandle" ∧ (parseMethodDescriptor yJ1_indexOf_4cfef.desc).map (fun d => d.parameters.length) = some 4 := by decide +kernel
theorem pv_yJ0_indexOf_7cf53 : yJ0_indexOf_7cf53.cls ≠ "java/lang/invoke/MethodHandle" ∧ yJ0_indexOf_7cf53.cls ≠ "java/lang/invoke/VarHandle" ∧ (parseMethodDescriptor yJ0_indexOf_7cf53.desc).map (fun d => d.parameters.length) = some 2 := by decide +kernel
theorem pv_yJ0_coder_7d493 : yJ0_coder_7d493.cls ≠ "java/lang/invoke/MethodHandle" ∧ yJ0_coder_7d493.cls ≠ "java/lang/invoke/VarHandle" ∧ (parseMethodDescriptor yJ0_coder_7d493.desc).map (fun d => d.parameters.length) = some 0 := by decide +kernel
theorem pv_yJ0_isLatin1_aae02 : yJ0_isLatin1_aae02.cls ≠ "java/lang/invoke/MethodHandle" ∧ yJ0_isLatin1_aae02.cls ≠ "java/lang/invoke/VarHandle" ∧ (parseMethodDescriptor yJ0_isLatin1_aae02.desc).map (fun d => d.parameters.length) = some 0 := by decide +kernel
section XS
variable {g : GV} {Z : ZC} {own : String} {cc : ByteArray} {nL d mc ms k n pc : Nat} {L : List (Option Value)} {st : List Value} {σ : PS}
theorem x_ldcS {ix q : Nat} {tx : String} (hm : (own, ix, tx, q) ∈ zstr) (hq : q < 10) (hdg : decode cc pc = .ok (.ldc ix, 2)) (h : X g Z own cc nL d mc ms k n (pc + 2) L (.ref q :: st) σ) : X g Z own cc nL d mc ms k n pc L st σ := by
  intro p e R s m args below meth c Q hZ hB hk hn H locs ls hR hS hL
  have hZs := hB.2.2.2.2.2.2.1.2.2.2.2.2.2.2.2.2.2.1 _ hm
  have hh := h p e R s m args below meth c Q hZ hB hk hn H locs ls hR hS hL
  have e1 : mv g (.ref q) = .ref (gb g q) := by show Value.ref (adr g q) = _; unfold adr; rw [if_pos hq]
  rw [List.map_cons, e1] at hh
  exact va_ldcS hB.1 hB.2.1 hB.2.2.2.1 hZs hdg hh
theorem x_getCS (ho : own = RJ0) (hdg : decode cc pc = .ok (.getstatic 38, 3)) (h : X g Z own cc nL d mc ms k n (pc + 3) L (.int 1 :: st) σ) : X g Z own cc nL d mc ms k n pc L st σ := by
  intro p e R s m args below meth c Q hZ hB hk hn H locs ls hR hS hL
  subst ho
  exact va_gets hB.1 hB.2.1 hB.2.2.2.2.2.2.1.2.2.2.2.2.1 hS hB.2.2.2.1 (hB.2.2.2.2.1 _ gv_727) (fun _ h => h) hdg (h p e R s m args below meth c Q hZ hB hk hn H locs ls hR hS hL)
theorem x_getCo (ho : own = RJ0) (hdg : decode cc pc = .ok (.getfield 15, 3)) (h : X g Z own cc nL d mc ms k n (pc + 3) L (.int 0 :: st) σ) : X g Z own cc nL d mc ms k n pc L (.ref 3 :: st) σ := by
  intro p e R s m args below meth c Q hZ hB hk hn H locs ls hR hS hL
  subst ho
  exact vk_getf hB.1 hB.2.1 hB.2.2.2.2.2.2.1.2.2.2.2.2.2.2.1 hS hB.2.2.2.1 (hB.2.2.2.2.1 _ gv_1840) (fun _ h => h) hdg (h p e R s m args below meth c Q hZ hB hk hn H locs ls hR hS hL)
theorem x_getVa (ho : own = RJ0) (hdg : decode cc pc = .ok (.getfield 9, 3)) (h : X g Z own cc nL d mc ms k n (pc + 3) L (.ref 4 :: st) σ) : X g Z own cc nL d mc ms k n pc L (.ref 3 :: st) σ := by
  intro p e R s m args below meth c Q hZ hB hk hn H locs ls hR hS hL
  subst ho
  exact vk_getf hB.1 hB.2.1 hB.2.2.2.2.2.2.1.2.2.2.2.2.2.2.2.1 hS hB.2.2.2.1 (hB.2.2.2.2.1 _ gv_1841) (fun _ h => h) hdg (h p e R s m args below meth c Q hZ hB hk hn H locs ls hR hS hL)
theorem x_len4 (hdg : decode cc pc = .ok (.arraylength, 1)) (h : X g Z own cc nL d mc ms k n (pc + 1) L (.int (nI 8) :: st) σ) : X g Z own cc nL d mc ms k n pc L (.ref 4 :: st) σ := by
  intro p e R s m args below meth c Q hZ hB hk hn H locs ls hR hS hL
  exact va_tlen hB.1 hB.2.1 hB.2.2.2.2.2.2.1.2.2.2.2.2.2.2.2.2.1 hS rfl hdg (h p e R s m args below meth c Q hZ hB hk hn H locs ls hR hS hL)
theorem x_bald4 {i : Int32} (hin : vp_in i 8) (hdg : decode cc pc = .ok (.baload, 1)) (h : X g Z own cc nL d mc ms k n (pc + 1) L (.int (signB i.toNatClampNeg) :: st) σ) : X g Z own cc nL d mc ms k n pc L (.int i :: .ref 4 :: st) σ := by
  intro p e R s m args below meth c Q hZ hB hk hn H locs ls hR hS hL
  exact va_tb hB.1 hB.2.1 hB.2.2.2.2.2.2.1.2.2.2.2.2.2.2.2.2.1 hS hin rfl hdg (h p e R s m args below meth c Q hZ hB hk hn H locs ls hR hS hL)
/-- a call on the constant String -/
theorem x_callStr {y : MethodName} {cy : ByteArray} {nLy ix mc' ms' : Nat} {ret : Option FieldType} {As : List Value} {Post : Option Value → PS → Prop} {sa0 : List Value} (hdg : decode cc pc = .ok (.invokevirtual ix, 3)) (w1 : Cond.methodLink own ix y ∈ lwG) (w2 : Cond.instanceMethod y ∈ lwG) (w3 : Cond.selects y.cls y y ∈ lwG) (w4 : Cond.initialized y.cls ∈ lwG) (w5 : Cond.code y cy nLy ret ∈ lwG)
    (hd : y.cls ≠ "java/lang/invoke/MethodHandle" ∧ y.cls ≠ "java/lang/invoke/VarHandle" ∧ (parseMethodDescriptor y.desc).map (fun d => d.parameters.length) = some As.length) (hc : y.cls = "java/lang/String") (hst : (st.map fun v => v.category).sum ≤ 8) (hnL : nLy ≤ 45) (hmc : k + mc' ≤ mc) (hms : n + ms' ≤ ms) (hsa : sa0 = As.reverse ++ .ref 3 :: st)
    (hM : Ct g y cy nLy ret d mc' ms' (.ref 3 :: As) σ Post) (h : ∀ r σ1, Post r σ1 → X g Z own cc nL (d + 1) mc ms (k + mc') (n + ms') (pc + 3) L (r.toList ++ st) σ1) : X g Z own cc nL (d + 1) mc ms k n pc L sa0 σ := by
  intro p e R s m args below meth c Q hZ hB hk hn H locs ls hR hS hL
  subst hsa
  have ee : (As.reverse ++ Value.ref 3 :: st).map (mv g) = (As.map (mv g)).reverse ++ .ref (adr g 3) :: st.map (mv g) := by simp [List.map_append, List.map_reverse, mv]
  rw [ee]
  have hK : Kt g s := hB.2.2.2.2.2.1
  obtain ⟨cell, q1, q2, q3⟩ := va_Orecv (H := H) hB.2.2.2.2.2.2.1.2.2.2.2.2.2.1 hS
  have q1' : H[adr g 3]? = some cell := q1
  refine x_back (va_runV (As := As.map (mv g)) (rest := st.map (mv g)) (Ts := lwG) ⟨hB.1, hB.2.1, hB.2.2.1, hB.2.2.2.1, hB.2.2.2.2.1⟩ hM (cwV As.length hB.2.2.2.2.1 ?_ rfl rfl rfl ⟨rfl, hd⟩ ?_) ⟨PcG_blind σ _, ⟨cell, q1', q2, by rw [hc]; exact q3⟩, x_pre hB hR hS⟩ rfl (by simp) hL.1 rfl (lv_room (by rw [cat_map]; exact hst)) hdg ?_) hS (fun r σ1 H1 locs1 hR1 hp hS1 => ?_)
  · intro w hw
    unfold wsV at hw
    rcases List.mem_append.mp hw with hw | hw
    · simp only [List.mem_cons, List.not_mem_nil, or_false] at hw
      rcases hw with rfl | rfl | rfl | rfl
      · exact lwG_good _ w1
      · exact lwG_good _ w2
      · exact lwG_good _ w3
      · exact lwG_good _ w4
    · rcases List.mem_cons.mp hw with rfl | hw
      · exact lwG_good _ w5
      · exact lwG_good _ hw
  · obtain ⟨-, -, -, -, -, -, -, -, -, -, b1, b2⟩ := hB
    exact ⟨by show 16 + d + 1 ≤ R.frames; omega, by show 8 + (nLy + 11) + (1024 + 64 * d) ≤ R.locals; omega⟩
  · obtain ⟨-, -, -, -, -, -, -, -, c1, c2, -, -⟩ := hB
    rw [c1, c2]
    exact ⟨hmc, hms⟩
  · have h2 := h r σ1 hp p e R s m args below meth c Q hZ hB hmc hms H1 locs1 ls hR1 hS1 hL
    have e2 : (r.toList ++ st).map (mv g) = (r.map (mv g)).toList ++ st.map (mv g) := by cases r <;> rfl
    rw [e2] at h2
    exact h2
end XS
def tbCo : List (Nat × Instr × Nat) := [(0, .getstatic 38, 3), (3, .ifCond .eq 10, 3), (6, .aload_n 0, 1), (7, .getfield 15, 3), (10, .goto 4, 3), (14, .ireturn, 1)]
theorem tkCo : ∀ q ∈ tbCo, decode cJ0_coder_7d493 q.1 = .ok q.2 := by decide +kernel
theorem dxCo (i : Nat) {pc : Nat} {ins : Instr} {len : Nat} (h : tbCo[i]? = some (pc, ins, len)) : decode cJ0_coder_7d493 pc = .ok (ins, len) := tkCo (pc, ins, len) (List.mem_of_getElem? h)
def tbIL : List (Nat × Instr × Nat) := [(0, .getstatic 38, 3), (3, .ifCond .eq 14, 3), (6, .aload_n 0, 1), (7, .getfield 15, 3), (10, .ifCond .ne 7, 3), (13, .iconst 1, 1), (14, .goto 4, 3), (18, .ireturn, 1)]
theorem tkIL : ∀ q ∈ tbIL, decode cJ0_isLatin1_aae02 q.1 = .ok q.2 := by decide +kernel
theorem dxIL (i : Nat) {pc : Nat} {ins : Instr} {len : Nat} (h : tbIL[i]? = some (pc, ins, len)) : decode cJ0_isLatin1_aae02 pc = .ok (ins, len) := tkIL (pc, ins, len) (List.mem_of_getElem? h)
def tbLe : List (Nat × Instr × Nat) := [(0, .aload_n 0, 1), (1, .getfield 9, 3), (4, .arraylength, 1), (5, .aload_n 0, 1), (6, .invokevirtual 335, 3), (9, .ishr, 1), (10, .ireturn, 1)]
theorem tkLe : ∀ q ∈ tbLe, decode cJ0_length_8abf5 q.1 = .ok q.2 := by decide +kernel
theorem dxLe (i : Nat) {pc : Nat} {ins : Instr} {len : Nat} (h : tbLe[i]? = some (pc, ins, len)) : decode cJ0_length_8abf5 pc = .ok (ins, len) := tkLe (pc, ins, len) (List.mem_of_getElem? h)
def tbI1 : List (Nat × Instr × Nat) := [(0, .aload_n 0, 1), (1, .iload_n 1, 1), (2, .iconst 0, 1), (3, .invokevirtual 633, 3), (6, .ireturn, 1)]
theorem tkI1 : ∀ q ∈ tbI1, decode cJ0_indexOf_0f7a4 q.1 = .ok q.2 := by decide +kernel
theorem dxI1 (i : Nat) {pc : Nat} {ins : Instr} {len : Nat} (h : tbI1[i]? = some (pc, ins, len)) : decode cJ0_indexOf_0f7a4 pc = .ok (ins, len) := tkI1 (pc, ins, len) (List.mem_of_getElem? h)
def tbI2 : List (Nat × Instr × Nat) := [(0, .aload_n 0, 1), (1, .invokevirtual 492, 3), (4, .ifCond .eq 19, 3), (7, .aload_n 0, 1), (8, .getfield 9, 3), (11, .iload_n 1, 1), (12, .iload_n 2, 1), (13, .aload_n 0, 1), (14, .invokevirtual 505, 3), (17, .invokestatic 637, 3), (20, .goto 16, 3), (36, .ireturn, 1)]
theorem tkI2 : ∀ q ∈ tbI2, decode cJ0_indexOf_7cf53 q.1 = .ok q.2 := by decide +kernel
theorem dxI2 (i : Nat) {pc : Nat} {ins : Instr} {len : Nat} (h : tbI2[i]? = some (pc, ins, len)) : decode cJ0_indexOf_7cf53 pc = .ok (ins, len) := tkI2 (pc, ins, len) (List.mem_of_getElem? h)
def tbLI : List (Nat × Instr × Nat) := [(0, .iload_n 1, 1), (1, .invokestatic 88, 3), (4, .ifCond .ne 5, 3), (9, .iload_n 2, 1), (10, .iconst 0, 1), (11, .invokestatic 92, 3), (14, .istore_n 2, 1), (15, .iload_n 3, 1), (16, .aload_n 0, 1), (17, .arraylength, 1), (18, .invokestatic 38, 3), (21, .istore_n 3, 1), (22, .iload_n 2, 1), (23, .iload_n 3, 1), (24, .if_icmp .lt 5, 3), (29, .aload_n 0, 1), (30, .iload_n 1, 1), (31, .iload_n 2, 1), (32, .iload_n 3, 1), (33, .invokestatic 95, 3), (36, .ireturn, 1)]
theorem tkLI : ∀ q ∈ tbLI, decode cJ1_indexOf_4cfef q.1 = .ok q.2 := by decide +kernel
theorem dxLI (i : Nat) {pc : Nat} {ins : Instr} {len : Nat} (h : tbLI[i]? = some (pc, ins, len)) : decode cJ1_indexOf_4cfef pc = .ok (ins, len) := tkLI (pc, ins, len) (List.mem_of_getElem? h)
def tbCE : List (Nat × Instr × Nat) := [(0, .iload_n 0, 1), (1, .ifCond .lt 14, 3), (4, .iload_n 0, 1), (5, .sipush 255, 3), (8, .if_icmp .gt 7, 3), (11, .iconst 1, 1), (12, .goto 4, 3), (16, .ireturn, 1)]
theorem tkCE : ∀ q ∈ tbCE, decode cJ1_canEncode_9a6ad q.1 = .ok q.2 := by decide +kernel
theorem dxCE (i : Nat) {pc : Nat} {ins : Instr} {len : Nat} (h : tbCE[i]? = some (pc, ins, len)) : decode cJ1_canEncode_9a6ad pc = .ok (ins, len) := tkCE (pc, ins, len) (List.mem_of_getElem? h)
def tbIC : List (Nat × Instr × Nat) := [(0, .iload_n 1, 1), (1, .i2b, 1), (2, .istore 4, 2), (4, .iload_n 2, 1), (5, .istore 5, 2), (7, .iload 5, 2), (9, .iload_n 3, 1), (10, .if_icmp .ge 21, 3), (13, .aload_n 0, 1), (14, .iload 5, 2), (16, .baload, 1), (17, .iload 4, 2), (19, .if_icmp .ne 6, 3), (22, .iload 5, 2), (24, .ireturn, 1), (25, .iinc 5 1, 3), (28, .goto (-21), 3), (31, .iconst (-1), 1), (32, .ireturn, 1)]
theorem tkIC : ∀ q ∈ tbIC, decode cJ1_indexOfChar_4cfef q.1 = .ok q.2 := by decide +kernel
theorem dxIC (i : Nat) {pc : Nat} {ins : Instr} {len : Nat} (h : tbIC[i]? = some (pc, ins, len)) : decode cJ1_indexOfChar_4cfef pc = .ok (ins, len) := tkIC (pc, ins, len) (List.mem_of_getElem? h)
/-! the methods, from within -/
theorem c_coder {g : GV} {d : Nat} {σ : PS} : Ct g yJ0_coder_7d493 cJ0_coder_7d493 1 (some .byte) d 0 0 [.ref 3] σ (fun r s => r = some (.int 0) ∧ s = σ) := by
  refine x_entry (L := [some (.ref 3)]) (by decide +kernel) (Nat.le_of_ble_eq_true rfl) ⟨0, rfl⟩ ?_
  refine x_getCS rfl (dxCo 0 rfl) ?_
  refine x_if_eq (tgt := 13) (dxCo 1 rfl) (by decide) (fun h => absurd h (by decide)) (fun _ => ?_)
  refine x_aload_n (i := 0) (dxCo 2 rfl) rfl rfl ?_
  refine x_getCo rfl (dxCo 3 rfl) ?_
  refine x_goto (tgt := 14) (dxCo 4 rfl) (by decide) ?_
  exact x_iret rfl rfl (dxCo 5 rfl) ⟨rfl, rfl⟩
theorem c_isLatin1 {g : GV} {d : Nat} {σ : PS} : Ct g yJ0_isLatin1_aae02 cJ0_isLatin1_aae02 1 (some .boolean) d 0 0 [.ref 3] σ (fun r s => r = some (.int 1) ∧ s = σ) := by
  refine x_entry (L := [some (.ref 3)]) (by decide +kernel) (Nat.le_of_ble_eq_true rfl) ⟨0, rfl⟩ ?_
  refine x_getCS rfl (dxIL 0 rfl) ?_
  refine x_if_eq (tgt := 17) (dxIL 1 rfl) (by decide) (fun h => absurd h (by decide)) (fun _ => ?_)
  refine x_aload_n (i := 0) (dxIL 2 rfl) rfl rfl ?_
  refine x_getCo rfl (dxIL 3 rfl) ?_
  refine x_if_ne (tgt := 17) (dxIL 4 rfl) (by decide) (fun h => absurd rfl h) (fun _ => ?_)
  refine x_iconst (v := 1) (dxIL 5 rfl) rfl ?_
  refine x_goto (tgt := 18) (dxIL 6 rfl) (by decide) ?_
  exact x_iret rfl rfl (dxIL 7 rfl) ⟨rfl, rfl⟩
theorem c_length {g : GV} {d : Nat} {σ : PS} : Ct g yJ0_length_8abf5 cJ0_length_8abf5 1 (some .int) (d + 1) 0 0 [.ref 3] σ (fun r s => r = some (.int (nI 8)) ∧ s = σ) := by
  refine x_entry (L := [some (.ref 3)]) (by decide +kernel) (Nat.le_of_ble_eq_true rfl) ⟨0, rfl⟩ ?_
  refine x_aload_n (i := 0) (dxLe 0 rfl) rfl rfl ?_
  refine x_getVa rfl (dxLe 1 rfl) ?_
  refine x_len4 (dxLe 2 rfl) ?_
  refine x_aload_n (i := 0) (dxLe 3 rfl) rfl rfl ?_
  refine x_callStr (As := []) (st := [.int (nI 8)]) (dxLe 4 rfl) gv_733 gv_734 gv_735 gw_119 gv_736 pv_yJ0_coder_7d493 rfl (Nat.le_of_ble_eq_true rfl) (by decide) (Nat.le_refl _) (Nat.le_refl _) rfl c_coder (fun r s w => ?_)
  obtain ⟨rfl, rfl⟩ := w
  refine x_ishr (dxLe 5 rfl) ?_
  rw [show nI 8 >>> ((0 : Int32) &&& 31) = nI 8 by decide]
  exact x_iret rfl rfl (dxLe 6 rfl) ⟨rfl, rfl⟩
theorem c_canEncode {g : GV} {d c : Nat} {σ : PS} (hc : c < 127) : Ct g yJ1_canEncode_9a6ad cJ1_canEncode_9a6ad 1 (some .boolean) d 0 0 [.int (nI c)] σ (fun r s => r = some (.int 1) ∧ s = σ) := by
  refine x_entry (L := [some (.int (nI c))]) (by decide +kernel) (Nat.le_of_ble_eq_true rfl) ⟨0, rfl⟩ ?_
  refine x_iload_n (i := 0) (dxCE 0 rfl) rfl rfl ?_
  refine x_if_lt (tgt := 15) (dxCE 1 rfl) (by decide) (fun h => ?_) (fun _ => ?_)
  · exfalso
    rw [lit32 0, zLT (by omega) (by omega)] at h
    omega
  refine x_iload_n (i := 0) (dxCE 2 rfl) rfl rfl ?_
  refine x_sipush (v := 255) (dxCE 3 rfl) rfl ?_
  refine x_icmp_gt (tgt := 15) (dxCE 4 rfl) (by decide) (fun h => ?_) (fun _ => ?_)
  · exfalso
    rw [lit32 255, zLT (by omega) (by omega)] at h
    omega
  refine x_iconst (v := 1) (dxCE 5 rfl) rfl ?_
  refine x_goto (tgt := 16) (dxCE 6 rfl) (by decide) ?_
  exact x_iret rfl rfl (dxCE 7 rfl) ⟨rfl, rfl⟩
/-- where a sign stands in the constant, or nowhere -/
theorem sgB_is : ∀ c, c < 127 → (nI c).toInt8.toInt32 = nI c ∧ (sgC c = true ↔ ∃ j, j < 8 ∧ signB j = nI c) := by
  have h1 : ∀ c, c < 127 → (nI c).toInt8.toInt32 = nI c := by decide +kernel
  have h2 : ∀ c, c < 127 → (sgC c = (List.range 8).any (fun j => decide (signB j = nI c))) := by decide +kernel
  intro c hc
  refine ⟨h1 c hc, ?_⟩
  rw [h2 c hc, List.any_eq_true]
  constructor
  · rintro ⟨j, j1, j2⟩
    exact ⟨j, List.mem_range.mp j1, of_decide_eq_true j2⟩
  · rintro ⟨j, j1, j2⟩
    exact ⟨j, List.mem_range.mpr j1, decide_eq_true j2⟩
abbrev ixP (c : Nat) (σ : PS) : Option Value → PS → Prop := fun r s => ∃ v, r = some (.int v) ∧ (v < 0 ↔ ¬ sgC c = true) ∧ s = σ
theorem c_indexOfChar {g : GV} {d c : Nat} {σ : PS} (hc : c < 127) : Ct g yJ1_indexOfChar_4cfef cJ1_indexOfChar_4cfef 6 (some .int) d 0 0 [.ref 4, .int (nI c), .int 0, .int (nI 8)] σ (ixP c σ) := by
  obtain ⟨k1, k2⟩ := sgB_is c hc
  refine x_entry (L := [some (.ref 4), some (.int (nI c)), some (.int 0), some (.int (nI 8)), none, none]) (by decide +kernel) (Nat.le_of_ble_eq_true rfl) ⟨2, rfl⟩ ?_
  refine x_iload_n (i := 1) (dxIC 0 rfl) rfl rfl ?_
  refine x_i2b (dxIC 1 rfl) ?_
  rw [k1]
  refine x_istore (dxIC 2 rfl) (Nat.le_of_ble_eq_true rfl) rfl rfl ?_
  refine x_iload_n (i := 2) (dxIC 3 rfl) rfl rfl ?_
  refine x_istore (dxIC 4 rfl) (Nat.le_of_ble_eq_true rfl) rfl rfl ?_
  have loop : ∀ (z j : Nat), j + z = 8 → (∀ i, i < j → signB i ≠ nI c) → X g (ZM g (some .int) 0 0 (ixP c σ)) RJ1 cJ1_indexOfChar_4cfef 6 d 0 0 0 0 7 [some (.ref 4), some (.int (nI c)), some (.int 0), some (.int (nI 8)), some (.int (nI c)), some (.int (nI j))] [] σ := by
    intro z
    induction z with
    | zero =>
      intro j hj hno
      refine x_iload (dxIC 5 rfl) rfl ?_
      refine x_iload_n (i := 3) (dxIC 6 rfl) rfl rfl ?_
      refine x_icmp_ge (tgt := 31) (dxIC 7 rfl) (by decide) (fun _ => ?_) (fun h => absurd (by rw [zLE (by omega) (by omega)]; omega) h)
      refine x_iconst (v := -1) (dxIC 17 rfl) rfl ?_
      refine x_iret rfl rfl (dxIC 18 rfl) ⟨-1, rfl, ?_, rfl⟩
      rw [k2]
      refine ⟨fun _ => ?_, fun _ => by decide⟩
      rintro ⟨i, i1, i2⟩
      exact hno i (by omega) i2
    | succ z ih =>
      intro j hj hno
      refine x_iload (dxIC 5 rfl) rfl ?_
      refine x_iload_n (i := 3) (dxIC 6 rfl) rfl rfl ?_
      refine x_icmp_ge (tgt := 31) (dxIC 7 rfl) (by decide) (fun h => ?_) (fun _ => ?_)
      · exfalso
        rw [zLE (by omega) (by omega)] at h
        omega
      refine x_aload_n (i := 0) (dxIC 8 rfl) rfl rfl ?_
      refine x_iload (dxIC 9 rfl) rfl ?_
      refine x_bald4 (by rw [zIN (by omega) (by omega)]; omega) (dxIC 10 rfl) ?_
      rw [zCL (by omega)]
      refine x_iload (dxIC 11 rfl) rfl ?_
      refine x_icmp_ne (tgt := 25) (dxIC 12 rfl) (by decide) (fun h => ?_) (fun h => ?_)
      · refine x_iinc (v := nI (j + 1)) (dxIC 15 rfl) (i := 5) rfl (nI_1 j) (Nat.le_of_ble_eq_true rfl) rfl rfl ?_
        refine x_goto (tgt := 7) (dxIC 16 rfl) (by decide) ?_
        refine ih (j + 1) (by omega) (fun i hi => ?_)
        by_cases e : i = j
        · rw [e]; exact h
        · exact hno i (by omega)
      · refine x_iload (dxIC 13 rfl) rfl ?_
        refine x_iret rfl rfl (dxIC 14 rfl) ⟨nI j, rfl, ?_, rfl⟩
        rw [k2, lit32 0, zLT (by omega) (by omega)]
        exact ⟨fun w => by omega, fun w => absurd ⟨j, by omega, h⟩ w⟩
  exact loop 8 0 rfl (fun i hi => by omega)
theorem c_latinIndex {g : GV} {d c : Nat} {σ : PS} (hc : c < 127) : Ct g yJ1_indexOf_4cfef cJ1_indexOf_4cfef 4 (some .int) (d + 1) 0 0 [.ref 4, .int (nI c), .int 0, .int (nI 8)] σ (ixP c σ) := by
  refine x_entry (L := [some (.ref 4), some (.int (nI c)), some (.int 0), some (.int (nI 8))]) (by decide +kernel) (Nat.le_of_ble_eq_true rfl) ⟨0, rfl⟩ ?_
  refine x_iload_n (i := 1) (dxLI 0 rfl) rfl rfl ?_
  refine x_callS (As := [.int (nI c)]) (st := []) (dxLI 1 rfl) gv_740 gv_741 gv_120 gv_742 pv_yJ1_canEncode_9a6ad (Nat.le_of_ble_eq_true rfl) (by decide) (Nat.le_refl _) (Nat.le_refl _) rfl (c_canEncode hc) (fun r s w => ?_)
  obtain ⟨rfl, rfl⟩ := w
  refine x_if_ne (tgt := 9) (dxLI 2 rfl) (by decide) (fun _ => ?_) (fun h => absurd h (by decide))
  refine x_iload_n (i := 2) (dxLI 3 rfl) rfl rfl ?_
  refine x_iconst (v := 0) (dxLI 4 rfl) rfl ?_
  refine cl_1_92 (by decide) (dxLI 5 rfl) ?_
  rw [show (if (0 : Int32) < 0 then (0 : Int32) else 0) = 0 from rfl]
  refine x_istore_n (i := 2) (dxLI 6 rfl) rfl (Nat.le_of_ble_eq_true rfl) rfl rfl ?_
  refine x_iload_n (i := 3) (dxLI 7 rfl) rfl rfl ?_
  refine x_aload_n (i := 0) (dxLI 8 rfl) rfl rfl ?_
  refine x_len4 (dxLI 9 rfl) ?_
  refine cl_1_38 (by decide) (dxLI 10 rfl) ?_
  rw [show (if nI 8 < nI 8 then nI 8 else nI 8) = nI 8 from rfl]
  refine x_istore_n (i := 3) (dxLI 11 rfl) rfl (Nat.le_of_ble_eq_true rfl) rfl rfl ?_
  refine x_iload_n (i := 2) (dxLI 12 rfl) rfl rfl ?_
  refine x_iload_n (i := 3) (dxLI 13 rfl) rfl rfl ?_
  refine x_icmp_lt (tgt := 29) (dxLI 14 rfl) (by decide) (fun _ => ?_) (fun h => absurd (by decide) h)
  refine x_aload_n (i := 0) (dxLI 15 rfl) rfl rfl ?_
  refine x_iload_n (i := 1) (dxLI 16 rfl) rfl rfl ?_
  refine x_iload_n (i := 2) (dxLI 17 rfl) rfl rfl ?_
  refine x_iload_n (i := 3) (dxLI 18 rfl) rfl rfl ?_
  refine x_callS (As := [.ref 4, .int (nI c), .int 0, .int (nI 8)]) (st := []) (dxLI 19 rfl) gv_745 gv_746 gv_120 gv_747 pv_yJ1_indexOfChar_4cfef (Nat.le_of_ble_eq_true rfl) (by decide) (Nat.le_refl _) (Nat.le_refl _) rfl (c_indexOfChar hc) (fun r s w => ?_)
  obtain ⟨v, rfl, h1, rfl⟩ := w
  exact x_iret rfl rfl (dxLI 20 rfl) ⟨v, rfl, h1, rfl⟩
theorem c_index2 {g : GV} {d c : Nat} {σ : PS} (hc : c < 127) : Ct g yJ0_indexOf_7cf53 cJ0_indexOf_7cf53 3 (some .int) (d + 2) 0 0 [.ref 3, .int (nI c), .int 0] σ (ixP c σ) := by
  refine x_entry (L := [some (.ref 3), some (.int (nI c)), some (.int 0)]) (by decide +kernel) (Nat.le_of_ble_eq_true rfl) ⟨0, rfl⟩ ?_
  refine x_aload_n (i := 0) (dxI2 0 rfl) rfl rfl ?_
  refine x_callStr (As := []) (st := []) (dxI2 1 rfl) gv_723 gv_724 gv_725 gw_119 gv_726 pv_yJ0_isLatin1_aae02 rfl (Nat.le_of_ble_eq_true rfl) (by decide) (Nat.le_refl _) (Nat.le_refl _) rfl c_isLatin1 (fun r s w => ?_)
  obtain ⟨rfl, rfl⟩ := w
  refine x_if_eq (tgt := 23) (dxI2 2 rfl) (by decide) (fun h => absurd h (by decide)) (fun _ => ?_)
  refine x_aload_n (i := 0) (dxI2 3 rfl) rfl rfl ?_
  refine x_getVa rfl (dxI2 4 rfl) ?_
  refine x_iload_n (i := 1) (dxI2 5 rfl) rfl rfl ?_
  refine x_iload_n (i := 2) (dxI2 6 rfl) rfl rfl ?_
  refine x_aload_n (i := 0) (dxI2 7 rfl) rfl rfl ?_
  refine x_callStr (As := []) (st := [.int 0, .int (nI c), .ref 4]) (dxI2 8 rfl) gv_729 gv_730 gv_731 gw_119 gv_732 pv_yJ0_length_8abf5 rfl (Nat.le_of_ble_eq_true rfl) (by decide) (Nat.le_refl _) (Nat.le_refl _) rfl c_length (fun r s w => ?_)
  obtain ⟨rfl, rfl⟩ := w
  refine x_callS (As := [.ref 4, .int (nI c), .int 0, .int (nI 8)]) (st := []) (dxI2 9 rfl) gv_737 gv_738 gv_120 gv_739 pv_yJ1_indexOf_4cfef (Nat.le_of_ble_eq_true rfl) (by decide) (Nat.le_refl _) (Nat.le_refl _) rfl (c_latinIndex hc) (fun r s w => ?_)
  obtain ⟨v, rfl, h1, rfl⟩ := w
  refine x_goto (tgt := 36) (dxI2 10 rfl) (by decide) ?_
  exact x_iret rfl rfl (dxI2 11 rfl) ⟨v, rfl, h1, rfl⟩
theorem c_index1 {g : GV} {d c : Nat} {σ : PS} (hc : c < 127) : Ct g yJ0_indexOf_0f7a4 cJ0_indexOf_0f7a4 2 (some .int) (d + 3) 0 0 [.ref 3, .int (nI c)] σ (ixP c σ) := by
  refine x_entry (L := [some (.ref 3), some (.int (nI c))]) (by decide +kernel) (Nat.le_of_ble_eq_true rfl) ⟨0, rfl⟩ ?_
  refine x_aload_n (i := 0) (dxI1 0 rfl) rfl rfl ?_
  refine x_iload_n (i := 1) (dxI1 1 rfl) rfl rfl ?_
  refine x_iconst (v := 0) (dxI1 2 rfl) rfl ?_
  refine x_callStr (As := [.int (nI c), .int 0]) (st := []) (dxI1 3 rfl) gv_719 gv_720 gv_721 gw_119 gv_722 pv_yJ0_indexOf_7cf53 rfl (Nat.le_of_ble_eq_true rfl) (by decide) (Nat.le_refl _) (Nat.le_refl _) rfl (c_index2 hc) (fun r s w => ?_)
  obtain ⟨v, rfl, h1, rfl⟩ := w
  exact x_iret rfl rfl (dxI1 4 rfl) ⟨v, rfl, h1, rfl⟩
theorem hsg_is (g : GV) : HSg g := by
  intro d c τ hc hL
  refine x_entry (L := [some (.int (nI c))]) (by decide +kernel) (Nat.le_of_ble_eq_true rfl) ⟨0, rfl⟩ ?_
  refine x_ldcS (q := 3) (tx := "()<=+-*;") (by decide) (by decide) (dxX8_isSign_0 0 rfl) ?_
  refine x_iload_n (i := 0) (dxX8_isSign_0 1 rfl) rfl rfl ?_
  refine x_callStr (As := [.int (nI c)]) (st := []) (dxX8_isSign_0 2 rfl) gw_715 gw_716 gw_717 gw_119 gw_718 pd_yJ0_indexOf_0f7a4 rfl (Nat.le_of_ble_eq_true rfl) (by decide) (Nat.le_refl _) (Nat.le_refl _) rfl (c_index1 (d := d + 2) hc) (fun r s w => ?_)
  obtain ⟨v, rfl, h1, rfl⟩ := w
  refine x_if_lt (tgt := 13) (dxX8_isSign_0 3 rfl) (by decide) (fun h => ?_) (fun h => ?_)
  · refine x_iconst (v := 0) (dxX8_isSign_0 6 rfl) rfl ?_
    exact x_iret rfl rfl (dxX8_isSign_0 7 rfl) ⟨0, rfl, by rw [if_neg (h1.mp h)], rfl⟩
  · refine x_iconst (v := 1) (dxX8_isSign_0 4 rfl) rfl ?_
    refine x_goto (tgt := 14) (dxX8_isSign_0 5 rfl) (by decide) ?_
    exact x_iret rfl rfl (dxX8_isSign_0 7 rfl) ⟨1, rfl, by rw [if_pos (Classical.byContradiction (fun q => h (h1.mpr q)))], rfl⟩
