theorem dLs_0 : decode cL_shortest 0 = .ok (.aload 4, 2) := by decide +kernel
theorem dLs_2 : decode cL_shortest 2 = .ok (.iconst 0, 1) := by decide +kernel
theorem dLs_3 : decode cL_shortest 3 = .ok (.aload_n 0, 1) := by decide +kernel
theorem dLs_4 : decode cL_shortest 4 = .ok (.iload_n 1, 1) := by decide +kernel
theorem dLs_5 : decode cL_shortest 5 = .ok (.iload_n 2, 1) := by decide +kernel
theorem dLs_6 : decode cL_shortest 6 = .ok (.iload_n 3, 1) := by decide +kernel
theorem dLs_7 : decode cL_shortest 7 = .ok (.invokevirtual 7, 3) := by decide +kernel
theorem dLs_10 : decode cL_shortest 10 = .ok (.i2l, 1) := by decide +kernel
theorem dLs_11 : decode cL_shortest 11 = .ok (.lastore, 1) := by decide +kernel
theorem dLs_12 : decode cL_shortest 12 = .ok (.goto 7, 3) := by decide +kernel
theorem dLs_15 : decode cL_shortest 15 = .ok (.astore 5, 2) := by decide +kernel
theorem dLs_17 : decode cL_shortest 17 = .ok (.iconst 1, 1) := by decide +kernel
theorem dLs_18 : decode cL_shortest 18 = .ok (.ireturn, 1) := by decide +kernel
theorem dLs_19 : decode cL_shortest 19 = .ok (.iconst 0, 1) := by decide +kernel
theorem dLs_20 : decode cL_shortest 20 = .ok (.ireturn, 1) := by decide +kernel
theorem dLr_0 : decode cL_round 0 = .ok (.aload_n 3, 1) := by decide +kernel
theorem dLr_1 : decode cL_round 1 = .ok (.iconst 0, 1) := by decide +kernel
theorem dLr_2 : decode cL_round 2 = .ok (.aload_n 0, 1) := by decide +kernel
theorem dLr_3 : decode cL_round 3 = .ok (.iload_n 1, 1) := by decide +kernel
theorem dLr_4 : decode cL_round 4 = .ok (.iload_n 2, 1) := by decide +kernel
theorem dLr_5 : decode cL_round 5 = .ok (.invokevirtual 15, 3) := by decide +kernel
theorem dLr_8 : decode cL_round 8 = .ok (.i2l, 1) := by decide +kernel
theorem dLr_9 : decode cL_round 9 = .ok (.lastore, 1) := by decide +kernel
theorem dLr_10 : decode cL_round 10 = .ok (.goto 7, 3) := by decide +kernel
theorem dLr_13 : decode cL_round 13 = .ok (.astore 4, 2) := by decide +kernel
theorem dLr_15 : decode cL_round 15 = .ok (.iconst 1, 1) := by decide +kernel
theorem dLr_16 : decode cL_round 16 = .ok (.ireturn, 1) := by decide +kernel
theorem dLr_17 : decode cL_round 17 = .ok (.iconst 0, 1) := by decide +kernel
theorem dLr_18 : decode cL_round 18 = .ok (.ireturn, 1) := by decide +kernel
theorem gl_1117 : Cond.classLink RL 13 nsE ∈ lwG := gw 1117 (by decide +kernel) rfl
theorem gl_1118 : Cond.methodLink RL 7 yX11_shortest ∈ lwG := gw 1118 (by decide +kernel) rfl
theorem gl_1119 : Cond.instanceMethod yX11_shortest ∈ lwG := gw 1119 (by decide +kernel) rfl
theorem gl_1120 : Cond.selects RX11 yX11_shortest yX11_shortest ∈ lwG := gw 1120 (by decide +kernel) rfl
theorem gl_1121 : Cond.code yX11_shortest cX11_shortest 4 (some FieldType.int) ∈ lwG := gw 1121 (by decide +kernel) rfl
theorem gl_1195 : Cond.methodLink RL 15 yX11_round ∈ lwG := gw 1195 (by decide +kernel) rfl
theorem gl_1196 : Cond.instanceMethod yX11_round ∈ lwG := gw 1196 (by decide +kernel) rfl
theorem gl_1197 : Cond.selects RX11 yX11_round yX11_round ∈ lwG := gw 1197 (by decide +kernel) rfl
theorem gl_1198 : Cond.code yX11_round cX11_round 3 (some FieldType.int) ∈ lwG := gw 1198 (by decide +kernel) rfl
theorem pdL_s : yX11_shortest.cls ≠ "java/lang/invoke/MethodHandle" ∧ yX11_shortest.cls ≠ "java/lang/invoke/VarHandle" ∧ (parseMethodDescriptor yX11_shortest.desc).map (fun d => d.parameters.length) = some 3 := by decide +kernel
theorem pdL_r : yX11_round.cls ≠ "java/lang/invoke/MethodHandle" ∧ yX11_round.cls ≠ "java/lang/invoke/VarHandle" ∧ (parseMethodDescriptor yX11_round.desc).map (fun d => d.parameters.length) = some 2 := by decide +kernel
abbrev hhS : List (Nat × Nat × Nat × Nat) := [(0, 12, 15, 13)]
abbrev hhR : List (Nat × Nat × Nat × Nat) := [(0, 10, 13, 13)]
/-- the law's catcher: 0 and the answer in out[0], or 1 -/
def catP (o : Nat) (P : Int32 → PS → Prop) (PX : PS → Prop) (v : Int32) (s : PS) : Prop := (v = 0 ∧ ∃ r t, P r t ∧ s = sj t o 0 r.toInt64) ∨ (v = 1 ∧ PX s)
theorem law_shortest {g : GV} {d o z : Nat} {a b w : Int32} {σ : PS} {P : Int32 → PS → Prop} {PX : PS → Prop} (hkd : kd σ 10 = some (.inl 11)) (hz : 0 < z ∧ z < 1000) (hP : ∀ v s, P v s → kd s o = some (.inr (1, z)))
    (hE : EX11_shortest g d [.ref 10, .int a, .int b, .int w] σ P PX) : CtW g yL_shortest cL_shortest 6 (some FieldType.int) hhS (d + 1) 1 6 [.ref 10, .int a, .int b, .int w, .ref o] σ (PI (catP o P PX)) := by
  refine x_entryW (L := [some (.ref 10), some (.int a), some (.int b), some (.int w), some (.ref o), none]) (by decide +kernel) (Nat.le_of_ble_eq_true rfl) ⟨1, rfl⟩ ?_
  show X g (ZMW g (some FieldType.int) hhS 1 6 (PI (catP o P PX))) RL cL_shortest 6 (d + 1) 1 6 0 0 0 [some (.ref 10), some (.int a), some (.int b), some (.int w), some (.ref o), none] [] σ
  refine x_aload (i := 4) dLs_0 rfl ?_
  refine x_iconst (v := 0) dLs_2 rfl ?_
  refine x_aload_n (i := 0) dLs_3 rfl rfl ?_
  refine x_iload_n (i := 1) dLs_4 rfl rfl ?_
  refine x_iload_n (i := 2) dLs_5 rfl rfl ?_
  refine x_iload_n (i := 3) dLs_6 rfl rfl ?_
  refine x_callVX (y := yX11_shortest) (ci := 11) (As := [.int a, .int b, .int w]) (st := [.int 0, .ref o]) (T := TX11) (N := 14) dLs_7 gl_1118 gl_1119 gl_1120 gw_103 gl_1121 pdL_s rfl hkd (Nat.le_of_ble_eq_true rfl) (Nat.le_of_ble_eq_true rfl) (Nat.le_refl _) (Nat.le_refl _) rfl hE (fun r σ1 hr => ?_) (by decide) (by decide) gl_1117 dLs_15 (Nat.le_of_ble_eq_true rfl) rfl rfl (fun σ1 hx => ?_)
  · obtain ⟨v, rfl, hp⟩ := hr
    refine x_i2l dLs_10 ?_
    refine x_last (hP v σ1 hp) (by rw [lit32 0, zIN (by omega) (by omega)]; omega) dLs_11 ?_
    refine x_goto (tgt := 19) dLs_12 (by decide) ?_
    refine x_iconst (v := 0) dLs_19 rfl ?_
    exact x_ofZW (x_iret (ty := .int) rfl rfl dLs_20 ⟨_, rfl, Or.inl ⟨rfl, v, σ1, hp, rfl⟩⟩)
  · refine x_iconst (v := 1) dLs_17 rfl ?_
    exact x_ofZW (x_iret (ty := .int) rfl rfl dLs_18 ⟨_, rfl, Or.inr ⟨rfl, hx⟩⟩)
theorem law_round {g : GV} {d o z : Nat} {a w : Int32} {σ : PS} {P : Int32 → PS → Prop} {PX : PS → Prop} (hkd : kd σ 10 = some (.inl 11)) (hz : 0 < z ∧ z < 1000) (hP : ∀ v s, P v s → kd s o = some (.inr (1, z)))
    (hE : EX11_round g d [.ref 10, .int a, .int w] σ P PX) : CtW g yL_round cL_round 5 (some FieldType.int) hhR (d + 1) 1 6 [.ref 10, .int a, .int w, .ref o] σ (PI (catP o P PX)) := by
  refine x_entryW (L := [some (.ref 10), some (.int a), some (.int w), some (.ref o), none]) (by decide +kernel) (Nat.le_of_ble_eq_true rfl) ⟨1, rfl⟩ ?_
  show X g (ZMW g (some FieldType.int) hhR 1 6 (PI (catP o P PX))) RL cL_round 5 (d + 1) 1 6 0 0 0 [some (.ref 10), some (.int a), some (.int w), some (.ref o), none] [] σ
  refine x_aload_n (i := 3) dLr_0 rfl rfl ?_
  refine x_iconst (v := 0) dLr_1 rfl ?_
  refine x_aload_n (i := 0) dLr_2 rfl rfl ?_
  refine x_iload_n (i := 1) dLr_3 rfl rfl ?_
  refine x_iload_n (i := 2) dLr_4 rfl rfl ?_
  refine x_callVX (y := yX11_round) (ci := 11) (As := [.int a, .int w]) (st := [.int 0, .ref o]) (T := TX11) (N := 14) dLr_5 gl_1195 gl_1196 gl_1197 gw_103 gl_1198 pdL_r rfl hkd (Nat.le_of_ble_eq_true rfl) (Nat.le_of_ble_eq_true rfl) (Nat.le_refl _) (Nat.le_refl _) rfl hE (fun r σ1 hr => ?_) (by decide) (by decide) gl_1117 dLr_13 (Nat.le_of_ble_eq_true rfl) rfl rfl (fun σ1 hx => ?_)
  · obtain ⟨v, rfl, hp⟩ := hr
    refine x_i2l dLr_8 ?_
    refine x_last (hP v σ1 hp) (by rw [lit32 0, zIN (by omega) (by omega)]; omega) dLr_9 ?_
    refine x_goto (tgt := 17) dLr_10 (by decide) ?_
    refine x_iconst (v := 0) dLr_17 rfl ?_
    exact x_ofZW (x_iret (ty := .int) rfl rfl dLr_18 ⟨_, rfl, Or.inl ⟨rfl, v, σ1, hp, rfl⟩⟩)
  · refine x_iconst (v := 1) dLr_15 rfl ?_
    exact x_ofZW (x_iret (ty := .int) rfl rfl dLr_16 ⟨_, rfl, Or.inr ⟨rfl, hx⟩⟩)
