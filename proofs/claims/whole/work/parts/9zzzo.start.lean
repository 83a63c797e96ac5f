/-! ===== the law from its first instruction to its loop ===== -/
theorem CW.o {σ s : PS} {w : Nat → Nat} {E : Nat} {ρ : Nat → Nat} {S : Nat → Mat} {at' last : Nat} {mk : Nat → Option MkT} {L : List Nat} (h : CW σ w E ρ S at' last mk L) (hl : last ≤ 40) (hm : ∀ a, a < 179 → mi s a = mi σ a) (hr : mr s 39 = mr σ 39) : CW s w E ρ S at' last mk L := by
  have c : Ch (fun a _ => 179 ≤ a) (fun _ _ => True) σ (wr s σ) := ⟨⟨rfl, rfl⟩, fun a k q => by show mi s a k = mi σ a k; rw [hm a (by omega)], fun _ _ q => (q trivial).elim⟩
  have h1 := h.r hl c (fun a i q => q)
  exact ⟨⟨h1.1.1, ⟨fun i hi => by rw [hr]; exact h.1.2.1.1 i hi, h.1.2.1.2⟩, h1.1.2.2⟩, h1.2⟩
/-- what stands behind both constructors -/
def P12 (s : PS) : Prop := LayY s ∧ CW s rw1 4 (fun i => 40 + i) (fun _ => nm) 0 0 (fun _ => none) [] ∧ DW s rw1 4 (fun _ => nm) 0 0 (fun _ => none) []
theorem cM_35 : mi (k12 cM) 179 35 = 1 := by decide +kernel
theorem cM_201 : mi (k12 cM) 201 0 = 0 ∧ mi (k12 cM) 202 0 = 0 := by decide +kernel
theorem cM_mk : ∀ i, i < 4 → mi (k12 cM) 229 i = 0 := by decide +kernel
theorem cM_tp : mi (k12 cM) 179 1 = 0 := by decide +kernel
theorem sh1 {g : GV} {d : Nat} {s1 : PS} (h : P11 s1) : CX12_shapes g (d + 2) [.ref 179] (k12 (nK s1 179 (.inl 12))) P12 := by
  have hn : fN rw1 ≤ 10 := by rw [n1]; decide
  obtain ⟨hV, -⟩ := id gf1
  have hm : ∀ a, 179 ≤ a → a < 234 → mi (k12 (nK s1 179 (.inl 12))) a = mi (k12 cM) a := fun a h1 h2 => (k12_c s1 a h1 h2).2.1
  have hLY := k12_lay h.1
  have hC : CW (k12 (nK s1 179 (.inl 12))) rw1 4 (fun i => 40 + i) (fun _ => nm) 0 0 (fun _ => none) [] := by
    have h0 : ol s1 (nK s1 179 (.inl 12)) := olK olR (by decide)
    exact h.2.o (by decide) (fun a ha => (k12_ol a ha).2.1.trans (h0 a ha).2.1) ((k12_ol 39 (by decide)).2.2.2.trans (h0 39 (by decide)).2.2.2)
  have hM : MC (k12 (nK s1 179 (.inl 12))) (fN rw1) (fX rw1) (fY rw1) := by
    refine ⟨by rw [hm 179 (by decide) (by decide), cM_35, n1]; rfl, hn, fun i hi => ?_, fun i hi => ?_, fun i hi => ?_⟩
    · rw [n1] at hi
      have e : i = 0 := by omega
      subst e
      rw [x1y1.1, x1y1.2]
      decide
    · rw [n1] at hi
      have e : i = 0 := by omega
      subst e
      rw [hm 201 (by decide) (by decide), cM_201.1, x1y1.1]
      rfl
    · rw [n1] at hi
      have e : i = 0 := by omega
      subst e
      rw [hm 202 (by decide) (by decide), cM_201.2, x1y1.2]
      rfl
  refine Ct.imp (sp_shapesY (d := d) hLY hM hV.2.2.1 hV.2.2.2.1 hV.2.2.2.2.1 (by decide)) (fun r s q => ?_)
  obtain ⟨rfl, m1, m2, m3, m4, m5, c1⟩ := q
  refine ⟨rfl, c1.layY hLY, hC.r (by decide) c1 (fun a i h => by simp only [chSh] at h; omega), m1, ⟨fun e he => m2 e he, m4, m5, fun i hi => absurd hi (Nat.not_lt_zero _), fun i hi => absurd hi (Nat.not_lt_zero _)⟩, fun q => absurd m3 q, fun q => absurd m3 q, fun i hi => ⟨fun _ => ?_, fun t ht => nomatch ht⟩, ?_, fun i c e => nomatch e⟩
  · rw [c1.i (by simp only [chSh]; omega), hm 229 (by decide) (by decide)]
    exact cM_mk i hi
  · rw [c1.i (by simp only [chSh]; omega), hm 179 (by decide) (by decide)]
    exact cM_tp
theorem lay_K234 : layK = layK.take 224 ++ [(234, .inr (1, 1))] := by decide +kernel
/-- the world behind the law's own array -/
theorem W1 {s : PS} (h : P12 s) : World (nK s 234 (.inr (1, 1))) := by
  obtain ⟨hL, hC, hD⟩ := h
  have hLay : Lay (nK s 234 (.inr (1, 1))) := by
    refine ⟨fun q hq => ?_, fun q hq => ?_⟩
    · rw [lay_K234] at hq
      rcases List.mem_append.mp hq with h1 | h1
      · have := lay_hi q h1
        rw [kd_nK, if_neg (by omega)]
        exact hL.1 q h1
      · rw [List.mem_singleton.mp h1]
        exact kS _ _ _
    · have h1 : q ∈ layR.take 186 := by rw [lay_tR]; exact hq
      have := lay_hiR q h1
      rw [mr_nK, if_neg (by omega)]
      exact hL.2 q h1
  have c : Ch (fun a _ => a = 234) (fun _ _ => True) s (wr (nK s 234 (.inr (1, 1))) s) := ⟨⟨rfl, rfl⟩, fun a k q => by show mi (nK s 234 (.inr (1, 1))) a k = mi s a k; rw [mi_nK, if_neg q], fun _ _ q => (q trivial).elim⟩
  have hD1 : DW (nK s 234 (.inr (1, 1))) rw1 4 (fun _ => nm) 0 0 (fun _ => none) [] := DW.of_wr (hD.k c (fun i h => by omega) (fun a i h => by omega))
  have hC1 : CW (nK s 234 (.inr (1, 1))) rw1 4 (fun i => 40 + i) (fun _ => nm) 0 0 (fun _ => none) [] := hC.o (by decide) (fun a ha => by rw [mi_nK, if_neg (by omega)]) (by rw [mr_nK, if_neg (by omega)])
  have hlc : ∀ i, lc [] i < 127 := fun i => by
    unfold lc
    rw [List.getD_eq_getElem?_getD]
    exact (by decide : (0 : Nat) < 127)
  exact ⟨rw1, 4, fun i => 40 + i, fun _ => nm, 0, 0, fun _ => none, [], hLay, ⟨gf1, Nat.le_refl _, by decide, GoodS.nm rw1 4, (fun i t ht => (nomatch ht)), Nat.zero_le _, hlc⟩, hC1, hD1⟩
theorem gl_130 : Cond.classLink RL 8 RX11 ∈ lwG := gw 130 (by decide +kernel) rfl
theorem gl_131 : Cond.instantiable RX11 14 ∈ lwG := gw 131 (by decide +kernel) rfl
theorem gl_132 : Cond.methodLink RL 19 yX11_init ∈ lwG := gw 132 (by decide +kernel) rfl
theorem gl_133 : Cond.instanceMethod yX11_init ∈ lwG := gw 133 (by decide +kernel) rfl
theorem gl_134 : Cond.code yX11_init cX11_init 1 none ∈ lwG := gw 134 (by decide +kernel) rfl
theorem gl_1201 : Cond.classLink RL 20 RX12 ∈ lwG := gw 1201 (by decide +kernel) rfl
theorem gl_1202 : Cond.instantiable RX12 85 ∈ lwG := gw 1202 (by decide +kernel) rfl
theorem gl_1203 : Cond.methodLink RL 22 yX12_init ∈ lwG := gw 1203 (by decide +kernel) rfl
theorem gl_1204 : Cond.instanceMethod yX12_init ∈ lwG := gw 1204 (by decide +kernel) rfl
theorem gl_1205 : Cond.code yX12_init cX12_init 1 none ∈ lwG := gw 1205 (by decide +kernel) rfl
theorem lawstart {g : GV} {Z : ZC} {mc ms : Nat} (hfl : (gl g).stackTraces = false) (hZn : ∀ p e R s m args below meth c Q, Z p e R s m args below meth c Q → nsW s) (hao : ∀ p e R s m args below meth c Q, Z p e R s m args below meth c Q → va_AO RX3 s) (hg : gL g < 2147483648) (hend : ∀ k n a σ, k ≤ mc → n ≤ ms → VL g Z 61 mc ms k n 1049 (lL a) [] σ) (hmc : 225 + gL g ≤ mc) (hms : 112378 + 6 * gL g ≤ ms) :
    VL g Z 61 mc ms 0 0 0 [some (.ref 0), none, none, none, none, none, none] [] eS0 := by
  refine x_newO (ci := 11) (C := RX11) (T := TX11) (N := 14) (a := 10) rfl lay_11 tyX11 tyX11_ok gl_130 gl_131 gw_103 zv_11 rfl (dxL_law_0 0 rfl) (by omega) (by omega) ?_
  refine x_dup (dxL_law_0 1 rfl) rfl ?_
  refine x_callI (d := 60) (As := []) hao (dxL_law_0 2 rfl) gl_132 gl_133 gw_103 gl_134 rfl pd_yX11_init (Nat.le_of_ble_eq_true rfl) (Nat.le_of_ble_eq_true rfl) (by omega) (by omega) rfl (ct_11 (d := 58) (tk1 (d := 56))) (fun s1 h1 => ?_)
  obtain ⟨e1, p1⟩ := h1
  refine x_astore_n (i := 1) (dxL_law_0 3 rfl) rfl (Nat.le_of_ble_eq_true rfl) rfl rfl ?_
  refine x_newO (ci := 12) (C := RX12) (T := TX12) (N := 85) (a := 179) rfl lay_12 tyX12 tyX12_ok gl_1201 gl_1202 gw_118 zv_12 e1 (dxL_law_0 4 rfl) (by omega) (by omega) ?_
  refine x_dup (dxL_law_0 5 rfl) rfl ?_
  refine x_callI (d := 60) (As := []) hao (dxL_law_0 6 rfl) gl_1203 gl_1204 gw_118 gl_1205 rfl pd_yX12_init (Nat.le_of_ble_eq_true rfl) (Nat.le_of_ble_eq_true rfl) (by omega) (by omega) rfl (ct_12 (d := 59) rfl (kS _ _ _) (sh1 (d := 57) p1)) (fun s2 h2 => ?_)
  obtain ⟨e2, p2⟩ := h2
  refine x_astore_n (i := 2) (dxL_law_0 7 rfl) rfl (Nat.le_of_ble_eq_true rfl) rfl rfl ?_
  refine x_iconst (v := 1) (dxL_law_0 8 rfl) rfl ?_
  refine x_newA (atype := .long) (t := 1) (z := 1) (a := 234) (Nat.le_of_ble_eq_true rfl) rfl gw_170 (by decide) (by decide) (Nat.le_of_ble_eq_true rfl) e2 (dxL_law_0 9 rfl) (by omega) (by omega) ?_
  refine x_astore_n (i := 3) (dxL_law_0 10 rfl) rfl (Nat.le_of_ble_eq_true rfl) rfl rfl ?_
  refine x_iconst (v := 0) (dxL_law_0 11 rfl) rfl ?_
  refine x_istore (i := 4) (dxL_law_0 12 rfl) (Nat.le_of_ble_eq_true rfl) rfl rfl ?_
  exact lawloop hfl hZn hg hend (gL g) 0 _ _ _ (by omega) (Nat.zero_le _) (by omega) (by omega) (W1 p2)
