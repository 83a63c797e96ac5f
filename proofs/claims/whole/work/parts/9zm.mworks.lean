/-! ===== the reference's works: the statements done one after the other, as p2 does them ===== -/
abbrev chWo : Nat → Nat → Prop := fun a i => a = 200 ∨ a = 179 ∧ (i = 34 ∨ i = 9) ∨ 190 ≤ a ∧ a ≤ 199
theorem it_le {s : PS} {L : List Nat} {C n : Nat} (h : Recs s L C n) : ∀ q, q ≤ n → (itS L q).2.2 ≤ nt L := by
  intro q
  induction q with
  | zero => intro _; exact Nat.zero_le _
  | succ q ih =>
    intro hq
    obtain ⟨e, -⟩ := h q (by omega)
    obtain ⟨k, -, h59, hj⟩ := st1_inl (t := (itS L (q + 1)).1) (n := (itS L (q + 1)).2.1) (j := (itS L (q + 1)).2.2) e
    have := tK_N L k (by omega)
    omega
theorem it_ext {s : PS} {L : List Nat} {C n : Nat} (h : Recs s L C n) : ∀ z q, q + z = n → Ext (itS L q).1 (itS L q).2.1 (itS L n).1 (itS L n).2.1 := by
  intro z
  induction z with
  | zero => intro q hq; rw [show q = n by omega]; exact Ext.rf
  | succ z ih =>
    intro q hq
    obtain ⟨-, k, e, -, -⟩ := h q (by omega)
    exact st1_ext e (ih (q + 1) (by omega))
theorem it_ge {s : PS} {L : List Nat} {C n : Nat} (h : Recs s L C n) : ∀ q, q ≤ n → q ≤ (itS L q).2.2 := by
  intro q
  induction q with
  | zero => intro _; exact Nat.zero_le _
  | succ q ih =>
    intro hq
    have h1 := ih (by omega)
    obtain ⟨e, -⟩ := h q (by omega)
    have h6 := st1_six (t := (itS L (q + 1)).1) (N := (itS L (q + 1)).2.1) (j := (itS L (q + 1)).2.2) (it_le h q (by omega)) e
    refine Classical.byContradiction (fun hc => ?_)
    have hle := it_le h q (by omega)
    have hu := tb_up (L := L) (i := (itS L (q + 1)).2.2) ((itS L q).2.2 - (itS L (q + 1)).2.2) (by omega)
    rw [show (itS L (q + 1)).2.2 + ((itS L q).2.2 - (itS L (q + 1)).2.2) = (itS L q).2.2 by omega] at hu
    omega
theorem Recs.ch {s s' : PS} {L : List Nat} {C n : Nat} (h : Recs s L C n) (c : Ch chWo noL s s') : Recs s' L C n := fun q hq => by
  obtain ⟨e, k, a, b, st⟩ := h q hq
  exact ⟨e, k, a, b, st.ch c (fun a _ _ => by omega) (fun a l _ _ _ => by omega) (fun q _ => by omega) (Nat.le_refl _)⟩
theorem PlR.ch {s s' : PS} {L : List Nat} {told n p C j : Nat} {nm : Nat → Nat} (h : PlR s L told nm n p C j) (c : Ch chWo noL s s') : PlR s' L told nm n p C j := by
  have lk : ∀ l i' j', LineOK s L told nm l i' j' C → LineOK s' L told nm l i' j' C := fun l i' j' h => h.ch c (by omega) (by omega) (fun q _ => by omega)
  obtain ⟨p1, p2, j1, j2, u1, u2, p3, p4, p5, p6, p7⟩ := h
  refine ⟨by rw [c.i (by omega)]; exact p1, by rw [c.i (by omega)]; exact p2, j1, j2, u1, u2, p3, p4, lk _ _ _ p5, lk _ _ _ p6, ?_⟩
  rcases p7 with p7 | ⟨p7, j3, u3, u4, p8, p9, p10, p11⟩
  · exact Or.inl p7
  · exact Or.inr ⟨p7, j3, u3, u4, p8, p9, lk _ _ _ p10, lk _ _ _ p11⟩
theorem late_sl {L : List Nat} {told i T : Nat} {nm NM : Nat → Nat} (hx : Ext (tellT nm told (tC L i)) (tellN nm told (tC L i)) T NM) : slD L told nm i = slE L T NM i ∧ slE L T NM i < T := by
  have e := hx _ _ (tell_slot (nm := nm) (told := told) (c := tC L i))
  have e1 : slD L told nm i = slE L T NM i := by unfold slE slD; rw [e]; rfl
  refine ⟨e1, ?_⟩
  have e2 : slt NM T (tC L i) = some (slE L T NM i) := by rw [← e1]; exact e
  exact (slt_lt e2).1
/-- the turns of an each -/
theorem wo_each {g : GV} {d told T n sl j j3 C : Nat} {L : List Nat} {nm NM : Nat → Nat} {a : Int32} {x : Int64} {P : Int32 → PS → Prop} (hT8 : T ≤ 8) (hC : C ≤ 1000) (hn : n < 200) (hsl : sl < T) (hK : 4 ≤ tK L j ∧ tK L j ≤ 6) (hx : Ext told nm T NM) : ∀ (z k : Nat) (env : Nat → Int32) (rw' : Nat → Nat) (τ : PS), x.toInt = (z + k : Nat) → z + k ≤ 64 → Lay τ → mi τ 184 n = nI sl → PlR τ L told nm n j C j3 → (∀ q, q < T → mi τ 199 (1 + q) = env q) → Sq τ (grd rw') →
    (∀ s e r, eaF L T NM sl a j z k env rw' = .inl (e, r) → (∀ q, q < T → mi s 199 (1 + q) = e q) → Sq s (grd r) → Ch chWo noL τ s → VX12_works g (d + 4) P 50 [some (.ref 179), some (.int (nI (n + 1))), none, none, none, none] [] s) →
    (∀ s e, eaF L T NM sl a j z k env rw' = .inr e → mi s 179 9 = nI (e + 16 * tb L j) → Ch chWo noL τ s → P 0 s) →
    VX12_works g (d + 4) P 128 [some (.ref 179), some (.int (nI n)), some (.int a), some (.long x), none, some (.int (nI k))] [] τ := by
  intro z
  induction z with
  | zero =>
    intro k env rw' τ hxx hk hL h184 hPl hV hS hgo hbad
    refine vcX12_works_128 hL _ _ _ _ ⟨fun _ x28 e28 => ?_, fun h => absurd (lcN.mpr ?_) h⟩
    · rw [inc e28]
      exact hgo τ env rw' rfl hV hS Ch.rf
    · rw [hxx, Int32.toInt_toInt64, nI_toInt (by omega)]
      omega
  | succ z ih =>
    intro k env rw' τ hxx hk hL h184 hPl hV hS hgo hbad
    refine vcX12_works_128 hL _ _ _ _ ⟨fun h => ?_, fun _ => ?_⟩
    · have := lcN.mp h
      rw [hxx, Int32.toInt_toInt64, nI_toInt (by omega)] at this
      omega
    rw [zIN (by omega) (by omega), zCL (by omega), h184, lit32 1, nI_add, zIN (by omega) (by omega), zCL (by omega)]
    refine ⟨hn, by omega, fun s32 e32 => ?_⟩
    have c32 : Ch chWo noL τ s32 := by rw [e32]; exact (Ch.rf : Ch chWo noL τ τ).si (by omega)
    have c32' : Ch (fun a _ => a = 199) noL τ s32 := by rw [e32]; exact Ch.rf.si rfl
    have hV32 : ∀ q, q < T → mi s32 199 (1 + q) = upE env sl (a + nI k) q := by
      intro q hq
      rw [e32, mi_si]
      unfold upE
      by_cases e : q = sl
      · rw [if_pos ⟨rfl, by omega⟩, if_pos e]
      · rw [if_neg (by omega), if_neg e]; exact hV q hq
    refine Ct.imp (sp_doesP (d := d) (c32.lay hL) hT8 hn hK hx (hPl.ch c32) hC hV32 (hS.ch c32' (fun k => by omega) (by omega))) (fun r s34 w => ?_)
    obtain ⟨v, rfl, ⟨q, hst, hd⟩, c34⟩ := w
    have c34' : Ch chWo noL s32 s34 := c34.mono (fun a k h => by omega) (fun _ _ h => h)
    have c' := c32.trans c34'
    rw [eaF_s, hst] at hgo hbad
    dsimp only at hgo hbad
    refine ⟨_, rfl, c34.fr, fun hv x36 e36 => ?_, fun hv => ?_⟩
    · rw [nI_add] at e36
      subst e36
      rcases hd with ⟨r2, hd, -, hS'⟩ | ⟨e, -, rfl, -⟩
      · rw [hd] at hgo hbad
        dsimp only at hgo hbad
        exact ih (k + 1) _ r2 s34 (by rw [hxx]; congr 1; omega) (by omega) (c'.lay hL) (by rw [c'.i (by omega)]; exact h184) (hPl.ch c') (fun q hq => by rw [c34.i (by omega)]; exact hV32 q hq) hS' (fun s e r h1 h2 h3 h4 => hgo s e r h1 h2 h3 (c'.trans h4)) (fun s e h1 h2 h3 => hbad s e h1 h2 (c'.trans h3))
      · exact absurd rfl hv
    · rcases hd with ⟨r2, -, rfl, -⟩ | ⟨e, hd, -, hw⟩
      · exact absurd hv (by decide)
      · rw [hd] at hbad
        exact hbad s34 e rfl hw c'
theorem wo_loop {g : GV} {d T m C : Nat} {L : List Nat} {NM : Nat → Nat} {P : Int32 → PS → Prop} (hT8 : T ≤ 8) (hC : C ≤ 1000) (hm : m < 200) (hit1 : (itS L m).1 = T) (hit2 : (itS L m).2.1 = NM) (hit3 : tK L (itS L m).2.2 = 0) : ∀ (z q f : Nat) (env : Nat → Int32) (rw' : Nat → Nat) (τ : PS), q + z = m → z < f → Lay τ → mi τ 179 10 = nI m → Recs τ L C m → (∀ k, k < T → mi τ 199 (1 + k) = env k) → Sq τ (grd rw') →
    (∀ s w, p2 L T NM f env rw' (itS L q).2.2 = .inl w → Sq s (grd w) → Ch chWo noL τ s → P 1 s) →
    (∀ s e k, p2 L T NM f env rw' (itS L q).2.2 = .inr (e, k) → mi s 179 9 = nI (e + 16 * tb L k) → Ch chWo noL τ s → P 0 s) →
    VX12_works g (d + 4) P 50 [some (.ref 179), some (.int (nI q)), none, none, none, none] [] τ := by
  intro z
  induction z with
  | zero =>
    intro q f env rw' τ hz hf hL hm10 hR hV hS hgo hbad
    have hq : q = m := by omega
    obtain ⟨f, rfl⟩ : ∃ f', f = f' + 1 := ⟨f - 1, by omega⟩
    rw [hq] at hgo ⊢
    exact vcX12_works_50 hL _ ⟨fun _ => hgo τ rw' (by rw [p2_s, if_pos hit3]) hS Ch.rf, fun h => absurd (by rw [hm10]; exact Int32.le_refl _) h⟩
  | succ z ih =>
    intro q f env rw' τ hz hf hL hm10 hR hV hS hgo hbad
    obtain ⟨f, rfl⟩ : ∃ f', f = f' + 1 := ⟨f - 1, by omega⟩
    obtain ⟨e1, k, e2, e3, e4⟩ := hR q (by omega)
    have hi := it_le hR q (by omega)
    have hx := it_ext hR z (q + 1) (by omega)
    rw [hit1, hit2] at hx
    have hx0 := st1_ext e2 hx
    have hn2 : vp_in (nI q) 200 := by rw [zIN (by omega) (by omega)]; omega
    have h0 : ¬ tK L (itS L q).2.2 = 0 := by
      rcases e4 with ⟨h, -⟩ | ⟨h, -⟩ | ⟨h, -⟩ <;> omega
    have hp : p2 L T NM (f + 1) env rw' (itS L q).2.2 = bdR (st2 L T NM env rw' (itS L q).2.2) (fun e r j => p2 L T NM f e r j) := by rw [p2_s, if_neg h0]
    rw [hp] at hgo hbad
    refine vcX12_works_50 hL _ ⟨fun h => absurd h (by rw [hm10, zLE (by omega) (by omega)]; omega), fun _ => ?_⟩
    rw [zCL (by omega), lit32 6, pk_mul, lit32 4, lit32 5, nI_add, nI_add]
    have step : ∀ (s : PS) (e : Nat → Int32) (r : Nat → Nat), st2 L T NM env rw' (itS L q).2.2 = .inl (e, r, k + 1) → (∀ k, k < T → mi s 199 (1 + k) = e k) → Sq s (grd r) → Ch chWo noL τ s → VX12_works g (d + 4) P 50 [some (.ref 179), some (.int (nI (q + 1))), none, none, none, none] [] s := by
      intro s e r h1 h2 h3 c
      rw [h1] at hgo hbad
      refine ih (q + 1) f e r s (by omega) (by omega) (c.lay hL) (by rw [c.i (by omega)]; exact hm10) (hR.ch c) h2 h3 (fun s' w g1 g2 g3 => hgo s' w ?_ g2 (c.trans g3)) (fun s' w k' g1 g2 g3 => hbad s' w k' ?_ g2 (c.trans g3))
      · rw [e3] at g1; exact g1
      · rw [e3] at g1; exact g1
    rcases e4 with ⟨h7, a1, a2, a3, a4⟩ | ⟨h8, a1, a2, a, b, j1, j2, a3, a4, a5, a6, a7, a8, a9⟩ | ⟨h4, h6, a1, a2⟩
    · obtain ⟨b1, ⟨v0, b2⟩, b3, b4⟩ := s1let h7 e2
      rw [b3, b4] at hx
      obtain ⟨c1, c2⟩ := late_sl hx
      have hw := (nn_w b1).1
      obtain ⟨v, b5⟩ := sm_late (env := env) hx0 b2
      have hl := a4.ext (by omega) hx0 b2
      have hs2 : st2 L T NM env rw' (itS L q).2.2 = .inl (upE env (slE L T NM ((itS L q).2.2 + 1)) v, rw', k + 1) := by unfold st2; rw [if_pos h7, b5, bd2_l]
      rw [a2]
      refine ⟨hn2, fun h => absurd h (by decide), fun _ => ?_⟩
      refine Ct.imp (sp_doesL (d := d) hL hT8 (by omega) (by omega) a1 (by rw [a3, c1]) c2 hl hC hV b5) (fun r s w => ?_)
      obtain ⟨v', rfl, rfl, w1, w2⟩ := w
      refine ⟨_, rfl, w2.fr, fun _ x e => ?_, fun h => absurd h (by decide)⟩
      rw [inc e]
      exact step s _ rw' hs2 w1 (hS.ch w2 (fun k => by omega) (by omega)) (w2.mono (fun a k h => by omega) (fun _ _ h => h))
    · obtain ⟨b1, b3, b4, a0, b0, j', j2', g1, g2, zz, g3⟩ := s1each h8 e2
      rw [a3] at g1
      cases g1
      rw [a4] at g2
      cases g2
      have hx' := hx
      rw [b3, b4] at hx'
      obtain ⟨c1, c2⟩ := late_sl hx'
      have hw := (nn_w b1).1
      obtain ⟨va, b5⟩ := sm_late (env := env) hx0 a3
      obtain ⟨vb, b6⟩ := sm_late (env := env) hx0 a4
      obtain ⟨vz, b7⟩ := st_late (env := env) hx g3
      have r1 := sm_rng (show (itS L q).2.2 + 2 ≤ nt L by omega) a3
      have l1 := a5.ext (by omega) hx0 a3
      have l2 := a6.ext (by omega) hx0 a4
      have hs2 : st2 L T NM env rw' (itS L q).2.2 = (if turnsI va vb ≤ 0 then .inl (env, rw', k + 1) else if 64 < turnsI va vb then .inr (4, (itS L q).2.2) else eaR (eaF L T NM (slE L T NM ((itS L q).2.2 + 1)) va j2 (turnsI va vb).toNat 0 env rw') j2 k) := by
        unfold st2
        rw [if_neg (by omega), if_pos h8, b5, bd2_l, b6, bd2_l, b7, bd42_l]
      have hsl : mi τ 184 q = nI (slE L T NM ((itS L q).2.2 + 1)) := by rw [a1, c1]
      rw [hsl, lit32 0, zLE (by omega) (by omega)]
      refine ⟨hn2, fun _ => ?_, fun h => absurd (Nat.zero_le _) h⟩
      refine Ct.imp (sp_worked (d := d + 1) hL hT8 (by omega) l1 hC (by omega) hV b5) (fun r s w => ?_)
      obtain ⟨v1, rfl, rfl, w1⟩ := w
      refine ⟨_, rfl, w1.fr, ?_⟩
      refine Ct.imp (sp_worked (d := d + 1) (w1.lay hL) hT8 r1.2 (l2.ch w1 (by omega) (by omega) (fun q _ => by omega)) hC (by omega) (fun k hk => by rw [w1.i (by omega)]; exact hV k hk) b6) (fun r s2 w => ?_)
      obtain ⟨v2, rfl, rfl, w2⟩ := w
      refine ⟨_, rfl, w2.fr, fun x ex => ?_⟩
      have d2 := w1.trans w2
      have d2' : Ch chWo noL τ s2 := d2.mono (fun a k h => by omega) (fun _ _ h => h)
      have hxx : x.toInt = turnsI v1 v2 := by rw [ex]; exact tn64 v1 v2
      have hV2 : ∀ k, k < T → mi s2 199 (1 + k) = env k := fun k hk => by rw [d2.i (by omega)]; exact hV k hk
      have hS2 := hS.ch d2 (fun k => by omega) (by omega)
      refine ⟨fun h => ?_, fun h => ?_⟩
      · have h64 : turnsI v1 v2 ≤ 64 := by rw [← hxx]; exact lcZ.mp h
        by_cases t0 : turnsI v1 v2 ≤ 0
        · rw [if_pos t0] at hs2
          refine vcX12_works_128 (d2.lay hL) _ _ _ _ ⟨fun _ x28 e28 => ?_, fun h => absurd (lcN.mpr ?_) h⟩
          · rw [inc e28]
            exact step s2 _ rw' hs2 hV2 hS2 d2'
          · rw [hxx]
            exact t0
        · rw [if_neg t0, if_neg (by omega)] at hs2
          refine wo_each (d := d) hT8 hC (by omega) c2 ⟨a7, a8⟩ hx (turnsI v1 v2).toNat 0 env rw' s2 (by rw [hxx]; omega) (by omega) (d2.lay hL) (by rw [d2.i (by omega)]; exact hsl) (a9.ch d2') hV2 hS2 (fun s e r h1 h2 h3 h4 => ?_) (fun s e h1 h2 h3 => ?_)
          · rw [h1] at hs2
            exact step s e r hs2 h2 h3 (d2'.trans h4)
          · rw [h1] at hs2
            rw [hs2] at hbad
            exact hbad s e j2 rfl h2 (d2'.trans h3)
      · have h64 : 64 < turnsI v1 v2 := by
          rw [← hxx]
          exact Int.not_le.mp (fun q => h (lcZ.mpr q))
        rw [if_neg (by omega), if_pos h64] at hs2
        rw [hs2] at hbad
        rw [d2.i (by omega), a2]
        refine ⟨hn2, vcX12_wrongAt (d2.lay hL) _ _ (fun s3 e3' => ⟨by rw [e3']; exact Fr.rf.si, Or.inl rfl, hbad s3 4 _ rfl ?_ (d2'.trans (by rw [e3']; exact (Ch.rf : Ch chWo noL s2 s2).si (by omega)))⟩)⟩
        rw [e3', mi_si, if_pos ⟨rfl, rfl⟩, lit32 16, pk_mul, nI_add]
    · obtain ⟨b1, b2, zz, b3⟩ := s1step (by omega) (by omega) e2
      obtain ⟨vz, b4⟩ := st_late (env := env) hx0 b3
      have hs2 : st2 L T NM env rw' (itS L q).2.2 = doR (doF rw' (tK L (itS L q).2.2) vz) env (itS L q).2.2 k := by unfold st2; rw [if_neg (by omega), if_neg (by omega), b4, bd42_l]
      rw [a1]
      refine ⟨hn2, fun h => absurd h (by decide), fun _ => ?_⟩
      refine Ct.imp (sp_doesP (d := d) hL hT8 (by omega) ⟨h4, h6⟩ hx0 a2 hC hV hS) (fun r s w => ?_)
      obtain ⟨v, rfl, ⟨q', hst, hd⟩, c⟩ := w
      have c' : Ch chWo noL τ s := c.mono (fun a k h => by omega) (fun _ _ h => h)
      rw [b4] at hst
      cases hst
      refine ⟨_, rfl, c.fr, fun hv x e => ?_, fun hv => ?_⟩
      · rw [inc e]
        rcases hd with ⟨r2, hd, -, hS'⟩ | ⟨e, -, rfl, -⟩
        · rw [hd] at hs2
          exact step s _ r2 hs2 (fun k hk => by rw [c.i (by omega)]; exact hV k hk) hS' c'
        · exact absurd rfl hv
      · rcases hd with ⟨r2, -, rfl, -⟩ | ⟨e, hd, -, hw⟩
        · exact absurd hv (by decide)
        · rw [hd] at hs2
          rw [hs2] at hbad
          exact hbad s e _ rfl hw c'
