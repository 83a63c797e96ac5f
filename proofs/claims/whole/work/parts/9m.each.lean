/-! ===== the class's readEach ===== -/
/-- a STEP read, not done -/
theorem sp_stepN {g : GV} {d told i : Nat} {L : List Nat} {nm : Nat → Nat} {env : Nat → Int32} {τ : PS} (hc : ∀ i, lc L i < 127) (hi : i ≤ nt L) (hL : Lay τ) (hR : RS τ L told nm) (hat : mi τ 16 5 = nI i) (h0 : mi τ 16 6 = 0) (hE : ∀ k, k < told → mi τ 19 k = env k) :
    CX7_readStep g (d + 14) [.ref 16, .int 0] τ (fun s => ((∃ q j, stF L told nm env i = .inl (q, j) ∧ mi s 16 5 = nI j ∧ mi s 16 6 = 0 ∧ j ≤ nt L) ∨ ∃ k j, stF L told nm env i = .inr (k, j) ∧ mi s 16 6 = nI (k + 16 * tb L j) ∧ 1 ≤ k ∧ k ≤ 5 ∧ j ≤ nt L) ∧ Ch chAF noL τ s) :=
  sp_readStep hc hi hL hR hat h0 hE (fun s k j er a1 a2 a3 a4 c => ⟨Or.inr ⟨k, j, er, a1, a2, a3, a4⟩, c⟩) (fun s x y w h j er a1 a2 a3 c => vcX7_readStep_98 (c.lay hL) (hR.af c).1 _ _ _ _ _ _ _ ⟨fun q => absurd a2 q, fun _ => ⟨fun q => absurd rfl q, fun _ => ⟨Or.inl ⟨_, j, er, a1, a2, a3⟩, c⟩⟩⟩)
/-- how many times, as a long -/
theorem tn64 (a b : Int32) : (b.toInt64 - a.toInt64 + 1).toInt = turnsI a b := by
  have a1 := Int32.toInt_lt a
  have a2 := Int32.le_toInt a
  have b1 := Int32.toInt_lt b
  have b2 := Int32.le_toInt b
  unfold turnsI
  rw [Int64.toInt_add, Int64.toInt_sub, Int32.toInt_toInt64, Int32.toInt_toInt64, show ((1 : Int64).toInt) = 1 from rfl, Int.bmod_eq_of_le (n := b.toInt - a.toInt) (by omega) (by omega), Int.bmod_eq_of_le (by omega) (by omega)]
theorem lcP {x y : Int64} : 0 < lg_cmp x y ↔ y.toInt < x.toInt := by
  unfold lg_cmp
  by_cases h : x > y
  · rw [if_pos h]
    exact ⟨fun _ => Int64.lt_iff_toInt_lt.mp h, fun _ => by decide⟩
  · rw [if_neg h]
    refine ⟨fun q => ?_, fun q => absurd (Int64.lt_iff_toInt_lt.mpr q) h⟩
    by_cases e : x = y
    · rw [if_pos e] at q; exact absurd q (by decide)
    · rw [if_neg e] at q; exact absurd q (by decide)
theorem lcN {x y : Int64} : 0 ≤ lg_cmp x y ↔ y.toInt ≤ x.toInt := by
  unfold lg_cmp
  by_cases h : x > y
  · rw [if_pos h]
    exact ⟨fun _ => Int.le_of_lt (Int64.lt_iff_toInt_lt.mp h), fun _ => by decide⟩
  · rw [if_neg h]
    have h2 : ¬ y.toInt < x.toInt := fun q => h (Int64.lt_iff_toInt_lt.mpr q)
    by_cases e : x = y
    · rw [if_pos e, e]
      exact ⟨fun _ => Int.le_refl _, fun _ => by decide⟩
    · rw [if_neg e]
      refine ⟨fun q => absurd q (by decide), fun q => ?_⟩
      exact absurd (Int64.toInt_inj.mp (show x.toInt = y.toInt by omega)) e
theorem lcZ {x y : Int64} : lg_cmp x y ≤ 0 ↔ x.toInt ≤ y.toInt := by
  refine ⟨fun h => ?_, fun h => ?_⟩
  · refine Classical.byContradiction (fun q => ?_)
    have := lcP.mpr (show y.toInt < x.toInt by omega)
    exact absurd h (Int32.not_le.mpr this)
  · refine Classical.byContradiction (fun q => ?_)
    have := lcP.mp (Int32.not_le.mp q)
    omega
/-- what stands behind each up to its STEP -/
theorem eaH_n {L : List Nat} {told i : Nat} {nm : Nat → Nat} {env : Nat → Int32} (h : nnF L told nm (i + 1) = none) : eaH L told nm env i = bd4 (smL L told nm env (i + 2)) (fun a j => bd4 (smL L told nm env j) (fun b j2 => .inl ((a, b, 0, 0), j2))) := by unfold eaH; rw [h]
theorem sp_eachHead {g : GV} {d told i : Nat} {L : List Nat} {nm : Nat → Nat} {env : Nat → Int32} {τ : PS} {P : PS → Prop} (hc : ∀ i, lc L i < 127) (hi : i < nt L) (hL : Lay τ) (hR : RS τ L told nm) (hat : mi τ 16 5 = nI i) (h0 : mi τ 16 6 = 0) (hE : ∀ k, k < told → mi τ 19 k = env k)
    (hbad : ∀ s k j, eaH L told nm env i = .inr (k, j) → mi s 16 6 = nI (k + 16 * tb L j) → 1 ≤ k → k ≤ 5 → j ≤ nt L → RS s L told nm → Ch chRd chRl τ s → P s)
    (hgo : ∀ s a b j, eaH L told nm env i = .inl ((a, b, 0, 0), j) → mi s 16 5 = nI j → mi s 16 6 = 0 → j ≤ nt L → slD L told nm (i + 1) < 8 → RS s L (tellT nm told (tC L (i + 1))) (tellN nm told (tC L (i + 1))) → (∀ k, mi s 19 k = mi τ 19 k) → Ch chRd chRl τ s →
      ((mi s 16 7) = 0 → CX7_readStep g (d + 14) [.ref 16, .int 0] s (fun s' => Fr s s' ∧ P s')) ∧ (¬ (mi s 16 7) = 0 → (0 < turnsI a b → (turnsI a b ≤ 64 → ∀ x15 : Int64, x15.toInt = turnsI a b → VX7_readEach g (d + 15) P 107 [some (.ref 16), none, none, some (.int a), none, some (.int (nI (slD L told nm (i + 1)))), some (.long x15), none, some (.int (nI j)), some (.int 0)] [] s) ∧ (¬ turnsI a b ≤ 64 → CX7_fail g (d + 14) [.ref 16, .int (nI i), .int 4] s (fun s' => Fr s s' ∧ P s'))) ∧ (¬ 0 < turnsI a b → CX7_readStep g (d + 14) [.ref 16, .int 0] s (fun s' => Fr s s' ∧ P s')))) :
    CX7_readEach g (d + 15) [.ref 16] τ P := by
  have hl := hR.2.2.1
  have hn := nt_le (L := L)
  refine vcX7_readEach hL hR.1 (fun x1 e1 s3 e3 x5 e5 => ?_)
  rw [hat] at e1
  subst e1
  rw [hat, inc rfl] at e3
  have u1 : mi s3 16 5 = nI (i + 1) := by rw [e3, mi_si, if_pos ⟨rfl, rfl⟩]
  have u2 : mi s3 16 6 = 0 := by rw [e3, mi_si, if_neg (by omega)]; exact h0
  have u3 : Ch chAF noL τ s3 := by rw [e3]; exact Ch.rf.si ⟨rfl, Or.inl rfl⟩
  rw [u1] at e5
  subst e5
  refine Ct.imp (sp_readNewName (d := d + 13) hc (by omega) (u3.lay hL) (hR.af u3) u1 u2) (fun r s7 q => ?_)
  obtain ⟨rfl, hp, c5⟩ := q
  have c5' := u3.trans c5
  refine ⟨rfl, c5.fr, ?_⟩
  rcases hp with ⟨en, a1, a2⟩ | ⟨k, ek, a1, a2, a3⟩
  · obtain ⟨w1, w2, w3⟩ := nn_w en
    have hl2 := eaH_n (env := env) en
    refine Ct.imp (sp_sum (d := d + 1) (env := env) hc (by omega) (c5'.lay hL) (hR.af c5') a1 a2 (fun k hk => by rw [c5'.i (by omega)]; exact hE k hk)) (fun r s9 q => ?_)
    obtain ⟨v, rfl, hp, c7⟩ := q
    have c7' := c5'.trans c7
    refine ⟨_, rfl, c7.fr, ?_⟩
    rcases hp with ⟨a, j, er, rfl, b1, b2, b3⟩ | ⟨k, j, er, b1, b2, b3, b4⟩
    · rw [er, bd4_l] at hl2
      refine Ct.imp (sp_sum (d := d + 1) (env := env) hc b3 (c7'.lay hL) (hR.af c7') b1 b2 (fun k hk => by rw [c7'.i (by omega)]; exact hE k hk)) (fun r s11 q => ?_)
      obtain ⟨v2, rfl, hp, c9⟩ := q
      have c9' := c7'.trans c9
      refine ⟨_, rfl, c9.fr, ?_⟩
      rcases hp with ⟨b, j2, er2, rfl, d1, d2, d3⟩ | ⟨k, j2, er2, d1, d2, d3, d4⟩
      · rw [er2, bd4_l] at hl2
        refine ⟨fun _ => ?_, fun q => absurd d2 q⟩
        refine Ct.imp (sp_tellName (d := d + 13) w1 (c9'.lay hL) (hR.af c9') w2 w3) (fun r s13 q => ?_)
        obtain ⟨v14, rfl, rfl, hs, hR13, c13⟩ := q
        refine ⟨_, rfl, c13.fr, fun x15 e15 => ?_⟩
        have c13' : Ch chRd chRl s11 s13 := c13.mono (fun a k h => by omega) (fun _ _ h => h)
        have ht : x15.toInt = turnsI v v2 := by rw [e15]; exact tn64 v v2
        have m5 : mi s13 16 5 = nI j2 := by rw [c13.i (by omega)]; exact d1
        obtain ⟨g1, g2⟩ := hgo s13 v v2 j2 hl2 m5 (by rw [c13.i (by omega)]; exact d2) d3 (slD_lt hR.2.2.2.2.1 w3) hR13 (fun k => by rw [c13.i (by omega), c9'.i (by omega)]) (c9'.rd.trans c13')
        refine ⟨g1, fun hw => ⟨fun h1 => ⟨fun h2 x19 e19 => ?_, fun h2 => ?_⟩, fun h1 => ?_⟩⟩
        · rw [m5] at e19
          subst e19
          have p1 := lcP.mp h1
          have p2 := lcZ.mp h2
          rw [ht] at p1 p2
          exact ((g2 hw).1 p1).1 p2 x15 ht
        · have p1 := lcP.mp h1
          rw [ht] at p1
          exact ((g2 hw).1 p1).2 (fun q => h2 (lcZ.mpr (by rw [ht]; exact q)))
        · exact (g2 hw).2 (fun q => h1 (lcP.mpr (by rw [ht]; exact q)))
      · rw [er2, bd4_r] at hl2
        exact ⟨fun q => absurd q (nB d1 d2 (by omega) hl), fun _ => hbad s11 k j2 hl2 d1 d2 d3 d4 (hR.af c9') c9'.rd⟩
    · rw [er, bd4_r] at hl2
      have hb := nB b1 b2 (by omega) hl
      refine Ct.imp (sp_sumf (d := d + 12) (c7'.lay hL) (hR.af c7').1 hb) (fun r s11 q => ?_)
      obtain ⟨v2, rfl, rfl⟩ := q
      exact ⟨_, rfl, Fr.rf, fun q => absurd q hb, fun _ => hbad _ k j hl2 b1 b2 b3 b4 (hR.af c7') c7'.rd⟩
  · have hb := nB a1 a2 (by omega) hl
    have hl1 : eaH L told nm env i = .inr (k, i + 1) := by unfold eaH; rw [ek]
    refine Ct.imp (sp_sumf (d := d + 12) (c5'.lay hL) (hR.af c5').1 hb) (fun r s9 q => ?_)
    obtain ⟨v, rfl, rfl⟩ := q
    refine ⟨_, rfl, Fr.rf, ?_⟩
    refine Ct.imp (sp_sumf (d := d + 12) (c5'.lay hL) (hR.af c5').1 hb) (fun r s11 q => ?_)
    obtain ⟨v2, rfl, rfl⟩ := q
    exact ⟨_, rfl, Fr.rf, fun q => absurd q hb, fun _ => hbad _ k (i + 1) hl1 a1 a2 a3 (by omega) (hR.af c5') c5'.rd⟩
