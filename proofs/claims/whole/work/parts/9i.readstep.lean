/-! ===== the class's readStep ===== -/
theorem bd4_inl {r : ER} {c : Int32 → Nat → ER4} {p : (Int32 × Int32 × Int32 × Int32) × Nat} (h : bd4 r c = .inl p) : ∃ u k, r = .inl (u, k) ∧ c u k = .inl p := by
  cases r with
  | inl q => exact ⟨q.1, q.2, rfl, h⟩
  | inr e => rw [bd4_r] at h; cases h
theorem sm_rng {L : List Nat} {told i j : Nat} {nm : Nat → Nat} {env : Nat → Int32} {v : Int32} (hi : i ≤ nt L) (h : smL L told nm env i = .inl (v, j)) : i < j ∧ j ≤ nt L := by
  unfold smL sm at h
  obtain ⟨u, k, h1, h2⟩ := bnd_inl h
  obtain ⟨a1, a2, a3⟩ := (pe_ok (V := tV L) (sl := fun i => slt nm told (tC L i)) (env := env) (tK_N L) (fu L) none 0 i hi (by unfold fu; omega)).1 u k h1
  have a4 := a3 rfl
  obtain ⟨b1, b2, -⟩ := (pe_ok (V := tV L) (sl := fun i => slt nm told (tC L i)) (env := env) (tK_N L) (fu L) (some (0, 1, u)) 0 k a2 (by unfold fu; omega)).1 v j h2
  exact ⟨by omega, b2⟩
/-- what comes of a STEP's E -/
def P4 (L : List Nat) (r : ER4) (s : PS) (x y w h : Int32) : Prop := (∃ j, r = .inl ((x, y, w, h), j) ∧ mi s 16 5 = nI j ∧ mi s 16 6 = 0 ∧ j ≤ nt L) ∨ (∃ k j, r = .inr (k, j) ∧ mi s 16 6 = nI (k + 16 * tb L j) ∧ 1 ≤ k ∧ k ≤ 5 ∧ j ≤ nt L)
theorem sp_readStep {g : GV} {d told i : Nat} {L : List Nat} {nm : Nat → Nat} {env : Nat → Int32} {dg : Int32} {τ : PS} {P : PS → Prop} (hc : ∀ i, lc L i < 127) (hi : i ≤ nt L) (hL : Lay τ) (hR : RS τ L told nm) (hat : mi τ 16 5 = nI i) (h0 : mi τ 16 6 = 0) (hE : ∀ k, k < told → mi τ 19 k = env k)
    (hbad : ∀ s k j, stF L told nm env i = .inr (k, j) → mi s 16 6 = nI (k + 16 * tb L j) → 1 ≤ k → k ≤ 5 → j ≤ nt L → Ch chAF noL τ s → P s)
    (hgo : ∀ s x y w h j, stF L told nm env i = .inl ((x, y, w, h), j) → mi s 16 5 = nI j → mi s 16 6 = 0 → j ≤ nt L → Ch chAF noL τ s → VX7_readStep g (d + 14) P 98 [some (.ref 16), some (.int dg), some (.int (nI i)), some (.int (nI (tK L i))), some (.int x), some (.int y), some (.int w), none] [.int h] s) :
    CX7_readStep g (d + 14) [.ref 16, .int dg] τ P := by
  have hl := hR.2.2.1
  have hn := nt_le (L := L)
  have hk : tK L i < 1000 := tk_lt (σ := τ) hc (tb L i)
  refine vcX7_readStep hL hR.1 _ (fun x1 e1 => ?_)
  rw [hat] at e1
  rw [e1]
  refine Ct.imp (sp_kind7 hL hR hat hi) (fun r s3 q => ?_)
  obtain ⟨v, rfl, rfl, rfl⟩ := q
  refine ⟨_, rfl, Fr.rf, ?_⟩
  -- the tail behind the four E
  have tail : ∀ (s : PS) (x y w h : Int32), P4 L (stF L told nm env i) s x y w h → Ch chAF noL s3 s → VX7_readStep g (d + 14) P 98 [some (.ref 16), some (.int dg), some (.int (nI i)), some (.int (nI (tK L i))), some (.int x), some (.int y), some (.int w), none] [.int h] s := by
    intro s x y w h hp c
    rcases hp with ⟨j, er, a1, a2, a3⟩ | ⟨k, j, er, a1, a2, a3, a4⟩
    · exact hgo s x y w h j er a1 a2 a3 c
    · have hb := PP.bad a1 a2 a3 hl
      exact vcX7_readStep_98 (c.lay hL) (hR.af c).1 _ _ _ _ _ _ _ ⟨fun _ => hbad s k j er a1 a2 a3 a4 c, fun q => absurd q hb⟩
  have rest : (tK L i = 4 ∨ tK L i = 5 ∨ tK L i = 6) → ∀ s5, s5 = si s3 16 5 (mi s3 16 5 + 1) → CX7_sum g (d + 13) [.ref 16, .int 0] s5 (fun (v8 : Int32) (s7 : PS) => Fr s5 s7 ∧ CX7_sum g (d + 13) [.ref 16, .int 0] s7 (fun (v10 : Int32) (s9 : PS) => Fr s7 s9 ∧ (¬ nI (tK L i) = 5 → (¬ nI (tK L i) = 5 → VX7_readStep g (d + 14) P 98 [some (.ref 16), some (.int dg), some (.int (nI i)), some (.int (nI (tK L i))), some (.int v8), some (.int v10), some (.int 1), none] [.int 1] s9) ∧ (nI (tK L i) = 5 → CX7_sum g (d + 13) [.ref 16, .int 0] s9 (fun (v12 : Int32) (s11 : PS) => Fr s9 s11 ∧ VX7_readStep g (d + 14) P 98 [some (.ref 16), some (.int dg), some (.int (nI i)), some (.int (nI (tK L i))), some (.int v8), some (.int v10), some (.int 1), none] [.int v12] s11))) ∧ (nI (tK L i) = 5 → CX7_sum g (d + 13) [.ref 16, .int 0] s9 (fun (v14 : Int32) (s13 : PS) => Fr s9 s13 ∧ (¬ nI (tK L i) = 5 → VX7_readStep g (d + 14) P 98 [some (.ref 16), some (.int dg), some (.int (nI i)), some (.int (nI (tK L i))), some (.int v8), some (.int v10), some (.int v14), none] [.int 1] s13) ∧ (nI (tK L i) = 5 → CX7_sum g (d + 13) [.ref 16, .int 0] s13 (fun (v16 : Int32) (s15 : PS) => Fr s13 s15 ∧ VX7_readStep g (d + 14) P 98 [some (.ref 16), some (.int dg), some (.int (nI i)), some (.int (nI (tK L i))), some (.int v8), some (.int v10), some (.int v14), none] [.int v16] s15)))))) := by
    intro h456 s5 e5
    have hlt := tK_N L i (by omega)
    rw [hat, inc rfl] at e5
    have u1 : mi s5 16 5 = nI (i + 1) := by rw [e5, mi_si, if_pos ⟨rfl, rfl⟩]
    have u2 : mi s5 16 6 = 0 := by rw [e5, mi_si, if_neg (by omega)]; exact h0
    have u3 : Ch chAF noL s3 s5 := by rw [e5]; exact Ch.rf.si ⟨rfl, Or.inl rfl⟩
    have hst : stF L told nm env i = bd4 (smL L told nm env (i + 1)) (fun x j => bd4 (smL L told nm env j) (fun y j2 => if tK L i = 5 then bd4 (smL L told nm env j2) (fun w j3 => bd4 (smL L told nm env j3) (fun h j4 => .inl ((x, y, w, h), j4))) else .inl ((x, y, 1, 1), j2))) := by unfold stF; rw [if_neg (fun q => q h456)]
    have hEs : ∀ s, Ch chAF noL s3 s → ∀ k, k < told → mi s 19 k = env k := fun s c k hk => by rw [c.i (by omega)]; exact hE k hk
    rw [lit32 5, zEQ (by omega) (by omega)]
    -- a FAULT: the sums behind do nothing
    have stop : ∀ (s : PS) (k j : Nat), stF L told nm env i = .inr (k, j) → mi s 16 6 = nI (k + 16 * tb L j) → 1 ≤ k → k ≤ 5 → j ≤ nt L → Ch chAF noL s3 s → ∀ x y w h, VX7_readStep g (d + 14) P 98 [some (.ref 16), some (.int dg), some (.int (nI i)), some (.int (nI (tK L i))), some (.int x), some (.int y), some (.int w), none] [.int h] s := fun s k j er a1 a2 a3 a4 c x y w h => tail s x y w h (Or.inr ⟨k, j, er, a1, a2, a3, a4⟩) c
    have stop3 : ∀ (s : PS) (k j : Nat), stF L told nm env i = .inr (k, j) → mi s 16 6 = nI (k + 16 * tb L j) → 1 ≤ k → k ≤ 5 → j ≤ nt L → Ch chAF noL s3 s → ∀ v8 v10 : Int32, (¬ tK L i = 5 → (¬ tK L i = 5 → VX7_readStep g (d + 14) P 98 [some (.ref 16), some (.int dg), some (.int (nI i)), some (.int (nI (tK L i))), some (.int v8), some (.int v10), some (.int 1), none] [.int 1] s) ∧ (tK L i = 5 → CX7_sum g (d + 13) [.ref 16, .int 0] s (fun (v12 : Int32) (s11 : PS) => Fr s s11 ∧ VX7_readStep g (d + 14) P 98 [some (.ref 16), some (.int dg), some (.int (nI i)), some (.int (nI (tK L i))), some (.int v8), some (.int v10), some (.int 1), none] [.int v12] s11))) ∧ (tK L i = 5 → CX7_sum g (d + 13) [.ref 16, .int 0] s (fun (v14 : Int32) (s13 : PS) => Fr s s13 ∧ (¬ tK L i = 5 → VX7_readStep g (d + 14) P 98 [some (.ref 16), some (.int dg), some (.int (nI i)), some (.int (nI (tK L i))), some (.int v8), some (.int v10), some (.int v14), none] [.int 1] s13) ∧ (tK L i = 5 → CX7_sum g (d + 13) [.ref 16, .int 0] s13 (fun (v16 : Int32) (s15 : PS) => Fr s13 s15 ∧ VX7_readStep g (d + 14) P 98 [some (.ref 16), some (.int dg), some (.int (nI i)), some (.int (nI (tK L i))), some (.int v8), some (.int v10), some (.int v14), none] [.int v16] s15)))) := by
      intro s k j er a1 a2 a3 a4 c v8 v10
      have hb := PP.bad a1 a2 a3 hl
      refine ⟨fun hne => ⟨fun _ => stop s k j er a1 a2 a3 a4 c _ _ _ _, fun h => absurd h hne⟩, fun h5 => ?_⟩
      refine Ct.imp (sp_sumf (d := d + 11) (c.lay hL) (hR.af c).1 hb) (fun r s13 q => ?_)
      obtain ⟨v14, rfl, rfl⟩ := q
      refine ⟨_, rfl, Fr.rf, fun hne => absurd h5 hne, fun _ => ?_⟩
      refine Ct.imp (sp_sumf (d := d + 11) (c.lay hL) (hR.af c).1 hb) (fun r s15 q => ?_)
      obtain ⟨v16, rfl, rfl⟩ := q
      exact ⟨_, rfl, Fr.rf, stop _ k j er a1 a2 a3 a4 c _ _ _ _⟩
    refine Ct.imp (sp_sum (d := d) hc (by omega) (u3.lay hL) (hR.af u3) u1 u2 (hEs s5 u3)) (fun r s7 q => ?_)
    obtain ⟨v8, rfl, hp, c7⟩ := q
    have c7' := u3.trans c7
    refine ⟨_, rfl, c7.fr, ?_⟩
    rcases hp with ⟨x, j, er, rfl, a1, a2, a3⟩ | ⟨k, j, er, a1, a2, a3, a4⟩
    · rw [er, bd4_l] at hst
      refine Ct.imp (sp_sum (d := d) hc a3 (c7'.lay hL) (hR.af c7') a1 a2 (hEs s7 c7')) (fun r s9 q => ?_)
      obtain ⟨v10, rfl, hp, c9⟩ := q
      have c9' := c7'.trans c9
      refine ⟨_, rfl, c9.fr, ?_⟩
      rcases hp with ⟨y, j2, er2, rfl, b1, b2, b3⟩ | ⟨k, j2, er2, b1, b2, b3, b4⟩
      · rw [er2, bd4_l] at hst
        refine ⟨fun hne => ⟨fun _ => ?_, fun h => absurd h hne⟩, fun h5 => ?_⟩
        · rw [if_neg hne] at hst
          exact tail s9 _ _ 1 1 (Or.inl ⟨j2, hst, b1, b2, b3⟩) c9'
        · rw [if_pos h5] at hst
          refine Ct.imp (sp_sum (d := d) hc b3 (c9'.lay hL) (hR.af c9') b1 b2 (hEs s9 c9')) (fun r s13 q => ?_)
          obtain ⟨v14, rfl, hp, c13⟩ := q
          have c13' := c9'.trans c13
          refine ⟨_, rfl, c13.fr, fun hne => absurd h5 hne, fun _ => ?_⟩
          rcases hp with ⟨w, j3, er3, rfl, d1, d2, d3⟩ | ⟨k, j3, er3, d1, d2, d3, d4⟩
          · rw [er3, bd4_l] at hst
            refine Ct.imp (sp_sum (d := d) hc d3 (c13'.lay hL) (hR.af c13') d1 d2 (hEs s13 c13')) (fun r s15 q => ?_)
            obtain ⟨v16, rfl, hp, c15⟩ := q
            have c15' := c13'.trans c15
            refine ⟨_, rfl, c15.fr, ?_⟩
            rcases hp with ⟨hh, j4, er4, rfl, f1, f2, f3⟩ | ⟨k, j4, er4, f1, f2, f3, f4⟩
            · rw [er4, bd4_l] at hst
              exact tail s15 _ _ _ _ (Or.inl ⟨j4, hst, f1, f2, f3⟩) c15'
            · rw [er4, bd4_r] at hst
              exact stop s15 k j4 hst f1 f2 f3 f4 c15' _ _ _ _
          · rw [er3, bd4_r] at hst
            have hb := PP.bad d1 d2 d3 hl
            refine Ct.imp (sp_sumf (d := d + 11) (c13'.lay hL) (hR.af c13').1 hb) (fun r s15 q => ?_)
            obtain ⟨v16, rfl, rfl⟩ := q
            exact ⟨_, rfl, Fr.rf, stop _ k j3 hst d1 d2 d3 d4 c13' _ _ _ _⟩
      · rw [er2, bd4_r] at hst
        exact stop3 s9 k j2 hst b1 b2 b3 b4 c9' _ _
    · rw [er, bd4_r] at hst
      have hb := PP.bad a1 a2 a3 hl
      refine Ct.imp (sp_sumf (d := d + 11) (c7'.lay hL) (hR.af c7').1 hb) (fun r s9 q => ?_)
      obtain ⟨v10, rfl, rfl⟩ := q
      exact ⟨_, rfl, Fr.rf, stop3 _ k j hst a1 a2 a3 a4 c7' _ _⟩
  refine ⟨fun _ => ?_, fun q => absurd h0 q⟩
  rw [lit32 4, zEQ (show tK L i < 2147483648 by omega) (by omega)]
  refine ⟨fun h4 => rest (Or.inl h4), fun h4 => ⟨fun h5 => ?_, fun h5 => ⟨fun h6 => ?_, fun h6 => ?_⟩⟩⟩
  · have h5' : tK L i = 5 := by rwa [lit32 5, zEQ (by omega) (by omega)] at h5
    exact rest (Or.inr (Or.inl h5'))
  · have h6' : tK L i = 6 := by rwa [lit32 6, zEQ (by omega) (by omega)] at h6
    exact rest (Or.inr (Or.inr h6'))
  · rw [lit32 5, zEQ (by omega) (by omega)] at h5
    rw [lit32 6, zEQ (by omega) (by omega)] at h6
    rw [hat]
    refine Ct.imp (sp_fail7 (k := 1) hL hR hi h0) (fun r s5 q => ?_)
    obtain ⟨rfl, k1, k2⟩ := q
    refine ⟨rfl, k2.fr, hbad s5 1 i ?_ k1 (by omega) (by omega) hi k2⟩
    unfold stF
    rw [if_pos (by omega)]
theorem sp_readStepf {g : GV} {d told : Nat} {L : List Nat} {nm : Nat → Nat} {dg : Int32} {τ : PS} (hL : Lay τ) (hR : RS τ L told nm) (h0 : ¬ mi τ 16 6 = 0) : CX7_readStep g (d + 1) [.ref 16, .int dg] τ (fun s => s = τ) := by
  refine vcX7_readStep hL hR.1 _ (fun x1 e1 => Ct.imp (sp_kind7a hL hR) (fun r s q => ?_))
  obtain ⟨v, rfl, rfl⟩ := q
  exact ⟨_, rfl, Fr.rf, fun h => absurd h h0, fun _ => rfl⟩
