/-! ===== the reference's does: a STEP's E worked, then done ===== -/
abbrev chDo : Nat → Nat → Prop := fun a i => a = 200 ∨ a = 179 ∧ (i = 34 ∨ i = 9) ∨ 190 ≤ a ∧ a ≤ 198
def DoP (L : List Nat) (T : Nat) (NM : Nat → Nat) (env : Nat → Int32) (rw' : Nat → Nat) (p j : Nat) (v : Int32) (s : PS) : Prop := ∃ q, stF L T NM env p = .inl (q, j) ∧ ((∃ r2, doF rw' (tK L p) q = .inl r2 ∧ v = 1 ∧ Sq s (grd r2)) ∨ ∃ k, doF rw' (tK L p) q = .inr k ∧ v = 0 ∧ mi s 179 9 = nI (k + 16 * tb L p))
theorem sp_doesP {g : GV} {d told T n p j C : Nat} {L : List Nat} {nm NM rw' : Nat → Nat} {env : Nat → Int32} {τ : PS} (hL : Lay τ) (hT8 : T ≤ 8) (hn : n < 200) (hK : 4 ≤ tK L p ∧ tK L p ≤ 6) (hx : Ext told nm T NM) (hPl : PlR τ L told nm n p C j) (hC : C ≤ 1000) (hV : ∀ k, k < T → mi τ 199 (1 + k) = env k) (hS : Sq τ (grd rw')) :
    CX12_does g (d + 3) [.ref 179, .int (nI n)] τ (fun v s => DoP L T NM env rw' p j v s ∧ Ch chDo noL τ s) := by
  obtain ⟨p1, p2, j1, j2, u1, u2, p3, p4, p5, p6, p7⟩ := hPl
  obtain ⟨x, q1⟩ := sm_late (env := env) hx p3
  obtain ⟨y, q2⟩ := sm_late (env := env) hx p4
  have hlt := tK_N L p (by omega)
  have r1 := sm_rng (show p + 1 ≤ nt L by omega) p3
  have r2 := sm_rng r1.2 p4
  have l1 := p5.ext (by omega) hx p3
  have l2 := p6.ext (by omega) hx p4
  have hst : stF L T NM env p = bd4 (smL L T NM env (p + 1)) (fun x j => bd4 (smL L T NM env j) (fun y j2 => if tK L p = 5 then bd4 (smL L T NM env j2) (fun w j3 => bd4 (smL L T NM env j3) (fun h j4 => .inl ((x, y, w, h), j4))) else .inl ((x, y, 1, 1), j2))) := by unfold stF; rw [if_neg (fun q => q (by omega))]
  rw [q1, bd4_l, q2, bd4_l] at hst
  generalize hP : (fun (v : Int32) (s : PS) => DoP L T NM env rw' p j v s ∧ Ch chDo noL τ s) = P
  have hV' : ∀ s, Ch (chUp 0) noL τ s → ∀ k, k < T → mi s 199 (1 + k) = env k := fun s c k hk => by rw [c.i (by omega)]; exact hV k hk
  have tail : ∀ (s : PS) (w h : Int32), stF L T NM env p = .inl ((x, y, w, h), j) → Ch (chUp 0) noL τ s → VX12_does g (d + 2 + 1) P 96 [some (.ref 179), some (.int (nI n)), some (.int x), some (.int y), some (.int w), none, none, none] [.int h] s := by
    intro s w h hs c
    refine sp_does96 (K := tK L p) (b := tb L p) (rw' := rw') (c.lay hL) hn hK (by rw [c.i (by omega)]; exact p1) (by rw [c.i (by omega)]; exact p2) (hS.ch c (fun k => by omega) (by omega)) (fun s' r2 hd hS' c' => ?_) (fun s' k hd hw c' => ?_)
    · rw [← hP]
      exact ⟨⟨_, hs, Or.inl ⟨r2, hd, rfl, hS'⟩⟩, (c.mono (fun a k h => by omega) (fun _ _ h => h)).trans (c'.mono (fun a k h => by omega) (fun _ _ h => h))⟩
    · rw [← hP]
      exact ⟨⟨_, hs, Or.inr ⟨k, hd, rfl, hw⟩⟩, (c.mono (fun a k h => by omega) (fun _ _ h => h)).trans (c'.mono (fun a k h => by omega) (fun _ _ h => h))⟩
  have hk : nI (tK L p - 4) = 3 ↔ False := by
    rw [lit32 3, zEQ (by omega) (by omega)]
    exact ⟨fun q => by omega, fun q => q.elim⟩
  refine vcX12_does hL _ ?_
  rw [lit32 6, pk_mul]
  refine Ct.imp (sp_worked (d := d) hL hT8 (by omega) l1 hC (by omega) hV q1) (fun r s1 w => ?_)
  obtain ⟨v, rfl, rfl, c1⟩ := w
  refine ⟨_, rfl, c1.fr, ?_⟩
  have hn2 : vp_in (nI n) 200 := by rw [zIN (by omega) (by omega)]; exact hn
  rw [zCL (by omega), c1.i (by omega), p1, hk]
  refine ⟨hn2, fun _ => ?_, fun q => q.elim⟩
  rw [lit32 1, nI_add]
  refine Ct.imp (sp_worked (d := d) (c1.lay hL) hT8 (by omega) (l2.ch c1 (by omega) (by omega) (fun q _ => by omega)) hC (by omega) (hV' _ c1) q2) (fun r s4 w => ?_)
  obtain ⟨v2, rfl, rfl, c4⟩ := w
  have d4 := c1.trans c4
  refine ⟨_, rfl, c4.fr, ?_⟩
  rw [d4.i (by omega), p1, zEQ (by omega) (by omega)]
  refine ⟨hn2, fun h5 => ⟨hn2, fun _ => ?_, fun q => absurd q h5⟩, fun h5 => ?_⟩
  · refine tail s4 1 1 ?_ d4
    rcases p7 with ⟨-, rfl⟩ | ⟨q, -⟩
    · rw [hst, if_neg (by omega)]
    · omega
  · rcases p7 with ⟨q, -⟩ | ⟨-, j3, u3, u4, p8, p9, p10, p11⟩
    · omega
    obtain ⟨w, q3⟩ := sm_late (env := env) hx p8
    obtain ⟨h, q4⟩ := sm_late (env := env) hx p9
    have r3 := sm_rng r2.2 p8
    have r4 := sm_rng r3.2 p9
    have l3 := p10.ext (by omega) hx p8
    have l4 := p11.ext (by omega) hx p9
    rw [if_pos (by omega), q3, bd4_l, q4, bd4_l] at hst
    rw [lit32 2, nI_add]
    refine Ct.imp (sp_worked (d := d) (d4.lay hL) hT8 (by omega) (l3.ch d4 (by omega) (by omega) (fun q _ => by omega)) hC (by omega) (hV' _ d4) q3) (fun r s10 z => ?_)
    obtain ⟨v3, rfl, rfl, c10⟩ := z
    have d10 := d4.trans c10
    refine ⟨_, rfl, c10.fr, ?_⟩
    rw [d10.i (by omega), p1, zEQ (by omega) (by omega)]
    refine ⟨hn2, fun q => absurd h5 q, fun _ => ?_⟩
    rw [lit32 3, nI_add]
    refine Ct.imp (sp_worked (d := d) (d10.lay hL) hT8 (by omega) (l4.ch d10 (by omega) (by omega) (fun q _ => by omega)) hC (by omega) (hV' _ d10) q4) (fun r s13 z => ?_)
    obtain ⟨v4, rfl, rfl, c13⟩ := z
    exact ⟨_, rfl, c13.fr, tail s13 _ _ hst (d10.trans c13)⟩
theorem sp_doesL {g : GV} {d T n i j C sl : Nat} {L : List Nat} {NM : Nat → Nat} {env : Nat → Int32} {v : Int32} {τ : PS} (hL : Lay τ) (hT8 : T ≤ 8) (hn : n < 200) (hi : i ≤ nt L) (h1 : mi τ 181 n = 3) (h2 : mi τ 182 n = nI sl) (hs : sl < T) (hl : LineOK τ L T NM (6 * n) i j C) (hC : C ≤ 1000) (hV : ∀ k, k < T → mi τ 199 (1 + k) = env k) (hq : smL L T NM env i = .inl (v, j)) :
    CX12_does g (d + 3) [.ref 179, .int (nI n)] τ (fun r s => r = 1 ∧ (∀ k, k < T → mi s 199 (1 + k) = upE env sl v k) ∧ Ch (fun a _ => a = 199 ∨ 190 ≤ a ∧ a ≤ 198) noL τ s) := by
  refine vcX12_does hL _ ?_
  rw [lit32 6, pk_mul]
  refine Ct.imp (sp_worked (d := d) hL hT8 hi hl hC (by omega) hV hq) (fun r s1 w => ?_)
  obtain ⟨v', rfl, rfl, c1⟩ := w
  refine ⟨_, rfl, c1.fr, ?_⟩
  have hn2 : vp_in (nI n) 200 := by rw [zIN (by omega) (by omega)]; exact hn
  rw [zCL (by omega), c1.i (by omega), h1, c1.i (by omega), h2]
  refine ⟨hn2, fun q => absurd rfl q, fun _ => ⟨hn2, ?_⟩⟩
  rw [lit32 1, nI_add, zIN (by omega) (by omega), zCL (by omega)]
  refine ⟨by omega, fun s17 e17 => ⟨rfl, fun k hk => ?_, ?_⟩⟩
  · rw [e17, mi_si]
    unfold upE
    by_cases e : k = sl
    · rw [if_pos ⟨rfl, by omega⟩, if_pos e]
    · rw [if_neg (by omega), if_neg e, c1.i (by omega)]; exact hV k hk
  · rw [e17]
    exact (c1.mono (fun a k h => by omega) (fun _ _ h => h)).si (Or.inl rfl)
