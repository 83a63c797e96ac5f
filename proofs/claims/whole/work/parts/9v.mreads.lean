/-! ===== the reference's readsE, needsName, tells: contracts ===== -/
abbrev chRE (c0 l : Nat) : Nat → Nat → Prop := fun a i => chE c0 a i ∨ (a = 186 ∨ a = 187) ∧ i = l
/-- what comes of an E read: its line's codes, or its FAULT -/
def ReP (L : List Nat) (told : Nat) (nm : Nat → Nat) (i0 c0 l : Nat) (v : Int32) (s : PS) : Prop :=
  (∃ u j, smL L told nm e0 i0 = .inl (u, j) ∧ v = 1 ∧ RT s L (tb L j) ∧ mi s 179 21 = nI (c0 + (j - i0)) ∧ (∀ k, i0 ≤ k → k < j → mi s 188 (c0 + (k - i0)) = nI (cd L told nm k)) ∧ i0 < j ∧ j ≤ nt L ∧ mi s 186 l = nI c0 ∧ mi s 187 l = nI (c0 + (j - i0))) ∨ ∃ k m, smL L told nm e0 i0 = .inr (k, m) ∧ v = 0 ∧ mi s 179 9 = nI (k + 16 * tb L m)
theorem sp_readsE {g : GV} {d told i0 c0 l : Nat} {L : List Nat} {nm : Nat → Nat} {τ : PS} (hc : ∀ i, lc L i < 127) (hL : Lay τ) (hT : TX τ L) (hN : RN τ L told nm) (hc0 : c0 ≤ i0) (hi : i0 ≤ nt L) (hX : RT τ L (tb L i0)) (h21 : mi τ 179 21 = nI c0) (hl : l < 1200) :
    CX12_readsE g (d + 2) [.ref 179, .int (nI l)] τ (fun v s => ReP L told nm i0 c0 l v s ∧ Ch (chRE c0 l) chNl τ s) := by
  have hn := nt_le (L := L)
  have hln := hT.2.1
  generalize hP : (fun (v : Int32) (s : PS) => ReP L told nm i0 c0 l v s ∧ Ch (chRE c0 l) chNl τ s) = P
  refine vcX12_readsE hL _ ?_
  rw [zIN (by omega) (by omega), zCL (by omega), h21]
  refine ⟨hl, fun s2 e2 => ?_⟩
  have c2 : Ch (fun a i => a = 186 ∧ i = l) noL τ s2 := by rw [e2]; exact Ch.rf.si ⟨rfl, rfl⟩
  have c2' : Ch (chRE c0 l) chNl τ s2 := c2.mono (fun a k h => by omega) (fun _ _ h => h.elim)
  have hL2 := c2.lay hL
  have hT2 : TX s2 L := hT.ch c2 (by omega) (fun i => by omega)
  have hN2 : RN s2 L told nm := hN.ch c2 (by omega) (fun i => id)
  have v2 : mi s2 186 l = nI c0 := by rw [e2, mi_si, if_pos ⟨rfl, rfl⟩]
  have ce : ∀ s, Ch (chE c0) chNl s2 s → Ch (chRE c0 l) chNl τ s := fun s c => c2'.trans (c.mono (fun a k h => Or.inl h) (fun _ _ h => h))
  obtain ⟨r1, r2⟩ := re_loop (g := g) (d := d) (l := l) (env := e0) (P := P) hc hL2 hT2 hN2 hc0 (fu L)
  obtain ⟨ok1, -⟩ := pe_ok (V := tV L) (sl := fun i => slt nm told (tC L i)) (env := e0) (tK_N L) (fu L) none 0 i0 hi (by unfold fu; omega)
  refine r1 0 i0 s2 (by omega) hi (by unfold fu; omega) ⟨hX.ch c2 (fun i h1 h2 => by omega) id, by rw [c2.i (by omega), h21]; congr 1; omega, fun k h1 h2 => by omega, Nat.le_refl _, hi, Ch.rf⟩ (fun v j s3 er hE3 => ?_) (fun k m s3 er a1 a2 => ?_)
  · obtain ⟨q1, q2, q3⟩ := ok1 v j er
    have q4 := q3 rfl
    refine r2 0 j (0, 1, v) s3 (by omega) q2 (by unfold fu; omega) hE3 (fun u m s4 er2 n1 n2 n3 hE4 => ?_) (fun k m s4 er2 a1 a2 => ?_)
    · obtain ⟨p1, p2, -⟩ := (pe_ok (V := tV L) (sl := fun i => slt nm told (tC L i)) (env := e0) (tK_N L) (fu L) (some (0, 1, v)) 0 j q2 (by unfold fu; omega)).1 u m er2
      have hL4 := hE4.2.2.2.2.2.lay hL2
      have hT4 : TX s4 L := hT2.ch hE4.2.2.2.2.2 (by omega) (fun i => by omega)
      have hs : smL L told nm e0 i0 = .inl (u, m) := by
        unfold smL sm
        rw [er, bnd_l]
        exact er2
      have no : ∀ c, tK L m ≠ c → (if tk L (tb L m) = c then (1 : Int32) else 0) = 0 := fun c h => if_neg h
      refine vcX12_readsE_14 hL4 _ _ _ ⟨fun _ => ?_, fun q => absurd rfl q⟩
      refine Ct.imp (sp_isSign (c := 43) hL4 hT4 hE4.1 (by omega) (by omega)) (fun r s q => ?_)
      obtain ⟨v5, rfl, rfl, rfl⟩ := q
      refine ⟨_, rfl, Fr.rf, fun q => absurd (no _ n2) q, fun _ => ?_⟩
      refine Ct.imp (sp_isSign (c := 45) hL4 hT4 hE4.1 (by omega) (by omega)) (fun r s q => ?_)
      obtain ⟨v5, rfl, rfl, rfl⟩ := q
      refine ⟨_, rfl, Fr.rf, fun q => absurd (no _ n3) q, fun _ => ?_⟩
      refine Ct.imp (sp_isSign (c := 42) hL4 hT4 hE4.1 (by omega) (by omega)) (fun r s q => ?_)
      obtain ⟨v5, rfl, rfl, rfl⟩ := q
      refine ⟨_, rfl, Fr.rf, fun _ => ?_, fun q => absurd (no _ n1) q⟩
      have hw0 : nI 0 ≤ (0 : Int32) := by rw [lit32 0, zLE (by omega) (by omega)]; omega
      refine ⟨fun _ => ⟨fun _ => ?_, fun q => absurd hw0 q⟩, fun q => absurd hw0 q⟩
      rw [zIN (by omega) (by omega), zCL (by omega), hE4.2.1]
      refine ⟨hl, fun s5 e5 => ?_⟩
      have c5 : Ch (fun a i => a = 187 ∧ i = l) noL s s5 := by rw [e5]; exact Ch.rf.si ⟨rfl, rfl⟩
      rw [← hP]
      refine ⟨Or.inl ⟨u, m, hs, rfl, hE4.1.ch c5 (fun i h1 h2 => by omega) id, by rw [c5.i (by omega)]; exact hE4.2.1, fun k h1 h2 => by rw [c5.i (by omega)]; exact hE4.2.2.1 k h1 h2, by omega, p2, ?_, ?_⟩, (ce _ hE4.2.2.2.2.2).trans (c5.mono (fun a k h => by omega) (fun _ _ h => h.elim))⟩
      · rw [c5.i (by omega), hE4.2.2.2.2.2.i (by omega)]; exact v2
      · rw [e5, mi_si, if_pos ⟨rfl, rfl⟩]
    · rw [← hP]
      refine ⟨Or.inr ⟨k, m, ?_, rfl, a1⟩, ce _ a2⟩
      unfold smL sm
      rw [er, bnd_l]
      exact er2
  · rw [← hP]
    refine ⟨Or.inr ⟨k, m, ?_, rfl, a1⟩, ce _ a2⟩
    unfold smL sm
    rw [er]
    rfl
/-- a new NAME at token i, and the next token -/
theorem sp_needsName {g : GV} {d told i : Nat} {L : List Nat} {nm : Nat → Nat} {τ : PS} (hL : Lay τ) (hT : TX τ L) (hN : RN τ L told nm) (hi : i ≤ nt L) (hX : RT τ L (tb L i)) :
    CX12_needsName g (d + 2) [.ref 179] τ (fun v s => ((nnF L told nm i = none ∧ v = nI (slD L told nm i) ∧ RT s L (tb L (i + 1)) ∧ i < nt L ∧ ml s 179 32 = lN (tC L i)) ∨ ∃ k, nnF L told nm i = some k ∧ v = -1 ∧ mi s 179 9 = nI (k + 16 * tb L i)) ∧ Ch (fun a i => a = 179 ∧ (4 ≤ i ∧ i ≤ 6 ∨ i = 8 ∨ i = 9)) (fun a i => a = 179 ∧ (i = 7 ∨ i = 32)) τ s) := by
  have h8 := hN.2.1
  have e3 : tk L (tb L i) = tK L i := rfl
  have fch : ∀ s, Ch (fun a i => a = 179 ∧ i = 9) noL τ s → Ch (fun a i => a = 179 ∧ (4 ≤ i ∧ i ≤ 6 ∨ i = 8 ∨ i = 9)) (fun a i => a = 179 ∧ (i = 7 ∨ i = 32)) τ s := fun s c => c.mono (fun a k h => by omega) (fun _ _ h => h.elim)
  refine vcX12_needsName hL (Ct.imp (sp_isKept hL hX) (fun r s q => ?_))
  obtain ⟨v2, rfl, rfl, rfl⟩ := q
  refine ⟨_, rfl, Fr.rf, ?_⟩
  rw [e3]
  by_cases k3 : tK L i = 3
  · rw [if_pos k3]
    refine ⟨fun _ => ?_, fun q => absurd rfl q⟩
    have hlt := tK_N L i (by omega)
    have hb := tb_ltn hlt
    have hwd : isW L (tb L i) := w_tk.mpr (by omega)
    refine Ct.imp (sp_nameOf hL hX hN hwd) (fun r s q => ?_)
    obtain ⟨v4, rfl, rfl, rfl⟩ := q
    refine ⟨_, rfl, Fr.rf, ?_⟩
    have hsl : ∀ k, slt nm told (cw L (tb L i)) = some k → k < 9 := fun k hk => by have := (slt_lt hk).1; omega
    -- the name noted, the next token
    have next : ∀ s5, s5 = sj s 179 32 (ml s 179 7) → CX12_nextToken g (d + 1) [.ref 179] s5 (fun s7 => Fr s5 s7 ∧ RT s7 L (tb L (i + 1)) ∧ ml s7 179 32 = lN (tC L i) ∧ Ch (fun a i => a = 179 ∧ (4 ≤ i ∧ i ≤ 6 ∨ i = 8 ∨ i = 9)) (fun a i => a = 179 ∧ (i = 7 ∨ i = 32)) s s7) := by
      intro s5 e5
      have c5 : Ch (fun a i => a = 179 ∧ (4 ≤ i ∧ i ≤ 6 ∨ i = 8 ∨ i = 9)) (fun a i => a = 179 ∧ (i = 7 ∨ i = 32)) s s5 := by rw [e5]; exact (Ch.rf : Ch (fun a i => a = 179 ∧ (4 ≤ i ∧ i ≤ 6 ∨ i = 8 ∨ i = 9)) (fun a i => a = 179 ∧ (i = 7 ∨ i = 32)) s s).sj ⟨rfl, Or.inr rfl⟩
      have hp : mi s5 179 4 = nI (te L (tb L i)) := by rw [e5]; show mi s 179 4 = _; rw [hX.2.1, if_pos hb]
      have hT5 : TX s5 L := by rw [e5]; exact hT
      refine Ct.imp (sp_nextToken (d := d) (c5.lay hL) hT5 hp (te_b hb).2) (fun r s7 q => ?_)
      obtain ⟨rfl, a1, c⟩ := q
      refine ⟨rfl, c.fr, ?_, ?_, c5.trans (c.mono (fun a k h => by omega) (fun a k h => by omega))⟩
      · rw [tb_s, if_pos hb]; exact a1
      · rw [c.l (by omega), e5, ml_sj, if_pos ⟨rfl, rfl⟩]; exact hX.2.2.2.1 (rt_w.mpr hwd)
    rw [oI_pos hsl (by omega)]
    refine ⟨fun hs s5 e5 => ?_, fun hs => ?_⟩
    · obtain ⟨z, hz⟩ := Option.ne_none_iff_exists'.mp hs
      have hnn : nnF L told nm i = none := by unfold nnF; rw [if_neg (fun q => q k3), if_neg (fun q => hs q.1)]
      refine Ct.imp (next s5 e5) (fun r s7 q => ?_)
      obtain ⟨rfl, f, a1, a2, c⟩ := q
      refine ⟨rfl, f, fun _ => ⟨Or.inl ⟨hnn, ?_, a1, hlt, a2⟩, c⟩, fun q => absurd hs q⟩
      unfold slD
      rw [hz]; rfl
    · have hs' := Classical.not_not.mp hs
      rw [hN.1, lit32 8, zEQ (by omega) (by omega)]
      refine ⟨fun hne s9 e9 => ?_, fun he => ?_⟩
      · have hnn : nnF L told nm i = none := by unfold nnF; rw [if_neg (fun q => q k3), if_neg (fun q => hne q.2)]
        refine Ct.imp (next s9 e9) (fun r s7 q => ?_)
        obtain ⟨rfl, f, a1, a2, c⟩ := q
        refine ⟨rfl, f, fun q => absurd q hs, fun _ => ⟨Or.inl ⟨hnn, ?_, a1, hlt, a2⟩, c⟩⟩
        rw [c.i (by omega), hN.1]
        unfold slD
        rw [show slt nm told (tC L i) = none from hs']; rfl
      · have hnn : nnF L told nm i = some 5 := by unfold nnF; rw [if_neg (fun q => q k3), if_pos ⟨hs', he⟩]
        refine Ct.imp (sp_fails (k := 5) hL hX) (fun r s' q => ?_)
        obtain ⟨v, rfl, rfl, a1, c⟩ := q
        exact ⟨_, rfl, c.fr, fun _ => ⟨Or.inr ⟨5, hnn, rfl, a1⟩, fch _ c⟩, fun q => absurd rfl q⟩
  · rw [if_neg k3]
    refine ⟨fun q => absurd q (by decide), fun _ => ?_⟩
    have hnn : nnF L told nm i = some 1 := by unfold nnF; rw [if_pos k3]
    refine Ct.imp (sp_fails (k := 1) hL hX) (fun r s' q => ?_)
    obtain ⟨v, rfl, rfl, a1, c⟩ := q
    exact ⟨_, rfl, c.fr, fun _ => ⟨Or.inr ⟨1, hnn, rfl, a1⟩, fch _ c⟩, fun q => absurd rfl q⟩
