/-! ===== the reference's readsE ===== -/
theorem dec1 {k : Nat} {x : Int32} (h : x = nI (k + 1) + (-1)) : x = nI k := by
  rw [h, ← nI_add, Int32.add_assoc, show nI 1 + (-1) = (0 : Int32) from by decide, Int32.add_zero]
/-- the code of token t in an E -/
def cd (L : List Nat) (told : Nat) (nm : Nat → Nat) (t : Nat) : Nat := if tK L t = 2 then 100 + tv L (tb L t) else if tK L t = 3 then 1 + (slt nm told (tC L t)).getD 0 else if tK L t = 40 then 28 else if tK L t = 41 then 29 else if tK L t = 43 then 20 else if tK L t = 45 then 21 else 22
abbrev chE (c0 : Nat) : Nat → Nat → Prop := fun a i => a = 179 ∧ (4 ≤ i ∧ i ≤ 6 ∨ i = 8 ∨ i = 9 ∨ i = 21) ∨ a = 188 ∧ c0 ≤ i
/-- within an E that began at token i0, codes from c0 on: at token t, the codes of the tokens before u are put -/
def ES (L : List Nat) (told : Nat) (nm : Nat → Nat) (i0 c0 : Nat) (τ : PS) (t u : Nat) (s : PS) : Prop := RT s L (tb L t) ∧ mi s 179 21 = nI (c0 + (u - i0)) ∧ (∀ k, i0 ≤ k → k < u → mi s 188 (c0 + (k - i0)) = nI (cd L told nm k)) ∧ i0 ≤ t ∧ t ≤ nt L ∧ Ch (chE c0) chNl τ s
theorem tb_ltn {L : List Nat} {t : Nat} (h : t < nt L) : tb L t < L.length := (nt_spec L).2.1 t h
theorem sp_put1 {g : GV} {d told i0 c0 t v : Nat} {L : List Nat} {nm : Nat → Nat} {τ s : PS} (hL : Lay τ) (hT : TX τ L) (hc0 : c0 ≤ i0) (hE : ES L told nm i0 c0 τ t t s) (ht : t < nt L) (hv : v = cd L told nm t) : CX12_puts g d [.ref 179, .int (nI v)] s (fun s' => ES L told nm i0 c0 τ t (t + 1) s' ∧ Fr s s') := by
  obtain ⟨e1, e2, e3, e4, e5, e6⟩ := hE
  have hn := nt_le (L := L)
  have hl := hT.2.1
  refine Ct.imp (sp_puts (v := v) (e6.lay hL) e2 (by omega)) (fun r s' q => ?_)
  obtain ⟨rfl, a1, a2, c⟩ := q
  have c' : Ch (chE c0) chNl s s' := ⟨c.1, fun a k hk => ?_, fun a k hk => c.2.2 a k (fun q => q)⟩
  · refine ⟨rfl, ⟨e1.ch c (fun i h1 h2 => by omega) (fun q => q), by rw [a1]; congr 1; omega, fun k h1 h2 => ?_, e4, e5, e6.trans c'⟩, c.fr⟩
    rw [a2]
    by_cases q : k = t
    · subst q
      rw [if_pos rfl, hv]
    · rw [if_neg (by omega)]; exact e3 k h1 (by omega)
  · by_cases q : a = 188
    · subst q
      rw [a2, if_neg (by omega)]
    · exact c.i (by omega)
theorem sp_nxt {g : GV} {d told i0 c0 t : Nat} {L : List Nat} {nm : Nat → Nat} {τ s : PS} (hL : Lay τ) (hT : TX τ L) (hE : ES L told nm i0 c0 τ t (t + 1) s) (ht : t < nt L) : CX12_nextToken g (d + 1) [.ref 179] s (fun s' => ES L told nm i0 c0 τ (t + 1) (t + 1) s' ∧ Fr s s') := by
  obtain ⟨e1, e2, e3, e4, e5, e6⟩ := hE
  have hb := tb_ltn ht
  have hp : mi s 179 4 = nI (te L (tb L t)) := by rw [e1.2.1, if_pos hb]
  have hTs : TX s L := hT.ch e6 (by omega) (fun i => by omega)
  refine Ct.imp (sp_nextToken (d := d) (e6.lay hL) hTs hp (te_b hb).2) (fun r s' q => ?_)
  obtain ⟨rfl, a1, c⟩ := q
  refine ⟨rfl, ⟨?_, by rw [c.i (by omega)]; exact e2, fun k h1 h2 => by rw [c.i (by omega)]; exact e3 k h1 h2, by omega, by omega, e6.trans (c.mono (fun a k h => by omega) (fun _ _ h => h))⟩, c.fr⟩
  rw [tb_s, if_pos hb]
  exact a1
theorem re_loop {g : GV} {d told i0 c0 l : Nat} {L : List Nat} {nm : Nat → Nat} {env : Nat → Int32} {τ : PS} {P : Int32 → PS → Prop} (hc : ∀ i, lc L i < 127) (hL : Lay τ) (hT : TX τ L) (hN : RN τ L told nm) (hc0 : c0 ≤ i0) : ∀ (f : Nat),
    (∀ (w i : Nat) (s : PS), w ≤ 5 → i ≤ nt L → 2 * (nt L - i) + 1 ≤ f → ES L told nm i0 c0 τ i i s →
      (∀ v j s', pe (tK L) (tV L) (fun i => slt nm told (tC L i)) env f none w i = .inl (v, j) → ES L told nm i0 c0 τ j j s' → VX12_readsE g (d + 2) P 14 [some (.ref 179), some (.int (nI l)), some (.int (nI w)), some (.int 0), none, none] [] s') →
      (∀ k m s', pe (tK L) (tV L) (fun i => slt nm told (tC L i)) env f none w i = .inr (k, m) → mi s' 179 9 = nI (k + 16 * tb L m) → Ch (chE c0) chNl τ s' → P 0 s') →
      VX12_readsE g (d + 2) P 14 [some (.ref 179), some (.int (nI l)), some (.int (nI w)), some (.int 1), none, none] [] s) ∧
    (∀ (w i : Nat) (a : Int32 × Int32 × Int32) (s : PS), w ≤ 5 → i ≤ nt L → 2 * (nt L - i) + 1 ≤ f → ES L told nm i0 c0 τ i i s →
      (∀ v j s', pe (tK L) (tV L) (fun i => slt nm told (tC L i)) env f (some a) w i = .inl (v, j) → tK L j ≠ 42 → tK L j ≠ 43 → tK L j ≠ 45 → ES L told nm i0 c0 τ j j s' → VX12_readsE g (d + 2) P 14 [some (.ref 179), some (.int (nI l)), some (.int (nI w)), some (.int 0), none, none] [] s') →
      (∀ k m s', pe (tK L) (tV L) (fun i => slt nm told (tC L i)) env f (some a) w i = .inr (k, m) → mi s' 179 9 = nI (k + 16 * tb L m) → Ch (chE c0) chNl τ s' → P 0 s') →
      VX12_readsE g (d + 2) P 14 [some (.ref 179), some (.int (nI l)), some (.int (nI w)), some (.int 0), none, none] [] s) := by
  intro f
  induction f with
  | zero => exact ⟨fun w i s _ _ h => by omega, fun w i a s _ _ h => by omega⟩
  | succ f ih =>
    obtain ⟨ih1, ih2⟩ := ih
    have hn := nt_le (L := L)
    have hl := hT.2.1
    have ok := fun f => pe_ok (V := tV L) (sl := fun i => slt nm told (tC L i)) (env := env) (tK_N L) f
    have ite0 : ∀ (q : Prop) [Decidable q], ((if q then (1 : Int32) else 0) = 0) = ¬ q := fun q _ => by
      by_cases h : q
      · rw [if_pos h]; exact propext ⟨fun e => absurd e (by decide), fun e => absurd h e⟩
      · rw [if_neg h]; exact propext ⟨fun _ => h, fun _ => rfl⟩
    -- a FAULT
    have bad : ∀ (i k : Nat) (s : PS), ES L told nm i0 c0 τ i i s → (∀ s', mi s' 179 9 = nI (k + 16 * tb L i) → Ch (chE c0) chNl τ s' → P 0 s') → CX12_fails g (d + 1) [.ref 179, .int (nI k)] s (fun v s' => Fr s s' ∧ (v = 0 ∨ v = 1) ∧ P v s') := by
      intro i k s hE hP
      refine Ct.imp (sp_fails (k := k) (hE.2.2.2.2.2.lay hL) hE.1) (fun r s' q => ?_)
      obtain ⟨v, rfl, rfl, a1, c⟩ := q
      exact ⟨_, rfl, c.fr, Or.inl rfl, hP s' a1 (hE.2.2.2.2.2.trans (c.mono (fun a k h => by omega) (fun _ _ h => h.elim)))⟩
    -- a sign put, and the next token
    have go : ∀ (i v : Nat) (s : PS) (Q : PS → Prop), ES L told nm i0 c0 τ i i s → i < nt L → v = cd L told nm i → (∀ s', ES L told nm i0 c0 τ (i + 1) (i + 1) s' → Q s') → CX12_puts g (d + 1) [.ref 179, .int (nI v)] s (fun s' => Fr s s' ∧ CX12_nextToken g (d + 1) [.ref 179] s' (fun s2 => Fr s' s2 ∧ Q s2)) := by
      intro i v s Q hE hi hv hQ
      refine Ct.imp (sp_put1 hL hT hc0 hE hi hv) (fun r s' q => ?_)
      obtain ⟨rfl, hE', f1⟩ := q
      refine ⟨rfl, f1, Ct.imp (sp_nxt (d := d) hL hT hE' hi) (fun r s2 q => ?_)⟩
      obtain ⟨rfl, hE2, f2⟩ := q
      exact ⟨rfl, f2, hQ s2 hE2⟩
    constructor
    · intro w i s hw hi hf hE hgo hbad
      have hLs := hE.2.2.2.2.2.lay hL
      have hTs : TX s L := hT.ch hE.2.2.2.2.2 (by omega) (fun i => by omega)
      have hNs : RN s L told nm := hN.ch hE.2.2.2.2.2 (by omega) (fun i => by omega)
      rw [pe_n] at hgo hbad
      have at82 : ∀ (b4 b5 : Int32), (¬ (tK L i = 3 ∧ slt nm told (tC L i) = none)) → (tK L i = 40 ∧ b4 = 1 ∧ b5 = 0 ∨ tK L i = 2 ∧ b4 = 0 ∧ b5 = 0 ∨ tK L i = 3 ∧ b4 = 0 ∧ b5 = 1) → VX12_readsE g (d + 2) P 82 [some (.ref 179), some (.int (nI l)), some (.int (nI w)), none, some (.int b4), some (.int b5)] [] s := by
        intro b4 b5 hsl hk
        have hlt := tK_N L i (by omega)
        rw [if_neg (by omega), if_neg hsl] at hgo hbad
        refine vcX12_readsE_82 hLs _ _ _ _ ?_
        rw [lit32 5, zEQ (by omega) (by omega)]
        refine ⟨fun h5 => ?_, fun h5 => ?_⟩
        · rw [if_neg (by omega)] at hgo hbad
          rcases hk with ⟨k, rfl, rfl⟩ | ⟨k, rfl, rfl⟩ | ⟨k, rfl, rfl⟩
          · rw [if_neg (by omega), if_neg (by omega)] at hgo hbad
            refine ⟨fun q => absurd q (by decide), fun _ => ?_⟩
            refine Ct.imp (sp_put1 (v := 28) hL hT hc0 hE hlt (by unfold cd; rw [if_neg (by omega), if_neg (by omega), if_pos k])) (fun r s' q => ?_)
            obtain ⟨rfl, hE', f1⟩ := q
            refine ⟨rfl, f1, fun q => absurd q (by decide), fun _ x e => ?_⟩
            rw [inc e]
            refine Ct.imp (sp_nxt (d := d) hL hT hE' hlt) (fun r s2 q => ?_)
            obtain ⟨rfl, hE2, f2⟩ := q
            refine ⟨rfl, f2, ih1 (w + 1) (i + 1) s2 (by omega) (by omega) (by omega) hE2 (fun v j s3 er hE3 => ?_) (fun k m s3 er a1 a2 => hbad k m s3 (by rw [er]; rfl) a1 a2)⟩
            rw [er, bnd_l] at hgo hbad
            obtain ⟨q1, q2, q3⟩ := (ok f none (w + 1) (i + 1) (by omega) (by omega)).1 v j er
            have q4 := q3 rfl
            refine ih2 (w + 1) j (0, 1, v) s3 (by omega) q2 (by omega) hE3 (fun u m s4 er2 n1 n2 n3 hE4 => ?_) (fun k m s4 er2 a1 a2 => hbad k m s4 (by rw [er2]; rfl) a1 a2)
            rw [er2, bnd_l] at hgo hbad
            obtain ⟨p1, p2, -⟩ := (ok f (some (0, 1, v)) (w + 1) j q2 (by omega)).1 u m er2
            have hL4 := hE4.2.2.2.2.2.lay hL
            have hT4 : TX s4 L := hT.ch hE4.2.2.2.2.2 (by omega) (fun i => by omega)
            refine vcX12_readsE_14 hL4 _ _ _ ⟨fun _ => ?_, fun q => absurd rfl q⟩
            refine Ct.imp (sp_isSign (c := 43) hL4 hT4 hE4.1 (by omega) (by omega)) (fun r s q => ?_)
            obtain ⟨v5, rfl, rfl, rfl⟩ := q
            refine ⟨_, rfl, Fr.rf, fun q => absurd ((ite0 _).mpr (fun z => n2 z)) q, fun _ => ?_⟩
            refine Ct.imp (sp_isSign (c := 45) hL4 hT4 hE4.1 (by omega) (by omega)) (fun r s q => ?_)
            obtain ⟨v5, rfl, rfl, rfl⟩ := q
            refine ⟨_, rfl, Fr.rf, fun q => absurd ((ite0 _).mpr (fun z => n3 z)) q, fun _ => ?_⟩
            refine Ct.imp (sp_isSign (c := 42) hL4 hT4 hE4.1 (by omega) (by omega)) (fun r s q => ?_)
            obtain ⟨v5, rfl, rfl, rfl⟩ := q
            refine ⟨_, rfl, Fr.rf, fun _ => ?_, fun q => absurd ((ite0 _).mpr (fun z => n1 z)) q⟩
            have hw0 : ¬ nI (w + 1) ≤ 0 := by rw [lit32 0, zLE (by omega) (by omega)]; omega
            refine ⟨fun q => absurd q hw0, fun _ => ?_⟩
            refine Ct.imp (sp_isSign (c := 41) hL4 hT4 hE4.1 (by omega) (by omega)) (fun r s q => ?_)
            obtain ⟨v5, rfl, rfl, rfl⟩ := q
            refine ⟨_, rfl, Fr.rf, fun q => ⟨fun z => absurd z hw0, fun _ => ?_⟩, fun q => ?_⟩
            · rw [ite0] at q
              exact bad m 1 _ hE4 (fun s' a1 a2 => hbad 1 m s' (by rw [if_neg q]) a1 a2)
            · rw [ite0] at q
              have q' : tK L m = 41 := Classical.not_not.mp q
              have hmlt := tK_N L m (by omega)
              refine Ct.imp (sp_put1 (v := 29) hL hT hc0 hE4 hmlt (by unfold cd; rw [if_neg (by omega), if_neg (by omega), if_neg (by omega), if_pos q'])) (fun r s' q => ?_)
              obtain ⟨rfl, hE', f1⟩ := q
              refine ⟨rfl, f1, fun x e => ?_⟩
              rw [dec1 e]
              refine Ct.imp (sp_nxt (d := d) hL hT hE' hmlt) (fun r s2 q => ?_)
              obtain ⟨rfl, hE2, f2⟩ := q
              exact ⟨rfl, f2, hgo u (m + 1) s2 (by rw [if_pos q']) hE2⟩
          · rw [if_pos k] at hgo hbad
            refine ⟨fun _ => ⟨fun _ => ?_, fun q => absurd rfl q⟩, fun q => absurd rfl q⟩
            rw [hE.1.2.2.2.2 (rt_2.mpr k), lit32 100, nI_add]
            refine Ct.imp (sp_put1 (v := 100 + tv L (tb L i)) hL hT hc0 hE hlt (by unfold cd; rw [if_pos k])) (fun r s' q => ?_)
            obtain ⟨rfl, hE', f1⟩ := q
            refine ⟨rfl, f1, fun _ => ?_, fun q => absurd rfl q⟩
            refine Ct.imp (sp_nxt (d := d) hL hT hE' hlt) (fun r s2 q => ?_)
            obtain ⟨rfl, hE2, f2⟩ := q
            exact ⟨rfl, f2, hgo _ _ s2 rfl hE2⟩
          · rw [if_neg (by omega), if_pos k] at hgo hbad
            refine ⟨fun _ => ⟨fun q => absurd q (by decide), fun _ => ?_⟩, fun q => absurd rfl q⟩
            have hwd : isW L (tb L i) := w_tk.mpr (by change tk L (tb L i) = 3 at k; omega)
            refine Ct.imp (sp_nameOf hLs hE.1 hNs hwd) (fun r s q => ?_)
            obtain ⟨v104, rfl, rfl, rfl⟩ := q
            refine ⟨_, rfl, Fr.rf, ?_⟩
            obtain ⟨z, hz⟩ := Option.ne_none_iff_exists'.mp (fun q => hsl ⟨k, q⟩)
            rw [show slt nm told (cw L (tb L i)) = some z from hz, show oI (some z) = nI z from rfl, lit32 1, nI_add]
            refine Ct.imp (sp_put1 (v := 1 + z) hL hT hc0 hE hlt (by unfold cd; rw [if_neg (by omega), if_pos k, hz]; rfl)) (fun r s' q => ?_)
            obtain ⟨rfl, hE', f1⟩ := q
            refine ⟨rfl, f1, fun _ => ?_, fun q => absurd rfl q⟩
            refine Ct.imp (sp_nxt (d := d) hL hT hE' hlt) (fun r s2 q => ?_)
            obtain ⟨rfl, hE2, f2⟩ := q
            exact ⟨rfl, f2, hgo _ _ s2 rfl hE2⟩
        · rw [if_pos (by omega)] at hbad
          exact bad i 5 s hE (fun s' a1 a2 => hbad 5 i s' rfl a1 a2)
      refine vcX12_readsE_14 hLs _ _ _ ⟨fun q => absurd q (by decide), fun _ => ?_⟩
      refine Ct.imp (sp_isSign (c := 40) hLs hTs hE.1 (by omega) (by omega)) (fun r s q => ?_)
      obtain ⟨v79, rfl, rfl, rfl⟩ := q
      refine ⟨_, rfl, Fr.rf, ?_⟩
      refine Ct.imp (sp_isKept hLs hE.1) (fun r s q => ?_)
      obtain ⟨v81, rfl, rfl, rfl⟩ := q
      refine ⟨_, rfl, Fr.rf, ?_⟩
      have e3 : tk L (tb L i) = tK L i := rfl
      rw [e3]
      by_cases k3 : tK L i = 3
      · rw [if_pos k3, if_neg (by omega)]
        refine ⟨fun q => absurd rfl q, fun _ => ⟨fun q => absurd rfl q, fun _ => ?_⟩⟩
        have hwd : isW L (tb L i) := w_tk.mpr (by omega)
        refine Ct.imp (sp_nameOf hLs hE.1 hNs hwd) (fun r s q => ?_)
        obtain ⟨v91, rfl, rfl, rfl⟩ := q
        refine ⟨_, rfl, Fr.rf, ?_⟩
        have h8 := hNs.2.1
        rw [oI_pos (n := 9) (fun k hk => by have := (slt_lt hk).1; omega) (by omega)]
        refine ⟨fun q => at82 0 1 (fun z => q z.2) (Or.inr (Or.inr ⟨k3, rfl, rfl⟩)), fun q => ?_⟩
        have q' := Classical.not_not.mp q
        rw [if_neg (by omega), if_pos ⟨k3, q'⟩] at hbad
        exact bad i 2 _ hE (fun s' a1 a2 => hbad 2 i s' rfl a1 a2)
      · rw [if_neg k3]
        refine ⟨fun _ => ?_, fun q => absurd q (by decide)⟩
        by_cases k40 : tK L i = 40
        · rw [if_pos k40]
          exact ⟨fun _ => at82 1 0 (fun z => k3 z.1) (Or.inl ⟨k40, rfl, rfl⟩), fun q => absurd q (by decide)⟩
        · rw [if_neg k40]
          have hr := rt_lt L (tb L i)
          refine ⟨fun q => absurd rfl q, fun _ => ?_⟩
          rw [hE.1.2.2.1, lit32 2, zEQ (by omega) (by omega)]
          refine ⟨fun q => at82 0 0 (fun z => k3 z.1) (Or.inr (Or.inl ⟨rt_2.mp q, rfl, rfl⟩)), fun q => ?_⟩
          have k2 : ¬ tK L i = 2 := fun z => q (rt_2.mpr z)
          rw [if_pos (by omega)] at hbad
          exact bad i 1 _ hE (fun s' a1 a2 => hbad 1 i s' rfl a1 a2)
    · intro w i a s hw hi hf hE hgo hbad
      have hLs := hE.2.2.2.2.2.lay hL
      have hTs : TX s L := hT.ch hE.2.2.2.2.2 (by omega) (fun i => by omega)
      by_cases kk : tK L i = 42 ∨ tK L i = 43 ∨ tK L i = 45
      · have hlt := tK_N L i (by omega)
        -- behind the sign
        have next : ∀ s2, ES L told nm i0 c0 τ (i + 1) (i + 1) s2 → VX12_readsE g (d + 2) P 14 [some (.ref 179), some (.int (nI l)), some (.int (nI w)), some (.int 1), none, none] [] s2 := by
          intro s2 hE2
          rw [pe_s] at hgo hbad
          refine ih1 w (i + 1) s2 hw (by omega) (by omega) hE2 (fun v j s3 er hE3 => ?_) (fun k m s3 er a1 a2 => ?_)
          · obtain ⟨q1, q2, q3⟩ := (ok f none w (i + 1) (by omega) (by omega)).1 v j er
            have q4 := q3 rfl
            rcases kk with k | k | k
            · rw [if_pos k, er, bnd_l] at hgo hbad
              exact ih2 w j _ s3 hw q2 (by omega) hE3 hgo hbad
            · rw [if_neg (by omega), if_pos (Or.inl k), er, bnd_l] at hgo hbad
              exact ih2 w j _ s3 hw q2 (by omega) hE3 hgo hbad
            · rw [if_neg (by omega), if_pos (Or.inr k), er, bnd_l] at hgo hbad
              exact ih2 w j _ s3 hw q2 (by omega) hE3 hgo hbad
          · rcases kk with k' | k' | k'
            · rw [if_pos k', er, bnd_r] at hbad
              exact hbad k m s3 rfl a1 a2
            · rw [if_neg (by omega), if_pos (Or.inl k'), er, bnd_r] at hbad
              exact hbad k m s3 rfl a1 a2
            · rw [if_neg (by omega), if_pos (Or.inr k'), er, bnd_r] at hbad
              exact hbad k m s3 rfl a1 a2
        refine vcX12_readsE_14 hLs _ _ _ ⟨fun _ => ?_, fun q => absurd rfl q⟩
        have e3 : tk L (tb L i) = tK L i := rfl
        refine Ct.imp (sp_isSign (c := 43) hLs hTs hE.1 (by omega) (by omega)) (fun r s q => ?_)
        obtain ⟨v5, rfl, rfl, rfl⟩ := q
        refine ⟨_, rfl, Fr.rf, ?_⟩
        rw [ite0, e3]
        refine ⟨fun q43 => ?_, fun q43 => ?_⟩
        · have k43 := Classical.not_not.mp q43
          refine Ct.imp (sp_isSign (c := 43) hLs hTs hE.1 (by omega) (by omega)) (fun r s q => ?_)
          obtain ⟨v5, rfl, rfl, rfl⟩ := q
          refine ⟨_, rfl, Fr.rf, ?_⟩
          rw [ite0, e3]
          exact ⟨fun q => absurd k43 q, fun _ => go i 20 _ _ hE hlt (by unfold cd; rw [if_neg (by omega), if_neg (by omega), if_neg (by omega), if_neg (by omega), if_pos k43]) next⟩
        · refine Ct.imp (sp_isSign (c := 45) hLs hTs hE.1 (by omega) (by omega)) (fun r s q => ?_)
          obtain ⟨v5, rfl, rfl, rfl⟩ := q
          refine ⟨_, rfl, Fr.rf, ?_⟩
          rw [ite0, e3]
          refine ⟨fun q45 => ?_, fun q45 => ?_⟩
          · have k45 := Classical.not_not.mp q45
            refine Ct.imp (sp_isSign (c := 43) hLs hTs hE.1 (by omega) (by omega)) (fun r s q => ?_)
            obtain ⟨v5, rfl, rfl, rfl⟩ := q
            refine ⟨_, rfl, Fr.rf, ?_⟩
            rw [ite0, e3]
            refine ⟨fun _ => ?_, fun q => absurd q43 q⟩
            refine Ct.imp (sp_isSign (c := 45) hLs hTs hE.1 (by omega) (by omega)) (fun r s q => ?_)
            obtain ⟨v5, rfl, rfl, rfl⟩ := q
            refine ⟨_, rfl, Fr.rf, ?_⟩
            rw [ite0, e3]
            exact ⟨fun q => absurd k45 q, fun _ => go i 21 _ _ hE hlt (by unfold cd; rw [if_neg (by omega), if_neg (by omega), if_neg (by omega), if_neg (by omega), if_neg (by omega), if_pos k45]) next⟩
          · have k42 : tK L i = 42 := by omega
            refine Ct.imp (sp_isSign (c := 42) hLs hTs hE.1 (by omega) (by omega)) (fun r s q => ?_)
            obtain ⟨v5, rfl, rfl, rfl⟩ := q
            refine ⟨_, rfl, Fr.rf, ?_⟩
            rw [ite0, e3]
            refine ⟨fun q => absurd k42 q, fun _ => ?_⟩
            refine Ct.imp (sp_isSign (c := 43) hLs hTs hE.1 (by omega) (by omega)) (fun r s q => ?_)
            obtain ⟨v5, rfl, rfl, rfl⟩ := q
            refine ⟨_, rfl, Fr.rf, ?_⟩
            rw [ite0, e3]
            refine ⟨fun _ => ?_, fun q => absurd q43 q⟩
            refine Ct.imp (sp_isSign (c := 45) hLs hTs hE.1 (by omega) (by omega)) (fun r s q => ?_)
            obtain ⟨v5, rfl, rfl, rfl⟩ := q
            refine ⟨_, rfl, Fr.rf, ?_⟩
            rw [ite0, e3]
            exact ⟨fun _ => go i 22 _ _ hE hlt (by unfold cd; rw [if_neg (by omega), if_neg (by omega), if_neg (by omega), if_neg (by omega), if_neg (by omega), if_neg (by omega)]) next, fun q => absurd q45 q⟩
      · rw [pe_s, if_neg (by omega), if_neg (by omega)] at hgo
        exact hgo _ i s rfl (by omega) (by omega) (by omega) hE
