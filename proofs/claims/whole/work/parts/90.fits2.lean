/-! ===== the reference's fits over the store; areSame ===== -/
def FA (σ : PS) (n : Nat) (b : BS) : Prop := (∀ z, z < 10 → mi σ 216 z = oI (b.1 z)) ∧ (∀ z, z < n → b.1 z ≠ none → mi σ 217 z = nI (b.2.1 z)) ∧ ∀ k, k < b.2.2.2 → mi σ 218 k = nI (b.2.2.1 k)
abbrev chFt : Nat → Nat → Prop := fun a _ => a = 216 ∨ a = 217 ∨ a = 218
theorem sp_imageOf {g : GV} {d n q r w : Nat} {b : BS} {σ : PS} (hL : Lay σ) (hn : n ≤ 10) (hA : FA σ n b) (hq : q < 4 * n) (hr : r < 2) (hw : b.1 (q / 4) = some w) (hw2 : w < n) (hs : b.2.1 (q / 4) < 4) :
    CX12_imageOf g d [.ref 179, .int (nI q), .int (nI r)] σ (fun v s => v = nI (imB b (1 + 2 * r) q) ∧ s = σ) := by
  have e1 := hA.1 (q / 4) (by omega)
  have e2 := hA.2.1 (q / 4) (by omega) (by rw [hw]; simp)
  rw [hw] at e1
  refine vcX12_imageOf hL _ _ (fun x1 f1 x3 f3 => ?_)
  rw [lit32 4, zDIV (by omega) (by omega) (by omega)] at f1
  rw [lit32 4, zREM (by omega) (by omega) (by omega)] at f3
  rw [f1, f3, zIN (by omega) (by omega), zCL (by omega), e1, e2, lit32 0, zEQ (by omega) (by omega)]
  have hb : imB b (1 + 2 * r) q = 4 * w + (b.2.1 (q / 4) + (1 + 2 * r) * (q % 4)) % 4 := by
    unfold imB im
    simp only [hw, Option.getD_some]
  refine ⟨by omega, fun h => ⟨by omega, ?_, rfl⟩, fun h => ⟨by omega, ?_, rfl⟩⟩
  · subst h
    rw [hb, nI_add, lit32 4, zREM (by omega) (by omega) (by omega)]
    show nI 4 * nI w + _ = _
    rw [pk_mul, nI_add]
    congr 2
    omega
  · have : r = 1 := by omega
    subst this
    rw [hb, lit32 4, nI_add, pk_sub (by omega), zREM (by omega) (by omega) (by omega)]
    show nI 4 * nI w + _ = _
    rw [pk_mul, nI_add]
    congr 2
    omega
def FtR (n : Nat) (f h : Nat → Nat) (first ε : Nat) (v : Int32) : Prop := (v = 1 ∧ ∃ H T, Iso n f h H T ε ∧ im H T ε 0 = first) ∨ (v = 0 ∧ ∀ H T, Iso n f h H T ε → im H T ε 0 = first → False)
theorem fits_end {g : GV} {d n first ε i : Nat} {f h : Nat → Nat} {b : BS} {P : Int32 → PS → Prop} {τ : PS} (hL : Lay τ) (hn : n ≤ 10) (hB : Bdy n f) (h0 : mi τ 179 35 = nI n) (hI : FI n f h first ε i b) (hi : 4 * b.2.2.2 ≤ i) (hA : FA τ n b) (hP : ∀ v, FtR n f h first ε v → P v τ) :
    VX12_fits g (d + 1) P 218 [some (.ref 179), none, none, none, some (.int 0), some (.int 0), none, none, none] [] τ := by
  have ha := hI.fin hB hi
  have hlt : ∀ c, c < n → (b.1 c).getD 0 < n := fun c hc => by
    obtain ⟨w, hw⟩ := ha c hc
    rw [hw]
    exact (hI.2.2.2.1 _ _ hw).2.1
  have hp := p2_10 hn
  have loop : ∀ (z k : Nat), z = n - k → k ≤ n → VX12_fits g (d + 1) P 218 [some (.ref 179), none, none, none, some (.int (nI (sbt (fun z => (b.1 z).getD 0) k))), some (.int (nI k)), none, none, none] [] τ := by
    intro z
    induction z with
    | zero =>
      intro k hz hk
      have : k = n := by omega
      subst this
      have hb := sbt_lt hlt k (Nat.le_refl _)
      refine vcX12_fits_218 hL _ _ ⟨fun _ => ?_, fun hc => absurd (by rw [h0, zLE (by omega) (by omega)]; omega) hc⟩
      rw [h0, zFULL (by omega), zEQ (by omega) (by omega)]
      refine ⟨fun hne => hP 0 (Or.inr ⟨rfl, fun H T q1 q2 => hI.no hB hi hne q1 q2⟩), fun he => hP 1 (Or.inl ⟨rfl, _, _, hI.iso hB hi he⟩)⟩
    | succ z ih =>
      intro k hz hk
      refine vcX12_fits_218 hL _ _ ⟨fun hc => ?_, fun _ => ?_⟩
      · rw [h0, zLE (by omega) (by omega)] at hc
        omega
      · obtain ⟨w, hw⟩ := ha k (by omega)
        have e1 := hA.1 k (by omega)
        rw [hw] at e1
        have hwl := (hI.2.2.2.1 _ _ hw).2.1
        rw [zIN (by omega) (by omega), zCL (by omega), e1]
        refine ⟨by omega, fun x13 e13 x15 e15 => ?_⟩
        have e13' : x13 = nI (sbt (fun z => (b.1 z).getD 0) (k + 1)) := by
          rw [e13]
          show _ ||| jshl 1 (nI w) = _
          rw [zOR1 (by omega)]
          show _ = nI (sbt (fun z => (b.1 z).getD 0) k ||| 2 ^ (b.1 k).getD 0)
          rw [hw, Option.getD_some]
        rw [inc e15, e13']
        exact ih (k + 1) (by omega) (by omega)
  exact loop n 0 rfl (Nat.zero_le _)
theorem sp_fits {g : GV} {d n first r : Nat} {f h : Nat → Nat} {σ : PS} (hL : Lay σ) (hn0 : 0 < n) (hn : n ≤ 10) (hB : Bdy n f) (hB2 : Bdy n h) (h0 : mi σ 179 35 = nI n) (hY : ∀ q, q < 4 * n → mi σ 215 q = nI (f q)) (hY2 : ∀ q, q < 4 * n → mi σ 215 (40 + q) = nI (h q)) (hf : first < 4 * n) (hr : r < 2) :
    CX12_fits g (d + 1) [.ref 179, .int (nI first), .int (nI r)] σ (fun v s => FtR n f h first (1 + 2 * r) v ∧ Ch chFt noL σ s) := by
  generalize hP : (fun (v : Int32) (s : PS) => FtR n f h first (1 + 2 * r) v ∧ Ch chFt noL σ s) = P
  have hε : 1 + 2 * r = 1 ∨ 1 + 2 * r = 3 := by omega
  have loop : ∀ (z k s : Nat) (b : BS) (τ : PS), z = 4 * n - (4 * k + s) → s < 4 → k < b.2.2.2 → Ch chFt noL σ τ → FI n f h first (1 + 2 * r) (4 * k + s) b → FA τ n b → VX12_fits g (d + 1) P 60 [some (.ref 179), none, some (.int (nI r)), some (.int (nI b.2.2.2)), some (.int (nI k)), some (.int (nI s)), none, none, none] [] τ := by
    intro z
    induction z with
    | zero =>
      intro k s b τ hz hs hk c hI hA
      have := hI.1
      omega
    | succ z ih =>
      intro k s b τ hz hs hk c hI hA
      have hm := hI.1.2
      have hLτ := c.lay hL
      obtain ⟨p1, p2, p3, w0, p4⟩ := hI.pl hk hs
      have hw0 := hI.2.2.2.1 _ _ p4
      have hq := hB.1 _ p1
      have hil := hI.imlt ⟨w0, p4⟩
      have hto := hB2.1 _ hil
      have epl : 4 * b.2.2.1 k + s = fpl b (4 * k + s) := by omega
      -- behind the step
      have next : ∀ (b' : BS) (u : PS), Ch chFt noL σ u → b.2.2.2 ≤ b'.2.2.2 → FI n f h first (1 + 2 * r) (4 * k + s + 1) b' → FA u n b' → VX12_fits g (d + 1) P 60 [some (.ref 179), none, some (.int (nI r)), some (.int (nI b'.2.2.2)), some (.int (nI k)), some (.int (nI (s + 1))), none, none, none] [] u := by
        intro b' u cu hle hI' hA'
        have hm' := hI'.1.2
        by_cases hs3 : s + 1 < 4
        · exact ih k (s + 1) b' u (by omega) hs3 (by omega) cu hI' hA'
        · have e3 : s = 3 := by omega
          subst e3
          refine vcX12_fits_60 (cu.lay hL) _ _ _ _ ⟨fun _ x17 e17 => ?_, fun hc => absurd (by rw [lit32 4, zLE (by omega) (by omega)]; omega) hc⟩
          rw [inc e17]
          refine vcX12_fits_51 (cu.lay hL) _ _ _ ⟨fun hc => ?_, fun hc => ?_⟩
          · rw [zLE (by omega) (by omega)] at hc
            refine fits_end (d := d) (cu.lay hL) hn hB (by rw [cu.i (by unfold chFt; omega)]; exact h0) hI' (by omega) hA' (fun v hv => ?_)
            rw [← hP]
            exact ⟨hv, cu⟩
          · rw [zLE (by omega) (by omega)] at hc
            exact ih (k + 1) 0 b' u (by omega) (by omega) (by omega) cu (by rw [show 4 * (k + 1) + 0 = 4 * k + 3 + 1 by omega]; exact hI') hA'
      refine vcX12_fits_60 hLτ _ _ _ _ ⟨fun hc => ?_, fun _ => ?_⟩
      · rw [lit32 4, zLE (by omega) (by omega)] at hc
        omega
      · have eq1 := hA.2.2 k hk
        rw [zIN (by omega) (by omega), zCL (by omega), eq1, lit32 4, pk_mul, nI_add, epl, zIN (by omega) (by omega), zCL (by omega)]
        refine ⟨by omega, by omega, fun x21 e21 => ⟨by omega, ?_⟩⟩
        rw [c.i (by unfold chFt; omega), hY _ p1] at e21
        rw [e21]
        refine Ct.imp (sp_imageOf hLτ hn hA p1 hr p4 hw0.2.1 hw0.2.2.1) (fun rr t w => ?_)
        obtain ⟨v, rfl, rfl, rfl⟩ := w
        refine ⟨_, rfl, Fr.rf, ?_⟩
        rw [lit32 40, nI_add, zIN (by omega) (by omega), zCL (by omega)]
        refine ⟨by omega, fun x27 e27 x29 e29 => ?_⟩
        rw [c.i (by unfold chFt; omega), hY2 _ hil] at e27
        rw [zDIV (by omega) (by omega) (by omega)] at e29
        rw [e27, e29, zIN (by omega) (by omega), zCL (by omega), hA.1 _ (show f (fpl b (4 * k + s)) / 4 < 10 by omega), lit32 0]
        have pos := oI_pos (o := b.1 (f (fpl b (4 * k + s)) / 4)) (n := 10) (fun j hj => by have := (hI.2.2.2.1 _ _ hj).2.1; omega) (by omega)
        rw [lit32 0] at pos
        rw [pos]
        refine ⟨by omega, fun hsome => ?_, fun hnone => ?_⟩
        · obtain ⟨w1, hw1⟩ := Option.ne_none_iff_exists'.mp hsome
          have hw1' := hI.2.2.2.1 _ _ hw1
          refine Ct.imp (sp_imageOf hLτ hn hA hq hr hw1 hw1'.2.1 hw1'.2.2.1) (fun rr t w => ?_)
          obtain ⟨v, rfl, rfl, rfl⟩ := w
          have hil2 := hI.imlt (ε := 1 + 2 * r) ⟨w1, hw1⟩
          refine ⟨_, rfl, Fr.rf, ?_⟩
          rw [zEQ (by omega) (by omega)]
          refine ⟨fun he x34 e34 => ?_, fun hne => ?_⟩
          · rw [inc e34]
            exact next b _ c (Nat.le_refl _) (hI.old hk hs ⟨w1, hw1⟩ he) hA
          · rw [← hP]
            refine ⟨Or.inr ⟨rfl, fun H T q1 q2 => hne ?_⟩, c⟩
            rw [← hI.agree q1 q2 ⟨w1, hw1⟩, ← hI.agree q1 q2 ⟨w0, p4⟩]
            exact q1.2.2 _ p1
        · have hno : b.1 (f (fpl b (4 * k + s)) / 4) = none := Classical.not_not.mp hnone
          have hlt := hI.many (by omega) hno
          obtain ⟨hN, hNe⟩ := hI.new hB.1 hB2.1 hε hk hs hno
          have fin : ∀ (u : Int32) (s37 s40 s43 : PS), s37 = si t 216 (f (fpl b (4 * k + s)) / 4) (nI (h (imB b (1 + 2 * r) (fpl b (4 * k + s))) / 4)) → u = nI ((h (imB b (1 + 2 * r) (fpl b (4 * k + s))) % 4 + (4 - (1 + 2 * r)) * (f (fpl b (4 * k + s)) % 4)) % 4) → s40 = si s37 217 (f (fpl b (4 * k + s)) / 4) u → s43 = si s40 218 b.2.2.2 (nI (f (fpl b (4 * k + s)) / 4)) → Ch chFt noL σ s43 ∧ FA s43 n (fnw b (f (fpl b (4 * k + s)) / 4) (h (imB b (1 + 2 * r) (fpl b (4 * k + s))) / 4) ((h (imB b (1 + 2 * r) (fpl b (4 * k + s))) % 4 + (4 - (1 + 2 * r)) * (f (fpl b (4 * k + s)) % 4)) % 4)) := by
            intro u s37 s40 s43 e37 eu e40 e43
            refine ⟨c.trans (by rw [e43, e40, e37]; exact ((Ch.rf.si (Or.inl rfl)).si (Or.inr (Or.inl rfl))).si (Or.inr (Or.inr rfl))), fun z hz => ?_, fun z hz hne => ?_, fun j hj => ?_⟩
            · show _ = oI (if z = f (fpl b (4 * k + s)) / 4 then some (h (imB b (1 + 2 * r) (fpl b (4 * k + s))) / 4) else b.1 z)
              rw [e43, mi_si, if_neg (by omega), e40, mi_si, if_neg (by omega), e37, mi_si]
              by_cases e : z = f (fpl b (4 * k + s)) / 4
              · rw [if_pos ⟨rfl, e⟩, if_pos e]; rfl
              · rw [if_neg (fun q => e q.2), if_neg e]; exact hA.1 z hz
            · show _ = nI (if z = f (fpl b (4 * k + s)) / 4 then _ else b.2.1 z)
              rw [e43, mi_si, if_neg (by omega), e40, mi_si]
              by_cases e : z = f (fpl b (4 * k + s)) / 4
              · rw [if_pos ⟨rfl, e⟩, if_pos e]; exact eu
              · rw [if_neg (fun q => e q.2), if_neg e, e37, mi_si, if_neg (by omega)]
                refine hA.2.1 z hz (fun w => hne ?_)
                exact (if_neg e).trans w
            · show _ = nI (if j = b.2.2.2 then f (fpl b (4 * k + s)) / 4 else b.2.2.1 j)
              have hj' : j < b.2.2.2 + 1 := hj
              rw [e43, mi_si]
              by_cases e : j = b.2.2.2
              · rw [if_pos ⟨rfl, e⟩, if_pos e]
              · rw [if_neg (fun q => e q.2), if_neg e, e40, mi_si, if_neg (by omega), e37, mi_si, if_neg (by omega)]
                exact hA.2.2 j (by omega)
          rw [zDIV (by omega) (by omega) (by omega), zREM (by omega) (by omega) (by omega), zREM (by omega) (by omega) (by omega), zCL (show b.2.2.2 < 2147483648 by omega), zIN (show b.2.2.2 < 2147483648 by omega) (by omega), zEQ (by omega) (by omega)]
          have cmp : ∀ (u : PS), Ch chFt noL σ u → FA u n (fnw b (f (fpl b (4 * k + s)) / 4) (h (imB b (1 + 2 * r) (fpl b (4 * k + s))) / 4) ((h (imB b (1 + 2 * r) (fpl b (4 * k + s))) % 4 + (4 - (1 + 2 * r)) * (f (fpl b (4 * k + s)) % 4)) % 4)) → ∀ x45 : Int32, x45 = nI b.2.2.2 + 1 → CX12_imageOf g d [.ref 179, .int (nI (f (fpl b (4 * k + s)))), .int (nI r)] u (fun (v48 : Int32) (s47 : PS) => Fr u s47 ∧ (v48 = nI (h (imB b (1 + 2 * r) (fpl b (4 * k + s)))) → ∀ x49 : Int32, x49 = nI s + 1 → VX12_fits g (d + 1) P 60 [some (.ref 179), none, some (.int (nI r)), some (.int x45), some (.int (nI k)), some (.int x49), none, none, none] [] s47) ∧ (¬ v48 = nI (h (imB b (1 + 2 * r) (fpl b (4 * k + s)))) → P (nI 0) s47)) := by
            intro u cu hAu x45 e45
            have hx := hN.2.2.2.2.1 (4 * k + s) (by omega)
            refine Ct.imp (sp_imageOf (w := h (imB b (1 + 2 * r) (fpl b (4 * k + s))) / 4) (cu.lay hL) hn hAu hq hr (if_pos rfl) (by omega) ?_) (fun rr t w => ?_)
            · show (if f (fpl b (4 * k + s)) / 4 = f (fpl b (4 * k + s)) / 4 then _ else _) < 4
              rw [if_pos rfl]
              omega
            · obtain ⟨v, rfl, rfl, rfl⟩ := w
              refine ⟨_, rfl, Fr.rf, fun _ x49 e49 => ?_, fun hne => absurd (by rw [hNe]) hne⟩
              rw [inc e49, inc e45]
              exact next _ _ cu (Nat.le_succ _) hN hAu
          refine ⟨by omega, fun s37 e37 => ⟨fun hr0 => ⟨by omega, fun s40 e40 => ⟨by omega, fun s43 e43 x45 e45 => ?_⟩⟩, fun hr0 => ⟨by omega, fun s40 e40 => ⟨by omega, fun s43 e43 x45 e45 => ?_⟩⟩⟩⟩
          · obtain ⟨q1, q2⟩ := fin _ s37 s40 s43 e37 (by
              rw [nI_add, pk_sub (by omega), zREM (by omega) (by omega) (by omega)]
              congr 1
              subst hr0
              omega) e40 e43
            exact cmp s43 q1 q2 x45 e45
          · obtain ⟨q1, q2⟩ := fin _ s37 s40 s43 e37 (by
              rw [nI_add, zREM (by omega) (by omega) (by omega)]
              congr 1
              have : r = 1 := by omega
              subst this
              omega) e40 e43
            exact cmp s43 q1 q2 x45 e45
  have clr : ∀ (z i : Nat) (τ : PS), z = 10 - i → i ≤ 10 → Ch chFt noL σ τ → (∀ j, j < i → mi τ 216 j = -1) → VX12_fits g (d + 1) P 2 [some (.ref 179), some (.int (nI first)), some (.int (nI r)), some (.int (nI i)), none, none, none, none, none] [] τ := by
    intro z
    induction z with
    | zero =>
      intro i τ hz hi c hq
      have : i = 10 := by omega
      subst this
      refine vcX12_fits_2 (c.lay hL) _ _ _ ⟨fun _ s1 e1 s3 e3 s5 e5 => ?_, fun hc => absurd (by rw [lit32 10, zLE (by omega) (by omega)]; omega) hc⟩
      rw [lit32 4, zDIV (by omega) (by omega) (by omega)] at e1
      rw [lit32 4, zREM (by omega) (by omega) (by omega)] at e3
      rw [show Int32.toNatClampNeg 0 = 0 from rfl] at e1 e3 e5
      have c5 : Ch chFt noL σ s5 := c.trans (by rw [e5, e3, e1]; exact ((Ch.rf.si (Or.inl rfl)).si (Or.inr (Or.inl rfl))).si (Or.inr (Or.inr rfl)))
      refine vcX12_fits_51 (c5.lay hL) _ _ _ ⟨fun hc => absurd hc (by decide), fun _ => ?_⟩
      refine loop (4 * n) 0 0 (fun z => if z = 0 then some (first / 4) else none, fun z => if z = 0 then first % 4 else 0, fun _ => 0, 1) s5 (by omega) (by omega) Nat.one_pos c5 (FI.start hn0 hf) ⟨fun z hz => ?_, fun z hz hne => ?_, fun k hk => ?_⟩
      · show _ = oI (if z = 0 then some (first / 4) else none)
        rw [e5, mi_si, if_neg (by omega), e3, mi_si, if_neg (by omega), e1, mi_si]
        by_cases e : z = 0
        · rw [if_pos ⟨rfl, e⟩, if_pos e]; rfl
        · rw [if_neg (fun q => e q.2), if_neg e]; exact hq z hz
      · have : z = 0 := by
          refine Classical.byContradiction (fun e => hne ?_)
          show (if z = 0 then some (first / 4) else none) = none
          rw [if_neg e]
        show _ = nI (if z = 0 then first % 4 else 0)
        rw [if_pos this, e5, mi_si, if_neg (by omega), e3, mi_si, if_pos ⟨rfl, this⟩]
      · show _ = nI 0
        have : k < 1 := hk
        rw [e5, mi_si, if_pos ⟨rfl, by omega⟩]
        rfl
    | succ z ih =>
      intro i τ hz hi c hq
      refine vcX12_fits_2 (c.lay hL) _ _ _ ⟨fun hc => ?_, fun _ => ⟨by rw [zIN (by omega) (by omega)]; omega, fun s8 e8 x10 e10 => ?_⟩⟩
      · rw [lit32 10, zLE (by omega) (by omega)] at hc
        omega
      · rw [zCL (by omega)] at e8
        rw [inc e10]
        refine ih (i + 1) s8 (by omega) (by omega) (c.trans (by rw [e8]; exact Ch.rf.si (Or.inl rfl))) (fun j hj => ?_)
        rw [e8, mi_si]
        by_cases e : j = i
        · rw [if_pos ⟨rfl, e⟩]
        · rw [if_neg (fun q => e q.2)]; exact hq j (by omega)
  exact vcX12_fits hL _ _ (clr 10 0 σ rfl (by omega) Ch.rf (fun j hj => by omega))
/-- whether two GLUINGS' bodies are the SAME -/
def SmR (n : Nat) (f h : Nat → Nat) (v : Int32) : Prop := (v = 1 ∧ Same n f h) ∨ (v = 0 ∧ ¬ Same n f h)
abbrev chAS : Nat → Nat → Prop := fun a _ => 215 ≤ a ∧ a ≤ 218
theorem sp_areSame {g : GV} {d n E k1 k2 : Nat} {x y : Nat → Nat} {q : Nat → Nat} {m1 m2 : Mat} {σ : PS} (hL : Lay σ) (hF : MF σ n x y E) (hV : VF n x y E) (hH : itr n x y n = 2 ^ n - 1) (hM1 : FM E q m1) (hM2 : FM E q m2) (h1 : k1 ≤ 2000) (h2 : k2 ≤ 2000) (e1 : ∀ e, e < E → mi σ 211 (24 * k1 + e) = oI (m1 e)) (e2 : ∀ e, e < E → mi σ 211 (24 * k2 + e) = oI (m2 e)) :
    CX12_areSame g (d + 3) [.ref 179, .int (nI k1), .int (nI k2)] σ (fun v s => SmR n (bdy n x y E (mt m1)) (bdy n x y E (mt m2)) v ∧ Ch chAS noL σ s) := by
  have hn := hV.2.1
  have hmt1 := hM1.inv.mt hM1.full
  have hfm1 := full_mt hM1.full
  have hmt2 := hM2.inv.mt hM2.full
  have hfm2 := full_mt hM2.full
  have hB1 := bdy_con hV hmt1 hH
  have hB2 := bdy_con hV hmt2 hH
  generalize hP : (fun v s => SmR n (bdy n x y E (mt m1)) (bdy n x y E (mt m2)) v ∧ Ch chAS noL σ s) = P
  refine vcX12_areSame hL _ _ (Ct.imp (sp_laysBody (d := d) (t := 0) hL hF hV hmt1 (by omega) (Or.inr ⟨k1, h1, rfl, fun e he => by rw [e1 e he, hfm1 e he]; rfl⟩)) (fun r s1 w => ?_))
  obtain ⟨rfl, hY, c1⟩ := w
  have hL1 := c1.lay hL
  have hF1 := hF.ch c1 (by unfold chY; omega) (by unfold chY; omega) (fun a i h1 h2 => by unfold chY; omega)
  refine ⟨rfl, c1.fr, Ct.imp (sp_laysBody (d := d) (t := 40) hL1 hF1 hV hmt2 (by omega) (Or.inr ⟨k2, h2, rfl, fun e he => by rw [c1.i (by unfold chY; omega), e2 e he, hfm2 e he]; rfl⟩)) (fun r s3 w => ?_)⟩
  obtain ⟨rfl, hY2, c3⟩ := w
  have hL3 := c3.lay hL1
  have c3' : Ch chAS noL σ s3 := (c1.mono (fun a k h => by unfold chY at h; unfold chAS; omega) (fun _ _ h => h)).trans (c3.mono (fun a k h => by unfold chY at h; unfold chAS; omega) (fun _ _ h => h))
  have hF3 := hF1.ch c3 (by unfold chY; omega) (by unfold chY; omega) (fun a i h1 h2 => by unfold chY; omega)
  have hY' : ∀ q, q < 4 * n → mi s3 215 q = nI (bdy n x y E (mt m1) q) := fun q hq => by
    rw [c3.i (by unfold chY; omega)]
    have := hY q hq
    rwa [Nat.zero_add] at this
  refine ⟨rfl, c3.fr, ?_⟩
  have loop : ∀ (z p : Nat) (τ : PS), z = 4 * n - p → p ≤ 4 * n → Ch chFt noL s3 τ → (∀ H T ε, (ε = 1 ∨ ε = 3) → Iso n (bdy n x y E (mt m1)) (bdy n x y E (mt m2)) H T ε → p ≤ im H T ε 0) → VX12_areSame g (d + 3) P 15 [some (.ref 179), none, none, some (.int (nI p))] [] τ := by
    intro z
    induction z with
    | zero =>
      intro p τ hz hp c hno
      have : p = 4 * n := by omega
      subst this
      have h35 : mi τ 179 35 = nI n := by rw [c.i (by unfold chFt; omega)]; exact hF3.1.1
      refine vcX12_areSame_15 (c.lay hL3) _ ⟨fun _ => ?_, fun hc => absurd (by rw [h35, lit32 4, pk_mul, zLE (by omega) (by omega)]; omega) hc⟩
      rw [← hP]
      refine ⟨Or.inr ⟨rfl, ?_⟩, c3'.trans (c.mono (fun a k h => by unfold chFt at h; unfold chAS; omega) (fun _ _ h => h))⟩
      rintro ⟨H, T, ε, hε, hI⟩
      have a := hno H T ε hε hI
      have b := im_lt (ε := ε) (q := 0) hI.1 (by have := hV.1; omega)
      omega
    | succ z ih =>
      intro p τ hz hp c hno
      have h35 : mi τ 179 35 = nI n := by rw [c.i (by unfold chFt; omega)]; exact hF3.1.1
      have cP : ∀ u, Ch chFt noL s3 u → Ch chAS noL σ u := fun u cu => c3'.trans (cu.mono (fun a k h => by unfold chFt at h; unfold chAS; omega) (fun _ _ h => h))
      refine vcX12_areSame_15 (c.lay hL3) _ ⟨fun hc => ?_, fun _ => ?_⟩
      · rw [h35, lit32 4, pk_mul, zLE (by omega) (by omega)] at hc
        omega
      · have hb : Nat := 0
        refine Ct.imp (sp_fits (d := d + 1) (r := 0) (c.lay hL3) hV.1 hn hB1 hB2 h35 (fun q hq => by rw [c.i (by unfold chFt; omega)]; exact hY' q hq) (fun q hq => by rw [c.i (by unfold chFt; omega)]; exact hY2 q hq) (show p < 4 * n by omega) (by omega)) (fun r s5 w => ?_)
        obtain ⟨v, rfl, hv, c5⟩ := w
        refine ⟨_, rfl, c5.fr, fun hne => ?_, fun he => ?_⟩
        · rcases hv with ⟨rfl, H, T, hI, -⟩ | ⟨rfl, -⟩
          · rw [← hP]
            exact ⟨Or.inl ⟨rfl, H, T, _, Or.inl rfl, hI⟩, cP _ (c.trans c5)⟩
          · exact absurd rfl hne
        · have hv0 : ∀ H T, Iso n (bdy n x y E (mt m1)) (bdy n x y E (mt m2)) H T 1 → im H T 1 0 = p → False := by
            rcases hv with ⟨rfl, -⟩ | ⟨-, h⟩
            · exact absurd he (by decide)
            · exact h
          have c5' := c.trans c5
          refine Ct.imp (sp_fits (d := d + 1) (r := 1) (c5'.lay hL3) hV.1 hn hB1 hB2 (by rw [c5'.i (by unfold chFt; omega)]; exact hF3.1.1) (fun q hq => by rw [c5'.i (by unfold chFt; omega)]; exact hY' q hq) (fun q hq => by rw [c5'.i (by unfold chFt; omega)]; exact hY2 q hq) (show p < 4 * n by omega) (by omega)) (fun r s7 w => ?_)
          obtain ⟨v7, rfl, hv7, c7⟩ := w
          refine ⟨_, rfl, c7.fr, fun he7 x9 e9 => ?_, fun hne => ?_⟩
          · have hv1 : ∀ H T, Iso n (bdy n x y E (mt m1)) (bdy n x y E (mt m2)) H T 3 → im H T 3 0 = p → False := by
              rcases hv7 with ⟨rfl, -⟩ | ⟨-, h⟩
              · exact absurd he7 (by decide)
              · exact h
            rw [inc e9]
            refine ih (p + 1) s7 (by omega) (by omega) (c5'.trans c7) (fun H T ε hε hI => ?_)
            have a := hno H T ε hε hI
            have b : im H T ε 0 ≠ p := fun e => by
              rcases hε with rfl | rfl
              · exact hv0 H T hI e
              · exact hv1 H T hI e
            omega
          · rcases hv7 with ⟨rfl, H, T, hI, -⟩ | ⟨rfl, -⟩
            · rw [← hP]
              exact ⟨Or.inl ⟨rfl, H, T, _, Or.inr rfl, hI⟩, cP _ (c5'.trans c7)⟩
            · exact absurd rfl hne
  exact loop (4 * n) 0 s3 rfl (by omega) Ch.rf (fun _ _ _ _ _ => Nat.zero_le _)
