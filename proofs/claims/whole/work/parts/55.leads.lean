/-! ===== the reference's ways: one way ===== -/
abbrev chG : Nat → Nat → Prop := fun a k => a = 179 ∧ (k = 61 ∨ k = 62)
def BY (σ : PS) (n : Nat) (f : Nat → Nat) : Prop := n ≤ 10 ∧ ∀ q, q < 4 * n → f q < 4 * n ∧ mi σ 215 q = nI (f q)
theorem BY.ch {σ s : PS} {n : Nat} {f : Nat → Nat} {Pm Pl : Nat → Nat → Prop} (h : BY σ n f) (c : Ch Pm Pl σ s) (h1 : ∀ i, ¬ Pm 215 i) : BY s n f :=
  ⟨h.1, fun q hq => ⟨(h.2 q hq).1, by rw [c.i (h1 q)]; exact (h.2 q hq).2⟩⟩
theorem sp_goesTo {g : GV} {d n c tu s : Nat} {f : Nat → Nat} {σ : PS} (hL : Lay σ) (hB : BY σ n f) (h1 : mi σ 179 61 = nI c) (h2 : mi σ 179 62 = nI tu) (hc : c < n) (ht : tu < 4) (hs : s < 4) :
    CX12_goesTo g d [.ref 179, .int (nI s)] σ (fun t => mi t 179 61 = nI (crs f s (c, tu)).1 ∧ mi t 179 62 = nI (crs f s (c, tu)).2 ∧ Ch chG noL σ t) := by
  obtain ⟨hn, hb⟩ := hB
  obtain ⟨q1, q2⟩ := hb (4 * c + (s + tu) % 4) (by omega)
  refine vcX12_goesTo hL _ ?_
  rw [show (4 : Int32) * mi σ 179 61 + jrem (nI s + mi σ 179 62) 4 = nI (4 * c + (s + tu) % 4) by
    rw [h1, h2, nI_add, lit32 4, zREM (by omega) (by omega) (by omega), pk_mul, nI_add]]
  simp (disch := omega) only [zIN, zCL, q2]
  refine ⟨by omega, fun x2 e2 s4 e4 s6 e6 => ?_⟩
  have k1 : x2 / 4 = nI (f (4 * c + (s + tu) % 4) / 4) := by rw [e2, lit32 4, zDIV (by omega) (by omega) (by omega)]
  have k2 : jrem (((jrem x2 4 + 8) - nI s) - 2) 4 = nI ((f (4 * c + (s + tu) % 4) % 4 + 6 - s) % 4) := by
    rw [e2, lit32 4, zREM (by omega) (by omega) (by omega), lit32 8, nI_add, pk_sub (by omega), lit32 2, pk_sub (by omega), zREM (by omega) (by omega) (by omega)]
    congr 2
    omega
  rw [k2] at e6
  rw [k1] at e4
  refine ⟨?_, ?_, ?_⟩
  · rw [e6, mi_si, if_neg (by omega), e4, mi_si, if_pos ⟨rfl, rfl⟩]; rfl
  · rw [e6, mi_si, if_pos ⟨rfl, rfl⟩]; rfl
  · rw [e6, e4]; exact (Ch.rf.si (by simp [chG])).si (by simp [chG])
def GoM (n : Nat) (R : Option (Nat × Nat)) (v : Int32) (s : PS) : Prop := match R with
  | none => v = 0
  | some p => v = 1 ∧ p.1 < n ∧ p.2 < 4 ∧ mi s 179 61 = nI p.1 ∧ mi s 179 62 = nI p.2
theorem zSBl {a b : Nat} (ha : a < 1000000) (hb : b < 1000000) : (nI a - nI b < 0) = (a < b) := by
  refine propext ⟨fun h => ?_, fun h => ?_⟩
  · have := Int32.lt_iff_toInt_lt.mp h
    rw [pk_sub_toInt (by omega) (by omega)] at this
    have e : (0 : Int32).toInt = 0 := by decide
    omega
  · refine Int32.lt_iff_toInt_lt.mpr ?_
    rw [pk_sub_toInt (by omega) (by omega)]
    have e : (0 : Int32).toInt = 0 := by decide
    omega
theorem zSBg {a b : Nat} (ha : a < 1000000) (hb : b < 1000000) : (0 < nI a - nI b) = (b < a) := by
  refine propext ⟨fun h => ?_, fun h => ?_⟩
  · have := Int32.lt_iff_toInt_lt.mp h
    rw [pk_sub_toInt (by omega) (by omega)] at this
    have e : (0 : Int32).toInt = 0 := by decide
    omega
  · refine Int32.lt_iff_toInt_lt.mpr ?_
    rw [pk_sub_toInt (by omega) (by omega)]
    have e : (0 : Int32).toInt = 0 := by decide
    omega
theorem sp_leads {g : GV} {d n c kx ky : Nat} {f : Nat → Nat} {σ : PS} (hL : Lay σ) (hB : BY σ n f) (hi : ∀ a b, a < 4 * n → b < 4 * n → f (nxs a) = f (nxs b) → a = b) (hc : c < n) (hx : kx < 25) (hy : ky < 25) :
    CX12_leads g (d + 1) [.ref 179, .int (nI c), .int (dI kx), .int (dI ky)] σ (fun v s => Ch chG noL σ s ∧ GoM n (way' f (orb (fun z => f (nxs z)) (4 * n)) c kx ky) v s) := by
  have hn := hB.1
  have hwx := wd_le hx
  have hwy := wd_le hy
  obtain ⟨-, -, cx, dx, ex, -⟩ := dI_facts kx hx
  obtain ⟨-, -, cy, dy, ey, -⟩ := dI_facts ky hy
  have hf : ∀ z, z < 4 * n → (fun z => f (nxs z)) z < 4 * n := fun z hz => (hB.2 _ (nxs_lt hz)).1
  have fl : ∀ q, q < 4 * n → f q < 4 * n := fun q hq => (hB.2 q hq).1
  have tl : ∀ q, q < 4 * n → orb (fun z => f (nxs z)) (4 * n) q ≤ 40 := fun q hq => by
    have := (orb_is hf hi hq).2.1
    omega
  unfold way'
  generalize hT : orb (fun z => f (nxs z)) (4 * n) = t at *
  have key : ∀ (w h sx sy : Nat), w ≤ 12 → h ≤ 12 → (sx = 1 ∨ sx = 3) → (sy = 0 ∨ sy = 2) → ∀ (R : Option (Nat × Nat)) (k cc rr : Nat) (p : Nat × Nat) (s : PS), (w - cc) + (h - rr) ≤ k → cc ≤ w → rr ≤ h → p.1 < n → p.2 < 4 → Ch chG noL σ s → mi s 179 61 = nI p.1 → mi s 179 62 = nI p.2 → wk f t w h sx sy (btw sx sy) k cc rr p = R →
      VX12_leads g (d + 1) (fun v s => Ch chG noL σ s ∧ GoM n R v s) 62 [some (.ref 179), none, none, none, some (.int (nI w)), some (.int (nI h)), some (.int (nI sx)), some (.int (nI sy)), some (.int (nI (cc + 1))), some (.int (nI (rr + 1))), none, none, none] [] s := by
    intro w h sx sy hw hh h1 h2 R k
    have hs1 : sx < 4 := by omega
    have hs2 : sy < 4 := by omega
    induction k with
    | zero =>
      intro cc rr p s hle hcc hrr p1 p2 cs e1 e2 hR
      have hR2 : R = some p := hR.symm
      subst hR2
      refine vcX12_leads_62 (cs.lay hL) _ _ _ _ _ _ ⟨fun q => ?_, fun _ => ⟨fun _ => ⟨cs, rfl, p1, p2, e1, e2⟩, fun q => ?_⟩⟩
      · rw [zLE (by omega) (by omega)] at q
        omega
      · rw [zLT (by omega) (by omega)] at q
        omega
    | succ k ih =>
      intro cc rr p s hle hcc hrr p1 p2 cs e1 e2 hR
      have hL2 := cs.lay hL
      have hB2 : BY s n f := hB.ch cs (by simp [chG])
      have mul1 : (2 * cc + 1) * h ≤ 25 * 12 := Nat.mul_le_mul (by omega) hh
      have mul2 : (2 * rr + 1) * w ≤ 25 * 12 := Nat.mul_le_mul (by omega) hw
      unfold wk at hR
      have body : cc < w ∨ rr < h → ∀ t0 : Int32, (t0 = 0 ↔ (2 * cc + 1) * h = (2 * rr + 1) * w) → (t0 < 0 ↔ (2 * cc + 1) * h < (2 * rr + 1) * w) → (0 < t0 ↔ (2 * rr + 1) * w < (2 * cc + 1) * h) →
          VX12_leads g (d + 1) (fun v s => Ch chG noL σ s ∧ GoM n R v s) 117 [some (.ref 179), none, none, none, some (.int (nI w)), some (.int (nI h)), some (.int (nI sx)), some (.int (nI sy)), some (.int (nI (cc + 1))), some (.int (nI (rr + 1))), none, none, none] [.int t0] s := by
        intro hor t0 z1 z2 z3
        rw [if_pos hor] at hR
        obtain ⟨g1, g2, g3⟩ := sgn hcc hrr hor
        refine vcX12_leads_117 hL2 _ _ _ _ _ _ _ ?_
        simp only [z1, z2, z3]
        refine ⟨fun hne => ⟨fun hgt => ⟨fun _ => by omega, fun _ => ?_⟩, fun hgt => ?_⟩, fun heq x31 e31 x33 e33 => ?_⟩
        · rw [if_neg hne, if_neg (by omega)] at hR
          have hrh := g3 hgt
          refine Ct.imp (sp_goesTo hL2 hB2 e1 e2 p1 p2 hs2) (fun r s1 q => ?_)
          obtain ⟨rfl, a1, a2, a3⟩ := q
          have hl := crs_lt (s := sy) (tu := p.2) fl p1
          refine ⟨rfl, a3.fr, fun x e => ?_⟩
          rw [inc e]
          exact ih cc (rr + 1) (crs f sy p) s1 (by omega) hcc (by omega) hl.1 hl.2 (cs.trans a3) a1 a2 hR
        · rw [if_neg hne, if_pos (by omega)] at hR
          have hcw := g2 (by omega)
          refine Ct.imp (sp_goesTo hL2 hB2 e1 e2 p1 p2 hs1) (fun r s1 q => ?_)
          obtain ⟨rfl, a1, a2, a3⟩ := q
          have hl := crs_lt (s := sx) (tu := p.2) fl p1
          refine ⟨rfl, a3.fr, fun x e => ⟨fun _ => ?_, fun hcc2 => by omega⟩⟩
          rw [inc e]
          exact ih (cc + 1) rr (crs f sx p) s1 (by omega) (by omega) hrr hl.1 hl.2 (cs.trans a3) a1 a2 hR
        · rw [if_pos heq] at hR
          obtain ⟨hcw, hrh⟩ := g1 heq
          have f31 : x31 = nI ((sx + p.2) % 4) := by rw [e31, e2, nI_add, lit32 4, zREM (by omega) (by omega) (by omega)]
          have f33 : x33 = nI ((sy + p.2) % 4) := by rw [e33, e2, nI_add, lit32 4, zREM (by omega) (by omega) (by omega)]
          have hbt : btw sx sy < 4 := by unfold btw; split <;> omega
          have hq : 4 * p.1 + (btw sx sy + p.2) % 4 < 4 * n := by omega
          have goon : ∀ s', Ch chG noL σ s' → s' = s → t (4 * p.1 + (btw sx sy + p.2) % 4) = 4 → CX12_goesTo g d [.ref 179, .int (nI sx)] s' (fun (s41) => Fr s' s41 ∧ ∀ x43 : Int32, x43 = nI (cc + 1) + 1 → ((2 * cc + 1) * h < (2 * rr + 1) * w → VX12_leads g (d + 1) (fun v s => Ch chG noL σ s ∧ GoM n R v s) 62 [some (.ref 179), none, none, none, some (.int (nI w)), some (.int (nI h)), some (.int (nI sx)), some (.int (nI sy)), some (.int x43), some (.int (nI (rr + 1))), none, none, none] [] s41) ∧ (¬ (2 * cc + 1) * h < (2 * rr + 1) * w → CX12_goesTo g d [.ref 179, .int (nI sy)] s41 (fun (s45) => Fr s41 s45 ∧ ∀ x47 : Int32, x47 = nI (rr + 1) + 1 → VX12_leads g (d + 1) (fun v s => Ch chG noL σ s ∧ GoM n R v s) 62 [some (.ref 179), none, none, none, some (.int (nI w)), some (.int (nI h)), some (.int (nI sx)), some (.int (nI sy)), some (.int x43), some (.int x47), none, none, none] [] s45))) := by
            intro s' cs' es h4
            subst es
            rw [if_pos h4] at hR
            refine Ct.imp (sp_goesTo hL2 hB2 e1 e2 p1 p2 hs1) (fun r s1 q => ?_)
            obtain ⟨rfl, a1, a2, a3⟩ := q
            have hl := crs_lt (s := sx) (tu := p.2) fl p1
            have hB3 : BY s1 n f := hB2.ch a3 (by simp [chG])
            refine ⟨rfl, a3.fr, fun x43 e43 => ⟨fun _ => by omega, fun _ => Ct.imp (sp_goesTo (a3.lay hL2) hB3 a1 a2 hl.1 hl.2 hs2) (fun r s2 q => ?_)⟩⟩
            obtain ⟨rfl, b1, b2, b3⟩ := q
            have hl2 := crs_lt (s := sy) (tu := (crs f sx p).2) fl hl.1
            refine ⟨rfl, b3.fr, fun x47 e47 => ?_⟩
            rw [inc e43, inc e47]
            exact ih (cc + 1) (rr + 1) (crs f sy (crs f sx p)) s2 (by omega) (by omega) (by omega) hl2.1 hl2.2 ((cs.trans a3).trans b3) b1 b2 hR
          have call : ∀ x : Int32, x = nI ((btw sx sy + p.2) % 4) → ∀ Q : Int32 → PS → Prop, (∀ v, v = nI (t (4 * p.1 + (btw sx sy + p.2) % 4)) → Q v s) → CX12_turnAt g d [.ref 179, .int 0, .int (4 * mi s 179 61 + x)] s Q := by
            intro x ex Q hQ
            rw [ex, e1, lit32 4, pk_mul, nI_add]
            refine Ct.imp (sp_turnAt12 hL2 hn hB2.2 hi hq) (fun r s1 q => ?_)
            obtain ⟨v, rfl, rfl, rfl⟩ := q
            rw [hT]
            exact ⟨_, rfl, hQ _ rfl⟩
          have hv4 : ∀ v : Int32, v = nI (t (4 * p.1 + (btw sx sy + p.2) % 4)) → (v = 4 ↔ t (4 * p.1 + (btw sx sy + p.2) % 4) = 4) := by
            intro v ev
            have := tl _ hq
            rw [ev, lit32 4, zEQ (by omega) (by omega)]
          have stop : ¬ t (4 * p.1 + (btw sx sy + p.2) % 4) = 4 → Ch chG noL σ s ∧ GoM n R 0 s := by
            intro h4
            rw [if_neg h4] at hR
            subst hR
            exact ⟨cs, rfl⟩
          have cond : (x33 = jrem (x31 + 1) 4) ↔ (sx = 1 ∧ sy = 2 ∨ sx = 3 ∧ sy = 0) := by
            rw [f31, f33, lit32 1, nI_add, lit32 4, zREM (by omega) (by omega) (by omega), zEQ (by omega) (by omega)]
            omega
          rw [cond]
          refine ⟨fun hq1 => call x33 ?_ _ (fun v ev => ⟨Fr.rf, fun h4 => ⟨fun _ => by omega, fun _ => goon s cs rfl ((hv4 v ev).mp h4)⟩, fun h4 => stop (fun q => h4 ((hv4 v ev).mpr q))⟩), fun hq1 => call x31 ?_ _ (fun v ev => ⟨Fr.rf, fun h4 => ⟨fun _ => by omega, fun _ => goon s cs rfl ((hv4 v ev).mp h4)⟩, fun h4 => stop (fun q => h4 ((hv4 v ev).mpr q))⟩)⟩
          · rw [f33]
            congr 2
            unfold btw
            split <;> omega
          · rw [f31]
            congr 2
            unfold btw
            split <;> omega
      have neg1 : ((-1 : Int32) = 0 ↔ False) ∧ ((-1 : Int32) < 0 ↔ True) ∧ ((0 : Int32) < -1 ↔ False) := by decide
      have pos1 : ((1 : Int32) = 0 ↔ False) ∧ ((1 : Int32) < 0 ↔ False) ∧ ((0 : Int32) < 1 ↔ True) := by decide
      have one : cc < w → (nI (rr + 1) ≤ nI h → VX12_leads g (d + 1) (fun v s => Ch chG noL σ s ∧ GoM n R v s) 117 [some (.ref 179), none, none, none, some (.int (nI w)), some (.int (nI h)), some (.int (nI sx)), some (.int (nI sy)), some (.int (nI (cc + 1))), some (.int (nI (rr + 1))), none, none, none] [.int ((((2 * nI (cc + 1)) - 1) * nI h) - (((2 * nI (rr + 1)) - 1) * nI w))] s) ∧ (¬ nI (rr + 1) ≤ nI h → VX12_leads g (d + 1) (fun v s => Ch chG noL σ s ∧ GoM n R v s) 117 [some (.ref 179), none, none, none, some (.int (nI w)), some (.int (nI h)), some (.int (nI sx)), some (.int (nI sy)), some (.int (nI (cc + 1))), some (.int (nI (rr + 1))), none, none, none] [.int (-1)] s) := by
        intro hcw
        rw [zLE (by omega) (by omega)]
        refine ⟨fun hr => ?_, fun hr => ?_⟩
        · rw [show (((2 : Int32) * nI (cc + 1)) - 1) * nI h - (((2 : Int32) * nI (rr + 1)) - 1) * nI w = nI ((2 * cc + 1) * h) - nI ((2 * rr + 1) * w) by
            rw [lit32 2, lit32 1, pk_mul, pk_mul, pk_sub (by omega), pk_sub (by omega), pk_mul, pk_mul, show 2 * (cc + 1) - 1 = 2 * cc + 1 by omega, show 2 * (rr + 1) - 1 = 2 * rr + 1 by omega]]
          exact body (Or.inl hcw) _ (by rw [zSB0 (by omega) (by omega)]) (by rw [zSBl (by omega) (by omega)]) (by rw [zSBg (by omega) (by omega)])
        · have := sgn_c (show rr = h by omega) hcw
          refine body (Or.inl hcw) _ (neg1.1.trans ?_) (neg1.2.1.trans ?_) (neg1.2.2.trans ?_)
          · exact ⟨False.elim, fun q => by omega⟩
          · exact ⟨fun _ => by omega, fun _ => trivial⟩
          · exact ⟨False.elim, fun q => by omega⟩
      refine vcX12_leads_62 hL2 _ _ _ _ _ _ ⟨fun hcw => ⟨fun _ => ?_, fun q => absurd hcw q⟩, fun hcw => ⟨fun hrh => ?_, fun hrh => ⟨fun q => absurd q hcw, fun _ => ?_⟩⟩⟩
      · rw [zLE (by omega) (by omega)] at hcw
        exact one (by omega)
      · rw [zLE (by omega) (by omega)] at hcw
        rw [zLT (by omega) (by omega)] at hrh
        rw [if_neg (by omega)] at hR
        subst hR
        exact ⟨cs, rfl, p1, p2, e1, e2⟩
      · rw [zLE (by omega) (by omega)] at hcw
        rw [zLT (by omega) (by omega)] at hrh
        have := sgn_c (show cc = w by omega) (show rr < h by omega)
        refine body (Or.inr (by omega)) _ (pos1.1.trans ?_) (pos1.2.1.trans ?_) (pos1.2.2.trans ?_)
        · exact ⟨False.elim, fun q => by omega⟩
        · exact ⟨False.elim, fun q => by omega⟩
        · exact ⟨fun _ => by omega, fun _ => trivial⟩
  have fin : ∀ (sx sy : Nat) (s3 s5 : PS), sx = (if kx < 12 then 3 else 1) → sy = (if ky < 12 then 0 else 2) → s3 = si σ 179 61 (nI c) → s5 = si s3 179 62 0 → VX12_leads g (d + 1) (fun v s => Ch chG noL σ s ∧ GoM n (wk f t (wd kx) (wd ky) (if kx < 12 then 3 else 1) (if ky < 12 then 0 else 2) (btw (if kx < 12 then 3 else 1) (if ky < 12 then 0 else 2)) 24 0 0 (c, 0)) v s) 62 [some (.ref 179), none, none, none, some (.int (nI (wd kx))), some (.int (nI (wd ky))), some (.int (nI sx)), some (.int (nI sy)), some (.int 1), some (.int 1), none, none, none] [] s5 := by
    intro sx sy s3 s5 e1 e2 e3 e5
    have cs : Ch chG noL σ s5 := by rw [e5, e3]; exact (Ch.rf.si (by simp [chG])).si (by simp [chG])
    exact key (wd kx) (wd ky) sx sy hwx hwy (by rw [e1]; split <;> omega) (by rw [e2]; split <;> omega) _ 24 0 0 (c, 0) s5 (by omega) (by omega) (by omega) hc (show 0 < 4 by decide) cs (by rw [e5, mi_si, if_neg (by omega), e3, mi_si, if_pos ⟨rfl, rfl⟩]) (by rw [e5, mi_si, if_pos ⟨rfl, rfl⟩]; rfl) (by rw [e1, e2])
  have b22 : VX12_leads g (d + 1) (fun v s => Ch chG noL σ s ∧ GoM n (wk f t (wd kx) (wd ky) (if kx < 12 then 3 else 1) (if ky < 12 then 0 else 2) (btw (if kx < 12 then 3 else 1) (if ky < 12 then 0 else 2)) 24 0 0 (c, 0)) v s) 22 [some (.ref 179), some (.int (nI c)), some (.int (dI kx)), some (.int (dI ky)), some (.int (nI (wd kx))), none, none, none, none, none, none, none, none] [.int (nI (wd ky))] σ := by
    refine vcX12_leads_22 hL _ _ _ _ _ ?_
    rw [cx, cy]
    refine ⟨fun h1 => ⟨fun h2 s3 e3 s5 e5 => ?_, fun h2 s3 e3 s5 e5 => ?_⟩, fun h1 => ⟨fun h2 s3 e3 s5 e5 => ?_, fun h2 s3 e3 s5 e5 => ?_⟩⟩
    · exact fin 1 2 s3 s5 (by rw [if_neg (by omega)]) (by rw [if_neg (by omega)]) e3 e5
    · exact fin 1 0 s3 s5 (by rw [if_neg (by omega)]) (by rw [if_pos (by omega)]) e3 e5
    · exact fin 3 2 s3 s5 (by rw [if_pos (by omega)]) (by rw [if_neg (by omega)]) e3 e5
    · exact fin 3 0 s3 s5 (by rw [if_pos (by omega)]) (by rw [if_pos (by omega)]) e3 e5
  refine vcX12_leads hL _ _ _ ?_
  rw [cx, cy]
  refine ⟨fun h1 => ⟨fun h2 => ?_, fun h2 => ?_⟩, fun h1 x1 e1 => ⟨fun h2 => ?_, fun h2 => ?_⟩⟩
  · have := b22
    rw [← ex h1, ← ey h2] at this
    exact this
  · have := b22
    rw [← ex h1, ← dy (by omega)] at this
    exact this
  · have := b22
    rw [← ey h2] at this
    rw [e1, dx (by omega)]
    exact this
  · rw [e1, dx (by omega), dy (by omega)]
    exact b22
