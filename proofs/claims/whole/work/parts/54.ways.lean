/-! ===== the class's Ways: one way ===== -/
abbrev chW : Nat → Nat → Prop := fun a k => a = 144 ∧ (k = 1 ∨ k = 2)
theorem isB129 : isB 129 := by unfold isB; decide
theorem sp_cross {g : GV} {d n c tu s : Nat} {f : Nat → Nat} {σ : PS} (hL : Lay σ) (hB : BD σ 129 n f) (h1 : mi σ 144 1 = nI c) (h2 : mi σ 144 2 = nI tu) (hc : c < n) (ht : tu < 4) (hs : s < 4) :
    CX10_cross g d [.ref 144, .int (nI s)] σ (fun t => mi t 144 1 = nI (crs f s (c, tu)).1 ∧ mi t 144 2 = nI (crs f s (c, tu)).2 ∧ Ch chW noL σ t) := by
  obtain ⟨b0, hn, hb⟩ := hB
  obtain ⟨q1, q2, q3⟩ := hb (4 * c + (s + tu) % 4) (by omega)
  refine vcX10_cross hL _ (fun x1 e1 => ?_)
  have e1' : x1 = nI (4 * c + (s + tu) % 4) := by
    rw [e1, h1, h2, nI_add, lit32 4, zREM (by omega) (by omega) (by omega), pk_mul, nI_add, Nat.mul_comm]
  rw [e1']
  simp (disch := omega) only [zIN, zCL, show mi σ 130 _ = _ from q2]
  refine ⟨by omega, fun s4 e4 => ⟨by omega, fun s7 e7 => ?_⟩⟩
  have f1 : mi s4 131 (4 * c + (s + tu) % 4) = nI (f (4 * c + (s + tu) % 4) % 4) := by rw [e4, mi_si, if_neg (by omega)]; exact q3
  rw [f1, lit32 6, nI_add, pk_sub (by omega), lit32 4, zREM (by omega) (by omega) (by omega)] at e7
  refine ⟨?_, ?_, ?_⟩
  · rw [e7, mi_si, if_neg (by omega), e4, mi_si, if_pos ⟨rfl, rfl⟩]; rfl
  · rw [e7, mi_si, if_pos ⟨rfl, rfl⟩]; rfl
  · rw [e7, e4]; exact (Ch.rf.si (by simp [chW])).si (by simp [chW])
theorem crs_lt {f : Nat → Nat} {n s c tu : Nat} (hb : ∀ q, q < 4 * n → f q < 4 * n) (hc : c < n) : (crs f s (c, tu)).1 < n ∧ (crs f s (c, tu)).2 < 4 := by
  have := hb (4 * c + (s + tu) % 4) (by omega)
  unfold crs
  exact ⟨by simp only; omega, by simp only; omega⟩
def GoR (n : Nat) (R : Option (Nat × Nat)) (v : Int32) (s : PS) : Prop := match R with
  | none => v = 0
  | some p => v = 1 ∧ p.1 < n ∧ p.2 < 4 ∧ mi s 144 1 = nI p.1 ∧ mi s 144 2 = nI p.2
theorem sp_go {g : GV} {d n c kx ky : Nat} {f t : Nat → Nat} {σ : PS} (hL : Lay σ) (hB : BD σ 129 n f) (hT : ∀ q, q < 4 * n → mi σ 132 q = nI (t q) ∧ t q < 1000) (hc : c < n) (hx : kx < 25) (hy : ky < 25) :
    CX10_go g (d + 1) [.ref 144, .int (nI c), .int (dI kx), .int (dI ky)] σ (fun v s => Ch chW noL σ s ∧ GoR n (way' f t c kx ky) v s) := by
  have hn := hB.2.1
  have hwx := wd_le hx
  have hwy := wd_le hy
  rw [way_cls]
  obtain ⟨ax, bx, -⟩ := dI_facts kx hx
  obtain ⟨ay, by', -⟩ := dI_facts ky hy
  have hsx : (if 12 < kx then 1 else 3) < 4 := by split <;> omega
  have hsy : (if 12 < ky then 2 else 0) < 4 := by split <;> omega
  have hbt : btw (if 12 < kx then 1 else 3) (if 12 < ky then 2 else 0) < 4 := by unfold btw; split <;> split <;> omega
  have key : ∀ (sx sy bt w h : Nat), w ≤ 12 → h ≤ 12 → sx < 4 → sy < 4 → bt < 4 → ∀ (R : Option (Nat × Nat)) (k z cc rr : Nat) (p : Nat × Nat) (s : PS), k + z = 24 → (w - cc) + (h - rr) ≤ k → cc ≤ w → rr ≤ h → p.1 < n → p.2 < 4 → Ch chW noL σ s → mi s 144 1 = nI p.1 → mi s 144 2 = nI p.2 → wk f t w h sx sy bt k cc rr p = R →
      VX10_go g (d + 1) (fun v s => Ch chW noL σ s ∧ GoR n (R) v s) 74 [some (.ref 144), none, none, none, some (.int (nI w)), some (.int (nI h)), some (.int (nI sx)), some (.int (nI sy)), some (.int (nI bt)), some (.int (nI cc)), some (.int (nI rr)), some (.int (nI z)), none] [] s := by
    intro sx sy bt w h hw hh h1 h2 h3 R k
    induction k with
    | zero =>
      intro z cc rr p s hz hle hcc hrr p1 p2 cs e1 e2 hR
      have e : z = 24 := by omega
      subst e
      have hR2 : R = some p := hR.symm
      subst hR2
      refine vcX10_go_74 (cs.lay hL) _ _ _ _ _ _ _ _ ⟨fun _ => ⟨cs, rfl, p1, p2, e1, e2⟩, fun hcz => absurd (show (24 : Int32) ≤ nI 24 by decide) hcz⟩
    | succ k ih =>
      intro z cc rr p s hz hle hcc hrr p1 p2 cs e1 e2 hR
      have hL2 := cs.lay hL
      have hB2 : BD s 129 n f := hB.ch cs (by simp [chW]) (fun i => by simp [chW]) (fun i => by simp [chW])
      have mul1 : (2 * cc + 1) * h ≤ 25 * 12 := Nat.mul_le_mul (by omega) hh
      have mul2 : (2 * rr + 1) * w ≤ 25 * 12 := Nat.mul_le_mul (by omega) hw
      unfold wk at hR
      have body : cc < w ∨ rr < h → VX10_go g (d + 1) (fun v s => Ch chW noL σ s ∧ GoR n (R) v s) 95 [some (.ref 144), none, none, none, some (.int (nI w)), some (.int (nI h)), some (.int (nI sx)), some (.int (nI sy)), some (.int (nI bt)), some (.int (nI cc)), some (.int (nI rr)), some (.int (nI z)), none] [] s := by
        intro hor
        rw [if_pos hor] at hR
        obtain ⟨g1, g2, g3⟩ := sgn hcc hrr hor
        refine vcX10_go_95 hL2 _ _ _ _ _ _ _ _ (fun x29 e29 => ?_)
        have ex : x29 = nI ((2 * cc + 1) * h) - nI ((2 * rr + 1) * w) := by
          rw [e29, lit32 2, lit32 1, pk_mul, pk_mul, nI_add, nI_add, pk_mul, pk_mul]
        rw [ex, zSB0 (by omega) (by omega), zSBn (by omega) (by omega)]
        refine ⟨fun hne => ⟨fun hge => ?_, fun hlt => ?_⟩, fun heq => ?_⟩
        · rw [if_neg hne, if_neg (by omega)] at hR
          have hrh := g3 (by omega)
          refine Ct.imp (sp_cross hL2 hB2 e1 e2 p1 p2 h2) (fun r s1 q => ?_)
          obtain ⟨rfl, a1, a2, a3⟩ := q
          have hl := crs_lt (s := sy) (tu := p.2) (fun q hq => (hB.2.2 q hq).1) p1
          refine ⟨rfl, a3.fr, fun x33 e33 x35 e35 => ?_⟩
          rw [inc e33, inc e35]
          exact ih (z + 1) cc (rr + 1) (crs f sy p) s1 (by omega) (by omega) hcc (by omega) hl.1 hl.2 (cs.trans a3) a1 a2 hR
        · rw [if_neg hne, if_pos (by omega)] at hR
          have hcw := g2 (by omega)
          refine Ct.imp (sp_cross hL2 hB2 e1 e2 p1 p2 h1) (fun r s1 q => ?_)
          obtain ⟨rfl, a1, a2, a3⟩ := q
          have hl := crs_lt (s := sx) (tu := p.2) (fun q hq => (hB.2.2 q hq).1) p1
          refine ⟨rfl, a3.fr, fun x33 e33 x35 e35 => ?_⟩
          rw [inc e33, inc e35]
          exact ih (z + 1) (cc + 1) rr (crs f sx p) s1 (by omega) (by omega) (by omega) hrr hl.1 hl.2 (cs.trans a3) a1 a2 hR
        · rw [if_pos heq] at hR
          obtain ⟨hcw, hrh⟩ := g1 heq
          have em : mi s 144 1 * 4 + jrem (nI bt + mi s 144 2) 4 = nI (4 * p.1 + (bt + p.2) % 4) := by
            rw [e1, e2, nI_add, lit32 4, zREM (by omega) (by omega) (by omega), pk_mul, nI_add, Nat.mul_comm]
          have ht1 := hT (4 * p.1 + (bt + p.2) % 4) (by omega)
          have ht2 : mi s 132 (4 * p.1 + (bt + p.2) % 4) = nI (t (4 * p.1 + (bt + p.2) % 4)) := by rw [cs.i (by simp [chW])]; exact ht1.1
          rw [em]
          simp (disch := omega) only [zIN, zCL, ht2]
          rw [lit32 4, zEQ (by omega) (by omega)]
          refine ⟨by omega, fun h4 => ?_, fun h4 => ?_⟩
          · rw [if_pos h4] at hR
            refine Ct.imp (sp_cross hL2 hB2 e1 e2 p1 p2 h1) (fun r s1 q => ?_)
            obtain ⟨rfl, a1, a2, a3⟩ := q
            have hl := crs_lt (s := sx) (tu := p.2) (fun q hq => (hB.2.2 q hq).1) p1
            have hB3 : BD s1 129 n f := hB2.ch a3 (by simp [chW]) (fun i => by simp [chW]) (fun i => by simp [chW])
            refine ⟨rfl, a3.fr, Ct.imp (sp_cross (a3.lay hL2) hB3 a1 a2 hl.1 hl.2 h2) (fun r s2 q => ?_)⟩
            obtain ⟨rfl, b1, b2, b3⟩ := q
            have hl2 := crs_lt (s := sy) (tu := (crs f sx p).2) (fun q hq => (hB.2.2 q hq).1) hl.1
            refine ⟨rfl, b3.fr, fun x33 e33 x35 e35 x37 e37 => ?_⟩
            rw [inc e33, inc e35, inc e37]
            exact ih (z + 1) (cc + 1) (rr + 1) (crs f sy (crs f sx p)) s2 (by omega) (by omega) (by omega) (by omega) hl2.1 hl2.2 ((cs.trans a3).trans b3) b1 b2 hR
          · rw [if_neg h4] at hR
            subst hR
            exact ⟨cs, rfl⟩
      refine vcX10_go_74 hL2 _ _ _ _ _ _ _ _ ⟨fun hc24 => ?_, fun _ => ⟨fun hlt => ?_, fun hge => ⟨fun hge2 => ?_, fun hlt2 => ?_⟩⟩⟩
      · rw [lit32 24, zLE (by omega) (by omega)] at hc24
        omega
      · rw [zLT (by omega) (by omega)] at hlt
        exact body (Or.inl hlt)
      · rw [zLT (by omega) (by omega)] at hge
        rw [zLE (by omega) (by omega)] at hge2
        rw [if_neg (by omega)] at hR
        subst hR
        exact ⟨cs, rfl, p1, p2, e1, e2⟩
      · rw [zLE (by omega) (by omega)] at hlt2
        exact body (Or.inr (by omega))
  have fin : ∀ (sx sy bt : Nat) (s : PS), sx = (if 12 < kx then 1 else 3) → sy = (if 12 < ky then 2 else 0) → bt = btw (if 12 < kx then 1 else 3) (if 12 < ky then 2 else 0) → s = si (si σ 144 1 (nI c)) 144 2 0 → VX10_go g (d + 1) (fun v s => Ch chW noL σ s ∧ GoR n (wk f t (wd kx) (wd ky) (if 12 < kx then 1 else 3) (if 12 < ky then 2 else 0) (btw (if 12 < kx then 1 else 3) (if 12 < ky then 2 else 0)) 24 0 0 (c, 0)) v s) 74 [some (.ref 144), none, none, none, some (.int (nI (wd kx))), some (.int (nI (wd ky))), some (.int (nI sx)), some (.int (nI sy)), some (.int (nI bt)), some (.int 0), some (.int 0), some (.int 0), none] [] s := by
    intro sx sy bt s e1 e2 e3 es
    have cs : Ch chW noL σ s := by rw [es]; exact (Ch.rf.si (by simp [chW])).si (by simp [chW])
    exact key sx sy bt _ _ hwx hwy (by omega) (by omega) (by omega) _ 24 0 0 0 (c, 0) s rfl (by omega) (by omega) (by omega) hc (show 0 < 4 by decide) cs (by rw [es, mi_si, if_neg (by omega), mi_si, if_pos ⟨rfl, rfl⟩]) (by rw [es, mi_si, if_pos ⟨rfl, rfl⟩]; rfl) (by rw [e1, e2, e3])
  have b21 : ∀ (sx : Nat), sx = (if 12 < kx then 1 else 3) → VX10_go g (d + 1) (fun v s => Ch chW noL σ s ∧ GoR n (wk f t (wd kx) (wd ky) (if 12 < kx then 1 else 3) (if 12 < ky then 2 else 0) (btw (if 12 < kx then 1 else 3) (if 12 < ky then 2 else 0)) 24 0 0 (c, 0)) v s) 21 [some (.ref 144), some (.int (nI c)), none, some (.int (dI ky)), some (.int (nI (wd kx))), some (.int (nI (wd ky))), none, none, none, none, none, none, none] [.int (nI sx)] σ := by
    intro sx esx
    have h13 : sx = 1 ∨ sx = 3 := by rw [esx]; split <;> omega
    refine vcX10_go_21 hL _ _ _ _ _ ?_
    rw [by']
    refine ⟨fun hle => ⟨fun hs x5 e5 s7 e7 s9 e9 => ?_, fun hs x5 e5 s7 e7 s9 e9 => ?_⟩, fun hgt => ⟨fun hs x5 e5 s7 e7 s9 e9 => ?_, fun hs x5 e5 s7 e7 s9 e9 => ?_⟩⟩
    · have e3 : sx = 3 := h13.elim (fun q => absurd (by rw [q]; decide) hs) id
      have := fin sx 0 3 s9 esx (by rw [if_neg (by omega)]) (by rw [← esx, e3, if_neg (by omega)]; rfl) (by rw [e9, e7])
      rw [e5]
      exact this
    · have e1 : sx = 1 := h13.elim id (fun q => by rw [q] at hs; exact absurd hs (by decide))
      have := fin sx 0 0 s9 esx (by rw [if_neg (by omega)]) (by rw [← esx, e1, if_neg (by omega)]; rfl) (by rw [e9, e7])
      rw [e5]
      exact this
    · have e3 : sx = 3 := h13.elim (fun q => absurd (by rw [q]; decide) hs) id
      have := fin sx 2 2 s9 esx (by rw [if_pos (by omega)]) (by rw [← esx, e3, if_pos (by omega)]; rfl) (by rw [e9, e7])
      rw [e5]
      exact this
    · have e1 : sx = 1 := h13.elim id (fun q => by rw [q] at hs; exact absurd hs (by decide))
      have := fin sx 2 1 s9 esx (by rw [if_pos (by omega)]) (by rw [← esx, e1, if_pos (by omega)]; rfl) (by rw [e9, e7])
      rw [e5]
      exact this
  refine vcX10_go hL _ _ _ (fun x1 e1 x3 e3 => ?_)
  rw [e1, e3, ax, ay, bx]
  exact ⟨fun hle => b21 3 (by rw [if_neg (by omega)]), fun hgt => b21 1 (by rw [if_pos (by omega)])⟩
