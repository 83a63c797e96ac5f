/-! ===== the class's figure ===== -/
theorem doF_cnt {rw' r2 : Nat → Nat} {K : Nat} {q : Int32 × Int32 × Int32 × Int32} (h : doF rw' K q = .inl r2) (hn : fN rw' ≤ 10) : fN r2 ≤ 10 := by
  unfold doF at h
  by_cases c1 : onB q.1 q.2.2.1 = true ∧ onB q.2.1 q.2.2.2 = true
  · rw [if_pos c1] at h
    by_cases c2 : K = 6
    · rw [if_pos c2] at h
      by_cases c3 : grd rw' (16 * q.2.1.toNatClampNeg + q.1.toNatClampNeg) = true
      · rw [if_pos c3] at h
        cases h
        refine Nat.le_trans (cnt_mono (fun i _ hi => ?_)) hn
        rw [grd_del, Bool.and_eq_true] at hi
        exact hi.1
      · rw [if_neg c3] at h; cases h
    · rw [if_neg c2] at h
      by_cases c3 : cnt (grd (rwPut rw' q.1.toNatClampNeg q.2.1.toNatClampNeg q.2.2.1.toNatClampNeg q.2.2.2.toNatClampNeg)) 256 ≤ 10
      · rw [if_pos c3] at h
        cases h
        exact c3
      · rw [if_neg c3] at h; cases h
  · rw [if_neg c1] at h; cases h
theorem eaF_cnt {L : List Nat} {T s j : Nat} {NM : Nat → Nat} {a : Int32} : ∀ (z k : Nat) (env : Nat → Int32) (rw' : Nat → Nat) (p : (Nat → Int32) × (Nat → Nat)), eaF L T NM s a j z k env rw' = .inl p → fN rw' ≤ 10 → fN p.2 ≤ 10 := by
  intro z
  induction z with
  | zero => intro k env rw' p h hn; cases h; exact hn
  | succ z ih =>
    intro k env rw' p h hn
    rw [eaF_s] at h
    cases e : stF L T NM (upE env s (a + nI k)) j with
    | inr e' => rw [e] at h; cases h
    | inl q =>
      rw [e] at h
      dsimp only at h
      cases e2 : doF rw' (tK L j) q.1 with
      | inr e' => rw [e2] at h; cases h
      | inl r2 =>
        rw [e2] at h
        exact ih _ _ _ _ h (doF_cnt e2 hn)
theorem st2_cnt {L : List Nat} {T i j : Nat} {NM rw' w : Nat → Nat} {env e : Nat → Int32} (h : st2 L T NM env rw' i = .inl (e, w, j)) (hn : fN rw' ≤ 10) : fN w ≤ 10 := by
  unfold st2 at h
  by_cases c7 : tK L i = 7
  · rw [if_pos c7] at h
    cases q : smL L T NM env (i + 2) with
    | inr e' => rw [q] at h; cases h
    | inl p => rw [q] at h; cases h; exact hn
  rw [if_neg c7] at h
  by_cases c8 : tK L i = 8
  · rw [if_pos c8] at h
    cases q : smL L T NM env (i + 2) with
    | inr e' => rw [q] at h; cases h
    | inl p =>
      obtain ⟨a, j1⟩ := p
      rw [q, bd2_l] at h
      cases q2 : smL L T NM env j1 with
      | inr e' => rw [q2] at h; cases h
      | inl p =>
        obtain ⟨b, j2⟩ := p
        rw [q2, bd2_l] at h
        cases q3 : stF L T NM env j2 with
        | inr e' => rw [q3] at h; cases h
        | inl p =>
          obtain ⟨z, j3⟩ := p
          rw [q3, bd42_l] at h
          by_cases d1 : turnsI a b ≤ 0
          · rw [if_pos d1] at h; cases h; exact hn
          rw [if_neg d1] at h
          by_cases d2 : 64 < turnsI a b
          · rw [if_pos d2] at h; cases h
          rw [if_neg d2] at h
          cases q4 : eaF L T NM (slE L T NM (i + 1)) a j2 (turnsI a b).toNat 0 env rw' with
          | inr e' => rw [q4] at h; cases h
          | inl p =>
            rw [q4] at h
            have := eaF_cnt _ _ _ _ _ q4 hn
            cases h
            exact this
  · rw [if_neg c8] at h
    cases q3 : stF L T NM env i with
    | inr e' => rw [q3] at h; cases h
    | inl p =>
      obtain ⟨z, j3⟩ := p
      rw [q3, bd42_l] at h
      cases q4 : doF rw' (tK L i) z with
      | inr e' => rw [q4] at h; cases h
      | inl r2 =>
        rw [q4] at h
        have := doF_cnt q4 hn
        cases h
        exact this
theorem p2_cnt {L : List Nat} {T : Nat} {NM : Nat → Nat} : ∀ (f : Nat) (env : Nat → Int32) (rw' w : Nat → Nat) (i : Nat), p2 L T NM f env rw' i = .inl w → fN rw' ≤ 10 → fN w ≤ 10 := by
  intro f
  induction f with
  | zero => intro env rw' w i h; cases h
  | succ f ih =>
    intro env rw' w i h hn
    rw [p2_s] at h
    by_cases hz : tK L i = 0
    · rw [if_pos hz] at h; cases h; exact hn
    rw [if_neg hz] at h
    cases q : st2 L T NM env rw' i with
    | inr e => rw [q] at h; cases h
    | inl p =>
      obtain ⟨e, r, j⟩ := p
      rw [q] at h
      exact ih e r w j h (st2_cnt q hn)
theorem n0_cnt : fN n0 = 0 := by
  have : ∀ k, cnt (grd n0) k = 0 := by
    intro k
    induction k with
    | zero => rfl
    | succ k ih => rw [cnt_s, ih, if_neg (by unfold grd; simp)]
  exact this 256
theorem rdF_cnt {L : List Nat} {w : Nat → Nat} (h : rdF L = .inl w) : fN w ≤ 10 := by
  unfold rdF at h
  cases q : p1 L (nt L + 1) 0 n0 0 with
  | inr e => rw [q] at h; cases h
  | inl p =>
    rw [q] at h
    exact p2_cnt _ _ _ _ _ h (by rw [n0_cnt]; omega)
/-- what figure answers, and the rows and EDGES that it takes, if it takes any -/
def FgA (L : List Nat) (v : Int32) (o : Option ((Nat → Nat) × Nat)) : Prop :=
  (∃ k j, rdF L = .inr (k, j) ∧ v = nI (k + 16 * tb L j) ∧ o = none) ∨ ∃ w E, rdF L = .inl w ∧ fN w ≤ 10 ∧ (0 < fN w → Per (fN w) (fX w) (fY w) E ∧ E ≤ opc (fN w) (fX w) (fY w)) ∧ ((¬ fgF (fN w) (fX w) (fY w) E = 0 ∧ v = nI (fgF (fN w) (fX w) (fY w) E + 16 * L.length) ∧ o = none) ∨ (fgF (fN w) (fX w) (fY w) E = 0 ∧ v = 0 ∧ o = some (w, E)))
theorem fgF_lt (n : Nat) (x y : Nat → Nat) (E : Nat) : fgF n x y E < 16 := by
  unfold fgF
  split
  · omega
  · split
    · split <;> omega
    · omega
/-- both sides answer alike -/
theorem FgA.uniq {L : List Nat} {v v' : Int32} {o o' : Option ((Nat → Nat) × Nat)} (h : FgA L v o) (h' : FgA L v' o') : v = v' ∧ (o = none ↔ o' = none) ∧ ∀ w E w' E', o = some (w, E) → o' = some (w', E') → w = w' ∧ E = E' := by
  rcases h with ⟨k, j, a1, a2, a3⟩ | ⟨w, E, a1, a2, a3, a4⟩
  · rcases h' with ⟨k', j', b1, b2, b3⟩ | ⟨w', E', b1, b2, b3, b4⟩
    · rw [a1] at b1
      cases b1
      subst a3 b3
      exact ⟨a2.trans b2.symm, Iff.rfl, fun _ _ _ _ q => (nomatch q)⟩
    · rw [a1] at b1; cases b1
  · rcases h' with ⟨k', j', b1, b2, b3⟩ | ⟨w', E', b1, b2, b3, b4⟩
    · rw [a1] at b1; cases b1
    · rw [a1] at b1
      cases b1
      have hf : fgF (fN w) (fX w) (fY w) E = fgF (fN w) (fX w) (fY w) E' ∧ (fgF (fN w) (fX w) (fY w) E = 0 → E = E') := by
        by_cases h0 : 0 < fN w
        · have := Per.uniq (a3 h0).1 (b3 h0).1
          exact ⟨by rw [this], fun _ => this⟩
        · have e : fN w = 0 := by omega
          unfold fgF
          rw [if_pos e, if_pos e]
          exact ⟨rfl, fun q => by omega⟩
      rcases a4 with ⟨c1, c2, rfl⟩ | ⟨c1, c2, rfl⟩
      · rcases b4 with ⟨d1, d2, rfl⟩ | ⟨d1, d2, rfl⟩
        · exact ⟨by rw [c2, d2, hf.1], Iff.rfl, fun _ _ _ _ q => (nomatch q)⟩
        · exact absurd (hf.1.trans d1) c1
      · rcases b4 with ⟨d1, d2, rfl⟩ | ⟨d1, d2, rfl⟩
        · exact absurd (hf.1.symm.trans c1) d1
        · exact ⟨by rw [c2, d2], ⟨fun q => (nomatch q), fun q => (nomatch q)⟩, fun w1 E1 w2 E2 q1 q2 => by cases q1; cases q2; exact ⟨rfl, hf.2 c1⟩⟩
abbrev chFg : Nat → Nat → Prop := fun a i => chRT a i ∨ a = 11 ∧ i = 1 ∨ chF 29 a i
abbrev chFgT : Nat → Nat → Prop := fun a i => chFg a i ∨ chTk a i
theorem sp_figure11 {g : GV} {d : Nat} {L : List Nat} {ρ : Nat → Nat} {σ : PS} (hS : HSg g) (hL : Lay σ) (hT : TC σ L) (hA : RowsA σ ρ) :
    CX11_figure g (d + 17) [.ref 10] σ (fun v s => ∃ o, FgA L v o ∧ TC s [] ∧ (o = none → Ch chFg chRTl (sq σ 16 4 (some 11)) s) ∧ ∀ w E, o = some (w, E) → GF w E ∧ CA s (fN w) (fX w) (fY w) E ρ (fun _ => nm) 0 0 ∧ RowsF s 21 w ∧ mi s 87 1 = 0 ∧ mi s 133 9 = 0 ∧ mi s 144 3 = -1 ∧ mi s 149 1 = 0 ∧ Ch chFgT chRTl (sq σ 16 4 (some 11)) s) := by
  have hl := hT.2.1
  have hLq : Lay (sq σ 16 4 (some 11)) := hL.sqT
  have hAq : RowsA (sq σ 16 4 (some 11)) ρ := ⟨fun i hi => ⟨by rw [mr_sq, if_neg (by omega)]; exact (hA.1 i hi).1, (hA.1 i hi).2⟩, hA.2⟩
  refine vcX11_figure hL (fun x1 e1 => ?_)
  rw [hT.1] at e1
  subst e1
  refine Ct.imp (sp_read (d := d) hS hL hT) (fun r s3 q => ?_)
  obtain ⟨v4, rfl, hr, c3⟩ := q
  have hL3 := c3.lay hLq
  refine ⟨_, rfl, ⟨c3.1.1, hL3⟩, fun s5 e5 => ?_⟩
  have c3' : Ch chFg chRTl (sq σ 16 4 (some 11)) s3 := c3.mono (fun a k h => Or.inl h) (fun _ _ h => h)
  have c5' : Ch chFg chRTl s3 s5 := by rw [e5]; exact (Ch.rf : Ch chFg chRTl s3 s3).si (Or.inr (Or.inl ⟨rfl, rfl⟩))
  have c5 := c3'.trans c5'
  have hL5 := c5.lay hLq
  have hT5 : TC s5 [] := ⟨by rw [e5, mi_si, if_pos ⟨rfl, rfl⟩]; rfl, by decide, fun i c h => by cases h⟩
  rcases hr with ⟨k, j, er, rfl, a1, a2, a3⟩ | ⟨w, er, rfl, hF⟩
  · have := tb_le L j
    have hb : ¬ nI (k + 16 * tb L j) = 0 := by rw [lit32 0, zEQ (by omega) (by omega)]; omega
    exact ⟨fun q => absurd q hb, fun _ => ⟨none, Or.inl ⟨k, j, er, rfl, rfl⟩, hT5, fun _ => c5, fun _ _ q => (nomatch q)⟩⟩
  · have hn := rdF_cnt er
    have hF5 : RowsF s5 17 w := fun r hr => ⟨by rw [e5, mi_si, if_neg (by omega)]; exact (hF r hr).1, (hF r hr).2⟩
    refine ⟨fun _ => ?_, fun q => absurd rfl q⟩
    refine Ct.imp (sp_lay (d := d + 14) (gr := grd w) hL5 isF29 (kd_17 hL5) (by omega) (by omega) hF5 (fun k _ => rfl) hn) (fun r s7 q => ?_)
    obtain ⟨v8, rfl, c7, ⟨E, hE, rfl, -⟩, -⟩ := q
    have c7' : Ch chFg chRTl s5 s7 := c7.mono (fun a k h => Or.inr (Or.inr h)) (fun _ _ h => h.elim)
    have d7 := c5.trans c7'
    have hL7 := d7.lay hLq
    have hT7 : TC s7 [] := hT5.ch c7 (by omega) (fun i => by omega)
    have hlt : fgF (cnt (grd w) 256) (gX (grd w)) (gY (grd w)) E < 16 := fgF_lt _ _ _ E
    refine ⟨_, rfl, c7.fr, ?_⟩
    rw [lit32 0, lit32 16, zEQ (by omega) (by omega), pk_mul, nI_add]
    refine ⟨fun h0 => ?_, fun h0 => ?_⟩
    · have hG := GF.of hn hE h0
      refine Ct.imp (sp_takeFigure (d := d + 13) hL7 (kd_17 hL7) (by omega) (by omega) (hF5.ch c7 (fun i => by omega)) hG (ρ := ρ) ?_) (fun r s9 q => ?_)
      · exact ⟨fun i hi => ⟨by rw [d7.1.2]; exact (hAq.1 i hi).1, (hAq.1 i hi).2⟩, hAq.2⟩
      · obtain ⟨rfl, b1, b2, b3, b4, b5, b6, c9⟩ := q
        refine ⟨rfl, c9.fr, some (w, E), Or.inr ⟨w, E, er, hn, hE, Or.inr ⟨h0, rfl, rfl⟩⟩, hT7.ch c9 (by omega) (fun i => by omega), fun q => (nomatch q), fun w' E' q => ?_⟩
        cases q
        refine ⟨hG, b1, b2, b3, b4, b5, b6, ?_⟩
        exact (d7.mono (fun a k h => Or.inl h) (fun _ _ h => h)).trans (c9.mono (fun a k h => Or.inr h) (fun _ _ h => h.elim))
    · exact ⟨none, Or.inr ⟨w, E, er, hn, hE, Or.inl ⟨h0, rfl, rfl⟩⟩, hT7, fun _ => d7, fun _ _ q => (nomatch q)⟩
