/-! ===== the reference's tells; one statement read ===== -/
theorem sp_tells {g : GV} {d told i : Nat} {L : List Nat} {nm : Nat → Nat} {σ : PS} (hL : Lay σ) (hN : RN σ L told nm) (hnn : nnF L told nm i = none) : CX12_tells g d [.ref 179, .int (nI (slD L told nm i)), .long (lN (tC L i))] σ (fun s => RN s L (tellT nm told (tC L i)) (tellN nm told (tC L i)) ∧ Ch (fun a i => a = 179 ∧ i = 20) (fun a _ => a = 189) σ s) := by
  obtain ⟨w1, w2, w3⟩ := nn_w hnn
  obtain ⟨r1, r2, r3⟩ := id hN
  have h8 := slD_lt r2 w3
  refine vcX12_tells hL _ _ ?_
  rw [zIN (by omega) (by omega), zCL (by omega)]
  refine ⟨h8, fun s2 e2 s4 e4 => ?_⟩
  have v2 : mi s2 179 20 = nI told := by rw [e2]; exact r1
  rw [v2, lit32 1, nI_add, zMAX (by omega) (by omega)] at e4
  have c4 : Ch (fun a i => a = 179 ∧ i = 20) (fun a _ => a = 189) σ s4 := by rw [e4, e2]; exact ((Ch.rf : Ch (fun a i => a = 179 ∧ i = 20) (fun a _ => a = 189) σ σ).sj rfl).si ⟨rfl, rfl⟩
  have m4 : ∀ k, ml s4 189 k = if k = slD L told nm i then lN (tC L i) else ml σ 189 k := by
    intro k
    rw [e4, ml_si, e2, ml_sj]
    by_cases q : k = slD L told nm i
    · rw [if_pos ⟨rfl, q⟩, if_pos q]
    · rw [if_neg (fun z => q z.2), if_neg q]
  refine ⟨?_, c4⟩
  cases h : slt nm told (tC L i) with
  | some z =>
    have hz : slD L told nm i = z := by unfold slD; rw [h]; rfl
    have hzt := slt_lt h
    rw [(tell_some h).1, (tell_some h).2]
    rw [hz] at m4 e4
    refine ⟨by rw [e4, mi_si, if_pos ⟨rfl, rfl⟩, Nat.max_eq_left (by omega)], r2, fun k hk => ⟨?_, (r3 k hk).2⟩⟩
    rw [m4]
    by_cases q : k = z
    · rw [if_pos q, q, hzt.2]
    · rw [if_neg q]; exact (r3 k hk).1
  | none =>
    have hz : slD L told nm i = told := by unfold slD; rw [h]; rfl
    rw [(tell_none h).1, (tell_none h).2]
    rw [hz] at m4 e4 h8
    refine ⟨by rw [e4, mi_si, if_pos ⟨rfl, rfl⟩, Nat.max_eq_right (by omega)], by omega, fun k hk => ?_⟩
    rw [m4]
    by_cases q : k = told
    · rw [if_pos q]
      dsimp only
      rw [if_pos q]
      exact ⟨rfl, tb L i, w2, rfl⟩
    · rw [if_neg q]
      dsimp only
      rw [if_neg q]
      exact r3 k (by omega)
theorem ms_next {g : GV} {d told c i n : Nat} {L : List Nat} {nm : Nat → Nat} {s : PS} (hM : MS s L told nm c i n) (hi : i < nt L) : CX12_nextToken g (d + 1) [.ref 179] s (fun s' => MS s' L told nm c (i + 1) n ∧ Ch chNT chNl s s') := by
  obtain ⟨m1, m2, m3, m4, m5, m6, m7, m8, m9⟩ := hM
  have hb := tb_ltn hi
  refine Ct.imp (sp_nextToken (d := d) m9 m2 (by rw [m1.2.1, if_pos hb]) (te_b hb).2) (fun r s' q => ?_)
  obtain ⟨rfl, a1, c7⟩ := q
  exact ⟨rfl, ⟨by rw [tb_s, if_pos hb]; exact a1, m2.ch c7 (by omega) (fun i => by omega), m3.ch c7 (by omega) (fun i => by omega), by rw [c7.i (by omega)]; exact m4, by omega, by omega, by rw [c7.i (by omega)]; exact m7, m8, c7.lay m9⟩, c7⟩
/-- a statement as the reference keeps it -/
def StR (s : PS) (L : List Nat) (told : Nat) (nm : Nat → Nat) (n i t : Nat) (N : Nat → Nat) (k C : Nat) : Prop :=
  (tK L i = 7 ∧ mi s 181 n = 3 ∧ mi s 184 n = -1 ∧ mi s 182 n = nI (slD L told nm (i + 1)) ∧ LineOK s L told nm (6 * n) (i + 2) k C) ∨
  (tK L i = 8 ∧ mi s 184 n = nI (slD L told nm (i + 1)) ∧ mi s 185 n = nI (tb L i) ∧ ∃ a b j1 j2, smL L told nm e0 (i + 2) = .inl (a, j1) ∧ smL L told nm e0 j1 = .inl (b, j2) ∧ LineOK s L told nm (6 * n + 4) (i + 2) j1 C ∧ LineOK s L told nm (6 * n + 5) j1 j2 C ∧ 4 ≤ tK L j2 ∧ tK L j2 ≤ 6 ∧ PlR s L t N n j2 C k) ∨
  (4 ≤ tK L i ∧ tK L i ≤ 6 ∧ mi s 184 n = -1 ∧ PlR s L told nm n i C k)
abbrev chSn (c n : Nat) : Nat → Nat → Prop := fun a i => a = 179 ∧ (4 ≤ i ∧ i ≤ 6 ∨ 8 ≤ i ∧ i ≤ 10 ∨ i = 20 ∨ i = 21) ∨ a = 188 ∧ c ≤ i ∨ (a = 186 ∨ a = 187) ∧ 6 * n ≤ i ∧ i ≤ 6 * n + 5 ∨ 181 ≤ a ∧ a ≤ 185 ∧ i = n
abbrev chSl : Nat → Nat → Prop := fun a i => a = 179 ∧ (i = 7 ∨ i = 32) ∨ a = 189
theorem LineOK.si {s : PS} {L : List Nat} {told l i j C a q : Nat} {nm : Nat → Nat} {v : Int32} (h : LineOK s L told nm l i j C) (ha : a < 186 ∨ 188 < a) : LineOK (si s a q v) L told nm l i j C := h.ch (Pm := fun x _ => x = a) (Pl := noL) (Ch.rf.si rfl) (by omega) (by omega) (fun _ _ => by omega)
/-- the ; and the next statement -/
theorem st_tail {g : GV} {d c n k t : Nat} {L : List Nat} {N : Nat → Nat} {s : PS} {P : Int32 → PS → Prop} (hc : ∀ i, lc L i < 127) (hM : MS s L t N c k n) (h200 : n + 1 < 200)
    (hgo : ∀ s', tK L k = 59 → MS s' L t N c (k + 1) (n + 1) → Ch (fun a i => a = 179 ∧ (4 ≤ i ∧ i ≤ 6 ∨ i = 8 ∨ i = 10)) chNl s s' → P 1 s')
    (hbad : ∀ s', ¬ tK L k = 59 → mi s' 179 9 = nI (1 + 16 * tb L k) → Ch (fun a i => a = 179 ∧ i = 9) noL s s' → P 0 s') :
    CX12_isSign g (d + 1) [.ref 179, .int 59] s (fun v s' => Fr s s' ∧ (¬ v = 0 → ∀ s2 : PS, s2 = si s' 179 10 ((mi s' 179 10) + 1) → CX12_nextToken g (d + 1) [.ref 179] s2 (fun s3 => Fr s2 s3 ∧ P 1 s3)) ∧ (v = 0 → CX12_fails g (d + 1) [.ref 179, .int 1] s' (fun v3 s3 => Fr s' s3 ∧ (v3 = 0 ∨ v3 = 1) ∧ P v3 s3))) := by
  have hM' := hM
  obtain ⟨m1, m2, m3, m4, m5, m6, m7, m8, m9⟩ := hM
  refine Ct.imp (sp_isSign (c := 59) m9 m2 m1 (by omega) (by omega)) (fun r s' q => ?_)
  obtain ⟨v, rfl, rfl, rfl⟩ := q
  refine ⟨_, rfl, Fr.rf, fun q s2 e2 => ?_, fun q => ?_⟩
  · have h59 : tK L k = 59 := Classical.byContradiction (fun z => q (if_neg z))
    have hlt := tK_N L k (by omega)
    rw [m7, inc rfl] at e2
    have c2 : Ch (fun a i => a = 179 ∧ i = 10) noL s' s2 := by rw [e2]; exact Ch.rf.si ⟨rfl, rfl⟩
    have M2 : MS s2 L t N c k (n + 1) := ⟨m1.ch c2 (fun i _ _ => by omega) id, m2.ch c2 (by omega) (fun i => by omega), m3.ch c2 (by omega) (fun i => id), by rw [c2.i (by omega)]; exact m4, m5, m6, by rw [e2, mi_si, if_pos ⟨rfl, rfl⟩], h200, c2.lay m9⟩
    refine Ct.imp (ms_next (d := d) M2 hlt) (fun r s3 q => ?_)
    obtain ⟨rfl, M3, c3⟩ := q
    exact ⟨rfl, c3.fr, hgo s3 h59 M3 ((c2.mono (fun a k h => by omega) (fun _ _ h => h.elim)).trans (c3.mono (fun a k h => by omega) (fun _ _ h => h)))⟩
  · have h59 : ¬ tK L k = 59 := fun z => by
      rw [if_pos z] at q
      exact absurd q (by decide)
    refine Ct.imp (sp_fails (k := 1) m9 m1) (fun r s3 q => ?_)
    obtain ⟨v, rfl, rfl, a1, c⟩ := q
    exact ⟨_, rfl, c.fr, Or.inl rfl, hbad s3 h59 a1 c⟩
