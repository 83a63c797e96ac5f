/-! ===== the reference's readsAll ===== -/
theorem tlen_3 {L : List Nat} {b : Nat} (h : 4 ≤ tk L b ∧ tk L b ≤ 8) : 3 ≤ tlen L b := by
  have hw := tk_word (L := L) (b := b) (by omega)
  rw [tk_w hw] at h
  refine Nat.lt_of_not_le (fun q => ?_)
  have a := vk_lt (m := 256) (o := 0) (L := L) (b := b) (by decide) (tlen L b) (fun j hj => by
    have := te_all hw.1 hw.2.1 j hj
    unfold ltr at this
    simp only [Bool.and_eq_true, decide_eq_true_eq] at this
    omega)
  have a2 : vk 256 0 L b (tlen L b) < 65536 := Nat.lt_of_lt_of_le a (Nat.le_trans (Nat.pow_le_pow_right (by decide) q) (by decide))
  revert h
  unfold kw
  repeat' split
  all_goals omega
theorem tb_up {L : List Nat} {i : Nat} : ∀ m, i + m ≤ nt L → tb L i + m ≤ tb L (i + m) := by
  intro m
  induction m with
  | zero => intro _; exact Nat.le_refl _
  | succ m ih =>
    intro h
    have h1 := ih (by omega)
    have h2 := tb_lt (tb_ltn (L := L) (t := i + m) (by omega))
    have e : i + (m + 1) = i + m + 1 := by omega
    rw [e]
    omega
/-- a statement has at least six signs -/
theorem st1_six {L : List Nat} {told i j t : Nat} {nm N : Nat → Nat} (hi : i ≤ nt L) (h : st1 L told nm i = .inl (t, N, j)) : tb L i + 6 ≤ tb L j := by
  have hj := st1_lt hi h
  obtain ⟨k, h1, h59, rfl⟩ := st1_inl h
  have hk : i + 3 ≤ k ∧ 4 ≤ tK L i ∧ tK L i ≤ 8 := by
    by_cases h7 : tK L i = 7
    · obtain ⟨q1, ⟨v, q2⟩, -, -⟩ := s1let h7 h1
      have := (nn_w q1).1
      have := sm_rng (by omega) q2
      omega
    by_cases h8 : tK L i = 8
    · obtain ⟨q1, -, -, a, b, j1, j2, q2, q3, q, q4⟩ := s1each h8 h1
      have := (nn_w q1).1
      have r1 := sm_rng (by omega) q2
      have r2 := sm_rng r1.2 q3
      have r3 := st_rng r2.2 q4
      omega
    · obtain ⟨-, -, q, q4⟩ := s1step h7 h8 h1
      unfold stF at q4
      by_cases c1 : ¬ (tK L i = 4 ∨ tK L i = 5 ∨ tK L i = 6)
      · rw [if_pos c1] at q4; cases q4
      rw [if_neg c1] at q4
      have hlt := tK_N L i (by omega)
      obtain ⟨u, k1, g1, g2⟩ := bd4_inl q4
      obtain ⟨u2, k2, g3, g4⟩ := bd4_inl g2
      have r1 := sm_rng (by omega) g1
      have r2 := sm_rng r1.2 g3
      by_cases c2 : tK L i = 5
      · rw [if_pos c2] at g4
        obtain ⟨u3, k3, g5, g6⟩ := bd4_inl g4
        obtain ⟨u4, k4, g7, g8⟩ := bd4_inl g6
        have r3 := sm_rng r2.2 g5
        have r4 := sm_rng r3.2 g7
        cases g8
        omega
      · rw [if_neg c2] at g4
        cases g4
        omega
  have hlt := tK_N L i (by omega)
  have hb := tb_ltn hlt
  have h3 : 3 ≤ tlen L (tb L i) := tlen_3 hk.2
  have h4 := tb_te hb
  have h5 := te_b hb
  unfold tlen at h3
  have h6 := tb_up (L := L) (i := i + 1) (k - i) (by omega)
  rw [show i + 1 + (k - i) = k + 1 by omega] at h6
  omega
/-- the statements one after another: names and place before number q -/
def itS (L : List Nat) : Nat → Nat × (Nat → Nat) × Nat
  | 0 => (0, n0, 0)
  | q + 1 => match st1 L (itS L q).1 (itS L q).2.1 (itS L q).2.2 with
    | .inl p => p
    | .inr _ => itS L q
theorem itS_s {L : List Nat} {q : Nat} {p : Nat × (Nat → Nat) × Nat} (h : st1 L (itS L q).1 (itS L q).2.1 (itS L q).2.2 = .inl p) : itS L (q + 1) = p := by
  show (match st1 L (itS L q).1 (itS L q).2.1 (itS L q).2.2 with | .inl p => p | .inr _ => itS L q) = p
  rw [h]
theorem StR.ch {s s' : PS} {L : List Nat} {told n i t k C D : Nat} {nm N : Nat → Nat} {Pm Pl : Nat → Nat → Prop} (h : StR s L told nm n i t N k C) (c : Ch Pm Pl s s') (h1 : ∀ a, 181 ≤ a → a ≤ 185 → ¬ Pm a n) (h2 : ∀ a l, a = 186 ∨ a = 187 → 6 * n ≤ l → l ≤ 6 * n + 5 → ¬ Pm a l) (h3 : ∀ q, q < C → ¬ Pm 188 q) (hD : C ≤ D) : StR s' L told nm n i t N k D := by
  have lk : ∀ l t' N' i' j', 6 * n ≤ l → l ≤ 6 * n + 5 → LineOK s L t' N' l i' j' C → LineOK s' L t' N' l i' j' D := fun l t' N' i' j' q1 q2 h => (h.ch c (h2 _ _ (Or.inl rfl) q1 q2) (h2 _ _ (Or.inr rfl) q1 q2) h3).le hD
  have pk : ∀ t' N' p j, PlR s L t' N' n p C j → PlR s' L t' N' n p D j := by
    intro t' N' p j ⟨p1, p2, j1, j2, u1, u2, p3, p4, p5, p6, p7⟩
    refine ⟨by rw [c.i (h1 _ (by omega) (by omega))]; exact p1, by rw [c.i (h1 _ (by omega) (by omega))]; exact p2, j1, j2, u1, u2, p3, p4, lk _ _ _ _ _ (by omega) (by omega) p5, lk _ _ _ _ _ (by omega) (by omega) p6, ?_⟩
    rcases p7 with p7 | ⟨p7, j3, u3, u4, p8, p9, p10, p11⟩
    · exact Or.inl p7
    · exact Or.inr ⟨p7, j3, u3, u4, p8, p9, lk _ _ _ _ _ (by omega) (by omega) p10, lk _ _ _ _ _ (by omega) (by omega) p11⟩
  rcases h with ⟨a1, a2, a3, a4, a5⟩ | ⟨a1, a2, a3, a, b, j1, j2, a4, a5, a6, a7, a8, a9, a10⟩ | ⟨a1, a2, a3, a4⟩
  · exact Or.inl ⟨a1, by rw [c.i (h1 _ (by omega) (by omega))]; exact a2, by rw [c.i (h1 _ (by omega) (by omega))]; exact a3, by rw [c.i (h1 _ (by omega) (by omega))]; exact a4, lk _ _ _ _ _ (by omega) (by omega) a5⟩
  · exact Or.inr (Or.inl ⟨a1, by rw [c.i (h1 _ (by omega) (by omega))]; exact a2, by rw [c.i (h1 _ (by omega) (by omega))]; exact a3, a, b, j1, j2, a4, a5, lk _ _ _ _ _ (by omega) (by omega) a6, lk _ _ _ _ _ (by omega) (by omega) a7, a8, a9, pk _ _ _ _ a10⟩)
  · exact Or.inr (Or.inr ⟨a1, a2, by rw [c.i (h1 _ (by omega) (by omega))]; exact a3, pk _ _ _ _ a4⟩)
/-- the statements kept so far -/
def Recs (s : PS) (L : List Nat) (C n : Nat) : Prop := ∀ q, q < n → st1 L (itS L q).1 (itS L q).2.1 (itS L q).2.2 = .inl (itS L (q + 1)) ∧ ∃ k, st1' L (itS L q).1 (itS L q).2.1 (itS L q).2.2 = .inl ((itS L (q + 1)).1, (itS L (q + 1)).2.1, k) ∧ (itS L (q + 1)).2.2 = k + 1 ∧ StR s L (itS L q).1 (itS L q).2.1 q (itS L q).2.2 (itS L (q + 1)).1 (itS L (q + 1)).2.1 k C
theorem tk_0 {L : List Nat} {b : Nat} : tk L b = 0 ↔ rt L b = 0 := by
  rw [rt_0]
  refine ⟨fun h => Nat.le_of_not_lt (fun hb => ?_), fun h => by unfold tk; rw [if_pos h]⟩
  have h2 : ¬ tk L b = 0 := by
    unfold tk
    rw [if_neg (by omega)]
    have := kw_rng (vk 256 0 L b (tlen L b))
    by_cases c2 : ltr (lc L b) = true
    · rw [if_pos c2]; split <;> omega
    · rw [if_neg c2]
      by_cases c3 : dgt (lc L b) = true
      · rw [if_pos c3]; split <;> omega
      · rw [if_neg c3]
        by_cases c4 : sgC (lc L b) = true
        · rw [if_pos c4]
          rw [sgC_is] at c4
          omega
        · rw [if_neg c4]; omega
  exact h2 h
abbrev chRA : Nat → Nat → Prop := fun a i => a = 179 ∧ (i = 1 ∨ 3 ≤ i ∧ i ≤ 6 ∨ 8 ≤ i ∧ i ≤ 10 ∨ i = 20 ∨ i = 21) ∨ 181 ≤ a ∧ a ≤ 188
abbrev chRS : Nat → Nat → Prop := fun a i => a = 179 ∧ (4 ≤ i ∧ i ≤ 6 ∨ 8 ≤ i ∧ i ≤ 10 ∨ i = 20 ∨ i = 21) ∨ 181 ≤ a ∧ a ≤ 188
theorem ra_loop {g : GV} {d : Nat} {L : List Nat} {P : Int32 → PS → Prop} (hc : ∀ i, lc L i < 127) : ∀ (f told i c n : Nat) (nm : Nat → Nat) (τ : PS), nt L - i + 1 ≤ f → MS τ L told nm c i n → itS L n = (told, nm, i) → Recs τ L c n → 6 * n ≤ tb L i →
    (∀ s T N m j C, p1 L f told nm i = .inl (T, N) → itS L m = (T, N, j) → tK L j = 0 → MS s L T N C j m → Recs s L C m → Ch chRS chSl τ s → P 1 s) →
    (∀ s e m, p1 L f told nm i = .inr (e, m) → mi s 179 9 = nI (e + 16 * tb L m) → Ch chRS chSl τ s → P 0 s) →
    VX12_readsAll g (d + 5) P 37 [some (.ref 179)] [] τ := by
  intro f
  induction f with
  | zero => intro told i c n nm τ h; omega
  | succ f ih =>
    intro told i c n nm τ hf hM hit hRec h6 hgo hbad
    have hi := hM.2.2.2.2.2.1
    have hl := hM.2.1.2.1
    have hr := rt_lt L (tb L i)
    have hle := tb_le L i
    rw [p1_s] at hgo hbad
    refine vcX12_readsAll_37 hM.2.2.2.2.2.2.2.2 ?_
    rw [hM.1.2.2.1, lit32 0, zEQ (by omega) (by omega)]
    refine ⟨fun h0 => ?_, fun h0 => ?_⟩
    · have hz : tK L i = 0 := tk_0.mpr h0
      rw [if_pos hz] at hgo
      exact hgo τ told nm n i c rfl hit hz hM hRec Ch.rf
    · have hz : ¬ tK L i = 0 := fun q => h0 (tk_0.mp q)
      rw [if_neg hz] at hgo hbad
      refine Ct.imp (sp_readsStep (d := d) hc hM (by omega)) (fun r s w => ?_)
      obtain ⟨v, rfl, hp, c1⟩ := w
      have c1' : Ch chRS chSl τ s := c1.mono (fun a k h => by omega) (fun _ _ h => h)
      refine ⟨_, rfl, c1.fr, ?_⟩
      rcases hp with ⟨t, N, k, C, e1, h59, rfl, M1, S1, hC⟩ | ⟨e, m, e1, rfl, a⟩
      · have es : st1 L told nm i = .inl (t, N, k + 1) := by
          rw [st1_is, e1]
          show semi L t N k = _
          unfold semi
          rw [if_pos h59]
        rw [es] at hgo hbad
        have hit2 : itS L (n + 1) = (t, N, k + 1) := itS_s (by rw [hit]; exact es)
        have h62 := st1_six hi es
        have hij := st1_lt hi es
        refine ⟨fun _ => ?_, fun q => absurd q (by decide)⟩
        refine ih t (k + 1) C (n + 1) N s (by omega) M1 hit2 (fun q hq => ?_) (by omega) (fun s' T N' m j C' h1 h2 h3 h4 h5 h7 => hgo s' T N' m j C' h1 h2 h3 h4 h5 (c1'.trans h7)) (fun s' e m h1 h2 h3 => hbad s' e m h1 h2 (c1'.trans h3))
        by_cases hqn : q = n
        · subst hqn
          rw [hit, hit2]
          exact ⟨es, k, e1, rfl, S1⟩
        · obtain ⟨a1, k', a2, a3, a4⟩ := hRec q (by omega)
          exact ⟨a1, k', a2, a3, a4.ch c1 (fun a _ _ => by omega) (fun a l _ _ _ => by omega) (fun q hq => by omega) hC⟩
      · rw [e1] at hbad
        exact ⟨fun q => absurd rfl q, fun _ => hbad s e m rfl a c1'⟩
