/-! ===== the reference's readsStep: its contract ===== -/
theorem Ch.sn {s s' : PS} {c c' n e : Nat} (h : Ch (chRE c' (6 * n + e)) chNl s s') (hc : c ≤ c') (he : e ≤ 5) : Ch (chSn c n) chSl s s' := h.mono (fun a k q => by omega) (fun _ _ q => Or.inl ⟨q.1, Or.inl q.2⟩)
theorem nn_no {L : List Nat} {told i : Nat} {nm : Nat → Nat} {k : Nat} (h7 : tK L i = 7 ∨ tK L i = 8) (h : nnF L told nm (i + 1) = some k) : st1' L told nm i = .inr (k, i + 1) := by
  unfold st1'
  rcases h7 with h7 | h8
  · rw [if_pos h7]; unfold letF; rw [h]; rfl
  · rw [if_neg (by omega), if_pos h8]; unfold eaH; rw [h]; rfl
def SsP (L : List Nat) (told : Nat) (nm : Nat → Nat) (c i n : Nat) (v : Int32) (s : PS) : Prop :=
  (∃ t N k C, st1' L told nm i = .inl (t, N, k) ∧ tK L k = 59 ∧ v = 1 ∧ MS s L t N C (k + 1) (n + 1) ∧ StR s L told nm n i t N k C ∧ c ≤ C) ∨ ∃ e m, st1 L told nm i = .inr (e, m) ∧ v = 0 ∧ mi s 179 9 = nI (e + 16 * tb L m)
theorem st1_r {L : List Nat} {told i : Nat} {nm : Nat → Nat} {e : Nat × Nat} (h : st1' L told nm i = .inr e) : st1 L told nm i = .inr e := by rw [st1_is, h]; rfl
theorem st1_n {L : List Nat} {told i t k : Nat} {nm N : Nat → Nat} (h : st1' L told nm i = .inl (t, N, k)) (h59 : ¬ tK L k = 59) : st1 L told nm i = .inr (1, k) := by
  rw [st1_is, h]
  show semi L t N k = _
  unfold semi
  rw [if_neg h59]
theorem sp_readsStep {g : GV} {d told c i n : Nat} {L : List Nat} {nm : Nat → Nat} {τ : PS} (hc : ∀ i, lc L i < 127) (hM : MS τ L told nm c i n) (h200 : n + 1 < 200) :
    CX12_readsStep g (d + 4) [.ref 179] τ (fun v s => SsP L told nm c i n v s ∧ Ch (chSn c n) chSl τ s) := by
  have hM' := hM
  obtain ⟨m1, m2, m3, m4, m5, m6, m7, m8, m9⟩ := hM
  have hk1000 : tK L i < 1000 := tk_lt (σ := τ) hc (tb L i)
  generalize hP : (fun (v : Int32) (s : PS) => SsP L told nm c i n v s ∧ Ch (chSn c n) chSl τ s) = P
  have bad : ∀ (s : PS) (e m : Nat), st1 L told nm i = .inr (e, m) → mi s 179 9 = nI (e + 16 * tb L m) → Ch (chSn c n) chSl τ s → P 0 s := fun s e m er a c => by rw [← hP]; exact ⟨Or.inr ⟨e, m, er, rfl, a⟩, c⟩
  refine vcX12_readsStep m9 (Ct.imp (sp_kindAt (d := d + 2) m9 m1) (fun r s w => ?_))
  obtain ⟨v2, rfl, hk, rfl⟩ := w
  refine ⟨_, rfl, Fr.rf, ?_⟩
  have e3 : tk L (tb L i) = tK L i := rfl
  rw [e3] at hk
  rcases hk with ⟨k1, k2, rfl⟩ | ⟨k1, rfl⟩
  rotate_left
  · refine ⟨fun q => absurd q (by decide), fun _ => ?_⟩
    refine Ct.imp (sp_fails (k := 1) m9 m1) (fun r s3 w => ?_)
    obtain ⟨v, rfl, rfl, a1, c3⟩ := w
    refine ⟨_, rfl, c3.fr, Or.inl rfl, bad s3 1 i (st1_r ?_) a1 (c3.mono (fun a k h => by omega) (fun _ _ h => h.elim))⟩
    unfold st1'
    rw [if_neg (by omega), if_neg (by omega), stF_bad (by omega)]
    rfl
  have hlt := tK_N L i (by omega)
  refine ⟨fun _ => ?_, fun q => ?_⟩
  rotate_left
  · rw [lit32 0, zLE (by omega) (by omega)] at q
    omega
  rw [m7, zIN (by omega) (by omega), zCL (by omega)]
  refine ⟨m8, fun s4 e4 => ?_⟩
  have v4 : mi s4 179 10 = nI n := by rw [e4, mi_si, if_neg (by omega)]; exact m7
  rw [v4, zIN (by omega) (by omega), zCL (by omega)]
  refine ⟨m8, fun s7 e7 => ?_⟩
  have M7 : MS s7 L told nm c i n := by rw [e7, e4]; exact (hM'.set (by omega)).set (by omega)
  have c7 : Ch (fun a q => (a = 184 ∨ a = 182) ∧ q = n) noL s s7 := by rw [e7, e4]; exact (Ch.rf.si ⟨Or.inl rfl, rfl⟩).si ⟨Or.inr rfl, rfl⟩
  have x7 : mi s7 184 n = -1 := by rw [e7, mi_si, if_neg (by omega), e4, mi_si, if_pos ⟨rfl, rfl⟩]
  have f7 : Ch (chSn c n) chSl s s7 := c7.mono (fun a k h => by omega) (fun _ _ h => h.elim)
  have kk : ∀ m : Nat, m < 9 → 4 ≤ m → (nI (tK L i - 4) = nI (m - 4)) = (tK L i = m) := fun m hm hm4 => by rw [zEQ (by omega) (by omega)]; exact propext ⟨fun h => by omega, fun h => by omega⟩
  have k3 : (nI (tK L i - 4) = 3) = (tK L i = 7) := kk 7 (by omega) (by omega)
  have k4 : (nI (tK L i - 4) = 4) = (tK L i = 8) := kk 8 (by omega) (by omega)
  have kle : (3 ≤ nI (tK L i - 4)) = (7 ≤ tK L i) := by rw [lit32 3, zLE (by omega) (by omega)]; exact propext ⟨fun h => by omega, fun h => by omega⟩
  rw [kle, k3, k4]
  refine ⟨fun h7 x9 e9 => ?_, fun h7 => ?_⟩
  · have hx9 : x9 = nI (tb L i) := by rw [e9]; exact M7.1.1
    subst hx9
    refine Ct.imp (ms_next (d := d + 2) M7 hlt) (fun r s11 w => ?_)
    obtain ⟨rfl, M11, c11⟩ := w
    have f11 : Ch (chSn c n) chSl s s11 := f7.trans (c11.mono (fun a k h => by omega) (fun _ _ h => Or.inl ⟨h.1, Or.inl h.2⟩))
    refine ⟨rfl, c11.fr, ?_⟩
    refine Ct.imp (sp_needsName (d := d + 1) M11.2.2.2.2.2.2.2.2 M11.2.1 M11.2.2.1 M11.2.2.2.2.2.1 M11.1) (fun r s13 w => ?_)
    obtain ⟨v14, rfl, hp, c13⟩ := w
    have f13 : Ch (chSn c n) chSl s s13 := f11.trans (c13.mono (fun a k h => by omega) (fun _ _ h => Or.inl h))
    refine ⟨_, rfl, c13.fr, ?_⟩
    rcases hp with ⟨hnn, rfl, r13, hi1, w13⟩ | ⟨k, hnn, rfl, a⟩
    rotate_left
    · exact ⟨fun q => absurd q (by decide), fun _ => bad s13 k (i + 1) (st1_r (nn_no (by omega) hnn)) a f13⟩
    have h8 := slD_lt m3.2.1 (nn_w hnn).2.2
    have M13 : MS s13 L told nm c (i + 2) n := by
      obtain ⟨n1, n2, n3, n4, n5, n6, n7, n8, n9⟩ := M11
      exact ⟨r13, n2.ch c13 (by omega) (fun i => by omega), n3.ch c13 (by omega) (fun i => by omega), by rw [c13.i (by omega)]; exact n4, by omega, by omega, by rw [c13.i (by omega)]; exact n7, n8, c13.lay n9⟩
    refine ⟨fun _ x15 e15 => ?_, fun q => ?_⟩
    rotate_left
    · rw [lit32 0, zLE (by omega) (by omega)] at q
      omega
    have hx15 : x15 = lN (tC L (i + 1)) := by rw [e15]; exact w13
    subst hx15
    refine ⟨fun n7 => ?_, fun h7' => ?_⟩
    · have h8' : tK L i = 8 := by omega
      have hs1 : st1' L told nm i = bd4S (eaH L told nm e0 i) (fun j2 => bd4S (stF L (tellT nm told (tC L (i + 1))) (tellN nm told (tC L (i + 1))) e0 j2) (fun j3 => .inl (tellT nm told (tC L (i + 1)), tellN nm told (tC L (i + 1)), j3))) := by unfold st1'; rw [if_neg n7, if_pos h8']
      rw [eaH_n hnn] at hs1
      refine Ct.imp (pl_E (d := d + 1) (e := 4) hc M13 (by omega)) (fun r s17 w => ?_)
      obtain ⟨v18, rfl, hp, c17⟩ := w
      have f17 := f13.trans (c17.sn (c := c) (by omega) (by omega))
      refine ⟨_, rfl, c17.fr, ?_⟩
      rcases hp with ⟨ua, j1, er1, rfl, M17, L17, i1⟩ | ⟨k, m, er1, rfl, b1⟩
      rotate_left
      · rw [er1, bd4_r, bd4S_r] at hs1
        exact ⟨fun q => absurd rfl q, fun _ => bad s17 k m (st1_r hs1) b1 f17⟩
      rw [er1, bd4_l] at hs1
      refine ⟨fun _ => ⟨fun q => absurd h8' q, fun _ => ?_⟩, fun q => absurd q (by decide)⟩
      refine Ct.imp (pl_E (d := d + 1) (e := 5) hc M17 (by omega)) (fun r s19 w => ?_)
      obtain ⟨v20, rfl, hp, c19⟩ := w
      have f19 := f17.trans (c19.sn (c := c) (by omega) (by omega))
      refine ⟨_, rfl, c19.fr, ?_⟩
      rcases hp with ⟨ub, j2, er2, rfl, M19, L19, i2⟩ | ⟨k, m, er2, rfl, b1⟩
      rotate_left
      · rw [er2, bd4_r, bd4S_r] at hs1
        exact ⟨fun q => absurd rfl q, fun _ => bad s19 k m (st1_r hs1) b1 f19⟩
      rw [er2, bd4_l, bd4S_l] at hs1
      refine ⟨fun _ => ?_, fun q => absurd q (by decide)⟩
      have L17' : LineOK s19 L told nm (6 * n + 4) (i + 2) j1 (c + (j1 - (i + 2)) + (j2 - j1)) := (L17.ch c19 (by omega) (by omega) (fun q hq => by omega)).le (by omega)
      have e8 : nI (tK L i - 4) = nI 4 := by rw [h8']
      rw [e8]
      refine m126_each (d := d) hc M19 hnn h200 (fun s' w j C er h59 g1 g2 M' p' hC y1 y2 y3 c' => ?_) (fun s' e m her a c' => ?_)
      · rw [er, bd4S_l] at hs1
        rw [← hP]
        exact ⟨Or.inl ⟨_, _, j, C, hs1, h59, rfl, M', Or.inr (Or.inl ⟨h8', y1, y2, ua, ub, j1, j2, er1, er2, y3 _ _ _ (Or.inl rfl) L17', y3 _ _ _ (Or.inr rfl) L19, g1, g2, p'⟩), by omega⟩, f19.trans (c'.mono (fun a k h => by omega) (fun _ _ h => h))⟩
      · have fe : Ch (chSn c n) chSl s s' := f19.trans (c'.mono (fun a k h => by omega) (fun _ _ h => h))
        rcases her with her | ⟨w, her, h59, rfl⟩
        · rw [her, bd4S_r] at hs1
          exact bad s' e m (st1_r hs1) a fe
        · rw [her, bd4S_l] at hs1
          exact bad s' 1 m (st1_n hs1 h59) a fe
    · have hs1 : st1' L told nm i = bdS (letF L told nm e0 i) (fun j => .inl (tellT nm told (tC L (i + 1)), tellN nm told (tC L (i + 1)), j)) := by unfold st1'; rw [if_pos h7']
      have hlf : letF L told nm e0 i = smL L told nm e0 (i + 2) := by unfold letF; rw [hnn]
      rw [hlf] at hs1
      refine Ct.imp (pl_E (d := d + 1) (e := 0) hc M13 (by omega)) (fun r s17 w => ?_)
      obtain ⟨v18, rfl, hp, c17⟩ := w
      have f17 := f13.trans (c17.sn (c := c) (by omega) (by omega))
      refine ⟨_, rfl, c17.fr, ?_⟩
      rcases hp with ⟨ua, j1, er1, rfl, M17, L17, i1⟩ | ⟨k, m, er1, rfl, b1⟩
      rotate_left
      · rw [er1, bdS_r] at hs1
        exact ⟨fun q => absurd rfl q, fun _ => bad s17 k m (st1_r hs1) b1 f17⟩
      rw [er1, bdS_l] at hs1
      refine ⟨fun _ => ⟨fun _ => ?_, fun q => absurd q (by omega)⟩, fun q => absurd q (by decide)⟩
      have e8 : nI (tK L i - 4) = nI 3 := by rw [h7']
      rw [e8]
      have x17 : mi s17 184 n = -1 := by rw [c17.i (by omega), c13.i (by omega), c11.i (by omega)]; exact x7
      refine m126_let (d := d + 2) hc M17 hnn h200 (fun s' h59 M' y1 y2 c' => ?_) (fun s' h59 a c' => ?_)
      · rw [← hP]
        exact ⟨Or.inl ⟨_, _, j1, _, hs1, h59, rfl, M', Or.inl ⟨h7', y1, by rw [c'.i (by omega)]; exact x17, y2, L17.ch c' (by omega) (by omega) (fun q hq => by omega)⟩, by omega⟩, f17.trans (c'.mono (fun a k h => by omega) (fun _ _ h => h))⟩
      · exact bad s' 1 j1 (st1_n hs1 h59) a (f17.trans (c'.mono (fun a k h => by omega) (fun _ _ h => h)))
  · have hs1 : st1' L told nm i = bd4S (stF L told nm e0 i) (fun j => .inl (told, nm, j)) := by unfold st1'; rw [if_neg (by omega), if_neg (by omega)]
    refine Ct.imp (sp_readsPlain (d := d) hc M7 (by omega)) (fun r s25 w => ?_)
    obtain ⟨v, rfl, hp, c25⟩ := w
    have f25 : Ch (chSn c n) chSl s s25 := f7.trans (c25.mono (fun a k h => by omega) (fun _ _ h => Or.inl ⟨h.1, Or.inl h.2⟩))
    refine ⟨_, rfl, c25.fr, ?_⟩
    rcases hp with ⟨w, j, C, er, rfl, M25, p25, hC, hj⟩ | ⟨e, m, er, rfl, a⟩
    rotate_left
    · rw [er, bd4S_r] at hs1
      exact ⟨fun q => absurd rfl q, fun _ => bad s25 e m (st1_r hs1) a f25⟩
    rw [er, bd4S_l] at hs1
    refine ⟨fun _ => ?_, fun q => absurd q (by decide)⟩
    have y1 : mi s25 184 n = -1 := by rw [c25.i (by omega)]; exact x7
    refine st_tail (d := d + 2) hc M25 h200 (fun s' h59 M' c' => ?_) (fun s' h59 a c' => ?_)
    · have kp : ∀ l t' N' i' j', LineOK s25 L t' N' l i' j' C → LineOK s' L t' N' l i' j' C := fun l t' N' i' j' h => h.ch c' (by omega) (by omega) (fun q hq => by omega)
      rw [← hP]
      refine ⟨Or.inl ⟨_, _, j, C, hs1, h59, rfl, M', Or.inr (Or.inr ⟨k1, by omega, by rw [c'.i (by omega)]; exact y1, ?_⟩), hC⟩, f25.trans (c'.mono (fun a k h => by omega) (fun _ _ h => Or.inl ⟨h.1, Or.inl h.2⟩))⟩
      obtain ⟨p1, p2, j1, j2, u1, u2, p3, p4, p5, p6, p7⟩ := p25
      refine ⟨by rw [c'.i (by omega)]; exact p1, by rw [c'.i (by omega)]; exact p2, j1, j2, u1, u2, p3, p4, kp _ _ _ _ _ p5, kp _ _ _ _ _ p6, ?_⟩
      rcases p7 with p7 | ⟨p7, j3, u3, u4, p8, p9, p10, p11⟩
      · exact Or.inl p7
      · exact Or.inr ⟨p7, j3, u3, u4, p8, p9, kp _ _ _ _ _ p10, kp _ _ _ _ _ p11⟩
    · exact bad s' 1 j (st1_n hs1 h59) a (f25.trans (c'.mono (fun a k h => by omega) (fun _ _ h => h.elim)))
