/-! ===== the reference's readsStep ===== -/
theorem MS.set {s : PS} {L : List Nat} {told c i n a q : Nat} {nm : Nat → Nat} {v : Int32} (h : MS s L told nm c i n) (ha : 181 ≤ a ∧ a ≤ 185) : MS (si s a q v) L told nm c i n := by
  obtain ⟨m1, m2, m3, m4, m5, m6, m7, m8, m9⟩ := h
  have c2 : Ch (fun x _ => x = a) noL s (si s a q v) := Ch.rf.si rfl
  exact ⟨m1.ch c2 (fun i _ _ => by omega) id, m2.ch c2 (by omega) (fun i => by omega), m3.ch c2 (by omega) (fun i => id), by rw [c2.i (by omega)]; exact m4, m5, m6, by rw [c2.i (by omega)]; exact m7, m8, c2.lay m9⟩
theorem MS.tell {s s' : PS} {L : List Nat} {told c i n t : Nat} {nm N : Nat → Nat} (h : MS s L told nm c i n) (hN : RN s' L t N) (c2 : Ch (fun a i => a = 179 ∧ i = 20) (fun a _ => a = 189) s s') : MS s' L t N c i n := by
  obtain ⟨m1, m2, m3, m4, m5, m6, m7, m8, m9⟩ := h
  exact ⟨m1.ch c2 (fun i _ _ => by omega) (by omega), m2.ch c2 (by omega) (fun i => by omega), hN, by rw [c2.i (by omega)]; exact m4, m5, m6, by rw [c2.i (by omega)]; exact m7, m8, c2.lay m9⟩
theorem m126_let {g : GV} {d told c i k n : Nat} {L : List Nat} {nm : Nat → Nat} {l2 : Int32} {s : PS} {P : Int32 → PS → Prop} (hc : ∀ i, lc L i < 127) (hM : MS s L told nm c k n) (hnn : nnF L told nm (i + 1) = none) (h200 : n + 1 < 200)
    (hgo : ∀ s', tK L k = 59 → MS s' L (tellT nm told (tC L (i + 1))) (tellN nm told (tC L (i + 1))) c (k + 1) (n + 1) → mi s' 181 n = 3 → mi s' 182 n = nI (slD L told nm (i + 1)) → Ch (fun a q => a = 179 ∧ (4 ≤ q ∧ q ≤ 6 ∨ q = 8 ∨ q = 10 ∨ q = 20) ∨ (a = 181 ∨ a = 182) ∧ q = n) chSl s s' → P 1 s')
    (hbad : ∀ s', ¬ tK L k = 59 → mi s' 179 9 = nI (1 + 16 * tb L k) → Ch (chSn c n) chSl s s' → P 0 s') :
    VX12_readsStep g (d + 2) P 126 [some (.ref 179), some (.int (nI 3)), some (.int l2), some (.int (nI (slD L told nm (i + 1)))), some (.long (lN (tC L (i + 1)))), none, none] [] s := by
  have hM' := hM
  obtain ⟨m1, m2, m3, m4, m5, m6, m7, m8, m9⟩ := hM
  refine vcX12_readsStep_126 m9 _ _ _ _ (Ct.imp (sp_tells m9 m3 hnn) (fun r s39 q => ?_))
  obtain ⟨rfl, hN, c39⟩ := q
  have M39 := hM'.tell hN c39
  refine ⟨rfl, c39.fr, fun q => absurd rfl q, fun _ => ?_⟩
  have v39 : mi s39 179 10 = nI n := M39.2.2.2.2.2.2.1
  rw [v39, zIN (by omega) (by omega), zCL (by omega)]
  refine ⟨m8, fun s67 e67 => ?_⟩
  have v67 : mi s67 179 10 = nI n := by rw [e67, mi_si, if_neg (by omega)]; exact v39
  rw [v67, zIN (by omega) (by omega), zCL (by omega)]
  refine ⟨m8, fun s70 e70 => ?_⟩
  have M70 : MS s70 L (tellT nm told (tC L (i + 1))) (tellN nm told (tC L (i + 1))) c k n := by rw [e70, e67]; exact (M39.set (by omega)).set (by omega)
  have c70 : Ch (fun a q => (a = 181 ∨ a = 182) ∧ q = n) noL s39 s70 := by rw [e70, e67]; exact (Ch.rf.si ⟨Or.inl rfl, rfl⟩).si ⟨Or.inr rfl, rfl⟩
  have x1 : mi s70 181 n = 3 := by rw [e70, mi_si, if_neg (by omega), e67, mi_si, if_pos ⟨rfl, rfl⟩]
  have x2 : mi s70 182 n = nI (slD L told nm (i + 1)) := by rw [e70, mi_si, if_pos ⟨rfl, rfl⟩]
  have f70 : Ch (fun a q => a = 179 ∧ (4 ≤ q ∧ q ≤ 6 ∨ q = 8 ∨ q = 10 ∨ q = 20) ∨ (a = 181 ∨ a = 182) ∧ q = n) chSl s s70 := (c39.mono (fun a k h => by omega) (fun _ _ h => Or.inr h)).trans (c70.mono (fun a k h => by omega) (fun _ _ h => h.elim))
  refine st_tail (d := d) hc M70 h200 (fun s' h59 M' c' => ?_) (fun s' h59 a c' => ?_)
  · refine hgo s' h59 M' (by rw [c'.i (by omega)]; exact x1) (by rw [c'.i (by omega)]; exact x2) (f70.trans (c'.mono (fun a k h => by omega) (fun _ _ h => Or.inl ⟨h.1, Or.inl h.2⟩)))
  · exact hbad s' h59 a ((f70.mono (fun a k h => by omega) (fun _ _ h => h)).trans (c'.mono (fun a k h => by omega) (fun _ _ h => h.elim)))
theorem stF_bad {L : List Nat} {told p : Nat} {nm : Nat → Nat} {env : Nat → Int32} (h : ¬ (4 ≤ tK L p ∧ tK L p ≤ 6)) : stF L told nm env p = .inr (1, p) := by
  unfold stF
  rw [if_pos (by omega)]
theorem m126_each {g : GV} {d told c i k n : Nat} {L : List Nat} {nm : Nat → Nat} {b : Nat} {s : PS} {P : Int32 → PS → Prop} (hc : ∀ i, lc L i < 127) (hM : MS s L told nm c k n) (hnn : nnF L told nm (i + 1) = none) (h200 : n + 1 < 200)
    (hgo : ∀ s' q j C, stF L (tellT nm told (tC L (i + 1))) (tellN nm told (tC L (i + 1))) e0 k = .inl (q, j) → tK L j = 59 → 4 ≤ tK L k → tK L k ≤ 6 → MS s' L (tellT nm told (tC L (i + 1))) (tellN nm told (tC L (i + 1))) C (j + 1) (n + 1) → PlR s' L (tellT nm told (tC L (i + 1))) (tellN nm told (tC L (i + 1))) n k C j → c ≤ C → mi s' 184 n = nI (slD L told nm (i + 1)) → mi s' 185 n = nI b → (∀ l i' j', (l = 6 * n + 4 ∨ l = 6 * n + 5) → LineOK s L told nm l i' j' c → LineOK s' L told nm l i' j' C) → Ch (chSn c n) chSl s s' → P 1 s')
    (hbad : ∀ s' e m, ((stF L (tellT nm told (tC L (i + 1))) (tellN nm told (tC L (i + 1))) e0 k = .inr (e, m)) ∨ ∃ q, stF L (tellT nm told (tC L (i + 1))) (tellN nm told (tC L (i + 1))) e0 k = .inl (q, m) ∧ ¬ tK L m = 59 ∧ e = 1) → mi s' 179 9 = nI (e + 16 * tb L m) → Ch (chSn c n) chSl s s' → P 0 s') :
    VX12_readsStep g (d + 4) P 126 [some (.ref 179), some (.int (nI 4)), some (.int (nI b)), some (.int (nI (slD L told nm (i + 1)))), some (.long (lN (tC L (i + 1)))), none, none] [] s := by
  have hM' := hM
  obtain ⟨m1, m2, m3, m4, m5, m6, m7, m8, m9⟩ := hM
  have hk1000 : tK L k < 1000 := tk_lt (σ := s) hc (tb L k)
  refine vcX12_readsStep_126 m9 _ _ _ _ (Ct.imp (sp_tells m9 m3 hnn) (fun r s39 q => ?_))
  obtain ⟨rfl, hN, c39⟩ := q
  have M39 := hM'.tell hN c39
  refine ⟨rfl, c39.fr, fun _ => ?_, fun q => absurd q (by decide)⟩
  have v39 : mi s39 179 10 = nI n := M39.2.2.2.2.2.2.1
  rw [v39, zIN (by omega) (by omega), zCL (by omega)]
  refine ⟨m8, fun s42 e42 => ?_⟩
  have v42 : mi s42 179 10 = nI n := by rw [e42, mi_si, if_neg (by omega)]; exact v39
  rw [v42, zIN (by omega) (by omega), zCL (by omega)]
  refine ⟨m8, fun s45 e45 => ?_⟩
  have M45 : MS s45 L (tellT nm told (tC L (i + 1))) (tellN nm told (tC L (i + 1))) c k n := by rw [e45, e42]; exact (M39.set (by omega)).set (by omega)
  have c45 : Ch (fun a q => (a = 184 ∨ a = 185) ∧ q = n) noL s39 s45 := by rw [e45, e42]; exact (Ch.rf.si ⟨Or.inl rfl, rfl⟩).si ⟨Or.inr rfl, rfl⟩
  have x1 : mi s45 184 n = nI (slD L told nm (i + 1)) := by rw [e45, mi_si, if_neg (by omega), e42, mi_si, if_pos ⟨rfl, rfl⟩]
  have x2 : mi s45 185 n = nI b := by rw [e45, mi_si, if_pos ⟨rfl, rfl⟩]
  have f45 : Ch (fun a q => a = 179 ∧ q = 20 ∨ (a = 184 ∨ a = 185) ∧ q = n) chSl s s45 := (c39.mono (fun a k h => Or.inl h) (fun _ _ h => Or.inr h)).trans (c45.mono (fun a k h => Or.inr h) (fun _ _ h => h.elim))
  have g45 : Ch (chSn c n) chSl s s45 := f45.mono (fun a k h => by omega) (fun _ _ h => h)
  have fl : ∀ s' , Ch (fun a i => a = 179 ∧ i = 9) noL s45 s' → Ch (chSn c n) chSl s s' := fun s' c' => g45.trans (c'.mono (fun a k h => by omega) (fun _ _ h => h.elim))
  refine Ct.imp (sp_kindAt (d := d + 2) M45.2.2.2.2.2.2.2.2 M45.1) (fun r s47 q => ?_)
  obtain ⟨v48, rfl, hk, rfl⟩ := q
  refine ⟨_, rfl, Fr.rf, ?_⟩
  have e3 : tk L (tb L k) = tK L k := rfl
  rw [e3] at hk
  rcases hk with ⟨k1, k2, rfl⟩ | ⟨k1, rfl⟩
  · rw [lit32 0, lit32 2, zLT (by omega) (by omega), zLE (by omega) (by omega)]
    refine ⟨fun q => by omega, fun _ => ⟨fun q => ?_, fun q => ?_⟩⟩
    · refine Ct.imp (sp_readsPlain (d := d) hc M45 (by omega)) (fun r s52 w => ?_)
      obtain ⟨v, rfl, hp, c52⟩ := w
      have g52 : Ch (chSn c n) chSl s s52 := g45.trans (c52.mono (fun a k h => by omega) (fun _ _ h => Or.inl ⟨h.1, Or.inl h.2⟩))
      refine ⟨_, rfl, c52.fr, ?_⟩
      rcases hp with ⟨w, j, C, er, rfl, M52, p52, hC, hj⟩ | ⟨e, m, er, rfl, a⟩
      · refine ⟨fun _ => ?_, fun q => absurd q (by decide)⟩
        have y1 : mi s52 184 n = nI (slD L told nm (i + 1)) := by rw [c52.i (by omega)]; exact x1
        have y2 : mi s52 185 n = nI b := by rw [c52.i (by omega)]; exact x2
        refine st_tail (d := d + 2) hc M52 h200 (fun s' h59 M' c' => ?_) (fun s' h59 a c' => ?_)
        · have kp : ∀ l t' N' i' j', LineOK s52 L t' N' l i' j' C → LineOK s' L t' N' l i' j' C := fun l t' N' i' j' h => h.ch c' (by omega) (by omega) (fun q hq => by omega)
          refine hgo s' w j C er h59 k1 (by omega) M' ?_ hC (by rw [c'.i (by omega)]; exact y1) (by rw [c'.i (by omega)]; exact y2) (fun l i' j' hl h => ?_) (g52.trans (c'.mono (fun a k h => by omega) (fun _ _ h => Or.inl ⟨h.1, Or.inl h.2⟩)))
          · obtain ⟨p1, p2, j1, j2, u1, u2, p3, p4, p5, p6, p7⟩ := p52
            refine ⟨by rw [c'.i (by omega)]; exact p1, by rw [c'.i (by omega)]; exact p2, j1, j2, u1, u2, p3, p4, kp _ _ _ _ _ p5, kp _ _ _ _ _ p6, ?_⟩
            rcases p7 with p7 | ⟨p7, j3, u3, u4, p8, p9, p10, p11⟩
            · exact Or.inl p7
            · exact Or.inr ⟨p7, j3, u3, u4, p8, p9, kp _ _ _ _ _ p10, kp _ _ _ _ _ p11⟩
          · have h1 : LineOK s47 L told nm l i' j' c := h.ch f45 (by omega) (by omega) (fun q hq => by omega)
            exact kp _ _ _ _ _ ((h1.ch c52 (by omega) (by omega) (fun q hq => by omega)).le hC)
        · exact hbad s' 1 j (Or.inr ⟨w, er, h59, rfl⟩) a (g52.trans (c'.mono (fun a k h => by omega) (fun _ _ h => h.elim)))
      · exact ⟨fun q => absurd rfl q, fun _ => hbad s52 e m (Or.inl er) a g52⟩
    · refine Ct.imp (sp_fails (k := 1) M45.2.2.2.2.2.2.2.2 M45.1) (fun r s3 w => ?_)
      obtain ⟨v, rfl, rfl, a1, c3⟩ := w
      exact ⟨_, rfl, c3.fr, Or.inl rfl, hbad s3 1 k (Or.inl (stF_bad (by omega))) a1 (fl _ c3)⟩
  · refine ⟨fun _ => ?_, fun q => absurd (by decide) q⟩
    refine Ct.imp (sp_fails (k := 1) M45.2.2.2.2.2.2.2.2 M45.1) (fun r s3 w => ?_)
    obtain ⟨v, rfl, rfl, a1, c3⟩ := w
    exact ⟨_, rfl, c3.fr, Or.inl rfl, hbad s3 1 k (Or.inl (stF_bad (by omega))) a1 (fl _ c3)⟩
