/-! ===== glue of the class again: what else it leaves alone ===== -/
def K78 (σ s : PS) : Prop := ∀ a i, 87 ≤ a → a ≤ 88 → mi s a i = mi σ a i
theorem sp_glue11b {g : GV} {d n E at' last : Nat} {x y : Nat → Nat} {ρ : Nat → Nat} {S : Nat → Mat} {a b : Int32} {σ : PS} (hL : Lay σ) (hV : VF n x y E) (hC : CA σ n x y E ρ S at' last) (hal : at' ≤ last) (hl : last ≤ 40) (hG : GoodS E (qt n x y E) S last) :
    CX11_glue g (d + 3) [.ref 10, .int a, .int b] σ (fun v s => (ChG σ s ∧ K78 σ s) ∧ RfP E (qt n x y E) (S at') a b v ∧ (¬ v = 0 → CA s n x y E ρ S at' last ∧ Ch (fun a _ => 84 ≤ a ∧ a ≤ 86) noL σ s) ∧ (v = 0 → mi s 144 3 = -1 ∧ mi s 149 1 = 0 ∧ ∃ i j ρ', i < E ∧ j < E ∧ i ≠ j ∧ a = nI i ∧ b = nI j ∧ Inv E (setp (S at') i j) ∧ A4 E (cl E (setp (S at') i j) E) (qt n x y E) ∧ CA s n x y E ρ' (newS S at' (setp (S at') i j)) (shD at') (shD at'))) := by
  have hE : E ≤ 22 := hV.2.2.2.2.2.2
  obtain ⟨c1, c2, c3, c4, c5, c6, c7, c8⟩ := id hC
  obtain ⟨gI, g4⟩ := hG at' hal
  have hml : ∀ e k, S at' e = some k → k < 22 := fun e k h => by have := (gI e k h).2.1; omega
  have hmE : ∀ e k, S at' e = some k → k < E := fun e k h => (gI e k h).2.1
  have gh0 : ChG σ σ := ChG.of hL Ch.rf
  have none1 : ∀ v, ¬ v = 0 → RfP E (qt n x y E) (S at') a b v → (ChG σ σ ∧ K78 σ σ) ∧ RfP E (qt n x y E) (S at') a b v ∧ (¬ v = 0 → CA σ n x y E ρ S at' last ∧ Ch (fun a _ => 84 ≤ a ∧ a ≤ 86) noL σ σ) ∧ (v = 0 → mi σ 144 3 = -1 ∧ mi σ 149 1 = 0 ∧ ∃ i j ρ', i < E ∧ j < E ∧ i ≠ j ∧ a = nI i ∧ b = nI j ∧ Inv E (setp (S at') i j) ∧ A4 E (cl E (setp (S at') i j) E) (qt n x y E) ∧ CA σ n x y E ρ' (newS S at' (setp (S at') i j)) (shD at') (shD at')) :=
    fun v h0 h => ⟨⟨gh0, fun _ _ _ _ => rfl⟩, h, fun _ => ⟨hC, Ch.rf⟩, fun z => absurd z h0⟩
  have d1 : ¬ (1 : Int32) = 0 := by decide
  refine vcX11_glue hL _ _ (Ct.imp (sp_hasEdge hL isF20 c1.2.1 a) (fun r s1 w => ?_))
  obtain ⟨v, rfl, hv, rfl⟩ := w
  rw [inN_if] at hv
  refine ⟨_, rfl, Fr.rf, fun h => ?_, fun h => ?_⟩
  · rw [i01 hv] at h
    exact none1 1 d1 (Or.inr ⟨fun i j hi _ _ ea _ => h ((inN_is (by omega)).mpr ⟨i, hi, ea⟩), rfl⟩)
  rw [i01 hv, Classical.not_not, inN_is (by omega)] at h
  obtain ⟨i, hi, rfl⟩ := h
  refine Ct.imp (sp_hasEdge hL isF20 c1.2.1 b) (fun r s1 w => ?_)
  obtain ⟨v2, rfl, hv2, rfl⟩ := w
  rw [inN_if] at hv2
  refine ⟨_, rfl, Fr.rf, fun h => ?_, fun h => ?_⟩
  · rw [i01 hv2] at h
    exact none1 1 d1 (Or.inr ⟨fun i j _ hj _ _ eb => h ((inN_is (by omega)).mpr ⟨j, hj, eb⟩), rfl⟩)
  rw [i01 hv2, Classical.not_not, inN_is (by omega)] at h
  obtain ⟨j, hj, rfl⟩ := h
  rw [zEQ (by omega) (by omega)]
  refine ⟨fun hij => ?_, fun hij => none1 1 d1 (Or.inr ⟨fun i' j' h1 h2 h3 e1 e2 => h3 (by
    rw [zEQ (by omega) (by omega)] at e1 e2
    omega), rfl⟩)⟩
  obtain ⟨r1, r2, r3⟩ := c2.1 at' (by omega)
  refine Ct.imp (sp_mates hL c3 (by omega) r1) (fun r s1 w => ?_)
  obtain ⟨v3, rfl, rfl, rfl⟩ := w
  refine ⟨_, rfl, Fr.rf, 22, kdRow hL r2 r3, ?_⟩
  have hMr := c5 at' hal
  simp (disch := omega) only [zIN, zCL, hMr i (by omega), hMr j (by omega), zMIN, zMAX]
  rw [oI_m1 (o := S at' i) (n := 22) (hml i) (by omega), oI_m1 (o := S at' j) (n := 22) (hml j) (by omega)]
  have ans : ∀ v, v = nI (rfn E (qt n x y E) (S at') i j) → RfP E (qt n x y E) (S at') (nI i) (nI j) v := fun v e => Or.inl ⟨i, j, hi, hj, hij, rfl, rfl, e⟩
  have d2 : ¬ (2 : Int32) = 0 := by decide
  refine ⟨by omega, fun h => none1 2 d2 (ans 2 (by unfold rfn; rw [if_pos (Or.inl h)]; rfl)), fun hmi => ⟨by omega, fun hmj => ?_, fun h => none1 2 d2 (ans 2 (by unfold rfn; rw [if_pos (Or.inr h)]; rfl))⟩⟩
  · have no2 : ¬ (S at' i ≠ none ∨ S at' j ≠ none) := fun h => h.elim (fun h => h hmi) (fun h => h hmj)
    refine Ct.imp (sp_crosses11 hL (kdRow hL r2 r3) (by omega) (by omega) hMr hml (show min i j < 22 by omega) (show max i j < 22 by omega)) (fun r s1 w => ?_)
    obtain ⟨v4, rfl, hv4, rfl⟩ := w
    refine ⟨_, rfl, Fr.rf, fun hx => ?_, fun hx => ?_⟩
    · rw [i01 hv4] at hx
      rw [parSub i (by omega) j (by omega)]
      refine ⟨fun hodd => ?_, fun heven => none1 4 (by decide) (ans 4 ?_)⟩
      · refine Ct.imp (sp_copy hL isC84 isC81 (by omega) c6) (fun r s2 w => ?_)
        obtain ⟨rfl, hC2, k2⟩ := w
        have hL2 := k2.lay hL
        have hok := cq_ok hmE (fun i _ => qt_le n x y E i) g4 E (Nat.le_refl _)
        have hPc := Prt.cl hmE E (Nat.le_refl _)
        refine ⟨rfl, k2.fr, Ct.imp (sp_pair (d := d + 1) hL2 isC84 hC2 hPc (fun i hi => by have := hok i hi; omega) hi hj) (fun r s3 w => ?_)⟩
        obtain ⟨v5, rfl, k3, hv5, -⟩ := w
        have key : (pS1 E (cl E (S at') E) (cq E (S at') (qt n x y E) E) i j ≤ 4 ∧ pS2 E (cl E (S at') E) (cq E (S at') (qt n x y E) E) i j ≤ 4) ↔ A4 E (cl E (setp (S at') i j) E) (qt n x y E) :=
          (A4_p (cq_RQ hmE E (Nat.le_refl _)) hPc hi hj g4).symm.trans (A4_congr (cl_set hmE hi hj hij hmi hmj))
        have k03 : Ch (fun a _ => 84 ≤ a ∧ a ≤ 86) noL s1 s3 := (k2.mono (fun a i h => by simp only [chC0] at h; omega) (fun _ _ h => h)).trans (k3.mono (fun a i h => by simp only [chC] at h; omega) (fun _ _ h => h))
        have hL3 := k03.lay hL
        have g03 : ChG s1 s3 := ChG.of hL (k03.mono (fun a i h => by simp only [chGc]; omega) (fun _ _ h => h))
        refine ⟨_, rfl, k3.fr, fun hne => ?_, fun h0 => ?_⟩
        · rw [i01 hv5, Classical.not_not, key] at hne
          have hr0 : rfn E (qt n x y E) (S at') i j = 0 := by
            unfold rfn
            rw [if_neg no2, if_neg hx, if_neg hodd, if_pos (A4b_is.mpr hne)]
          have hI2 := setp_inv gI hi hj hij hmi hmj
          refine Ct.imp (sp_begin (ρ := ρ) (S := S) hL3 ⟨fun i hi => by rw [k03.1.2]; exact c2.1 i hi, c2.2⟩ (by rw [k03.i (by omega)]; exact c3) (by omega) (fun i hi => (c5 i (by omega)).ch k03 (fun e _ => by have := (c2.1 i (by omega)).2; omega))) (fun r s5 w => ?_)
          obtain ⟨v6, rfl, ρ', hR5, rfl, b1, b2, b3, b4, kA⟩ := w
          have hD := shD_le (show at' ≤ 40 by omega)
          obtain ⟨q1, q2, q3⟩ := hR5.1 (shD at') hD.2
          have hL5 := kA.1.2
          refine ⟨_, rfl, kA.1, 22, kdRow hL5 q2 q3, by rw [zIN (by omega) (by omega)]; omega, fun s22 e22 => ⟨by rw [zIN (by omega) (by omega)]; omega, fun s25 e25 => ?_⟩⟩
          have k25 : Ch (fun a _ => a = ρ' (shD at')) noL s5 s25 := by rw [e25, e22]; exact ((Ch.rf (Pm := fun a _ => a = ρ' (shD at')) (Pl := noL)).si rfl).si rfl
          have hL25 := k25.lay hL5
          have gall := (g03.trans kA.g).trans (ChG.of hL5 (k25.mono (fun a i h => by simp only [chGc]; omega) (fun _ _ h => h)))
          refine Ct.imp (sp_newact (d := d) (m := setp (S at') i j) (S := S) (last := last) (ρ := ρ') hL25 hV (c1.g gall) ⟨fun i hi => by rw [k25.1.2]; exact hR5.1 i hi, hR5.2⟩ (by rw [k25.i (by omega)]; exact b1) (by rw [k25.i (by omega)]; exact b2) (fun i hi => (b3 i hi).ch k25 (fun e _ z => by have := hR5.2 _ _ (by omega) hD.2 z; omega)) (fun e he => ?_) hal hl hG hI2 hne) (fun r s12 w => ?_)
          · have old := b4 e he
            unfold setp
            rw [e25, mi_si, e22, mi_si]
            by_cases w1 : e = i
            · rw [if_pos w1, if_neg (by omega), if_pos ⟨rfl, w1⟩]; rfl
            · rw [if_neg w1]
              by_cases w2 : e = j
              · rw [if_pos w2, if_pos ⟨rfl, w2⟩]; rfl
              · rw [if_neg w2, if_neg (by omega), if_neg (by omega)]
                exact old
          · obtain ⟨rfl, hCA, w1, w2, k12⟩ := w
            exact ⟨rfl, k12.fr, ⟨gall.trans (ChG.of hL25 (k12.mono (fun a i h => by simp only [chGc]; exact Or.inl h) (fun _ _ h => h))), fun a i h1 h2 => by rw [k12.i (by simp only [chSt]; omega), k25.i (by omega), kA.2.2.1 a i (by omega), k03.i (by omega)]⟩, ans 0 (by rw [hr0]; rfl), fun h => absurd trivial h, fun _ => ⟨w1, w2, i, j, ρ', hi, hj, hij, rfl, rfl, hI2, hne, hCA⟩⟩
        · rw [i01 hv5, key] at h0
          refine ⟨⟨g03, fun a i h1 h2 => k03.i (by omega)⟩, ans 5 ?_, fun _ => ⟨hC.g k03 hl (fun a i _ _ => by omega) (fun a i _ _ => by omega), k03⟩, fun h => absurd h (by decide)⟩
          unfold rfn
          rw [if_neg no2, if_neg hx, if_neg hodd, if_neg (fun z => h0 (A4b_is.mp z))]
          rfl
      · unfold rfn
        rw [if_neg no2, if_neg hx, if_pos heven]
        rfl
    · rw [i01 hv4, Classical.not_not] at hx
      refine none1 3 (by decide) (ans 3 ?_)
      unfold rfn
      rw [if_neg no2, if_pos hx]
      rfl
