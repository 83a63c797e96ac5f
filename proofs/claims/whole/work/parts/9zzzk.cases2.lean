/-! ===== one call on both sides keeps the world: lists, bodies, acts ===== -/
theorem GoodS.new {E at' last : Nat} {q : Nat → Nat} {S : Nat → Mat} {m : Mat} (h : GoodS E q S last) (hal : at' ≤ last) (hl : last ≤ 40) (hi : Inv E m) (h4 : A4 E (cl E m E) q) : GoodS E q (newS S at' m) (shD at') := fun i hi2 => by
  unfold newS
  by_cases e : i = shD at'
  · rw [if_pos e]; exact ⟨hi, h4⟩
  · rw [if_neg e]
    unfold shS
    unfold shD at hi2 e
    by_cases e4 : at' = 40
    · rw [if_pos e4] at hi2 e ⊢
      exact h (i + 1) (by omega)
    · rw [if_neg e4] at hi2 e ⊢
      exact h i (by omega)
section CASES
variable {g : GV} {σ : PS} {Q : PS → Prop} {a b e f : Int32}
theorem cs_gluings (hW : World σ) (R : ∀ s, World s → Q s) : CX11_gluings g 60 [.ref 10] σ (fun v s1 => FrL σ s1 ∧ CX12_gluings g 60 [.ref 179] s1 (fun v' s3 => FrL s1 s3 ∧ v = v' ∧ Q s3)) := by
  obtain ⟨w, E, ρ, S, at', last, mk, L, hL, hG, hC, hD⟩ := hW
  obtain ⟨gF, g1, g2, g3, g4, g5, g6⟩ := id hG
  have hE : E ≤ 22 := gF.1.2.2.2.2.2.2
  refine Ct.imp (sp_gluings11 (d := 34) (q := qw w E) hL hE (fun i _ => qt_le _ _ _ _ i) hC.1.1.2.1 (fun i hi => (hC.1.1.2.2.1 i hi).2.2) hC.2.2.1) (fun r s1 q => ?_)
  obtain ⟨v, rfl, a1, k1, k2, c1⟩ := q
  have hL1 := c1.lay hL
  have hC1 := hC.k g2 c1 (fun a i h => by simp only [chW5]; omega) (fun _ => k1) (hC.eK c1 (fun _ => k2) (fun i _ _ => by simp only [chW5]; omega) (fun i => by simp only [chW5]; omega)) (hC.eO c1 (by simp only [chW5]; omega) (fun a i _ _ => by simp only [chW5]; omega)) (hC.eU c1 (fun i _ _ => by simp only [chW5]; omega))
  have hD1 := hD.r c1 (fun a i h => by simp only [chW5] at h; omega)
  refine ⟨v, rfl, c1.frl hL, Ct.imp (sp_gluings12b (d := 34) (q := qw w E) hL1 hE hD1.1.2.1 (fun i hi => ⟨(hD1.1.2.2.1 i hi).2.2, qt_le _ _ _ _ i⟩) hD1.2.2.1) (fun r s3 q => ?_)⟩
  obtain ⟨v', rfl, b1, -, b2, b3, c3, b4, b5⟩ := q
  exact ⟨v', rfl, c3.frl hL1, a1.trans b1.symm, R _ ⟨w, E, ρ, S, at', last, mk, L, c3.lay hL1, hG, hC1.r g2 c3 (fun a i h => by simp only [chIz, chI] at h; omega), hD1.g c3 (fun i h => by simp only [chIz, chI]; omega) (fun a i h => by simp only [chIz, chI]; omega) (fun _ => b2) (hD1.eR c3 b4 b5 (fun i => by simp only [chIz, chI]; omega))⟩⟩
theorem cs_partner (hW : World σ) (R : ∀ s, World s → Q s) : CX11_partner g 60 [.ref 10, .int a, .int b] σ (fun v s1 => FrL σ s1 ∧ CX12_partner g 60 [.ref 179, .int a, .int b] s1 (fun v' s3 => FrL s1 s3 ∧ v = v' ∧ Q s3)) := by
  obtain ⟨w, E, ρ, S, at', last, mk, L, hL, hG, hC, hD⟩ := hW
  obtain ⟨gF, g1, g2, g3, g4, g5, g6⟩ := id hG
  have hE : E ≤ 22 := gF.1.2.2.2.2.2.2
  refine Ct.imp (sp_partner11 (d := 33) (q := qw w E) hL hE (fun i _ => qt_le _ _ _ _ i) hC.1.1.2.1 (fun i hi => (hC.1.1.2.2.1 i hi).2.2) hC.2.2.1) (fun r s1 q => ?_)
  obtain ⟨v, rfl, a1, k1, k2, c1⟩ := q
  have hL1 := c1.lay hL
  have hC1 := hC.k g2 c1 (fun a i h => by simp only [chW5]; omega) (fun _ => k1) (hC.eK c1 (fun _ => k2) (fun i _ _ => by simp only [chW5]; omega) (fun i => by simp only [chW5]; omega)) (hC.eO c1 (by simp only [chW5]; omega) (fun a i _ _ => by simp only [chW5]; omega)) (hC.eU c1 (fun i _ _ => by simp only [chW5]; omega))
  have hD1 := hD.r c1 (fun a i h => by simp only [chW5] at h; omega)
  refine ⟨v, rfl, c1.frl hL, Ct.imp (sp_partner12b (d := 33) (q := qw w E) hL1 hE hD1.1.2.1 (fun i hi => ⟨(hD1.1.2.2.1 i hi).2.2, qt_le _ _ _ _ i⟩) hD1.2.2.1) (fun r s3 q => ?_)⟩
  obtain ⟨v', rfl, b1, -, b2, b3, c3, b4, b5⟩ := q
  exact ⟨v', rfl, c3.frl hL1, a1.uniq (by omega) b1, R _ ⟨w, E, ρ, S, at', last, mk, L, c3.lay hL1, hG, hC1.r g2 c3 (fun a i h => by simp only [chIz, chI] at h; omega), hD1.g c3 (fun i h => by simp only [chIz, chI]; omega) (fun a i h => by simp only [chIz, chI]; omega) (fun _ => b2) (hD1.eR c3 b4 b5 (fun i => by simp only [chIz, chI]; omega))⟩⟩
theorem cs_same (hW : World σ) (R : ∀ s, World s → Q s) : CX11_same g 60 [.ref 10, .int a, .int b] σ (fun v s1 => FrL σ s1 ∧ CX12_same g 60 [.ref 179, .int a, .int b] s1 (fun v' s3 => FrL s1 s3 ∧ v = v' ∧ Q s3)) := by
  obtain ⟨w, E, ρ, S, at', last, mk, L, hL, hG, hC, hD⟩ := hW
  obtain ⟨gF, g1, g2, g3, g4, g5, g6⟩ := id hG
  refine Ct.imp (sp_same11 (d := 33) hL hC.1.1 gF.1 gF.2 hC.2.2.1) (fun r s1 q => ?_)
  obtain ⟨v, rfl, a1, k1, k2, c1⟩ := q
  have hL1 := c1.lay hL
  have hC1 := hC.k g2 c1 (fun a i h => by simp only [chW5, chDs]; omega) (fun _ => k1) (hC.eK c1 (fun _ => k2) (fun i _ _ => by simp only [chW5, chDs]; omega) (fun i => by simp only [chW5, chDs]; omega)) (hC.eO c1 (by simp only [chW5, chDs]; omega) (fun a i _ _ => by simp only [chW5, chDs]; omega)) (hC.eU c1 (fun i _ _ => by simp only [chW5, chDs]; omega))
  have hD1 := hD.r c1 (fun a i h => by simp only [chW5, chDs] at h; omega)
  refine ⟨v, rfl, c1.frl hL, Ct.imp (sp_same12 (d := 33) hL1 hD1.1 gF.1 gF.2 hD1.2.2.1 hD1.2.2.2.1) (fun r s3 q => ?_)⟩
  obtain ⟨v', rfl, b1, -, b2, c3⟩ := q
  exact ⟨v', rfl, c3.frl hL1, a1.uniq b1, R _ ⟨w, E, ρ, S, at', last, mk, L, c3.lay hL1, hG, hC1.r g2 c3 (fun a i h => by simp only [chBo] at h; omega), hD1.g c3 (fun i h => by simp only [chBo]; omega) (fun a i h => by simp only [chBo]; omega) (fun _ => b2.1) (fun _ => b2.2.2)⟩⟩
theorem cs_bodyOf (hW : World σ) (R : ∀ s, World s → Q s) : CX11_bodyOf g 60 [.ref 10, .int a] σ (fun v s1 => FrL σ s1 ∧ CX12_bodyOf g 60 [.ref 179, .int a] s1 (fun v' s3 => FrL s1 s3 ∧ v = v' ∧ Q s3)) := by
  obtain ⟨w, E, ρ, S, at', last, mk, L, hL, hG, hC, hD⟩ := hW
  obtain ⟨gF, g1, g2, g3, g4, g5, g6⟩ := id hG
  refine Ct.imp (sp_bodyOf11 (d := 33) hL hC.1.1 gF.1 gF.2 hC.2.2.1 hC.2.2.2.1) (fun r s1 q => ?_)
  obtain ⟨v, rfl, a1, k1, k2, k3, c1⟩ := q
  have hL1 := c1.lay hL
  have hC1 := hC.k g2 c1 (fun a i h => by simp only [chKB, chW5, chDs]; omega) (fun _ => k1) (fun h => ⟨k2, k3 h⟩) (hC.eO c1 (by simp only [chKB, chW5, chDs]; omega) (fun a i _ _ => by simp only [chKB, chW5, chDs]; omega)) (hC.eU c1 (fun i _ _ => by simp only [chKB, chW5, chDs]; omega))
  have hD1 := hD.r c1 (fun a i h => by simp only [chKB, chW5, chDs] at h; omega)
  refine ⟨v, rfl, c1.frl hL, Ct.imp (sp_bodyOf12 (d := 33) hL1 hD1.1 gF.1 gF.2 hD1.2.2.1 hD1.2.2.2.1) (fun r s3 q => ?_)⟩
  obtain ⟨v', rfl, b1, -, b2, c3⟩ := q
  exact ⟨v', rfl, c3.frl hL1, a1.uniq b1, R _ ⟨w, E, ρ, S, at', last, mk, L, c3.lay hL1, hG, hC1.r g2 c3 (fun a i h => by simp only [chBo] at h; omega), hD1.g c3 (fun i h => by simp only [chBo]; omega) (fun a i h => by simp only [chBo]; omega) (fun _ => b2.1) (fun _ => b2.2.2)⟩⟩
theorem cs_bodies (hW : World σ) (R : ∀ s, World s → Q s) : CX11_bodies g 60 [.ref 10] σ (fun v s1 => FrL σ s1 ∧ CX12_bodies g 60 [.ref 179] s1 (fun v' s3 => FrL s1 s3 ∧ v = v' ∧ Q s3)) := by
  obtain ⟨w, E, ρ, S, at', last, mk, L, hL, hG, hC, hD⟩ := hW
  obtain ⟨gF, g1, g2, g3, g4, g5, g6⟩ := id hG
  refine Ct.imp (sp_bodies11 (d := 33) hL hC.1.1 gF.1 gF.2 hC.2.2.1 hC.2.2.2.1) (fun r s1 q => ?_)
  obtain ⟨v, rfl, a1, k1, k2, k3, c1⟩ := q
  have hL1 := c1.lay hL
  have hC1 := hC.k g2 c1 (fun a i h => by simp only [chKB, chW5, chDs]; omega) (fun _ => k1) (fun h => ⟨k2, k3⟩) (hC.eO c1 (by simp only [chKB, chW5, chDs]; omega) (fun a i _ _ => by simp only [chKB, chW5, chDs]; omega)) (hC.eU c1 (fun i _ _ => by simp only [chKB, chW5, chDs]; omega))
  have hD1 := hD.r c1 (fun a i h => by simp only [chKB, chW5, chDs] at h; omega)
  refine ⟨v, rfl, c1.frl hL, Ct.imp (sp_bodies12 (d := 33) hL1 hD1.1 gF.1 gF.2 hD1.2.2.1 hD1.2.2.2.1) (fun r s3 q => ?_)⟩
  obtain ⟨v', rfl, b1, -, b2, c3⟩ := q
  exact ⟨v', rfl, c3.frl hL1, a1.uniq b1, R _ ⟨w, E, ρ, S, at', last, mk, L, c3.lay hL1, hG, hC1.r g2 c3 (fun a i h => by simp only [chBo] at h; omega), hD1.g c3 (fun i h => by simp only [chBo]; omega) (fun a i h => by simp only [chBo]; omega) (fun _ => b2.1) (fun _ => b2.2.2)⟩⟩
/-- the class has settled anew: the same figure, other acts -/
theorem CW.s {s : PS} {w : Nat → Nat} {E : Nat} {ρ ρ' : Nat → Nat} {S S' : Nat → Mat} {at' last at2 last2 : Nat} {mk : Nat → Option MkT} {L : List Nat} {Pm : Nat → Nat → Prop} (h : CW σ w E ρ S at' last mk L) (hn : fN w ≤ 10) (hm : ∀ a k, ¬ Pm a k → mi s a k = mi σ a k) (h1 : ∀ a i, (11 ≤ a ∧ a ≤ 12 ∨ a = 21 ∨ a = 133 ∧ 9 ≤ i ∧ i ≤ 11 ∨ a = 143 ∨ 168 ≤ a ∧ a ≤ 178) → ¬ Pm a i) (hE : ¬ mi s 87 1 = 0 → EC s E (gls E (qw w E))) (h0 : ¬ mi σ 87 1 = 0 → ¬ mi s 87 1 = 0) (hA : CA s (fN w) (fX w) (fY w) E ρ' S' at2 last2) (hO : LKo s (fN w) (fX w) (fY w) E (S' at2)) (hU : UKo s (fN w) (fX w) (fY w) E (S' at2)) : CW s w E ρ' S' at2 last2 mk L := by
  obtain ⟨b1, b2, b3, b4, b5, b6, b7, b8⟩ := h
  have c : Ch Pm (fun _ _ => True) σ (wr s σ) := ⟨⟨rfl, rfl⟩, hm, fun _ _ q => (q trivial).elim⟩
  have r2 : RowsF (wr s σ) 21 w := b2.ch c (fun i => h1 _ i (by omega))
  have r4 : ¬ mi σ 133 9 = 0 → KB (wr s σ) (fN w) (fX w) (fY w) E (gls E (qw w E)) := fun q => (b4 q).2.ch c (h1 _ _ (by omega)) (h1 _ _ (by omega)) (fun i => h1 _ i (by omega))
  have r7 : CMk (wr s σ) mk := b7.ch c (fun a i _ _ => h1 a i (by omega))
  have r8 : TC (wr s σ) L := b8.ch c (h1 _ _ (by omega)) (fun i => h1 _ i (by omega))
  refine ⟨hA, r2, hE, fun q => ?_, hO, hU, r7, r8⟩
  rw [hm 133 9 (h1 _ _ (by omega))] at q
  exact ⟨h0 (b4 q).1, r4 q⟩
theorem cs_undo (hW : World σ) (R : ∀ s, World s → Q s) : CX11_undo g 60 [.ref 10] σ (fun v s1 => FrL σ s1 ∧ CX12_undo g 60 [.ref 179] s1 (fun v' s3 => FrL s1 s3 ∧ v = v' ∧ Q s3)) := by
  obtain ⟨w, E, ρ, S, at', last, mk, L, hL, hG, hC, hD⟩ := hW
  obtain ⟨gF, g1, g2, g3, g4, g5, g6⟩ := id hG
  have hn : fN w ≤ 10 := gF.1.2.1
  have hE : E ≤ 22 := gF.1.2.2.2.2.2.2
  refine Ct.imp (sp_undo11 (d := 57) hL gF.1 hC.1 g1 g2 g3) (fun r s1 q => ?_)
  obtain ⟨v, rfl, a1, a2, a3, a4, c1⟩ := q
  have hL1 := c1.lay hL
  have hD1 := hD.r c1 (fun a i h => by simp only [chAc, chSt] at h; omega)
  have hC1 : CW s1 w E ρ S (at' - 1) last mk L := by
    refine hC.s hn (fun a k q => c1.i q) (fun a i h => by simp only [chAc, chSt]; omega) (hC.eE c1 (fun i _ _ => by simp only [chAc, chSt]; omega) (fun i => by simp only [chAc, chSt]; omega)) (fun h => by rw [c1.i (by simp only [chAc, chSt]; omega)]; exact h) a3 ?_ ?_
    · by_cases z : at' = 0
      · rw [a2 z, show at' - 1 = at' by omega]; exact hC.2.2.2.2.1
      · exact LKo.no (a4 (by omega)).1 hn
    · by_cases z : at' = 0
      · rw [a2 z, show at' - 1 = at' by omega]; exact hC.2.2.2.2.2.1
      · exact UKo.no (a4 (by omega)).2
  refine ⟨v, rfl, c1.frl hL, Ct.imp (sp_undo12 (d := 59) hL1 hE g1 g2 hD1.2.1 (fun i hi => (g3 i hi).1)) (fun r s3 q => ?_)⟩
  obtain ⟨v', rfl, -, c3, b1, b2⟩ := q
  refine ⟨v', rfl, c3.frl hL1, a1.trans b1.symm, R _ ⟨w, E, ρ, S, at' - 1, last, mk, L, c3.lay hL1, ⟨gF, by omega, g2, g3, g4, g5, g6⟩, hC1.r g2 c3 (fun a i h => by simp only [chGl] at h; omega), ?_⟩⟩
  obtain ⟨d1, d2, d3, d4, d5, d6⟩ := hD1
  refine ⟨d1.ch c3 (by simp only [chGl]; omega) (by simp only [chGl]; omega) (fun a i _ _ => by simp only [chGl]; omega), b2, fun q => ?_, fun q r => ?_, d5.ch c3 (fun a i _ _ => by simp only [chGl]; omega), d6.ch c3 (by simp only [chGl]; omega) (fun i => by simp only [chGl]; omega)⟩
  · rw [c3.i (by simp only [chGl]; omega)] at q
    exact (d3 q).ch c3 (by simp only [chGl]; omega) (fun i => by simp only [chGl]; omega)
  · rw [c3.i (by simp only [chGl]; omega)] at q r
    exact (d4 q r).ch c3 (fun i => by simp only [chGl]; omega)
theorem cs_redo (hW : World σ) (R : ∀ s, World s → Q s) : CX11_redo g 60 [.ref 10] σ (fun v s1 => FrL σ s1 ∧ CX12_redo g 60 [.ref 179] s1 (fun v' s3 => FrL s1 s3 ∧ v = v' ∧ Q s3)) := by
  obtain ⟨w, E, ρ, S, at', last, mk, L, hL, hG, hC, hD⟩ := hW
  obtain ⟨gF, g1, g2, g3, g4, g5, g6⟩ := id hG
  have hn : fN w ≤ 10 := gF.1.2.1
  have hE : E ≤ 22 := gF.1.2.2.2.2.2.2
  refine Ct.imp (sp_redo11 (d := 57) hL gF.1 hC.1 g1 g2 g3) (fun r s1 q => ?_)
  obtain ⟨v, rfl, a1, a2, a3, a4, c1⟩ := q
  have hL1 := c1.lay hL
  have hD1 := hD.r c1 (fun a i h => by simp only [chAc, chSt] at h; omega)
  have hC1 : CW s1 w E ρ S (if at' < last then at' + 1 else at') last mk L := by
    refine hC.s hn (fun a k q => c1.i q) (fun a i h => by simp only [chAc, chSt]; omega) (hC.eE c1 (fun i _ _ => by simp only [chAc, chSt]; omega) (fun i => by simp only [chAc, chSt]; omega)) (fun h => by rw [c1.i (by simp only [chAc, chSt]; omega)]; exact h) a3 ?_ ?_
    · by_cases z : at' < last
      · exact LKo.no (a4 z).1 hn
      · rw [if_neg z, a2 (by omega)]; exact hC.2.2.2.2.1
    · by_cases z : at' < last
      · exact UKo.no (a4 z).2
      · rw [if_neg z, a2 (by omega)]; exact hC.2.2.2.2.2.1
  refine ⟨v, rfl, c1.frl hL, Ct.imp (sp_redo12 (d := 58) hL1 hE g1 g2 hD1.2.1 (fun i hi => (g3 i hi).1)) (fun r s3 q => ?_)⟩
  obtain ⟨v', rfl, -, c3, b1, b2⟩ := q
  refine ⟨v', rfl, c3.frl hL1, a1.trans b1.symm, R _ ⟨w, E, ρ, S, if at' < last then at' + 1 else at', last, mk, L, c3.lay hL1, ⟨gF, by split <;> omega, g2, g3, g4, g5, g6⟩, hC1.r g2 c3 (fun a i h => by simp only [chGl] at h; omega), ?_⟩⟩
  obtain ⟨d1, d2, d3, d4, d5, d6⟩ := hD1
  refine ⟨d1.ch c3 (by simp only [chGl]; omega) (by simp only [chGl]; omega) (fun a i _ _ => by simp only [chGl]; omega), b2, fun q => ?_, fun q r => ?_, d5.ch c3 (fun a i _ _ => by simp only [chGl]; omega), d6.ch c3 (by simp only [chGl]; omega) (fun i => by simp only [chGl]; omega)⟩
  · rw [c3.i (by simp only [chGl]; omega)] at q
    exact (d3 q).ch c3 (by simp only [chGl]; omega) (fun i => by simp only [chGl]; omega)
  · rw [c3.i (by simp only [chGl]; omega)] at q r
    exact (d4 q r).ch c3 (fun i => by simp only [chGl]; omega)
theorem cs_glue (hW : World σ) (R : ∀ s, World s → Q s) : CX11_glue g 60 [.ref 10, .int a, .int b] σ (fun v s1 => FrL σ s1 ∧ CX12_glue g 60 [.ref 179, .int a, .int b] s1 (fun v' s3 => FrL s1 s3 ∧ v = v' ∧ Q s3)) := by
  obtain ⟨w, E, ρ, S, at', last, mk, L, hL, hG, hC, hD⟩ := hW
  obtain ⟨gF, g1, g2, g3, g4, g5, g6⟩ := id hG
  have hn : fN w ≤ 10 := gF.1.2.1
  have hE : E ≤ 22 := gF.1.2.2.2.2.2.2
  refine Ct.imp (sp_glue11b (d := 57) hL gF.1 hC.1 g1 g2 g3) (fun r s1 q => ?_)
  obtain ⟨v, rfl, ⟨cg, kg⟩, a1, a2, a3⟩ := q
  have hL1 := cg.1.2
  have hD1 : DW s1 w E S at' last mk L := hD.m (P := chGc) cg.2.2.1 (fun a i h => by simp only [chGc, chSt, chW5] at h; omega)
  refine ⟨v, rfl, cg.1, Ct.imp (sp_glue12 (d := 57) (q := qw w E) hL1 hE hD1.1.2.1 (fun i hi => ⟨(hD1.1.2.2.1 i hi).2.2, qt_le _ _ _ _ i⟩) g1 g2 hD1.2.1 (fun i hi => (g3 i hi).1)) (fun r s3 q => ?_)⟩
  obtain ⟨v', rfl, -, c3, b1, b2, b3⟩ := q
  have hvv := a1.uniq (by omega) b1
  subst hvv
  refine ⟨v, rfl, c3.frl hL1, rfl, R _ ?_⟩
  obtain ⟨d1, d2, d3, d4, d5, d6⟩ := hD1
  have hDn : ∀ S' at2 last2, MH s3 S' at2 last2 → DW s3 w E S' at2 last2 mk L := fun S' at2 last2 hM => by
    refine ⟨d1.ch c3 (by simp only [chGl]; omega) (by simp only [chGl]; omega) (fun a i _ _ => by simp only [chGl]; omega), hM, fun q => ?_, fun q r => ?_, d5.ch c3 (fun a i _ _ => by simp only [chGl]; omega), d6.ch c3 (by simp only [chGl]; omega) (fun i => by simp only [chGl]; omega)⟩
    · rw [c3.i (by simp only [chGl]; omega)] at q
      exact (d3 q).ch c3 (by simp only [chGl]; omega) (fun i => by simp only [chGl]; omega)
    · rw [c3.i (by simp only [chGl]; omega)] at q r
      exact (d4 q r).ch c3 (fun i => by simp only [chGl]; omega)
  by_cases hv : v = 0
  · obtain ⟨k1, k2, i, j, ρ', e1, e2, e3, e4, e5, e6, e7, e8⟩ := a3 hv
    obtain ⟨i', j', f1, f2, f3, f4, f5, f6⟩ := b3 hv
    have ei : i = i' := eqn (by omega) (by omega) (e4.symm.trans f4)
    have ej : j = j' := eqn (by omega) (by omega) (e5.symm.trans f5)
    subst ei
    subst ej
    have hD40 := shD_le (show at' ≤ 40 by omega)
    have hm : ∀ a k, ¬ (chGc a k ∧ ¬ (87 ≤ a ∧ a ≤ 88)) → mi s1 a k = mi σ a k := fun a k q => by
      by_cases z : 87 ≤ a ∧ a ≤ 88
      · exact kg a k z.1 z.2
      · exact cg.2.2.1 a k (fun y => q ⟨y, z⟩)
    have hCn : CW s1 w E ρ' (newS S at' (setp (S at') i j)) (shD at') (shD at') mk L := by
      refine hC.s (Pm := fun a k => chGc a k ∧ ¬ (87 ≤ a ∧ a ≤ 88)) hn hm (fun a i h => by simp only [chGc, chSt, chW5]; omega) (fun q => ?_) (fun h => by rw [kg 87 1 (by omega) (by omega)]; exact h) e8 (LKo.no k1 hn) (UKo.no k2)
      rw [kg 87 1 (by omega) (by omega)] at q
      have r := (hC.2.2.1 q).ch (s := wr s1 σ) (Pm := fun a k => chGc a k ∧ ¬ (87 ≤ a ∧ a ≤ 88)) (Pl := fun _ _ => True) ⟨⟨rfl, rfl⟩, hm, fun _ _ q => (q trivial).elim⟩ (by omega) (by omega) (fun i => by omega)
      exact r
    exact ⟨w, E, ρ', newS S at' (setp (S at') i j), shD at', shD at', mk, L, c3.lay hL1, ⟨gF, Nat.le_refl _, hD40.2, g3.new g1 g2 e6 e7, g4, g5, g6⟩, hCn.r hD40.2 c3 (fun a i h => by simp only [chGl] at h; omega), hDn _ _ _ f6⟩
  · obtain ⟨k1, c1⟩ := a2 hv
    have hC1 : CW s1 w E ρ S at' last mk L := hC.s hn (fun a k q => c1.i q) (fun a i h => by omega) (hC.eE c1 (fun i _ _ => by omega) (fun i => by omega)) (fun h => by rw [c1.i (by omega)]; exact h) k1 (hC.eO c1 (by omega) (fun a i _ _ => by omega)) (hC.eU c1 (fun i _ _ => by omega))
    exact ⟨w, E, ρ, S, at', last, mk, L, c3.lay hL1, hG, hC1.r g2 c3 (fun a i h => by simp only [chGl] at h; omega), hDn _ _ _ (b2 hv)⟩
theorem cs_choose (hW : World σ) (R : ∀ s, World s → Q s) : CX11_choose g 60 [.ref 10, .int a] σ (fun v s1 => FrL σ s1 ∧ CX12_choose g 60 [.ref 179, .int a] s1 (fun v' s3 => FrL s1 s3 ∧ v = v' ∧ Q s3)) := by
  obtain ⟨w, E, ρ, S, at', last, mk, L, hL, hG, hC, hD⟩ := hW
  obtain ⟨gF, g1, g2, g3, g4, g5, g6⟩ := id hG
  have hn : fN w ≤ 10 := gF.1.2.1
  have hE : E ≤ 22 := gF.1.2.2.2.2.2.2
  refine Ct.imp (sp_choose11 (d := 33) hL gF.1 hC.1 g1 g2 g3 hC.2.2.1) (fun r s1 q => ?_)
  obtain ⟨v, rfl, cg, k1, k2, a1, a2⟩ := q
  have hL1 := cg.1.2
  have hD1 : DW s1 w E S at' last mk L := hD.m (P := chGc) cg.2.2.1 (fun a i h => by simp only [chGc, chSt, chW5] at h; omega)
  refine ⟨v, rfl, cg.1, Ct.imp (sp_choose12 (d := 33) (q := qw w E) hL1 hE hD1.1.2.1 (fun i hi => ⟨(hD1.1.2.2.1 i hi).2.2, qt_le _ _ _ _ i⟩) hD1.2.2.1 g1 g2 hD1.2.1 (fun i hi => (g3 i hi).1)) (fun r s3 q => ?_)⟩
  obtain ⟨v', rfl, -, c3, b1, b2, b3, b4, b5, b6⟩ := q
  obtain ⟨d1, d2, d3, d4, d5, d6⟩ := id hD1
  have hDn : ∀ S' at2 last2, MH s3 S' at2 last2 → DW s3 w E S' at2 last2 mk L := fun S' at2 last2 hM =>
    ⟨d1.ch c3 (by simp only [chCh]; omega) (by simp only [chCh]; omega) (fun a i _ _ => by simp only [chCh]; omega), hM, fun _ => b1, hD1.eR c3 b3 b4 (fun i => by simp only [chCh]; omega), d5.ch c3 (fun a i _ _ => by simp only [chCh]; omega), d6.ch c3 (by simp only [chCh]; omega) (fun i => by simp only [chCh]; omega)⟩
  by_cases hv : (gls E (qw w E)).length ≤ 2000 ∧ inN a (gls E (qw w E)).length = true
  · obtain ⟨e1, e2, e3, k, m, ρ', e4, e5, e6⟩ := a1 hv
    obtain ⟨f1, k', m', f4, f5, f6⟩ := b5 hv
    replace e5 : (gls E (qw w E))[k]? = some m := e5
    have ek : k = k' := by
      have h6 := e4.symm.trans f4
      have l1 := (List.getElem?_eq_some_iff.mp e5).1
      have l2 := (List.getElem?_eq_some_iff.mp f5).1
      rwa [zEQ (by omega) (by omega)] at h6
    subst ek
    have em : m = m' := Option.some.inj (e5.symm.trans f5)
    subst em
    have hF : FM E (qw w E) m := gls_FM (List.mem_of_getElem? e5)
    have hD40 := shD_le (show at' ≤ 40 by omega)
    have hCn : CW s1 w E ρ' (newS S at' m) (shD at') (shD at') mk L := hC.s (Pm := chGc) hn cg.2.2.1 (fun a i h => by simp only [chGc, chSt, chW5]; omega) (fun _ => k1) (fun _ => k2) e6 (LKo.no e2 hn) (UKo.no e3)
    exact ⟨v', rfl, c3.frl hL1, e1.trans f1.symm, R _ ⟨w, E, ρ', newS S at' m, shD at', shD at', mk, L, c3.lay hL1, ⟨gF, Nat.le_refl _, hD40.2, g3.new g1 g2 hF.inv hF.2, g4, g5, g6⟩, hCn.r hD40.2 c3 (fun a i h => by simp only [chCh] at h; omega), hDn _ _ _ f6⟩⟩
  · obtain ⟨e1, e2, c1⟩ := a2 hv
    obtain ⟨f1, f2⟩ := b6 hv
    have hC1 := hC.k g2 c1 (fun a i h => by simp only [chW5]; omega) (fun _ => k1) (hC.eK c1 (fun _ => k2) (fun i _ _ => by simp only [chW5]; omega) (fun i => by simp only [chW5]; omega)) (hC.eO c1 (by simp only [chW5]; omega) (fun a i _ _ => by simp only [chW5]; omega)) (hC.eU c1 (fun i _ _ => by simp only [chW5]; omega))
    exact ⟨v', rfl, c3.frl hL1, e1.trans f1.symm, R _ ⟨w, E, ρ, S, at', last, mk, L, c3.lay hL1, hG, hC1.r g2 c3 (fun a i h => by simp only [chCh] at h; omega), hDn _ _ _ f2⟩⟩
end CASES
