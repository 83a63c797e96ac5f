/-! ===== one call on both sides keeps the world: the calls that only look ===== -/
theorem Ch.frl {Pm Pl : Nat → Nat → Prop} {σ s : PS} (c : Ch Pm Pl σ s) (hL : Lay σ) : FrL σ s := ⟨c.1.1, c.lay hL⟩
theorem CA.ch {σ s : PS} {n E at' last : Nat} {x y : Nat → Nat} {ρ : Nat → Nat} {S : Nat → Mat} {Pm Pl : Nat → Nat → Prop} (h : CA σ n x y E ρ S at' last) (c : Ch Pm Pl σ s) (hl : last ≤ 40) (hn : ∀ a i, (a = 10 ∨ 20 ≤ a ∧ a ≤ 28 ∨ a = 38 ∨ 40 ≤ a ∧ a ≤ 83 ∨ 129 ≤ a ∧ a ≤ 132) → ¬ Pm a i) : CA s n x y E ρ S at' last := by
  obtain ⟨c1, c2, c3, c4, c5, c6, c7, c8⟩ := h
  refine ⟨c1.ch c (fun a i h1 h2 => hn a i (by omega)), ⟨fun i hi => by rw [c.1.2]; exact c2.1 i hi, c2.2⟩, by rw [c.i (hn _ _ (by omega))]; exact c3, by rw [c.i (hn _ _ (by omega))]; exact c4, fun i hi => (c5 i hi).ch c (fun e _ => hn _ _ (by have := (c2.1 i (by omega)).2; omega)), c6.ch c (hn _ _ (by omega)) (fun i _ => hn _ _ (by omega)) (fun i _ => hn _ _ (by omega)), by rw [c.i (hn _ _ (by omega))]; exact c7, fun h => ?_⟩
  obtain ⟨b1, b2⟩ := c8 h
  exact ⟨b1.ch c (hn _ _ (by omega)) (fun i => hn _ _ (by omega)) (fun i => hn _ _ (by omega)), fun q hq => by rw [c.i (hn _ _ (by omega))]; exact b2 q hq⟩
section WLE
variable {σ s : PS} {w : Nat → Nat} {E : Nat} {ρ : Nat → Nat} {S : Nat → Mat} {at' last : Nat} {mk : Nat → Option MkT} {L : List Nat} {Pm Pl : Nat → Nat → Prop}
/-- the class worked at its lists alone; what they hold then is told anew -/
theorem CW.k (h : CW σ w E ρ S at' last mk L) (hl : last ≤ 40) (c : Ch Pm Pl σ s) (h1 : ∀ a i, (10 ≤ a ∧ a ≤ 83 ∨ 129 ≤ a ∧ a ≤ 132 ∨ 168 ≤ a ∧ a ≤ 178) → ¬ Pm a i) (hE : ¬ mi s 87 1 = 0 → EC s E (gls E (qw w E))) (hK : ¬ mi s 133 9 = 0 → ¬ mi s 87 1 = 0 ∧ KB s (fN w) (fX w) (fY w) E (gls E (qw w E))) (hO : LKo s (fN w) (fX w) (fY w) E (S at')) (hU : UKo s (fN w) (fX w) (fY w) E (S at')) : CW s w E ρ S at' last mk L := by
  obtain ⟨b1, b2, b3, b4, b5, b6, b7, b8⟩ := h
  exact ⟨b1.g c hl (fun a i _ _ => h1 a i (by omega)) (fun a i _ _ => h1 a i (by omega)), b2.ch c (fun i => h1 _ i (by omega)), hE, hK, hO, hU, b7.ch c (fun a i _ _ => h1 a i (by omega)), b8.ch c (h1 _ _ (by omega)) (fun i => h1 _ i (by omega))⟩
theorem CW.eE (h : CW σ w E ρ S at' last mk L) (c : Ch Pm Pl σ s) (h1 : ∀ i, 1 ≤ i → i ≤ 3 → ¬ Pm 87 i) (h2 : ∀ i, ¬ Pm 88 i) : ¬ mi s 87 1 = 0 → EC s E (gls E (qw w E)) := fun q => by
  rw [c.i (h1 1 (by omega) (by omega))] at q
  exact (h.2.2.1 q).ch c (h1 2 (by omega) (by omega)) (h1 3 (by omega) (by omega)) h2
theorem CW.eK (h : CW σ w E ρ S at' last mk L) (c : Ch Pm Pl σ s) (h0 : ¬ mi σ 87 1 = 0 → ¬ mi s 87 1 = 0) (h1 : ∀ i, 9 ≤ i → i ≤ 11 → ¬ Pm 133 i) (h2 : ∀ i, ¬ Pm 143 i) : ¬ mi s 133 9 = 0 → ¬ mi s 87 1 = 0 ∧ KB s (fN w) (fX w) (fY w) E (gls E (qw w E)) := fun q => by
  rw [c.i (h1 9 (by omega) (by omega))] at q
  exact ⟨h0 (h.2.2.2.1 q).1, (h.2.2.2.1 q).2.ch c (h1 10 (by omega) (by omega)) (h1 11 (by omega) (by omega)) h2⟩
theorem CW.eO (h : CW σ w E ρ S at' last mk L) (c : Ch Pm Pl σ s) (h1 : ¬ Pm 144 3) (h2 : ∀ a i, 145 ≤ a → a ≤ 148 → ¬ Pm a i) : LKo s (fN w) (fX w) (fY w) E (S at') := h.2.2.2.2.1.ch c h1 h2
theorem CW.eU (h : CW σ w E ρ S at' last mk L) (c : Ch Pm Pl σ s) (h1 : ∀ i, 1 ≤ i → i ≤ 4 → ¬ Pm 149 i) : UKo s (fN w) (fX w) (fY w) E (S at') := h.2.2.2.2.2.1.ch c h1
/-- the reference worked at places that tell nothing -/
theorem DW.k (h : DW σ w E S at' last mk L) (c : Ch Pm Pl σ s) (h1 : ∀ i, (i = 1 ∨ i = 35 ∨ i = 38 ∨ i = 47 ∨ i = 48 ∨ i = 51 ∨ i = 52 ∨ i = 59) → ¬ Pm 179 i) (h2 : ∀ a i, (a = 180 ∨ 201 ≤ a ∧ a ≤ 206 ∨ a = 209 ∨ a = 211 ∨ a = 213 ∨ a = 214 ∨ a = 219 ∨ 229 ≤ a ∧ a ≤ 233) → ¬ Pm a i) : DW s w E S at' last mk L := by
  obtain ⟨b1, b2, b3, b4, b5, b6⟩ := h
  refine ⟨b1.ch c (h1 _ (by omega)) (h1 _ (by omega)) (fun a i _ _ => h2 a i (by omega)), b2.ch c (h1 _ (by omega)) (h1 _ (by omega)) (fun i => h2 _ i (by omega)) (fun i => h2 _ i (by omega)) (fun i => h2 _ i (by omega)), fun q => ?_, fun q r => ?_, b5.ch c (fun a i _ _ => h2 a i (by omega)), b6.ch c (h1 _ (by omega)) (fun i => h2 _ i (by omega))⟩
  · rw [c.i (h1 _ (by omega))] at q
    exact (b3 q).ch c (h1 _ (by omega)) (fun i => h2 _ i (by omega))
  · rw [c.i (h1 _ (by omega))] at q r
    exact (b4 q r).ch c (fun i => h2 _ i (by omega))
/-- the reference asked for its gluings, perhaps for its bodies -/
theorem DW.g (h : DW σ w E S at' last mk L) (c : Ch Pm Pl σ s) (h1 : ∀ i, (i = 1 ∨ i = 35 ∨ i = 38 ∨ i = 51 ∨ i = 52) → ¬ Pm 179 i) (h2 : ∀ a i, (a = 180 ∨ 201 ≤ a ∧ a ≤ 206 ∨ a = 209 ∨ a = 213 ∨ a = 214 ∨ 229 ≤ a ∧ a ≤ 233) → ¬ Pm a i) (hE : ¬ mi s 179 47 = 0 → EM s E (gls E (qw w E))) (hR : ¬ mi s 179 47 = 0 → ¬ mi s 179 59 = 0 → RBd s (fN w) (fX w) (fY w) E (gls E (qw w E))) : DW s w E S at' last mk L := by
  obtain ⟨b1, b2, b3, b4, b5, b6⟩ := h
  exact ⟨b1.ch c (h1 _ (by omega)) (h1 _ (by omega)) (fun a i _ _ => h2 a i (by omega)), b2.ch c (h1 _ (by omega)) (h1 _ (by omega)) (fun i => h2 _ i (by omega)) (fun i => h2 _ i (by omega)) (fun i => h2 _ i (by omega)), hE, hR, b5.ch c (fun a i _ _ => h2 a i (by omega)), b6.ch c (h1 _ (by omega)) (fun i => h2 _ i (by omega))⟩
theorem DW.eR (h : DW σ w E S at' last mk L) (c : Ch Pm Pl σ s) (k1 : ¬ mi σ 179 47 = 0 → mi s 179 59 = mi σ 179 59) (k2 : mi σ 179 47 = 0 → mi s 179 59 = 0) (h1 : ∀ i, ¬ Pm 219 i) : ¬ mi s 179 47 = 0 → ¬ mi s 179 59 = 0 → RBd s (fN w) (fX w) (fY w) E (gls E (qw w E)) := fun q r => by
  by_cases z : mi σ 179 47 = 0
  · exact absurd (k2 z) r
  · rw [k1 z] at r
    exact (h.2.2.2.1 z r).ch c h1
end WLE
theorem two_same {v v' : Int32} (h : v = v') : v = v' := h
section CASES
variable {g : GV} {σ : PS} {Q : PS → Prop} {a b e f : Int32}
theorem cs_cell (hW : World σ) (R : ∀ s, World s → Q s) : CX11_cell g 60 [.ref 10, .int a, .int b] σ (fun v s1 => FrL σ s1 ∧ CX12_cell g 60 [.ref 179, .int a, .int b] s1 (fun v' s3 => FrL s1 s3 ∧ v = v' ∧ Q s3)) := by
  obtain ⟨w, E, ρ, S, at', last, mk, L, hL, hG, hC, hD⟩ := hW
  obtain ⟨gF, g1, g2, g3, g4, g5, g6⟩ := id hG
  have hn : fN w ≤ 10 := gF.1.2.1
  refine Ct.imp (sp_cell11 (d := 59) hL hC.1.1) (fun r s1 q => ?_)
  obtain ⟨v, rfl, a1, rfl⟩ := q
  refine ⟨v, rfl, ⟨rfl, hL⟩, Ct.imp (sp_cell12 (d := 59) hL hD.1) (fun r s3 q => ?_)⟩
  obtain ⟨v', rfl, b1, rfl⟩ := q
  have c3 : Ch (fun a i => a = 179 ∧ i = 0) noL s1 (si s1 179 0 0) := Ch.rf.si ⟨rfl, rfl⟩
  exact ⟨v', rfl, c3.frl hL, a1.uniq (by omega) b1, R _ ⟨w, E, ρ, S, at', last, mk, L, c3.lay hL, hG, hC.r g2 c3 (fun a i h => by omega), hD.k c3 (fun i h => by omega) (fun a i h => by omega)⟩⟩
theorem cs_edge (hW : World σ) (R : ∀ s, World s → Q s) : CX11_edge g 60 [.ref 10, .int a, .int b] σ (fun v s1 => FrL σ s1 ∧ CX12_edge g 60 [.ref 179, .int a, .int b] s1 (fun v' s3 => FrL s1 s3 ∧ v = v' ∧ Q s3)) := by
  obtain ⟨w, E, ρ, S, at', last, mk, L, hL, hG, hC, hD⟩ := hW
  obtain ⟨gF, g1, g2, g3, g4, g5, g6⟩ := id hG
  have hE : E ≤ 22 := gF.1.2.2.2.2.2.2
  refine Ct.imp (sp_edge11 (d := 59) hL hE hC.1 g1 g2) (fun r s1 q => ?_)
  obtain ⟨v, rfl, a1, rfl⟩ := q
  refine ⟨v, rfl, ⟨rfl, hL⟩, Ct.imp (sp_edge12 (d := 59) hL hE hD.1 hD.2.1.1) (fun r s3 q => ?_)⟩
  obtain ⟨v', rfl, b1, rfl⟩ := q
  have c3 : Ch (fun a i => a = 179 ∧ i = 0) noL s1 (si s1 179 0 0) := Ch.rf.si ⟨rfl, rfl⟩
  exact ⟨v', rfl, c3.frl hL, a1.uniq (by omega) b1, R _ ⟨w, E, ρ, S, at', last, mk, L, c3.lay hL, hG, hC.r g2 c3 (fun a i h => by omega), hD.k c3 (fun i h => by omega) (fun a i h => by omega)⟩⟩
theorem cs_corner (hW : World σ) (R : ∀ s, World s → Q s) : CX11_corner g 60 [.ref 10, .int a, .int b] σ (fun v s1 => FrL σ s1 ∧ CX12_corner g 60 [.ref 179, .int a, .int b] s1 (fun v' s3 => FrL s1 s3 ∧ v = v' ∧ Q s3)) := by
  obtain ⟨w, E, ρ, S, at', last, mk, L, hL, hG, hC, hD⟩ := hW
  obtain ⟨gF, g1, g2, g3, g4, g5, g6⟩ := id hG
  have hE : E ≤ 22 := gF.1.2.2.2.2.2.2
  have hI := (g3 at' g1).1
  refine Ct.imp (sp_corner11 (d := 59) hL hE hC.1.1.2.1 hC.1.2.2.2.2.2.1 (Prt.cl (fun e b h => (hI e b h).2.1) E (Nat.le_refl _)) (cq_RQ (q := qw w E) (fun e b h => (hI e b h).2.1) E (Nat.le_refl _))) (fun r s1 q => ?_)
  obtain ⟨v, rfl, a1, rfl⟩ := q
  refine ⟨v, rfl, ⟨rfl, hL⟩, Ct.imp (sp_corner12 (d := 58) (q := qw w E) hL hE hD.1.2.1 hD.2.1.1 hI (fun i hi => ⟨(hD.1.2.2.1 i hi).2.2, qt_le _ _ _ _ _⟩)) (fun r s3 q => ?_)⟩
  obtain ⟨v', rfl, b1, -, c3⟩ := q
  exact ⟨v', rfl, c3.frl hL, a1.uniq (by omega) b1, R _ ⟨w, E, ρ, S, at', last, mk, L, c3.lay hL, hG, hC.r g2 c3 (fun a i h => by omega), hD.k c3 (fun i h => by omega) (fun a i h => by omega)⟩⟩
theorem cs_lacking (hW : World σ) (R : ∀ s, World s → Q s) : CX11_lacking g 60 [.ref 10, .int a] σ (fun v s1 => FrL σ s1 ∧ CX12_lacking g 60 [.ref 179, .int a] s1 (fun v' s3 => FrL s1 s3 ∧ v = v' ∧ Q s3)) := by
  obtain ⟨w, E, ρ, S, at', last, mk, L, hL, hG, hC, hD⟩ := hW
  obtain ⟨gF, g1, g2, g3, g4, g5, g6⟩ := id hG
  have hE : E ≤ 22 := gF.1.2.2.2.2.2.2
  obtain ⟨hI, h4⟩ := g3 at' g1
  refine Ct.imp (sp_lacking11 (d := 59) hL hE hC.1.2.2.2.2.2.2.1 hC.1.1.2.1 hI hC.1.2.2.2.2.2.1 h4) (fun r s1 q => ?_)
  obtain ⟨v, rfl, a1, rfl⟩ := q
  refine ⟨v, rfl, ⟨rfl, hL⟩, Ct.imp (sp_lacking12 (d := 57) hL hD.1 gF.1 hD.2.1.1 hI h4) (fun r s3 q => ?_)⟩
  obtain ⟨v', rfl, b1, -, c3⟩ := q
  exact ⟨v', rfl, c3.frl hL, a1.uniq b1, R _ ⟨w, E, ρ, S, at', last, mk, L, c3.lay hL, hG, hC.r g2 c3 (fun a i h => by omega), hD.k c3 (fun i h => by omega) (fun a i h => by omega)⟩⟩
theorem cs_beyond (hW : World σ) (R : ∀ s, World s → Q s) : CX11_beyond g 60 [.ref 10, .int a, .int b, .int e] σ (fun v s1 => FrL σ s1 ∧ CX12_beyond g 60 [.ref 179, .int a, .int b, .int e] s1 (fun v' s3 => FrL s1 s3 ∧ v = v' ∧ Q s3)) := by
  obtain ⟨w, E, ρ, S, at', last, mk, L, hL, hG, hC, hD⟩ := hW
  obtain ⟨gF, g1, g2, g3, g4, g5, g6⟩ := id hG
  have hn : fN w ≤ 10 := gF.1.2.1
  obtain ⟨hI, h4⟩ := g3 at' g1
  refine Ct.imp (sp_beyond11 (d := 59) hL gF.1 hC.1.2.2.2.2.2.2.1 hC.1.1.2.1 hI hC.1.2.2.2.2.2.2.2) (fun r s1 q => ?_)
  obtain ⟨v, rfl, a1, rfl⟩ := q
  refine ⟨v, rfl, ⟨rfl, hL⟩, Ct.imp (sp_beyond12 (d := 57) hL hD.1 gF.1 hD.2.1.1 hI) (fun r s3 q => ?_)⟩
  obtain ⟨v', rfl, b1, -, c3⟩ := q
  exact ⟨v', rfl, c3.frl hL, a1.uniq (by omega) b1, R _ ⟨w, E, ρ, S, at', last, mk, L, c3.lay hL, hG, hC.r g2 c3 (fun a i h => by omega), hD.k c3 (fun i h => by omega) (fun a i h => by omega)⟩⟩
theorem cs_way (hW : World σ) (R : ∀ s, World s → Q s) : CX11_way g 60 [.ref 10, .int a, .int b, .int e, .int f] σ (fun v s1 => FrL σ s1 ∧ CX12_way g 60 [.ref 179, .int a, .int b, .int e, .int f] s1 (fun v' s3 => FrL s1 s3 ∧ v = v' ∧ Q s3)) := by
  obtain ⟨w, E, ρ, S, at', last, mk, L, hL, hG, hC, hD⟩ := hW
  obtain ⟨gF, g1, g2, g3, g4, g5, g6⟩ := id hG
  have hn : fN w ≤ 10 := gF.1.2.1
  obtain ⟨hI, h4⟩ := g3 at' g1
  refine Ct.imp (sp_way11 (d := 57) hL gF.1 hC.1.2.2.2.2.2.2.1 hC.1.1.2.1 hI hC.1.2.2.2.2.2.2.2) (fun r s1 q => ?_)
  obtain ⟨v, rfl, a1, c1⟩ := q
  have hL1 := c1.lay hL
  have hC1 := hC.k g2 c1 (fun a i h => by omega) (hC.eE c1 (fun i _ _ => by omega) (fun i => by omega)) (hC.eK c1 (fun h => by rw [c1.i (by omega)]; exact h) (fun i _ _ => by omega) (fun i => by omega)) (hC.eO c1 (by omega) (fun a i _ _ => by omega)) (hC.eU c1 (fun i _ _ => by omega))
  have hD1 := hD.r c1 (fun a i h => by omega)
  refine ⟨v, rfl, c1.frl hL, Ct.imp (sp_way12 (d := 56) hL1 hD1.1 gF.1 hD1.2.1.1 hI) (fun r s3 q => ?_)⟩
  obtain ⟨v', rfl, b1, -, c3⟩ := q
  exact ⟨v', rfl, c3.frl hL1, a1.uniq (by omega) b1, R _ ⟨w, E, ρ, S, at', last, mk, L, c3.lay hL1, hG, hC1.r g2 c3 (fun a i h => by omega), hD1.k c3 (fun i h => by omega) (fun a i h => by omega)⟩⟩
theorem cs_farthest (hW : World σ) (R : ∀ s, World s → Q s) : CX11_farthest g 60 [.ref 10, .int a] σ (fun v s1 => FrL σ s1 ∧ CX12_farthest g 60 [.ref 179, .int a] s1 (fun v' s3 => FrL s1 s3 ∧ v = v' ∧ Q s3)) := by
  obtain ⟨w, E, ρ, S, at', last, mk, L, hL, hG, hC, hD⟩ := hW
  obtain ⟨gF, g1, g2, g3, g4, g5, g6⟩ := id hG
  have hn : fN w ≤ 10 := gF.1.2.1
  obtain ⟨hI, h4⟩ := g3 at' g1
  refine Ct.imp (sp_farthest11 (d := 57) hL gF.1 hC.1.2.2.2.2.2.2.1 hC.1.1.2.1 hI hC.1.2.2.2.2.2.2.2 hC.2.2.2.2.1) (fun r s1 q => ?_)
  obtain ⟨v, rfl, a1, k1, c1⟩ := q
  have hL1 := c1.lay hL
  have hC1 := hC.k g2 c1 (fun a i h => by omega) (hC.eE c1 (fun i _ _ => by omega) (fun i => by omega)) (hC.eK c1 (fun h => by rw [c1.i (by omega)]; exact h) (fun i _ _ => by omega) (fun i => by omega)) k1 (hC.eU c1 (fun i _ _ => by omega))
  have hD1 := hD.r c1 (fun a i h => by omega)
  refine ⟨v, rfl, c1.frl hL, Ct.imp (sp_farthest12 (d := 56) hL1 hD1.1 gF.1 hD1.2.1.1 hI) (fun r s3 q => ?_)⟩
  obtain ⟨v', rfl, b1, -, c3⟩ := q
  exact ⟨v', rfl, c3.frl hL1, a1.uniq (by omega) b1, R _ ⟨w, E, ρ, S, at', last, mk, L, c3.lay hL1, hG, hC1.r g2 c3 (fun a i h => by omega), hD1.k c3 (fun i h => by omega) (fun a i h => by omega)⟩⟩
theorem cs_nets (hW : World σ) (R : ∀ s, World s → Q s) : CX11_nets g 60 [.ref 10, .int a] σ (fun v s1 => FrL σ s1 ∧ CX12_nets g 60 [.ref 179, .int a] s1 (fun v' s3 => FrL s1 s3 ∧ v = v' ∧ Q s3)) := by
  obtain ⟨w, E, ρ, S, at', last, mk, L, hL, hG, hC, hD⟩ := hW
  obtain ⟨gF, g1, g2, g3, g4, g5, g6⟩ := id hG
  obtain ⟨hI, h4⟩ := g3 at' g1
  refine Ct.imp (sp_nets11 (d := 39) hL gF.1 hC.1.2.2.2.2.2.2.1 hC.1.1.2.1 hI hC.1.2.2.2.2.2.2.2 hC.2.2.2.2.2.1) (fun r s1 q => ?_)
  obtain ⟨v, rfl, a1, k1, c1⟩ := q
  have hL1 := c1.lay hL
  have hC1 := hC.k g2 c1 (fun a i h => by omega) (hC.eE c1 (fun i _ _ => by omega) (fun i => by omega)) (hC.eK c1 (fun h => by rw [c1.i (by omega)]; exact h) (fun i _ _ => by omega) (fun i => by omega)) (hC.eO c1 (by omega) (fun a i _ _ => by omega)) k1
  have hD1 := hD.r c1 (fun a i h => by omega)
  refine ⟨v, rfl, c1.frl hL, Ct.imp (sp_nets12 (d := 48) hL1 hD1.1 gF.1 hD1.2.1.1 hI) (fun r s3 q => ?_)⟩
  obtain ⟨v', rfl, b1, -, c3⟩ := q
  exact ⟨v', rfl, c3.frl hL1, a1.uniq b1, R _ ⟨w, E, ρ, S, at', last, mk, L, c3.lay hL1, hG, hC1.r g2 c3 (fun a i h => by omega), hD1.k c3 (fun i h => by omega) (fun a i h => by omega)⟩⟩
theorem cs_count (hW : World σ) (R : ∀ s, World s → Q s) : CX11_count g 60 [.ref 10, .int a] σ (fun v s1 => FrL σ s1 ∧ CX12_count g 60 [.ref 179, .int a] s1 (fun v' s3 => FrL s1 s3 ∧ v = v' ∧ Q s3)) := by
  obtain ⟨w, E, ρ, S, at', last, mk, L, hL, hG, hC, hD⟩ := hW
  obtain ⟨gF, g1, g2, g3, g4, g5, g6⟩ := id hG
  obtain ⟨hI, h4⟩ := g3 at' g1
  refine Ct.imp (sp_count11 (d := 59) hL gF.1 hC.1 g1 hI hC.2.2.2.2.2.2.2.1) (fun r s1 q => ?_)
  obtain ⟨v, rfl, a1, rfl⟩ := q
  refine ⟨v, rfl, ⟨rfl, hL⟩, Ct.imp (sp_count12 (d := 58) hL hD.1 gF.1 hD.2.1 g1 hI hD.2.2.2.2.2.1) (fun r s3 q => ?_)⟩
  obtain ⟨v', rfl, b1, rfl⟩ := q
  have c3 : Ch (fun a i => a = 179 ∧ i = 0) noL s1 (si s1 179 0 0) := Ch.rf.si ⟨rfl, rfl⟩
  exact ⟨v', rfl, c3.frl hL, a1.uniq b1, R _ ⟨w, E, ρ, S, at', last, mk, L, c3.lay hL, hG, hC.r g2 c3 (fun a i h => by omega), hD.k c3 (fun i h => by omega) (fun a i h => by omega)⟩⟩
end CASES
