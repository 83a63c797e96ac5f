/-! ===== one call on both sides keeps the world: feed, figure, mark, shortest, round ===== -/
theorem TC.small {σ : PS} {L : List Nat} (h : TC σ L) (i : Nat) : lc L i < 127 := by
  unfold lc
  rw [List.getD_eq_getElem?_getD]
  cases e : L[i]? with
  | none => exact (by decide : (0 : Nat) < 127)
  | some c =>
    have := (h.2.2 i c e).2
    show c < 127
    omega
section SQ16
variable {σ : PS} {w : Nat → Nat} {E : Nat} {ρ : Nat → Nat} {S : Nat → Mat} {at' last : Nat} {mk : Nat → Option MkT} {L : List Nat} {v : Option Nat}
theorem CA.sq16 {n : Nat} {x y : Nat → Nat} (h : CA σ n x y E ρ S at' last) : CA (sq σ 16 4 v) n x y E ρ S at' last :=
  ⟨h.1, ⟨fun i hi => by rw [mr_sq, if_neg (by omega)]; exact h.2.1.1 i hi, h.2.1.2⟩, h.2.2⟩
theorem CW.sq16 (h : CW σ w E ρ S at' last mk L) : CW (sq σ 16 4 v) w E ρ S at' last mk L := ⟨h.1.sq16, h.2⟩
theorem DW.sq16 (h : DW σ w E S at' last mk L) : DW (sq σ 16 4 v) w E S at' last mk L := h
end SQ16
theorem GoodS.nm (w : Nat → Nat) (E : Nat) : GoodS E (qw w E) (fun _ => nm) 0 := fun i _ => ⟨Inv.nm _, A4.nm (fun i => qt_le _ _ _ _ i)⟩
section CASES
variable {g : GV} {σ : PS} {Q : PS → Prop} {a b e f : Int32}
theorem cs_feed {a b e : Int64} (hW : World σ) (R : ∀ s, World s → Q s) : CX11_feed g 60 [.ref 10, .long a, .long b, .long e] σ (fun v s1 => FrL σ s1 ∧ CX12_feed g 60 [.ref 179, .long a, .long b, .long e] s1 (fun v' s3 => FrL s1 s3 ∧ v = v' ∧ Q s3)) := by
  obtain ⟨w, E, ρ, S, at', last, mk, L, hL, hG, hC, hD⟩ := hW
  obtain ⟨gF, g1, g2, g3, g4, g5, g6⟩ := id hG
  refine Ct.imp (sp_feed11 (d := 59) hL hC.2.2.2.2.2.2.2) (fun r s1 q => ?_)
  obtain ⟨v, rfl, a1, k1, c1⟩ := q
  have hL1 := c1.lay hL
  have hD1 := hD.r c1 (fun a i h => by simp only [ch1112] at h; omega)
  have hC1 : CW s1 w E ρ S at' last mk (fd a b e 24 L) := ⟨hC.1.ch c1 g2 (fun a i h => by simp only [ch1112]; omega), hC.2.1.ch c1 (fun i => by simp only [ch1112]; omega), hC.eE c1 (fun i _ _ => by simp only [ch1112]; omega) (fun i => by simp only [ch1112]; omega), hC.eK c1 (fun h => by rw [c1.i (by simp only [ch1112]; omega)]; exact h) (fun i _ _ => by simp only [ch1112]; omega) (fun i => by simp only [ch1112]; omega), hC.eO c1 (by simp only [ch1112]; omega) (fun a i _ _ => by simp only [ch1112]; omega), hC.eU c1 (fun i _ _ => by simp only [ch1112]; omega), hC.2.2.2.2.2.2.1.ch c1 (fun a i _ _ => by simp only [ch1112]; omega), k1⟩
  refine ⟨v, rfl, c1.frl hL, Ct.imp (sp_feed12 (d := 60) hL1 g5 hD1.2.2.2.2.2) (fun r s3 q => ?_)⟩
  obtain ⟨v', rfl, b1, b2, -, c3⟩ := q
  obtain ⟨d1, d2, d3, d4, d5, d6⟩ := hD1
  refine ⟨v', rfl, c3.frl hL1, a1.trans b1.symm, R _ ⟨w, E, ρ, S, at', last, mk, fd a b e 24 L, c3.lay hL1, ⟨gF, g1, g2, g3, g4, k1.2.1, k1.small⟩, hC1.r g2 c3 (fun a i h => by omega), ?_⟩⟩
  refine ⟨d1.ch c3 (by omega) (by omega) (fun a i _ _ => by omega), d2.ch c3 (by omega) (by omega) (fun i => by omega) (fun i => by omega) (fun i => by omega), fun q => ?_, fun q r => ?_, d5.ch c3 (fun a i _ _ => by omega), b2⟩
  · rw [c3.i (by omega)] at q
    exact (d3 q).ch c3 (by omega) (fun i => by omega)
  · rw [c3.i (by omega)] at q r
    exact (d4 q r).ch c3 (fun i => by omega)
theorem cs_figure (hW : World σ) (R : ∀ s, World s → Q s) : CX11_figure g 60 [.ref 10] σ (fun v s1 => FrL σ s1 ∧ CX12_figure g 60 [.ref 179] s1 (fun v' s3 => FrL s1 s3 ∧ v = v' ∧ Q s3)) := by
  obtain ⟨w, E, ρ, S, at', last, mk, L, hL, hG, hC, hD⟩ := hW
  obtain ⟨gF, g1, g2, g3, g4, g5, g6⟩ := id hG
  have hlc : ∀ i, lc [] i < 127 := fun i => by
    unfold lc
    rw [List.getD_eq_getElem?_getD]
    exact (by decide : (0 : Nat) < 127)
  refine Ct.imp (sp_figure11 (d := 43) (hsg_is g) hL hC.2.2.2.2.2.2.2 hC.1.2.1) (fun r s1 q => ?_)
  obtain ⟨v, rfl, o, a1, k1, k2, k3⟩ := q
  have hC0 := hC.sq16 (v := some 11)
  have hD0 := hD.sq16 (v := some 11)
  match o, a1, k2, k3 with
  | none, a1, k2, k3 =>
    have c1 := k2 rfl
    have hL1 : Lay s1 := c1.lay hL.sqT
    have hD1 : DW s1 w E S at' last mk L := hD0.r c1 (fun a i h => by simp only [chFg, chRT, chF] at h; omega)
    have hC1 : CW s1 w E ρ S at' last mk [] := ⟨hC0.1.ch c1 g2 (fun a i h => by simp only [chFg, chRT, chF]; omega), hC0.2.1.ch c1 (fun i => by simp only [chFg, chRT, chF]; omega), hC0.eE c1 (fun i _ _ => by simp only [chFg, chRT, chF]; omega) (fun i => by simp only [chFg, chRT, chF]; omega), hC0.eK c1 (fun h => by rw [c1.i (by simp only [chFg, chRT, chF]; omega)]; exact h) (fun i _ _ => by simp only [chFg, chRT, chF]; omega) (fun i => by simp only [chFg, chRT, chF]; omega), hC0.eO c1 (by simp only [chFg, chRT, chF]; omega) (fun a i _ _ => by simp only [chFg, chRT, chF]; omega), hC0.eU c1 (fun i _ _ => by simp only [chFg, chRT, chF]; omega), hC0.2.2.2.2.2.2.1.ch c1 (fun a i _ _ => by simp only [chFg, chRT, chF]; omega), k1⟩
    refine ⟨v, rfl, ⟨c1.1.1, hL1⟩, Ct.imp (sp_figure12 (d := 54) hL1 g5 g6 hD1.2.2.2.2.2 hD1.1) (fun r s3 q => ?_)⟩
    obtain ⟨v', rfl, o', b1, -, b2, b3, b4⟩ := q
    obtain ⟨u1, u2, -⟩ := a1.uniq b1
    obtain ⟨b5, c3⟩ := b3 (u2.mp rfl)
    obtain ⟨d1, d2, d3, d4, d5, d6⟩ := hD1
    refine ⟨v', rfl, c3.frl hL1, u1, R _ ⟨w, E, ρ, S, at', last, mk, [], c3.lay hL1, ⟨gF, g1, g2, g3, g4, Nat.zero_le _, hlc⟩, hC1.r g2 c3 (fun a i h => by simp only [chFgR] at h; omega), ?_⟩⟩
    refine ⟨b5, d2.ch c3 (by simp only [chFgR]; omega) (by simp only [chFgR]; omega) (fun i => by simp only [chFgR]; omega) (fun i => by simp only [chFgR]; omega) (fun i => by simp only [chFgR]; omega), fun q => ?_, fun q r => ?_, d5.ch c3 (fun a i _ _ => by simp only [chFgR]; omega), b2⟩
    · rw [c3.i (by simp only [chFgR]; omega)] at q
      exact (d3 q).ch c3 (by simp only [chFgR]; omega) (fun i => by simp only [chFgR]; omega)
    · rw [c3.i (by simp only [chFgR]; omega)] at q r
      exact (d4 q r).ch c3 (fun i => by simp only [chFgR]; omega)
  | some (w2, E2), a1, k2, k3 =>
    obtain ⟨gF2, m1, m2, m3, m4, m5, m6, c1⟩ := k3 w2 E2 rfl
    have hL1 : Lay s1 := c1.lay hL.sqT
    have hn2 : fN w2 ≤ 10 := gF2.1.2.1
    have hD1 : DW s1 w E S at' last mk L := hD0.r c1 (fun a i h => by simp only [chFgT, chFg, chRT, chF, chTk, chSt] at h; omega)
    have hC1 : CW s1 w2 E2 ρ (fun _ => nm) 0 0 mk [] := ⟨m1, m2, fun q => absurd m3 q, fun q => absurd m4 q, LKo.no m5 hn2, UKo.no m6, hC0.2.2.2.2.2.2.1.ch c1 (fun a i _ _ => by simp only [chFgT, chFg, chRT, chF, chTk, chSt]; omega), k1⟩
    refine ⟨v, rfl, ⟨c1.1.1, hL1⟩, Ct.imp (sp_figure12 (d := 54) hL1 g5 g6 hD1.2.2.2.2.2 hD1.1) (fun r s3 q => ?_)⟩
    obtain ⟨v', rfl, o', b1, -, b2, b3, b4⟩ := q
    obtain ⟨u1, u2, u3⟩ := a1.uniq b1
    match o', b1, b4, u2, u3 with
    | none, _, _, u2, _ => exact absurd (u2.mpr rfl) (fun z => nomatch z)
    | some (w3, E3), b1, b4, u2, u3 =>
      obtain ⟨ew, eE⟩ := u3 w2 E2 w3 E3 rfl rfl
      subst ew
      subst eE
      obtain ⟨-, p1, p2, p3, c3⟩ := b4 w2 E2 rfl
      refine ⟨v', rfl, c3.frl hL1, u1, R _ ⟨w2, E2, ρ, fun _ => nm, 0, 0, mk, [], c3.lay hL1, ⟨gF2, Nat.le_refl _, by decide, GoodS.nm w2 E2, g4, Nat.zero_le _, hlc⟩, hC1.r (by decide) c3 (fun a i h => by simp only [chFgS, chFgR, chSh] at h; omega), p1, p2, fun q => absurd p3 q, fun q => absurd p3 q, hD1.2.2.2.2.1.ch c3 (fun a i _ _ => by simp only [chFgS, chFgR, chSh]; omega), b2⟩⟩
theorem cs_mark (hW : World σ) (R : ∀ s, World s → Q s) : CX11_mark g 60 [.ref 10, .int a, .int b] σ (fun v s1 => FrL σ s1 ∧ CX12_mark g 60 [.ref 179, .int a, .int b] s1 (fun v' s3 => FrL s1 s3 ∧ v = v' ∧ Q s3)) := by
  obtain ⟨w, E, ρ, S, at', last, mk, L, hL, hG, hC, hD⟩ := hW
  obtain ⟨gF, g1, g2, g3, g4, g5, g6⟩ := id hG
  have inj4 : ∀ i j, i < 4 → j < 4 → nI i = nI j → i = j := fun i j hi hj h => eqn (by omega) (by omega) h
  refine Ct.imp (sp_mark11 (d := 56) hL hC.1 g1 g2 hC.2.1 hC.2.2.2.2.2.2.1 g4) (fun r s1 q => ?_)
  obtain ⟨v, rfl, a1⟩ := q
  rcases a1 with ⟨h1, rfl, rfl⟩ | ⟨i, hi, rfl, hb, rfl, k1, c1⟩ | ⟨i, t, hi, rfl, hb, ht, rfl, m1, m2, m3, m4, m5, m6, c1⟩
  · refine ⟨0, rfl, ⟨rfl, hL⟩, Ct.imp (sp_mark12 (d := 57) hL hD.1 hD.2.1 hD.2.2.2.2.1 g4) (fun r s3 q => ?_)⟩
    obtain ⟨v', rfl, -, b1⟩ := q
    rcases b1 with ⟨-, rfl, rfl⟩ | ⟨j, hj, ej, hb2, -⟩ | ⟨j, t, hj, ej, hb2, ht, -⟩
    · have c3 : Ch (fun a i => a = 179 ∧ i = 0) noL s1 (si s1 179 0 0) := Ch.rf.si ⟨rfl, rfl⟩
      exact ⟨0, rfl, c3.frl hL, rfl, R _ ⟨w, E, ρ, S, at', last, mk, L, c3.lay hL, hG, hC.r g2 c3 (fun a i h => by omega), hD.k c3 (fun i h => by omega) (fun a i h => by omega)⟩⟩
    · exact absurd hb2 (h1 j hj ej).1
    · rw [(h1 j hj ej).2] at ht
      exact nomatch ht
  · have hL1 := c1.lay hL
    have hD1 := hD.r c1 (fun a i h => by simp only [chMkC] at h; omega)
    have hC1 : CW s1 w E ρ S at' last (mkS mk i (w, E, S at')) L := ⟨hC.1.ch c1 g2 (fun a i h => by simp only [chMkC]; omega), hC.2.1.ch c1 (fun i => by simp only [chMkC]; omega), hC.eE c1 (fun i _ _ => by simp only [chMkC]; omega) (fun i => by simp only [chMkC]; omega), hC.eK c1 (fun h => by rw [c1.i (by simp only [chMkC]; omega)]; exact h) (fun i _ _ => by simp only [chMkC]; omega) (fun i => by simp only [chMkC]; omega), hC.eO c1 (by simp only [chMkC]; omega) (fun a i _ _ => by simp only [chMkC]; omega), hC.eU c1 (fun i _ _ => by simp only [chMkC]; omega), k1, hC.2.2.2.2.2.2.2.ch c1 (by simp only [chMkC]; omega) (fun i => by simp only [chMkC]; omega)⟩
    refine ⟨1, rfl, c1.frl hL, Ct.imp (sp_mark12 (d := 57) hL1 hD1.1 hD1.2.1 hD1.2.2.2.2.1 g4) (fun r s3 q => ?_)⟩
    obtain ⟨v', rfl, -, b1⟩ := q
    rcases b1 with ⟨z1, -, -⟩ | ⟨j, hj, ej, hb2, rfl, b2, c3⟩ | ⟨j, t, hj, ej, hb2, ht, -⟩
    · exact absurd hb (z1 i hi rfl).1
    · have eij := inj4 i j hi hj ej
      subst eij
      obtain ⟨d1, d2, d3, d4, d5, d6⟩ := hD1
      have gM : MkG (mkS mk i (w, E, S at')) := fun j t ht => by
        unfold mkS at ht
        by_cases z : j = i
        · rw [if_pos z] at ht
          cases ht
          exact ⟨gF, (g3 at' g1).1, (g3 at' g1).2⟩
        · rw [if_neg z] at ht
          exact g4 j t ht
      refine ⟨1, rfl, c3.frl hL1, rfl, R _ ⟨w, E, ρ, S, at', last, mkS mk i (w, E, S at'), L, c3.lay hL1, ⟨gF, g1, g2, g3, gM, g5, g6⟩, hC1.r g2 c3 (fun a i h => by simp only [chMkR] at h; omega), ?_⟩⟩
      refine ⟨d1.ch c3 (by simp only [chMkR]; omega) (by simp only [chMkR]; omega) (fun a i _ _ => by simp only [chMkR]; omega), d2.ch c3 (by simp only [chMkR]; omega) (by simp only [chMkR]; omega) (fun i => by simp only [chMkR]; omega) (fun i => by simp only [chMkR]; omega) (fun i => by simp only [chMkR]; omega), fun q => ?_, fun q r => ?_, b2, d6.ch c3 (by simp only [chMkR]; omega) (fun i => by simp only [chMkR]; omega)⟩
      · rw [c3.i (by simp only [chMkR]; omega)] at q
        exact (d3 q).ch c3 (by simp only [chMkR]; omega) (fun i => by simp only [chMkR]; omega)
      · rw [c3.i (by simp only [chMkR]; omega)] at q r
        exact (d4 q r).ch c3 (fun i => by simp only [chMkR]; omega)
    · exact absurd hb hb2
  · have hL1 := c1.lay hL
    have hn2 : fN t.1 ≤ 10 := (g4 i t ht).1.1.2.1
    have hD1 := hD.r c1 (fun a i h => by simp only [chTk, chF, chSt] at h; omega)
    have hC1 : CW s1 t.1 t.2.1 ρ (fun _ => t.2.2) 0 0 mk L := ⟨m1, m2, fun q => absurd m3 q, fun q => absurd m4 q, LKo.no m5 hn2, UKo.no m6, hC.2.2.2.2.2.2.1.ch c1 (fun a i _ _ => by simp only [chTk, chF, chSt]; omega), hC.2.2.2.2.2.2.2.ch c1 (by simp only [chTk, chF, chSt]; omega) (fun i => by simp only [chTk, chF, chSt]; omega)⟩
    refine ⟨1, rfl, c1.frl hL, Ct.imp (sp_mark12 (d := 57) hL1 hD1.1 hD1.2.1 hD1.2.2.2.2.1 g4) (fun r s3 q => ?_)⟩
    obtain ⟨v', rfl, -, b1⟩ := q
    rcases b1 with ⟨z1, -, -⟩ | ⟨j, hj, ej, hb2, -⟩ | ⟨j, t2, hj, ej, hb2, ht2, rfl, b2, b3, b4, b5, c3⟩
    · rw [(z1 i hi rfl).2] at ht
      exact nomatch ht
    · exact absurd hb2 hb
    · have eij := inj4 i j hi hj ej
      subst eij
      have et : t = t2 := Option.some.inj (ht.symm.trans ht2)
      subst et
      exact ⟨1, rfl, c3.frl hL1, rfl, R _ ⟨t.1, t.2.1, ρ, fun _ => t.2.2, 0, 0, mk, L, c3.lay hL1, ⟨(g4 i t ht).1, Nat.le_refl _, by decide, fun _ _ => (g4 i t ht).2, g4, g5, g6⟩, hC1.r (by decide) c3 (fun a i h => by simp only [chMkB, chSh] at h; omega), b2, b3, fun q => absurd b4 q, fun q => absurd b4 q, b5, hD1.2.2.2.2.2.ch c3 (by simp only [chMkB, chSh]; omega) (fun i => by simp only [chMkB, chSh]; omega)⟩⟩
theorem CtW.imp {y : MethodName} {cy : ByteArray} {nLy d mc ms : Nat} {ret : Option FieldType} {hh : List (Nat × Nat × Nat × Nat)} {vs : List Value} {P P' : Option Value → PS → Prop} (h : CtW g y cy nLy ret hh d mc ms vs σ P) (hi : ∀ r s, P r s → P' r s) : CtW g y cy nLy ret hh d mc ms vs σ P' := Met_imp h hi
theorem lgc (x : Int64) : lg_cmp x x = 0 := by
  unfold lg_cmp
  simp
theorem ml_out (t : PS) (v : Int64) : ml (sj t 234 0 v) 234 0 = v := by
  show (if 234 = 234 then vp_updL (ml t 234) 0 v else ml t 234) 0 = v
  rw [if_pos rfl]
  rfl
theorem cs_shortest (hfl : (gl g).stackTraces = false) (hW : World σ) (R : ∀ s, World s → Q s) : CtW g yL_shortest cL_shortest 6 (some FieldType.int) hhS 60 1 6 [.ref 10, .int a, .int b, .int e, .ref 234] σ (PI (fun v1 s2 => Lay s2 ∧ kd s2 234 = some (.inr (1, 1)) ∧ CX12_shortest g 60 [.ref 179, .int a, .int b, .int e] s2 (fun v4 s3 => FrL s2 s3 ∧ CX12_thrown g 60 [.ref 179] s3 (fun v6 s5 => FrL s3 s5 ∧ v6 = v1 ∧ (¬ v1 = 0 → Q s5) ∧ (v1 = 0 → (lg_cmp (ml s5 234 (Int32.toNatClampNeg 0)) (Int32.toInt64 v4)) = 0 ∧ Q s5))))) := by
  obtain ⟨w, E, ρ, S, at', last, mk, L, hL, hG, hC, hD⟩ := hW
  obtain ⟨gF, g1, g2, g3, g4, g5, g6⟩ := id hG
  have hn : fN w ≤ 10 := gF.1.2.1
  obtain ⟨hI, h4⟩ := g3 at' g1
  have z0 : Int32.toNatClampNeg 0 = 0 := rfl
  refine CtW.imp (law_shortest (d := 59) (o := 234) (z := 1) (kd_10 hL) (by decide) (fun v s q => by rw [q.2.2.1.1]; exact kd_234 hL) (sp_shortest11 (d := 56) hfl hL gF.1 hC.1.2.2.2.2.2.2.1 hC.1.1.2.1 hI hC.1.2.2.2.2.2.2.2 hC.2.2.2.2.1)) (fun r s2 q => ?_)
  obtain ⟨v1, rfl, ⟨rfl, x, t, ⟨a1, a2, c1⟩, rfl⟩ | ⟨rfl, q⟩⟩ := q
  · have c2 := ch_out (v := x.toInt64) c1
    have hL2 := c2.lay hL
    have hC2 := hC.k g2 c2 (fun a i h => by omega) (hC.eE c2 (fun i _ _ => by omega) (fun i => by omega)) (hC.eK c2 (fun h => by rw [c2.i (by omega)]; exact h) (fun i _ _ => by omega) (fun i => by omega)) a2 (hC.eU c2 (fun i _ _ => by omega))
    have hD2 := hD.r c2 (fun a i h => by omega)
    refine ⟨0, rfl, hL2, kd_234 hL2, Ct.imp (sp_shortest12 (d := 56) hL2 hD2.1 gF.1 hD2.2.1.1 hI) (fun r s3 q => ?_)⟩
    obtain ⟨v4, rfl, b1, c3⟩ := q
    have hL3 := c3.lay hL2
    obtain ⟨u1, u2⟩ := shoV.same (by omega) a1 b1
    refine ⟨v4, rfl, c3.frl hL2, vcX12_thrown hL3 ⟨⟨rfl, hL3⟩, u1, fun z => absurd rfl z, fun _ => ⟨?_, R _ ⟨w, E, ρ, S, at', last, mk, L, hL3, hG, hC2.r g2 c3 (fun a i h => by omega), hD2.k c3 (fun i h => by omega) (fun a i h => by omega)⟩⟩⟩⟩
    rw [z0, c3.l (fun z => z), ml_out, u2]
    exact lgc _
  · obtain ⟨a1, a2, c2⟩ := q.out
    have hL2 := c2.lay hL
    have hC2 := hC.k g2 c2 (fun a i h => by omega) (hC.eE c2 (fun i _ _ => by omega) (fun i => by omega)) (hC.eK c2 (fun h => by rw [c2.i (by omega)]; exact h) (fun i _ _ => by omega) (fun i => by omega)) a2 (hC.eU c2 (fun i _ _ => by omega))
    have hD2 := hD.r c2 (fun a i h => by omega)
    refine ⟨1, rfl, hL2, kd_234 hL2, Ct.imp (sp_shortest12 (d := 56) hL2 hD2.1 gF.1 hD2.2.1.1 hI) (fun r s3 q => ?_)⟩
    obtain ⟨v4, rfl, b1, c3⟩ := q
    have hL3 := c3.lay hL2
    exact ⟨v4, rfl, c3.frl hL2, vcX12_thrown hL3 ⟨⟨rfl, hL3⟩, shoP.same a1 b1, fun _ => R _ ⟨w, E, ρ, S, at', last, mk, L, hL3, hG, hC2.r g2 c3 (fun a i h => by omega), hD2.k c3 (fun i h => by omega) (fun a i h => by omega)⟩, fun z => absurd z (by decide)⟩⟩
theorem cs_round (hfl : (gl g).stackTraces = false) (hW : World σ) (R : ∀ s, World s → Q s) : CtW g yL_round cL_round 5 (some FieldType.int) hhR 60 1 6 [.ref 10, .int a, .int b, .ref 234] σ (PI (fun v1 s2 => Lay s2 ∧ kd s2 234 = some (.inr (1, 1)) ∧ CX12_round g 60 [.ref 179, .int a, .int b] s2 (fun v4 s3 => FrL s2 s3 ∧ CX12_thrown g 60 [.ref 179] s3 (fun v6 s5 => FrL s3 s5 ∧ v6 = v1 ∧ (¬ v1 = 0 → Q s5) ∧ (v1 = 0 → (lg_cmp (ml s5 234 (Int32.toNatClampNeg 0)) (Int32.toInt64 v4)) = 0 ∧ Q s5))))) := by
  obtain ⟨w, E, ρ, S, at', last, mk, L, hL, hG, hC, hD⟩ := hW
  obtain ⟨gF, g1, g2, g3, g4, g5, g6⟩ := id hG
  have hn : fN w ≤ 10 := gF.1.2.1
  obtain ⟨hI, h4⟩ := g3 at' g1
  have z0 : Int32.toNatClampNeg 0 = 0 := rfl
  refine CtW.imp (law_round (d := 59) (o := 234) (z := 1) (kd_10 hL) (by decide) (fun v s q => by rw [q.2.2.1.1]; exact kd_234 hL) (sp_round11 (d := 56) hfl hL gF.1 hC.1.2.2.2.2.2.2.1 hC.1.1.2.1 hI hC.1.2.2.2.2.2.2.2 hC.2.2.2.2.1)) (fun r s2 q => ?_)
  obtain ⟨v1, rfl, ⟨rfl, x, t, ⟨a1, a2, c1⟩, rfl⟩ | ⟨rfl, q⟩⟩ := q
  · have c2 := ch_out (v := x.toInt64) c1
    have hL2 := c2.lay hL
    have hC2 := hC.k g2 c2 (fun a i h => by omega) (hC.eE c2 (fun i _ _ => by omega) (fun i => by omega)) (hC.eK c2 (fun h => by rw [c2.i (by omega)]; exact h) (fun i _ _ => by omega) (fun i => by omega)) a2 (hC.eU c2 (fun i _ _ => by omega))
    have hD2 := hD.r c2 (fun a i h => by omega)
    refine ⟨0, rfl, hL2, kd_234 hL2, Ct.imp (sp_round12 (d := 56) hL2 hD2.1 gF.1 hD2.2.1.1 hI) (fun r s3 q => ?_)⟩
    obtain ⟨v4, rfl, b1, c3⟩ := q
    have hL3 := c3.lay hL2
    obtain ⟨u1, u2⟩ := rouV.same (by omega) a1 b1
    refine ⟨v4, rfl, c3.frl hL2, vcX12_thrown hL3 ⟨⟨rfl, hL3⟩, u1, fun z => absurd rfl z, fun _ => ⟨?_, R _ ⟨w, E, ρ, S, at', last, mk, L, hL3, hG, hC2.r g2 c3 (fun a i h => by omega), hD2.k c3 (fun i h => by omega) (fun a i h => by omega)⟩⟩⟩⟩
    rw [z0, c3.l (fun z => z), ml_out, u2]
    exact lgc _
  · obtain ⟨a1, a2, c2⟩ := q.out
    have hL2 := c2.lay hL
    have hC2 := hC.k g2 c2 (fun a i h => by omega) (hC.eE c2 (fun i _ _ => by omega) (fun i => by omega)) (hC.eK c2 (fun h => by rw [c2.i (by omega)]; exact h) (fun i _ _ => by omega) (fun i => by omega)) a2 (hC.eU c2 (fun i _ _ => by omega))
    have hD2 := hD.r c2 (fun a i h => by omega)
    refine ⟨1, rfl, hL2, kd_234 hL2, Ct.imp (sp_round12 (d := 56) hL2 hD2.1 gF.1 hD2.2.1.1 hI) (fun r s3 q => ?_)⟩
    obtain ⟨v4, rfl, b1, c3⟩ := q
    have hL3 := c3.lay hL2
    exact ⟨v4, rfl, c3.frl hL2, vcX12_thrown hL3 ⟨⟨rfl, hL3⟩, rouP.same a1 b1, fun _ => R _ ⟨w, E, ρ, S, at', last, mk, L, hL3, hG, hC2.r g2 c3 (fun a i h => by omega), hD2.k c3 (fun i h => by omega) (fun a i h => by omega)⟩, fun z => absurd z (by decide)⟩⟩
end CASES
