/-! ===== the reference's does: behind the E of a STEP ===== -/
theorem sp_does96 {g : GV} {d K n b : Nat} {rw' : Nat → Nat} {x y w h : Int32} {τ : PS} {P : Int32 → PS → Prop} (hL : Lay τ) (hn : n < 200) (hK : 4 ≤ K ∧ K ≤ 6) (h181 : mi τ 181 n = nI (K - 4)) (h183 : mi τ 183 n = nI b) (hS : Sq τ (grd rw'))
    (hok : ∀ s r2, doF rw' K (x, y, w, h) = .inl r2 → Sq s (grd r2) → Ch chFl noL τ s → P 1 s)
    (hbad : ∀ s k, doF rw' K (x, y, w, h) = .inr k → mi s 179 9 = nI (k + 16 * b) → Ch chFl noL τ s → P 0 s) :
    VX12_does g (d + 1) P 96 [some (.ref 179), some (.int (nI n)), some (.int x), some (.int y), some (.int w), none, none, none] [.int h] τ := by
  have i01 : ∀ (q : Prop) [Decidable q], ((if q then (1 : Int32) else 0) = 0) = ¬ q := fun q _ => by
    by_cases h : q
    · rw [if_pos h]; exact propext ⟨fun e => absurd e (by decide), fun e => absurd h e⟩
    · rw [if_neg h]; exact propext ⟨fun _ => h, fun _ => rfl⟩
  have no : ∀ k : Nat, doF rw' K (x, y, w, h) = .inr k → vp_in (nI n) 200 ∧ CX12_wrongAt g d [.ref 179, .int (nI k), .int (mi τ 183 (Int32.toNatClampNeg (nI n)))] τ (fun v s => Fr τ s ∧ (v = 0 ∨ v = 1) ∧ P v s) := by
    intro k e
    rw [zIN (by omega) (by omega), zCL (by omega), h183]
    refine ⟨hn, vcX12_wrongAt hL _ _ (fun s1 e1 => ⟨by rw [e1]; exact Fr.rf.si, Or.inl rfl, hbad s1 k e ?_ (by rw [e1]; exact Ch.rf.si (by omega))⟩)⟩
    rw [e1, mi_si, if_pos ⟨rfl, rfl⟩, lit32 16, pk_mul, nI_add]
  refine vcX12_does_96 hL _ _ _ _ _ (Ct.imp (sp_within hL) (fun r s q => ?_))
  obtain ⟨v, rfl, rfl, rfl⟩ := q
  refine ⟨_, rfl, Fr.rf, ?_⟩
  rw [i01]
  refine ⟨fun q => no 4 (doF_4 (fun z => q (onF_in z.1).1)), fun q1 => ?_⟩
  have q1 := Classical.not_not.mp q1
  refine Ct.imp (sp_within hL) (fun r s q => ?_)
  obtain ⟨v, rfl, rfl, rfl⟩ := q
  refine ⟨_, rfl, Fr.rf, ?_⟩
  rw [i01]
  refine ⟨fun q => no 4 (doF_4 (fun z => q (onF_in z.2).1)), fun q2 => ?_⟩
  have q2 := Classical.not_not.mp q2
  refine Ct.imp (sp_within hL) (fun r s q => ?_)
  obtain ⟨v, rfl, rfl, rfl⟩ := q
  refine ⟨_, rfl, Fr.rf, ?_⟩
  rw [i01]
  refine ⟨fun q => no 4 (doF_4 (fun z => q (onF_in z.1).2.1)), fun q3 => ?_⟩
  have q3 := Classical.not_not.mp q3
  refine Ct.imp (sp_within hL) (fun r s q => ?_)
  obtain ⟨v, rfl, rfl, rfl⟩ := q
  refine ⟨_, rfl, Fr.rf, ?_⟩
  rw [i01]
  refine ⟨fun q => no 4 (doF_4 (fun z => q (onF_in z.2).2.1)), fun q4 => ?_⟩
  have q4 := Classical.not_not.mp q4
  refine ⟨fun q => no 4 (doF_4 (fun z => Int32.not_lt.mpr (onF_in z.1).2.2 q)), fun q5 => ⟨fun q6 => ?_, fun q => no 4 (doF_4 (fun z => q (onF_in z.2).2.2))⟩⟩
  obtain ⟨a, c, rfl, rfl, c1, c2⟩ := in_onF q1 q3 (Int32.not_lt.mp q5)
  obtain ⟨a', c', rfl, rfl, d1, d2⟩ := in_onF q2 q4 q6
  have hn' : vp_in (nI n) 200 := by rw [zIN (by omega) (by omega)]; exact hn
  refine ⟨hn', fun k2 => ?_, fun k2 => ?_⟩
  · have k6 : K ≠ 6 := fun e => k2 (by rw [zCL (by omega), h181, e]; rfl)
    refine fl_all (b := b) c2 d2 hn c' a' (grd rw') _ (by omega) hL hS h183 (fun s gr' hg cc => ⟨fun h10 hS' => ?_, fun h10 hw => ?_⟩)
    · have hg2 : ∀ k, grd (rwPut rw' a a' c c') k = gr' k := fun k => by rw [grd_put, hg k]
      have hgr : gr' = grd (rwPut rw' a a' c c') := (funext hg2).symm
      exact hok s _ (doF_ok ⟨a, a', c, c', rfl, rfl, rfl, rfl, c1, c2, d1, d2, Or.inl ⟨k6, rfl, by rw [← hgr]; exact h10⟩⟩) (hS'.cg hg2) cc
    · have hg2 : ∀ k, grd (rwPut rw' a a' c c') k = gr' k := fun k => by rw [grd_put, hg k]
      have hgr : gr' = grd (rwPut rw' a a' c c') := (funext hg2).symm
      exact hbad s 7 (doF_bad (Or.inr ⟨a, a', c, c', rfl, rfl, rfl, rfl, c1, c2, d1, d2, Or.inl ⟨k6, rfl, by rw [← hgr]; exact h10⟩⟩)) hw cc
  · have k6 : K = 6 := by
      rw [zCL (by omega), h181, lit32 2, zEQ (by omega) (by omega)] at k2
      omega
    have hq : 16 * a' + a < 256 := by omega
    rw [lit32 16, pk_mul, nI_add, zIN (by omega) (by omega), zCL (by omega), hS.1 _ hq]
    refine ⟨hq, fun hb => ⟨hq, fun s50 e50 s52 e52 => ?_⟩, fun hb => ?_⟩
    · have hgt : grd rw' (16 * a' + a) = true := Classical.byContradiction (fun z => hb (by rw [if_neg z]))
      refine hok s52 _ (doF_ok ⟨a, a', c, c', rfl, rfl, rfl, rfl, c1, c2, d1, d2, Or.inr ⟨k6, hgt, rfl⟩⟩) ⟨fun k hk => ?_, ?_⟩ (by rw [e52, e50]; exact (Ch.rf.si (Or.inl rfl)).si (by omega))
      · rw [e52, mi_si, if_neg (by omega), e50, mi_si, grd_del]
        by_cases e : k = 16 * a' + a
        · rw [if_pos ⟨rfl, e⟩, show decide (k / 16 = a' ∧ k % 16 = a) = true from decide_eq_true (by omega)]
          simp; rfl
        · rw [if_neg (fun z => e z.2), hS.1 k hk, show decide (k / 16 = a' ∧ k % 16 = a) = false from decide_eq_false (by omega)]
          simp
      · have e1 := cnt_erase (p := grd rw') hq hgt
        have e2 : cnt (fun i => grd rw' i && !(i == 16 * a' + a)) 256 = cnt (grd (rwDel rw' a a')) 256 := by
          refine cnt_congr (fun i hi => ?_)
          rw [grd_del]
          congr 2
          apply Bool.eq_iff_iff.mpr
          simp only [beq_iff_eq, decide_eq_true_eq]
          omega
        have hle := cnt_le (grd rw') 256
        rw [e52, mi_si, if_pos ⟨rfl, rfl⟩, e50, mi_si, if_neg (by omega), hS.2, e1, e2, lit32 1, pk_sub (by omega), Nat.add_sub_cancel]
    · have hgf : grd rw' (16 * a' + a) = false := by
        cases z : grd rw' (16 * a' + a) with
        | false => rfl
        | true => rw [z, if_pos rfl] at hb; exact absurd hb (by decide)
      exact no 6 (doF_bad (Or.inr ⟨a, a', c, c', rfl, rfl, rfl, rfl, c1, c2, d1, d2, Or.inr ⟨k6, rfl, hgf⟩⟩))
