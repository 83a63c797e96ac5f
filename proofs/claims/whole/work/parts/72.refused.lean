/-! ===== what GLUE is refused for ===== -/
def rfn (E : Nat) (q : Nat → Nat) (m : Mat) (i j : Nat) : Nat := if m i ≠ none ∨ m j ≠ none then 2 else if crx m (min i j) (max i j) = true then 3 else if (i + j) % 2 = 0 then 4 else if A4b E (cl E (setp m i j) E) q = true then 0 else 5
/-- the answer, the two edges told -/
def RfP (E : Nat) (q : Nat → Nat) (m : Mat) (a b v : Int32) : Prop := (∃ i j, i < E ∧ j < E ∧ i ≠ j ∧ a = nI i ∧ b = nI j ∧ v = nI (rfn E q m i j)) ∨ ((∀ i j, i < E → j < E → i ≠ j → a = nI i → b = nI j → False) ∧ v = 1)
theorem setp_inv {E i j : Nat} {m : Mat} (h : Inv E m) (hi : i < E) (hj : j < E) (hij : i ≠ j) (mi' : m i = none) (mj : m j = none) : Inv E (setp m i j) := by
  intro e b hb
  have si' : setp m i j i = some j := by unfold setp; rw [if_pos rfl]
  have sj' : setp m i j j = some i := by unfold setp; rw [if_neg (Ne.symm hij), if_pos rfl]
  rcases setp_cases hb with ⟨rfl, rfl⟩ | ⟨rfl, rfl⟩ | ⟨h1, h2, h3⟩
  · exact ⟨hi, hj, Ne.symm hij, sj'⟩
  · exact ⟨hj, hi, hij, si'⟩
  · obtain ⟨a1, a2, a3, a4⟩ := h e b h3
    refine ⟨a1, a2, a3, ?_⟩
    unfold setp
    rw [if_neg (fun w => by rw [w, mi'] at a4; cases a4), if_neg (fun w => by rw [w, mj] at a4; cases a4)]
    exact a4
theorem sp_refused {g : GV} {d E : Nat} {q : Nat → Nat} {m : Mat} {a b : Int32} {σ : PS} (hL : Lay σ) (hE : E ≤ 22) (h0 : mi σ 179 38 = nI E) (hq : ∀ i, i < E → mi σ 205 i = nI (q i) ∧ q i ≤ 4) (hM : MA σ 209 24 m) (hI : Inv E m) :
    CX12_refused g (d + 2) [.ref 179, .int a, .int b] σ (fun v s => RfP E q m a b v ∧ MA s 209 24 m ∧ Ch (fun a _ => a = 209 ∨ a = 210) noL σ s) := by
  have hml : ∀ e k, m e = some k → k < 22 := fun e k h => by have := (hI e k h).2.1; omega
  have out : (∀ i j, i < E → j < E → i ≠ j → a = nI i → b = nI j → False) → RfP E q m a b 1 ∧ MA σ 209 24 m ∧ Ch (fun a _ => a = 209 ∨ a = 210) noL σ σ := fun h => ⟨Or.inr ⟨h, rfl⟩, hM, Ch.rf⟩
  refine vcX12_refused hL _ _ (Ct.imp (sp_isEdge hL h0) (fun r s1 w => ?_))
  obtain ⟨v, rfl, hv, rfl⟩ := w
  refine ⟨_, rfl, Fr.rf, fun h => ?_, fun h => ?_⟩
  · rw [i01 hv] at h
    exact out (fun i j hi _ _ ea _ => h ((inN_is (by omega)).mpr ⟨i, hi, ea⟩))
  rw [i01 hv, Classical.not_not, inN_is (by omega)] at h
  obtain ⟨i, hi, rfl⟩ := h
  refine Ct.imp (sp_isEdge hL h0) (fun r s1 w => ?_)
  obtain ⟨v2, rfl, hv2, rfl⟩ := w
  refine ⟨_, rfl, Fr.rf, fun h => ?_, fun h => ?_⟩
  · rw [i01 hv2] at h
    exact out (fun i j _ hj _ _ eb => h ((inN_is (by omega)).mpr ⟨j, hj, eb⟩))
  rw [i01 hv2, Classical.not_not, inN_is (by omega)] at h
  obtain ⟨j, hj, rfl⟩ := h
  simp (disch := omega) only [zEQ, zIN, zCL, hM i (by omega), hM j (by omega), zMIN, zMAX]
  refine ⟨fun hij => ⟨by omega, ?_⟩, fun hij => out (fun i' j' h1 h2 h3 e1 e2 => h3 (by
    rw [zEQ (by omega) (by omega)] at e1 e2
    omega))⟩
  rw [oI_pos (o := m i) (n := 22) (hml i) (by omega), oI_lt0 (m j) (fun k hk => by have := hml j k hk; omega)]
  have ans : ∀ v, v = nI (rfn E q m i j) → RfP E q m (nI i) (nI j) v := fun v e => Or.inl ⟨i, j, hi, hj, hij, rfl, rfl, e⟩
  refine ⟨fun h => ⟨ans 2 ?_, hM, Ch.rf⟩, fun hmi => ⟨by omega, fun hmj => ?_, fun h => ⟨ans 2 ?_, hM, Ch.rf⟩⟩⟩
  · unfold rfn; rw [if_pos (Or.inl h)]; rfl
  · have hmi : m i = none := Classical.not_not.mp hmi
    have no2 : ¬ (m i ≠ none ∨ m j ≠ none) := fun h => h.elim (fun h => h hmi) (fun h => h hmj)
    refine Ct.imp (sp_crosses12 hL (kd_209 hL) (by omega) (by omega) (fun e he => hM e (by omega)) hml (show min i j < 22 by omega) (show max i j < 22 by omega)) (fun r s1 w => ?_)
    obtain ⟨v3, rfl, hv3, rfl⟩ := w
    refine ⟨_, rfl, Fr.rf, fun hx => ?_, fun hx => ?_⟩
    · rw [i01 hv3] at hx
      rw [nI_add, lit32 2, zREM (by omega) (by omega) (by omega), lit32 0, zEQ (by omega) (by omega)]
      refine ⟨fun hodd => ⟨by omega, fun s10 e10 => ⟨by omega, fun s13 e13 => ?_⟩⟩, fun heven => ⟨ans 4 ?_, hM, Ch.rf⟩⟩
      · have hM13 : MA s13 209 24 (setp m i j) := by
          intro e he
          rw [e13, mi_si, e10, mi_si]
          unfold setp
          by_cases q1 : e = i
          · rw [if_pos q1, if_neg (by omega), if_pos ⟨rfl, q1⟩]; rfl
          · rw [if_neg q1]
            by_cases q2 : e = j
            · rw [if_pos q2, if_pos ⟨rfl, q2⟩]; rfl
            · rw [if_neg q2, if_neg (by omega), if_neg (by omega)]
              exact hM e he
        have c13 : Ch (fun a _ => a = 209 ∨ a = 210) noL s1 s13 := by rw [e13, e10]; exact (Ch.rf.si (Or.inl rfl)).si (Or.inl rfl)
        have hI2 := setp_inv hI hi hj hij hmi hmj
        have hL13 := c13.lay hL
        refine Ct.imp (sp_corners (q := q) (d := d) hL13 hE (by rw [c13.i (by omega)]; exact h0) (kd_209 hL13) (by omega) (by omega) (by omega) (fun e he => hM13 e (by omega)) (fun e x hx => ⟨(hI2 e x hx).2.1, (hI2 e x hx).2.2.1⟩) (fun k hk => by rw [c13.i (by omega)]; exact hq k hk)) (fun r s15 w => ?_)
        obtain ⟨v4, rfl, hv4, -, c15⟩ := w
        refine ⟨_, rfl, c15.fr, by omega, fun s18 e18 => ⟨by omega, fun s21 e21 => ?_⟩⟩
        have hM21 : MA s21 209 24 m := by
          intro e he
          have := hM13 e he
          unfold setp at this
          rw [e21, mi_si, e18, mi_si]
          by_cases q2 : e = j
          · rw [if_pos ⟨rfl, q2⟩, q2, hmj]; rfl
          · rw [if_neg (by omega)]
            by_cases q1 : e = i
            · rw [if_pos ⟨rfl, q1⟩, q1, hmi]; rfl
            · rw [if_neg (by omega), c15.i (by simp [ch210])]
              rw [if_neg q1, if_neg q2] at this
              exact this
        have c21 : Ch (fun a _ => a = 209 ∨ a = 210) noL s1 s21 := by
          rw [e21, e18]
          exact ((c13.trans (c15.mono (fun a i h => Or.inr h) (fun _ _ h => h))).si (Or.inl rfl)).si (Or.inl rfl)
        refine ⟨fun h => ⟨ans 5 ?_, hM21, c21⟩, fun h => ⟨ans 0 ?_, hM21, c21⟩⟩
        · replace h : v4 = 0 := h
          rw [i01 hv4] at h
          unfold rfn
          rw [if_neg no2, if_neg hx, if_neg hodd, if_neg h]
          rfl
        · replace h : ¬ v4 = 0 := h
          rw [i01 hv4, Classical.not_not] at h
          unfold rfn
          rw [if_neg no2, if_neg hx, if_neg hodd, if_pos h]
          rfl
      · unfold rfn
        rw [if_neg no2, if_neg hx, if_pos heven]
        rfl
    · rw [i01 hv3, Classical.not_not] at hx
      refine ⟨ans 3 ?_, hM, Ch.rf⟩
      unfold rfn
      rw [if_neg no2, if_pos hx]
      rfl
  · unfold rfn; rw [if_pos (Or.inr h)]; rfl
