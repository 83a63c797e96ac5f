/-! ===== the reference's shortest and round ===== -/
def shoA (n : Nat) (x y : Nat → Nat) (E : Nat) (m : Mat) (a b w v : Int32) (s : PS) : Prop := (gcn E m = E ∧ ∃ c e j, c < n ∧ e < n ∧ j < 4 ∧ a = nI c ∧ b = nI e ∧ w = nI j ∧ ¬ (acf n x y E m c e).1 = 145 ∧ v = told (acf n x y E m c e) j ∧ mi s 179 0 = 0) ∨ (¬ (gcn E m = E ∧ ∃ c e j, c < n ∧ e < n ∧ j < 4 ∧ a = nI c ∧ b = nI e ∧ w = nI j ∧ ¬ (acf n x y E m c e).1 = 145) ∧ mi s 179 0 = 1)
def rouA (n : Nat) (x y : Nat → Nat) (E : Nat) (m : Mat) (a w v : Int32) (s : PS) : Prop := (gcn E m = E ∧ ∃ c j, c < n ∧ j < 4 ∧ a = nI c ∧ w = nI j ∧ ¬ (acf n x y E m c 10).1 = 145 ∧ v = told (acf n x y E m c 10) j ∧ mi s 179 0 = 0) ∨ (¬ (gcn E m = E ∧ ∃ c j, c < n ∧ j < 4 ∧ a = nI c ∧ w = nI j ∧ ¬ (acf n x y E m c 10).1 = 145) ∧ mi s 179 0 = 1)
theorem bad1 {σ s : PS} (e : s = si σ 179 0 1) : mi s 179 0 = 1 := by rw [e, mi_si, if_pos ⟨rfl, rfl⟩]
theorem bad0 {σ s : PS} (e : s = si σ 179 0 0) : mi s 179 0 = 0 := by rw [e, mi_si, if_pos ⟨rfl, rfl⟩]
theorem sp_shortest12 {g : GV} {d n E : Nat} {x y : Nat → Nat} {m : Mat} {a b w : Int32} {σ : PS} (hL : Lay σ) (hF : MF σ n x y E) (hV : VF n x y E) (hM : MA σ 209 24 m) (hI : Inv E m) :
    CX12_shortest g (d + 4) [.ref 179, .int a, .int b, .int w] σ (fun v s => shoA n x y E m a b w v s ∧ Ch chWm noL σ s) := by
  have hE := hV.2.2.2.2.2.2
  have hn := hV.2.1
  have no : ∀ {s : PS}, s = si σ 179 0 1 → ¬ (gcn E m = E ∧ ∃ c e j, c < n ∧ e < n ∧ j < 4 ∧ a = nI c ∧ b = nI e ∧ w = nI j ∧ ¬ (acf n x y E m c e).1 = 145) → (fun (v : Int32) (s : PS) => shoA n x y E m a b w v s ∧ Ch chWm noL σ s) 0 s := by
    intro s e h
    exact ⟨Or.inr ⟨h, bad1 e⟩, by rw [e]; exact Ch.rf.si (Or.inl ⟨rfl, Or.inl rfl⟩)⟩
  refine vcX12_shortest hL _ _ _ (Ct.imp (sp_isCell hL hF.1.1) (fun r s z => ?_))
  obtain ⟨v, rfl, hv, rfl⟩ := z
  refine ⟨_, rfl, Fr.rf, fun hc s3 e3 => ⟨fun h => absurd (bad1 e3) h, fun _ => no e3 (fun w => ?_)⟩, fun hc => ?_⟩
  · rw [i01 hv] at hc
    obtain ⟨-, c, e, j, h1, -, -, h2, -⟩ := w
    exact hc ((inN_is (by omega)).mpr ⟨c, h1, h2⟩)
  rw [i01 hv, Classical.not_not, inN_is (by omega)] at hc
  obtain ⟨c, hc, rfl⟩ := hc
  refine Ct.imp (sp_isCell hL hF.1.1) (fun r s z => ?_)
  obtain ⟨v2, rfl, hv2, rfl⟩ := z
  refine ⟨_, rfl, Fr.rf, fun hc2 s3 e3 => ⟨fun h => absurd (bad1 e3) h, fun _ => no e3 (fun w => ?_)⟩, fun he => ?_⟩
  · rw [i01 hv2] at hc2
    obtain ⟨-, c, e, j, -, h1, -, -, h2, -⟩ := w
    exact hc2 ((inN_is (by omega)).mpr ⟨e, h1, h2⟩)
  rw [i01 hv2, Classical.not_not, inN_is (by omega)] at he
  obtain ⟨e, he, rfl⟩ := he
  refine Ct.imp (sp_within hL) (fun r s z => ?_)
  obtain ⟨v3, rfl, hv3, rfl⟩ := z
  refine ⟨_, rfl, Fr.rf, fun h s3 e3 => ⟨fun h => absurd (bad1 e3) h, fun _ => no e3 (fun w => ?_)⟩, fun h => ?_⟩
  · rw [i01 hv3] at h
    obtain ⟨-, c, e, j, -, -, hj, -, -, rfl, -⟩ := w
    refine h ?_
    rw [lit32 0, lit32 3, zLE (by omega) (by omega), zLE (by omega) (by omega)]
    omega
  rw [i01 hv3, Classical.not_not] at h
  obtain ⟨j, j1, j2, rfl⟩ := wBt (lo := 0) (hi := 3) (by omega) (by omega) (Int32.not_lt.mpr h.1) (Int32.not_lt.mpr h.2)
  refine Ct.imp (sp_isBody12 (d := d + 2) hL hE hF.2.1 hM hI) (fun r s z => ?_)
  obtain ⟨v4, rfl, hv4, rfl⟩ := z
  refine ⟨_, rfl, Fr.rf, fun hb s3 e3 => ⟨fun h => absurd (bad1 e3) h, fun _ => no e3 (fun w => ?_)⟩, fun hb s3 e3 => ⟨fun _ => ?_, fun h => absurd ((bad0 e3).symm.trans h) (by decide)⟩⟩
  · rw [i01 hv4] at hb
    exact hb w.1
  rw [i01 hv4, Classical.not_not] at hb
  have c1 := (by rw [e3]; exact Ch.rf.si (Or.inl ⟨rfl, Or.inl rfl⟩) : Ch chWm noL _ s3)
  have hL1 := c1.lay hL
  have hM1 := hM.ch c1 (fun i _ => by omega)
  have hF1 := hF.ch c1 (by omega) (by omega) (fun a i h1 h2 => by omega)
  have hm := hI.mt hb
  refine Ct.imp (lays0 (d := d + 1) hL1 hF1 hV hM1 hI hb) (fun r t z => ?_)
  obtain ⟨rfl, hY, c3⟩ := z
  have hLt := c3.lay hL1
  refine ⟨rfl, c3.fr, Ct.imp (sp_shortests (d := d + 1) (to := e) (r := 0) hLt hY (rot_inj hV hm) hc he (by omega) (fun h => absurd h (by omega))) (fun r s9 z => ?_)⟩
  obtain ⟨rfl, hS, c9⟩ := z
  have hS' : SH s9 (acf n x y E m c e) := hS
  obtain ⟨o1, o2, o3⟩ := acf_ok n x y E m c e
  have c9' := (c1.trans (c3.mono (fun a k h => Or.inr h.1) (fun _ _ h => h))).trans (c9.mono (fun a k h => Or.inl ⟨h.1, Or.inr h.2⟩) (fun _ _ h => h))
  refine ⟨rfl, c9.fr, Ct.imp (sp_told0 (c9.lay hLt) hS' o1 o3 (show j < 4 by omega)) (fun r s11 z => ?_)⟩
  obtain ⟨v11, rfl, k1, k2⟩ := z
  by_cases e145 : (acf n x y E m c e).1 = 145
  · obtain ⟨-, es⟩ := k1 e145
    refine ⟨_, rfl, by rw [es]; exact Fr.rf, Or.inr ⟨fun w => ?_, bad1 es⟩, c9'.trans (by rw [es]; exact Ch.rf.si (Or.inl ⟨rfl, Or.inl rfl⟩))⟩
    obtain ⟨-, c', e', j', h1, h2, -, h3, h4, -, h5⟩ := w
    rw [zEQ (by omega) (by omega)] at h3 h4
    subst h3
    subst h4
    exact h5 e145
  · obtain ⟨ev, es⟩ := k2 e145
    exact ⟨_, rfl, by rw [es]; exact Fr.rf, Or.inl ⟨hb, c, e, j, hc, he, by omega, rfl, rfl, rfl, e145, ev, bad0 es⟩, c9'.trans (by rw [es]; exact Ch.rf.si (Or.inl ⟨rfl, Or.inl rfl⟩))⟩
theorem sp_round12 {g : GV} {d n E : Nat} {x y : Nat → Nat} {m : Mat} {a w : Int32} {σ : PS} (hL : Lay σ) (hF : MF σ n x y E) (hV : VF n x y E) (hM : MA σ 209 24 m) (hI : Inv E m) :
    CX12_round g (d + 4) [.ref 179, .int a, .int w] σ (fun v s => rouA n x y E m a w v s ∧ Ch chWm noL σ s) := by
  have hE := hV.2.2.2.2.2.2
  have hn := hV.2.1
  have no : ∀ {s : PS}, s = si σ 179 0 1 → ¬ (gcn E m = E ∧ ∃ c j, c < n ∧ j < 4 ∧ a = nI c ∧ w = nI j ∧ ¬ (acf n x y E m c 10).1 = 145) → (fun (v : Int32) (s : PS) => rouA n x y E m a w v s ∧ Ch chWm noL σ s) 0 s := by
    intro s e h
    exact ⟨Or.inr ⟨h, bad1 e⟩, by rw [e]; exact Ch.rf.si (Or.inl ⟨rfl, Or.inl rfl⟩)⟩
  refine vcX12_round hL _ _ (Ct.imp (sp_isCell hL hF.1.1) (fun r s z => ?_))
  obtain ⟨v, rfl, hv, rfl⟩ := z
  refine ⟨_, rfl, Fr.rf, fun hc s3 e3 => ⟨fun h => absurd (bad1 e3) h, fun _ => no e3 (fun w => ?_)⟩, fun hc => ?_⟩
  · rw [i01 hv] at hc
    obtain ⟨-, c, j, h1, -, h2, -⟩ := w
    exact hc ((inN_is (by omega)).mpr ⟨c, h1, h2⟩)
  rw [i01 hv, Classical.not_not, inN_is (by omega)] at hc
  obtain ⟨c, hc, rfl⟩ := hc
  refine Ct.imp (sp_within hL) (fun r s z => ?_)
  obtain ⟨v3, rfl, hv3, rfl⟩ := z
  refine ⟨_, rfl, Fr.rf, fun h s3 e3 => ⟨fun h => absurd (bad1 e3) h, fun _ => no e3 (fun w => ?_)⟩, fun h => ?_⟩
  · rw [i01 hv3] at h
    obtain ⟨-, c, j, -, hj, -, rfl, -⟩ := w
    refine h ?_
    rw [lit32 0, lit32 3, zLE (by omega) (by omega), zLE (by omega) (by omega)]
    omega
  rw [i01 hv3, Classical.not_not] at h
  obtain ⟨j, j1, j2, rfl⟩ := wBt (lo := 0) (hi := 3) (by omega) (by omega) (Int32.not_lt.mpr h.1) (Int32.not_lt.mpr h.2)
  refine Ct.imp (sp_isBody12 (d := d + 2) hL hE hF.2.1 hM hI) (fun r s z => ?_)
  obtain ⟨v4, rfl, hv4, rfl⟩ := z
  refine ⟨_, rfl, Fr.rf, fun hb s3 e3 => ⟨fun h => absurd (bad1 e3) h, fun _ => no e3 (fun w => ?_)⟩, fun hb s3 e3 => ⟨fun _ => ?_, fun h => absurd ((bad0 e3).symm.trans h) (by decide)⟩⟩
  · rw [i01 hv4] at hb
    exact hb w.1
  rw [i01 hv4, Classical.not_not] at hb
  have c1 := (by rw [e3]; exact Ch.rf.si (Or.inl ⟨rfl, Or.inl rfl⟩) : Ch chWm noL _ s3)
  have hL1 := c1.lay hL
  have hM1 := hM.ch c1 (fun i _ => by omega)
  have hF1 := hF.ch c1 (by omega) (by omega) (fun a i h1 h2 => by omega)
  have hm := hI.mt hb
  refine Ct.imp (lays0 (d := d + 1) hL1 hF1 hV hM1 hI hb) (fun r t z => ?_)
  obtain ⟨rfl, hY, c3⟩ := z
  have hLt := c3.lay hL1
  refine ⟨rfl, c3.fr, Ct.imp (sp_shortests (d := d + 1) (to := c) (r := 1) hLt hY (rot_inj hV hm) hc hc (by omega) (fun _ => rfl)) (fun r s9 z => ?_)⟩
  obtain ⟨rfl, hS, c9⟩ := z
  have hS' : SH s9 (acf n x y E m c 10) := hS
  obtain ⟨o1, o2, o3⟩ := acf_ok n x y E m c 10
  have c9' := (c1.trans (c3.mono (fun a k h => Or.inr h.1) (fun _ _ h => h))).trans (c9.mono (fun a k h => Or.inl ⟨h.1, Or.inr h.2⟩) (fun _ _ h => h))
  refine ⟨rfl, c9.fr, Ct.imp (sp_told0 (c9.lay hLt) hS' o1 o3 (show j < 4 by omega)) (fun r s11 z => ?_)⟩
  obtain ⟨v11, rfl, k1, k2⟩ := z
  by_cases e145 : (acf n x y E m c 10).1 = 145
  · obtain ⟨-, es⟩ := k1 e145
    refine ⟨_, rfl, by rw [es]; exact Fr.rf, Or.inr ⟨fun w => ?_, bad1 es⟩, c9'.trans (by rw [es]; exact Ch.rf.si (Or.inl ⟨rfl, Or.inl rfl⟩))⟩
    obtain ⟨-, c', j', h1, -, h3, -, h5⟩ := w
    rw [zEQ (by omega) (by omega)] at h3
    subst h3
    exact h5 e145
  · obtain ⟨ev, es⟩ := k2 e145
    exact ⟨_, rfl, by rw [es]; exact Fr.rf, Or.inl ⟨hb, c, j, hc, by omega, rfl, rfl, e145, ev, bad0 es⟩, c9'.trans (by rw [es]; exact Ch.rf.si (Or.inl ⟨rfl, Or.inl rfl⟩))⟩
