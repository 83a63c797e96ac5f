/-! ===== the reference's bodies ===== -/
def RBd (σ : PS) (n : Nat) (x y : Nat → Nat) (E : Nat) (T : List Mat) : Prop := T.length ≤ 300 → ∃ ℓ : Nat → Nat, ∀ k, k < T.length → LSm n x y E T k (ℓ k) ∧ mi σ 219 k = nI (ℓ k)
theorem RBd.ch {σ s : PS} {n : Nat} {x y : Nat → Nat} {E : Nat} {T : List Mat} {Pm Pl : Nat → Nat → Prop} (h : RBd σ n x y E T) (c : Ch Pm Pl σ s) (hn : ∀ i, ¬ Pm 219 i) : RBd s n x y E T := fun hl => by
  obtain ⟨ℓ, h1⟩ := h hl
  exact ⟨ℓ, fun k hk => ⟨(h1 k hk).1, by rw [c.i (hn k)]; exact (h1 k hk).2⟩⟩
abbrev chHB : Nat → Nat → Prop := fun a i => chI a i ∨ 215 ≤ a ∧ a ≤ 219
theorem sp_hasBodies {g : GV} {d n E : Nat} {x y : Nat → Nat} {σ : PS} (hL : Lay σ) (hF : MF σ n x y E) (hV : VF n x y E) (hH : itr n x y n = 2 ^ n - 1) (hk : ¬ mi σ 179 47 = 0 → EM σ E (gls E (qt n x y E))) (hkb : ¬ mi σ 179 47 = 0 → ¬ mi σ 179 59 = 0 → RBd σ n x y E (gls E (qt n x y E))) :
    CX12_hasBodies g (d + 26) [.ref 179] σ (fun v s => v = (if (gls E (qt n x y E)).length ≤ 300 then 1 else 0) ∧ ¬ mi s 179 47 = 0 ∧ EM s E (gls E (qt n x y E)) ∧ ((gls E (qt n x y E)).length ≤ 300 → RBd s n x y E (gls E (qt n x y E))) ∧ Ch chHB noL σ s) := by
  have hE := hV.2.2.2.2.2.2
  have hq : ∀ i, i < E → mi σ 205 i = nI (qt n x y E i) ∧ qt n x y E i ≤ 4 := fun i hi => ⟨(hF.2.2.1 i hi).2.2, qt_le n x y E i⟩
  have hbd := fun k (hk : k < (gls E (qt n x y E)).length) => fT_bd hV hH hk
  have hat := fun k m (h : (gls E (qt n x y E))[k]? = some m) => gls_at h
  generalize hT : gls E (qt n x y E) = T at *
  generalize hP : (fun (v : Int32) (s : PS) => v = (if T.length ≤ 300 then 1 else 0) ∧ ¬ mi s 179 47 = 0 ∧ EM s E T ∧ (T.length ≤ 300 → RBd s n x y E T) ∧ Ch chHB noL σ s) = P
  refine vcX12_hasBodies hL (Ct.imp (sp_isListed (d := d) hL hE hF.2.1 hq (by rw [hT]; exact hk)) (fun r s1 w => ?_))
  rw [hT] at w
  obtain ⟨v, rfl, hv, hT1, h47, c1, k1, k2⟩ := w
  have hL1 := c1.lay hL
  have c1' : Ch chHB noL σ s1 := c1.mono (fun a k h => Or.inl h) (fun _ _ h => h)
  refine ⟨_, rfl, c1.fr, fun h0 => ?_, fun h1 => ?_⟩
  · rw [i01 hv] at h0
    rw [← hP]
    exact ⟨by rw [if_neg (by omega)], h47, hT1, fun h => by omega, c1'⟩
  · rw [i01 hv, Classical.not_not] at h1
    have e48 : mi s1 179 48 = nI T.length := by rw [hT1.1, Nat.min_eq_left (by omega)]
    rw [e48, lit32 300, zLE (by omega) (by omega)]
    refine ⟨fun hl => ⟨fun h59 s3 e3 => ?_, fun h59 => ?_⟩, fun hl => ?_⟩
    · have c3 : Ch (fun a i => a = 179 ∧ i = 59) noL s1 s3 := by rw [e3]; exact Ch.rf.si ⟨rfl, rfl⟩
      have hF1 := hF.ch c1 (by unfold chI; omega) (by unfold chI; omega) (fun a i h1 h2 => by unfold chI; omega)
      have hF3 := hF1.ch c3 (by omega) (by omega) (fun a i h1 h2 => by omega)
      have hT3 := hT1.ch c3 (by omega) (fun i => by omega)
      have c3' : Ch chHB noL σ s3 := c1'.trans (c3.mono (fun a k h => Or.inl (Or.inl ⟨h.1, by omega⟩)) (fun _ _ h => h))
      have outer : ∀ (z k : Nat) (τ : PS) (ℓ : Nat → Nat), z = T.length - k → k ≤ T.length → Ch (fun a _ => 215 ≤ a ∧ a ≤ 219) noL s3 τ → (∀ i, i < k → LSm n x y E T i (ℓ i) ∧ mi τ 219 i = nI (ℓ i)) → VX12_hasBodies g (d + 26) P 35 [some (.ref 179), some (.int (nI k)), none] [] τ := by
        intro z
        induction z with
        | zero =>
          intro k τ ℓ hz hk' c hK
          have : k = T.length := by omega
          subst this
          have f48 : mi τ 179 48 = nI T.length := by rw [c.i (by omega), c3.i (by omega)]; exact e48
          refine vcX12_hasBodies_35 (c.lay (c3.lay hL1)) _ ⟨fun _ => ?_, fun h => absurd (by rw [f48, zLE (by omega) (by omega)]; omega) h⟩
          rw [← hP]
          exact ⟨by rw [if_pos hl], by rw [c.i (by omega), c3.i (by omega)]; exact h47, hT3.ch c (by omega) (fun i => by omega), fun _ _ => ⟨ℓ, hK⟩, c3'.trans (c.mono (fun a k h => Or.inr h) (fun _ _ h => h))⟩
        | succ z ih =>
          intro k τ ℓ hz hk' c hK
          have f48 : mi τ 179 48 = nI T.length := by rw [c.i (by omega), c3.i (by omega)]; exact e48
          have hLτ := c.lay (c3.lay hL1)
          have hb : Bdy n (fT n x y E T k) := hbd k (by omega)
          -- behind the search of the least
          have next : ∀ (u : PS) (j : Nat), Ch (fun a _ => 215 ≤ a ∧ a ≤ 219) noL s3 u → (∀ i, i < k → mi u 219 i = nI (ℓ i)) → LSm n x y E T k j → mi u 219 k = nI j → VX12_hasBodies g (d + 26) P 35 [some (.ref 179), some (.int (nI (k + 1))), none] [] u := by
            intro u j cu hu hj e219
            refine ih (k + 1) u (fun i => if i = k then j else ℓ i) (by omega) (by omega) cu (fun i hi => ?_)
            by_cases e : i = k
            · subst e
              rw [if_pos rfl]
              exact ⟨hj, e219⟩
            · rw [if_neg e]
              exact ⟨(hK i (by omega)).1, hu i (by omega)⟩
          have inner : ∀ (w j : Nat) (u : PS), w = k - j → j ≤ k → Ch (fun a _ => 215 ≤ a ∧ a ≤ 219) noL s3 u → (∀ i, i < k → mi u 219 i = nI (ℓ i)) → mi u 219 k = nI k → (∀ i, i < j → ¬ Same n (fT n x y E T i) (fT n x y E T k)) → VX12_hasBodies g (d + 26) P 52 [some (.ref 179), some (.int (nI k)), some (.int (nI j))] [] u := by
            intro w
            induction w with
            | zero =>
              intro j u hw hj cu hu hk2 hno
              have : j = k := by omega
              subst this
              refine vcX12_hasBodies_52 (cu.lay (c3.lay hL1)) _ _ ⟨fun _ x8 e8 => ?_, fun h => absurd (by rw [zLE (by omega) (by omega)]; omega) h⟩
              rw [inc e8]
              exact next u j cu hu ⟨Nat.le_refl _, Same.rf hb.1, hno⟩ hk2
            | succ w ihw =>
              intro j u hw hj cu hu hk2 hno
              have hLu := cu.lay (c3.lay hL1)
              have hbj : Bdy n (fT n x y E T j) := hbd j (by omega)
              have hℓ := (hK j (by omega)).1
              refine vcX12_hasBodies_52 hLu _ _ ⟨fun h => ?_, fun _ => ?_⟩
              · rw [zLE (by omega) (by omega)] at h
                omega
              · have hlj := hℓ.1
                rw [zIN (by omega) (by omega), zIN (by omega) (by omega), zCL (by omega), zCL (by omega), hk2, hu j (by omega), zEQ (show k < 2147483648 by omega) (show k < 2147483648 by omega), zEQ (show ℓ j < 2147483648 by omega) (show j < 2147483648 by omega)]
                have cont : ¬ Same n (fT n x y E T j) (fT n x y E T k) → ∀ (v : PS), Ch (fun a _ => 215 ≤ a ∧ a ≤ 218) noL u v → ∀ x18 : Int32, x18 = nI j + 1 → VX12_hasBodies g (d + 26) P 52 [some (.ref 179), some (.int (nI k)), some (.int x18)] [] v := by
                  intro hns v cv x18 e18
                  rw [inc e18]
                  refine ihw (j + 1) v (by omega) (by omega) (cu.trans (cv.mono (fun a k h => by omega) (fun _ _ h => h))) (fun i hi => by rw [cv.i (by omega)]; exact hu i hi) (by rw [cv.i (by omega)]; exact hk2) (fun i hi => ?_)
                  by_cases e : i = j
                  · rw [e]; exact hns
                  · exact hno i (by omega)
                refine ⟨by omega, fun h => absurd rfl h, fun _ => ⟨by omega, fun hne x14 e14 => ?_, fun heq => ?_⟩⟩
                · refine cont (fun hs => ?_) u Ch.rf x14 e14
                  exact hno (ℓ j) (by omega) (Same.trans (hbd (ℓ j) (by omega)).1 hℓ.2.1 hs)
                · obtain ⟨mk, hmk⟩ := get_ex (T := T) (show k < T.length by omega)
                  obtain ⟨mj, hmj⟩ := get_ex (T := T) (show j < T.length by omega)
                  have hTu := hT3.ch cu (by omega) (fun i => by omega)
                  have hFu := hF3.ch cu (by omega) (by omega) (fun a i h1 h2 => by omega)
                  refine Ct.imp (sp_areSame (d := d + 22) hLu hFu hV hH (hat k mk hmk) (hat j mj hmj) (by omega) (by omega) (hTu.2 k mk (by omega) hmk) (hTu.2 j mj (by omega) hmj)) (fun r s16 w => ?_)
                  obtain ⟨v, rfl, hv, c16⟩ := w
                  rw [← fT_is (n := n) (x := x) (y := y) (E := E) hmk, ← fT_is (n := n) (x := x) (y := y) (E := E) hmj] at hv
                  refine ⟨_, rfl, c16.fr, fun h0 x18 e18 => ?_, fun h1 => ⟨by omega, fun s21 e21 x23 e23 => ?_⟩⟩
                  · refine cont (fun hs => ?_) s16 c16 x18 e18
                    rcases hv with ⟨rfl, -⟩ | ⟨-, hns⟩
                    · exact absurd h0 (by decide)
                    · exact hns (Same.symm hbj.1 hb.1 hs)
                  · have hs : Same n (fT n x y E T j) (fT n x y E T k) := by
                      rcases hv with ⟨-, hs⟩ | ⟨rfl, -⟩
                      · exact Same.symm hb.1 hbj.1 hs
                      · exact absurd rfl h1
                    have cu16 : Ch (fun a _ => 215 ≤ a ∧ a ≤ 219) noL s3 s16 := cu.trans (c16.mono (fun a k h => by unfold chAS at h; omega) (fun _ _ h => h))
                    have cu21 : Ch (fun a _ => 215 ≤ a ∧ a ≤ 219) noL s3 s21 := cu16.trans (by rw [e21]; exact Ch.rf.si (by omega))
                    have v21 : mi s21 219 k = nI j := by rw [e21, mi_si, if_pos ⟨rfl, rfl⟩]
                    have o21 : ∀ i, i < k → mi s21 219 i = nI (ℓ i) := fun i hi => by rw [e21, mi_si, if_neg (by omega), c16.i (by unfold chAS; omega)]; exact hu i hi
                    have nx := next s21 j cu21 o21 ⟨by omega, hs, hno⟩ v21
                    rw [inc e23]
                    refine vcX12_hasBodies_52 (cu21.lay (c3.lay hL1)) _ _ ⟨fun _ x8 e8 => by rw [inc e8]; exact nx, fun _ => ?_⟩
                    rw [zIN (by omega) (by omega), zCL (by omega), v21, zEQ (by omega) (by omega)]
                    exact ⟨by omega, fun _ x11 e11 => by rw [inc e11]; exact nx, fun h => absurd h (by omega)⟩
          refine vcX12_hasBodies_35 hLτ _ ⟨fun h => ?_, fun _ => ⟨by rw [zIN (by omega) (by omega)]; omega, fun s6 e6 => ?_⟩⟩
          · rw [f48, zLE (by omega) (by omega)] at h
            omega
          · rw [zCL (by omega)] at e6
            exact inner k 0 s6 rfl (Nat.zero_le _) (c.trans (by rw [e6]; exact Ch.rf.si (by omega))) (fun i hi => by rw [e6, mi_si, if_neg (by omega)]; exact (hK i hi).2) (by rw [e6, mi_si, if_pos ⟨rfl, rfl⟩]) (fun i hi => by omega)
      exact outer T.length 0 s3 (fun _ => 0) rfl (Nat.zero_le _) Ch.rf (fun i hi => by omega)
    · rw [← hP]
      by_cases e47 : mi σ 179 47 = 0
      · exact absurd (k2 e47) h59
      · have es := k1 e47
        refine ⟨by rw [if_pos hl], h47, hT1, fun _ => ?_, c1'⟩
        rw [es] at h59 ⊢
        exact hkb e47 h59
    · rw [← hP]
      exact ⟨by rw [if_neg hl], h47, hT1, fun h => absurd h hl, c1'⟩
