/-! ===== a figure laid flat grows square by square ===== -/
def Adp (p p' : PLc) : Prop := ∃ g, g < 4 ∧ p'.1 = p.1 + dX g ∧ p'.2.1 = p.2.1 + dY g
def Gro (P : Nat → PLc) : List Nat → Prop
  | [] => False
  | c :: l => l = [] ∨ (Gro P l ∧ ∃ c', c' ∈ l ∧ Adp (P c') (P c))
theorem cnt_tt (n : Nat) : cnt (fun _ => true) n = n := by
  induction n with
  | zero => rfl
  | succ n ih => rw [cnt_s, ih]; rfl
theorem cnt_all {p : Nat → Bool} {n : Nat} (h : cnt p n = n) : ∀ i, i < n → p i = true := by
  intro i hi
  cases hp : p i with
  | true => rfl
  | false =>
    have := cnt_lt (p := p) (q := fun _ => true) (n := n) (fun _ _ _ => rfl) hi hp rfl
    rw [cnt_tt] at this
    omega
theorem acy_lt {f : Nat → Nat} {n q : Nat} : ∀ {l : List Nat}, Acy f n l → q ∈ l → q < 4 * n := by
  intro l
  induction l with
  | nil => exact fun _ h => by cases h
  | cons q' l ih =>
    intro hA h
    rcases List.mem_cons.mp h with e | e
    · rw [e]; exact hA.2.1
    · exact ih hA.1 e
theorem stp_adp {f : Nat → Nat} {p : PLc} {q : Nat} : Adp p (stp f p q) := ⟨(q % 4 + 4 - p.2.2) % 4, Nat.mod_lt _ (by decide), rfl, rfl⟩
theorem gro_ex {f : Nat → Nat} {n : Nat} {l : List Nat} {P : Nat → PLc} (hf : ∀ q, q < 4 * n → f q < 4 * n) (hff : ∀ q, q < 4 * n → f (f q) = q) (hA : Acy f n l) (hl : l.length + 1 = n) (ht : ∀ i, (P i).2.2 < 4) (hP : ∀ q, q ∈ l → Coh f P q) :
    ∃ o : List Nat, Gro P o ∧ o.Nodup ∧ o.length = n ∧ ∀ c, c ∈ o ↔ c < n := by
  have key : ∀ (z : Nat) (o : List Nat), Gro P o → o.Nodup → (∀ c, c ∈ o → c < n) → 0 ∈ o → cnt (fun i => o.contains i) n = o.length → o.length + z = n → ∃ o : List Nat, Gro P o ∧ o.Nodup ∧ o.length = n ∧ ∀ c, c ∈ o ↔ c < n := by
    intro z
    induction z with
    | zero =>
      intro o h1 h2 h3 h4 h5 h6
      refine ⟨o, h1, h2, by omega, fun c => ⟨h3 c, fun hc => ?_⟩⟩
      have := cnt_all (by rw [h5]; omega) c hc
      exact List.contains_iff_mem.mp this
    | succ z ih =>
      intro o h1 h2 h3 h4 h5 h6
      have hex : ∃ c, c < n ∧ ¬ c ∈ o := by
        refine Classical.byContradiction (fun hno => ?_)
        have : cnt (fun i => o.contains i) n = n := by
          have e := cnt_congr (p := fun i => o.contains i) (q := fun _ => true) (n := n) (fun i hi => List.contains_iff_mem.mpr (Classical.byContradiction (fun q => hno ⟨i, hi, q⟩)))
          rw [e, cnt_tt]
        omega
      obtain ⟨c, hc, hco⟩ := hex
      have hq : ∃ q, q ∈ l ∧ ¬ (q / 4 ∈ o ↔ f q / 4 ∈ o) := by
        refine Classical.byContradiction (fun hno => hco ?_)
        refine (lbs_cl (f := f) (S := fun k => k ∈ o) l (fun q hq => Classical.byContradiction (fun w => hno ⟨q, hq, w⟩)) 0 c ?_).mp h4
        rw [lbs_one hf hA hl 0 (by omega), lbs_one hf hA hl c hc]
      have grow : ∀ d c', c' ∈ o → ¬ d ∈ o → d < n → Adp (P c') (P d) → ∃ o : List Nat, Gro P o ∧ o.Nodup ∧ o.length = n ∧ ∀ c, c ∈ o ↔ c < n := by
        intro d c' g1 g2 g3 g4
        refine ih (d :: o) (Or.inr ⟨h1, c', g1, g4⟩) (List.nodup_cons.mpr ⟨g2, h2⟩) (fun k hk => ?_) (List.mem_cons_of_mem _ h4) ?_ (by rw [List.length_cons]; omega)
        · rcases List.mem_cons.mp hk with e | e
          · rw [e]; exact g3
          · exact h3 k e
        · have e1 := cnt_put (gr := fun i => o.contains i) g3
          have e2 : cnt (fun i => (d :: o).contains i) n = cnt (fun k => o.contains k || k == d) n := cnt_congr (fun i _ => by
            rw [List.contains_cons, Bool.or_comm])
          have e3 : o.contains d = false := by
            cases hb : o.contains d with
            | false => rfl
            | true => exact absurd (List.contains_iff_mem.mp hb) g2
          rw [e2, e1, e3, h5, List.length_cons]
          rfl
      obtain ⟨q, hql, hne⟩ := hq
      have hqn := acy_lt hA hql
      have hfq := hf q hqn
      by_cases w1 : q / 4 ∈ o
      · have w2 : ¬ f q / 4 ∈ o := fun w => hne ⟨fun _ => w, fun _ => w1⟩
        refine grow (f q / 4) (q / 4) w1 w2 (by omega) ?_
        rw [hP q hql]
        exact stp_adp
      · have w2 : f q / 4 ∈ o := Classical.byContradiction (fun w => hne ⟨fun k => absurd k w1, fun k => absurd k w⟩)
        refine grow (q / 4) (f q / 4) w2 w1 (by omega) ?_
        have hs := (hP q hql).sym (hff q hqn) (ht _)
        unfold Coh at hs
        rw [hff q hqn] at hs
        rw [hs]
        exact stp_adp
  have h1n : cnt (fun i => [0].contains i) n = 1 := by
    have e1 := cnt_put (gr := fun _ => false) (show 0 < n by omega)
    have e2 : cnt (fun _ => false) n = 0 := by
      have : ∀ k, cnt (fun _ => false) k = 0 := by
        intro k
        induction k with
        | zero => rfl
        | succ k ih => rw [cnt_s, ih]; rfl
      exact this n
    have e3 : cnt (fun i => [0].contains i) n = cnt (fun k => false || k == 0) n := cnt_congr (fun i _ => by
      rw [List.contains_cons, Bool.false_or]
      show (i == 0 || ([] : List Nat).contains i) = _
      rw [show ([] : List Nat).contains i = false from rfl, Bool.or_false])
    rw [e3, e1, e2]
    rfl
  exact key (n - 1) [0] (Or.inl rfl) (by simp) (fun c hc => by rw [List.mem_singleton.mp hc]; omega) (List.mem_singleton.mpr rfl) h1n (by show 1 + (n - 1) = n; omega)
/-- how wide and how high together -/
theorem gro_rng {P : Nat → PLc} : ∀ {o : List Nat}, Gro P o → ∃ x0 x1 y0 y1 : Int, (∀ c, c ∈ o → x0 ≤ (P c).1 ∧ (P c).1 ≤ x1 ∧ y0 ≤ (P c).2.1 ∧ (P c).2.1 ≤ y1) ∧ (x1 - x0) + (y1 - y0) + 1 ≤ o.length := by
  intro o
  induction o with
  | nil => exact fun h => h.elim
  | cons c l ih =>
    rintro (rfl | ⟨h1, c', h2, g, hg, e1, e2⟩)
    · refine ⟨(P c).1, (P c).1, (P c).2.1, (P c).2.1, fun k hk => ?_, ?_⟩
      · rw [List.mem_singleton.mp hk]
        omega
      · rw [List.length_singleton]
        omega
    · obtain ⟨x0, x1, y0, y1, k1, k2⟩ := ih h1
      have k3 := k1 c' h2
      have hd : (dX g = 0 ∧ (dY g = 1 ∨ dY g = -1)) ∨ (dY g = 0 ∧ (dX g = 1 ∨ dX g = -1)) := by
        have : ∀ g, g < 4 → (dX g = 0 ∧ (dY g = 1 ∨ dY g = -1)) ∨ (dY g = 0 ∧ (dX g = 1 ∨ dX g = -1)) := by decide
        exact this g hg
      refine ⟨min x0 (P c).1, max x1 (P c).1, min y0 (P c).2.1, max y1 (P c).2.1, fun k hk => ?_, ?_⟩
      · rcases List.mem_cons.mp hk with e | e
        · rw [e]; omega
        · have := k1 k e
          omega
      · rw [List.length_cons]
        omega
