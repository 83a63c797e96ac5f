/-! ===== all trees one after the other; a table of keys (numbers alone) ===== -/
abbrev StU : Type := Nat × Nat × List Nat
def insK (S : List Nat) (k : Nat) : List Nat := if S.contains k then S else S ++ [k]
/-- a tree met: counted, and its net kept if it does not lie over itself -/
noncomputable def actU (f : Nat → Nat) (n : Nat) (l : List Nat) (st : StU) : StU := @ite _ (Flt (plc f n l) n) (Classical.propDecidable _) (st.1 + 1, st.2.1 + 1, insK st.2.2 (keyP (plc f n l) n)) (st.1 + 1, st.2)
theorem actU_y {f : Nat → Nat} {n : Nat} {l : List Nat} {st : StU} (h : Flt (plc f n l) n) : actU f n l st = (st.1 + 1, st.2.1 + 1, insK st.2.2 (keyP (plc f n l) n)) := by unfold actU; rw [if_pos h]
theorem actU_n {f : Nat → Nat} {n : Nat} {l : List Nat} {st : StU} (h : ¬ Flt (plc f n l) n) : actU f n l st = (st.1 + 1, st.2) := by unfold actU; rw [if_neg h]
noncomputable def srch (f : Nat → Nat) (n : Nat) : List Nat → List Nat → StU → StU
  | [], l, st => if l.length + 1 = n then actU f n l st else st
  | q :: js, l, st => if l.length + 1 = n then actU f n l st else srch f n js l (if lbs f l (q / 4) = lbs f l (f q / 4) then st else srch f n js (q :: l) st)
theorem srch_end {f : Nat → Nat} {n : Nat} {l : List Nat} (h : l.length + 1 = n) (js : List Nat) (st : StU) : srch f n js l st = actU f n l st := by
  cases js with
  | nil => unfold srch; rw [if_pos h]
  | cons q js => unfold srch; rw [if_pos h]
theorem srch_nil {f : Nat → Nat} {n : Nat} {l : List Nat} (h : ¬ l.length + 1 = n) (st : StU) : srch f n [] l st = st := by unfold srch; rw [if_neg h]
theorem srch_cons {f : Nat → Nat} {n q : Nat} {js l : List Nat} (h : ¬ l.length + 1 = n) (st : StU) : srch f n (q :: js) l st = srch f n js l (if lbs f l (q / 4) = lbs f l (f q / 4) then st else srch f n js (q :: l) st) := by
  conv => lhs; unfold srch
  rw [if_neg h]
/-- too few pairs are left -/
theorem srch_few {f : Nat → Nat} {n : Nat} : ∀ (js l : List Nat) (st : StU), js.length + l.length + 1 < n → srch f n js l st = st := by
  intro js
  induction js with
  | nil => intro l st h; rw [List.length_nil] at h; exact srch_nil (by omega) st
  | cons q js ih =>
    intro l st h
    rw [List.length_cons] at h
    rw [srch_cons (by omega)]
    split
    · exact ih l st (by omega)
    · rw [ih (q :: l) st (by rw [List.length_cons]; omega)]
      exact ih l st (by omega)
/-- pairs of sides of one cell join nothing -/
theorem srch_flt {f : Nat → Nat} {n : Nat} : ∀ (js l : List Nat) (st : StU), srch f n js l st = srch f n (js.filter (fun q => !(q / 4 == f q / 4))) l st := by
  intro js
  induction js with
  | nil => intro l st; rfl
  | cons q js ih =>
    intro l st
    by_cases hl : l.length + 1 = n
    · rw [srch_end hl, srch_end hl]
    · rw [List.filter_cons]
      by_cases e : q / 4 = f q / 4
      · rw [srch_cons hl, if_pos (by rw [e]), ih, show (!(q / 4 == f q / 4)) = false by rw [beq_iff_eq.mpr e]; rfl, if_neg (by decide)]
      · rw [srch_cons hl, show (!(q / 4 == f q / 4)) = true by rw [beq_eq_false_iff_ne.mpr e]; rfl, if_pos rfl, srch_cons hl, ih]
        congr 1
        split
        · rfl
        · exact ih (q :: l) st
/-- what the kept nets are -/
def GoS (n : Nat) (S : List Nat) : Prop := S.Nodup ∧ ∀ s, s ∈ S → inQ n s = true ∧ s < 2 ^ 57 ∧ 0 < s
theorem insK_y {S : List Nat} {k : Nat} (h : k ∈ S) : insK S k = S := by unfold insK; rw [if_pos (List.contains_iff_mem.mpr h)]
theorem insK_n {S : List Nat} {k : Nat} (h : ¬ k ∈ S) : insK S k = S ++ [k] := by unfold insK; rw [if_neg (fun q => h (List.contains_iff_mem.mp q))]
theorem GoS.ins {n k : Nat} {S : List Nat} (h : GoS n S) (hk : inQ n k = true ∧ k < 2 ^ 57 ∧ 0 < k) : GoS n (insK S k) := by
  by_cases e : k ∈ S
  · rw [insK_y e]; exact h
  · rw [insK_n e]
    refine ⟨?_, fun s hs => ?_⟩
    · rw [List.nodup_append]
      refine ⟨h.1, by simp, fun a ha b hb => ?_⟩
      rw [List.mem_singleton.mp hb]
      intro q
      rw [q] at ha
      exact e ha
    · rcases List.mem_append.mp hs with q | q
      · exact h.2 s q
      · rw [List.mem_singleton.mp q]; exact hk
/-- a table of keys, each behind its hash with no empty place between -/
def HT (N : Nat) (hs : Nat → Nat) (tab : Nat → Option Nat) (S : List Nat) : Prop :=
  (∀ p k, p < N → tab p = some k → k ∈ S ∧ ∃ j, j < N ∧ p = (hs k + j) % N ∧ ∀ i, i < j → tab ((hs k + i) % N) ≠ none) ∧ (∀ k, k ∈ S → ∃ p, p < N ∧ tab p = some k) ∧ cnt (fun p => (tab p).isSome) N = S.length
theorem ht_stop {N k : Nat} {hs : Nat → Nat} {tab : Nat → Option Nat} {S : List Nat} (h : HT N hs tab S) (hk : hs k < N) (hS : S.length < N ∨ k ∈ S) : ∃ j, j < N ∧ (tab ((hs k + j) % N) = none ∨ tab ((hs k + j) % N) = some k) ∧ ∀ i, i < j → tab ((hs k + i) % N) ≠ none ∧ tab ((hs k + i) % N) ≠ some k := by
  have hN : 0 < N := by omega
  have ex : ∃ j, j < N ∧ (tab ((hs k + j) % N) = none ∨ tab ((hs k + j) % N) = some k) := by
    by_cases hm : k ∈ S
    · obtain ⟨p, p1, p2⟩ := h.2.1 k hm
      obtain ⟨-, j, j1, rfl, -⟩ := h.1 p k p1 p2
      exact ⟨j, j1, Or.inr p2⟩
    · have hlt := hS.resolve_right hm
      have hp : ∃ p, p < N ∧ tab p = none := by
        refine Classical.byContradiction (fun hno => ?_)
        have : cnt (fun p => (tab p).isSome) N = N := by
          have e := cnt_congr (p := fun p => (tab p).isSome) (q := fun _ => true) (n := N) (fun i hi => by
            cases q : tab i with
            | none => exact absurd ⟨i, hi, q⟩ hno
            | some v => rfl)
          rw [e, cnt_tt]
        have := h.2.2
        omega
      obtain ⟨p, p1, p2⟩ := hp
      refine ⟨(p + N - hs k) % N, Nat.mod_lt _ hN, Or.inl ?_⟩
      have : (hs k + (p + N - hs k) % N) % N = p := by
        rw [Nat.add_mod_mod, show hs k + (p + N - hs k) = p + N by omega, Nat.add_mod_right, Nat.mod_eq_of_lt p1]
      rw [this]
      exact p2
  obtain ⟨j0, j1, j2⟩ := ex
  obtain ⟨j, e1, e2, e3⟩ := fnd_ex (p := fun j => (tab ((hs k + j) % N)).isNone || (tab ((hs k + j) % N) == some k)) j1 (by
    rcases j2 with q | q
    · rw [q]; rfl
    · rw [q]; simp)
  refine ⟨j, e2, ?_, fun i hi => ?_⟩
  · rw [Bool.or_eq_true, Option.isNone_iff_eq_none, beq_iff_eq] at e3
    exact e3
  · have := (fnd_some e1).2.2 i hi
    rw [Bool.or_eq_false_iff] at this
    refine ⟨fun q => ?_, fun q => ?_⟩
    · rw [q] at this; exact absurd this.1 (by decide)
    · rw [q] at this; simp at this
theorem ht_not {N k j : Nat} {hs : Nat → Nat} {tab : Nat → Option Nat} {S : List Nat} (h : HT N hs tab S) (hj : tab ((hs k + j) % N) = none) (hb : ∀ i, i < j → tab ((hs k + i) % N) ≠ none ∧ tab ((hs k + i) % N) ≠ some k) : ¬ k ∈ S := by
  intro hm
  obtain ⟨p, p1, p2⟩ := h.2.1 k hm
  obtain ⟨-, j1, k1, rfl, k3⟩ := h.1 p k p1 p2
  rcases Nat.lt_trichotomy j j1 with w | w | w
  · exact k3 j w hj
  · subst w; rw [hj] at p2; cases p2
  · exact (hb j1 w).2 p2
theorem ht_put {N k j : Nat} {hs : Nat → Nat} {tab : Nat → Option Nat} {S : List Nat} (h : HT N hs tab S) (hN : 0 < N) (hjN : j < N) (hj : tab ((hs k + j) % N) = none) (hb : ∀ i, i < j → tab ((hs k + i) % N) ≠ none ∧ tab ((hs k + i) % N) ≠ some k) : HT N hs (fun p => if p = (hs k + j) % N then some k else tab p) (S ++ [k]) := by
  have hp := Nat.mod_lt (hs k + j) hN
  have keep : ∀ p, tab p ≠ none → (if p = (hs k + j) % N then some k else tab p) ≠ none := by
    intro p hp
    split
    · exact fun q => (nomatch q)
    · exact hp
  refine ⟨fun p k' p1 p2 => ?_, fun k' hk' => ?_, ?_⟩
  · dsimp only at p2 ⊢
    by_cases e : p = (hs k + j) % N
    · rw [if_pos e] at p2
      cases p2
      exact ⟨List.mem_append.mpr (Or.inr (List.mem_singleton.mpr rfl)), j, hjN, e, fun i hi => keep _ (hb i hi).1⟩
    · rw [if_neg e] at p2
      obtain ⟨q1, j', q2, q3, q4⟩ := h.1 p k' p1 p2
      exact ⟨List.mem_append.mpr (Or.inl q1), j', q2, q3, fun i hi => keep _ (q4 i hi)⟩
  · rcases List.mem_append.mp hk' with q | q
    · obtain ⟨p, p1, p2⟩ := h.2.1 k' q
      refine ⟨p, p1, ?_⟩
      dsimp only
      rw [if_neg (fun e => by rw [e, hj] at p2; cases p2)]
      exact p2
    · rw [List.mem_singleton.mp q]
      exact ⟨_, hp, if_pos rfl⟩
  · have e1 := cnt_put (gr := fun p => (tab p).isSome) hp
    have e2 : cnt (fun p => (if p = (hs k + j) % N then some k else tab p).isSome) N = cnt (fun p => (tab p).isSome || p == (hs k + j) % N) N := cnt_congr (fun i _ => by
      by_cases e : i = (hs k + j) % N
      · rw [if_pos e, beq_iff_eq.mpr e, Bool.or_true]; rfl
      · rw [if_neg e, beq_eq_false_iff_ne.mpr e, Bool.or_false])
    rw [e2, e1, hj, h.2.2, List.length_append]
    rfl
theorem ht_0 {N : Nat} {hs : Nat → Nat} : HT N hs (fun _ => none) [] := by
  refine ⟨fun p k _ q => (nomatch q), fun k q => (nomatch q), ?_⟩
  have : ∀ k, cnt (fun p => ((fun _ => none : Nat → Option Nat) p).isSome) k = 0 := by
    intro k
    induction k with
    | zero => rfl
    | succ k ih => rw [cnt_s, ih]; rfl
  exact this N
