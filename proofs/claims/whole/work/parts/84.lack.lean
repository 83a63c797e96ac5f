/-! ===== corners of a body: places that belong to no rim corner turn fully; TURN is the sum of QUARTERS (numbers alone) ===== -/
/-- the place from which one comes across an inner side -/
theorem pd_ex {n : Nat} {x y : Nat → Nat} {E c s : Nat} {m : Nat → Nat} (hF : VF n x y E) (hm : Mt E m) (hc : c < n) (hs : s < 4) (h : ∀ k, k < E → sgb n x y E m k (4 * c + s) = false) :
    ∃ a, bhd n x y c s = some a ∧ rot n x y E m (4 * a + (s + 1) % 4) = 4 * c + s ∧ ∀ k, k < E → sgb n x y E m k (4 * a + (s + 1) % 4) = false := by
  have e1 : (4 * c + s) / 4 = c := by omega
  have e2 : (4 * c + s) % 4 = s := by omega
  have hno : eAt n x y E (4 * c + s) = none := by
    cases h3 : eAt n x y E (4 * c + s) with
    | none => rfl
    | some e =>
      obtain ⟨he, e3⟩ := eAt_some h3
      have := sgb_st (k := nxE E e) hF hm (nxE_lt (by omega))
      unfold st at this
      rw [prv_nxE he, e3, h _ (nxE_lt (by omega))] at this
      cases this
  obtain ⟨a, ha⟩ := eAt_none hF (by omega) hno
  rw [e1, e2] at ha
  have hb := bhd_back hF.2.2.1 hc hs ha
  have hr := rot_inner (m := m) (s := (s + 1) % 4) hF (by omega) (by rw [show ((s + 1) % 4 + 1) % 4 = (s + 2) % 4 by omega]; exact hb)
  rw [show ((s + 1) % 4 + 3) % 4 = s by omega] at hr
  refine ⟨a, ha, hr, fun k hk => ?_⟩
  cases h4 : sgb n x y E m k (4 * a + (s + 1) % 4) with
  | false => rfl
  | true =>
    exfalso
    rcases sgb_step hF hm hk h4 with z | z
    · rw [hr, h k hk] at z; cases z
    · rw [hr] at z
      have := open_none (n := n) (x := x) (y := y) (j := prv E (nxE E (m k))) hF.2.2.1 hF.2.2.2.1
      unfold st at z
      rw [← z, e1, e2, ha] at this
      cases this
theorem inner_tn {n : Nat} {x y : Nat → Nat} {E q : Nat} {m : Nat → Nat} (hF : VF n x y E) (hm : Mt E m) (hq : q < 4 * n) (h : ∀ k, k < E → sgb n x y E m k q = false) : tn n x y E m q = 4 := by
  obtain ⟨c, s, hc, hs, rfl⟩ : ∃ c s, c < n ∧ s < 4 ∧ q = 4 * c + s := ⟨q / 4, q % 4, by omega, by omega, by omega⟩
  obtain ⟨a, ha, ra, na⟩ := pd_ex hF hm hc hs h
  have la := (bhd_s ha).1
  obtain ⟨b, hb, rb, nb⟩ := pd_ex hF hm la (by omega) na
  have lb := (bhd_s hb).1
  obtain ⟨d, hd, rd, nd⟩ := pd_ex hF hm lb (by omega) nb
  have ld := (bhd_s hd).1
  obtain ⟨e, he, re, -⟩ := pd_ex hF hm ld (by omega) nd
  have le := (bhd_s he).1
  have hec : e = c := by
    have a1 := (bhd_s ha).2
    have a2 := (bhd_s hb).2
    have a3 := (bhd_s hd).2
    have a4 := (bhd_s he).2
    unfold Adj dX dY at a1 a2 a3 a4
    refine hF.2.2.1 e c le hc ?_ ?_ <;> rcases four hs with rfl | rfl | rfl | rfl <;> simp at a1 a2 a3 a4 <;> omega
  subst hec
  rw [show (((s + 1) % 4 + 1) % 4 + 1) % 4 = (s + 3) % 4 by omega, show ((s + 1) % 4 + 1) % 4 = (s + 2) % 4 by omega] at *
  rw [show ((s + 3) % 4 + 1) % 4 = s by omega] at re
  unfold tn
  refine orb_eq (rot_lt hF) (rot_inj hF hm) hq (by omega) ?_ (fun j h0 h1 => ?_)
  · show rot n x y E m (rot n x y E m (rot n x y E m (rot n x y E m (4 * e + s)))) = 4 * e + s
    rw [re, rd, rb, ra]
  · have : j = 1 ∨ j = 2 ∨ j = 3 := by omega
    rcases this with rfl | rfl | rfl
    · show rot n x y E m (4 * e + s) ≠ _
      rw [re]; omega
    · show rot n x y E m (rot n x y E m (4 * e + s)) ≠ _
      rw [re, rd]; omega
    · show rot n x y E m (rot n x y E m (rot n x y E m (4 * e + s))) ≠ _
      rw [re, rd, rb]; omega
/-- counting places of a kind that does not change in turning -/
theorem cnt_inv {n : Nat} {x y : Nat → Nat} {E : Nat} {m : Nat → Nat} (hF : VF n x y E) (hm : Mt E m) (p : Nat → Bool) (hp : ∀ q, q < 4 * n → p (rot n x y E m q) = p q) (hs : ∀ q, q < 4 * n → p q = true → ∃ k, k < E ∧ sgb n x y E m k q = true) :
    cnt p (4 * n) = sumN (fun k => if p (st n x y E k) then qt n x y E k else 0) E := by
  rw [cnt_fib (4 * n) hs (fun q k k' _ hk hk' h h' => sgb_uniq hF hm hk hk' h h')]
  refine sumN_congr (fun k hk => ?_)
  have hit : ∀ j, p (itf (rot n x y E m) j (st n x y E k)) = p (st n x y E k) := by
    intro j
    induction j with
    | zero => rfl
    | succ j ih => rw [itf_s, hp _ (itf_lt (rot_lt hF) (st_lt hF) j), ih]
  have e : cnt (fun q => p q && sgb n x y E m k q) (4 * n) = cnt (fun q => p (st n x y E k) && sgb n x y E m k q) (4 * n) := by
    refine cnt_congr (fun q _ => ?_)
    cases h : sgb n x y E m k q with
    | false => simp
    | true =>
      obtain ⟨j, -, rfl⟩ := sgb_is.mp h
      rw [hit j]
  rw [e]
  cases p (st n x y E k) with
  | false =>
    rw [if_neg (by simp)]
    have := cnt_congr (p := fun q => false && sgb n x y E m k q) (q := fun _ => false) (n := 4 * n) (fun i _ => rfl)
    rw [this, cnt_sum]
    exact sumN_z (fun _ _ => rfl)
  | true =>
    rw [if_pos rfl, ← sgb_cnt hF hm hk]
    exact cnt_congr (fun q _ => rfl)
/-- whether q is on the round of d -/
def rnd (f : Nat → Nat) (T d q : Nat) : Bool := (fnd (fun j => itf f j d == q) T).isSome
theorem rnd_is {f : Nat → Nat} {T d q : Nat} : rnd f T d q = true ↔ ∃ j, j < T ∧ itf f j d = q := by
  unfold rnd
  constructor
  · intro h
    obtain ⟨j, hj⟩ := Option.isSome_iff_exists.mp h
    exact ⟨j, (fnd_some hj).1, by simpa using (fnd_some hj).2.1⟩
  · rintro ⟨j, h1, h2⟩
    obtain ⟨i, hi, -⟩ := fnd_ex (p := fun j => itf f j d == q) h1 (by simpa using h2)
    rw [hi]
    rfl
theorem rnd_step {f : Nat → Nat} {N T d q : Nat} (hf : ∀ q, q < N → f q < N) (hi : ∀ a b, a < N → b < N → f a = f b → a = b) (hd : d < N) (h0 : 0 < T) (hT : itf f T d = d) (hq : q < N) : rnd f T d (f q) = rnd f T d q := by
  have a : rnd f T d q = true → rnd f T d (f q) = true := by
    intro h
    obtain ⟨j, hj, rfl⟩ := rnd_is.mp h
    by_cases z : j + 1 < T
    · exact rnd_is.mpr ⟨j + 1, z, rfl⟩
    · exact rnd_is.mpr ⟨0, h0, by rw [← itf_s f j d, show j + 1 = T by omega, hT]; rfl⟩
  have b : rnd f T d (f q) = true → rnd f T d q = true := by
    intro h
    obtain ⟨j, hj, e⟩ := rnd_is.mp h
    cases j with
    | zero =>
      refine rnd_is.mpr ⟨T - 1, by omega, ?_⟩
      refine hi _ _ (itf_lt hf hd _) hq ?_
      rw [← itf_s f (T - 1) d, show T - 1 + 1 = T by omega, hT]
      exact e
    | succ j => exact rnd_is.mpr ⟨j, by omega, hi _ _ (itf_lt hf hd j) hq e⟩
  cases h1 : rnd f T d q with
  | true => exact a h1
  | false =>
    cases h2 : rnd f T d (f q) with
    | false => rfl
    | true => rw [b h2] at h1; cases h1
theorem rnd_cnt {f : Nat → Nat} {N d : Nat} (hf : ∀ q, q < N → f q < N) (hi : ∀ a b, a < N → b < N → f a = f b → a = b) (hd : d < N) : cnt (rnd f (orb f N d) d) N = orb f N d := by
  obtain ⟨h0, hN, hT, hl⟩ := orb_is hf hi hd
  refine Nat.le_antisymm ?_ ?_
  · have := cnt_le_inj (N := orb f N d) (p := rnd f (orb f N d) d) (f := fun q => (fnd (fun j => itf f j d == q) (orb f N d)).getD 0) N (fun _ => true) (fun i hi hp => ?_) (fun i j hi hj hp hp' e => ?_)
    · exact Nat.le_trans this (cnt_le _ _)
    · obtain ⟨j, hj⟩ := Option.isSome_iff_exists.mp hp
      rw [hj]
      exact ⟨(fnd_some hj).1, rfl⟩
    · obtain ⟨a, ha⟩ := Option.isSome_iff_exists.mp hp
      obtain ⟨b, hb⟩ := Option.isSome_iff_exists.mp hp'
      simp only [ha, hb, Option.getD_some] at e
      subst e
      have a1 := (fnd_some ha).2.1
      have b1 := (fnd_some hb).2.1
      simp only [beq_iff_eq] at a1 b1
      exact a1.symm.trans b1
  · refine cnt_inj (f := fun j => itf f j d) (orb f N d) _ (fun i hi2 => ⟨itf_lt hf hd i, rnd_is.mpr ⟨i, hi2, rfl⟩⟩) (fun i j hi2 hj2 e => ?_)
    rcases Nat.lt_trichotomy i j with z | z | z
    · exact absurd (itf_ret hf hi hd z e) (hl _ (by omega) (by omega))
    · exact z
    · exact absurd (itf_ret hf hi hd z e.symm) (hl _ (by omega) (by omega))
/-- a place of a corner: what it belongs to is told by the class of the corner -/
theorem it_cls {n : Nat} {x y : Nat → Nat} {E k : Nat} {m : Mat} (hF : VF n x y E) (hm : Mt E (mt m)) (hM : ∀ e, e < E → m e = some (mt m e)) (hk : k < E) : ∀ j, ∃ k', k' < E ∧ cl E m E k' = cl E m E k ∧ sgb n x y E (mt m) k' (itf (rot n x y E (mt m)) j (st n x y E k)) = true := by
  intro j
  induction j with
  | zero => exact ⟨k, hk, rfl, sgb_st hF hm hk⟩
  | succ j ih =>
    obtain ⟨k', h1, h2, h3⟩ := ih
    rcases sgb_step hF hm h1 h3 with z | z
    · exact ⟨k', h1, h2, z⟩
    · have hb := hm k' h1
      refine ⟨nxE E (mt m k'), nxE_lt (by omega), ?_, ?_⟩
      · rw [← h2]
        by_cases w : k' < mt m k'
        · exact ((cl_fx (E := E) (m := m)) k' _ h1 (hM k' h1) w).1.symm
        · have e := hM (mt m k') hb.1
          rw [hb.2.1] at e
          exact ((cl_fx (E := E) (m := m)) (mt m k') k' hb.1 e (by omega)).2
      · rw [itf_s, z]
        exact sgb_st hF hm (nxE_lt (by omega))
theorem tn_tg {n : Nat} {x y : Nat → Nat} {E k : Nat} {m : Mat} (hF : VF n x y E) (hm : Mt E (mt m)) (hM : ∀ e, e < E → m e = some (mt m e)) (hk : k < E) : tn n x y E (mt m) (st n x y E k) = tg E (cl E m E) (qt n x y E) k := by
  have hd : st n x y E k < 4 * n := st_lt hF
  have hrl := rot_lt (m := mt m) hF
  have hri := rot_inj hF hm
  obtain ⟨h0, hN, hT, -⟩ := tn_is hF hm hd
  have hlt : ∀ e b, m e = some b → e < E → b < E := fun e b h he => by
    have := hM e he
    rw [h] at this
    rw [Option.some.inj this]
    exact (hm e he).1
  have hstep := fun q (hq : q < 4 * n) => rnd_step hrl hri hd h0 hT hq
  have key : ∀ k', k' < E → (rnd (rot n x y E (mt m)) (tn n x y E (mt m) (st n x y E k)) (st n x y E k) (st n x y E k') = true ↔ cl E m E k' = cl E m E k) := by
    intro k' hk'
    constructor
    · intro h
      obtain ⟨j, -, e⟩ := rnd_is.mp h
      obtain ⟨k2, a1, a2, a3⟩ := it_cls hF hm hM hk j
      rw [e] at a3
      rw [sgb_uniq hF hm hk' a1 (sgb_st hF hm hk') a3]
      exact a2
    · intro h
      have hmE : ∀ e b, (fun e => if e < E then m e else none) e = some b → b < E := by
        intro e b h2
        by_cases he : e < E
        · simp only [he, if_true] at h2
          exact hlt e b h2 he
        · simp only [he, if_false] at h2
          cases h2
      have hcg : cl E m E = cl E (fun e => if e < E then m e else none) E := cl_congr E (fun e he => by simp only [he, if_true])
      have hseg : ∀ i, i < E → rnd (rot n x y E (mt m)) (tn n x y E (mt m) (st n x y E k)) (st n x y E k) (st n x y E i) = rnd (rot n x y E (mt m)) (tn n x y E (mt m) (st n x y E k)) (st n x y E k) (st n x y E (nxE E (mt m i))) := by
        intro i hi
        have he := (seg_end hF hm hi).2.1
        rw [← he]
        generalize qt n x y E i = w
        clear he
        induction w with
        | zero => rfl
        | succ w ih => rw [ih, itf_s, hstep _ (itf_lt hrl (st_lt hF) w)]
      have hfx : Fx E (fun e => if e < E then m e else none) (fun i => if rnd (rot n x y E (mt m)) (tn n x y E (mt m) (st n x y E k)) (st n x y E k) (st n x y E i) then 1 else 0) := by
        intro a b ha hab hlt2
        simp only [ha, if_true] at hab
        have eb : mt m a = b := mt_is hab
        have hb := hlt a b hab ha
        have e2 : mt m b = a := by rw [← eb]; exact (hm a ha).2.1
        refine ⟨?_, ?_⟩
        · simp only [hseg a ha, eb]
        · simp only [hseg b hb, e2]
      have s1 := cl_snd hmE hfx E (Nat.le_refl _) k' hk'
      have s2 := cl_snd hmE hfx E (Nat.le_refl _) k hk
      rw [← hcg] at s1 s2
      rw [h, s2] at s1
      have hself : rnd (rot n x y E (mt m)) (tn n x y E (mt m) (st n x y E k)) (st n x y E k) (st n x y E k) = true := rnd_is.mpr ⟨0, h0, rfl⟩
      simp only [hself, if_true] at s1
      by_cases z : rnd (rot n x y E (mt m)) (tn n x y E (mt m) (st n x y E k)) (st n x y E k) (st n x y E k') = true
      · exact z
      · rw [if_neg z] at s1; cases s1
  have hc := rnd_cnt hrl hri hd
  have hi := cnt_inv hF hm (rnd (rot n x y E (mt m)) (tn n x y E (mt m) (st n x y E k)) (st n x y E k)) hstep (fun q _ h => by
    obtain ⟨j, -, rfl⟩ := rnd_is.mp h
    obtain ⟨k2, a1, -, a3⟩ := it_cls hF hm hM hk j
    exact ⟨k2, a1, a3⟩)
  show orb (rot n x y E (mt m)) (4 * n) (st n x y E k) = _
  rw [← hc]
  show cnt (rnd (rot n x y E (mt m)) (tn n x y E (mt m) (st n x y E k)) (st n x y E k)) (4 * n) = _
  rw [hi]
  unfold tg tgr
  refine sumN_congr (fun k' hk' => ?_)
  by_cases z : cl E m E k' = cl E m E k
  · rw [if_pos ((key k' hk').mpr z), if_pos z]
  · rw [if_neg (fun w => z ((key k' hk').mp w)), if_neg z]
/-- how many places turn by t: t times as many as roots of that sum -/
theorem lack_cnt {n : Nat} {x y : Nat → Nat} {E t : Nat} {m : Mat} {qf : Nat → Nat} (hF : VF n x y E) (hm : Mt E (mt m)) (hM : ∀ e, e < E → m e = some (mt m e)) (hR : RQ E (cl E m E) qf (qt n x y E)) (h4 : t < 4) :
    cnt (fun q => tn n x y E (mt m) q == t) (4 * n) = t * cnt (fun i => cl E m E i == i && qf i == t) E := by
  have hE : 0 < E := hF.2.2.2.2.1.1
  have hP : Prt E (cl E m E) := by
    have hcg : cl E m E = cl E (fun e => if e < E then m e else none) E := cl_congr E (fun e he => by simp only [he, if_true])
    rw [hcg]
    refine Prt.cl (fun e b h2 => ?_) E (Nat.le_refl _)
    by_cases he : e < E
    · simp only [he, if_true] at h2
      rw [hM e he] at h2
      rw [← Option.some.inj h2]
      exact (hm e he).1
    · simp only [he, if_false] at h2
      cases h2
  rw [cnt_inv hF hm _ (fun q hq => by
    have := orb_step (rot_lt (m := mt m) hF) (rot_inj hF hm) hq
    show (orb (rot n x y E (mt m)) (4 * n) (rot n x y E (mt m) q) == t) = (orb (rot n x y E (mt m)) (4 * n) q == t)
    rw [this]) (fun q hq h => by
    refine Classical.byContradiction (fun hno => ?_)
    have := inner_tn hF hm hq (fun k hk => by
      cases z : sgb n x y E (mt m) k q with
      | false => rfl
      | true => exact absurd ⟨k, hk, z⟩ hno)
    simp only [this, beq_iff_eq] at h
    omega)]
  rw [cnt_sum, ← sumN_mul]
  have e1 : sumN (fun k => if (tn n x y E (mt m) (st n x y E k) == t) = true then qt n x y E k else 0) E = sumN (fun k => sumN (fun r => if cl E m E r = r ∧ qf r = t ∧ cl E m E k = r then qt n x y E k else 0) E) E := by
    refine sumN_congr (fun k hk => ?_)
    obtain ⟨l1, l2⟩ := hP k hk
    rw [tn_tg hF hm hM hk]
    refine (sumN_one (k := cl E m E k) (by omega) ?_ (fun j _ hne => if_neg (fun w => hne w.2.2.symm))).symm
    have hr := hR (cl E m E k) (by omega) l2
    have e : tg E (cl E m E) (qt n x y E) k = qf (cl E m E k) := hr.symm
    rw [e]
    by_cases z : qf (cl E m E k) = t
    · rw [if_pos ⟨l2, z, rfl⟩, if_pos (by simpa using z)]
    · rw [if_neg (fun w => z w.2.1), if_neg (by simpa using z)]
  rw [e1, sumN_swap]
  refine sumN_congr (fun r hr => ?_)
  by_cases z : cl E m E r = r ∧ qf r = t
  · rw [if_pos (by simp [z.1, z.2]), Nat.mul_one, ← z.2, hR r hr z.1]
    unfold tgr
    refine sumN_congr (fun k _ => ?_)
    by_cases w : cl E m E k = r
    · rw [if_pos ⟨z.1, rfl, w⟩, if_pos w]
    · rw [if_neg (fun v => w v.2.2), if_neg w]
  · rw [if_neg (by simpa using z), Nat.mul_zero]
    exact sumN_z (fun k _ => if_neg (fun w => z ⟨w.1, w.2.1⟩))
