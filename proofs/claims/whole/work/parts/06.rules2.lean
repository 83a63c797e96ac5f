section XS
variable {g : GV} {Z : ZC} {own : String} {cc : ByteArray} {nL d mc ms k n pc : Nat} {L : List (Option Value)} {st : List Value} {σ : PS}

theorem cat_map (st : List Value) : ((st.map (mv g)).map fun v => v.category) = st.map fun v => v.category := by
  rw [List.map_map]
  exact List.map_congr_left fun v _ => mv_cat g v
theorem fv_congr {σ1 : PS} {ci id j : Nat} (h1 : mi σ id j = mi σ1 id j) (h2 : ml σ id j = ml σ1 id j) (h3 : mr σ id j = mr σ1 id j) : fv σ ci id j = fv σ1 ci id j := by
  unfold fv
  rw [h1, h2, h3]

theorem x_get {id ci fk ix N : Nat} {C : String} {T : u_T} (hc : cl13[ci]? = some (C, T, N)) (hf : fk < N) (hlay : ∀ w ∈ u_ws C T N, w ∈ lwG) (hlk : Cond.fieldLink own ix C (T fk).2.1 (T fk).2.2.1 ∈ lwG) (hT : (T fk).1 = C) (hkd : kd σ id = some (.inl ci)) {v : Value} (hv : fv σ ci id fk = v) (hdg : decode cc pc = .ok (.getfield ix, 3)) (h : X g Z own cc nL d mc ms k n (pc + 3) L (v :: st) σ) : X g Z own cc nL d mc ms k n pc L (.ref id :: st) σ := by
  intro p e R s m args below meth c Q hZ hB hk hn H locs ls hR hS hL
  have hts := hB.2.2.2.2.1
  have hK : Kt g s := hB.2.2.2.2.2.1
  obtain ⟨r, h1, cell, q1, q2, q3, q4⟩ := hR.obj hkd
  have hr : r = (C, T, N) := Option.some.inj (h1.symm.trans hc)
  subst hr
  obtain ⟨hS2, hfc, kC, hkC, hkind⟩ := hK.1 ci _ hc
  obtain ⟨cf, kf, fi, f, hi, hsl⟩ := hS2 fk hf
  refine W.getf hB.1 hB.2.1 hB.2.2.2.1 (hts _ hlk) (by rw [← hT]; exact hi) (u_facts hfc hkC (u_lays hts hlay hf) hi).1 q1 (by rw [q3]; exact fun h => by cases h) (v := mv g v) ?_ rfl rfl hdg (h p e R s m args below meth c Q hZ hB hk hn H locs ls hR hS hL)
  rw [hsl, q4 fk hf]
  show some (mv g (fv σ ci id fk)) = some (mv g v)
  rw [hv]

theorem x_putI {id ci fk ix N : Nat} {C : String} {T : u_T} (hc : cl13[ci]? = some (C, T, N)) (hf : fk < N) (hlay : ∀ w ∈ u_ws C T N, w ∈ lwG) (hlk : Cond.fieldLink own ix C (T fk).2.1 (T fk).2.2.1 ∈ lwG) (hT : (T fk).1 = C) (hfin : (T fk).2.2.2 = false) (ty0 : Nat → FieldType) (hty : ∀ k, k < N → parseFieldDescriptor (T k).2.2.1 = some (ty0 k)) (hnm : ∀ a, a < N → ∀ b, b < N → a ≠ b → (T a).2.1 ≠ (T b).2.1) (hkd : kd σ id = some (.inl ci)) {x : Int32} (hnr : narrow (ty0 fk) (.int x) = .int x) (hfit : fits (ty0 fk) (.int x) = true) (hfv : ∀ σ1 : PS, fv σ1 ci id fk = .int (mi σ1 id fk)) (hdg : decode cc pc = .ok (.putfield ix, 3)) (h : X g Z own cc nL d mc ms k n (pc + 3) L st (si σ id fk x)) : X g Z own cc nL d mc ms k n pc L (.int x :: .ref id :: st) σ := by
  intro p e R s m args below meth c Q hZ hB hk hn H locs ls hR hS hL
  have hts := hB.2.2.2.2.1
  have hK : Kt g s := hB.2.2.2.2.2.1
  have hap := va_apart (own := own) hts hlay ty0 hty hnm hK hc
  obtain ⟨r, h1, cell, q1, q2, q3, q4⟩ := hR.obj hkd
  have hr : r = (C, T, N) := Option.some.inj (h1.symm.trans hc)
  subst hr
  obtain ⟨hS2, hfc, kC, hkC, hkind⟩ := hK.1 ci _ hc
  obtain ⟨cf, kf, fi, f, hi, hsl⟩ := hS2 fk hf
  have hly := hts _ (hlay _ (u_in_lay hf))
  unfold u_lay at hly
  rw [if_neg (by rw [hfin]; decide)] at hly
  have hst := (u_facts hfc hkC (u_lays hts hlay hf) hi).1
  have h6 := u_store hfc hkC hkind hly hi (hty fk hf) hnr hfit
  refine W.putK hB.1 hB.2.1 (f := f) ⟨hB.2.2.2.1, hts _ hlk, ⟨_, _, _, by rw [← hT]; exact hi⟩, hst⟩ (by rw [q2]; exact h6) q1 q3 (by rw [hsl]; exact k2_hasslot (q4 fk hf)) rfl rfl hdg fun H1 e1 e2 e3 => ?_
  rw [hsl] at e1 ⊢
  refine h p e R s m args below meth c Q hZ hB hk hn H1 _ ls (hR.put hkd e2 e3 rfl rfl (fun b hb => ⟨by first | exact sa_mi_ne _ hb | rfl, by first | exact sa_mi_ne _ hb | rfl, rfl⟩) ?_) (hS.put e2 e3 (adr_A (hR.at hkd).1)) hL
  unfold RelAt
  rw [show kd (si σ id fk x) = kd σ from rfl, hkd]
  refine ⟨_, hc, _, e1, q2, q3, fun j hj => ?_⟩
  have e1 : H1[adr g id]? = some (cell.setSlot ((gD g).2 ci fk) (.int x)) := e1
  show (cell.setSlot ((gD g).2 ci fk) (.int x)).slots[(gD g).2 ci j]? = _
  rw [t_set q4 hap hf (.int x) j hj]
  congr 1
  by_cases hjk : j = fk
  · subst hjk
    show updV _ _ _ _ = mv g (fv (si σ id j x) ci id j)
    rw [hfv]
    show updV _ _ _ _ = .int (mi (si σ id j x) id j)
    rw [show mi (si σ id j x) id = _ from sa_mi id _]
    simp [updV, upd, vp_updL]
  · show updV _ _ _ _ = mv g (fv (si σ id fk x) ci id j)
    unfold updV
    rw [if_neg hjk]
    have e4 : mi (si σ id fk x) id j = mi σ id j := by
      rw [show mi (si σ id fk x) id = _ from sa_mi id _]
      simp [upd, vp_updL, hjk]
    exact congrArg (mv g) (fv_congr (by first | exact e4.symm | rfl) (by first | exact e4.symm | rfl) rfl)

theorem x_putJ {id ci fk ix N : Nat} {C : String} {T : u_T} (hc : cl13[ci]? = some (C, T, N)) (hf : fk < N) (hlay : ∀ w ∈ u_ws C T N, w ∈ lwG) (hlk : Cond.fieldLink own ix C (T fk).2.1 (T fk).2.2.1 ∈ lwG) (hT : (T fk).1 = C) (hfin : (T fk).2.2.2 = false) (ty0 : Nat → FieldType) (hty : ∀ k, k < N → parseFieldDescriptor (T k).2.2.1 = some (ty0 k)) (hnm : ∀ a, a < N → ∀ b, b < N → a ≠ b → (T a).2.1 ≠ (T b).2.1) (hkd : kd σ id = some (.inl ci)) {x : Int64} (hnr : narrow (ty0 fk) (.long x) = .long x) (hfit : fits (ty0 fk) (.long x) = true) (hfv : ∀ σ1 : PS, fv σ1 ci id fk = .long (ml σ1 id fk)) (hdg : decode cc pc = .ok (.putfield ix, 3)) (h : X g Z own cc nL d mc ms k n (pc + 3) L st (sj σ id fk x)) : X g Z own cc nL d mc ms k n pc L (.long x :: .ref id :: st) σ := by
  intro p e R s m args below meth c Q hZ hB hk hn H locs ls hR hS hL
  have hts := hB.2.2.2.2.1
  have hK : Kt g s := hB.2.2.2.2.2.1
  have hap := va_apart (own := own) hts hlay ty0 hty hnm hK hc
  obtain ⟨r, h1, cell, q1, q2, q3, q4⟩ := hR.obj hkd
  have hr : r = (C, T, N) := Option.some.inj (h1.symm.trans hc)
  subst hr
  obtain ⟨hS2, hfc, kC, hkC, hkind⟩ := hK.1 ci _ hc
  obtain ⟨cf, kf, fi, f, hi, hsl⟩ := hS2 fk hf
  have hly := hts _ (hlay _ (u_in_lay hf))
  unfold u_lay at hly
  rw [if_neg (by rw [hfin]; decide)] at hly
  have hst := (u_facts hfc hkC (u_lays hts hlay hf) hi).1
  have h6 := u_store hfc hkC hkind hly hi (hty fk hf) hnr hfit
  refine W.putK hB.1 hB.2.1 (f := f) ⟨hB.2.2.2.1, hts _ hlk, ⟨_, _, _, by rw [← hT]; exact hi⟩, hst⟩ (by rw [q2]; exact h6) q1 q3 (by rw [hsl]; exact k2_hasslot (q4 fk hf)) rfl rfl hdg fun H1 e1 e2 e3 => ?_
  rw [hsl] at e1 ⊢
  refine h p e R s m args below meth c Q hZ hB hk hn H1 _ ls (hR.put hkd e2 e3 rfl rfl (fun b hb => ⟨by first | exact sl_ml_ne _ hb | rfl, by first | exact sl_ml_ne _ hb | rfl, rfl⟩) ?_) (hS.put e2 e3 (adr_A (hR.at hkd).1)) hL
  unfold RelAt
  rw [show kd (sj σ id fk x) = kd σ from rfl, hkd]
  refine ⟨_, hc, _, e1, q2, q3, fun j hj => ?_⟩
  have e1 : H1[adr g id]? = some (cell.setSlot ((gD g).2 ci fk) (.long x)) := e1
  show (cell.setSlot ((gD g).2 ci fk) (.long x)).slots[(gD g).2 ci j]? = _
  rw [t_set q4 hap hf (.long x) j hj]
  congr 1
  by_cases hjk : j = fk
  · subst hjk
    show updV _ _ _ _ = mv g (fv (sj σ id j x) ci id j)
    rw [hfv]
    show updV _ _ _ _ = .long (ml (sj σ id j x) id j)
    rw [show ml (sj σ id j x) id = _ from sl_ml id _]
    simp [updV, upd, vp_updL]
  · show updV _ _ _ _ = mv g (fv (sj σ id fk x) ci id j)
    unfold updV
    rw [if_neg hjk]
    have e4 : ml (sj σ id fk x) id j = ml σ id j := by
      rw [show ml (sj σ id fk x) id = _ from sl_ml id _]
      simp [upd, vp_updL, hjk]
    exact congrArg (mv g) (fv_congr (by first | exact e4.symm | rfl) (by first | exact e4.symm | rfl) rfl)

theorem x_gets {ix i : Nat} {nm : String} (hi : (i = 1 ∧ nm = "STEP_X") ∨ (i = 2 ∧ nm = "STEP_Y")) (hlk : Cond.fieldLink own ix "GluedPaper" nm "[I" ∈ lwG) (hdg : decode cc pc = .ok (.getstatic ix, 3)) (h : X g Z own cc nL d mc ms k n (pc + 3) L (.ref i :: st) σ) : X g Z own cc nL d mc ms k n pc L st σ := by
  intro p e R s m args below meth c Q hZ hB hk hn H locs ls hR hS hL
  have hZs := hB.2.2.2.2.2.2.1
  rcases hi with ⟨rfl, rfl⟩ | ⟨rfl, rfl⟩
  · exact va_gets hB.1 hB.2.1 hZs.2.1 hS hB.2.2.2.1 (hB.2.2.2.2.1 _ hlk) (fun _ h => h) hdg (h p e R s m args below meth c Q hZ hB hk hn H locs ls hR hS hL)
  · exact va_gets hB.1 hB.2.1 hZs.2.2.2.1 hS hB.2.2.2.1 (hB.2.2.2.2.1 _ hlk) (fun _ h => h) hdg (h p e R s m args below meth c Q hZ hB hk hn H locs ls hR hS hL)
theorem x_getsN {ix i : Nat} {nm : String} (hi : (i = 1 ∧ nm = "STEP_X") ∨ (i = 2 ∧ nm = "STEP_Y")) (hlk : (own, ix, "GluedPaper", nm, "[I", "GluedPaper") ∈ znF) (hdg : decode cc pc = .ok (.getstatic ix, 3)) (h : X g Z own cc nL d mc ms k n (pc + 3) L (.ref i :: st) σ) : X g Z own cc nL d mc ms k n pc L st σ := by
  intro p e R s m args below meth c Q hZ hB hk hn H locs ls hR hS hL
  have hZs := hB.2.2.2.2.2.2.1
  have hw := hZs.2.2.2.2.2.2.2.2.2.2.2.1 _ hlk
  rcases hi with ⟨rfl, rfl⟩ | ⟨rfl, rfl⟩
  · exact va_getsN hB.1 hB.2.1 hZs.2.1 hS hB.2.2.2.1 (va_Nw.use rfl hw) (fun _ h => h) hdg (h p e R s m args below meth c Q hZ hB hk hn H locs ls hR hS hL)
  · exact va_getsN hB.1 hB.2.1 hZs.2.2.2.1 hS hB.2.2.2.1 (va_Nw.use rfl hw) (fun _ h => h) hdg (h p e R s m args below meth c Q hZ hB hk hn H locs ls hR hS hL)
theorem x_ti {i : Int32} (hin : vp_in i 4) (hdg : decode cc pc = .ok (.iaload, 1)) (h : X g Z own cc nL d mc ms k n (pc + 1) L (.int (stepX i.toNatClampNeg) :: st) σ) : X g Z own cc nL d mc ms k n pc L (.int i :: .ref 1 :: st) σ := by
  intro p e R s m args below meth c Q hZ hB hk hn H locs ls hR hS hL
  exact va_ti hB.1 hB.2.1 hB.2.2.2.2.2.2.1.2.2.1 hS hin rfl hdg (h p e R s m args below meth c Q hZ hB hk hn H locs ls hR hS hL)
theorem x_ti2 {i : Int32} (hin : vp_in i 4) (hdg : decode cc pc = .ok (.iaload, 1)) (h : X g Z own cc nL d mc ms k n (pc + 1) L (.int (stepY i.toNatClampNeg) :: st) σ) : X g Z own cc nL d mc ms k n pc L (.int i :: .ref 2 :: st) σ := by
  intro p e R s m args below meth c Q hZ hB hk hn H locs ls hR hS hL
  exact va_ti hB.1 hB.2.1 hB.2.2.2.2.2.2.1.2.2.2.2.1 hS hin rfl hdg (h p e R s m args below meth c Q hZ hB hk hn H locs ls hR hS hL)
/-- the script -/
theorem x_ts {i : Int32} (hin : vp_in i (gL g)) (hdg : decode cc pc = .ok (.iaload, 1)) (h : X g Z own cc nL d mc ms k n (pc + 1) L (.int (gx g i.toNatClampNeg) :: st) σ) : X g Z own cc nL d mc ms k n pc L (.int i :: .ref 0 :: st) σ := by
  intro p e R s m args below meth c Q hZ hB hk hn H locs ls hR hS hL
  exact va_ti hB.1 hB.2.1 hB.2.2.2.2.2.2.1.1 hS hin rfl hdg (h p e R s m args below meth c Q hZ hB hk hn H locs ls hR hS hL)
theorem x_tslen (hdg : decode cc pc = .ok (.arraylength, 1)) (h : X g Z own cc nL d mc ms k n (pc + 1) L (.int (nI (gL g)) :: st) σ) : X g Z own cc nL d mc ms k n pc L (.ref 0 :: st) σ := by
  intro p e R s m args below meth c Q hZ hB hk hn H locs ls hR hS hL
  exact va_tlen hB.1 hB.2.1 hB.2.2.2.2.2.2.1.1 hS rfl hdg (h p e R s m args below meth c Q hZ hB hk hn H locs ls hR hS hL)
theorem x_alen {id t z : Nat} (ht : t < 7) (hkd : kd σ id = some (.inr (t, z))) (hdg : decode cc pc = .ok (.arraylength, 1)) (h : X g Z own cc nL d mc ms k n (pc + 1) L (.int (nI z) :: st) σ) : X g Z own cc nL d mc ms k n pc L (.ref id :: st) σ := by
  intro p e R s m args below meth c Q hZ hB hk hn H locs ls hR hS hL
  have hP : va_P (gD g) cl13 [(adr g id, .inl (gA g t, z, cont g σ t id))] H := fun j q hq => by
    match j, hq with
    | 0, hq => cases Option.some.inj hq; exact hR.arr hkd
    | j + 1, hq => simp at hq
  have h9 : (tys7 g)[t]? = some (gA g t, aty t) := by
    match t, ht with
    | 0, _ => rfl
    | 1, _ => rfl
    | 2, _ => rfl
    | 3, _ => rfl
    | 4, _ => rfl
    | 5, _ => rfl
    | 6, _ => rfl
  exact va_alen hB.1 hB.2.1 hB.2.2.2.2.2.1 hP 0 t rfl h9 rfl hdg (h p e R s m args below meth c Q hZ hB hk hn H locs ls hR hS hL)
/-- an element of an array of references -/
theorem x_aald {id t z : Nat} {i : Int32} {r : Option Nat} (ht : t = 5 ∨ t = 6) (hkd : kd σ id = some (.inr (t, z))) (hin : vp_in i z) (hr : mr σ id i.toNatClampNeg = r) (hdg : decode cc pc = .ok (.aaload, 1)) (h : X g Z own cc nL d mc ms k n (pc + 1) L (va_rf r :: st) σ) : X g Z own cc nL d mc ms k n pc L (.int i :: .ref id :: st) σ := by
  intro p e R s m args below meth c Q hZ hB hk hn H locs ls hR hS hL
  subst hr
  have hK : Kt g s := hB.2.2.2.2.2.1
  have hP := hR.arr hkd
  have ee : mv g (va_rf (mr σ id i.toNatClampNeg)) = va_rf ((mr σ id i.toNatClampNeg).map (adr g)) := by cases mr σ id i.toNatClampNeg <;> rfl
  have hh := h p e R s m args below meth c Q hZ hB hk hn H locs ls hR hS hL
  rw [List.map_cons, ee] at hh
  have hlt : i.toNatClampNeg < z := Nat.not_le.mp fun q => hin (Or.inr q)
  rcases ht with rfl | rfl
  · exact W.aald (v := va_rf ((mr σ id i.toNatClampNeg).map (adr g))) (ty := .array .int) hB.1 hB.2.1 hP ((hK.2 5 _ rfl).1 z (fun j => va_rf ((mr σ id j).map (adr g)))) rfl (fun q => by cases q) (by show ¬ (i < 0 ∨ (arrV _ _ _).slots.size ≤ _); rw [arrV_size]; exact hin) (by show (arrV _ _ _).slots[_]? = _; rw [arrV_read _ _ hlt]) rfl rfl hdg hh
  · have hP : va_P (gD g) cl13 [(adr g id, .inl (gA g 6, z, cont g σ 6 id))] H := fun j q hq => by
      match j, hq with
      | 0, hq => cases Option.some.inj hq; exact hP
      | j + 1, hq => simp at hq
    exact va_aldq hB.1 hB.2.1 hK hP 0 6 rfl rfl hin hdg hh

theorem lwG_good : ∀ w ∈ lwG, w ∈ lwG ∧ ((w.onTables && w.keeps) = true ∨ ∃ ty, w = .arrayClass ty) := fun w h => ⟨h, good_of_word (List.mem_filter.mp h).2⟩
theorem PcG_blind (σ : PS) (vs : List Value) : FrameBlind (PcG g σ vs) := by
  intro a U gf mk q
  obtain ⟨h1, h2, h3, h4, h5⟩ := q
  exact ⟨h1, va_K.moved (u := U) (U := U.calling gf mk a) (Vm.Alike.refl U.vm) h2, Zs.warm (s := U) (U := U.calling gf mk a) (State.WarmedH.refl U) (fun _ _ _ => rfl) h3, h4, h5⟩
theorem x_back {p : Program} {e : Env} {R : Room} {s : State} {m : MethodId} {args : Array Value} {below : List Frame} {meth : Method} {c : Code} {Q : State → Prop} {H : Heap} {locs : List Loc} {ls : Array Slot} {mc' ms' : Nat} {rest st0 : List Value} {a : Array Value} {Post : Option Value → PS → Prop}
    (hr : va_Run p (gl g) e R s m args below meth c H locs k n mc' ms' (F0 m pc ls st0) rest (QcG g Post a) (Ag g)) (hS : va_S (Ag g) s.heap H locs)
    (kk : ∀ (r : Option Value) (σ1 : PS) (H1 : Heap) (locs1 : List Loc), Rel g σ1 H1 → Post r σ1 → va_S (Ag g) s.heap H1 locs1 → W p (gl g) e R s m args below meth c H1 locs1 (k + mc') (n + ms') Q (F0 m (pc + 3) ls ((r.map (mv g)).toList ++ rest))) : W p (gl g) e R s m args below meth c H locs k n Q (F0 m pc ls st0) := by
  intro T hT X
  obtain ⟨v, st₀, t, T', Lc, h0, X', hLc, e1, e2, ⟨⟨r, σ1, hv, hrel, hpost⟩, hz, hk⟩, st⟩ := hr T hT X
  have hv' : v = r.map (mv g) := Outcome.returned.inj hv
  subst hv'
  rw [h0] at hz hk
  obtain ⟨t2, a1, b1⟩ := kk r σ1 T'.heap (locs ++ Lc) (by rw [e1]; exact hrel) hpost
    ⟨Nat.le_trans hS.1 (by rw [e1]; exact hz), fun q h1 h2 => by rw [e1, hk q (Nat.lt_of_lt_of_le h1 hS.1) h2]; exact hS.2.1 q h1 h2, fun q hq => by
      rcases List.mem_append.mp hq with h | h
      · exact hS.2.2 q h
      · exact hLc q h⟩ T' rfl X'
  exact ⟨t2, st t2 a1, b1⟩
theorem x_pre {s : State} {p : Program} {R : Room} {m : MethodId} {args : Array Value} {c : Code} {H : Heap} {locs : List Loc} {vs : List Value} (hB : BaseP g own cc nL d mc ms p R s m args c) (hR : Rel g σ H) (hS : va_S (Ag g) s.heap H locs) : ∀ U : State, U.heap = H → s.WarmedH U.vm → PcG g σ vs (vs.map (mv g)).toArray U := by
  intro U hU hW
  obtain ⟨-, -, -, -, -, hK, hZ, hN, -⟩ := hB
  refine ⟨rfl, hK.moved hW.alike, ?_, ?_, by rw [hU]; exact hR⟩
  · rw [hU]
    exact Zs.warm hW hS.2.1 hZ
  · rw [hU]
    exact Nat.le_trans hN hS.1

theorem x_callV {y : MethodName} {cy : ByteArray} {nLy ix ci N mc' ms' id : Nat} {ret : Option FieldType} {T : u_T} {As : List Value} {Post : Option Value → PS → Prop} {sa0 : List Value} (hdg : decode cc pc = .ok (.invokevirtual ix, 3)) (w1 : Cond.methodLink own ix y ∈ lwG) (w2 : Cond.instanceMethod y ∈ lwG) (w3 : Cond.selects y.cls y y ∈ lwG) (w4 : Cond.initialized y.cls ∈ lwG) (w5 : Cond.code y cy nLy ret ∈ lwG)
    (hd : y.cls ≠ "java/lang/invoke/MethodHandle" ∧ y.cls ≠ "java/lang/invoke/VarHandle" ∧ (parseMethodDescriptor y.desc).map (fun d => d.parameters.length) = some As.length) (hc : cl13[ci]? = some (y.cls, T, N)) (hkd : kd σ id = some (.inl ci)) (hst : (st.map fun v => v.category).sum ≤ 8) (hnL : nLy ≤ 45) (hmc : k + mc' ≤ mc) (hms : n + ms' ≤ ms) (hsa : sa0 = As.reverse ++ .ref id :: st)
    (hM : Ct g y cy nLy ret d mc' ms' (.ref id :: As) σ Post) (h : ∀ r σ1, Post r σ1 → X g Z own cc nL (d + 1) mc ms (k + mc') (n + ms') (pc + 3) L (r.toList ++ st) σ1) : X g Z own cc nL (d + 1) mc ms k n pc L sa0 σ := by
  intro p e R s m args below meth c Q hZ hB hk hn H locs ls hR hS hL
  subst hsa
  have ee : (As.reverse ++ Value.ref id :: st).map (mv g) = (As.map (mv g)).reverse ++ .ref (adr g id) :: st.map (mv g) := by simp [List.map_append, List.map_reverse, mv]
  rw [ee]
  have hK : Kt g s := hB.2.2.2.2.2.1
  obtain ⟨r0, h1, cell, q1, q2, q3, -⟩ := hR.obj hkd
  have hr0 : r0 = (y.cls, T, N) := Option.some.inj (h1.symm.trans hc)
  subst hr0
  refine x_back (va_runV (As := As.map (mv g)) (rest := st.map (mv g)) (Ts := lwG) ⟨hB.1, hB.2.1, hB.2.2.1, hB.2.2.2.1, hB.2.2.2.2.1⟩ hM (cwV As.length hB.2.2.2.2.1 ?_ rfl rfl rfl ⟨rfl, hd⟩ ?_) ⟨PcG_blind σ _, ⟨cell, q1, by rw [q3]; rfl, by rw [q2]; exact (hK.1 ci _ hc).2.1⟩, x_pre hB hR hS⟩ rfl (by simp) hL.1 rfl (lv_room (by rw [cat_map]; exact hst)) hdg ?_) hS (fun r σ1 H1 locs1 hR1 hp hS1 => ?_)
  · intro w hw
    unfold wsV at hw
    rcases List.mem_append.mp hw with hw | hw
    · simp only [List.mem_cons, List.not_mem_nil, or_false] at hw
      rcases hw with rfl | rfl | rfl | rfl
      · exact lwG_good _ w1
      · exact lwG_good _ w2
      · exact lwG_good _ w3
      · exact lwG_good _ w4
    · rcases List.mem_cons.mp hw with rfl | hw
      · exact lwG_good _ w5
      · exact lwG_good _ hw
  · obtain ⟨-, -, -, -, -, -, -, -, -, -, b1, b2⟩ := hB
    exact ⟨by show 16 + d + 1 ≤ R.frames; omega, by show 8 + (nLy + 11) + (1024 + 64 * d) ≤ R.locals; omega⟩
  · obtain ⟨-, -, -, -, -, -, -, -, c1, c2, -, -⟩ := hB
    rw [c1, c2]
    exact ⟨hmc, hms⟩
  · have h2 := h r σ1 hp p e R s m args below meth c Q hZ hB hmc hms H1 locs1 ls hR1 hS1 hL
    have e2 : (r.toList ++ st).map (mv g) = (r.map (mv g)).toList ++ st.map (mv g) := by cases r <;> rfl
    rw [e2] at h2
    exact h2
theorem x_callS {y : MethodName} {cy : ByteArray} {nLy ix mc' ms' : Nat} {ret : Option FieldType} {As : List Value} {Post : Option Value → PS → Prop} {sa0 : List Value} (hdg : decode cc pc = .ok (.invokestatic ix, 3)) (w1 : Cond.methodLink own ix y ∈ lwG) (w2 : Cond.static y ∈ lwG) (w4 : Cond.initialized y.cls ∈ lwG) (w5 : Cond.code y cy nLy ret ∈ lwG)
    (hd : y.cls ≠ "java/lang/invoke/MethodHandle" ∧ y.cls ≠ "java/lang/invoke/VarHandle" ∧ (parseMethodDescriptor y.desc).map (fun d => d.parameters.length) = some As.length) (hst : (st.map fun v => v.category).sum ≤ 8) (hnL : nLy ≤ 45) (hmc : k + mc' ≤ mc) (hms : n + ms' ≤ ms) (hsa : sa0 = As.reverse ++ st)
    (hM : Ct g y cy nLy ret d mc' ms' As σ Post) (h : ∀ r σ1, Post r σ1 → X g Z own cc nL (d + 1) mc ms (k + mc') (n + ms') (pc + 3) L (r.toList ++ st) σ1) : X g Z own cc nL (d + 1) mc ms k n pc L sa0 σ := by
  intro p e R s m args below meth c Q hZ hB hk hn H locs ls hR hS hL
  subst hsa
  have ee : (As.reverse ++ st).map (mv g) = (As.map (mv g)).reverse ++ st.map (mv g) := by simp [List.map_append, List.map_reverse]
  rw [ee]
  refine x_back (va_runS (As := As.map (mv g)) (rest := st.map (mv g)) (Ts := lwG) ⟨hB.1, hB.2.1, hB.2.2.1, hB.2.2.2.1, hB.2.2.2.2.1⟩ hM (va_cwS As.length hB.2.2.2.2.1 ?_ rfl rfl rfl hd ?_) ⟨PcG_blind σ _, x_pre hB hR hS⟩ rfl (by simp) hL.1 rfl (lv_room (by rw [cat_map]; exact hst)) hdg ?_) hS (fun r σ1 H1 locs1 hR1 hp hS1 => ?_)
  · intro w hw
    unfold va_wsS at hw
    rcases List.mem_append.mp hw with hw | hw
    · simp only [List.mem_cons, List.not_mem_nil, or_false] at hw
      rcases hw with rfl | rfl | rfl
      · exact lwG_good _ w1
      · exact lwG_good _ w2
      · exact lwG_good _ w4
    · rcases List.mem_cons.mp hw with rfl | hw
      · exact lwG_good _ w5
      · exact lwG_good _ hw
  · obtain ⟨-, -, -, -, -, -, -, -, -, -, b1, b2⟩ := hB
    exact ⟨by show 16 + d + 1 ≤ R.frames; omega, by show 8 + (nLy + 11) + (1024 + 64 * d) ≤ R.locals; omega⟩
  · obtain ⟨-, -, -, -, -, -, -, -, c1, c2, -, -⟩ := hB
    rw [c1, c2]
    exact ⟨hmc, hms⟩
  · have h2 := h r σ1 hp p e R s m args below meth c Q hZ hB hmc hms H1 locs1 ls hR1 hS1 hL
    have e2 : (r.toList ++ st).map (mv g) = (r.map (mv g)).toList ++ st.map (mv g) := by cases r <;> rfl
    rw [e2] at h2
    exact h2

theorem x_iret {ret : Option FieldType} {Post : Option Value → PS → Prop} {v : Int32} {ty : FieldType} (hr : ret = some ty) (hnr : narrow ty (.int v) = .int v) (hdg : decode cc pc = .ok (.ireturn, 1)) (hp : Post (some (.int v)) σ) : X g (ZM g ret mc ms Post) own cc nL d mc ms k n pc L [.int v] σ := by
  intro p e R s m args below meth c Q hZ hB hk hn H locs ls hR hS hL
  obtain ⟨rfl, hrt, hlk⟩ := hZ
  refine W.widen hk hn ?_
  have hlocks : meth.locks = false := hlk
  exact W.zret hB.1 hB.2.1 (by rw [hrt, hr]) hnr (fun t ht _ => ⟨⟨some (.int v), σ, rfl, by rw [ht]; exact hR, hp⟩, hS.F ht⟩) hS.2.2 hdg
theorem x_lret {ret : Option FieldType} {Post : Option Value → PS → Prop} {v : Int64} (hr : ret = some .long) (hdg : decode cc pc = .ok (.lreturn, 1)) (hp : Post (some (.long v)) σ) : X g (ZM g ret mc ms Post) own cc nL d mc ms k n pc L [.long v] σ := by
  intro p e R s m args below meth c Q hZ hB hk hn H locs ls hR hS hL
  obtain ⟨rfl, hrt, hlk⟩ := hZ
  refine W.widen hk hn ?_
  have hlocks : meth.locks = false := hlk
  exact W.lret hB.1 hB.2.1 (by rw [hrt, hr]) (fun t ht _ => ⟨⟨some (.long v), σ, rfl, by rw [ht]; exact hR, hp⟩, hS.F ht⟩) hS.2.2 hdg
theorem x_vret {ret : Option FieldType} {Post : Option Value → PS → Prop} (hr : ret = none) (hdg : decode cc pc = .ok (.return_, 1)) (hp : Post none σ) : X g (ZM g ret mc ms Post) own cc nL d mc ms k n pc L [] σ := by
  intro p e R s m args below meth c Q hZ hB hk hn H locs ls hR hS hL
  obtain ⟨rfl, hrt, hlk⟩ := hZ
  refine W.widen hk hn ?_
  have hlocks : meth.locks = false := hlk
  exact W.vret hB.1 hB.2.1 (by rw [hrt, hr]) (fun t ht _ => ⟨⟨none, σ, rfl, by rw [ht]; exact hR, hp⟩, hS.F ht⟩) hS.2.2 hdg
theorem x_aret {ret : Option FieldType} {Post : Option Value → PS → Prop} {a : Nat} {t0 : FieldType} (hr : ret = some (.array t0)) (hdg : decode cc pc = .ok (.areturn, 1)) (hp : Post (some (.ref a)) σ) : X g (ZM g ret mc ms Post) own cc nL d mc ms k n pc L [.ref a] σ := by
  intro p e R s m args below meth c Q hZ hB hk hn H locs ls hR hS hL
  obtain ⟨rfl, hrt, hlk⟩ := hZ
  refine W.widen hk hn ?_
  have hlocks : meth.locks = false := hlk
  exact W.aret hB.1 hB.2.1 (by rw [hrt, hr]) (Or.inr ⟨_, rfl⟩) (Or.inr ⟨_, rfl⟩) (fun t ht _ => ⟨⟨some (.ref a), σ, rfl, by rw [ht]; exact hR, hp⟩, hS.F ht⟩) hS.2.2 hdg

theorem x_min {ix : Nat} {x y : Int32} (w1 : Cond.methodLink own ix Lib.Math.min.name ∈ lwG) (w2 : Cond.static Lib.Math.min.name ∈ lwG) (w3 : Cond.initialized "java/lang/Math" ∈ lwG) (w4 : Cond.code Lib.Math.min.name Lib.Math.min.code 2 (some .int) ∈ lwG) (hst : (st.map fun v => v.category).sum ≤ 8) (hdg : decode cc pc = .ok (.invokestatic ix, 3)) (h : X g Z own cc nL d mc ms k n (pc + 3) L (.int (if y < x then y else x) :: st) σ) : X g Z own cc nL d mc ms k n pc L (.int y :: .int x :: st) σ := by
  intro p e R s m args below meth c Q hZ hB hk hn H locs ls hR hS hL
  have hts := hB.2.2.2.2.1
  have hst2 : ((st.map (mv g)).map fun v => v.category).sum ≤ 8 := by rw [cat_map]; exact hst
  have hh := h p e R s m args below meth c Q hZ hB hk hn H locs ls hR hS hL
  obtain ⟨b0, b1, b2, b3, -, -, -, -, c1, c2, d1, d2⟩ := hB
  exact va_mmin b0 b1 (by rw [b2, hL.1]) b3 (hts _ w1) (hts _ w2) (hts _ w3) (hts _ w4) (by omega) (by omega) (by omega) (by omega) hdg hh

theorem x_max {ix : Nat} {x y : Int32} (w1 : Cond.methodLink own ix Lib.Math.max.name ∈ lwG) (w2 : Cond.static Lib.Math.max.name ∈ lwG) (w3 : Cond.initialized "java/lang/Math" ∈ lwG) (w4 : Cond.code Lib.Math.max.name Lib.Math.max.code 2 (some .int) ∈ lwG) (hst : (st.map fun v => v.category).sum ≤ 8) (hdg : decode cc pc = .ok (.invokestatic ix, 3)) (h : X g Z own cc nL d mc ms k n (pc + 3) L (.int (if x < y then y else x) :: st) σ) : X g Z own cc nL d mc ms k n pc L (.int y :: .int x :: st) σ := by
  intro p e R s m args below meth c Q hZ hB hk hn H locs ls hR hS hL
  have hts := hB.2.2.2.2.1
  have hst2 : ((st.map (mv g)).map fun v => v.category).sum ≤ 8 := by rw [cat_map]; exact hst
  have hh := h p e R s m args below meth c Q hZ hB hk hn H locs ls hR hS hL
  obtain ⟨b0, b1, b2, b3, -, -, -, -, c1, c2, d1, d2⟩ := hB
  exact va_mmax b0 b1 (by rw [b2, hL.1]) b3 (hts _ w1) (hts _ w2) (hts _ w3) (hts _ w4) (by omega) (by omega) (by omega) (by omega) hdg hh

theorem x_abs {ix : Nat} {x : Int32} (w1 : Cond.methodLink own ix Lib.Math.abs.name ∈ lwG) (w2 : Cond.static Lib.Math.abs.name ∈ lwG) (w3 : Cond.initialized "java/lang/Math" ∈ lwG) (w4 : Cond.code Lib.Math.abs.name Lib.Math.abs.code 1 (some .int) ∈ lwG) (hst : (st.map fun v => v.category).sum ≤ 8) (hdg : decode cc pc = .ok (.invokestatic ix, 3)) (h : X g Z own cc nL d mc ms k n (pc + 3) L (.int (if 0 ≤ x then x else 0 - x) :: st) σ) : X g Z own cc nL d mc ms k n pc L (.int x :: st) σ := by
  intro p e R s m args below meth c Q hZ hB hk hn H locs ls hR hS hL
  have hts := hB.2.2.2.2.1
  have hst2 : ((st.map (mv g)).map fun v => v.category).sum ≤ 8 := by rw [cat_map]; exact hst
  have hh := h p e R s m args below meth c Q hZ hB hk hn H locs ls hR hS hL
  obtain ⟨b0, b1, b2, b3, -, -, -, -, c1, c2, d1, d2⟩ := hB
  exact va_mabs b0 b1 (by rw [b2, hL.1]) b3 (hts _ w1) (hts _ w2) (hts _ w3) (hts _ w4) (by omega) (by omega) (by omega) (by omega) hdg hh

theorem x_minL {ix : Nat} {x y : Int64} (w1 : Cond.methodLink own ix Lib.MathLoose.min_long.x ∈ lwG) (w2 : Cond.static Lib.MathLoose.min_long.x ∈ lwG) (w3 : Cond.initialized "java/lang/Math" ∈ lwG) (w4 : Cond.code Lib.MathLoose.min_long.x Lib.MathLoose.min_long.code 4 (some .long) ∈ lwG) (hst : (st.map fun v => v.category).sum ≤ 8) (hdg : decode cc pc = .ok (.invokestatic ix, 3)) (h : X g Z own cc nL d mc ms k n (pc + 3) L (.long (if y < x then y else x) :: st) σ) : X g Z own cc nL d mc ms k n pc L (.long y :: .long x :: st) σ := by
  intro p e R s m args below meth c Q hZ hB hk hn H locs ls hR hS hL
  have hts := hB.2.2.2.2.1
  have hst2 : ((st.map (mv g)).map fun v => v.category).sum ≤ 8 := by rw [cat_map]; exact hst
  have hh := h p e R s m args below meth c Q hZ hB hk hn H locs ls hR hS hL
  obtain ⟨b0, b1, b2, b3, -, -, -, -, c1, c2, d1, d2⟩ := hB
  exact va_mmin_long b0 b1 (by rw [b2, hL.1]) b3 (hts _ w1) (hts _ w2) (hts _ w3) (hts _ w4) (by omega) (by omega) (by omega) (by omega) hdg hh

theorem x_copyi {ix a b n0 n1 : Nat} {sp dp z : Int32} (w1 : Cond.methodLink own ix arraycopyName ∈ lwG) (w2 : Cond.native arraycopyName ∈ lwG) (w3 : Cond.static arraycopyName ∈ lwG) (w4 : Cond.initialized "java/lang/System" ∈ lwG) (hka : kd σ a = some (.inr (0, n0))) (hkb : kd σ b = some (.inr (0, n1)))
    (h1 : ¬ sp < 0) (h2 : ¬ dp < 0) (h3 : ¬ z < 0) (h4 : sp.toNatClampNeg + z.toNatClampNeg ≤ n0) (h5 : dp.toNatClampNeg + z.toNatClampNeg ≤ n1) (hst : (st.map fun v => v.category).sum ≤ 8) (hdg : decode cc pc = .ok (.invokestatic ix, 3))
    (h : X g Z own cc nL d mc ms k n (pc + 3) L st (sa σ b (va_cpy (mi σ a) (mi σ b) sp.toNatClampNeg dp.toNatClampNeg z.toNatClampNeg))) : X g Z own cc nL d mc ms k n pc L (.int z :: .int dp :: .ref b :: .int sp :: .ref a :: st) σ := by
  intro p e R s m args below meth c Q hZ hB hk hn H locs ls hR hS hL
  have nn : ∀ z : Int32, ¬ z < 0 → z.toInt = (z.toNatClampNeg : Int) := by
    intro z hz
    have hz0 : (0 : Int) ≤ z.toInt := by
      have := Int32.not_lt.mp hz
      simpa using Int32.le_iff_toInt_le.mp this
    show z.toInt = ((z.toInt.toNat : Nat) : Int)
    omega
  intro T hT XS
  have hts := hB.2.2.2.2.1
  have hK : Kt g s := hB.2.2.2.2.2.1
  have hst2 : ((st.map (mv g)).map fun v => v.category).sum ≤ 8 := by rw [cat_map]; exact hst
  have hc0 : H[adr g a]? = some (vp_cell (gA g 0) (n0, .inl (mi σ a))) := hR.arr hka
  have hc1 : H[adr g b]? = some (vp_cell (gA g 0) (n1, .inl (mi σ b))) := hR.arr hkb
  obtain ⟨-, k0, hk0, cm0, hkk0⟩ := (hK.2 0 _ rfl).1 n0 (fun j => .int (mi σ a j))
  obtain ⟨-, k1, hk1, cm1, hkk1⟩ := (hK.2 0 _ rfl).1 n1 (fun j => .int (mi σ b j))
  have hroom : nativeFrameWords "java/lang/System" "arraycopy" 5 + 11 ≤ 1000 := by decide +kernel
  obtain ⟨vm', X', step⟩ := XS.arraycopy hB.1 hB.2.2.2.1 (hts _ w1) (hts _ w2) (hts _ w3) (hts _ w4) (src := adr g a) (dst := adr g b) (cs := vp_cell (gA g 0) (n0, .inl (mi σ a))) (cd := vp_cell (gA g 0) (n1, .inl (mi σ b))) (srcPos := sp) (destPos := dp) (n := z) (by rw [hT]; exact hc0) (by rw [hT]; exact hc1)
    (fun _ h => by cases h) (fun _ h => by cases h) (fun h => by cases h) (fun h => by cases h) hk0 hk1 hkk0 hkk1 (by simp [refKind]) h1 h2 h3
    (by rw [nn sp h1, nn z h3]; show ¬ _ > ((arrV (gA g 0) n0 (fun j => .int (mi σ a j))).slots.size : Int); rw [arrV_size]; omega)
    (by rw [nn dp h2, nn z h3]; show ¬ _ > ((arrV (gA g 0) n1 (fun j => .int (mi σ b j))).slots.size : Int); rw [arrV_size]; omega)
    (fun vm₁ _ i hi => by
      have e : (vp_cell (gA g 0) (n0, .inl (mi σ a))).slots.getD (sp.toNatClampNeg + i) .null = .int (mi σ a (sp.toNatClampNeg + i)) := by
        show (arrV (gA g 0) n0 (fun j => .int (mi σ a j))).slots.getD _ _ = _
        rw [Array.getD_eq_getD_getElem?, arrV_read _ _ (by omega)]
        rfl
      refine ⟨?_, ?_⟩
      · rw [e]
        rfl
      · rw [e]
        exact trivial)
    (g := F0 m pc ls (.int z :: .int dp :: .ref (adr g b) :: .int sp :: .ref (adr g a) :: st.map (mv g))) rfl (by show ls.size = _; rw [hB.2.2.1, hL.1]) (rest := st.map (mv g)) rfl (by rw [hB.2.1]; exact hdg) (by obtain ⟨-, -, -, -, -, -, -, -, c1, c2, d1, d2⟩ := hB; omega) (by obtain ⟨-, -, -, -, -, -, -, -, c1, c2, d1, d2⟩ := hB; show 2 * 0 + _ + _ ≤ _; omega)
  have e1 : copied (vp_cell (gA g 0) (n0, .inl (mi σ a))) (vp_cell (gA g 0) (n1, .inl (mi σ b))) sp dp z = vp_cell (gA g 0) (n1, .inl (va_cpy (mi σ a) (mi σ b) sp.toNatClampNeg dp.toNatClampNeg z.toNatClampNeg)) := va_copied (fun z => .int z) (gA g 0) (gA g 0) (mi σ a) (mi σ b) h4
  rw [e1] at X' step
  have hl : adr g b < H.size := (Array.getElem?_eq_some_iff.mp hc1).1
  generalize hG : vp_cell (gA g 0) (n1, .inl (va_cpy (mi σ a) (mi σ b) sp.toNatClampNeg dp.toNatClampNeg z.toNatClampNeg)) = G at X' step
  have hheap : ((T.setVm vm').setCell (adr g b) G).heap = H.setIfInBounds (adr g b) G := by rw [← hT]; rfl
  have oq : ∀ q : Nat, q ≠ adr g b → (H.setIfInBounds (adr g b) G)[q]? = H[q]? := fun q hq => by simp [Array.getElem?_setIfInBounds, Ne.symm hq]
  have hA := adr_A (g := g) (hR.at hkb).1
  obtain ⟨t, a1, b1⟩ := h p e R s m args below meth c Q hZ hB hk hn _ _ ls (hR.put (σ1 := sa σ b (va_cpy (mi σ a) (mi σ b) sp.toNatClampNeg dp.toNatClampNeg z.toNatClampNeg)) hkb (by simp) oq rfl rfl (fun q hq => ⟨sa_mi_ne _ hq, rfl, rfl⟩) (by
      unfold RelAt
      rw [show kd (sa σ b _) = kd σ from rfl, hkb]
      show (H.setIfInBounds (adr g b) G)[adr g b]? = some (vp_cell (gA g 0) (n1, .inl (mi (sa σ b _) b)))
      rw [sa_mi, hG]
      simp [Array.getElem?_setIfInBounds, hl])) ⟨by simp; exact hS.1, fun q g1 g2 => by
      rw [oq q (fun e => g2 (by rw [e]; exact hA))]
      exact hS.2.1 q g1 g2, fun q hq => by
      rcases List.mem_append.mp hq with h | h
      · exact hS.2.2 q h
      · obtain ⟨z, -, hz⟩ := List.mem_map.mp h
        rw [← hz]
        exact hA⟩ hL _ hheap X'
  exact ⟨t, step t a1, b1⟩

end XS
