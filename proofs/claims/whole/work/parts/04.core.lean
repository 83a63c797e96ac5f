/-! ===== the store: objects and arrays by numbers, what they hold by typed functions; its relation to the heap ===== -/
abbrev cl13 : List vw_C := [(RX0, TX0, 3), (RX1, TX1, 12), (RX2, TX2, 4), (RX3, TX3, 3), (RX4, TX4, 10), (RX5, TX5, 9), (RX6, TX6, 3), (RX7, TX7, 8), (RX8, TX8, 6), (RX9, TX9, 16), (RX10, TX10, 8), (RX11, TX11, 14), (RX12, TX12, 85)]
def ftc (ci k : Nat) : FieldType := match ci with
  | 0 => tyX0 k
  | 1 => tyX1 k
  | 2 => tyX2 k
  | 3 => tyX3 k
  | 4 => tyX4 k
  | 5 => tyX5 k
  | 6 => tyX6 k
  | 7 => tyX7 k
  | 8 => tyX8 k
  | 9 => tyX9 k
  | 10 => tyX10 k
  | 11 => tyX11 k
  | _ => tyX12 k
abbrev KD : Type := Nat ⊕ (Nat × Nat)
abbrev PS : Type := (Nat → Nat → Int32) × (Nat → Nat → Int64) × (Nat → Nat → Option Nat) × (Nat → Option KD) × Nat
def mi (σ : PS) : Nat → Nat → Int32 := σ.1
def ml (σ : PS) : Nat → Nat → Int64 := σ.2.1
def mr (σ : PS) : Nat → Nat → Option Nat := σ.2.2.1
def kd (σ : PS) : Nat → Option KD := σ.2.2.2.1
def nx (σ : PS) : Nat := σ.2.2.2.2
/-- all of an object's or array's ints at once -/
def sa (σ : PS) (a : Nat) (f : Nat → Int32) : PS := (fun b => if b = a then f else σ.1 b, σ.2)
def sl (σ : PS) (a : Nat) (f : Nat → Int64) : PS := (σ.1, fun b => if b = a then f else σ.2.1 b, σ.2.2)
def sr (σ : PS) (a : Nat) (f : Nat → Option Nat) : PS := (σ.1, σ.2.1, fun b => if b = a then f else σ.2.2.1 b, σ.2.2.2)
def si (σ : PS) (a i : Nat) (v : Int32) : PS := sa σ a (upd (mi σ a) i v)
def sj (σ : PS) (a i : Nat) (v : Int64) : PS := sl σ a (vp_updL (ml σ a) i v)
def sq (σ : PS) (a i : Nat) (v : Option Nat) : PS := sr σ a (va_up (mr σ a) i v)
/-- the launch; class numbers and slots; array classes; where the given objects lie; where the new ones begin; the script -/
abbrev GV : Type := Launch × va_G × (Nat → ClassId) × (Nat → Nat) × Nat × Nat × (Nat → Int32)
def gl (g : GV) : Launch := g.1
def gD (g : GV) : va_G := g.2.1
def gA (g : GV) : Nat → ClassId := g.2.2.1
def gb (g : GV) : Nat → Nat := g.2.2.2.1
def gN (g : GV) : Nat := g.2.2.2.2.1
def gL (g : GV) : Nat := g.2.2.2.2.2.1
def gx (g : GV) : Nat → Int32 := g.2.2.2.2.2.2
def adr (g : GV) (id : Nat) : Nat := if id < 10 then gb g id else gN g + (id - 10)
def mv (g : GV) (v : Value) : Value := match v with
  | .ref i => .ref (adr g i)
  | w => w
def Ag (g : GV) : Nat → Prop := fun q => gN g ≤ q
def fv (σ : PS) (ci id k : Nat) : Value := match ftc ci k with
  | .long => .long (ml σ id k)
  | .object _ => va_rf (mr σ id k)
  | .array _ => va_rf (mr σ id k)
  | _ => .int (mi σ id k)
def cont (g : GV) (σ : PS) (t id : Nat) : (Nat → Int32) ⊕ (Nat → Int64) ⊕ (Nat → UInt32) ⊕ (Nat → UInt64) ⊕ (Nat → Option Nat) := match t with
  | 0 => .inl (mi σ id)
  | 1 => .inr (.inl (ml σ id))
  | 2 => .inl (mi σ id)
  | 3 => .inl (mi σ id)
  | 4 => .inl (mi σ id)
  | _ => .inr (.inr (.inr (.inr (fun i => (mr σ id i).map (adr g)))))
def aty (t : Nat) : FieldType := match t with
  | 0 => .int
  | 1 => .long
  | 2 => .byte
  | 3 => .char
  | 4 => .boolean
  | 5 => .array .int
  | _ => .object RX3
abbrev tys7 (g : GV) : List (ClassId × FieldType) := [(gA g 0, .int), (gA g 1, .long), (gA g 2, .byte), (gA g 3, .char), (gA g 4, .boolean), (gA g 5, .array .int), (gA g 6, .object RX3)]
def RelAt (g : GV) (σ : PS) (H : Heap) (id : Nat) : Prop := match kd σ id with
  | none => True
  | some (.inl ci) => ∃ r : vw_C, cl13[ci]? = some r ∧ t_OB (adr g id) ((gD g).1 ci) r.2.2 ((gD g).2 ci) H (fun k => mv g (fv σ ci id k))
  | some (.inr (t, n)) => H[adr g id]? = some (vp_cell (gA g t) (n, cont g σ t id))
def Rel (g : GV) (σ : PS) (H : Heap) : Prop := 10 ≤ nx σ ∧ H.size = gN g + (nx σ - 10) ∧ (∀ id, kd σ id ≠ none → 10 ≤ id ∧ id < nx σ) ∧ ∀ id, RelAt g σ H id
def lwG : List Cond := lw_tbl.filter goodWord
theorem gw {w : Cond} (i : Nat) (h : lw_tbl[i]? = some w) (hg : goodWord w = true) : w ∈ lwG := List.mem_filter.mpr ⟨List.mem_of_getElem? h, hg⟩
def Kt (g : GV) (U : State) : Prop := va_K (gD g) cl13 (tys7 g) U
def stepX : Nat → Int32 := fun j => match j with
  | 1 => 1
  | 3 => -1
  | _ => 0
def stepY : Nat → Int32 := fun j => match j with
  | 0 => -1
  | 2 => 1
  | _ => 0
/-- "()<=+-*;" -/
def signB : Nat → Int32 := fun j => match j with
  | 0 => 40
  | 1 => 41
  | 2 => 60
  | 3 => 61
  | 4 => 43
  | 5 => 45
  | 6 => 42
  | _ => 59
def zstr : List (String × Nat × String × Nat) := [("GluedPaper$Tape", 74, "()<=+-*;", 3), ("GluedPaper", 261, "no such cells, no such what, or no body", 5), ("GluedPaper", 272, "no way", 6), ("GluedPaper", 276, "no such cell, no such what, or no body", 7), ("GluedPaper", 278, "no closed way", 8)]
def znF : List (String × Nat × String × String × String × String) := [("GluedPaper$Figure", 65, "GluedPaper", "STEP_X", "[I", "GluedPaper"), ("GluedPaper$Figure", 68, "GluedPaper", "STEP_Y", "[I", "GluedPaper"), ("GluedPaper$Unfolder", 114, "GluedPaper", "STEP_X", "[I", "GluedPaper"), ("GluedPaper$Unfolder", 117, "GluedPaper", "STEP_Y", "[I", "GluedPaper")]
def znM : List (String × Nat × MethodName × String) := [("GluedPaper", 9, ({ cls := "GluedPaper$Tape", name := "<init>", desc := "()V" } : MethodName), "GluedPaper"), ("GluedPaper", 18, ({ cls := "GluedPaper$Reader", name := "<init>", desc := "()V" } : MethodName), "GluedPaper"), ("GluedPaper", 25, ({ cls := "GluedPaper$Figure", name := "<init>", desc := "()V" } : MethodName), "GluedPaper"), ("GluedPaper", 35, ({ cls := "GluedPaper$Acts", name := "<init>", desc := "()V" } : MethodName), "GluedPaper"), ("GluedPaper", 42, ({ cls := "GluedPaper$Corners", name := "<init>", desc := "()V" } : MethodName), "GluedPaper"), ("GluedPaper$Gluings", 34, ({ cls := "GluedPaper$Corners", name := "<init>", desc := "()V" } : MethodName), "GluedPaper"), ("GluedPaper", 61, ({ cls := "GluedPaper$Body", name := "<init>", desc := "()V" } : MethodName), "GluedPaper"), ("GluedPaper$Bodies", 11, ({ cls := "GluedPaper$Body", name := "<init>", desc := "()V" } : MethodName), "GluedPaper"), ("GluedPaper", 93, ({ cls := "GluedPaper$Marks", name := "<init>", desc := "()V" } : MethodName), "GluedPaper")]
/-- arrays of rows: their component is the class of the rows -/
def va_AB (g : GV) (U : State) : Prop := ∃ kA : Class, U.vm.classes[gA g 5]? = some kA ∧ kA.kind = .array (gA g 0) (.array .int)
theorem va_AB.moved {g : GV} {u U : State} (hvm : u.vm.Alike U.vm) (h : va_AB g u) : va_AB g U := by
  obtain ⟨kA, h1, h2⟩ := h
  obtain ⟨k', hk', he⟩ := hvm.2.2 _ _ h1
  exact ⟨k', hk', by rw [he]; exact h2⟩
def Zs (g : GV) (U : State) (H : Heap) : Prop :=
  va_T .int (gb g 0) (gL g) (fun j => .int (gx g j)) (Ag g) U H ∧
  va_Z "GluedPaper" "STEP_X" "[I" (.ref (gb g 1)) (Ag g) U H ∧ va_T .int (gb g 1) 4 (fun j => .int (stepX j)) (Ag g) U H ∧
  va_Z "GluedPaper" "STEP_Y" "[I" (.ref (gb g 2)) (Ag g) U H ∧ va_T .int (gb g 2) 4 (fun j => .int (stepY j)) (Ag g) U H ∧
  va_Z "java/lang/String" "COMPACT_STRINGS" "Z" (.int 1) (Ag g) U H ∧
  va_O "java/lang/String" (gb g 3) (Ag g) U H ∧ va_OF "java/lang/String" "coder" "B" (.int 0) (gb g 3) (Ag g) U H ∧ va_OF "java/lang/String" "value" "[B" (.ref (gb g 4)) (gb g 3) (Ag g) U H ∧ va_T .byte (gb g 4) 8 (fun j => .int (signB j)) (Ag g) U H ∧
  (∀ q ∈ zstr, vk_R q.1 q.2.1 q.2.2.1 (gb g q.2.2.2) U) ∧ (∀ q ∈ znF, va_Nw (.fieldLinkNest q.1 q.2.1 q.2.2.1 q.2.2.2.1 q.2.2.2.2.1 q.2.2.2.2.2) U) ∧ (∀ q ∈ znM, va_Nw (.methodLinkNest q.1 q.2.1 q.2.2.1 q.2.2.2) U) ∧
  vx_Zq Bundle.tN "UNASSIGNED_STACK" Bundle.steD (Ag g) U H ∧ vx_Zq Bundle.tN "SUPPRESSED_SENTINEL" Bundle.listD (Ag g) U H ∧ va_AB g U
theorem Zs.warm {g : GV} {s U : State} {H H1 : Heap} (hW : s.WarmedH U.vm) (hq : ∀ a : Nat, a < H.size → ¬ Ag g a → H1[a]? = H[a]?) (h : Zs g s H) : Zs g U H1 := by
  obtain ⟨h1, h2, h3, h4, h5, h6, h7, h8, h9, h10, h11, h12, h13, h14, h15, h16⟩ := h
  have ha := hW.alike
  exact ⟨va_T.moved ha (h1.kept hq), va_Z.moved ha (h2.kept hq), va_T.moved ha (h3.kept hq), va_Z.moved ha (h4.kept hq), va_T.moved ha (h5.kept hq), va_Z.moved ha (h6.kept hq), va_O.moved ha (h7.kept hq), va_OF.moved ha (h8.kept hq), va_OF.moved ha (h9.kept hq), va_T.moved ha (h10.kept hq),
    fun q hm => vk_R.warm hW (h11 q hm), fun q hm => va_Nw.warmF hW (h12 q hm), fun q hm => va_Nw.warmM hW (h13 q hm), vx_Zq.moved ha (h14.kept hq), vx_Zq.moved ha (h15.kept hq), va_AB.moved ha h16⟩
/-! ===== locals by places ===== -/
def LR (g : GV) (ls : Array Slot) (nL : Nat) (L : List (Option Value)) : Prop := ls.size = nL ∧ lv_wf ls ∧ ∀ (i : Nat) (v : Value), L[i]? = some (some v) → ls[i]? = some (.val (mv g v))
theorem mv_cat (g : GV) (v : Value) : (mv g v).category = v.category := by cases v <;> rfl
theorem LR.has {g : GV} {ls : Array Slot} {nL : Nat} {L : List (Option Value)} (h : LR g ls nL L) {i : Nat} {v : Value} (hi : L[i]? = some (some v)) : lv_has ls nL [(i, mv g v)] := ⟨h.1, h.2.1, fun q hq => by rw [List.mem_singleton.mp hq]; exact h.2.2 i v hi⟩
theorem LR.hs {g : GV} {ls : Array Slot} {nL : Nat} {L : List (Option Value)} (h : LR g ls nL L) (l : List (Nat × Value)) (hl : ∀ q ∈ l, L[q.1]? = some (some q.2)) : lv_has ls nL (l.map fun q => (q.1, mv g q.2)) := ⟨h.1, h.2.1, fun q hq => by
  obtain ⟨r, hr, rfl⟩ := List.mem_map.mp hq
  exact h.2.2 r.1 r.2 (hl r hr)⟩
def prs (L : List (Option Value)) : List (Nat × Value) := (List.range L.length).filterMap (fun i => (L[i]?.join).map (fun v => (i, v)))
theorem prs_mem {L : List (Option Value)} {i : Nat} {v : Value} (h : L[i]? = some (some v)) : (i, v) ∈ prs L := by
  refine List.mem_filterMap.mpr ⟨i, List.mem_range.mpr (List.getElem?_eq_some_iff.mp h).1, ?_⟩
  rw [h]
  rfl
theorem prs_of {L : List (Option Value)} {q : Nat × Value} (h : q ∈ prs L) : L[q.1]? = some (some q.2) := by
  obtain ⟨i, -, hi⟩ := List.mem_filterMap.mp h
  cases hL : L[i]? with
  | none => rw [hL] at hi; cases hi
  | some x =>
    cases x with
    | none => rw [hL] at hi; cases hi
    | some v =>
      rw [hL] at hi
      have e : (i, v) = q := Option.some.inj hi
      rw [← e]
      exact hL
/-- no long lies just below place i -/
def okL (L : List (Option Value)) (i : Nat) : Bool := match i with
  | 0 => true
  | j + 1 => match L[j]? with
    | some (some (.long _)) => false
    | some (some (.double _)) => false
    | _ => true
theorem okL_cat {L : List (Option Value)} {i j : Nat} {v : Value} (h : okL L i = true) (hj : L[j]? = some (some v)) (e : j + 1 = i) : v.category = 1 := by
  subst e
  cases v <;> first | rfl | (simp [okL, hj] at h)
theorem LR.set1 {g : GV} {ls' : Array Slot} {nL i : Nat} {L : List (Option Value)} {v : Value} (ho : okL L i = true) (h : lv_has ls' nL ((i, mv g v) :: ((prs L).map fun q => (q.1, mv g q.2)).filter (fun q => !(q.1 == i) && !(q.1 + 1 == i && q.2.category == 2)))) : LR g ls' nL (L.set i (some v)) := by
  refine ⟨h.1, h.2.1, fun j w hj => ?_⟩
  by_cases e : j = i
  · subst e
    by_cases hl : j < L.length
    · rw [List.getElem?_set_self hl] at hj
      rw [← Option.some.inj (Option.some.inj hj)]
      exact h.2.2 (j, mv g v) List.mem_cons_self
    · rw [List.getElem?_eq_none (by rw [List.length_set]; omega)] at hj
      cases hj
  · rw [List.getElem?_set_ne (fun q => e q.symm)] at hj
    refine h.2.2 (j, mv g w) (List.mem_cons_of_mem _ (List.mem_filter.mpr ⟨List.mem_map.mpr ⟨(j, w), prs_mem hj, rfl⟩, ?_⟩))
    by_cases e2 : j + 1 = i
    · have hc := okL_cat ho hj e2
      simp [e, e2, mv_cat, hc]
    · simp [e, e2]
theorem LR.set2 {g : GV} {ls' : Array Slot} {nL i : Nat} {L : List (Option Value)} {v : Value} (ho : okL L i = true) (h : lv_has ls' nL ((i, mv g v) :: ((prs L).map fun q => (q.1, mv g q.2)).filter (fun q => !(q.1 == i) && (!(q.1 == i + 1) && !(q.1 + 1 == i && q.2.category == 2))))) : LR g ls' nL ((L.set i (some v)).set (i + 1) none) := by
  refine ⟨h.1, h.2.1, fun j w hj => ?_⟩
  by_cases e1 : j = i + 1
  · subst e1
    by_cases hl : i + 1 < (L.set i (some v)).length
    · rw [List.getElem?_set_self hl] at hj
      cases hj
    · rw [List.getElem?_eq_none (by rw [List.length_set]; omega)] at hj
      cases hj
  rw [List.getElem?_set_ne (fun q => e1 q.symm)] at hj
  by_cases e : j = i
  · subst e
    by_cases hl : j < L.length
    · rw [List.getElem?_set_self hl] at hj
      rw [← Option.some.inj (Option.some.inj hj)]
      exact h.2.2 (j, mv g v) List.mem_cons_self
    · rw [List.getElem?_eq_none (by rw [List.length_set]; omega)] at hj
      cases hj
  · rw [List.getElem?_set_ne (fun q => e q.symm)] at hj
    refine h.2.2 (j, mv g w) (List.mem_cons_of_mem _ (List.mem_filter.mpr ⟨List.mem_map.mpr ⟨(j, w), prs_mem hj, rfl⟩, ?_⟩))
    by_cases e2 : j + 1 = i
    · have hc := okL_cat ho hj e2
      simp [e, e1, e2, mv_cat, hc]
    · simp [e, e1, e2]
def argL (vs : List Value) : List (Option Value) := vs.flatMap fun v => if v.category = 2 then [some v, none] else [some v]
theorem argL_at (g : GV) : ∀ (vs : List Value) (k j : Nat) (w : Value), (argL vs)[j]? = some (some w) → (k + j, mv g w) ∈ lv_args k (vs.map (mv g))
  | [], _, _, _, h => by simp [argL] at h
  | v :: vs, k, j, w, h => by
    have hc : (mv g v).category = v.category := mv_cat g v
    by_cases h2 : v.category = 2
    · have e : argL (v :: vs) = some v :: none :: argL vs := by simp [argL, h2]
      rw [e] at h
      show (k + j, mv g w) ∈ (k, mv g v) :: lv_args (if (mv g v).category = 2 then k + 2 else k + 1) (vs.map (mv g))
      rw [hc, if_pos h2]
      match j, h with
      | 0, h => cases Option.some.inj h; exact List.mem_cons_self
      | 1, h => cases Option.some.inj h
      | j + 2, h =>
        have := argL_at g vs (k + 2) j w h
        rw [show k + (j + 2) = k + 2 + j by omega]
        exact List.mem_cons_of_mem _ this
    · have e : argL (v :: vs) = some v :: argL vs := by simp [argL, h2]
      rw [e] at h
      show (k + j, mv g w) ∈ (k, mv g v) :: lv_args (if (mv g v).category = 2 then k + 2 else k + 1) (vs.map (mv g))
      rw [hc, if_neg h2]
      match j, h with
      | 0, h => cases Option.some.inj h; exact List.mem_cons_self
      | j + 1, h =>
        have := argL_at g vs (k + 1) j w h
        rw [show k + (j + 1) = k + 1 + j by omega]
        exact List.mem_cons_of_mem _ this
theorem LR.entry {g : GV} {vs : List Value} {nL : Nat} {L : List (Option Value)} (hn : (lg_sl (vs.map (mv g))).length ≤ nL) (hL : ∃ k, L = argL vs ++ List.replicate k none) : LR g ((lg_sl (vs.map (mv g)) ++ List.replicate (nL - (lg_sl (vs.map (mv g))).length) Slot.unset).toArray) nL L := by
  have h := lv_entry (vs.map (mv g)) (n := nL) hn
  obtain ⟨k, rfl⟩ := hL
  refine ⟨h.1, h.2.1, fun i v hi => ?_⟩
  by_cases hl : i < (argL vs).length
  · rw [List.getElem?_append_left hl] at hi
    have h1 := argL_at g vs 0 i v hi
    rw [Nat.zero_add] at h1
    exact h.2.2 _ h1
  · rw [List.getElem?_append_right (by omega), List.getElem?_replicate] at hi
    split at hi
    · cases hi
    · cases hi
/-! ===== the judgement: from this frame, over this store, the method comes to its end ===== -/
abbrev ZC : Type := Program → Env → Room → State → MethodId → Array Value → List Frame → Method → Code → (State → Prop) → Prop
def BaseP (g : GV) (own : String) (cc : ByteArray) (nL d mc ms : Nat) (p : Program) (R : Room) (s : State) (m : MethodId) (args : Array Value) (c : Code) : Prop :=
  p.tables.exec = Jvm.exec ∧ c.code = cc ∧ c.maxLocals = nL ∧ s.vm.findClass own = some m.cls ∧ (∀ w ∈ lwG, w.before args s = true) ∧ Kt g s ∧ Zs g s s.heap ∧ gN g ≤ s.heap.size ∧ R.cells = mc ∧ R.slots = ms ∧ 16 + d ≤ R.frames ∧ 1024 + 64 * d ≤ R.locals
def X (g : GV) (Z : ZC) (own : String) (cc : ByteArray) (nL d mc ms k n : Nat) (pc : Nat) (L : List (Option Value)) (st : List Value) (σ : PS) : Prop :=
  ∀ p e R s m args below meth c Q, Z p e R s m args below meth c Q → BaseP g own cc nL d mc ms p R s m args c → k ≤ mc → n ≤ ms → ∀ H locs ls, Rel g σ H → va_S (Ag g) s.heap H locs → LR g ls nL L →
    W p (gl g) e R s m args below meth c H locs k n Q (F0 m pc ls (st.map (mv g)))
def rmO (d mc ms : Nat) : Room := { frames := 16 + d, cells := mc, slots := ms, locals := 1024 + 64 * d }
def PcG (g : GV) (σ : PS) (vs : List Value) : Array Value → State → Prop := va_Pc (vs.map (mv g)) (fun U => Kt g U ∧ Zs g U U.heap ∧ gN g ≤ U.heap.size ∧ Rel g σ U.heap)
def QcG (g : GV) (Post : Option Value → PS → Prop) : Array Value → State → Outcome → State → Prop := fun _ st oc t => (∃ (r : Option Value) (σ : PS), oc = .returned (r.map (mv g)) ∧ Rel g σ t.heap ∧ Post r σ) ∧ va_F (Ag g) st t
/-- method y, called at store σ with these values, returns, and its answer and the store behind it are as Post says -/
def Ct (g : GV) (y : MethodName) (cy : ByteArray) (nLy : Nat) (ret : Option FieldType) (d mc ms : Nat) (vs : List Value) (σ : PS) (Post : Option Value → PS → Prop) : Prop :=
  Met (gl g) y (.code y cy nLy ret :: lwG) (rmO d mc ms) (PcG g σ vs) (QcG g Post) mc ms (Ag g)
def ZM (g : GV) (ret : Option FieldType) (mc ms : Nat) (Post : Option Value → PS → Prop) : ZC := fun _ _ _ s _ args below meth _ Q => Q = MQ below (QcG g Post) args s mc ms (Ag g) ∧ meth.sig.returnType = ret ∧ meth.locks = false
theorem Kt.moved {g : GV} {u U : State} (hvm : u.vm.Alike U.vm) (h : Kt g u) : Kt g U := va_K.moved hvm h
theorem x_entry {g : GV} {y : MethodName} {cy : ByteArray} {nLy d mc ms : Nat} {ret : Option FieldType} {vs : List Value} {σ : PS} {Post : Option Value → PS → Prop} {L : List (Option Value)} (hy : plainName y.cls = true) (hn : ((vs.map fun v => if v.category = 2 then 2 else 1).sum) ≤ nLy) (hL : ∃ k, L = argL vs ++ List.replicate k none)
    (h : X g (ZM g ret mc ms Post) y.cls cy nLy d mc ms 0 0 0 L [] σ) : Ct g y cy nLy ret d mc ms vs σ Post := by
  refine Met.ofW (cc := cy) (maxL := nLy) (ret := ret) hy rfl ?_
  intro p e s m args below meth c s₁ B hml hv
  obtain ⟨rfl, hK, hZ, hN, hR⟩ := hv
  have hts := atoms_spec (ws := .code y cy nLy ret :: lwG) B.pre
  rw [lg_entry_eq]
  have hlen : (lg_sl (vs.map (mv g))).length ≤ nLy := by
    refine Nat.le_trans (Nat.le_of_eq ?_) hn
    clear h hL hn hR hts B
    induction vs with
    | nil => rfl
    | cons v vs ih =>
      have hc := mv_cat g v
      simp only [lg_sl, List.map_cons, List.flatMap_cons, List.length_append, List.sum_cons] at ih ⊢
      rw [ih, hc]
      by_cases h2 : v.category = 2 <;> simp [h2]
  exact h p e _ s m _ below meth c _ ⟨rfl, B.returns, B.notSynchronized⟩ ⟨B.exec, B.bytes, hml, findClass_of_methodNamed B.named, fun w hw => hts w (List.mem_cons_of_mem _ hw), hK, hZ, hN, rfl, rfl, Nat.le_refl _, Nat.le_refl _⟩ (Nat.zero_le _) (Nat.zero_le _) s.heap [] _ hR va_S.rf (LR.entry hlen hL)
