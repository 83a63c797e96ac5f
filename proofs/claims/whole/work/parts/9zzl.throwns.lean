/-! ===== 'throw new NoSuchElementException("text")', whose constructor calls its super by another index than the six bytes of the others ===== -/
abbrev nsE : String := "java/util/NoSuchElementException"
abbrev nsR : String := "java/lang/RuntimeException"
abbrev nsX : String := "java/lang/Exception"
def nsB : ByteArray := .mk #[0x2a, 0x2b, 0xb7, 0x00, 0x0d, 0xb1]
theorem nsB_0 : decode nsB 0 = .ok (.aload_n 0, 1) := by decide +kernel
theorem nsB_1 : decode nsB 1 = .ok (.aload_n 1, 1) := by decide +kernel
theorem nsB_2 : decode nsB 2 = .ok (.invokespecial 13, 3) := by decide +kernel
theorem nsB_5 : decode nsB 5 = .ok (.return_, 1) := by decide +kernel
/-- the words of the throw, without those on the two statics -/
def nsAll (own : String) (ic : Nat) : List Cond :=
  Bundle.throwableAtoms ++ Bundle.throwableSAtoms ++ Bundle.passSAtoms nsE nsR 13 nsB ++ Bundle.chainSAtoms nsR [nsX] ++
  [.methodLink own ic (Bundle.initS nsE), .instantiable nsE 6, .castable nsE nsE, .selects nsE Bundle.tFill0 Bundle.tFill0, .selects nsE Bundle.tFill Bundle.tFill,
   .lays nsE Bundle.tN "cause" "Ljava/lang/Throwable;", .lays nsE Bundle.tN "stackTrace" Bundle.steD, .lays nsE Bundle.tN "suppressedExceptions" Bundle.listD, .lays nsE Bundle.tN "detailMessage" "Ljava/lang/String;",
   .isRef (.static Bundle.tN "UNASSIGNED_STACK" Bundle.steD), .isRef (.static Bundle.tN "SUPPRESSED_SENTINEL" Bundle.listD),
   .fieldLink Bundle.tN 198 Bundle.tN "backtrace" "Ljava/lang/Object;", .lays Bundle.tN Bundle.tN "backtrace" "Ljava/lang/Object;", .lays nsE Bundle.tN "backtrace" "Ljava/lang/Object;"]
def nsAt : List Cond := (nsAll RX11 263).filter vx_no
theorem nsAt_ot : ∀ w ∈ Cond.classLink RX11 259 nsE :: Cond.initialized nsE :: nsAt, vx_ot w = true := by decide +kernel
def nsBad : List Cond := [.declares (Bundle.initS nsR), .declares (Bundle.initS nsX), .declares (Bundle.initS Bundle.tN), .castable nsE nsE]
theorem nsBad_ok : ∀ w ∈ nsAt.filter (fun w => !goodWord w), w ∈ nsBad := by decide +kernel
theorem nsAt_in : ∀ w ∈ Cond.classLink RX11 259 nsE :: Cond.initialized nsE :: nsAt.filter goodWord, w ∈ lwG := by decide +kernel
/-- the four words that no frame keeps by itself -/
def nsW (U : State) : Prop := ∀ w ∈ nsBad, w.before #[] U = true
theorem nsW.moved {u U : State} (hvm : u.vm.Alike U.vm) (h : nsW u) : nsW U := by
  intro w hw
  have h1 := h w hw
  simp only [nsBad, List.mem_cons, List.not_mem_nil, or_false] at hw
  rcases hw with rfl | rfl | rfl | rfl
  · exact va_tabs (u := u.setVm U.vm) (A := #[]) rfl rfl (by rw [Cond.declares_setVm hvm]; exact h1)
  · exact va_tabs (u := u.setVm U.vm) (A := #[]) rfl rfl (by rw [Cond.declares_setVm hvm]; exact h1)
  · exact va_tabs (u := u.setVm U.vm) (A := #[]) rfl rfl (by rw [Cond.declares_setVm hvm]; exact h1)
  · exact va_tabs (u := u.setVm U.vm) (A := #[]) rfl rfl (by rw [Cond.castable_setVm hvm]; exact h1)
theorem nsW_at {U : State} {args : Array Value} {w : Cond} (h : nsW U) (hw : w ∈ nsBad) : w.before args U = true := by
  have h1 := h w hw
  simp only [nsBad, List.mem_cons, List.not_mem_nil, or_false] at hw
  rcases hw with rfl | rfl | rfl | rfl
  all_goals exact va_tabs rfl rfl h1
section TH
variable {p : Program} {l : Launch} {e : Env} {R : Room} {s : State} {m : MethodId} {args : Array Value} {below : List Frame} {meth : Method} {c : Code} {W : State} {locs : List Loc} {cells slots : Nat}
set_option maxHeartbeats 2000000 in
theorem th_ctor (X : Stand p l e R s m args below meth c W locs cells slots) (hexec : p.tables.exec = Jvm.exec) (htr : e.platform.stackTraces = false) {own : String} {ic : Nat}
    (hown : s.vm.findClass own = some m.cls) (h : ∀ a ∈ nsAll own ic, a.before args s = true) (hlocs : ∀ x ∈ locs, ∀ cell, s.heap[x.base]? = some cell → cell.vm.isStatics = false)
    {a : Addr} {cX : ClassId} {kX : Class} (hfoundX : s.vm.findClass nsE = some cX) (hkX : s.vm.classes[cX]? = some kX) (hcell : W.heap[a]? = some (freshCell cX kX)) (hnew : s.heap.size ≤ a)
    {msg : Value} (hmsg : msg.isRef = true) {g : JFrame} (hg : g.method = m) (hsize : g.locals.size = c.maxLocals) (hlocked : g.locked = none) (hentered : g.entered = []) {rest : List Value} (hstack : g.stack = msg :: .ref a :: .ref a :: rest)
    (hd6 : decode c.code g.pc = .ok (.invokespecial ic, 3)) (hd9 : decode c.code (g.pc + 3) = .ok (.athrow, 1)) (hout : ∀ x ∈ c.exceptionTable.toList, covers x (g.pc + 3) = false)
    (hRframes : 5 < R.frames) (hRlocals : 2 * g.monitorRoom + ((Value.ref a :: rest).map fun v => v.category).sum + 81 ≤ R.locals) (hlocks : meth.locks = false) :
    ∃ U : State, Steps p.tables e below (W.setTop g) U ∧ U.status = .running ∧ Ended U below (.threw a) ∧ s.WarmedH U.vm ∧ s.sameButNew ({ U with vm := s.vm } : State) locs cells slots ∧
      ∃ ce, U.heap[a]? = some ce ∧ ce.cls = cX ∧ ce.vm = .none := by
  have howns : e.platform.frameOwnsMonitors = true := by rw [X.admits.platform]
  have hfin : e.platform.finalization = false := by rw [X.admits.platform]
  have hpl : e.platform.magicAccessors = ({} : Platform).magicAccessors := by rw [X.admits.platform]
  have mem : ∀ x, x ∈ nsAll own ic → x.holds args s none s [] = true := fun x hx => h x hx
  obtain ⟨T, Z0, L, -, Y⟩ := ThrowableC.of_atoms (args := args) howns hfin hpl (fun x hx => h x (by simp [nsAll, hx]))
  obtain ⟨Z, M, LZ, LM, hnZ⟩ := Init0T.ofS_atoms (args := args) hpl L Y (fun x hx => h x (by simp [nsAll, hx]))
  obtain ⟨P1, L1, hP1m, hs1⟩ := PassC.ofS_atoms (args := args) (s := s) hpl (X := nsE) (Y := nsR) (by decide +kernel) (by decide) nsB_0 nsB_1 nsB_2 nsB_5 (fun x hx => h x (by simp [nsAll, hx]))
  obtain ⟨P2, Ps, hlen, L2, hL, hP2m, hsup, hpass⟩ := Bundle.chainS (args := args) hpl hnZ [nsX] nsR (by decide +kernel) (by decide +kernel) (fun x hx => h x (by simp [nsAll, hx]))
  have hfound : s.vm.findClass nsE = some P1.m.cls := findClass_of_methodNamed hP1m
  cases Option.some.inj (hfoundX.symm.trans hfound)
  obtain ⟨c1, kX', hc1, hk, hord, -, -, hn6⟩ := Cond.instantiable_spec (mem (.instantiable nsE 6) (by simp [nsAll]))
  cases Option.some.inj (hc1.symm.trans hfound)
  cases Option.some.inj (hkX.symm.trans hk)
  have hsel0 : selectMethod e.platform s.vm P1.m.cls T.fill0 = .method T.fill0 := by
    obtain ⟨c2, r2, m2, q1, q2, q3, q4, -⟩ := Cond.selects_spec (mem (.selects nsE Bundle.tFill0 Bundle.tFill0) (by simp [nsAll]))
    cases Option.some.inj (q1.symm.trans hfound)
    cases Option.some.inj (q2.symm.trans (State.methodFound?_of_named Y.fill0 (by decide)))
    cases Option.some.inj (q3.symm.trans Y.fill0)
    rw [Launch.admits_selectMethod X.admits]; exact q4
  have hselF : selectMethod e.platform s.vm P1.m.cls T.fill = .method T.fill := by
    obtain ⟨c2, r2, m2, q1, q2, q3, q4, -⟩ := Cond.selects_spec (mem (.selects nsE Bundle.tFill Bundle.tFill) (by simp [nsAll]))
    cases Option.some.inj (q1.symm.trans hfound)
    cases Option.some.inj (q2.symm.trans (State.methodFound?_of_named Y.fill (by decide)))
    cases Option.some.inj (q3.symm.trans Y.fill)
    rw [Launch.admits_selectMethod X.admits]; exact q4
  obtain ⟨cS0, hcS0, hiss⟩ := Y.statics
  obtain ⟨u0, hu0⟩ := Cond.staticRefV Y.unassigned L.unassignedStatic L.statics hcS0 hiss (mem (.isRef (.static Bundle.tN "UNASSIGNED_STACK" Bundle.steD)) (by simp [nsAll]))
  obtain ⟨sen, hsen⟩ := Cond.staticRefV Y.sentinel L.sentinelStatic L.statics hcS0 hiss (mem (.isRef (.static Bundle.tN "SUPPRESSED_SENTINEL" Bundle.listD)) (by simp [nsAll]))
  obtain ⟨iB, jB, fB, b1, b2, b3, b4, -, hnB, htB, hffB⟩ := Cond.ownField (t := .object "java/lang/Object") Y.found L.cls (by decide +kernel) (mem (.fieldLink Bundle.tN 198 Bundle.tN "backtrace" "Ljava/lang/Object;") (by simp [nsAll])) (mem (.lays Bundle.tN Bundle.tN "backtrace" "Ljava/lang/Object;") (by simp [nsAll])) e.platform hpl
  obtain ⟨cS, hcS, heS, -, hkeep⟩ := X.same.2.2.2.2.2 T.aS cS0 hcS0
  have hcS' : W.heap[T.aS]? = some cS := hcS
  have hfar : ∀ i, (⟨T.aS, i⟩ : Loc) ∉ locs := fun i hm => by
    have := hlocs _ hm cS0 hcS0
    rw [hiss] at this
    cases this
  have hknown : cS.vm ≠ .unknown := by
    rw [heS]
    intro hu
    rw [show cS0.vm = .unknown from hu] at hiss
    cases hiss
  have hne : T.aS ≠ a := Nat.ne_of_lt (Nat.lt_of_lt_of_le (Array.getElem?_eq_some_iff.mp hcS0).1 hnew)
  obtain ⟨iM, hffM⟩ := Y.msg
  obtain ⟨tyC, dC, hdC, hnC⟩ := Cond.laysAt hfound hk Y.cause (mem (.lays nsE Bundle.tN "cause" "Ljava/lang/Throwable;") (by simp [nsAll]))
  obtain ⟨tyS, dS, hdS, hnS⟩ := Cond.laysAt hfound hk Y.stack (mem (.lays nsE Bundle.tN "stackTrace" Bundle.steD) (by simp [nsAll]))
  obtain ⟨tyP, dP, hdP, hnP⟩ := Cond.laysAt hfound hk Y.supp (mem (.lays nsE Bundle.tN "suppressedExceptions" Bundle.listD) (by simp [nsAll]))
  obtain ⟨tyM, dM, hdM, hnM⟩ := Cond.laysAt hfound hk hffM (mem (.lays nsE Bundle.tN "detailMessage" "Ljava/lang/String;") (by simp [nsAll]))
  obtain ⟨tyB, dB, hdB, hnBk⟩ := Cond.laysAt hfound hk hffB (mem (.lays nsE Bundle.tN "backtrace" "Ljava/lang/Object;") (by simp [nsAll]))
  have bC := Cond.laysApart hdB hdC hnBk hnC (by rw [hnB, Y.causeName]; decide)
  have bS := Cond.laysApart hdB hdS hnBk hnS (by rw [hnB, Y.stackName]; decide)
  have bP := Cond.laysApart hdB hdP hnBk hnP (by rw [hnB, Y.suppName]; decide)
  have hskip : SkipFacts T e.platform s (fun u => u) u0 ((preparedCellV T.toThrowableT (freshCell P1.m.cls kX) a u0 sen).withEntry W.cur) :=
    ⟨{ ci198 := iB, i198 := jB, fBack := fB }, ⟨b1, b2, b3, b4⟩, by
      have := fresh_default (c := P1.m.cls) tyB
      rw [htB] at this
      simpa [preparedCellV, Cell.setSlot, Cell.withEntry, Array.getElem?_setIfInBounds, bC, bS, bP, bC.symm, bS.symm, bP.symm, defaultValue] using this, fun _ _ => rfl⟩
  obtain ⟨tm, methC, cdC, kC, vm₁, hnm, -, -, -, -, -, -, -, hW₁, st1⟩ := Steps.initColdS (tb := p.tables) (e := e) (below := below) (s := s) (U := W) X.here hexec X.warmed hpl hown (t := Bundle.initS nsE) rfl rfl (by decide)
    (mem (.methodLink own ic (Bundle.initS nsE)) (by simp [nsAll])) (h (.instanceMethod (Bundle.initS nsE)) (by simp [nsAll, Bundle.passSAtoms])) (bytes := nsB) (maxL := 2) (h (.code (Bundle.initS nsE) nsB 2 none) (by simp [nsAll, Bundle.passSAtoms]))
    (f := g) hg (a := a) (msg := msg) (rest := .ref a :: rest) hstack hd6
  cases Option.some.inj (hnm.symm.trans hP1m)
  have X₁ := X.noted hW₁
  obtain ⟨vm₂, X₂, st2⟩ := X₁.ctorMessageOffV hexec (g := { g with stack := .ref a :: rest }) hg hsize T L Z LZ M LM (P1 :: P2 :: Ps)
    (fun P hP => by
      rcases List.mem_cons.mp hP with rfl | hP
      · exact L1
      · rcases List.mem_cons.mp hP with rfl | hP
        · exact L2
        · exact hL P hP) ⟨Option.some.inj (hs1.symm.trans hP2m), hsup, hpass⟩ (u0 := u0) (sen := sen) (self := a) hmsg (cell := freshCell P1.m.cls kX) (cellS := cS)
    hcell (fun _ => by simp) (by simp) rfl rfl hsel0 hselF hcS' hne hknown (by rw [hkeep _ (hfar _)]; exact hu0) (by rw [hkeep _ (hfar _)]; exact hsen)
    (Takes.of_laid hk hord tyC (by rw [Y.causeType]; rfl)) (Takes.of_laid hk hord tyS (by rw [Y.stackType]; exact fits_refV_array _ u0)) (Takes.of_laid hk hord tyP (by rw [Y.suppType]; exact fits_refV_object _ sen))
    (Takes.of_laid hk hord tyM (by rw [Y.msgType]; exact fits_refV_object _ ⟨msg, hmsg⟩)) Y.objLocals hskip htr [] hd6
    (by simp only [List.length_cons, hlen, List.length_nil]; omega) (by simp only [List.length_cons, hlen, List.length_nil]; exact hRlocals)
  obtain ⟨hwalk, hrun, hended, hWU, hsame⟩ := X₂.athrowLeaves hexec (g := { g with stack := .ref a :: rest, pc := g.pc + 3 }) hg hlocked hentered hout (a := a) (rest := rest) rfl hd9
  have hlt : a < ((W.setVm vm₁).setVm vm₂).heap.size := (Array.getElem?_eq_some_iff.mp hcell).1
  have hU := heapAt_setCell_self (s := (W.setVm vm₁).setVm vm₂) (plainBareV T.toThrowableT (freshCell P1.m.cls kX) a u0 sen msg) hlt
  refine ⟨_, st1 _ (fun acts => ?_), hrun, hended, hWU, hsame.weaken (fun y hy hlt' => ?_) (Nat.le_refl _) (Nat.le_refl _), _, hU, rfl, rfl⟩
  · rw [doInvoke_state]
    exact st2 _ hwalk
  · rcases List.mem_append.mp hy with h1 | h1
    · exact h1
    · exfalso
      have hb : y.base = a := by
        simp only [List.mem_cons, List.not_mem_nil, or_false] at h1
        rcases h1 with rfl | rfl | rfl | rfl | rfl <;> rfl
      rw [hb] at hlt'
      exact Nat.not_lt.mpr hnew hlt'
end TH
section TW
variable {p : Program} {l : Launch} {e : Env} {R : Room} {s : State} {m : MethodId} {args : Array Value} {below : List Frame} {meth : Method} {c : Code} {H : Heap} {locs : List Loc} {cells slots : Nat} {ls : Array Slot} {rest : List Value} {free : Addr → Prop}
variable {Qc : Array Value → State → Outcome → State → Prop} {XC : String → State → State → Prop}
theorem th_throw {cc : ByteArray} {pc : Nat} (hexec : p.tables.exec = Jvm.exec) (hb : c.code = cc) (hl : l.stackTraces = false) {text : String} {is mc ms sa : Nat} {A : Nat → Prop}
    (hown : s.vm.findClass RX11 = some m.cls) (hwd : ∀ w ∈ Cond.classLink RX11 259 nsE :: Cond.initialized nsE :: nsAt, w.before args s = true) (hstr : vk_R RX11 is text sa s)
    (hU : vx_Zq Bundle.tN "UNASSIGNED_STACK" Bundle.steD A s s.heap) (hN : vx_Zq Bundle.tN "SUPPRESSED_SENTINEL" Bundle.listD A s s.heap) (hS : va_S A s.heap H locs) (hsize : ls.size = c.maxLocals)
    (d0 : decode cc pc = .ok (.new 259, 3)) (d3 : decode cc (pc + 3) = .ok (.dup, 1)) (d4 : decode cc (pc + 4) = .ok (.ldc_w is, 3)) (d7 : decode cc (pc + 7) = .ok (.invokespecial 263, 3)) (d10 : decode cc (pc + 10) = .ok (.athrow, 1))
    (hout : ∀ x ∈ c.exceptionTable.toList, covers x (pc + 10) = false)
    (hRframes : 5 < R.frames) (hRlocals : (rest.map fun v => v.category).sum + 82 ≤ R.locals) (hRcells : cells + 1 ≤ R.cells) (hRslots : slots + 6 ≤ R.slots) (hlocks : meth.locks = false)
    (hx : ∀ t : State, s.vm.Alike t.vm → H.size ≤ t.heap.size → (∀ q : Nat, q < H.size → t.heap[q]? = H[q]?) → XC nsE s t)
    (hf : ∀ z ∈ locs, free z.base) (hc : cells + 1 ≤ mc) (hs : slots + 6 ≤ ms) :
    W p l e R s m args below meth c H locs cells slots (vx_MQ below Qc XC args s mc ms free) (F0 m pc ls rest) := by
  intro T hT X
  have htr : e.platform.stackTraces = false := (show e.platform.stackTraces = l.stackTraces by rw [X.admits.platform]).trans hl
  have Y := vx_rebase X (R' := { frames := R.frames, locals := R.locals, cells := 1, slots := 6 }) (Nat.le_refl _) (Nat.le_refl _) hRcells hRslots
  obtain ⟨s', hA⟩ : ∃ z, z = (T.setVm s.vm).setFrames (.invoking m args :: below) := ⟨_, rfl⟩
  rw [← hA] at Y
  have hvm : s'.vm = s.vm := by rw [hA]; rfl
  have hhp : s'.heap = H := by rw [hA]; exact hT
  have hW0 : s.WarmedH s'.vm := by rw [hvm]; exact State.WarmedH.refl s
  have hall' : ∀ w ∈ Cond.classLink RX11 259 nsE :: Cond.initialized nsE :: nsAt, w.before args s' = true := fun w hw => vx_ot_at hW0 hvm.symm (nsAt_ot w hw) (hwd w hw)
  have hU' : vx_Zq Bundle.tN "UNASSIGNED_STACK" Bundle.steD A s' s'.heap := by rw [hhp]; exact vx_Zq.moved hW0.alike (hU.kept hS.2.1)
  have hN' : vx_Zq Bundle.tN "SUPPRESSED_SENTINEL" Bundle.listD A s' s'.heap := by rw [hhp]; exact vx_Zq.moved hW0.alike (hN.kept hS.2.1)
  have h : ∀ w ∈ nsAll RX11 263, w.before args s' = true := vx_own (fun w hw => hall' w (List.mem_cons_of_mem _ (List.mem_cons_of_mem _ hw))) (vx_isRefq hU'.1) (vx_isRefq hN'.1) hU'.2.word hN'.2.word
  have hown' : s'.vm.findClass RX11 = some m.cls := by rw [hvm]; exact hown
  have hins : (Cond.instantiable nsE 6).before args s' = true := h _ (by simp [nsAll])
  obtain ⟨vm₁, cX, kX, hfX, hkX, -, -, X₁, st1⟩ := Y.newCold hexec (own := RX11) (C := nsE) (index := 259) (n := 6) hown' (hall' _ List.mem_cons_self) hins (hall' _ (List.mem_cons_of_mem _ List.mem_cons_self))
    (g := F0 m pc ls rest) rfl (by rw [hb]; exact d0) (Nat.le_refl _) (Nat.le_refl _)
  generalize hT1 : (T.setVm vm₁).pushCell { cls := cX, slots := kX.instanceTypes.map defaultValue, vm := .none } = T1 at X₁ st1
  have hcat : (Value.ref T.heap.size).category = 1 := rfl
  have hcellA : T1.heap[T.heap.size]? = some (freshCell cX kX) := by rw [← hT1]; exact State.heap_pushCell_size _ _
  have d3' : decode c.code (pc + 3) = .ok (.dup, 1) := by rw [hb]; exact d3
  have d4' : decode c.code (pc + 4) = .ok (.ldc_w is, 3) := by rw [hb]; exact d4
  have hstr' : vk_R RX11 is text sa s' := vk_R.warm hW0 hstr
  obtain ⟨U, hsteps, hrun, hend, hW, hsame, ce, hce, hcc, hcv⟩ := th_ctor X₁ hexec htr (own := RX11) (ic := 263) hown' h (fun x hx => nomatch hx) hfX hkX hcellA (by rw [hhp, hT]; exact Nat.le_refl _) (msg := .ref sa) rfl
    (g := { method := m, pc := pc + 7, locals := ls, stack := .ref sa :: .ref T.heap.size :: .ref T.heap.size :: rest, locked := none }) rfl hsize rfl rfl (rest := rest) rfl
    (by rw [hb]; exact d7) (by rw [hb]; exact d10) hout hRframes (by
      show 2 * 0 + _ + 81 ≤ R.locals
      simp only [List.map_cons, List.sum_cons, hcat]
      omega) hlocks
  obtain ⟨f1, f2⟩ := vx_frame hsame
  rw [hhp] at f1 f2
  have hWs : s.WarmedH U.vm := State.WarmedH.trans hW0 hW
  have hcl : s.vm.findClass nsE = some ce.cls := by
    rw [hcc, ← hvm]
    exact hfX
  have hall : s.sameButNew ({ U with vm := s.vm } : State) locs mc ms := by
    subst hA
    obtain ⟨e1, e2⟩ := hsame
    rw [State.setFrames_setFrames] at e1
    have h2 : (T.setVm s.vm).sameButNew ({ U with vm := s.vm } : State) [] (0 + 1) (0 + 6) := ⟨e1, e2⟩
    have h3 := X.same.trans h2
    rw [List.append_nil] at h3
    exact h3.mono hc hs
  refine ⟨U, ?_, .threw T.heap.size, hrun, hend, Or.inr ⟨T.heap.size, rfl, nsE, ce, locs, hx U hWs.alike f1 (fun q hq => f2 q hq (fun z hz => nomatch hz)), hce, hcv, hcl, hWs, hall, hf⟩⟩
  refine st1 _ ?_
  show Steps p.tables e below (T1.setTop { method := m, pc := pc + 3, locals := ls, stack := .ref T.heap.size :: rest, locked := none }) _
  jvm_step X₁.here [X₁.here.top, hexec, d3', Value.category]
  exact X₁.ldcStringW hexec (own := RX11) (text := text) (index := is) (a := sa) hown' hstr'.1 hstr'.2
    (g := { method := m, pc := pc + 4, locals := ls, stack := .ref T.heap.size :: .ref T.heap.size :: rest, locked := none }) rfl d4' _ hsteps
end TW
/-- cells behind the store that it knows nothing of -/
def sX (σ : PS) (j : Nat) : PS := (σ.1, σ.2.1, σ.2.2.1, σ.2.2.2.1, σ.2.2.2.2 + j)
theorem Rel.raised {g : GV} {σ : PS} {H H1 : Heap} (h : Rel g σ H) (hz : H.size ≤ H1.size) (hq : ∀ q : Nat, q < H.size → H1[q]? = H[q]?) : Rel g (sX σ (H1.size - H.size)) H1 := by
  obtain ⟨h1, h2, h3, h4⟩ := h
  have hn : nx (sX σ (H1.size - H.size)) = nx σ + (H1.size - H.size) := rfl
  refine ⟨by rw [hn]; omega, by rw [hn]; omega, fun id hid => ?_, fun id => ?_⟩
  · have := h3 id hid
    rw [hn]
    exact ⟨this.1, by omega⟩
  · have h5 := h4 id
    unfold RelAt at h5 ⊢
    show (match kd σ id with | none => True | some (.inl ci) => _ | some (.inr (t, n)) => _)
    cases hk : kd σ id with
    | none => trivial
    | some q =>
      have hi := h3 id (by rw [hk]; exact fun z => nomatch z)
      have ha : adr g id < H.size := by
        unfold adr
        rw [if_neg (by omega)]
        omega
      rw [hk] at h5
      match q, h5 with
      | .inl ci, h5 =>
        obtain ⟨r, e1, e2⟩ := h5
        exact ⟨r, e1, e2.kept (hq _ ha)⟩
      | .inr (t, n), h5 => exact (hq _ ha).trans h5
def XcG (g : GV) (PX : PS → Prop) : String → State → State → Prop := fun E st t => (E = nsE ∧ ∃ σ : PS, Rel g σ t.heap ∧ PX σ) ∧ va_F (Ag g) st t
def PcN (g : GV) (σ : PS) (vs : List Value) : Array Value → State → Prop := fun a U => PcG g σ vs a U ∧ nsW U
/-- like Ct, but the method may also throw NoSuchElementException -/
def CtX (g : GV) (y : MethodName) (cy : ByteArray) (nLy : Nat) (ret : Option FieldType) (d mc ms : Nat) (vs : List Value) (σ : PS) (Post : Option Value → PS → Prop) (PX : PS → Prop) : Prop :=
  vx_Met (gl g) y (.code y cy nLy ret :: lwG) (rmO d mc ms) (PcN g σ vs) (QcG g Post) (XcG g PX) mc ms (Ag g)
def ZMX (g : GV) (ret : Option FieldType) (mc ms : Nat) (Post : Option Value → PS → Prop) (PX : PS → Prop) : ZC := fun _ _ _ s _ args below meth c Q =>
  Q = vx_MQ below (QcG g Post) (XcG g PX) args s mc ms (Ag g) ∧ meth.sig.returnType = ret ∧ meth.locks = false ∧ (∀ x ∈ c.exceptionTable.toList, False) ∧ nsW s
theorem nsWords {s : State} {args : Array Value} (b4 : ∀ w ∈ lwG, w.before args s = true) (hns : nsW s) : ∀ w ∈ Cond.classLink RX11 259 nsE :: Cond.initialized nsE :: nsAt, w.before args s = true := by
  intro w hw
  by_cases hgw : goodWord w = true
  · refine b4 w (nsAt_in w ?_)
    rcases List.mem_cons.mp hw with rfl | hw
    · exact List.mem_cons_self
    · rcases List.mem_cons.mp hw with rfl | hw
      · exact List.mem_cons_of_mem _ List.mem_cons_self
      · exact List.mem_cons_of_mem _ (List.mem_cons_of_mem _ (List.mem_filter.mpr ⟨hw, hgw⟩))
  · rcases List.mem_cons.mp hw with rfl | hw
    · exact absurd rfl hgw
    · rcases List.mem_cons.mp hw with rfl | hw
      · exact absurd rfl hgw
      · have h1 := nsBad_ok w (List.mem_filter.mpr ⟨hw, by rw [Bool.not_eq_true'] ; exact Bool.eq_false_iff.mpr hgw⟩)
        exact nsW_at hns h1
section XT
variable {g : GV} {own : String} {cc : ByteArray} {nL d mc ms k n pc : Nat} {L : List (Option Value)} {st : List Value} {σ : PS} {ret : Option FieldType} {Post : Option Value → PS → Prop} {PX : PS → Prop}
/-- what returns -/
theorem x_ofZM (h : X g (ZM g ret mc ms Post) own cc nL d mc ms k n pc L st σ) : X g (ZMX g ret mc ms Post PX) own cc nL d mc ms k n pc L st σ := by
  intro p e R s m args below meth c Q hZ hB hk hn H locs ls hR hS hL
  obtain ⟨rfl, hrt, hlk, -, -⟩ := hZ
  exact vx_ret (h p e R s m args below meth c _ ⟨rfl, hrt, hlk⟩ hB hk hn H locs ls hR hS hL)
theorem x_throwN {is idn : Nat} {text : String} (hl : (gl g).stackTraces = false) (hz : (RX11, is, text, idn) ∈ zstr) (hst : (st.map fun v => v.category).sum ≤ 8) (hmc : k + 1 ≤ mc) (hms : n + 6 ≤ ms)
    (d0 : decode cc pc = .ok (.new 259, 3)) (d3 : decode cc (pc + 3) = .ok (.dup, 1)) (d4 : decode cc (pc + 4) = .ok (.ldc_w is, 3)) (d7 : decode cc (pc + 7) = .ok (.invokespecial 263, 3)) (d10 : decode cc (pc + 10) = .ok (.athrow, 1))
    (hp : ∀ j, PX (sX σ j)) : X g (ZMX g ret mc ms Post PX) RX11 cc nL d mc ms k n pc L st σ := by
  intro p e R s m args below meth c Q hZ hB hk hn H locs ls hR hS hL
  obtain ⟨rfl, hrt, hlk, hno, hns⟩ := hZ
  obtain ⟨b0, b1, b2, b3, b4, b5, hZs, b7, c1, c2, d1, d2⟩ := hB
  obtain ⟨z1, z2, z3, z4, z5, z6, z7, z8, z9, z10, hstr, z12, z13, z14, z15, z16⟩ := hZs
  have hst2 : ((st.map (mv g)).map fun v => v.category).sum ≤ 8 := by rw [cat_map]; exact hst
  refine th_throw b0 b1 hl b3 (nsWords b4 hns) (hstr (RX11, is, text, idn) hz) z14 z15 hS (by rw [b2, hL.1]) d0 d3 d4 d7 d10 (fun x hx => (hno x hx).elim) (by omega) (by omega) (by omega) (by omega) hlk (fun t ha hz2 hq => ?_) hS.2.2 hmc hms
  refine ⟨⟨rfl, _, hR.raised hz2 hq, hp _⟩, Nat.le_trans hS.1 hz2, fun q h1 h2 => ?_⟩
  rw [hq q (Nat.lt_of_lt_of_le h1 hS.1)]
  exact hS.2.1 q h1 h2
theorem x_entryX {y : MethodName} {cy : ByteArray} {nLy : Nat} {vs : List Value} (hy : plainName y.cls = true) (hn : ((vs.map fun v => if v.category = 2 then 2 else 1).sum) ≤ nLy) (hL : ∃ k, L = argL vs ++ List.replicate k none)
    (h : X g (ZMX g ret mc ms Post PX) y.cls cy nLy d mc ms 0 0 0 L [] σ) : CtX g y cy nLy ret d mc ms vs σ Post PX := by
  refine vx_ofW (cc := cy) (maxL := nLy) (ret := ret) hy rfl ?_
  intro p e s m args below meth c s₁ B hml hno hv
  obtain ⟨⟨rfl, hK, hZ, hN, hR⟩, hns⟩ := hv
  have hts := atoms_spec (ws := .code y cy nLy ret :: lwG) B.pre
  rw [lg_entry_eq]
  have hlen : (lg_sl (vs.map (mv g))).length ≤ nLy := by
    refine Nat.le_trans (Nat.le_of_eq ?_) hn
    clear h hL hn hR hts B
    induction vs with
    | nil => rfl
    | cons v vs ih =>
      have hc := mv_cat g v
      simp only [lg_sl, List.map_cons, List.flatMap_cons, List.length_append, List.sum_cons] at ih ⊢
      rw [ih, hc]
      by_cases h2 : v.category = 2 <;> simp [h2]
  exact h p e _ s m _ below meth c _ ⟨rfl, B.returns, B.notSynchronized, hno, hns⟩ ⟨B.exec, B.bytes, hml, findClass_of_methodNamed B.named, fun w hw => hts w (List.mem_cons_of_mem _ hw), hK, hZ, hN, rfl, rfl, Nat.le_refl _, Nat.le_refl _⟩ (Nat.zero_le _) (Nat.zero_le _) s.heap [] _ hR va_S.rf (LR.entry hlen hL)
end XT
