/-! NoSuchElementException(String): its constructor's call bears another number than the bundle of the library has (13, not 7); so the throw is put together here, out of the library's laws -/
abbrev xnN : String := "java/util/NoSuchElementException"
abbrev xnR : String := "java/lang/RuntimeException"
def nsCode : ByteArray := ⟨#[0x2a, 0x2b, 0xb7, 0x00, 0x0d, 0xb1]⟩
theorem nsCode_0 : decode nsCode 0 = .ok (.aload_n 0, 1) := by decide +kernel
theorem nsCode_1 : decode nsCode 1 = .ok (.aload_n 1, 1) := by decide +kernel
theorem nsCode_2 : decode nsCode 2 = .ok (.invokespecial 13, 3) := by decide +kernel
theorem nsCode_5 : decode nsCode 5 = .ok (.return_, 1) := by decide +kernel
def nsRest (own : String) (ic : Nat) : List Cond :=
  [.methodLink own ic (Bundle.initS xnN), .instantiable xnN 6, .castable xnN xnN, .selects xnN Bundle.tFill0 Bundle.tFill0, .selects xnN Bundle.tFill Bundle.tFill,
   .lays xnN Bundle.tN "cause" "Ljava/lang/Throwable;", .lays xnN Bundle.tN "stackTrace" Bundle.steD, .lays xnN Bundle.tN "suppressedExceptions" Bundle.listD, .lays xnN Bundle.tN "detailMessage" "Ljava/lang/String;",
   .isRef (.static Bundle.tN "UNASSIGNED_STACK" Bundle.steD), .isRef (.static Bundle.tN "SUPPRESSED_SENTINEL" Bundle.listD),
   .fieldLink Bundle.tN 198 Bundle.tN "backtrace" "Ljava/lang/Object;", .lays Bundle.tN Bundle.tN "backtrace" "Ljava/lang/Object;", .lays xnN Bundle.tN "backtrace" "Ljava/lang/Object;"]
def nsAtoms (own : String) (ic : Nat) : List Cond :=
  Bundle.throwableAtoms ++ (Bundle.throwableSAtoms ++ (Bundle.passSAtoms xnN xnR 13 nsCode ++ (Bundle.chainSAtoms xnR ["java/lang/Exception"] ++ nsRest own ic)))
set_option maxHeartbeats 4000000 in
theorem nx_ctor {p : Program} {l : Launch} {e : Env} {R : Room} {s : State} {m₀ : MethodId} {args : Array Value} {below : List Frame} {meth : Method} {c : Code} {W0 : State} {locs : List Loc} {cells slots : Nat}
    (X : Stand p l e R s m₀ args below meth c W0 locs cells slots) (hexec : p.tables.exec = Jvm.exec) (htr : e.platform.stackTraces = false) {own : String} {ic : Nat} (hown : s.vm.findClass own = some m₀.cls)
    (h : ∀ a ∈ nsAtoms own ic, a.before args s = true) (hlocs : ∀ x ∈ locs, ∀ cell, s.heap[x.base]? = some cell → cell.vm.isStatics = false)
    {a : Addr} {cX : ClassId} {kX : Class} (hfoundX : s.vm.findClass xnN = some cX) (hkX : s.vm.classes[cX]? = some kX) (hcell : W0.heap[a]? = some (freshCell cX kX)) (hnew : s.heap.size ≤ a) {msg : Value} (hmsg : msg.isRef = true)
    {g : JFrame} (hg : g.method = m₀) (hsize : g.locals.size = c.maxLocals) (hlocked : g.locked = none) (hentered : g.entered = []) {rest : List Value} (hstack : g.stack = msg :: .ref a :: .ref a :: rest)
    (hd6 : decode c.code g.pc = .ok (.invokespecial ic, 3)) (hd9 : decode c.code (g.pc + 3) = .ok (.athrow, 1)) (hout : ∀ x ∈ c.exceptionTable.toList, covers x (g.pc + 3) = false)
    (hRframes : 5 < R.frames) (hRlocals : 2 * g.monitorRoom + ((Value.ref a :: rest).map fun v => v.category).sum + (13 * 3 + 42) ≤ R.locals) (hlocks : meth.locks = false) :
    ∃ U : State, Steps p.tables e below (W0.setTop g) U ∧ U.status = .running ∧ Ended U below (.threw a) ∧ s.WarmedH U.vm ∧ s.sameButNew ({ U with vm := s.vm } : State) locs cells slots ∧
      ∃ ce, U.heap[a]? = some ce ∧ ce.vm = .none ∧ s.vm.findClass xnN = some ce.cls := by
  have howns : e.platform.frameOwnsMonitors = true := by rw [X.admits.platform]
  have hfin : e.platform.finalization = false := by rw [X.admits.platform]
  have hpl : e.platform.magicAccessors = ({} : Platform).magicAccessors := by rw [X.admits.platform]
  have hT : ∀ x ∈ Bundle.throwableAtoms, x.before args s = true := fun x hx => h x (List.mem_append_left _ hx)
  have hTS : ∀ x ∈ Bundle.throwableSAtoms, x.before args s = true := fun x hx => h x (List.mem_append_right _ (List.mem_append_left _ hx))
  have hPS : ∀ x ∈ Bundle.passSAtoms xnN xnR 13 nsCode, x.before args s = true := fun x hx => h x (List.mem_append_right _ (List.mem_append_right _ (List.mem_append_left _ hx)))
  have hCS : ∀ x ∈ Bundle.chainSAtoms xnR ["java/lang/Exception"], x.before args s = true := fun x hx => h x (List.mem_append_right _ (List.mem_append_right _ (List.mem_append_right _ (List.mem_append_left _ hx))))
  have hR : ∀ x ∈ nsRest own ic, x.before args s = true := fun x hx => h x (List.mem_append_right _ (List.mem_append_right _ (List.mem_append_right _ (List.mem_append_right _ hx))))
  have a' : ∀ x, x ∈ nsRest own ic → x.holds args s none s [] = true := fun x hx => hR x hx
  obtain ⟨T, Z0, L, -, Y⟩ := ThrowableC.of_atoms (args := args) howns hfin hpl hT
  obtain ⟨Z, M, LZ, LM, hnZ⟩ := Init0T.ofS_atoms (args := args) hpl L Y hTS
  obtain ⟨P2, Ps, hlen, L2, hL, hP2m, hlink2, hlink⟩ := Bundle.chainS (args := args) hpl hnZ ["java/lang/Exception"] xnR (by decide +kernel) (by decide +kernel) hCS
  obtain ⟨P1, L1, hP1m, hs1⟩ := PassC.ofS_atoms (args := args) (s := s) hpl (X := xnN) (Y := xnR) (by decide +kernel) (by decide +kernel) nsCode_0 nsCode_1 nsCode_2 nsCode_5 hPS
  have hlink1 : P1.sup = P2.m := Option.some.inj (hs1.symm.trans hP2m)
  have hfound : s.vm.findClass xnN = some P1.m.cls := findClass_of_methodNamed hP1m
  cases Option.some.inj (hfoundX.symm.trans hfound)
  obtain ⟨c1, kX', hc1, hk, hord, -, -, hn6⟩ := Cond.instantiable_spec (a' (.instantiable xnN 6) (by simp [nsRest]))
  cases Option.some.inj (hc1.symm.trans hfound)
  cases Option.some.inj (hkX.symm.trans hk)
  have hsel0 : selectMethod e.platform s.vm P1.m.cls T.fill0 = .method T.fill0 := by
    obtain ⟨c2, r2, m2, q1, q2, q3, q4, -⟩ := Cond.selects_spec (a' (.selects xnN Bundle.tFill0 Bundle.tFill0) (by simp [nsRest]))
    cases Option.some.inj (q1.symm.trans hfound)
    cases Option.some.inj (q2.symm.trans (State.methodFound?_of_named Y.fill0 (by decide)))
    cases Option.some.inj (q3.symm.trans Y.fill0)
    rw [Launch.admits_selectMethod X.admits]; exact q4
  have hselF : selectMethod e.platform s.vm P1.m.cls T.fill = .method T.fill := by
    obtain ⟨c2, r2, m2, q1, q2, q3, q4, -⟩ := Cond.selects_spec (a' (.selects xnN Bundle.tFill Bundle.tFill) (by simp [nsRest]))
    cases Option.some.inj (q1.symm.trans hfound)
    cases Option.some.inj (q2.symm.trans (State.methodFound?_of_named Y.fill (by decide)))
    cases Option.some.inj (q3.symm.trans Y.fill)
    rw [Launch.admits_selectMethod X.admits]; exact q4
  obtain ⟨cellS0, hcS0, hiss⟩ := Y.statics
  obtain ⟨u0, hu0⟩ := Cond.staticRefV Y.unassigned L.unassignedStatic L.statics hcS0 hiss (a' (.isRef (.static Bundle.tN "UNASSIGNED_STACK" Bundle.steD)) (by simp [nsRest]))
  obtain ⟨sen, hsen⟩ := Cond.staticRefV Y.sentinel L.sentinelStatic L.statics hcS0 hiss (a' (.isRef (.static Bundle.tN "SUPPRESSED_SENTINEL" Bundle.listD)) (by simp [nsRest]))
  obtain ⟨ci198, i198, fB, hk198, hg198, ha198, hsB, -, hnB, htB, hffB⟩ := Cond.ownField (t := .object "java/lang/Object") Y.found L.cls (by decide +kernel) (a' (.fieldLink Bundle.tN 198 Bundle.tN "backtrace" "Ljava/lang/Object;") (by simp [nsRest])) (a' (.lays Bundle.tN Bundle.tN "backtrace" "Ljava/lang/Object;") (by simp [nsRest])) e.platform hpl
  obtain ⟨cellS, hcS', heS, -, hkeep⟩ := X.same.2.2.2.2.2 T.aS cellS0 hcS0
  have hcellS : W0.heap[T.aS]? = some cellS := hcS'
  have hout' : ∀ i, (⟨T.aS, i⟩ : Loc) ∉ locs := fun i hmem => by
    have := hlocs _ hmem cellS0 hcS0
    rw [hiss] at this; cases this
  have hknownS : cellS.vm ≠ .unknown := by
    rw [heS]; intro hu
    rw [show cellS0.vm = .unknown from hu] at hiss
    cases hiss
  have hneS : T.aS ≠ a := Nat.ne_of_lt (Nat.lt_of_lt_of_le (Array.getElem?_eq_some_iff.mp hcS0).1 hnew)
  obtain ⟨iM, hffM⟩ := Y.msg
  obtain ⟨tyC, dC, hdC, hdnC⟩ := Cond.laysAt hfound hk Y.cause (a' (.lays xnN Bundle.tN "cause" "Ljava/lang/Throwable;") (by simp [nsRest]))
  obtain ⟨tyS, dS, hdS, hdnS⟩ := Cond.laysAt hfound hk Y.stack (a' (.lays xnN Bundle.tN "stackTrace" Bundle.steD) (by simp [nsRest]))
  obtain ⟨tyP, dP, hdP, hdnP⟩ := Cond.laysAt hfound hk Y.supp (a' (.lays xnN Bundle.tN "suppressedExceptions" Bundle.listD) (by simp [nsRest]))
  obtain ⟨tyM, dM, hdM, hdnM⟩ := Cond.laysAt hfound hk hffM (a' (.lays xnN Bundle.tN "detailMessage" "Ljava/lang/String;") (by simp [nsRest]))
  obtain ⟨tyB, dB, hdB, hdnB⟩ := Cond.laysAt hfound hk hffB (a' (.lays xnN Bundle.tN "backtrace" "Ljava/lang/Object;") (by simp [nsRest]))
  have bC := Cond.laysApart hdB hdC hdnB hdnC (by rw [hnB, Y.causeName]; decide)
  have bS := Cond.laysApart hdB hdS hdnB hdnS (by rw [hnB, Y.stackName]; decide)
  have bP := Cond.laysApart hdB hdP hdnB hdnP (by rw [hnB, Y.suppName]; decide)
  have hskip : SkipFacts T e.platform s (fun u => u) u0 ((preparedCellV T.toThrowableT (freshCell P1.m.cls kX) a u0 sen).withEntry W0.cur) :=
    ⟨{ ci198 := ci198, i198 := i198, fBack := fB }, ⟨hk198, hg198, ha198, hsB⟩, by
      have := fresh_default (c := P1.m.cls) tyB
      rw [htB] at this
      simpa [preparedCellV, Cell.setSlot, Cell.withEntry, Array.getElem?_setIfInBounds, bC, bS, bP, bC.symm, bS.symm, bP.symm, defaultValue] using this, fun _ _ => rfl⟩
  obtain ⟨tm, methC, cdC, kC, vm₁, hnC, -, -, -, -, -, -, -, hW₁, st1⟩ := Steps.initColdS (tb := p.tables) (e := e) (below := below) (s := s) (U := W0) X.here hexec X.warmed hpl hown (t := Bundle.initS xnN) rfl rfl (by decide +kernel)
    (a' (.methodLink own ic (Bundle.initS xnN)) (by simp [nsRest])) (hPS (.instanceMethod (Bundle.initS xnN)) (by simp [Bundle.passSAtoms])) (bytes := nsCode) (maxL := 2) (hPS (.code (Bundle.initS xnN) nsCode 2 none) (by simp [Bundle.passSAtoms]))
    (f := g) hg (a := a) (msg := msg) (rest := .ref a :: rest) hstack hd6
  cases Option.some.inj (hnC.symm.trans hP1m)
  have X₁ := X.noted hW₁
  obtain ⟨vm₂, X₂, st2⟩ := X₁.ctorMessageOffV hexec (g := { g with stack := .ref a :: rest }) hg hsize T L Z LZ M LM (P1 :: P2 :: Ps)
    (fun P hP => by
      rcases List.mem_cons.mp hP with rfl | hP
      · exact L1
      · rcases List.mem_cons.mp hP with rfl | hP
        · exact L2
        · exact hL P hP) ⟨hlink1, hlink2, hlink⟩ (u0 := u0) (sen := sen) (self := a) hmsg (cell := freshCell P1.m.cls kX) (cellS := cellS)
    hcell (fun _ => by simp) (by simp) rfl rfl hsel0 hselF hcellS hneS hknownS (by rw [hkeep _ (hout' _)]; exact hu0) (by rw [hkeep _ (hout' _)]; exact hsen)
    (Takes.of_laid hk hord tyC (by rw [Y.causeType]; rfl)) (Takes.of_laid hk hord tyS (by rw [Y.stackType]; exact fits_refV_array _ u0)) (Takes.of_laid hk hord tyP (by rw [Y.suppType]; exact fits_refV_object _ sen))
    (Takes.of_laid hk hord tyM (by rw [Y.msgType]; exact fits_refV_object _ ⟨msg, hmsg⟩)) Y.objLocals hskip htr [] hd6
    (by simp only [List.length_cons, hlen]; show _ < _; simp; omega) (by simp only [List.length_cons, hlen]; exact hRlocals)
  obtain ⟨hwalk, hrun, hended, hWU, hsame⟩ := X₂.athrowLeaves hexec (g := { g with stack := .ref a :: rest, pc := g.pc + 3 }) hg hlocked hentered hout (a := a) (rest := rest) rfl hd9 hlocks
  have hlt : a < ((W0.setVm vm₁).setVm vm₂).heap.size := (Array.getElem?_eq_some_iff.mp hcell).1
  have hU := heapAt_setCell_self (s := (W0.setVm vm₁).setVm vm₂) (plainBareV T.toThrowableT (freshCell P1.m.cls kX) a u0 sen msg) hlt
  refine ⟨_, st1 _ (fun acts => ?_), hrun, hended, hWU, hsame.weaken (fun y hy hlt' => ?_) (Nat.le_refl _) (Nat.le_refl _), _, hU, rfl, hfound⟩
  · rw [doInvoke_state]
    exact st2 _ hwalk
  · rcases List.mem_append.mp hy with h1 | h1
    · exact h1
    · exfalso
      have hb : y.base = a := by
        simp only [List.mem_cons, List.not_mem_nil, or_false] at h1
        rcases h1 with rfl | rfl | rfl | rfl | rfl <;> rfl
      rw [hb] at hlt'
      exact Nat.not_lt.mpr hnew hlt'
def nsAt (own : String) (ic : Nat) : List Cond := (nsAtoms own ic).filter vx_no
section NsThrow
variable {p : Program} {l : Launch} {e : Env} {R : Room} {s : State} {m : MethodId} {args : Array Value} {below : List Frame} {meth : Method} {c : Code} {H : Heap} {locs : List Loc} {cells slots : Nat} {free : Addr → Prop} {ls : Array Slot} {rest : List Value} {Qc : Array Value → State → Outcome → State → Prop} {XC : String → State → State → Prop}
set_option maxHeartbeats 4000000 in
theorem nx_throwS {cc : ByteArray} {pc : Nat} (hexec : p.tables.exec = Jvm.exec) (hb : c.code = cc) (hl : l.stackTraces = false) {own text : String} {ik is ic mc ms sa : Nat} {A : Nat → Prop} (hown : s.vm.findClass own = some m.cls)
    (hk : (Cond.classLink own ik xnN).before args s = true) (hini : (Cond.initialized xnN).before args s = true) (hstr : vk_R own is text sa s) (hat : ∀ w ∈ nsAt own ic, w.before args s = true)
    (hgood : ∀ w ∈ Cond.classLink own ik xnN :: Cond.initialized xnN :: nsAt own ic, vx_ot w = true)
    (hU : vx_Zq Bundle.tN "UNASSIGNED_STACK" Bundle.steD A s s.heap) (hN : vx_Zq Bundle.tN "SUPPRESSED_SENTINEL" Bundle.listD A s s.heap) (hS : va_S A s.heap H locs) (hsize : ls.size = c.maxLocals)
    (d0 : decode cc pc = .ok (.new ik, 3)) (d3 : decode cc (pc + 3) = .ok (.dup, 1)) (d4 : decode cc (pc + 4) = .ok (.ldc is, 2)) (d6 : decode cc (pc + 6) = .ok (.invokespecial ic, 3)) (d9 : decode cc (pc + 9) = .ok (.athrow, 1))
    (hout : ∀ x ∈ c.exceptionTable.toList, covers x (pc + 9) = false)
    (hRframes : 5 < R.frames) (hRlocals : (rest.map fun v => v.category).sum + (13 * 3 + 43) ≤ R.locals) (hRcells : cells + 1 ≤ R.cells) (hRslots : slots + 6 ≤ R.slots) (hlocks : meth.locks = false)
    (hx : ∀ t : State, s.vm.Alike t.vm → H.size ≤ t.heap.size → (∀ q : Nat, q < H.size → t.heap[q]? = H[q]?) → XC xnN s t)
    (hf : ∀ z ∈ locs, free z.base) (hc : cells + 1 ≤ mc) (hs : slots + 6 ≤ ms) :
    W p l e R s m args below meth c H locs cells slots (vx_MQ below Qc XC args s mc ms free) (F0 m pc ls rest) := by
  intro T hT X
  have htr : e.platform.stackTraces = false := (show e.platform.stackTraces = l.stackTraces by rw [X.admits.platform]).trans hl
  have Y := vx_rebase X (R' := { frames := R.frames, locals := R.locals, cells := 1, slots := 6 }) (Nat.le_refl _) (Nat.le_refl _) hRcells hRslots
  obtain ⟨s', hA⟩ : ∃ z, z = (T.setVm s.vm).setFrames (.invoking m args :: below) := ⟨_, rfl⟩
  rw [← hA] at Y
  have hvm : s'.vm = s.vm := by rw [hA]; rfl
  have hhp : s'.heap = H := by rw [hA]; exact hT
  have hW0 : s.WarmedH s'.vm := by rw [hvm]; exact State.WarmedH.refl s
  have hat' : ∀ w ∈ nsAt own ic, w.before args s' = true := fun w hw => vx_ot_at hW0 hvm.symm (hgood w (List.mem_cons_of_mem _ (List.mem_cons_of_mem _ hw))) (hat w hw)
  have hk' : (Cond.classLink own ik xnN).before args s' = true := vx_ot_at hW0 hvm.symm (hgood _ List.mem_cons_self) hk
  have hini' : (Cond.initialized xnN).before args s' = true := vx_ot_at hW0 hvm.symm (hgood _ (List.mem_cons_of_mem _ List.mem_cons_self)) hini
  have hU' : vx_Zq Bundle.tN "UNASSIGNED_STACK" Bundle.steD A s' s'.heap := by rw [hhp]; exact vx_Zq.moved hW0.alike (hU.kept hS.2.1)
  have hN' : vx_Zq Bundle.tN "SUPPRESSED_SENTINEL" Bundle.listD A s' s'.heap := by rw [hhp]; exact vx_Zq.moved hW0.alike (hN.kept hS.2.1)
  have h : ∀ w ∈ nsAtoms own ic, w.before args s' = true := vx_own hat' (vx_isRefq hU'.1) (vx_isRefq hN'.1) hU'.2.word hN'.2.word
  have hown' : s'.vm.findClass own = some m.cls := by rw [hvm]; exact hown
  have hins : (Cond.instantiable xnN 6).before args s' = true := h _ (by simp [nsAtoms, nsRest])
  obtain ⟨vm₁, cX, kX, hfX, hkX, -, -, X₁, st1⟩ := Y.newCold hexec (own := own) (C := xnN) (index := ik) (n := 6) hown' hk' hins hini'
    (g := F0 m pc ls rest) rfl (by rw [hb]; exact d0) (Nat.le_refl _) (Nat.le_refl _)
  generalize hT1 : (T.setVm vm₁).pushCell { cls := cX, slots := kX.instanceTypes.map defaultValue, vm := .none } = T1 at X₁ st1
  have hcat : (Value.ref T.heap.size).category = 1 := rfl
  have hcellA : T1.heap[T.heap.size]? = some (freshCell cX kX) := by rw [← hT1]; exact State.heap_pushCell_size _ _
  have d3' : decode c.code (pc + 3) = .ok (.dup, 1) := by rw [hb]; exact d3
  have d4' : decode c.code (pc + 4) = .ok (.ldc is, 2) := by rw [hb]; exact d4
  have hstr' : vk_R own is text sa s' := vk_R.warm hW0 hstr
  obtain ⟨U, hsteps, hrun, hend, hW, hsame, ce, hce, hcv, hcc⟩ := nx_ctor X₁ hexec htr (own := own) (ic := ic) hown' h (fun x hx => nomatch hx) hfX hkX hcellA (by rw [hhp, hT]; exact Nat.le_refl _) (msg := .ref sa) rfl
    (g := { method := m, pc := pc + 6, locals := ls, stack := .ref sa :: .ref T.heap.size :: .ref T.heap.size :: rest, locked := none }) rfl hsize rfl rfl (rest := rest) rfl
    (by rw [hb]; exact d6) (by rw [hb]; exact d9) hout hRframes (by simp only [List.map_cons, List.sum_cons, hcat]; show 2 * 0 + _ + _ ≤ R.locals; omega) hlocks
  obtain ⟨f1, f2⟩ := vx_frame hsame
  rw [hhp] at f1 f2
  have hWs : s.WarmedH U.vm := State.WarmedH.trans hW0 hW
  have hcl : s.vm.findClass xnN = some ce.cls := by
    rw [hvm] at hcc
    exact hcc
  have hall : s.sameButNew ({ U with vm := s.vm } : State) locs mc ms := by
    subst hA
    obtain ⟨e1, e2⟩ := hsame
    rw [State.setFrames_setFrames] at e1
    have h2 : (T.setVm s.vm).sameButNew ({ U with vm := s.vm } : State) [] (0 + 1) (0 + 6) := ⟨e1, e2⟩
    have h3 := X.same.trans h2
    rw [List.append_nil] at h3
    exact h3.mono hc hs
  refine ⟨U, ?_, .threw T.heap.size, hrun, hend, Or.inr ⟨T.heap.size, rfl, xnN, ce, locs, hx U hWs.alike f1 (fun q hq => f2 q hq (fun z hz => nomatch hz)), hce, hcv, hcl, hWs, hall, hf⟩⟩
  refine st1 _ ?_
  show Steps p.tables e below (T1.setTop { method := m, pc := pc + 3, locals := ls, stack := .ref T.heap.size :: rest, locked := none }) _
  jvm_step X₁.here [X₁.here.top, hexec, d3', Value.category]
  exact X₁.ldcString hexec (own := own) (text := text) (index := is) (a := sa) hown' hstr'.1 hstr'.2
    (g := { method := m, pc := pc + 4, locals := ls, stack := .ref T.heap.size :: .ref T.heap.size :: rest, locked := none }) rfl d4' _ hsteps
set_option maxHeartbeats 4000000 in
theorem nx_throwSW {cc : ByteArray} {pc : Nat} (hexec : p.tables.exec = Jvm.exec) (hb : c.code = cc) (hl : l.stackTraces = false) {own text : String} {ik is ic mc ms sa : Nat} {A : Nat → Prop} (hown : s.vm.findClass own = some m.cls)
    (hk : (Cond.classLink own ik xnN).before args s = true) (hini : (Cond.initialized xnN).before args s = true) (hstr : vk_R own is text sa s) (hat : ∀ w ∈ nsAt own ic, w.before args s = true)
    (hgood : ∀ w ∈ Cond.classLink own ik xnN :: Cond.initialized xnN :: nsAt own ic, vx_ot w = true)
    (hU : vx_Zq Bundle.tN "UNASSIGNED_STACK" Bundle.steD A s s.heap) (hN : vx_Zq Bundle.tN "SUPPRESSED_SENTINEL" Bundle.listD A s s.heap) (hS : va_S A s.heap H locs) (hsize : ls.size = c.maxLocals)
    (d0 : decode cc pc = .ok (.new ik, 3)) (d3 : decode cc (pc + 3) = .ok (.dup, 1)) (d4 : decode cc (pc + 4) = .ok (.ldc_w is, 3)) (d6 : decode cc (pc + 7) = .ok (.invokespecial ic, 3)) (d9 : decode cc (pc + 10) = .ok (.athrow, 1))
    (hout : ∀ x ∈ c.exceptionTable.toList, covers x (pc + 10) = false)
    (hRframes : 5 < R.frames) (hRlocals : (rest.map fun v => v.category).sum + (13 * 3 + 43) ≤ R.locals) (hRcells : cells + 1 ≤ R.cells) (hRslots : slots + 6 ≤ R.slots) (hlocks : meth.locks = false)
    (hx : ∀ t : State, s.vm.Alike t.vm → H.size ≤ t.heap.size → (∀ q : Nat, q < H.size → t.heap[q]? = H[q]?) → XC xnN s t)
    (hf : ∀ z ∈ locs, free z.base) (hc : cells + 1 ≤ mc) (hs : slots + 6 ≤ ms) :
    W p l e R s m args below meth c H locs cells slots (vx_MQ below Qc XC args s mc ms free) (F0 m pc ls rest) := by
  intro T hT X
  have htr : e.platform.stackTraces = false := (show e.platform.stackTraces = l.stackTraces by rw [X.admits.platform]).trans hl
  have Y := vx_rebase X (R' := { frames := R.frames, locals := R.locals, cells := 1, slots := 6 }) (Nat.le_refl _) (Nat.le_refl _) hRcells hRslots
  obtain ⟨s', hA⟩ : ∃ z, z = (T.setVm s.vm).setFrames (.invoking m args :: below) := ⟨_, rfl⟩
  rw [← hA] at Y
  have hvm : s'.vm = s.vm := by rw [hA]; rfl
  have hhp : s'.heap = H := by rw [hA]; exact hT
  have hW0 : s.WarmedH s'.vm := by rw [hvm]; exact State.WarmedH.refl s
  have hat' : ∀ w ∈ nsAt own ic, w.before args s' = true := fun w hw => vx_ot_at hW0 hvm.symm (hgood w (List.mem_cons_of_mem _ (List.mem_cons_of_mem _ hw))) (hat w hw)
  have hk' : (Cond.classLink own ik xnN).before args s' = true := vx_ot_at hW0 hvm.symm (hgood _ List.mem_cons_self) hk
  have hini' : (Cond.initialized xnN).before args s' = true := vx_ot_at hW0 hvm.symm (hgood _ (List.mem_cons_of_mem _ List.mem_cons_self)) hini
  have hU' : vx_Zq Bundle.tN "UNASSIGNED_STACK" Bundle.steD A s' s'.heap := by rw [hhp]; exact vx_Zq.moved hW0.alike (hU.kept hS.2.1)
  have hN' : vx_Zq Bundle.tN "SUPPRESSED_SENTINEL" Bundle.listD A s' s'.heap := by rw [hhp]; exact vx_Zq.moved hW0.alike (hN.kept hS.2.1)
  have h : ∀ w ∈ nsAtoms own ic, w.before args s' = true := vx_own hat' (vx_isRefq hU'.1) (vx_isRefq hN'.1) hU'.2.word hN'.2.word
  have hown' : s'.vm.findClass own = some m.cls := by rw [hvm]; exact hown
  have hins : (Cond.instantiable xnN 6).before args s' = true := h _ (by simp [nsAtoms, nsRest])
  obtain ⟨vm₁, cX, kX, hfX, hkX, -, -, X₁, st1⟩ := Y.newCold hexec (own := own) (C := xnN) (index := ik) (n := 6) hown' hk' hins hini'
    (g := F0 m pc ls rest) rfl (by rw [hb]; exact d0) (Nat.le_refl _) (Nat.le_refl _)
  generalize hT1 : (T.setVm vm₁).pushCell { cls := cX, slots := kX.instanceTypes.map defaultValue, vm := .none } = T1 at X₁ st1
  have hcat : (Value.ref T.heap.size).category = 1 := rfl
  have hcellA : T1.heap[T.heap.size]? = some (freshCell cX kX) := by rw [← hT1]; exact State.heap_pushCell_size _ _
  have d3' : decode c.code (pc + 3) = .ok (.dup, 1) := by rw [hb]; exact d3
  have d4' : decode c.code (pc + 4) = .ok (.ldc_w is, 3) := by rw [hb]; exact d4
  have hstr' : vk_R own is text sa s' := vk_R.warm hW0 hstr
  obtain ⟨U, hsteps, hrun, hend, hW, hsame, ce, hce, hcv, hcc⟩ := nx_ctor X₁ hexec htr (own := own) (ic := ic) hown' h (fun x hx => nomatch hx) hfX hkX hcellA (by rw [hhp, hT]; exact Nat.le_refl _) (msg := .ref sa) rfl
    (g := { method := m, pc := pc + 7, locals := ls, stack := .ref sa :: .ref T.heap.size :: .ref T.heap.size :: rest, locked := none }) rfl hsize rfl rfl (rest := rest) rfl
    (by rw [hb]; exact d6) (by rw [hb]; exact d9) hout hRframes (by simp only [List.map_cons, List.sum_cons, hcat]; show 2 * 0 + _ + _ ≤ R.locals; omega) hlocks
  obtain ⟨f1, f2⟩ := vx_frame hsame
  rw [hhp] at f1 f2
  have hWs : s.WarmedH U.vm := State.WarmedH.trans hW0 hW
  have hcl : s.vm.findClass xnN = some ce.cls := by
    rw [hvm] at hcc
    exact hcc
  have hall : s.sameButNew ({ U with vm := s.vm } : State) locs mc ms := by
    subst hA
    obtain ⟨e1, e2⟩ := hsame
    rw [State.setFrames_setFrames] at e1
    have h2 : (T.setVm s.vm).sameButNew ({ U with vm := s.vm } : State) [] (0 + 1) (0 + 6) := ⟨e1, e2⟩
    have h3 := X.same.trans h2
    rw [List.append_nil] at h3
    exact h3.mono hc hs
  refine ⟨U, ?_, .threw T.heap.size, hrun, hend, Or.inr ⟨T.heap.size, rfl, xnN, ce, locs, hx U hWs.alike f1 (fun q hq => f2 q hq (fun z hz => nomatch hz)), hce, hcv, hcl, hWs, hall, hf⟩⟩
  refine st1 _ ?_
  show Steps p.tables e below (T1.setTop { method := m, pc := pc + 3, locals := ls, stack := .ref T.heap.size :: rest, locked := none }) _
  jvm_step X₁.here [X₁.here.top, hexec, d3', Value.category]
  exact X₁.ldcStringW hexec (own := own) (text := text) (index := is) (a := sa) hown' hstr'.1 hstr'.2
    (g := { method := m, pc := pc + 4, locals := ls, stack := .ref T.heap.size :: .ref T.heap.size :: rest, locked := none }) rfl d4' _ hsteps
end NsThrow
/-! outcomes of methods that may throw; the throw itself -/
def oI : Int32 ⊕ String → gO
  | .inl v => .inl (some (.int v))
  | .inr E => .inr E
def oV : Unit ⊕ String → gO
  | .inl _ => .inl none
  | .inr E => .inr E
theorem NW_tab : ∀ w ∈ NW, w.onTables = true := by
  intro w hw
  have h2 := (List.mem_filter.mp hw).2
  cases w <;> first | rfl | (simp [isNest] at h2)
theorem xat {ws : List Cond} (hL : ∀ w ∈ ws, w ∈ LW ∨ w ∈ NW) {args : Array Value} {s : State} (hts : ∀ w ∈ LW, w.before args s = true) (hN : ∀ w ∈ NW, va_Nw w s) : ∀ w ∈ ws, w.before args s = true := fun w hw => (hL w hw).elim (hts w) (fun h => va_Nw.use (NW_tab w h) (hN w h))
abbrev xnA : String := "java/lang/IllegalArgumentException"
abbrev xNm : List String := ["java/lang/RuntimeException", "java/lang/Exception"]
theorem xatN : ∀ w ∈ nsAt RX10 181, w ∈ LW ∨ w ∈ NW := by decide +kernel
theorem xgdN : ∀ w ∈ nsAt RX10 181, vx_ot w = true := by decide +kernel
theorem xinN : Cond.initialized xnN ∈ LW := by decide +kernel
theorem xftN : Bundle.fit xnN = true := by decide +kernel
theorem xatA : ∀ w ∈ vx_atS RX10 105 xnA xNm, w ∈ LW ∨ w ∈ NW := by decide +kernel
theorem xgdA : ∀ w ∈ vx_atS RX10 105 xnA xNm, vx_ot w = true := by decide +kernel
theorem xinA : Cond.initialized xnA ∈ LW := by decide +kernel
theorem xftA : Bundle.fit xnA = true := by decide +kernel
theorem xfn : ∀ n ∈ xNm, Bundle.fit n = true := by decide +kernel
section Thr
variable {cc : ByteArray} {nL : Nat} {ret : Option FieldType} {hh : List ExceptionTableEntry} {isI : gH} {d rc rs pc : Nat} {ls ls' : List (Nat × Value)} {S : gS} {I : gI} {J : gJ} {Q : gO → gS → gI → gJ → Prop}
theorem wp_throwSN {ik is i : Nat} {text : String} (d0 : decode cc pc = .ok (.new ik, 3)) (d3 : decode cc (pc + 3) = .ok (.dup, 1)) (d4 : decode cc (pc + 4) = .ok (.ldc is, 2)) (d6 : decode cc (pc + 6) = .ok (.invokespecial 181, 3)) (d9 : decode cc (pc + 9) = .ok (.athrow, 1))
    (hstr : gStr[i]? = some (RX10, is, text)) (hk : Cond.classLink RX10 ik xnN ∈ LW) (h0 : hh = []) (hd9 : 9 ≤ d) (hq : Q (.inr xnN) S I J) : Wp RX10 cc nL ret hh isI d (rc + 1) (rs + 6) pc ls [] S I J Q := fun p l e R s m args below meth c H locs cells slots A al cy D mc ms al0 n0 hC hi hD hv lsr hl => by
  have hr := hC.2.2.1
  have hr2 := hD.1
  have hw := hC.2.1.2.1
  refine nx_throwS (A := A) (sa := al (gSB + i)) hC.1.1 hC.1.2.1 hC.2.1.2.2.2 hC.2.1.1 (hw _ hk) (hw _ xinN) (hD.2.2.2.1.1 i _ hstr) (xat xatN hw hC.2.1.2.2.1) ?_ hD.2.2.2.1.2.2.1 hD.2.2.2.1.2.2.2.1 hD.2.2.1 (hl.1.trans hC.1.2.2.1.symm) d0 d3 d4 d6 d9 (by rw [hC.1.2.2.2.2.2, h0]; intro x hx; cases hx) (by omega) (by show 0 + (13 * 3 + 43) ≤ _; omega) (by omega) (by omega) hC.1.2.2.2.2.1 ?_ hD.2.2.1.2.2 (by omega) (by omega)
  · intro w hw2
    rcases List.mem_cons.mp hw2 with rfl | hw2
    · rfl
    · rcases List.mem_cons.mp hw2 with rfl | hw2
      · rfl
      · exact xgdN w hw2
  · intro t hal hz hkeep
    exact ⟨⟨S, I, J, al, hq, ⟨hD.2.1.1.kept (fun k q hk => hkeep q.1 ((hD.2.1.1 k q hk).lt)), hD.2.1.2⟩, hD.2.2.2.2.1, hD.2.2.2.2.2.1, hD.2.2.2.2.2.2, by omega⟩, ⟨Nat.le_trans hD.2.2.1.1 hz, fun q h1 h2 => (hkeep q (Nat.lt_of_lt_of_le h1 hD.2.2.1.1)).trans (hD.2.2.1.2.1 q h1 h2)⟩⟩
theorem wp_throwSA {ik is i : Nat} {text : String} (d0 : decode cc pc = .ok (.new ik, 3)) (d3 : decode cc (pc + 3) = .ok (.dup, 1)) (d4 : decode cc (pc + 4) = .ok (.ldc is, 2)) (d6 : decode cc (pc + 6) = .ok (.invokespecial 105, 3)) (d9 : decode cc (pc + 9) = .ok (.athrow, 1))
    (hstr : gStr[i]? = some (RX10, is, text)) (hk : Cond.classLink RX10 ik xnA ∈ LW) (h0 : hh = []) (hd9 : 9 ≤ d) (hq : Q (.inr xnA) S I J) : Wp RX10 cc nL ret hh isI d (rc + 1) (rs + 6) pc ls [] S I J Q := fun p l e R s m args below meth c H locs cells slots A al cy D mc ms al0 n0 hC hi hD hv lsr hl => by
  have hr := hC.2.2.1
  have hr2 := hD.1
  have hw := hC.2.1.2.1
  refine vx_throwS (A := A) (sa := al (gSB + i)) (names := xNm) hC.1.1 hC.1.2.1 hC.2.1.2.2.2 hC.2.1.1 xftA xfn (hw _ hk) (hw _ xinA) (hD.2.2.2.1.1 i _ hstr) (xat xatA hw hC.2.1.2.2.1) ?_ hD.2.2.2.1.2.2.1 hD.2.2.2.1.2.2.2.1 hD.2.2.1 (hl.1.trans hC.1.2.2.1.symm) d0 d3 d4 d6 d9 (by rw [hC.1.2.2.2.2.2, h0]; intro x hx; cases hx) (by show 2 + 3 < _; omega) (by show 0 + (13 * (2 + 1) + 43) ≤ _; omega) (by omega) (by omega) hC.1.2.2.2.2.1 ?_ hD.2.2.1.2.2 (by omega) (by omega)
  · intro w hw2
    rcases List.mem_cons.mp hw2 with rfl | hw2
    · rfl
    · rcases List.mem_cons.mp hw2 with rfl | hw2
      · rfl
      · exact xgdA w hw2
  · intro t hal hz hkeep
    exact ⟨⟨S, I, J, al, hq, ⟨hD.2.1.1.kept (fun k q hk => hkeep q.1 ((hD.2.1.1 k q hk).lt)), hD.2.1.2⟩, hD.2.2.2.2.1, hD.2.2.2.2.2.1, hD.2.2.2.2.2.2, by omega⟩, ⟨Nat.le_trans hD.2.2.1.1 hz, fun q h1 h2 => (hkeep q (Nat.lt_of_lt_of_le h1 hD.2.2.1.1)).trans (hD.2.2.1.2.1 q h1 h2)⟩⟩
theorem wp_throwWN {ik is i : Nat} {text : String} (d0 : decode cc pc = .ok (.new ik, 3)) (d3 : decode cc (pc + 3) = .ok (.dup, 1)) (d4 : decode cc (pc + 4) = .ok (.ldc_w is, 3)) (d6 : decode cc (pc + 7) = .ok (.invokespecial 181, 3)) (d9 : decode cc (pc + 10) = .ok (.athrow, 1))
    (hstr : gStr[i]? = some (RX10, is, text)) (hk : Cond.classLink RX10 ik xnN ∈ LW) (h0 : hh = []) (hd9 : 9 ≤ d) (hq : Q (.inr xnN) S I J) : Wp RX10 cc nL ret hh isI d (rc + 1) (rs + 6) pc ls [] S I J Q := fun p l e R s m args below meth c H locs cells slots A al cy D mc ms al0 n0 hC hi hD hv lsr hl => by
  have hr := hC.2.2.1
  have hr2 := hD.1
  have hw := hC.2.1.2.1
  refine nx_throwSW (A := A) (sa := al (gSB + i)) hC.1.1 hC.1.2.1 hC.2.1.2.2.2 hC.2.1.1 (hw _ hk) (hw _ xinN) (hD.2.2.2.1.1 i _ hstr) (xat xatN hw hC.2.1.2.2.1) ?_ hD.2.2.2.1.2.2.1 hD.2.2.2.1.2.2.2.1 hD.2.2.1 (hl.1.trans hC.1.2.2.1.symm) d0 d3 d4 d6 d9 (by rw [hC.1.2.2.2.2.2, h0]; intro x hx; cases hx) (by omega) (by show 0 + (13 * 3 + 43) ≤ _; omega) (by omega) (by omega) hC.1.2.2.2.2.1 ?_ hD.2.2.1.2.2 (by omega) (by omega)
  · intro w hw2
    rcases List.mem_cons.mp hw2 with rfl | hw2
    · rfl
    · rcases List.mem_cons.mp hw2 with rfl | hw2
      · rfl
      · exact xgdN w hw2
  · intro t hal hz hkeep
    exact ⟨⟨S, I, J, al, hq, ⟨hD.2.1.1.kept (fun k q hk => hkeep q.1 ((hD.2.1.1 k q hk).lt)), hD.2.1.2⟩, hD.2.2.2.2.1, hD.2.2.2.2.2.1, hD.2.2.2.2.2.2, by omega⟩, ⟨Nat.le_trans hD.2.2.1.1 hz, fun q h1 h2 => (hkeep q (Nat.lt_of_lt_of_le h1 hD.2.2.1.1)).trans (hD.2.2.1.2.1 q h1 h2)⟩⟩
theorem wp_throwWA {ik is i : Nat} {text : String} (d0 : decode cc pc = .ok (.new ik, 3)) (d3 : decode cc (pc + 3) = .ok (.dup, 1)) (d4 : decode cc (pc + 4) = .ok (.ldc_w is, 3)) (d6 : decode cc (pc + 7) = .ok (.invokespecial 105, 3)) (d9 : decode cc (pc + 10) = .ok (.athrow, 1))
    (hstr : gStr[i]? = some (RX10, is, text)) (hk : Cond.classLink RX10 ik xnA ∈ LW) (h0 : hh = []) (hd9 : 9 ≤ d) (hq : Q (.inr xnA) S I J) : Wp RX10 cc nL ret hh isI d (rc + 1) (rs + 6) pc ls [] S I J Q := fun p l e R s m args below meth c H locs cells slots A al cy D mc ms al0 n0 hC hi hD hv lsr hl => by
  have hr := hC.2.2.1
  have hr2 := hD.1
  have hw := hC.2.1.2.1
  refine vx_throwSW (A := A) (sa := al (gSB + i)) (names := xNm) hC.1.1 hC.1.2.1 hC.2.1.2.2.2 hC.2.1.1 xftA xfn (hw _ hk) (hw _ xinA) (hD.2.2.2.1.1 i _ hstr) (xat xatA hw hC.2.1.2.2.1) ?_ hD.2.2.2.1.2.2.1 hD.2.2.2.1.2.2.2.1 hD.2.2.1 (hl.1.trans hC.1.2.2.1.symm) d0 d3 d4 d6 d9 (by rw [hC.1.2.2.2.2.2, h0]; intro x hx; cases hx) (by show 2 + 3 < _; omega) (by show 0 + (13 * (2 + 1) + 43) ≤ _; omega) (by omega) (by omega) hC.1.2.2.2.2.1 ?_ hD.2.2.1.2.2 (by omega) (by omega)
  · intro w hw2
    rcases List.mem_cons.mp hw2 with rfl | hw2
    · rfl
    · rcases List.mem_cons.mp hw2 with rfl | hw2
      · rfl
      · exact xgdA w hw2
  · intro t hal hz hkeep
    exact ⟨⟨S, I, J, al, hq, ⟨hD.2.1.1.kept (fun k q hk => hkeep q.1 ((hD.2.1.1 k q hk).lt)), hD.2.1.2⟩, hD.2.2.2.2.1, hD.2.2.2.2.2.1, hD.2.2.2.2.2.2, by omega⟩, ⟨Nat.le_trans hD.2.2.1.1 hz, fun q h1 h2 => (hkeep q (Nat.lt_of_lt_of_le h1 hD.2.2.1.1)).trans (hD.2.2.1.2.1 q h1 h2)⟩⟩
end Thr
