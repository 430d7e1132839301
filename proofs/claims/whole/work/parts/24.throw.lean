/-! THE LAW'S OWN METHODS: a call of the class that may throw, caught -/
def jx_cap : List Cond := [.methodLink RX9 157 (Bundle.initS jx_N), .instantiable jx_N 6, .castable jx_N jx_N, .selects jx_N Bundle.tFill0 Bundle.tFill0, .selects jx_N Bundle.tFill Bundle.tFill, .lays jx_N Bundle.tN "cause" "Ljava/lang/Throwable;", .lays jx_N Bundle.tN "stackTrace" Bundle.steD, .lays jx_N Bundle.tN "suppressedExceptions" Bundle.listD, .lays jx_N Bundle.tN "detailMessage" "Ljava/lang/String;", .fieldLink Bundle.tN 198 Bundle.tN "backtrace" "Ljava/lang/Object;", .lays Bundle.tN Bundle.tN "backtrace" "Ljava/lang/Object;", .lays jx_N Bundle.tN "backtrace" "Ljava/lang/Object;", .classLink RX9 153 jx_N, .initialized jx_N]
set_option maxRecDepth 100000 in
theorem jx_a1 : ∀ w ∈ Bundle.throwableAtoms.filter vx_no, w ∈ lw_tbl := by decide +kernel
set_option maxRecDepth 100000 in
theorem jx_a2 : ∀ w ∈ Bundle.throwableSAtoms.filter vx_no, w ∈ lw_tbl := by decide +kernel
set_option maxRecDepth 100000 in
theorem jx_a3 : ∀ w ∈ Bundle.passSAtoms jx_N "java/lang/RuntimeException" 13 prog_27_method_4_code, w ∈ lw_tbl := by decide +kernel
set_option maxRecDepth 100000 in
theorem jx_a4 : ∀ w ∈ Bundle.chainSAtoms "java/lang/RuntimeException" ["java/lang/Exception"], w ∈ lw_tbl := by decide +kernel
set_option maxRecDepth 100000 in
theorem jx_a5 : ∀ w ∈ jx_cap, w ∈ lw_tbl := by decide +kernel
theorem jx_b1 : (Bundle.throwableAtoms.filter vx_no).all goodWord = true := by decide +kernel
theorem jx_b2 : (Bundle.throwableSAtoms.filter vx_no).all goodWord = true := by decide +kernel
theorem jx_b3 : (Bundle.passSAtoms jx_N "java/lang/RuntimeException" 13 prog_27_method_4_code).all (fun w => goodWord w || decide (w ∈ jx_Kw)) = true := by decide +kernel
theorem jx_b4 : (Bundle.chainSAtoms "java/lang/RuntimeException" ["java/lang/Exception"]).all (fun w => goodWord w || decide (w ∈ jx_Kw)) = true := by decide +kernel
theorem jx_b5 : jx_cap.all (fun w => goodWord w || decide (w ∈ jx_Kw)) = true := by decide +kernel
def jx_R : String := "java/lang/RuntimeException"
theorem jx_d : decode prog_27_method_4_code 0 = .ok (.aload_n 0, 1) ∧ decode prog_27_method_4_code 1 = .ok (.aload_n 1, 1) ∧ decode prog_27_method_4_code 2 = .ok (.invokespecial 13, 3) ∧ decode prog_27_method_4_code 5 = .ok (.return_, 1) := by decide +kernel
theorem jx_fits : Bundle.fit jx_N = true ∧ Bundle.fit jx_R = true ∧ Bundle.fit "java/lang/Exception" = true := by decide +kernel
section JXC
variable {p : Program} {l : Launch} {e : Env} {R : Room} {s : State} {m₀ : MethodId} {args : Array Value} {below : List Frame} {meth : Method} {c : Code} {W0 : State} {locs : List Loc} {cells slots : Nat}
set_option maxHeartbeats 1000000 in
/-- the constructor of NoSuchElementException with a message, and the throw behind it -/
theorem jx_ctor (X : Stand p l e R s m₀ args below meth c W0 locs cells slots) (hexec : p.tables.exec = Jvm.exec) (htr : e.platform.stackTraces = false) (hown : s.vm.findClass RX9 = some m₀.cls)
    (w1 : ∀ w ∈ Bundle.throwableAtoms, w.before args s = true) (w2 : ∀ w ∈ Bundle.throwableSAtoms, w.before args s = true) (w3 : ∀ w ∈ Bundle.passSAtoms jx_N jx_R 13 prog_27_method_4_code, w.before args s = true) (w4 : ∀ w ∈ Bundle.chainSAtoms jx_R ["java/lang/Exception"], w.before args s = true) (w5 : ∀ w ∈ jx_cap, w.before args s = true)
    (wU : (Cond.isRef (.static Bundle.tN "UNASSIGNED_STACK" Bundle.steD)).before args s = true) (wN : (Cond.isRef (.static Bundle.tN "SUPPRESSED_SENTINEL" Bundle.listD)).before args s = true)
    (hlocs : ∀ x ∈ locs, ∀ cell, s.heap[x.base]? = some cell → cell.vm.isStatics = false)
    {a : Addr} {cX : ClassId} {kX : Class} (hfoundX : s.vm.findClass jx_N = some cX) (hkX : s.vm.classes[cX]? = some kX) (hcell : W0.heap[a]? = some (freshCell cX kX)) (hnew : s.heap.size ≤ a)
    {msg : Value} (hmsg : msg.isRef = true)
    {g : JFrame} (hg : g.method = m₀) (hsize : g.locals.size = c.maxLocals) (hlocked : g.locked = none) (hentered : g.entered = []) {rest : List Value} (hstack : g.stack = msg :: .ref a :: .ref a :: rest)
    (hd6 : decode c.code g.pc = .ok (.invokespecial 157, 3)) (hd9 : decode c.code (g.pc + 3) = .ok (.athrow, 1)) (hout : ∀ x ∈ c.exceptionTable.toList, covers x (g.pc + 3) = false)
    (hRf : 5 < R.frames) (hRl : 2 * g.monitorRoom + ((Value.ref a :: rest).map fun v => v.category).sum + 81 ≤ R.locals) (hlocks : meth.locks = false) :
    ∃ U : State, Steps p.tables e below (W0.setTop g) U ∧ U.status = .running ∧ Ended U below (.threw a) ∧ s.WarmedH U.vm ∧ s.sameButNew ({ U with vm := s.vm } : State) locs cells slots ∧
      ∃ ce : Cell, U.heap[a]? = some ce ∧ ce.vm = .none ∧ s.vm.findClass jx_N = some ce.cls := by
  have howns : e.platform.frameOwnsMonitors = true := by rw [X.admits.platform]
  have hfin : e.platform.finalization = false := by rw [X.admits.platform]
  have hpl : e.platform.magicAccessors = ({} : Platform).magicAccessors := by rw [X.admits.platform]
  have k5 : ∀ x, x ∈ jx_cap → x.holds args s none s [] = true := fun x hx => w5 x hx
  obtain ⟨T, Z0, L, -, Y⟩ := ThrowableC.of_atoms (args := args) howns hfin hpl w1
  obtain ⟨Z, M, LZ, LM, hnZ⟩ := Init0T.ofS_atoms (args := args) hpl L Y w2
  obtain ⟨P1, L1, hP1m, hP1s⟩ := PassC.ofS_atoms (args := args) (s := s) hpl (X := jx_N) (Y := jx_R) (Bundle.fit_spec jx_fits.1).1 (Bundle.fit_spec jx_fits.2.1).2 jx_d.1 jx_d.2.1 jx_d.2.2.1 jx_d.2.2.2 w3
  obtain ⟨P2, Ps, hlen, L2, hL, hP2m, hlink2, hlink⟩ := Bundle.chainS (args := args) hpl hnZ ["java/lang/Exception"] jx_R jx_fits.2.1 (fun n hn => by rw [List.mem_singleton.mp hn]; exact jx_fits.2.2) w4
  have hlen : Ps.length = 1 := hlen
  have hsup : P1.sup = P2.m := Option.some.inj (hP1s.symm.trans hP2m)
  have hfound : s.vm.findClass jx_N = some P1.m.cls := findClass_of_methodNamed hP1m
  cases Option.some.inj (hfoundX.symm.trans hfound)
  obtain ⟨c1, kX', hc1, hk, hord, -, -, hn6⟩ := Cond.instantiable_spec (k5 (.instantiable jx_N 6) (by simp [jx_cap]))
  cases Option.some.inj (hc1.symm.trans hfound)
  cases Option.some.inj (hkX.symm.trans hk)
  have hsel0 : selectMethod e.platform s.vm P1.m.cls T.fill0 = .method T.fill0 := by
    obtain ⟨c2, r2, m2, q1, q2, q3, q4, -⟩ := Cond.selects_spec (k5 (.selects jx_N Bundle.tFill0 Bundle.tFill0) (by simp [jx_cap]))
    cases Option.some.inj (q1.symm.trans hfound)
    cases Option.some.inj (q2.symm.trans (State.methodFound?_of_named Y.fill0 (by decide)))
    cases Option.some.inj (q3.symm.trans Y.fill0)
    rw [Launch.admits_selectMethod X.admits]; exact q4
  have hselF : selectMethod e.platform s.vm P1.m.cls T.fill = .method T.fill := by
    obtain ⟨c2, r2, m2, q1, q2, q3, q4, -⟩ := Cond.selects_spec (k5 (.selects jx_N Bundle.tFill Bundle.tFill) (by simp [jx_cap]))
    cases Option.some.inj (q1.symm.trans hfound)
    cases Option.some.inj (q2.symm.trans (State.methodFound?_of_named Y.fill (by decide)))
    cases Option.some.inj (q3.symm.trans Y.fill)
    rw [Launch.admits_selectMethod X.admits]; exact q4
  obtain ⟨cellS0, hcS0, hiss⟩ := Y.statics
  obtain ⟨u0, hu0⟩ := Cond.staticRefV Y.unassigned L.unassignedStatic L.statics hcS0 hiss wU
  obtain ⟨sen, hsen⟩ := Cond.staticRefV Y.sentinel L.sentinelStatic L.statics hcS0 hiss wN
  obtain ⟨ci198, i198, fB, hk198, hg198, ha198, hsB, -, hnB, htB, hffB⟩ := Cond.ownField (t := .object "java/lang/Object") Y.found L.cls (by decide +kernel) (k5 (.fieldLink Bundle.tN 198 Bundle.tN "backtrace" "Ljava/lang/Object;") (by simp [jx_cap])) (k5 (.lays Bundle.tN Bundle.tN "backtrace" "Ljava/lang/Object;") (by simp [jx_cap])) e.platform hpl
  obtain ⟨cellS, hcS', heS, -, hkeep⟩ := X.same.2.2.2.2.2 T.aS cellS0 hcS0
  have hcellS : W0.heap[T.aS]? = some cellS := hcS'
  have hout' : ∀ i, (⟨T.aS, i⟩ : Loc) ∉ locs := fun i hmem => by
    have := hlocs _ hmem cellS0 hcS0
    rw [hiss] at this; cases this
  have hknownS : cellS.vm ≠ .unknown := by
    rw [heS]; intro hu
    rw [show cellS0.vm = .unknown from hu] at hiss
    cases hiss
  have hneS : T.aS ≠ a := Nat.ne_of_lt (Nat.lt_of_lt_of_le (Array.getElem?_eq_some_iff.mp hcS0).1 hnew)
  obtain ⟨iM, hffM⟩ := Y.msg
  obtain ⟨tyC, dC, hdC, hdnC⟩ := Cond.laysAt hfound hk Y.cause (k5 (.lays jx_N Bundle.tN "cause" "Ljava/lang/Throwable;") (by simp [jx_cap]))
  obtain ⟨tyS, dS, hdS, hdnS⟩ := Cond.laysAt hfound hk Y.stack (k5 (.lays jx_N Bundle.tN "stackTrace" Bundle.steD) (by simp [jx_cap]))
  obtain ⟨tyP, dP, hdP, hdnP⟩ := Cond.laysAt hfound hk Y.supp (k5 (.lays jx_N Bundle.tN "suppressedExceptions" Bundle.listD) (by simp [jx_cap]))
  obtain ⟨tyM, dM, hdM, hdnM⟩ := Cond.laysAt hfound hk hffM (k5 (.lays jx_N Bundle.tN "detailMessage" "Ljava/lang/String;") (by simp [jx_cap]))
  obtain ⟨tyB, dB, hdB, hdnB⟩ := Cond.laysAt hfound hk hffB (k5 (.lays jx_N Bundle.tN "backtrace" "Ljava/lang/Object;") (by simp [jx_cap]))
  have bC := Cond.laysApart hdB hdC hdnB hdnC (by rw [hnB, Y.causeName]; decide)
  have bS := Cond.laysApart hdB hdS hdnB hdnS (by rw [hnB, Y.stackName]; decide)
  have bP := Cond.laysApart hdB hdP hdnB hdnP (by rw [hnB, Y.suppName]; decide)
  have hskip : SkipFacts T e.platform s (fun u => u) u0 ((preparedCellV T.toThrowableT (freshCell P1.m.cls kX) a u0 sen).withEntry W0.cur) :=
    ⟨{ ci198 := ci198, i198 := i198, fBack := fB }, ⟨hk198, hg198, ha198, hsB⟩, by
      have := fresh_default (c := P1.m.cls) tyB
      rw [htB] at this
      simpa [preparedCellV, Cell.setSlot, Cell.withEntry, Array.getElem?_setIfInBounds, bC, bS, bP, bC.symm, bS.symm, bP.symm, defaultValue] using this, fun _ _ => rfl⟩
  obtain ⟨tm, methC, cdC, kC, vm₁, hnC, -, -, -, -, -, -, -, hW₁, st1⟩ := Steps.initColdS (tb := p.tables) (e := e) (below := below) (s := s) (U := W0) X.here hexec X.warmed hpl hown (t := Bundle.initS jx_N) rfl rfl (Bundle.fit_spec jx_fits.1).2
    (k5 (.methodLink RX9 157 (Bundle.initS jx_N)) (by simp [jx_cap])) (w3 (.instanceMethod (Bundle.initS jx_N)) (by simp [Bundle.passSAtoms])) (bytes := prog_27_method_4_code) (maxL := 2) (w3 (.code (Bundle.initS jx_N) prog_27_method_4_code 2 none) (by simp [Bundle.passSAtoms]))
    (f := g) hg (a := a) (msg := msg) (rest := .ref a :: rest) hstack hd6
  cases Option.some.inj (hnC.symm.trans hP1m)
  have X₁ := X.noted hW₁
  obtain ⟨vm₂, X₂, st2⟩ := X₁.ctorMessageOffV hexec (g := { g with stack := .ref a :: rest }) hg hsize T L Z LZ M LM (P1 :: P2 :: Ps)
    (fun P hP => by
      rcases List.mem_cons.mp hP with rfl | hP
      · exact L1
      · rcases List.mem_cons.mp hP with rfl | hP
        · exact L2
        · exact hL P hP) ⟨hsup, hlink2, hlink⟩ (u0 := u0) (sen := sen) (self := a) hmsg (cell := freshCell P1.m.cls kX) (cellS := cellS)
    hcell (fun _ => by simp) (by simp) rfl rfl hsel0 hselF hcellS hneS hknownS (by rw [hkeep _ (hout' _)]; exact hu0) (by rw [hkeep _ (hout' _)]; exact hsen)
    (Takes.of_laid hk hord tyC (by rw [Y.causeType]; rfl)) (Takes.of_laid hk hord tyS (by rw [Y.stackType]; exact fits_refV_array _ u0)) (Takes.of_laid hk hord tyP (by rw [Y.suppType]; exact fits_refV_object _ sen))
    (Takes.of_laid hk hord tyM (by rw [Y.msgType]; exact fits_refV_object _ ⟨msg, hmsg⟩)) Y.objLocals hskip htr [] hd6
    (by simp only [List.length_cons, hlen]; omega) (by simp only [List.length_cons, hlen]; exact hRl)
  obtain ⟨hwalk, hrun, hended, hWU, hsame⟩ := X₂.athrowLeaves hexec (g := { g with stack := .ref a :: rest, pc := g.pc + 3 }) hg hlocked hentered hout (a := a) (rest := rest) rfl hd9 hlocks
  have hlt : a < ((W0.setVm vm₁).setVm vm₂).heap.size := (Array.getElem?_eq_some_iff.mp hcell).1
  have hU := heapAt_setCell_self (s := (W0.setVm vm₁).setVm vm₂) (plainBareV T.toThrowableT (freshCell P1.m.cls kX) a u0 sen msg) hlt
  refine ⟨_, st1 _ (fun acts => ?_), hrun, hended, hWU, hsame.weaken (fun y hy hlt' => ?_) (Nat.le_refl _) (Nat.le_refl _), _, hU, rfl, hfound⟩
  · rw [doInvoke_state]
    exact st2 _ hwalk
  · rcases List.mem_append.mp hy with h1 | h1
    · exact h1
    · exfalso
      have hb : y.base = a := by
        simp only [List.mem_cons, List.not_mem_nil, or_false] at h1
        rcases h1 with rfl | rfl | rfl | rfl | rfl <;> rfl
      rw [hb] at hlt'
      exact Nat.not_lt.mpr hnew hlt'
end JXC
