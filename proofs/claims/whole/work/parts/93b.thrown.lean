/-! what a `throw new NoSuchElementException(text)` of BusSeats comes to, without stack traces: the exception's own constructor calls its super by constant 13 -/
abbrev kx_C : String := "java/util/NoSuchElementException"
def kx_rx : ByteArray := ⟨#[42, 43, 183, 0, 13, 177]⟩
def kx_own (own : String) (ic : Nat) : List Cond := [.methodLink own ic (Bundle.initS kx_C), .instantiable kx_C 6, .selects kx_C Bundle.tFill0 Bundle.tFill0, .selects kx_C Bundle.tFill Bundle.tFill]
def kx_lay : List Cond := [.lays kx_C Bundle.tN "cause" "Ljava/lang/Throwable;", .lays kx_C Bundle.tN "stackTrace" Bundle.steD, .lays kx_C Bundle.tN "suppressedExceptions" Bundle.listD, .lays kx_C Bundle.tN "detailMessage" "Ljava/lang/String;", .lays kx_C Bundle.tN "backtrace" "Ljava/lang/Object;", .lays Bundle.tN Bundle.tN "backtrace" "Ljava/lang/Object;", .fieldLink Bundle.tN 198 Bundle.tN "backtrace" "Ljava/lang/Object;"]
def kx_st : List Cond := [.isRef (.static Bundle.tN "UNASSIGNED_STACK" Bundle.steD), .isRef (.static Bundle.tN "SUPPRESSED_SENTINEL" Bundle.listD)]
def kx_up : List Cond := Bundle.passSAtoms kx_C "java/lang/RuntimeException" 13 kx_rx
def kx_sup : List Cond := Bundle.chainSAtoms "java/lang/RuntimeException" ["java/lang/Exception"]
def kx_all (own : String) (ic : Nat) : List Cond := kx_own own ic ++ (kx_lay ++ (kx_st ++ (kx_up ++ (kx_sup ++ (Bundle.throwableAtoms ++ Bundle.throwableSAtoms)))))
def kx_w (own : String) (ic : Nat) : List Cond := (kx_all own ic).filter vx_no
theorem kx_i1 {own : String} {ic : Nat} {w : Cond} (h : w ∈ kx_own own ic) : w ∈ kx_all own ic := List.mem_append.mpr (Or.inl h)
theorem kx_i2 {own : String} {ic : Nat} {w : Cond} (h : w ∈ kx_lay) : w ∈ kx_all own ic := List.mem_append.mpr (Or.inr (List.mem_append.mpr (Or.inl h)))
theorem kx_i3 {own : String} {ic : Nat} {w : Cond} (h : w ∈ kx_st) : w ∈ kx_all own ic := List.mem_append.mpr (Or.inr (List.mem_append.mpr (Or.inr (List.mem_append.mpr (Or.inl h)))))
theorem kx_i4 {own : String} {ic : Nat} {w : Cond} (h : w ∈ kx_up) : w ∈ kx_all own ic := List.mem_append.mpr (Or.inr (List.mem_append.mpr (Or.inr (List.mem_append.mpr (Or.inr (List.mem_append.mpr (Or.inl h)))))))
theorem kx_i5 {own : String} {ic : Nat} {w : Cond} (h : w ∈ kx_sup) : w ∈ kx_all own ic := List.mem_append.mpr (Or.inr (List.mem_append.mpr (Or.inr (List.mem_append.mpr (Or.inr (List.mem_append.mpr (Or.inr (List.mem_append.mpr (Or.inl h)))))))))
theorem kx_i6 {own : String} {ic : Nat} {w : Cond} (h : w ∈ Bundle.throwableAtoms) : w ∈ kx_all own ic := List.mem_append.mpr (Or.inr (List.mem_append.mpr (Or.inr (List.mem_append.mpr (Or.inr (List.mem_append.mpr (Or.inr (List.mem_append.mpr (Or.inr (List.mem_append.mpr (Or.inl h)))))))))))
theorem kx_i7 {own : String} {ic : Nat} {w : Cond} (h : w ∈ Bundle.throwableSAtoms) : w ∈ kx_all own ic := List.mem_append.mpr (Or.inr (List.mem_append.mpr (Or.inr (List.mem_append.mpr (Or.inr (List.mem_append.mpr (Or.inr (List.mem_append.mpr (Or.inr (List.mem_append.mpr (Or.inr h)))))))))))
/-- the three constructors above Throwable's -/
theorem kx_chain {args : Array Value} {s : State} {pl : Platform} (hpl : pl.magicAccessors = ({} : Platform).magicAccessors) {top : MethodId} (ht : s.methodNamed? (Bundle.initS Bundle.tN) = some top)
    (h1 : ∀ w ∈ kx_up, w.before args s = true) (h2 : ∀ w ∈ kx_sup, w.before args s = true) :
    ∃ (P : PassC) (Ps : List PassC), Ps.length = 2 ∧ (∀ Q, Q ∈ P :: Ps → Q.LinksS pl s) ∧ s.methodNamed? (Bundle.initS kx_C) = some P.m ∧ PassesOn top ((P :: Ps).map (·.toPassT)) := by
  obtain ⟨Q1, Qs, n1, k1, k2, k3, k4, k5⟩ := Bundle.chainS (args := args) hpl ht ["java/lang/Exception"] "java/lang/RuntimeException" (by decide +kernel) (by decide +kernel) h2
  obtain ⟨P, j1, j2, j3⟩ := PassC.ofS_atoms (args := args) hpl (X := kx_C) (Y := "java/lang/RuntimeException") (index := 13) (bytes := kx_rx) (by decide +kernel) (by decide) (by decide +kernel) (by decide +kernel) (by decide +kernel) (by decide +kernel) h1
  refine ⟨P, Q1 :: Qs, by rw [List.length_cons, n1]; rfl, fun Q hQ => ?_, j2, Option.some.inj (j3.symm.trans k3), k4, k5⟩
  cases hQ with
  | head => exact j1
  | tail _ hQ =>
    cases hQ with
    | head => exact k1
    | tail _ hQ => exact k2 Q hQ
section KXA
variable {p : Program} {l : Launch} {e : Env} {R : Room} {s : State} {m₀ : MethodId} {args : Array Value} {below : List Frame} {meth : Method} {c : Code} {T : State} {locs : List Loc} {cells slots : Nat}
set_option maxHeartbeats 1000000 in
/-- constructor and throw, from the invokespecial on: a new cell of the class is thrown -/
theorem kx_thrown (X : Stand p l e R s m₀ args below meth c T locs cells slots) (hexec : p.tables.exec = Jvm.exec) (htr : e.platform.stackTraces = false) {own : String} {ic : Nat}
    (hown : s.vm.findClass own = some m₀.cls) (h : ∀ w ∈ kx_all own ic, w.before args s = true) (hlocs : locs = [])
    {a : Addr} {cX : ClassId} {kX : Class} (hf : s.vm.findClass kx_C = some cX) (hk : s.vm.classes[cX]? = some kX) (hcell : T.heap[a]? = some (freshCell cX kX)) (hnew : s.heap.size ≤ a)
    {msg : Value} (hmsg : msg.isRef = true) {g : JFrame} (hg : g.method = m₀) (hsize : g.locals.size = c.maxLocals) (hlk : g.locked = none) (hen : g.entered = []) {rest : List Value} (hst : g.stack = msg :: .ref a :: .ref a :: rest)
    (hd1 : decode c.code g.pc = .ok (.invokespecial ic, 3)) (hd2 : decode c.code (g.pc + 3) = .ok (.athrow, 1)) (hout : ∀ x ∈ c.exceptionTable.toList, covers x (g.pc + 3) = false)
    (hRf : 5 < R.frames) (hRl : 2 * g.monitorRoom + ((Value.ref a :: rest).map fun v => v.category).sum + 81 ≤ R.locals) (hlocks : meth.locks = false) :
    ∃ U : State, Steps p.tables e below (T.setTop g) U ∧ U.status = .running ∧ Ended U below (.threw a) ∧ s.WarmedH U.vm ∧ s.sameButNew ({ U with vm := s.vm } : State) locs cells slots ∧ ∃ ce : Cell, U.heap[a]? = some ce ∧ ce.vm = .none ∧ s.vm.findClass kx_C = some ce.cls := by
  subst hlocs
  have hpl : e.platform.magicAccessors = ({} : Platform).magicAccessors := by rw [X.admits.platform]
  obtain ⟨V, V0, L, -, Y⟩ := ThrowableC.of_atoms (args := args) (by rw [X.admits.platform]) (by rw [X.admits.platform]) hpl (fun w hw => h w (kx_i6 hw))
  obtain ⟨Z, M, LZ, LM, hnZ⟩ := Init0T.ofS_atoms (args := args) hpl L Y (fun w hw => h w (kx_i7 hw))
  obtain ⟨P, Ps, hlen, hL, hPm, hpass⟩ := kx_chain (args := args) hpl hnZ (fun w hw => h w (kx_i4 hw)) (fun w hw => h w (kx_i5 hw))
  have hc : s.vm.findClass kx_C = some P.m.cls := findClass_of_methodNamed hPm
  have hcc : cX = P.m.cls := Option.some.inj (hf.symm.trans hc)
  subst hcc
  -- the class itself
  obtain ⟨c1, k1, q1, q2, hord, -, -, -⟩ := Cond.instantiable_spec (h (.instantiable kx_C 6) (kx_i1 (by simp [kx_own])))
  have hc1 : c1 = P.m.cls := Option.some.inj (q1.symm.trans hc)
  subst hc1
  have hk1 : k1 = kX := Option.some.inj (q2.symm.trans hk)
  subst hk1
  have s0 : selectMethod e.platform s.vm P.m.cls V.fill0 = .method V.fill0 := by
    obtain ⟨c2, r2, m2, u1, u2, u3, u4, -⟩ := Cond.selects_spec (h (.selects kx_C Bundle.tFill0 Bundle.tFill0) (kx_i1 (by simp [kx_own])))
    have v1 : c2 = P.m.cls := Option.some.inj (u1.symm.trans hc)
    have v2 := Option.some.inj (u2.symm.trans (State.methodFound?_of_named Y.fill0 (by decide)))
    have v3 := Option.some.inj (u3.symm.trans Y.fill0)
    subst v1; subst v2; subst v3
    exact (Launch.admits_selectMethod X.admits ..).trans u4
  have s1 : selectMethod e.platform s.vm P.m.cls V.fill = .method V.fill := by
    obtain ⟨c2, r2, m2, u1, u2, u3, u4, -⟩ := Cond.selects_spec (h (.selects kx_C Bundle.tFill Bundle.tFill) (kx_i1 (by simp [kx_own])))
    have v1 : c2 = P.m.cls := Option.some.inj (u1.symm.trans hc)
    have v2 := Option.some.inj (u2.symm.trans (State.methodFound?_of_named Y.fill (by decide)))
    have v3 := Option.some.inj (u3.symm.trans Y.fill)
    subst v1; subst v2; subst v3
    exact (Launch.admits_selectMethod X.admits ..).trans u4
  -- its statics
  obtain ⟨z0, hz0, hzs⟩ := Y.statics
  obtain ⟨u0, hu0⟩ := Cond.staticRefV Y.unassigned L.unassignedStatic L.statics hz0 hzs (h _ (kx_i3 (by simp [kx_st])))
  obtain ⟨u1, hu1⟩ := Cond.staticRefV Y.sentinel L.sentinelStatic L.statics hz0 hzs (h _ (kx_i3 (by simp [kx_st])))
  obtain ⟨z1, hz1, hze, -, hzk⟩ := X.same.2.2.2.2.2 V.aS z0 hz0
  have hz1 : T.heap[V.aS]? = some z1 := hz1
  have hzk : ∀ i, z1.slots[i]? = z0.slots[i]? := fun i => hzk i (fun hm => nomatch hm)
  have hzu : z1.vm ≠ .unknown := fun hu => by
    have h9 : z0.vm = .unknown := by rw [hze] at hu; exact hu
    rw [h9] at hzs
    cases hzs
  have hza : V.aS ≠ a := fun h9 => Nat.lt_irrefl _ (Nat.lt_of_lt_of_le (h9 ▸ (Array.getElem?_eq_some_iff.mp hz0).1) hnew)
  -- its fields
  obtain ⟨iM, fM⟩ := Y.msg
  obtain ⟨kC, dC, gC, nC⟩ := Cond.laysAt hc hk Y.cause (h (.lays kx_C Bundle.tN "cause" "Ljava/lang/Throwable;") (kx_i2 (by simp [kx_lay])))
  obtain ⟨kS, dS, gS, nS⟩ := Cond.laysAt hc hk Y.stack (h (.lays kx_C Bundle.tN "stackTrace" Bundle.steD) (kx_i2 (by simp [kx_lay])))
  obtain ⟨kP, dP, gP, nP⟩ := Cond.laysAt hc hk Y.supp (h (.lays kx_C Bundle.tN "suppressedExceptions" Bundle.listD) (kx_i2 (by simp [kx_lay])))
  obtain ⟨kM, -⟩ := Cond.laysAt hc hk fM (h (.lays kx_C Bundle.tN "detailMessage" "Ljava/lang/String;") (kx_i2 (by simp [kx_lay])))
  obtain ⟨b1, b2, fB, b3, b4, b5, b6, -, b7, b8, b9⟩ := Cond.ownField (t := .object "java/lang/Object") Y.found L.cls (by decide +kernel) (h (.fieldLink Bundle.tN 198 Bundle.tN "backtrace" "Ljava/lang/Object;") (kx_i2 (by simp [kx_lay]))) (h (.lays Bundle.tN Bundle.tN "backtrace" "Ljava/lang/Object;") (kx_i2 (by simp [kx_lay]))) e.platform hpl
  obtain ⟨kB, dB, gB, nB⟩ := Cond.laysAt hc hk b9 (h (.lays kx_C Bundle.tN "backtrace" "Ljava/lang/Object;") (kx_i2 (by simp [kx_lay])))
  have a1 := Cond.laysApart gB gC nB nC (by rw [b7, Y.causeName]; decide)
  have a2 := Cond.laysApart gB gS nB nS (by rw [b7, Y.stackName]; decide)
  have a3 := Cond.laysApart gB gP nB nP (by rw [b7, Y.suppName]; decide)
  have hnull : ((preparedCellV V.toThrowableT (freshCell P.m.cls k1) a u0 u1).withEntry T.cur).slots[fB.slot]? = some .null := by
    have h9 := fresh_default (c := P.m.cls) kB
    rw [b8] at h9
    simpa [preparedCellV, Cell.setSlot, Cell.withEntry, Array.getElem?_setIfInBounds, a1, a2, a3, a1.symm, a2.symm, a3.symm, defaultValue] using h9
  -- the call, the chain, the throw
  obtain ⟨tm, x1, x2, x3, vm1, hn, -, -, -, -, -, -, -, hw1, st1⟩ := Steps.initColdS (tb := p.tables) (e := e) (below := below) (s := s) (U := T) X.here hexec X.warmed hpl hown (t := Bundle.initS kx_C) rfl rfl (by decide)
    (h _ (kx_i1 (by simp [kx_own]))) (h _ (kx_i4 (by simp [kx_up, Bundle.passSAtoms]))) (bytes := kx_rx) (maxL := 2) (h _ (kx_i4 (by simp [kx_up, Bundle.passSAtoms]))) (f := g) hg (a := a) (msg := msg) (rest := .ref a :: rest) hst hd1
  have htm : tm = P.m := Option.some.inj (hn.symm.trans hPm)
  subst htm
  obtain ⟨vm2, X2, st2⟩ := (X.noted hw1).ctorMessageOffV hexec (g := { g with stack := .ref a :: rest }) hg hsize V L Z LZ M LM (P :: Ps) hL hpass (u0 := u0) (sen := u1) (self := a) hmsg (cell := freshCell P.m.cls k1) (cellS := z1)
    hcell (fun _ => by simp) (by simp) rfl rfl s0 s1 hz1 hza hzu ((hzk _).trans hu0) ((hzk _).trans hu1)
    (Takes.of_laid hk hord kC (by rw [Y.causeType]; rfl)) (Takes.of_laid hk hord kS (by rw [Y.stackType]; exact fits_refV_array _ u0)) (Takes.of_laid hk hord kP (by rw [Y.suppType]; exact fits_refV_object _ u1))
    (Takes.of_laid hk hord kM (by rw [Y.msgType]; exact fits_refV_object _ ⟨msg, hmsg⟩)) Y.objLocals ⟨⟨b1, b2, fB⟩, ⟨b3, b4, b5, b6⟩, hnull, fun _ _ => rfl⟩ htr [] hd1
    (by rw [List.length_cons, hlen]; exact hRf) (by rw [List.length_cons, hlen]; exact hRl)
  obtain ⟨w1, w2, w3, w4, w5⟩ := X2.athrowLeaves hexec (g := { g with stack := .ref a :: rest, pc := g.pc + 3 }) hg hlk hen hout (a := a) (rest := rest) rfl hd2 hlocks
  refine ⟨_, st1 _ (fun acts => by rw [doInvoke_state]; exact st2 _ w1), w2, w3, w4, w5.weaken (fun y hy hlt => ?_) (Nat.le_refl _) (Nat.le_refl _), _, heapAt_setCell_self (s := (T.setVm vm1).setVm vm2) (plainBareV V.toThrowableT (freshCell P.m.cls k1) a u0 u1 msg) (Array.getElem?_eq_some_iff.mp hcell).1, rfl, hc⟩
  exfalso
  have hb : y.base = a := by
    simp only [List.nil_append, List.mem_cons, List.not_mem_nil, or_false] at hy
    rcases hy with rfl | rfl | rfl | rfl | rfl <;> rfl
  rw [hb] at hlt
  exact Nat.not_lt.mpr hnew hlt
end KXA
section KXC
variable {p : Program} {l : Launch} {e : Env} {R : Room} {s : State} {m : MethodId} {args : Array Value} {below : List Frame} {meth : Method} {c : Code} {H : Heap} {locs : List Loc} {cells slots : Nat} {Q : State → Prop} {pc : Nat} {ls : Array Slot} {rest : List Value}
/-- the search through a table of one row that catches, the row's class linked or not yet -/
theorem kx_search {S : State} {f : JFrame} {a : Addr} {x : ExceptionTableEntry} {cT : ClassId} {ce : Cell} {k1 k2 : Class} (hm : S.vm.method? f.method = some meth) (hc : meth.code = some c) (hone : c.exceptionTable.toList = [x]) (hcov : covers x f.pc = true) (h0 : x.catchType ≠ 0)
    (hl : S.vm.ClassLinks e.platform f.method.cls x.catchType cT) (hcell : S.heap[a]? = some ce) (hv : ce.vm = .none) (h1 : (S.vm.noted f.method.cls x.catchType (.cls cT)).classes[ce.cls]? = some k1) (h2 : (S.vm.noted f.method.cls x.catchType (.cls cT)).classes[cT]? = some k2) (hfit : (S.vm.noted f.method.cls x.catchType (.cls cT)).assignable ce.cls cT = true)
    (Q : Handler → Pre) (E : CtlPost) (d : Bool) (acts : List Action) : wp (findHandler f a) Q E e d acts S ↔ Q (.found x.handlerPc) d acts (S.setVm (S.vm.noted f.method.cls x.catchType (.cls cT))) := by
  have hob : ∀ k, ce.vm ≠ .statics k := fun k hk => by rw [hv] at hk; cases hk
  obtain ⟨g1, g2⟩ := (resolveClass_links e.toSetting hl).op (op := VmOp.resolveClass f.method.cls x.catchType) rfl
  simp only [covers] at hcov
  rw [W.findHandler_eq hm hc, hone]
  simp [findHandler.go, hcov, h0, g1, g2, hcell, hob, h1, h2, hfit, VmOp.dirties, VmOp.acts]
theorem kx_catch {own name E : String} {ce : Cell} {q : Addr} (hown : s.vm.findClass own = some m.cls) (x : ExceptionTableEntry) (hone : c.exceptionTable.toList = [x]) (hcov : covers x pc = true) (h0 : x.catchType ≠ 0)
    (hlink : (Cond.classLink own x.catchType name).before args s = true) (hcast : (Cond.castable E name).before args s = true) (hcell : H[q]? = some ce) (hv : ce.vm = .none) (hcl : s.vm.findClass E = some ce.cls)
    (kk : W p l e R s m args below meth c H locs cells slots Q (F0 m x.handlerPc ls [.ref q])) : vx_W p l e R s m args below meth c H locs cells slots Q (F0 m pc ls rest) q := by
  intro T hT X
  obtain ⟨cE, cN, n1, n2, n3⟩ := Cond.castable_spec hcast
  obtain ⟨cT, n4, n5⟩ := Cond.classLink_spec hown hlink e.platform (by rw [X.admits.platform])
  have i1 : cE = ce.cls := Option.some.inj (n1.symm.trans hcl)
  have i2 : cN = cT := Option.some.inj (n2.symm.trans n4)
  subst i1; subst i2
  obtain ⟨_, _, _, _, hd, _, _, _, _, _, _, hopen⟩ := n5.here
  have hW' : s.WarmedH (T.vm.noted m.cls x.catchType (.cls cN)) := X.warmed.noted hd hopen (State.rightAt_cls n5)
  obtain ⟨kE, j1, -⟩ := Vm.findClass_spec hcl
  obtain ⟨kN, j2, -⟩ := Vm.findClass_spec n2
  obtain ⟨kE', j3, -⟩ := hW'.alike.2.2 _ _ j1
  obtain ⟨kN', j4, -⟩ := hW'.alike.2.2 _ _ j2
  obtain ⟨t, t1, t2⟩ := kk (T.setVm (T.vm.noted m.cls x.catchType (.cls cN))) hT (X.noted hW')
  refine ⟨t, ?_, t2⟩
  have hA : At T (F0 m pc ls rest).method c below := X.here
  obtain ⟨u1, u2⟩ := hA.throwing q
  refine Steps.head u1 u2 ?_
  obtain ⟨g0, v1⟩ := Option.isSome_iff_exists.mp X.here.top
  obtain ⟨r, v2⟩ := State.topJava?_eq_some.mp v1
  have v3 : (T.setVm (T.vm.noted m.cls x.catchType (.cls cN))).frames = .java g0 :: r := v2
  rw [State.setTop_of_frames _ v3] at t1
  have hq : ((T.setTop (F0 m pc ls rest)).pushFrame (.throwing q)).heap[q]? = some ce := by
    rw [Stand.throwing_heap, hT]; exact hcell
  have hs := kx_search (e := e) (S := (T.setTop (F0 m pc ls rest)).pushFrame (.throwing q)) (f := F0 m pc ls rest) (a := q) (x := x) (cT := cN) (ce := ce) (meth := meth) (c := c) (k1 := kE') (k2 := kN') X.method' X.code hone hcov h0 (X.warmed.classLinks n5) hq hv j3 j4 (by
    show (T.vm.noted m.cls x.catchType (.cls cN)).assignable ce.cls cN = true
    rw [hW'.alike.assignable]
    exact n3)
  rw [stepThread_throwing (frames_entered X.here.top _), v2, List.tail_cons]
  simp only [stepThrowing, searchFrame, vmDo]
  generalize hr : Sem.go _ e false [] _ = res
  obtain ⟨as, rfl, -⟩ := Sem.eq_ok_of hr (a := Handler.found x.handlerPc) (s' := ((T.setTop (F0 m pc ls rest)).pushFrame (.throwing q)).setVm (T.vm.noted m.cls x.catchType (.cls cN))) (acts' := []) (by simp [hs _ _ _ _]; rfl)
  have w : (((T.setTop (F0 m pc ls rest)).pushFrame (.throwing q)).setVm (T.vm.noted m.cls x.catchType (.cls cN))).setFrames (.java { F0 m pc ls rest with pc := x.handlerPc, stack := [.ref q] } :: r) = (T.setVm (T.vm.noted m.cls x.catchType (.cls cN))).setFrames (.java (F0 m x.handlerPc ls [.ref q]) :: r) := by
    rw [State.setTop_of_frames _ v2, State.pushFrame, State.setFrames_setFrames]
    show ((T.setVm (T.vm.noted m.cls x.catchType (.cls cN))).setFrames _).setFrames _ = _
    rw [State.setFrames_setFrames]
  exact Eq.mp (congrArg (fun z => Steps p.tables e below z t) w.symm) t1
end KXC
section KXB
variable {p : Program} {l : Launch} {e : Env} {R : Room} {s : State} {m : MethodId} {args : Array Value} {below : List Frame} {meth : Method} {c : Code} {H : Heap} {locs : List Loc} {cells slots : Nat} {Q : State → Prop}
variable {mc ms : Nat} {free : Addr → Prop} {A0 A1 : Nat → Prop} {H0 : Heap} {a : Array Value} {ls : Array Slot} {st0 rest : List Value}
variable {Qc : Array Value → State → Outcome → State → Prop} {XC : String → State → State → Prop}
theorem kx_throwSW {cc : ByteArray} {pc : Nat} (hexec : p.tables.exec = Jvm.exec) (hb : c.code = cc) (hl : l.stackTraces = false) {own text : String} {ik is ic mc ms sa : Nat} {A : Nat → Prop}
    (hown : s.vm.findClass own = some m.cls)
    (hk : (Cond.classLink own ik kx_C).before args s = true) (hini : (Cond.initialized kx_C).before args s = true) (hstr : vk_R own is text sa s) (hat : ∀ w ∈ kx_w own ic, w.before args s = true)
    (hgood : ∀ w ∈ Cond.classLink own ik kx_C :: Cond.initialized kx_C :: kx_w own ic, vx_ot w = true)
    (hU : vx_Zq Bundle.tN "UNASSIGNED_STACK" Bundle.steD A s s.heap) (hN : vx_Zq Bundle.tN "SUPPRESSED_SENTINEL" Bundle.listD A s s.heap) (hS : va_S A s.heap H locs) (hsize : ls.size = c.maxLocals)
    (d0 : decode cc pc = .ok (.new ik, 3)) (d3 : decode cc (pc + 3) = .ok (.dup, 1)) (d4 : decode cc (pc + 4) = .ok (.ldc_w is, 3)) (d7 : decode cc (pc + 7) = .ok (.invokespecial ic, 3)) (d10 : decode cc (pc + 10) = .ok (.athrow, 1))
    (hout : ∀ x ∈ c.exceptionTable.toList, covers x (pc + 10) = false)
    (hRframes : 5 < R.frames) (hRlocals : (rest.map fun v => v.category).sum + 82 ≤ R.locals) (hRcells : cells + 1 ≤ R.cells) (hRslots : slots + 6 ≤ R.slots) (hlocks : meth.locks = false)
    (hx : ∀ t : State, s.vm.Alike t.vm → H.size ≤ t.heap.size → (∀ q : Nat, q < H.size → t.heap[q]? = H[q]?) → XC kx_C s t)
    (hf : ∀ z ∈ locs, free z.base) (hc : cells + 1 ≤ mc) (hs : slots + 6 ≤ ms) :
    W p l e R s m args below meth c H locs cells slots (vx_MQ below Qc XC args s mc ms free) (F0 m pc ls rest) := by
  intro T hT X
  have htr : e.platform.stackTraces = false := (show e.platform.stackTraces = l.stackTraces by rw [X.admits.platform]).trans hl
  have Y := vx_rebase X (R' := { frames := R.frames, locals := R.locals, cells := 1, slots := 6 }) (Nat.le_refl _) (Nat.le_refl _) hRcells hRslots
  obtain ⟨s', hA⟩ : ∃ z, z = (T.setVm s.vm).setFrames (.invoking m args :: below) := ⟨_, rfl⟩
  rw [← hA] at Y
  have hvm : s'.vm = s.vm := by rw [hA]; rfl
  have hhp : s'.heap = H := by rw [hA]; exact hT
  have hW0 : s.WarmedH s'.vm := by rw [hvm]; exact State.WarmedH.refl s
  have hat' : ∀ w ∈ kx_w own ic, w.before args s' = true := fun w hw => vx_ot_at hW0 hvm.symm (hgood w (List.mem_cons_of_mem _ (List.mem_cons_of_mem _ hw))) (hat w hw)
  have hk' : (Cond.classLink own ik kx_C).before args s' = true := vx_ot_at hW0 hvm.symm (hgood _ List.mem_cons_self) hk
  have hini' : (Cond.initialized kx_C).before args s' = true := vx_ot_at hW0 hvm.symm (hgood _ (List.mem_cons_of_mem _ List.mem_cons_self)) hini
  have hU' : vx_Zq Bundle.tN "UNASSIGNED_STACK" Bundle.steD A s' s'.heap := by rw [hhp]; exact vx_Zq.moved hW0.alike (hU.kept hS.2.1)
  have hN' : vx_Zq Bundle.tN "SUPPRESSED_SENTINEL" Bundle.listD A s' s'.heap := by rw [hhp]; exact vx_Zq.moved hW0.alike (hN.kept hS.2.1)
  have h : ∀ w ∈ kx_all own ic, w.before args s' = true := vx_own hat' (vx_isRefq hU'.1) (vx_isRefq hN'.1) hU'.2.word hN'.2.word
  have hown' : s'.vm.findClass own = some m.cls := by rw [hvm]; exact hown
  have hins : (Cond.instantiable kx_C 6).before args s' = true := h _ (kx_i1 (by simp [kx_own]))
  obtain ⟨vm₁, cX, kX, hfX, hkX, -, -, X₁, st1⟩ := Y.newCold hexec (own := own) (C := kx_C) (index := ik) (n := 6) hown' hk' hins hini'
    (g := F0 m pc ls rest) rfl (by rw [hb]; exact d0) (Nat.le_refl _) (Nat.le_refl _)
  generalize hT1 : (T.setVm vm₁).pushCell { cls := cX, slots := kX.instanceTypes.map defaultValue, vm := .none } = T1 at X₁ st1
  have hcat : (Value.ref T.heap.size).category = 1 := rfl
  have hcellA : T1.heap[T.heap.size]? = some (freshCell cX kX) := by rw [← hT1]; exact State.heap_pushCell_size _ _
  have d3' : decode c.code (pc + 3) = .ok (.dup, 1) := by rw [hb]; exact d3
  have d4' : decode c.code (pc + 4) = .ok (.ldc_w is, 3) := by rw [hb]; exact d4
  have hstr' : vk_R own is text sa s' := vk_R.warm hW0 hstr
  obtain ⟨U, hsteps, hrun, hend, hW, hsame, ce, hce, hO1, hO2⟩ := kx_thrown X₁ hexec htr (own := own) (ic := ic) hown' h rfl hfX hkX hcellA (by rw [hhp, hT]; exact Nat.le_refl _) (msg := .ref sa) rfl
    (g := { method := m, pc := pc + 7, locals := ls, stack := .ref sa :: .ref T.heap.size :: .ref T.heap.size :: rest, locked := none }) rfl hsize rfl rfl (rest := rest) rfl
    (by rw [hb]; exact d7) (by rw [hb]; exact d10) hout hRframes (by simp only [List.map_cons, List.sum_cons, hcat]; omega) hlocks
  obtain ⟨f1, f2⟩ := vx_frame hsame
  rw [hhp] at f1 f2
  have hWs : s.WarmedH U.vm := State.WarmedH.trans hW0 hW
  have hcl : s.vm.findClass kx_C = some ce.cls := by
    have h9 := hO2
    rw [hvm] at h9
    exact h9
  have hall : s.sameButNew ({ U with vm := s.vm } : State) locs mc ms := by
    subst hA
    obtain ⟨e1, e2⟩ := hsame
    rw [State.setFrames_setFrames] at e1
    have h2 : (T.setVm s.vm).sameButNew ({ U with vm := s.vm } : State) [] (0 + 1) (0 + 6) := ⟨e1, e2⟩
    have h3 := X.same.trans h2
    rw [List.append_nil] at h3
    exact h3.mono hc hs
  refine ⟨U, ?_, .threw T.heap.size, hrun, hend, Or.inr ⟨T.heap.size, rfl, kx_C, ce, locs, hx U hWs.alike f1 (fun q hq => f2 q hq (fun z hz => nomatch hz)), hce, hO1, hcl, hWs, hall, hf⟩⟩
  refine st1 _ ?_
  show Steps p.tables e below (T1.setTop { method := m, pc := pc + 3, locals := ls, stack := .ref T.heap.size :: rest, locked := none }) _
  jvm_step X₁.here [X₁.here.top, hexec, d3', Value.category]
  exact X₁.ldcStringW hexec (own := own) (text := text) (index := is) (a := sa) hown' hstr'.1 hstr'.2
    (g := { method := m, pc := pc + 4, locals := ls, stack := .ref T.heap.size :: .ref T.heap.size :: rest, locked := none }) rfl d4' _ hsteps
end KXB
