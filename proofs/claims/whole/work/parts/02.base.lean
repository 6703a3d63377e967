/-! ===== base: what the tables say, carried along; contracts; calls ===== -/
def kb_isNest : Cond → Bool
  | .fieldLinkNest .. => true
  | .methodLinkNest .. => true
  | _ => false
def kb_gw : List Cond := lw_tbl.filter goodWord
def kb_nw : List Cond := lw_tbl.filter kb_isNest
/-- the tables' words at a state -/
def kb_ao : List String := ["BusSeats$Ride", "BusSeats$Rider", "BusSeats$Rule"]
def kb_T (U : State) : Prop := (∀ w ∈ kb_gw, ∀ a : Array Value, w.before a U = true) ∧ (∀ w ∈ kb_nw, va_Nw w U) ∧ ∀ C ∈ kb_ao, va_AO C U
theorem kb_T.warm {s U : State} (hW : s.WarmedH U.vm) (h : kb_T s) : kb_T U := by
  refine ⟨fun w hw a => ?_, fun w hw => ?_, fun C hC => (h.2.2 C hC).moved hW.alike⟩
  · exact word_at hW (good_of_word (List.mem_filter.mp hw).2) (h.1 w hw #[])
  · have h2 := (List.mem_filter.mp hw).2
    have h3 := h.2.1 w hw
    cases w <;> first | (simp [kb_isNest] at h2; done) | exact va_Nw.warmF hW h3 | exact va_Nw.warmM hW h3
theorem kb_T.w {s : State} (h : kb_T s) {w : Cond} (hw : w ∈ lw_tbl) (hg : goodWord w = true) (a : Array Value) : w.before a s = true := h.1 w (List.mem_filter.mpr ⟨hw, hg⟩) a
theorem kb_T.n {s : State} (h : kb_T s) {w : Cond} (hw : w ∈ lw_tbl) (hg : kb_isNest w = true) : va_Nw w s := h.2.1 w (List.mem_filter.mpr ⟨hw, hg⟩)
theorem kb_T.nb {s : State} (h : kb_T s) {w : Cond} (hw : w ∈ lw_tbl) (hg : kb_isNest w = true) (ht : w.onTables = true) (a : Array Value) : w.before a s = true := va_Nw.use ht (h.n hw hg)
abbrev kb_tys (dA : Nat → ClassId) : List (ClassId × FieldType) := [(dA 0, .int), (dA 1, .byte), (dA 2, .long), (dA 3, .boolean), (dA 4, .object "BusSeats$Ride"), (dA 5, .object "BusSeats$Rider"), (dA 6, .object "BusSeats$Rule")]
def kb_K (D : va_G) (dA : Nat → ClassId) (U : State) : Prop := va_K D vwCl (kb_tys dA) U ∧ kb_T U
theorem kb_K.warm {D : va_G} {dA : Nat → ClassId} {s U : State} (hW : s.WarmedH U.vm) (h : kb_K D dA s) : kb_K D dA U := ⟨va_K.moved hW.alike h.1, h.2.warm hW⟩
theorem kb_K.calling {D : va_G} {dA : Nat → ClassId} {U : State} (g : JFrame) (mk : MethodId) (a : Array Value) (h : kb_K D dA U) : kb_K D dA (U.calling g mk a) := h.warm (State.WarmedH.refl U)
/-- the String constants and String's own static, outside of what may change -/
def kb_E (dA : Nat → ClassId) (A : Nat → Prop) (U : State) (H : Heap) : Prop := vk_S kb_N kb_len kb_byt (fun i => dA (100 + i)) (fun i => dA (200 + i)) A U H ∧ va_Z "java/lang/String" "COMPACT_STRINGS" "Z" (.int 1) A U H ∧ va_Zq "jdk/internal/util/Preconditions" "SIOOBE_FORMATTER" "Ljava/util/function/BiFunction;" A U H ∧ ∀ q ∈ kb_sr, vk_R q.1 q.2.1 q.2.2.1 (dA (100 + q.2.2.2)) U
theorem kb_E.to {dA : Nat → ClassId} {A0 A1 : Nat → Prop} {s U : State} {H0 H : Heap} (h : kb_E dA A0 s H0) (hk : ∀ a : Nat, a < H0.size → ¬ A0 a → H[a]? = H0[a]?) (hA : ∀ q, A1 q → A0 q) (hW : s.WarmedH U.vm) : kb_E dA A1 U H := ⟨((h.1.kept hk).narrow hA).moved hW.alike, ((h.2.1.kept hk).narrow hA).moved hW.alike, ((h.2.2.1.kept hk).narrow hA).moved hW.alike, fun q hq => (h.2.2.2 q hq).warm hW⟩
def kb_pre (D : va_G) (dA : Nat → ClassId) (av : List Value) (sz : Nat) (ws : va_W) : Array Value → State → Prop := va_Pc av (fun U => U.heap.size = sz ∧ va_P D vwCl ws U.heap ∧ kb_K D dA U ∧ va_D (fun _ => True) ws ∧ kb_E dA (va_A ws sz) U U.heap)
theorem kb_blind {D : va_G} {dA : Nat → ClassId} {av : List Value} {sz : Nat} {ws : va_W} : FrameBlind (kb_pre D dA av sz ws) := fun a U g mk q => ⟨q.1, q.2.1, q.2.2.1, q.2.2.2.1.calling g mk a, q.2.2.2.2.1, q.2.2.2.2.2.to (fun _ _ _ => rfl) (fun _ h => h) (State.WarmedH.refl U)⟩
def kb_B (D : va_G) (A : Nat → Prop) (ws : va_W) : Unit → State → Prop := fun _ t => va_P D vwCl ws t.heap ∧ va_D A ws
/-- contracts: any heap that holds ws; the answer is rv; the heap holds ws' behind it -/
abbrev kb_Mi (l : Launch) (y : MethodName) (cc : ByteArray) (n : Nat) (ret : Option FieldType) (rm : Room) (D : va_G) (dA : Nat → ClassId) (av : List Value) (sz : Nat) (ws : va_W) (mc ms : Nat) (rv : Int32) (ws' : va_W) : Prop := Met l y [.code y cc n ret] rm (kb_pre D dA av sz ws) (va_Qi (fun r (_ : Unit) => r = rv) (kb_B D (va_A ws sz) ws') (va_A ws sz)) mc ms (va_A ws sz)
abbrev kb_Ml (l : Launch) (y : MethodName) (cc : ByteArray) (n : Nat) (ret : Option FieldType) (rm : Room) (D : va_G) (dA : Nat → ClassId) (av : List Value) (sz : Nat) (ws : va_W) (mc ms : Nat) (rv : Int64) (ws' : va_W) : Prop := Met l y [.code y cc n ret] rm (kb_pre D dA av sz ws) (va_Ql (fun r (_ : Unit) => r = rv) (kb_B D (va_A ws sz) ws') (va_A ws sz)) mc ms (va_A ws sz)
abbrev kb_Mv (l : Launch) (y : MethodName) (cc : ByteArray) (n : Nat) (ret : Option FieldType) (rm : Room) (D : va_G) (dA : Nat → ClassId) (av : List Value) (sz : Nat) (ws : va_W) (mc ms : Nat) (ws' : va_W) : Prop := Met l y [.code y cc n ret] rm (kb_pre D dA av sz ws) (va_Qv (fun (_ : Unit) => True) (kb_B D (va_A ws sz) ws') (va_A ws sz)) mc ms (va_A ws sz)
theorem kb_good {y : MethodName} {cc : ByteArray} {n : Nat} {ret : Option FieldType} (h : Cond.code y cc n ret ∈ lw_tbl) : GoodIn kb_gw [Cond.code y cc n ret] := fun w hw => by
  have e : w = Cond.code y cc n ret := List.mem_singleton.mp hw
  subst e
  exact ⟨List.mem_filter.mpr ⟨h, rfl⟩, Or.inl rfl⟩
theorem kb_wr {ws : va_W} : ∀ {isR : List Nat}, isR.all (fun i => decide (i < ws.length)) = true → isR.map (fun i => ws[i]?) = (isR.filterMap (fun i => ws[i]?)).map some
  | [], _ => rfl
  | i :: l, h => by
    simp only [List.all_cons, Bool.and_eq_true, decide_eq_true_eq] at h
    have e : ws[i]? = some ws[i] := List.getElem?_eq_getElem h.1
    rw [List.map_cons, List.filterMap_cons_some e, List.map_cons, ← kb_wr h.2, e]
section KB
variable {p : Program} {l : Launch} {e : Env} {R : Room} {s : State} {m : MethodId} {args : Array Value} {below : List Frame} {meth : Method} {c : Code} {H : Heap} {locs : List Loc} {cells slots : Nat} {Q : State → Prop}
variable {pc : Nat} {ls : Array Slot} {rest st0 : List Value} {A0 : Nat → Prop} {H0 : Heap} {mc ms : Nat} {D : va_G} {dA : Nat → ClassId} {y : MethodName} {bytes cc : ByteArray} {maxL nL n index : Nat} {ret : Option FieldType} {rm : Room} {own C : String} {b : Addr} {As : List Value} {ws wc wr w1 ws2 : va_W}
/-- what a method's world is behind a call: the rest of it unchanged, in its old order -/
theorem kb_back {H1 : Heap} (hP : va_P D vwCl ws H) (hD : va_D A0 ws) (isC isR perm : List Nat) (hC : isC.map (fun i => ws[i]?) = wc.map some) (hRr : isR.all (fun i => decide (i < ws.length)) = true) (hn : va_nd isR = true) (hdis : ∀ i ∈ isR, i ∉ isC) (hq : perm.map (fun i => (isR.filterMap (fun i => ws[i]?) ++ w1)[i]?) = ws2.map some) (hnp : va_nd perm = true)
    (hk : ∀ q : Nat, q < H.size → ¬ va_A wc H.size q → H1[q]? = H[q]?) (hF : ∀ q, va_A wc H.size q → A0 q) (hP1 : va_P D vwCl w1 H1) (hD1 : va_D (va_A wc H.size) w1) : va_P D vwCl ws2 H1 ∧ va_D A0 ws2 := by
  obtain ⟨a, b⟩ := va_join hP hD isC isR hC (kb_wr hRr) hn hdis hk hF hP1 hD1
  refine ⟨?_, b.sub perm hnp hq⟩
  intro k q h
  have h1 : (perm.map (fun i => (isR.filterMap (fun i => ws[i]?) ++ w1)[i]?))[k]? = some (some q) := by rw [hq, List.getElem?_map, h]; rfl
  rw [List.getElem?_map] at h1
  cases hi : perm[k]? with
  | none => rw [hi] at h1; cases h1
  | some i => rw [hi] at h1; exact a i q (Option.some.inj h1)
theorem kb_in (hP : va_P D vwCl ws H) (isC : List Nat) (hC : isC.map (fun i => ws[i]?) = wc.map some) : va_P D vwCl wc H := by
  intro k q h
  have h1 : (isC.map (fun i => ws[i]?))[k]? = some (some q) := by rw [hC, List.getElem?_map, h]; rfl
  rw [List.getElem?_map] at h1
  cases hi : isC[k]? with
  | none => rw [hi] at h1; cases h1
  | some i => rw [hi] at h1; exact hP i q (Option.some.inj h1)
/-- the words and the room of a call of a virtual method, of a static one, of a nest mate's -/
def kb_wV (own : String) (index : Nat) (C : String) (y : MethodName) (bytes : ByteArray) (maxL : Nat) (ret : Option FieldType) : Prop := Cond.code y bytes maxL ret ∈ lw_tbl ∧ Cond.methodLink own index y ∈ lw_tbl ∧ Cond.instanceMethod y ∈ lw_tbl ∧ Cond.selects C y y ∈ lw_tbl ∧ Cond.initialized C ∈ lw_tbl ∧ y.cls = C ∧ y.cls ≠ "java/lang/invoke/MethodHandle" ∧ y.cls ≠ "java/lang/invoke/VarHandle"
def kb_wS (own : String) (index : Nat) (y : MethodName) (bytes : ByteArray) (maxL : Nat) (ret : Option FieldType) : Prop := Cond.code y bytes maxL ret ∈ lw_tbl ∧ Cond.methodLink own index y ∈ lw_tbl ∧ Cond.static y ∈ lw_tbl ∧ Cond.initialized y.cls ∈ lw_tbl ∧ y.cls ≠ "java/lang/invoke/MethodHandle" ∧ y.cls ≠ "java/lang/invoke/VarHandle"
def kb_wSN (own : String) (index : Nat) (y : MethodName) (host : String) (bytes : ByteArray) (maxL : Nat) (ret : Option FieldType) : Prop := Cond.code y bytes maxL ret ∈ lw_tbl ∧ Cond.methodLinkNest own index y host ∈ lw_tbl ∧ Cond.static y ∈ lw_tbl ∧ Cond.initialized y.cls ∈ lw_tbl ∧ y.cls ≠ "java/lang/invoke/MethodHandle" ∧ y.cls ≠ "java/lang/invoke/VarHandle"
theorem kb_cwV (hT : kb_T s) (h : kb_wV own index C y bytes maxL ret) (hrc : rm.cells = mc) (hrs : rm.slots = ms) (hn : (parseMethodDescriptor y.desc).map (fun d => d.parameters.length) = some n) (hR : rm.frames + 1 ≤ R.frames ∧ 8 + (maxL + 11) + rm.locals ≤ R.locals) : CallW R s args own C index y bytes maxL ret [.code y bytes maxL ret] rm mc ms n := by
  obtain ⟨h1, h2, h3, h4, h5, h6, h7, h8⟩ := h
  subst h6
  exact ⟨callB_of n (fun w hw => hT.1 w hw args) (kb_good h1) rfl hrc hrs (hT.w h5 rfl args) (hT.w h2 rfl args) ⟨h7, h8, hn⟩ hR, hT.w h3 rfl args, hT.w h4 rfl args⟩
theorem kb_cwS (hT : kb_T s) (h : kb_wS own index y bytes maxL ret) (hrc : rm.cells = mc) (hrs : rm.slots = ms) (hn : (parseMethodDescriptor y.desc).map (fun d => d.parameters.length) = some n) (hR : rm.frames + 1 ≤ R.frames ∧ 8 + (maxL + 11) + rm.locals ≤ R.locals) : CallB R s args own index y bytes maxL ret [.code y bytes maxL ret] rm mc ms n ∧ (Cond.static y).before args s = true := by
  obtain ⟨h1, h2, h3, h5, h7, h8⟩ := h
  exact ⟨callB_of n (fun w hw => hT.1 w hw args) (kb_good h1) rfl hrc hrs (hT.w h5 rfl args) (hT.w h2 rfl args) ⟨h7, h8, hn⟩ hR, hT.w h3 rfl args⟩
theorem kb_cwSN {host : String} (hT : kb_T s) (h : kb_wSN own index y host bytes maxL ret) (hrc : rm.cells = mc) (hrs : rm.slots = ms) (hn : (parseMethodDescriptor y.desc).map (fun d => d.parameters.length) = some n) (hR : rm.frames + 1 ≤ R.frames ∧ 8 + (maxL + 11) + rm.locals ≤ R.locals) : va_CN R s args own index y host bytes maxL ret [.code y bytes maxL ret] rm mc ms n ∧ (Cond.static y).before args s = true := by
  obtain ⟨h1, h2, h3, h5, h7, h8⟩ := h
  exact ⟨va_cnB n (fun w hw => hT.1 w hw args) (kb_good h1) rfl hrc hrs (hT.n h2 rfl) (hT.w h5 rfl args) ⟨h7, h8, hn⟩ hR, hT.w h3 rfl args⟩
end KB
section KC
variable {p : Program} {l : Launch} {e : Env} {R : Room} {s : State} {m : MethodId} {args : Array Value} {below : List Frame} {meth : Method} {c : Code} {H : Heap} {locs : List Loc} {cells slots : Nat} {Q : State → Prop}
variable {pc : Nat} {ls : Array Slot} {rest st0 : List Value} {A0 : Nat → Prop} {H0 : Heap} {mc ms : Nat} {D : va_G} {dA : Nat → ClassId} {y : MethodName} {bytes cc : ByteArray} {maxL nL n index : Nat} {ret : Option FieldType} {rm : Room} {own C : String} {b : Addr} {As : List Value} {ws wc wr w1 ws2 : va_W} {Qc : Array Value → State → Outcome → State → Prop} {free : Addr → Prop} {a : Array Value}
theorem kb_rV (hx : p.tables.exec = Jvm.exec) (hb : c.code = cc) (hml : c.maxLocals = nL) (hown : s.vm.findClass own = some m.cls) (hK : kb_K D dA s) (hM : Met l y [.code y bytes maxL ret] rm (kb_pre D dA (.ref b :: As) H.size wc) Qc mc ms free) (hw : kb_wV own index C y bytes maxL ret) (hrc : rm.cells = mc) (hrs : rm.slots = ms) (hn : (parseMethodDescriptor y.desc).map (fun d => d.parameters.length) = some n) (hR : rm.frames + 1 ≤ R.frames ∧ 8 + (maxL + 11) + rm.locals ≤ R.locals)
    (hP : va_P D vwCl ws H) (hD : va_D A0 ws) (hS : va_S A0 s.heap H locs) (hA : ∀ q, s.heap.size ≤ q → A0 q) (hE : kb_E dA A0 s s.heap) (isC : List Nat) (hC : isC.map (fun i => ws[i]?) = wc.map some) (hn2 : va_nd isC = true) {T : u_T} {N ci : Nat} {fs : List Value} (q0 : Nat) (hcl : vwCl[ci]? = some (C, T, N)) (he : wc[q0]? = some (b, .inr (ci, fs))) (hlen : As.length = n) (hsize : ls.size = nL) (hst : st0 = As.reverse ++ .ref b :: rest) (hW8 : (rest.map fun v => v.category).sum ≤ 8) (hdg : decode cc pc = .ok (.invokevirtual index, 3)) (hf : cells + mc ≤ R.cells ∧ slots + ms ≤ R.slots) :
    va_Run p l e R s m args below meth c H locs cells slots mc ms (F0 m pc ls st0) rest (Qc (Value.ref b :: As).toArray) free :=
  va_runV (Ts := kb_gw) ⟨hx, hb, hml, hown, fun w hw => hK.2.1 w hw args⟩ hM (kb_cwV hK.2 hw hrc hrs hn hR) ⟨kb_blind, va_recv hK.1 (kb_in hP isC hC) hcl he, fun U hU hW => ⟨rfl, by rw [hU], by rw [hU]; exact kb_in hP isC hC, hK.warm hW, (hD.sub isC hn2 hC).weaken (fun _ _ _ _ => trivial), by rw [hU]; exact hE.to hS.2.1 (va_free hD hS hA isC hC) hW⟩⟩ rfl hlen hsize hst (lv_room (m := m) (pc := pc) (ls := ls) (rest := st0) hW8) hdg hf
theorem kb_rS (hx : p.tables.exec = Jvm.exec) (hb : c.code = cc) (hml : c.maxLocals = nL) (hown : s.vm.findClass own = some m.cls) (hK : kb_K D dA s) (hM : Met l y [.code y bytes maxL ret] rm (kb_pre D dA As H.size wc) Qc mc ms free) (hw : kb_wS own index y bytes maxL ret) (hrc : rm.cells = mc) (hrs : rm.slots = ms) (hn : (parseMethodDescriptor y.desc).map (fun d => d.parameters.length) = some n) (hR : rm.frames + 1 ≤ R.frames ∧ 8 + (maxL + 11) + rm.locals ≤ R.locals)
    (hP : va_P D vwCl ws H) (hD : va_D A0 ws) (hS : va_S A0 s.heap H locs) (hA : ∀ q, s.heap.size ≤ q → A0 q) (hE : kb_E dA A0 s s.heap) (isC : List Nat) (hC : isC.map (fun i => ws[i]?) = wc.map some) (hn2 : va_nd isC = true) (hlen : As.length = n) (hsize : ls.size = nL) (hst : st0 = As.reverse ++ rest) (hW8 : (rest.map fun v => v.category).sum ≤ 8) (hdg : decode cc pc = .ok (.invokestatic index, 3)) (hf : cells + mc ≤ R.cells ∧ slots + ms ≤ R.slots) :
    va_Run p l e R s m args below meth c H locs cells slots mc ms (F0 m pc ls st0) rest (Qc As.toArray) free :=
  va_runS (Ts := kb_gw) ⟨hx, hb, hml, hown, fun w hw => hK.2.1 w hw args⟩ hM (kb_cwS hK.2 hw hrc hrs hn hR) ⟨kb_blind, fun U hU hW => ⟨rfl, by rw [hU], by rw [hU]; exact kb_in hP isC hC, hK.warm hW, (hD.sub isC hn2 hC).weaken (fun _ _ _ _ => trivial), by rw [hU]; exact hE.to hS.2.1 (va_free hD hS hA isC hC) hW⟩⟩ rfl hlen hsize hst (lv_room (m := m) (pc := pc) (ls := ls) (rest := st0) hW8) hdg hf
theorem kb_rSN {host : String} (hx : p.tables.exec = Jvm.exec) (hb : c.code = cc) (hml : c.maxLocals = nL) (hown : s.vm.findClass own = some m.cls) (hK : kb_K D dA s) (hM : Met l y [.code y bytes maxL ret] rm (kb_pre D dA As H.size wc) Qc mc ms free) (hw : kb_wSN own index y host bytes maxL ret) (hrc : rm.cells = mc) (hrs : rm.slots = ms) (hn : (parseMethodDescriptor y.desc).map (fun d => d.parameters.length) = some n) (hR : rm.frames + 1 ≤ R.frames ∧ 8 + (maxL + 11) + rm.locals ≤ R.locals)
    (hP : va_P D vwCl ws H) (hD : va_D A0 ws) (hS : va_S A0 s.heap H locs) (hA : ∀ q, s.heap.size ≤ q → A0 q) (hE : kb_E dA A0 s s.heap) (isC : List Nat) (hC : isC.map (fun i => ws[i]?) = wc.map some) (hn2 : va_nd isC = true) (hlen : As.length = n) (hsize : ls.size = nL) (hst : st0 = As.reverse ++ rest) (hW8 : (rest.map fun v => v.category).sum ≤ 8) (hdg : decode cc pc = .ok (.invokestatic index, 3)) (hf : cells + mc ≤ R.cells ∧ slots + ms ≤ R.slots) :
    va_Run p l e R s m args below meth c H locs cells slots mc ms (F0 m pc ls st0) rest (Qc As.toArray) free :=
  va_runSN (Ts := kb_gw) ⟨hx, hb, hml, hown, fun w hw => hK.2.1 w hw args⟩ hM ⟨(kb_cwSN hK.2 hw hrc hrs hn hR).1, (kb_cwSN (args := args) hK.2 hw hrc hrs hn hR).2, trivial⟩ ⟨kb_blind, fun U hU hW => ⟨rfl, by rw [hU], by rw [hU]; exact kb_in hP isC hC, hK.warm hW, (hD.sub isC hn2 hC).weaken (fun _ _ _ _ => trivial), by rw [hU]; exact hE.to hS.2.1 (va_free hD hS hA isC hC) hW⟩⟩ rfl hlen hsize hst (lv_room (m := m) (pc := pc) (ls := ls) (rest := st0) hW8) hdg hf
theorem kb_ci {rv : Int32} (hr : va_Run p l e R s m args below meth c H locs cells slots mc ms (F0 m pc ls st0) rest (va_Qi (fun r (_ : Unit) => r = rv) (kb_B D (va_A wc H.size) w1) (va_A wc H.size) a) (va_A wc H.size)) (hP : va_P D vwCl ws H) (hD : va_D A0 ws) (hS : va_S A0 H0 H locs) (hA : ∀ q, H0.size ≤ q → A0 q) (isC isR perm : List Nat) (hC : isC.map (fun i => ws[i]?) = wc.map some) (hRr : isR.all (fun i => decide (i < ws.length)) = true) (hn : va_nd isR = true) (hdis : ∀ i ∈ isR, i ∉ isC) (hq : perm.map (fun i => (isR.filterMap (fun i => ws[i]?) ++ w1)[i]?) = ws2.map some) (hnp : va_nd perm = true)
    (kk : ∀ (H1 : Heap) (locs1 : List Loc), va_P D vwCl ws2 H1 → va_D A0 ws2 → va_S A0 H0 H1 locs1 → W p l e R s m args below meth c H1 locs1 (cells + mc) (slots + ms) Q (F0 m (pc + 3) ls (.int rv :: rest))) : W p l e R s m args below meth c H locs cells slots Q (F0 m pc ls st0) := by
  have hF := va_free hD hS hA isC hC
  refine va_calli hr hS (fun q _ h => hF q h) hF (fun r u t H1 locs1 ht hvm hw hB hz hk hS1 => ?_)
  obtain ⟨hP1, hD1⟩ := hB
  rw [ht] at hP1
  have hw : r = rv := hw
  subst hw
  obtain ⟨a, b⟩ := kb_back hP hD isC isR perm hC hRr hn hdis hq hnp hk hF hP1 hD1
  exact kk H1 locs1 a b hS1
theorem kb_cl {rv : Int64} (hr : va_Run p l e R s m args below meth c H locs cells slots mc ms (F0 m pc ls st0) rest (va_Ql (fun r (_ : Unit) => r = rv) (kb_B D (va_A wc H.size) w1) (va_A wc H.size) a) (va_A wc H.size)) (hP : va_P D vwCl ws H) (hD : va_D A0 ws) (hS : va_S A0 H0 H locs) (hA : ∀ q, H0.size ≤ q → A0 q) (isC isR perm : List Nat) (hC : isC.map (fun i => ws[i]?) = wc.map some) (hRr : isR.all (fun i => decide (i < ws.length)) = true) (hn : va_nd isR = true) (hdis : ∀ i ∈ isR, i ∉ isC) (hq : perm.map (fun i => (isR.filterMap (fun i => ws[i]?) ++ w1)[i]?) = ws2.map some) (hnp : va_nd perm = true)
    (kk : ∀ (H1 : Heap) (locs1 : List Loc), va_P D vwCl ws2 H1 → va_D A0 ws2 → va_S A0 H0 H1 locs1 → W p l e R s m args below meth c H1 locs1 (cells + mc) (slots + ms) Q (F0 m (pc + 3) ls (.long rv :: rest))) : W p l e R s m args below meth c H locs cells slots Q (F0 m pc ls st0) := by
  have hF := va_free hD hS hA isC hC
  refine va_calll hr hS (fun q _ h => hF q h) hF (fun r u t H1 locs1 ht hvm hw hB hz hk hS1 => ?_)
  obtain ⟨hP1, hD1⟩ := hB
  rw [ht] at hP1
  have hw : r = rv := hw
  subst hw
  obtain ⟨a, b⟩ := kb_back hP hD isC isR perm hC hRr hn hdis hq hnp hk hF hP1 hD1
  exact kk H1 locs1 a b hS1
theorem kb_cv (hr : va_Run p l e R s m args below meth c H locs cells slots mc ms (F0 m pc ls st0) rest (va_Qv (fun (_ : Unit) => True) (kb_B D (va_A wc H.size) w1) (va_A wc H.size) a) (va_A wc H.size)) (hP : va_P D vwCl ws H) (hD : va_D A0 ws) (hS : va_S A0 H0 H locs) (hA : ∀ q, H0.size ≤ q → A0 q) (isC isR perm : List Nat) (hC : isC.map (fun i => ws[i]?) = wc.map some) (hRr : isR.all (fun i => decide (i < ws.length)) = true) (hn : va_nd isR = true) (hdis : ∀ i ∈ isR, i ∉ isC) (hq : perm.map (fun i => (isR.filterMap (fun i => ws[i]?) ++ w1)[i]?) = ws2.map some) (hnp : va_nd perm = true)
    (kk : ∀ (H1 : Heap) (locs1 : List Loc), va_P D vwCl ws2 H1 → va_D A0 ws2 → va_S A0 H0 H1 locs1 → W p l e R s m args below meth c H1 locs1 (cells + mc) (slots + ms) Q (F0 m (pc + 3) ls rest)) : W p l e R s m args below meth c H locs cells slots Q (F0 m pc ls st0) := by
  have hF := va_free hD hS hA isC hC
  refine va_callv hr hS (fun q _ h => hF q h) hF (fun u t H1 locs1 ht hvm hw hB hz hk hS1 => ?_)
  obtain ⟨hP1, hD1⟩ := hB
  rw [ht] at hP1
  obtain ⟨a, b⟩ := kb_back hP hD isC isR perm hC hRr hn hdis hq hnp hk hF hP1 hD1
  exact kk H1 locs1 a b hS1
end KC
/-- what a partial function's answer says -/
theorem kb_if {α : Type} {c : Prop} [Decidable c] {x : Option α} {r : α} (h : (if c then x else none) = some r) : c ∧ x = some r := by
  by_cases hc : c
  · rw [if_pos hc] at h; exact ⟨hc, h⟩
  · rw [if_neg hc] at h; cases h
theorem kb_bind {α β : Type} {x : Option α} {f : α → Option β} {r : β} (h : x.bind f = some r) : ∃ a, x = some a ∧ f a = some r := by
  cases x with
  | none => cases h
  | some a => exact ⟨a, rfl, h⟩
abbrev kb_in? (i : Int32) (n : Nat) : Prop := ¬ (i < 0 ∨ n ≤ i.toNatClampNeg)
abbrev kb_01 (v : Int32) : Prop := v = 0 ∨ v = 1
theorem kb_nz {v : Int32} (h : kb_01 v) : narrow .boolean (.int v) = .int v := by rcases h with rfl | rfl <;> rfl
theorem kb_fz {v : Int32} (h : kb_01 v) : fits .boolean (.int v) = true := by rcases h with rfl | rfl <;> rfl
theorem kb_inX0 : ∀ w ∈ wsX00, w ∈ kb_gw := by decide +kernel
theorem kb_inX6 : ∀ w ∈ wsX60, w ∈ kb_gw := by decide +kernel
