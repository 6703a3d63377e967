-- cells that come: rows with the array classes of the picture; calls of constructors
def kb_c (h : Nat) (q : Nat → Nat) : Nat → Nat
  | 0 => h
  | k + 1 => q k
theorem kb_cA {D : va_G} {dA : Nat → ClassId} {s : State} {cA : ClassId} {ty : FieldType} (hK2 : va_K D vwCl (kb_tys dA ++ [(cA, ty)]) s) (k : Nat) (hk : (kb_tys dA)[k]? = some (dA k, ty)) : cA = dA k := by
  have h1 := (hK2.2 k (dA k, ty) (by rw [List.getElem?_append_left (List.getElem?_eq_some_iff.mp hk).1]; exact hk)).2
  have h2 := (hK2.2 7 (cA, ty) rfl).2
  cases ty with
  | object C =>
    obtain ⟨_, _, _, _, _, a⟩ := h1
    obtain ⟨_, _, _, _, _, b⟩ := h2
    exact Option.some.inj (b.symm.trans a)
  | _ => exact Option.some.inj (h2.symm.trans h1)
def kb_wI (own : String) (index : Nat) (y : MethodName) (bytes : ByteArray) (maxL : Nat) : Prop := Cond.code y bytes maxL none ∈ lw_tbl ∧ Cond.methodLink own index y ∈ lw_tbl ∧ Cond.instanceMethod y ∈ lw_tbl ∧ Cond.initialized y.cls ∈ lw_tbl ∧ y.name = "<init>" ∧ y.cls ≠ "java/lang/invoke/MethodHandle" ∧ y.cls ≠ "java/lang/invoke/VarHandle"
def kb_wIN (own : String) (index : Nat) (y : MethodName) (host : String) (bytes : ByteArray) (maxL : Nat) : Prop := Cond.code y bytes maxL none ∈ lw_tbl ∧ Cond.methodLinkNest own index y host ∈ lw_tbl ∧ Cond.instanceMethod y ∈ lw_tbl ∧ Cond.initialized y.cls ∈ lw_tbl ∧ y.name = "<init>" ∧ y.cls ≠ "java/lang/invoke/MethodHandle" ∧ y.cls ≠ "java/lang/invoke/VarHandle"
section KN
variable {p : Program} {l : Launch} {e : Env} {R : Room} {s : State} {m : MethodId} {args : Array Value} {below : List Frame} {meth : Method} {c : Code} {H : Heap} {locs : List Loc} {cells slots : Nat} {Q : State → Prop}
variable {pc : Nat} {ls : Array Slot} {rest st0 : List Value} {A0 : Nat → Prop} {H0 : Heap} {mc ms : Nat} {D : va_G} {dA : Nat → ClassId} {y : MethodName} {bytes cc : ByteArray} {maxL nL n index : Nat} {rm : Room} {own C : String} {b : Addr} {As : List Value} {ws wc : va_W} {Qc : Array Value → State → Outcome → State → Prop} {free : Addr → Prop}
theorem kb_newa (hexec : p.tables.exec = Jvm.exec) (hb : c.code = cc) {atype : ArrayType} (harr : (Cond.arrayClass (newarray.typeOf atype)).before args s = true) {ty : FieldType} (hty : newarray.typeOf atype = ty) (hK : kb_K D dA s) (hP : va_P D vwCl ws H) (hD : va_D A0 ws) (hS : va_S A0 H0 H locs) (hA : ∀ q, H0.size ≤ q → A0 q)
    {n : Int32} {N' : Nat} {a0 : vp_A} (ha : ∀ cA : ClassId, vp_cell cA a0 = arrV cA N' (fun _ => defaultValue ty)) (hn : ¬ n < 0) (hN : n.toNatClampNeg = N') (hbytes : N' * componentBytes ty ≤ 536870912) (hcells : cells + 1 ≤ R.cells) (hslots : slots + N' ≤ R.slots) (hdg : decode cc pc = .ok (.newarray atype, 2)) (k : Nat) (hk : (kb_tys dA)[k]? = some (dA k, ty))
    (kk : ∀ (q : Nat) (H1 : Heap), va_P D vwCl (ws ++ [(q, .inl (dA k, a0))]) H1 → va_D A0 (ws ++ [(q, .inl (dA k, a0))]) → va_S A0 H0 H1 locs →
      W p l e R s m args below meth c H1 locs (cells + 1) (slots + N') Q (F0 m (pc + 2) ls (.ref q :: rest))) : W p l e R s m args below meth c H locs cells slots Q (F0 m pc ls (.int n :: rest)) :=
  va_newa hexec hb harr hty hK.1 hP hD hS hA ha hn hN hbytes hcells hslots hdg (fun q cA H1 hK2 hP hD hS => by
    have e := kb_cA hK2 k hk
    subst e
    exact kk q H1 hP hD hS)
theorem kb_newq (hexec : p.tables.exec = Jvm.exec) (hb : c.code = cc) {own C : String} {index : Nat} (hown : s.vm.findClass own = some m.cls) (hclink : (Cond.classLink own index C).before args s = true) (hover : va_AO C s) (hK : kb_K D dA s) (hP : va_P D vwCl ws H) (hD : va_D A0 ws) (hS : va_S A0 H0 H locs) (hA : ∀ q, H0.size ≤ q → A0 q)
    {n : Int32} {N' : Nat} (hn : ¬ n < 0) (hN : n.toNatClampNeg = N') (hbytes : N' * 4 ≤ 536870912) (hcells : cells + 1 ≤ R.cells) (hslots : slots + N' ≤ R.slots) (hdg : decode cc pc = .ok (.anewarray index, 3)) (k : Nat) (hk : (kb_tys dA)[k]? = some (dA k, .object C))
    (kk : ∀ (q : Nat) (H1 : Heap), va_P D vwCl (ws ++ [(q, .inl (dA k, N', .inr (.inr (.inr (.inr (fun _ => none))))))]) H1 → va_D A0 (ws ++ [(q, .inl (dA k, N', .inr (.inr (.inr (.inr (fun _ => none))))))]) → va_S A0 H0 H1 locs →
      W p l e R s m args below meth c H1 locs (cells + 1) (slots + N') Q (F0 m (pc + 3) ls (.ref q :: rest))) : W p l e R s m args below meth c H locs cells slots Q (F0 m pc ls (.int n :: rest)) :=
  va_newq hexec hb hown hclink hover hK.1 hP hD hS hA hn hN hbytes hcells hslots hdg (fun q cA H1 hK2 hP hD hS => by
    have e := kb_cA hK2 k hk
    subst e
    exact kk q H1 hP hD hS)
theorem kb_rI (hx : p.tables.exec = Jvm.exec) (hb : c.code = cc) (hml : c.maxLocals = nL) (hown : s.vm.findClass own = some m.cls) (hK : kb_K D dA s) (hM : Met l y [.code y bytes maxL none] rm (kb_pre D dA (.ref b :: As) H.size wc) Qc mc ms free) (hw : kb_wI own index y bytes maxL) (hrc : rm.cells = mc) (hrs : rm.slots = ms) (hn : (parseMethodDescriptor y.desc).map (fun d => d.parameters.length) = some n) (hR : rm.frames + 1 ≤ R.frames ∧ 8 + (maxL + 11) + rm.locals ≤ R.locals)
    (hP : va_P D vwCl ws H) (hD : va_D A0 ws) (hS : va_S A0 s.heap H locs) (hA : ∀ q, s.heap.size ≤ q → A0 q) (hE : kb_E dA A0 s s.heap) (isC : List Nat) (hC : isC.map (fun i => ws[i]?) = wc.map some) (hn2 : va_nd isC = true) (hlen : As.length = n) (hsize : ls.size = nL) (hst : st0 = As.reverse ++ .ref b :: rest) (hW8 : (rest.map fun v => v.category).sum ≤ 8) (hdg : decode cc pc = .ok (.invokespecial index, 3)) (hf : cells + mc ≤ R.cells ∧ slots + ms ≤ R.slots) :
    va_Run p l e R s m args below meth c H locs cells slots mc ms (F0 m pc ls st0) rest (Qc (Value.ref b :: As).toArray) free := by
  obtain ⟨h1, h2, h3, h5, h6, h7, h8⟩ := hw
  exact va_runI (Ts := kb_gw) ⟨hx, hb, hml, hown, fun w hw => hK.2.1 w hw args⟩ hM ⟨callB_of n (fun w hw => hK.2.1 w hw args) (kb_good h1) rfl hrc hrs (hK.2.w h5 rfl args) (hK.2.w h2 rfl args) ⟨h7, h8, hn⟩ hR, h6, hK.2.w h3 rfl args⟩ ⟨kb_blind, fun U hU hW => ⟨rfl, by rw [hU], by rw [hU]; exact kb_in hP isC hC, hK.warm hW, (hD.sub isC hn2 hC).weaken (fun _ _ _ _ => trivial), by rw [hU]; exact hE.to hS.2.1 (va_free hD hS hA isC hC) hW⟩⟩ rfl hlen hsize hst (lv_room (m := m) (pc := pc) (ls := ls) (rest := st0) hW8) hdg hf
theorem kb_rIN {host : String} (hx : p.tables.exec = Jvm.exec) (hb : c.code = cc) (hml : c.maxLocals = nL) (hown : s.vm.findClass own = some m.cls) (hK : kb_K D dA s) (hM : Met l y [.code y bytes maxL none] rm (kb_pre D dA (.ref b :: As) H.size wc) Qc mc ms free) (hw : kb_wIN own index y host bytes maxL) (hrc : rm.cells = mc) (hrs : rm.slots = ms) (hn : (parseMethodDescriptor y.desc).map (fun d => d.parameters.length) = some n) (hR : rm.frames + 1 ≤ R.frames ∧ 8 + (maxL + 11) + rm.locals ≤ R.locals)
    (hP : va_P D vwCl ws H) (hD : va_D A0 ws) (hS : va_S A0 s.heap H locs) (hA : ∀ q, s.heap.size ≤ q → A0 q) (hE : kb_E dA A0 s s.heap) (isC : List Nat) (hC : isC.map (fun i => ws[i]?) = wc.map some) (hn2 : va_nd isC = true) (hlen : As.length = n) (hsize : ls.size = nL) (hst : st0 = As.reverse ++ .ref b :: rest) (hW8 : (rest.map fun v => v.category).sum ≤ 8) (hdg : decode cc pc = .ok (.invokespecial index, 3)) (hf : cells + mc ≤ R.cells ∧ slots + ms ≤ R.slots) :
    va_Run p l e R s m args below meth c H locs cells slots mc ms (F0 m pc ls st0) rest (Qc (Value.ref b :: As).toArray) free := by
  obtain ⟨h1, h2, h3, h5, h6, h7, h8⟩ := hw
  exact va_runIN (Ts := kb_gw) ⟨hx, hb, hml, hown, fun w hw => hK.2.1 w hw args⟩ hM ⟨va_cnB n (fun w hw => hK.2.1 w hw args) (kb_good h1) rfl hrc hrs (hK.2.n h2 rfl) (hK.2.w h5 rfl args) ⟨h7, h8, hn⟩ hR, h6, hK.2.w h3 rfl args⟩ ⟨kb_blind, fun U hU hW => ⟨rfl, by rw [hU], by rw [hU]; exact kb_in hP isC hC, hK.warm hW, (hD.sub isC hn2 hC).weaken (fun _ _ _ _ => trivial), by rw [hU]; exact hE.to hS.2.1 (va_free hD hS hA isC hC) hW⟩⟩ rfl hlen hsize hst (lv_room (m := m) (pc := pc) (ls := ls) (rest := st0) hW8) hdg hf
/-- a row of references counts within its length alone -/
theorem kb_rc {D : va_G} {cl : List vw_C} {ws : va_W} {H : Heap} (hP : va_P D cl ws H) (k : Nat) {a n : Nat} {cA : ClassId} {f g : Nat → Option Nat} (hk : ws[k]? = some (a, .inl (cA, n, .inr (.inr (.inr (.inr f)))))) (hfg : ∀ r, r < n → f r = g r) : va_P D cl (ws.set k (a, .inl (cA, n, .inr (.inr (.inr (.inr g)))))) H := by
  have hl := (List.getElem?_eq_some_iff.mp hk).1
  intro j q hj
  by_cases hjk : j = k
  · subst hjk
    rw [List.getElem?_set_self hl] at hj
    cases hj
    have h := hP _ _ hk
    have e : vp_cell cA (n, .inr (.inr (.inr (.inr f)))) = vp_cell cA (n, .inr (.inr (.inr (.inr g)))) := congrArg (fun h : Fin n → Value => ({ cls := cA, slots := Array.ofFn h, vm := .none } : Cell)) (funext fun j => congrArg va_rf (hfg j.val j.isLt))
    exact Eq.trans h (congrArg some e)
  · rw [List.getElem?_set_ne (Ne.symm hjk)] at hj
    exact hP j q hj
end KN
