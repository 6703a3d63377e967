/-! worlds as lists of pictures: a call sees some of them, the others stay -/
def kc_all : List va_W → va_W
  | [] => []
  | [a] => a
  | a :: b :: l => a ++ kc_all (b :: l)
def kc_nth : List va_W → Nat → va_W
  | [], _ => []
  | a :: _, 0 => a
  | _ :: l, n + 1 => kc_nth l n
theorem kc_all_flat : ∀ l : List va_W, kc_all l = l.flatten
  | [] => rfl
  | [a] => by simp [kc_all]
  | a :: b :: l => by
    rw [kc_all, kc_all_flat (b :: l)]
    rfl
theorem kc_nth_range : ∀ L : List va_W, (List.range L.length).map (kc_nth L) = L
  | [] => rfl
  | a :: l => by
    rw [List.length_cons, List.range_succ_eq_map, List.map_cons, List.map_map]
    refine congrArg (List.cons a) ?_
    exact kc_nth_range l
theorem kc_sel (L : List va_W) (n : Nat) (rs cs : List Nat) (hn : L.length = n) (h : (List.range n).Perm (rs ++ cs)) : (kc_all L).Perm (kc_all (rs.map (kc_nth L)) ++ kc_all (cs.map (kc_nth L))) := by
  subst hn
  rw [kc_all_flat, kc_all_flat, kc_all_flat, ← List.flatten_append, ← List.map_append]
  have h2 := (h.map (kc_nth L)).flatten
  rw [kc_nth_range L] at h2
  exact h2
theorem kc_P {D : va_G} {cl : List vw_C} {ws : va_W} {H : Heap} : va_P D cl ws H ↔ ∀ q ∈ ws, va_at D cl q H := by
  constructor
  · intro h q hq
    obtain ⟨k, hk⟩ := List.getElem?_of_mem hq
    exact h k q hk
  · intro h k q hk
    exact h q (List.mem_of_getElem? hk)
theorem kc_D {A : Nat → Prop} {ws : va_W} : va_D A ws ↔ (ws.map (fun q => q.1)).Nodup ∧ ∀ q ∈ ws, A q.1 := by
  constructor
  · intro h
    refine ⟨?_, fun q hq => ?_⟩
    · rw [List.Nodup, List.pairwise_iff_getElem]
      intro i j hi hj hij e
      rw [List.length_map] at hi hj
      rw [List.getElem_map, List.getElem_map] at e
      have := h.1 i j _ _ (List.getElem?_eq_getElem hi) (List.getElem?_eq_getElem hj) e
      omega
    · obtain ⟨k, hk⟩ := List.getElem?_of_mem hq
      exact h.2 k q hk
  · intro h
    refine ⟨fun i j p q hi hj e => ?_, fun k q hk => h.2 q (List.mem_of_getElem? hk)⟩
    have hn := h.1
    rw [List.Nodup, List.pairwise_iff_getElem] at hn
    obtain ⟨li, ei⟩ := List.getElem?_eq_some_iff.mp hi
    obtain ⟨lj, ej⟩ := List.getElem?_eq_some_iff.mp hj
    rcases Nat.lt_trichotomy i j with c | c | c
    · refine absurd ?_ (hn i j (by rw [List.length_map]; exact li) (by rw [List.length_map]; exact lj) c)
      rw [List.getElem_map, List.getElem_map, ei, ej]; exact e
    · exact c
    · refine absurd ?_ (hn j i (by rw [List.length_map]; exact lj) (by rw [List.length_map]; exact li) c)
      rw [List.getElem_map, List.getElem_map, ei, ej]; exact e.symm
section KP
variable {D : va_G} {A0 : Nat → Prop} {ws wr wc w1 ws2 : va_W} {H H1 H0 : Heap} {locs : List Loc}
theorem kc_Pp (hp : ws.Perm ws2) (h : va_P D vwCl ws H) : va_P D vwCl ws2 H := kc_P.mpr fun q hq => kc_P.mp h q (hp.mem_iff.mpr hq)
theorem kc_Dp (hp : ws.Perm ws2) (h : va_D A0 ws) : va_D A0 ws2 := by
  have h2 := kc_D.mp h
  exact kc_D.mpr ⟨(hp.map _).nodup_iff.mp h2.1, fun q hq => h2.2 q (hp.mem_iff.mpr hq)⟩
theorem kc_in (hp : ws.Perm (wr ++ wc)) (h : va_P D vwCl ws H) : va_P D vwCl wc H := kc_P.mpr fun q hq => kc_P.mp h q (hp.mem_iff.mpr (List.mem_append_right _ hq))
theorem kc_sub (hp : ws.Perm (wr ++ wc)) (h : va_D A0 ws) : va_D A0 wc := by
  have h2 := kc_D.mp (kc_Dp hp h)
  rw [List.map_append] at h2
  exact kc_D.mpr ⟨(List.nodup_append.mp h2.1).2.1, fun q hq => h2.2 q (List.mem_append_right _ hq)⟩
theorem kc_free (hp : ws.Perm (wr ++ wc)) (hD : va_D A0 ws) (hS : va_S A0 H0 H locs) (hA : ∀ q, H0.size ≤ q → A0 q) : ∀ q, va_A wc H.size q → A0 q := by
  intro q h
  rcases h with ⟨k, e, h⟩ | h
  · exact (kc_D.mp (kc_sub hp hD)).2 _ (List.mem_of_getElem? h)
  · exact hA q (Nat.le_trans hS.1 h)
theorem kc_back (hP : va_P D vwCl ws H) (hD : va_D A0 ws) (hp : ws.Perm (wr ++ wc)) (hk : ∀ q : Nat, q < H.size → ¬ va_A wc H.size q → H1[q]? = H[q]?) (hF : ∀ q, va_A wc H.size q → A0 q) (hP1 : va_P D vwCl w1 H1) (hD1 : va_D (va_A wc H.size) w1) (hq : (wr ++ w1).Perm ws2) : va_P D vwCl ws2 H1 ∧ va_D A0 ws2 := by
  have hP' := kc_P.mp (kc_Pp hp hP)
  have hD' := kc_D.mp (kc_Dp hp hD)
  have hD1' := kc_D.mp hD1
  rw [List.map_append] at hD'
  have nd := List.nodup_append.mp hD'.1
  have apart : ∀ q ∈ wr, ¬ va_A wc H.size q.1 := by
    intro q hqr z
    rcases z with ⟨k, e, z⟩ | z
    · exact nd.2.2 q.1 (List.mem_map_of_mem hqr) q.1 (List.mem_map.mpr ⟨(q.1, e), List.mem_of_getElem? z, rfl⟩) rfl
    · exact absurd (hP' q (List.mem_append_left _ hqr)).lt (by omega)
  have hPn : va_P D vwCl (wr ++ w1) H1 := kc_P.mpr fun q hq2 => by
    rcases List.mem_append.mp hq2 with z | z
    · exact (hP' q (List.mem_append_left _ z)).kept (hk q.1 (hP' q (List.mem_append_left _ z)).lt (apart q z))
    · exact kc_P.mp hP1 q z
  have hDn : va_D A0 (wr ++ w1) := kc_D.mpr ⟨by
    rw [List.map_append]
    refine List.nodup_append.mpr ⟨nd.1, hD1'.1, fun x hx y hy e => ?_⟩
    obtain ⟨q, hqr, rfl⟩ := List.mem_map.mp hx
    obtain ⟨q2, hq2, rfl⟩ := List.mem_map.mp hy
    have z := hD1'.2 q2 hq2
    rw [← e] at z
    exact apart q hqr z, fun q hq2 => by
    rcases List.mem_append.mp hq2 with z | z
    · exact hD'.2 q (List.mem_append_left _ z)
    · exact hF _ (hD1'.2 q z)⟩
  exact ⟨kc_Pp hq hPn, kc_Dp hq hDn⟩
end KP
section KQ
variable {p : Program} {l : Launch} {e : Env} {R : Room} {s : State} {m : MethodId} {args : Array Value} {below : List Frame} {meth : Method} {c : Code} {H : Heap} {locs : List Loc} {cells slots : Nat} {Q : State → Prop}
variable {pc : Nat} {ls : Array Slot} {rest st0 : List Value} {A0 : Nat → Prop} {H0 : Heap} {mc ms : Nat} {D : va_G} {dA : Nat → ClassId} {y : MethodName} {bytes cc : ByteArray} {maxL nL n index : Nat} {ret : Option FieldType} {rm : Room} {own C : String} {b : Addr} {As : List Value} {ws wc wr w1 ws2 : va_W} {Qc : Array Value → State → Outcome → State → Prop} {free : Addr → Prop} {a : Array Value}
theorem kc_rV (hx : p.tables.exec = Jvm.exec) (hb : c.code = cc) (hml : c.maxLocals = nL) (hown : s.vm.findClass own = some m.cls) (hK : kb_K D dA s) (hM : Met l y [.code y bytes maxL ret] rm (kb_pre D dA (.ref b :: As) H.size wc) Qc mc ms free) (hw : kb_wV own index C y bytes maxL ret) (hrc : rm.cells = mc) (hrs : rm.slots = ms) (hn : (parseMethodDescriptor y.desc).map (fun d => d.parameters.length) = some n) (hR : rm.frames + 1 ≤ R.frames ∧ 8 + (maxL + 11) + rm.locals ≤ R.locals)
    (hP : va_P D vwCl ws H) (hD : va_D A0 ws) (hS : va_S A0 s.heap H locs) (hA : ∀ q, s.heap.size ≤ q → A0 q) (hE : kb_E dA A0 s s.heap) (hp : ws.Perm (wr ++ wc)) {T : u_T} {N ci : Nat} {fs : List Value} (q0 : Nat) (hcl : vwCl[ci]? = some (C, T, N)) (he : wc[q0]? = some (b, .inr (ci, fs))) (hlen : As.length = n) (hsize : ls.size = nL) (hst : st0 = As.reverse ++ .ref b :: rest) (hW8 : (rest.map fun v => v.category).sum ≤ 8) (hdg : decode cc pc = .ok (.invokevirtual index, 3)) (hf : cells + mc ≤ R.cells ∧ slots + ms ≤ R.slots) :
    va_Run p l e R s m args below meth c H locs cells slots mc ms (F0 m pc ls st0) rest (Qc (Value.ref b :: As).toArray) free :=
  va_runV (Ts := kb_gw) ⟨hx, hb, hml, hown, fun w hw => hK.2.1 w hw args⟩ hM (kb_cwV hK.2 hw hrc hrs hn hR) ⟨kb_blind, va_recv hK.1 (kc_in hp hP) hcl he, fun U hU hW => ⟨rfl, by rw [hU], by rw [hU]; exact kc_in hp hP, hK.warm hW, (kc_sub hp hD).weaken (fun _ _ _ _ => trivial), by rw [hU]; exact hE.to hS.2.1 (kc_free hp hD hS hA) hW⟩⟩ rfl hlen hsize hst (lv_room (m := m) (pc := pc) (ls := ls) (rest := st0) hW8) hdg hf
theorem kc_rS (hx : p.tables.exec = Jvm.exec) (hb : c.code = cc) (hml : c.maxLocals = nL) (hown : s.vm.findClass own = some m.cls) (hK : kb_K D dA s) (hM : Met l y [.code y bytes maxL ret] rm (kb_pre D dA As H.size wc) Qc mc ms free) (hw : kb_wS own index y bytes maxL ret) (hrc : rm.cells = mc) (hrs : rm.slots = ms) (hn : (parseMethodDescriptor y.desc).map (fun d => d.parameters.length) = some n) (hR : rm.frames + 1 ≤ R.frames ∧ 8 + (maxL + 11) + rm.locals ≤ R.locals)
    (hP : va_P D vwCl ws H) (hD : va_D A0 ws) (hS : va_S A0 s.heap H locs) (hA : ∀ q, s.heap.size ≤ q → A0 q) (hE : kb_E dA A0 s s.heap) (hp : ws.Perm (wr ++ wc)) (hlen : As.length = n) (hsize : ls.size = nL) (hst : st0 = As.reverse ++ rest) (hW8 : (rest.map fun v => v.category).sum ≤ 8) (hdg : decode cc pc = .ok (.invokestatic index, 3)) (hf : cells + mc ≤ R.cells ∧ slots + ms ≤ R.slots) :
    va_Run p l e R s m args below meth c H locs cells slots mc ms (F0 m pc ls st0) rest (Qc As.toArray) free :=
  va_runS (Ts := kb_gw) ⟨hx, hb, hml, hown, fun w hw => hK.2.1 w hw args⟩ hM (kb_cwS hK.2 hw hrc hrs hn hR) ⟨kb_blind, fun U hU hW => ⟨rfl, by rw [hU], by rw [hU]; exact kc_in hp hP, hK.warm hW, (kc_sub hp hD).weaken (fun _ _ _ _ => trivial), by rw [hU]; exact hE.to hS.2.1 (kc_free hp hD hS hA) hW⟩⟩ rfl hlen hsize hst (lv_room (m := m) (pc := pc) (ls := ls) (rest := st0) hW8) hdg hf
theorem kc_rSN {host : String} (hx : p.tables.exec = Jvm.exec) (hb : c.code = cc) (hml : c.maxLocals = nL) (hown : s.vm.findClass own = some m.cls) (hK : kb_K D dA s) (hM : Met l y [.code y bytes maxL ret] rm (kb_pre D dA As H.size wc) Qc mc ms free) (hw : kb_wSN own index y host bytes maxL ret) (hrc : rm.cells = mc) (hrs : rm.slots = ms) (hn : (parseMethodDescriptor y.desc).map (fun d => d.parameters.length) = some n) (hR : rm.frames + 1 ≤ R.frames ∧ 8 + (maxL + 11) + rm.locals ≤ R.locals)
    (hP : va_P D vwCl ws H) (hD : va_D A0 ws) (hS : va_S A0 s.heap H locs) (hA : ∀ q, s.heap.size ≤ q → A0 q) (hE : kb_E dA A0 s s.heap) (hp : ws.Perm (wr ++ wc)) (hlen : As.length = n) (hsize : ls.size = nL) (hst : st0 = As.reverse ++ rest) (hW8 : (rest.map fun v => v.category).sum ≤ 8) (hdg : decode cc pc = .ok (.invokestatic index, 3)) (hf : cells + mc ≤ R.cells ∧ slots + ms ≤ R.slots) :
    va_Run p l e R s m args below meth c H locs cells slots mc ms (F0 m pc ls st0) rest (Qc As.toArray) free :=
  va_runSN (Ts := kb_gw) ⟨hx, hb, hml, hown, fun w hw => hK.2.1 w hw args⟩ hM ⟨(kb_cwSN hK.2 hw hrc hrs hn hR).1, (kb_cwSN (args := args) hK.2 hw hrc hrs hn hR).2, trivial⟩ ⟨kb_blind, fun U hU hW => ⟨rfl, by rw [hU], by rw [hU]; exact kc_in hp hP, hK.warm hW, (kc_sub hp hD).weaken (fun _ _ _ _ => trivial), by rw [hU]; exact hE.to hS.2.1 (kc_free hp hD hS hA) hW⟩⟩ rfl hlen hsize hst (lv_room (m := m) (pc := pc) (ls := ls) (rest := st0) hW8) hdg hf
theorem kc_rI (hx : p.tables.exec = Jvm.exec) (hb : c.code = cc) (hml : c.maxLocals = nL) (hown : s.vm.findClass own = some m.cls) (hK : kb_K D dA s) (hM : Met l y [.code y bytes maxL none] rm (kb_pre D dA (.ref b :: As) H.size wc) Qc mc ms free) (hw : kb_wI own index y bytes maxL) (hrc : rm.cells = mc) (hrs : rm.slots = ms) (hn : (parseMethodDescriptor y.desc).map (fun d => d.parameters.length) = some n) (hR : rm.frames + 1 ≤ R.frames ∧ 8 + (maxL + 11) + rm.locals ≤ R.locals)
    (hP : va_P D vwCl ws H) (hD : va_D A0 ws) (hS : va_S A0 s.heap H locs) (hA : ∀ q, s.heap.size ≤ q → A0 q) (hE : kb_E dA A0 s s.heap) (hp : ws.Perm (wr ++ wc)) (hlen : As.length = n) (hsize : ls.size = nL) (hst : st0 = As.reverse ++ .ref b :: rest) (hW8 : (rest.map fun v => v.category).sum ≤ 8) (hdg : decode cc pc = .ok (.invokespecial index, 3)) (hf : cells + mc ≤ R.cells ∧ slots + ms ≤ R.slots) :
    va_Run p l e R s m args below meth c H locs cells slots mc ms (F0 m pc ls st0) rest (Qc (Value.ref b :: As).toArray) free := by
  obtain ⟨h1, h2, h3, h5, h6, h7, h8⟩ := hw
  exact va_runI (Ts := kb_gw) ⟨hx, hb, hml, hown, fun w hw => hK.2.1 w hw args⟩ hM ⟨callB_of n (fun w hw => hK.2.1 w hw args) (kb_good h1) rfl hrc hrs (hK.2.w h5 rfl args) (hK.2.w h2 rfl args) ⟨h7, h8, hn⟩ hR, h6, hK.2.w h3 rfl args⟩ ⟨kb_blind, fun U hU hW => ⟨rfl, by rw [hU], by rw [hU]; exact kc_in hp hP, hK.warm hW, (kc_sub hp hD).weaken (fun _ _ _ _ => trivial), by rw [hU]; exact hE.to hS.2.1 (kc_free hp hD hS hA) hW⟩⟩ rfl hlen hsize hst (lv_room (m := m) (pc := pc) (ls := ls) (rest := st0) hW8) hdg hf
theorem kc_rIN {host : String} (hx : p.tables.exec = Jvm.exec) (hb : c.code = cc) (hml : c.maxLocals = nL) (hown : s.vm.findClass own = some m.cls) (hK : kb_K D dA s) (hM : Met l y [.code y bytes maxL none] rm (kb_pre D dA (.ref b :: As) H.size wc) Qc mc ms free) (hw : kb_wIN own index y host bytes maxL) (hrc : rm.cells = mc) (hrs : rm.slots = ms) (hn : (parseMethodDescriptor y.desc).map (fun d => d.parameters.length) = some n) (hR : rm.frames + 1 ≤ R.frames ∧ 8 + (maxL + 11) + rm.locals ≤ R.locals)
    (hP : va_P D vwCl ws H) (hD : va_D A0 ws) (hS : va_S A0 s.heap H locs) (hA : ∀ q, s.heap.size ≤ q → A0 q) (hE : kb_E dA A0 s s.heap) (hp : ws.Perm (wr ++ wc)) (hlen : As.length = n) (hsize : ls.size = nL) (hst : st0 = As.reverse ++ .ref b :: rest) (hW8 : (rest.map fun v => v.category).sum ≤ 8) (hdg : decode cc pc = .ok (.invokespecial index, 3)) (hf : cells + mc ≤ R.cells ∧ slots + ms ≤ R.slots) :
    va_Run p l e R s m args below meth c H locs cells slots mc ms (F0 m pc ls st0) rest (Qc (Value.ref b :: As).toArray) free := by
  obtain ⟨h1, h2, h3, h5, h6, h7, h8⟩ := hw
  exact va_runIN (Ts := kb_gw) ⟨hx, hb, hml, hown, fun w hw => hK.2.1 w hw args⟩ hM ⟨va_cnB n (fun w hw => hK.2.1 w hw args) (kb_good h1) rfl hrc hrs (hK.2.n h2 rfl) (hK.2.w h5 rfl args) ⟨h7, h8, hn⟩ hR, h6, hK.2.w h3 rfl args⟩ ⟨kb_blind, fun U hU hW => ⟨rfl, by rw [hU], by rw [hU]; exact kc_in hp hP, hK.warm hW, (kc_sub hp hD).weaken (fun _ _ _ _ => trivial), by rw [hU]; exact hE.to hS.2.1 (kc_free hp hD hS hA) hW⟩⟩ rfl hlen hsize hst (lv_room (m := m) (pc := pc) (ls := ls) (rest := st0) hW8) hdg hf
theorem kc_ci {rv : Int32} (hr : va_Run p l e R s m args below meth c H locs cells slots mc ms (F0 m pc ls st0) rest (va_Qi (fun r (_ : Unit) => r = rv) (kb_B D (va_A wc H.size) w1) (va_A wc H.size) a) (va_A wc H.size)) (hP : va_P D vwCl ws H) (hD : va_D A0 ws) (hS : va_S A0 H0 H locs) (hA : ∀ q, H0.size ≤ q → A0 q) (hp : ws.Perm (wr ++ wc)) (hq : (wr ++ w1).Perm ws2)
    (kk : ∀ (H1 : Heap) (locs1 : List Loc), va_P D vwCl ws2 H1 → va_D A0 ws2 → va_S A0 H0 H1 locs1 → W p l e R s m args below meth c H1 locs1 (cells + mc) (slots + ms) Q (F0 m (pc + 3) ls (.int rv :: rest))) : W p l e R s m args below meth c H locs cells slots Q (F0 m pc ls st0) := by
  have hF := kc_free hp hD hS hA
  refine va_calli hr hS (fun q _ h => hF q h) hF (fun r u t H1 locs1 ht hvm hw hB hz hk hS1 => ?_)
  obtain ⟨hP1, hD1⟩ := hB
  rw [ht] at hP1
  have hw : r = rv := hw
  subst hw
  obtain ⟨a, b⟩ := kc_back hP hD hp hk hF hP1 hD1 hq
  exact kk H1 locs1 a b hS1
theorem kc_cl {rv : Int64} (hr : va_Run p l e R s m args below meth c H locs cells slots mc ms (F0 m pc ls st0) rest (va_Ql (fun r (_ : Unit) => r = rv) (kb_B D (va_A wc H.size) w1) (va_A wc H.size) a) (va_A wc H.size)) (hP : va_P D vwCl ws H) (hD : va_D A0 ws) (hS : va_S A0 H0 H locs) (hA : ∀ q, H0.size ≤ q → A0 q) (hp : ws.Perm (wr ++ wc)) (hq : (wr ++ w1).Perm ws2)
    (kk : ∀ (H1 : Heap) (locs1 : List Loc), va_P D vwCl ws2 H1 → va_D A0 ws2 → va_S A0 H0 H1 locs1 → W p l e R s m args below meth c H1 locs1 (cells + mc) (slots + ms) Q (F0 m (pc + 3) ls (.long rv :: rest))) : W p l e R s m args below meth c H locs cells slots Q (F0 m pc ls st0) := by
  have hF := kc_free hp hD hS hA
  refine va_calll hr hS (fun q _ h => hF q h) hF (fun r u t H1 locs1 ht hvm hw hB hz hk hS1 => ?_)
  obtain ⟨hP1, hD1⟩ := hB
  rw [ht] at hP1
  have hw : r = rv := hw
  subst hw
  obtain ⟨a, b⟩ := kc_back hP hD hp hk hF hP1 hD1 hq
  exact kk H1 locs1 a b hS1
theorem kc_cv (hr : va_Run p l e R s m args below meth c H locs cells slots mc ms (F0 m pc ls st0) rest (va_Qv (fun (_ : Unit) => True) (kb_B D (va_A wc H.size) w1) (va_A wc H.size) a) (va_A wc H.size)) (hP : va_P D vwCl ws H) (hD : va_D A0 ws) (hS : va_S A0 H0 H locs) (hA : ∀ q, H0.size ≤ q → A0 q) (hp : ws.Perm (wr ++ wc)) (hq : (wr ++ w1).Perm ws2)
    (kk : ∀ (H1 : Heap) (locs1 : List Loc), va_P D vwCl ws2 H1 → va_D A0 ws2 → va_S A0 H0 H1 locs1 → W p l e R s m args below meth c H1 locs1 (cells + mc) (slots + ms) Q (F0 m (pc + 3) ls rest)) : W p l e R s m args below meth c H locs cells slots Q (F0 m pc ls st0) := by
  have hF := kc_free hp hD hS hA
  refine va_callv hr hS (fun q _ h => hF q h) hF (fun u t H1 locs1 ht hvm hw hB hz hk hS1 => ?_)
  obtain ⟨hP1, hD1⟩ := hB
  rw [ht] at hP1
  obtain ⟨a, b⟩ := kc_back hP hD hp hk hF hP1 hD1 hq
  exact kk H1 locs1 a b hS1
end KQ
section KT
variable {p : Program} {l : Launch} {e : Env} {R : Room} {s : State} {m : MethodId} {args : Array Value} {below : List Frame} {meth : Method} {c : Code} {H : Heap} {locs : List Loc} {cells slots : Nat} {Q : State → Prop}
variable {pc : Nat} {ls : Array Slot} {rest st0 : List Value} {A0 : Nat → Prop} {H0 : Heap} {mc ms : Nat} {D : va_G} {dA : Nat → ClassId} {ws wc wr : va_W} {w1 ws2 : (Nat → Nat) → va_W} {a : Array Value}
theorem kc_Fci {rv : Int32} (hr : va_Run p l e R s m args below meth c H locs cells slots mc ms (F0 m pc ls st0) rest (va_Qi (fun r (_ : Nat → Nat) => r = rv) (fun ph => kb_B D (va_A wc H.size) (w1 ph) ()) (va_A wc H.size) a) (va_A wc H.size)) (hP : va_P D vwCl ws H) (hD : va_D A0 ws) (hS : va_S A0 H0 H locs) (hA : ∀ q, H0.size ≤ q → A0 q) (hp : ws.Perm (wr ++ wc)) (hq : ∀ ph, (wr ++ w1 ph).Perm (ws2 ph))
    (kk : ∀ (ph : Nat → Nat) (H1 : Heap) (locs1 : List Loc), va_P D vwCl (ws2 ph) H1 → va_D A0 (ws2 ph) → va_S A0 H0 H1 locs1 → W p l e R s m args below meth c H1 locs1 (cells + mc) (slots + ms) Q (F0 m (pc + 3) ls (.int rv :: rest))) : W p l e R s m args below meth c H locs cells slots Q (F0 m pc ls st0) := by
  have hF := kc_free hp hD hS hA
  refine va_calli hr hS (fun q _ h => hF q h) hF (fun r ph t H1 locs1 ht hvm hw hB hz hk hS1 => ?_)
  obtain ⟨hP1, hD1⟩ := hB
  rw [ht] at hP1
  have hw : r = rv := hw
  subst hw
  obtain ⟨a, b⟩ := kc_back hP hD hp hk hF hP1 hD1 (hq ph)
  exact kk ph H1 locs1 a b hS1
theorem kc_Fcl {rv : Int64} (hr : va_Run p l e R s m args below meth c H locs cells slots mc ms (F0 m pc ls st0) rest (va_Ql (fun r (_ : Nat → Nat) => r = rv) (fun ph => kb_B D (va_A wc H.size) (w1 ph) ()) (va_A wc H.size) a) (va_A wc H.size)) (hP : va_P D vwCl ws H) (hD : va_D A0 ws) (hS : va_S A0 H0 H locs) (hA : ∀ q, H0.size ≤ q → A0 q) (hp : ws.Perm (wr ++ wc)) (hq : ∀ ph, (wr ++ w1 ph).Perm (ws2 ph))
    (kk : ∀ (ph : Nat → Nat) (H1 : Heap) (locs1 : List Loc), va_P D vwCl (ws2 ph) H1 → va_D A0 (ws2 ph) → va_S A0 H0 H1 locs1 → W p l e R s m args below meth c H1 locs1 (cells + mc) (slots + ms) Q (F0 m (pc + 3) ls (.long rv :: rest))) : W p l e R s m args below meth c H locs cells slots Q (F0 m pc ls st0) := by
  have hF := kc_free hp hD hS hA
  refine va_calll hr hS (fun q _ h => hF q h) hF (fun r ph t H1 locs1 ht hvm hw hB hz hk hS1 => ?_)
  obtain ⟨hP1, hD1⟩ := hB
  rw [ht] at hP1
  have hw : r = rv := hw
  subst hw
  obtain ⟨a, b⟩ := kc_back hP hD hp hk hF hP1 hD1 (hq ph)
  exact kk ph H1 locs1 a b hS1
theorem kc_Fcv (hr : va_Run p l e R s m args below meth c H locs cells slots mc ms (F0 m pc ls st0) rest (va_Qv (fun (_ : Nat → Nat) => True) (fun ph => kb_B D (va_A wc H.size) (w1 ph) ()) (va_A wc H.size) a) (va_A wc H.size)) (hP : va_P D vwCl ws H) (hD : va_D A0 ws) (hS : va_S A0 H0 H locs) (hA : ∀ q, H0.size ≤ q → A0 q) (hp : ws.Perm (wr ++ wc)) (hq : ∀ ph, (wr ++ w1 ph).Perm (ws2 ph))
    (kk : ∀ (ph : Nat → Nat) (H1 : Heap) (locs1 : List Loc), va_P D vwCl (ws2 ph) H1 → va_D A0 (ws2 ph) → va_S A0 H0 H1 locs1 → W p l e R s m args below meth c H1 locs1 (cells + mc) (slots + ms) Q (F0 m (pc + 3) ls rest)) : W p l e R s m args below meth c H locs cells slots Q (F0 m pc ls st0) := by
  have hF := kc_free hp hD hS hA
  refine va_callv hr hS (fun q _ h => hF q h) hF (fun ph t H1 locs1 ht hvm hw hB hz hk hS1 => ?_)
  obtain ⟨hP1, hD1⟩ := hB
  rw [ht] at hP1
  obtain ⟨a, b⟩ := kc_back hP hD hp hk hF hP1 hD1 (hq ph)
  exact kk ph H1 locs1 a b hS1
end KT
