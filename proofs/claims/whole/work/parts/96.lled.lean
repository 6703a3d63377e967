/-! the law's own led -/
abbrev w_Out (dA : Nat → ClassId) (a : Nat → Nat) (f : Nat → Int64) : va_W := [(a 0, .inl (dA 2, 1, .inr (.inl f)))]
abbrev kd_hh : List (Nat × Nat × Nat × Nat) := [(0, 9, 12, 13)]
/-- the words of a throw that a warmer machine keeps by other laws than the rest's -/
def kx_x : List Cond := Cond.castable "java/util/NoSuchElementException" "java/util/NoSuchElementException" :: (kx_w "BusSeats" 326).filter (fun w => !goodWord w)
theorem kx_xk : ∀ w ∈ kx_x, (w.onTables && w.keepsFace) = true := by decide +kernel
theorem kx_xin : ∀ w ∈ kx_x, w ∈ lw_tbl := fun w hw => by
  rcases List.mem_cons.mp hw with h | h
  · rw [h]; exact ww_5_131
  · exact kb_inS w (List.mem_filter.mp h).1
theorem kx_warm {args a' : Array Value} {s U : State} {w : Cond} (hk : (w.onTables && w.keepsFace) = true) (hW : s.WarmedH U.vm) (h : w.before args s = true) : w.before a' U = true := by
  rw [Bool.and_eq_true] at hk
  have h1 : w.before args (s.setVm U.vm) = true := Cond.before_shiftedFace (State.Shifted.of_warmed hW) w hk.2 h
  have h2 : w.before a' (U.setVm U.vm) = w.before args (s.setVm U.vm) := Cond.onTables_vm U.vm w hk.1
  rw [State.setVm_self] at h2
  exact h2.trans h1
theorem kx_ww {s : State} (hT : kb_T s) (h : ∀ w ∈ kx_x, ∀ a : Array Value, w.before a s = true) : ∀ w ∈ kx_w "BusSeats" 326, ∀ a : Array Value, w.before a s = true := fun w hw a => by
  cases hg : goodWord w with
  | true => exact hT.w (kb_inS w hw) hg a
  | false => exact h w (List.mem_cons_of_mem _ (List.mem_filter.mpr ⟨hw, by show (!goodWord w) = true; rw [hg]; rfl⟩)) a
def kd_Z (A : Nat → Prop) (U : State) (H : Heap) : Prop := vx_Zq Bundle.tN "UNASSIGNED_STACK" Bundle.steD A U H ∧ vx_Zq Bundle.tN "SUPPRESSED_SENTINEL" Bundle.listD A U H ∧ ∀ w ∈ kx_x, ∀ a : Array Value, w.before a U = true
theorem kd_Z.to {A0 A1 : Nat → Prop} {s U : State} {H0 H : Heap} (h : kd_Z A0 s H0) (hk : ∀ a : Nat, a < H0.size → ¬ A0 a → H[a]? = H0[a]?) (hA : ∀ q, A1 q → A0 q) (hW : s.WarmedH U.vm) : kd_Z A1 U H := ⟨((h.1.kept hk).narrow hA).moved hW.alike, ((h.2.1.kept hk).narrow hA).moved hW.alike, fun w hw a => kx_warm (kx_xk w hw) hW (h.2.2 w hw #[])⟩
def kd_pre (D : va_G) (dA : Nat → ClassId) (av : List Value) (sz : Nat) (ws : va_W) : Array Value → State → Prop := fun a s => kb_pre D dA av sz ws a s ∧ kd_Z (va_A ws sz) s s.heap
theorem kd_blind {D : va_G} {dA : Nat → ClassId} {av : List Value} {sz : Nat} {ws : va_W} : FrameBlind (kd_pre D dA av sz ws) := fun a U g mk q => ⟨kb_blind a U g mk q.1, q.2.to (fun _ _ _ => rfl) (fun _ h => h) (State.WarmedH.refl U)⟩
theorem kd_xblind {D : va_G} {dA : Nat → ClassId} {av : List Value} {sz : Nat} {ws : va_W} : FrameBlind (fun a s => kb_pre D dA av sz ws a s ∧ vx_Zq Bundle.tN "UNASSIGNED_STACK" Bundle.steD (va_A ws sz) s s.heap ∧ vx_Zq Bundle.tN "SUPPRESSED_SENTINEL" Bundle.listD (va_A ws sz) s s.heap ∧ ∀ w ∈ kx_w "BusSeats" 326, ∀ a', w.before a' s = true) := fun a U g mk q => by
  exact ⟨kb_blind a U g mk q.1, ((q.2.1.kept (fun _ _ _ => rfl)).narrow (fun _ h => h)).moved (State.WarmedH.refl U).alike, ((q.2.2.1.kept (fun _ _ _ => rfl)).narrow (fun _ h => h)).moved (State.WarmedH.refl U).alike, fun w hw a' => vx_ot_at (s := U) (U := U.calling g mk a) (State.WarmedH.refl U) rfl (kb_goodS w (List.mem_cons_of_mem _ (List.mem_cons_of_mem _ hw))) (q.2.2.2 w hw #[])⟩
abbrev kd_XF (A : Nat → Prop) : String → State → State → Prop := vx_X (fun (_ : Unit) => False) (fun _ _ _ => True) A
abbrev kd_LM (l : Launch) (rm : Room) (D : va_G) (dA : Nat → ClassId) (av : List Value) (sz : Nat) (ws : va_W) (mc ms : Nat) (rv : Int32) (ws' : va_W) : Prop := vx_Met l yL_led [.codeWith yL_led cL_led 4 (some .int) kd_hh] rm (kd_pre D dA av sz ws) (va_Qi (fun r (_ : Unit) => r = rv) (kb_B D (va_A ws sz) ws') (va_A ws sz)) (kd_XF (va_A ws sz)) mc ms (va_A ws sz)
section KDL
variable {p : Program} {l : Launch} {e : Env} {R : Room} {s : State} {m : MethodId} {args : Array Value} {below : List Frame} {meth : Method} {c : Code} {H : Heap} {locs : List Loc} {cells slots : Nat} {Q : State → Prop}
variable {pc : Nat} {ls : Array Slot} {rest st0 : List Value} {A0 : Nat → Prop} {H0 : Heap} {mc ms : Nat} {D : va_G} {dA : Nat → ClassId} {cc : ByteArray} {nL : Nat} {rm : Room} {own : String} {As : List Value} {ws wc wr w1 ws2 : va_W} {Qc : Array Value → State → Outcome → State → Prop} {XC : String → State → State → Prop} {free : Addr → Prop} {a : Array Value} {Qa : State → Outcome → State → Prop} {g : JFrame}
theorem kd_xrun (hr : vx_Run p l e R s m args below meth c H locs cells slots mc ms g rest (fun _ _ _ => False) XC free) : vx_Run p l e R s m args below meth c H locs cells slots mc ms g rest Qa XC free := fun T hT X => by
  rcases hr T hT X with ⟨v, x1, x2, x3, x4, h1, h2, h3, h4, h5, h6, h7⟩ | h
  · exact h6.elim
  · exact Or.inr h
theorem kd_rL (hx : p.tables.exec = Jvm.exec) (hb : c.code = cc) (hml : c.maxLocals = nL) (hown : s.vm.findClass RL = some m.cls) (hK : kb_K D dA s) (hZ : kd_Z A0 s s.heap) (hM : vx_Met l yL_led [.codeWith yL_led cL_led 4 (some .int) kd_hh] rm (kd_pre D dA As H.size wc) Qc XC mc ms free) (hrc : rm.cells = mc) (hrs : rm.slots = ms) (hR : rm.frames + 1 ≤ R.frames ∧ 8 + (4 + 11) + rm.locals ≤ R.locals)
    (hP : va_P D vwCl ws H) (hD : va_D A0 ws) (hS : va_S A0 s.heap H locs) (hA : ∀ q, s.heap.size ≤ q → A0 q) (hE : kb_E dA A0 s s.heap) (hp : ws.Perm (wr ++ wc)) (hlen : As.length = 3) (hsize : ls.size = nL) (hst : st0 = As.reverse ++ rest) (hW8 : (rest.map fun v => v.category).sum ≤ 8) (hdg : decode cc pc = .ok (.invokestatic 177, 3)) (hf : cells + mc ≤ R.cells ∧ slots + ms ≤ R.slots) :
    vx_Run p l e R s m args below meth c H locs cells slots mc ms (F0 m pc ls st0) rest (Qc As.toArray) XC free :=
  vx_runSX (Ts := kb_gw) (own := RL) (index := 177) (n := 3) (bytes := cL_led) (maxL := 4) (ret := some .int) (hh := kd_hh) ⟨hx, hb, hml, hown, fun w hw => hK.2.1 w hw args⟩ hM
    ⟨⟨hrc, hrs, hR.1, hR.2, fun w hw a' U hW => by rw [List.mem_singleton.mp hw]; exact (hK.warm hW).2.w ww_5_119 rfl a', List.mem_cons_self⟩, hK.2.w ww_5_119 rfl args, hK.2.w ww_1_0 rfl args, ⟨by decide, by decide⟩, fun sig h => by
      have h2 : (parseMethodDescriptor yL_led.desc).map (fun d => d.parameters.length) = some 3 := by decide +kernel
      rw [h] at h2
      exact (Option.some.inj h2).symm, hK.2.w ww_5_117 rfl args, hK.2.w ww_5_118 rfl args⟩
    ⟨kd_blind, fun U hU hW => ⟨⟨rfl, by rw [hU], by rw [hU]; exact kc_in hp hP, hK.warm hW, (kc_sub hp hD).weaken (fun _ _ _ _ => trivial), by rw [hU]; exact hE.to hS.2.1 (kc_free hp hD hS hA) hW⟩, by rw [hU]; exact hZ.to hS.2.1 (kc_free hp hD hS hA) hW⟩⟩ rfl hlen hsize hst (lv_room (m := m) (pc := pc) (ls := ls) (rest := st0) hW8) hdg hf
theorem kd_cL {rv : Int32} (hr : vx_Run p l e R s m args below meth c H locs cells slots mc ms (F0 m pc ls st0) rest (va_Qi (fun r (_ : Unit) => r = rv) (kb_B D (va_A wc H.size) w1) (va_A wc H.size) a) (kd_XF (va_A wc H.size)) (va_A wc H.size)) (hP : va_P D vwCl ws H) (hD : va_D A0 ws) (hS : va_S A0 H0 H locs) (hA : ∀ q, H0.size ≤ q → A0 q) (hp : ws.Perm (wr ++ wc)) (hq : (wr ++ w1).Perm ws2)
    (kk : ∀ (H1 : Heap) (locs1 : List Loc), va_P D vwCl ws2 H1 → va_D A0 ws2 → va_S A0 H0 H1 locs1 → W p l e R s m args below meth c H1 locs1 (cells + mc) (slots + ms) Q (F0 m (pc + 3) ls (.int rv :: rest))) : W p l e R s m args below meth c H locs cells slots Q (F0 m pc ls st0) := by
  have hF := kc_free hp hD hS hA
  refine vx_calli hr hS (fun q _ h => hF q h) hF (fun q _ h => hF q h) (fun E ce q9 u t H1 locs1 ht hvm hu => hu.elim) (fun r u t H1 locs1 ht hvm hw hB hz hk hS1 => ?_)
  obtain ⟨hP1, hD1⟩ := hB
  rw [ht] at hP1
  have hw : r = rv := hw
  subst hw
  obtain ⟨a, b⟩ := kc_back hP hD hp hk hF hP1 hD1 hq
  exact kk H1 locs1 a b hS1
end KDL
set_option maxHeartbeats 4000000 in
set_option maxRecDepth 100000 in
theorem c_L_led (l : Launch) (D : va_G) (dA : Nat → ClassId) (sz : Nat) (t a pa oo : Nat → Nat) (g0 : Nat) (g2 : Nat) (g4 : Nat) (g5 : Nat) (g6 : Nat) (g7 : Nat) (g8 : Nat) (tp : TopT) (rd : RideT) (pl : PlanT) (f : Nat → Int64) (x0 : Int32) (rv : Int32) (hf : f_X10_led tp rd pl x0 = some rv) : kd_LM l ({ frames := 2, cells := 0, slots := 0, locals := 45 } : Room) D dA [.ref (t 0), .int x0, .ref (oo 0)] sz (w_Top dA t g0 (pa 0) g2 (a 0) g4 g5 g6 g7 g8 tp ++ (w_Ride dA a (pa 0) (pa 1) rd ++ (w_Plan dA pa pl ++ w_Out dA oo f))) 0 0 (0 : Int32) (w_Top dA t g0 (pa 0) g2 (a 0) g4 g5 g6 g7 g8 tp ++ (w_Ride dA a (pa 0) (pa 1) rd ++ (w_Plan dA pa pl ++ w_Out dA oo (vp_updL f (0 : Int32).toNatClampNeg rv.toInt64)))) := by
  refine vx_ofWH (cc := cL_led) (maxL := 4) (ret := some .int) (hh := kd_hh) (by decide) rfl ?_
  intro p e s m args below meth c s₁ B hml hv
  obtain ⟨⟨rfl, hsz, hP, hK, hD0, hE⟩, hZ⟩ := hv
  have hx := B.exec
  have hb := B.bytes
  have hr := B.returns
  have hown : s.vm.findClass RL = some m.cls := findClass_of_methodNamed B.named
  have htab := vx_table (x := yL_led) B (atoms_spec (ws := [.codeWith yL_led cL_led 4 (some .int) kd_hh]) B.pre _ List.mem_cons_self)
  subst hsz
  have hD := hD0.self (sz := s.heap.size)
  generalize hAe : va_A (w_Top dA t g0 (pa 0) g2 (a 0) g4 g5 g6 g7 g8 tp ++ (w_Ride dA a (pa 0) (pa 1) rd ++ (w_Plan dA pa pl ++ w_Out dA oo f))) s.heap.size = A at hD hE hZ ⊢
  have hA : ∀ q : Nat, s.heap.size ≤ q → A q := fun q h => by rw [← hAe]; exact Or.inr h
  have hS : va_S A s.heap s.heap [] := va_S.rf
  have hl := lv_entry ([.ref (t 0), .int x0, .ref (oo 0)]) (n := 4) (Nat.le_of_ble_eq_true rfl)
  rw [lg_entry_eq]
  generalize (lg_sl ([.ref (t 0), .int x0, .ref (oo 0)]) ++ List.replicate (4 - (lg_sl ([.ref (t 0), .int x0, .ref (oo 0)])).length) Slot.unset).toArray = ls at hl ⊢
  have hl : lv_has ls 4 [(0, .ref (t 0)), (1, .int x0), (2, .ref (oo 0))] := hl
  generalize hQ : vx_MQ below (va_Qi (fun r (_ : Unit) => r = (0 : Int32)) (kb_B D A (w_Top dA t g0 (pa 0) g2 (a 0) g4 g5 g6 g7 g8 tp ++ (w_Ride dA a (pa 0) (pa 1) rd ++ (w_Plan dA pa pl ++ w_Out dA oo (vp_updL f (0 : Int32).toNatClampNeg rv.toInt64))))) A) (kd_XF A) ([.ref (t 0), .int x0, .ref (oo 0)] : List Value).toArray s 0 0 A = Q
  show W p l e ({ frames := 2, cells := 0, slots := 0, locals := 45 } : Room) s m ([.ref (t 0), .int x0, .ref (oo 0)] : List Value).toArray below meth c s.heap [] 0 0 Q (F0 m 0 ls [])
  have hp : ((w_Top dA t g0 (pa 0) g2 (a 0) g4 g5 g6 g7 g8 tp ++ (w_Ride dA a (pa 0) (pa 1) rd ++ (w_Plan dA pa pl ++ w_Out dA oo f))) : va_W).Perm (w_Out dA oo f ++ (w_Top dA t g0 (pa 0) g2 (a 0) g4 g5 g6 g7 g8 tp ++ (w_Ride dA a (pa 0) (pa 1) rd ++ w_Plan dA pa pl))) := kc_sel [w_Top dA t g0 (pa 0) g2 (a 0) g4 g5 g6 g7 g8 tp, w_Ride dA a (pa 0) (pa 1) rd, w_Plan dA pa pl, w_Out dA oo f] 4 [3] [0, 1, 2] rfl (by decide)
  refine lv_aload_n hx hb dL_led_0 rfl (lv_at hl 2 rfl) ?_
  refine lv_iconst (v := (0 : Int32)) hx hb dL_led_1 (by decide) ?_
  refine lv_aload_n hx hb dL_led_2 rfl (lv_at hl 0 rfl) ?_
  refine lv_iload_n hx hb dL_led_3 rfl (lv_at hl 1 rfl) ?_
  refine kc_ci (ws2 := (w_Top dA t g0 (pa 0) g2 (a 0) g4 g5 g6 g7 g8 tp ++ (w_Ride dA a (pa 0) (pa 1) rd ++ (w_Plan dA pa pl ++ w_Out dA oo f)))) (kc_rV (n := 1) (As := [.int x0]) (rest := [.int 0, .ref (oo 0)]) hx hb hml hown hK (c_X10_led l D dA s.heap.size t a pa g0 g2 g4 g5 g6 g7 g8 tp rd pl x0 rv hf) ⟨ww_5_124, ww_5_121, ww_5_122, ww_5_123, ww_1_1, rfl, by decide, by decide⟩ rfl rfl (by decide +kernel) ⟨Nat.le_of_ble_eq_true rfl, Nat.le_of_ble_eq_true rfl⟩ hP hD hS hA hE hp 0 rfl rfl rfl hl.1 rfl (Nat.le_of_ble_eq_true rfl) dL_led_4 ⟨Nat.le_of_ble_eq_true rfl, Nat.le_of_ble_eq_true rfl⟩) hP hD hS hA hp hp.symm (fun H locs hP hD hS => ?_)
  refine lv_i2l (v := rv.toInt64) hx hb dL_led_7 rfl ?_
  refine va_last (D := D) hx hb hK.1 hP hD hS 31 2 rfl rfl (pk_in 0 1 (by decide)) dL_led_8 (fun H locs hP hD hS => ?_)
  have hP : va_P D vwCl (w_Top dA t g0 (pa 0) g2 (a 0) g4 g5 g6 g7 g8 tp ++ (w_Ride dA a (pa 0) (pa 1) rd ++ (w_Plan dA pa pl ++ w_Out dA oo (vp_updL f (0 : Int32).toNatClampNeg rv.toInt64)))) H := hP
  have hD : va_D A (w_Top dA t g0 (pa 0) g2 (a 0) g4 g5 g6 g7 g8 tp ++ (w_Ride dA a (pa 0) (pa 1) rd ++ (w_Plan dA pa pl ++ w_Out dA oo (vp_updL f (0 : Int32).toNatClampNeg rv.toInt64)))) := hD
  refine lv_goto (tgt := 15) hx hb dL_led_9 (by decide) ?_
  refine lv_iconst (v := (0 : Int32)) hx hb dL_led_15 (by decide) ?_
  rw [← hQ]
  refine vx_ret ?_
  exact W.iret hx hb hr (fun t ht hW => ⟨⟨_, (), rfl, rfl, by rw [ht]; exact hP, hD⟩, hS.F ht⟩) hS.2.2 dL_led_16
set_option maxHeartbeats 4000000 in
set_option maxRecDepth 100000 in
theorem c_L_led_x (l : Launch) (hlt : l.stackTraces = false) (D : va_G) (dA : Nat → ClassId) (sz : Nat) (t a pa oo : Nat → Nat) (g0 : Nat) (g2 : Nat) (g4 : Nat) (g5 : Nat) (g6 : Nat) (g7 : Nat) (g8 : Nat) (tp : TopT) (rd : RideT) (pl : PlanT) (f : Nat → Int64) (x0 : Int32) (hf : f_X10_led_x tp rd pl x0 = some ()) : kd_LM l ({ frames := 9, cells := 1, slots := 6, locals := 142 } : Room) D dA [.ref (t 0), .int x0, .ref (oo 0)] sz (w_Top dA t g0 (pa 0) g2 (a 0) g4 g5 g6 g7 g8 tp ++ (w_Ride dA a (pa 0) (pa 1) rd ++ (w_Plan dA pa pl ++ w_Out dA oo f))) 1 6 (1 : Int32) (w_Top dA t g0 (pa 0) g2 (a 0) g4 g5 g6 g7 g8 tp ++ (w_Ride dA a (pa 0) (pa 1) rd ++ (w_Plan dA pa pl ++ w_Out dA oo f))) := by
  refine vx_ofWH (cc := cL_led) (maxL := 4) (ret := some .int) (hh := kd_hh) (by decide) rfl ?_
  intro p e s m args below meth c s₁ B hml hv
  obtain ⟨⟨rfl, hsz, hP, hK, hD0, hE⟩, hZ⟩ := hv
  have hx := B.exec
  have hb := B.bytes
  have hr := B.returns
  have hown : s.vm.findClass RL = some m.cls := findClass_of_methodNamed B.named
  have htab := vx_table (x := yL_led) B (atoms_spec (ws := [.codeWith yL_led cL_led 4 (some .int) kd_hh]) B.pre _ List.mem_cons_self)
  subst hsz
  have hD := hD0.self (sz := s.heap.size)
  generalize hAe : va_A (w_Top dA t g0 (pa 0) g2 (a 0) g4 g5 g6 g7 g8 tp ++ (w_Ride dA a (pa 0) (pa 1) rd ++ (w_Plan dA pa pl ++ w_Out dA oo f))) s.heap.size = A at hD hE hZ ⊢
  have hA : ∀ q : Nat, s.heap.size ≤ q → A q := fun q h => by rw [← hAe]; exact Or.inr h
  have hS : va_S A s.heap s.heap [] := va_S.rf
  have hl := lv_entry ([.ref (t 0), .int x0, .ref (oo 0)]) (n := 4) (Nat.le_of_ble_eq_true rfl)
  rw [lg_entry_eq]
  generalize (lg_sl ([.ref (t 0), .int x0, .ref (oo 0)]) ++ List.replicate (4 - (lg_sl ([.ref (t 0), .int x0, .ref (oo 0)])).length) Slot.unset).toArray = ls at hl ⊢
  have hl : lv_has ls 4 [(0, .ref (t 0)), (1, .int x0), (2, .ref (oo 0))] := hl
  generalize hQ : vx_MQ below (va_Qi (fun r (_ : Unit) => r = (1 : Int32)) (kb_B D A (w_Top dA t g0 (pa 0) g2 (a 0) g4 g5 g6 g7 g8 tp ++ (w_Ride dA a (pa 0) (pa 1) rd ++ (w_Plan dA pa pl ++ w_Out dA oo f)))) A) (kd_XF A) ([.ref (t 0), .int x0, .ref (oo 0)] : List Value).toArray s 1 6 A = Q
  show W p l e ({ frames := 9, cells := 1, slots := 6, locals := 142 } : Room) s m ([.ref (t 0), .int x0, .ref (oo 0)] : List Value).toArray below meth c s.heap [] 0 0 Q (F0 m 0 ls [])
  have hp : ((w_Top dA t g0 (pa 0) g2 (a 0) g4 g5 g6 g7 g8 tp ++ (w_Ride dA a (pa 0) (pa 1) rd ++ (w_Plan dA pa pl ++ w_Out dA oo f))) : va_W).Perm (w_Out dA oo f ++ (w_Top dA t g0 (pa 0) g2 (a 0) g4 g5 g6 g7 g8 tp ++ (w_Ride dA a (pa 0) (pa 1) rd ++ w_Plan dA pa pl))) := kc_sel [w_Top dA t g0 (pa 0) g2 (a 0) g4 g5 g6 g7 g8 tp, w_Ride dA a (pa 0) (pa 1) rd, w_Plan dA pa pl, w_Out dA oo f] 4 [3] [0, 1, 2] rfl (by decide)
  refine lv_aload_n hx hb dL_led_0 rfl (lv_at hl 2 rfl) ?_
  refine lv_iconst (v := (0 : Int32)) hx hb dL_led_1 (by decide) ?_
  refine lv_aload_n hx hb dL_led_2 rfl (lv_at hl 0 rfl) ?_
  refine lv_iload_n hx hb dL_led_3 rfl (lv_at hl 1 rfl) ?_
  have hr9 := vx_runV (p := p) (e := e) (args := ([.ref (t 0), .int x0, .ref (oo 0)] : List Value).toArray) (R := ({ frames := 9, cells := 1, slots := 6, locals := 142 } : Room)) (below := below) (meth := meth) (locs := []) (cells := 0) (slots := 0) (g := F0 m 4 ls [.int x0, .ref (t 0), .int 0, .ref (oo 0)]) (H := s.heap) (Ts := kb_gw) (own := RL) (As := [.int x0]) (rest := [.int 0, .ref (oo 0)]) ⟨hx, hb, hml, hown, fun w hw => hK.2.1 w hw _⟩ (c_X10_led_x l hlt D dA s.heap.size t a pa g0 g2 g4 g5 g6 g7 g8 tp rd pl x0 hf) (kb_cwV (n := 1) (C := "BusSeats") hK.2 ⟨ww_5_124, ww_5_121, ww_5_122, ww_5_123, ww_1_1, rfl, by decide, by decide⟩ rfl rfl (by decide +kernel) ⟨Nat.le_of_ble_eq_true rfl, Nat.le_of_ble_eq_true rfl⟩) ⟨kd_xblind, va_recv hK.1 (kc_in hp hP) (ci := 10) (q0 := 0) rfl rfl, fun U hU hW => ⟨⟨rfl, by rw [hU], by rw [hU]; exact kc_in hp hP, hK.warm hW, (kc_sub hp hD).weaken (fun _ _ _ _ => trivial), by rw [hU]; exact hE.to hS.2.1 (kc_free hp hD hS hA) hW⟩, by rw [hU]; exact (hZ.to hS.2.1 (kc_free hp hD hS hA) hW).1, by rw [hU]; exact (hZ.to hS.2.1 (kc_free hp hD hS hA) hW).2.1, kx_ww (hK.warm hW).2 (kd_Z.to (A1 := A) (H := s.heap) hZ (fun _ _ _ => rfl) (fun _ h => h) hW).2.2⟩⟩ rfl rfl hl.1 rfl (lv_room (Nat.le_of_ble_eq_true rfl)) dL_led_4 ⟨Nat.le_of_ble_eq_true rfl, Nat.le_of_ble_eq_true rfl⟩
  refine vx_calli (S := Unit) (post := fun _ _ => False) (B := fun _ _ => True) (A1 := A) (a := #[]) (kd_xrun hr9) hS (fun _ _ h => h) (kc_free hp hD hS hA) (fun q _ h => kc_free hp hD hS hA q h) (fun E ce q9 u t9 H1 locs1 ht hvm _ hB hz hk hS1 hce hcv hcl => ?_) (fun r u t9 H1 locs1 ht hvm hw => hw.elim)
  obtain ⟨rfl, hP1, hD1⟩ := hB
  rw [ht] at hP1
  obtain ⟨hP2, hD2⟩ := kc_back hP hD hp hk (kc_free hp hD hS hA) hP1 hD1 hp.symm
  refine kx_catch (name := "java/util/NoSuchElementException") hown ⟨0, 9, 12, 13⟩ htab rfl (by decide) (hK.2.w ww_5_120 rfl _) (hZ.2.2 _ List.mem_cons_self _) hce hcv hcl ?_
  refine lv_astore_n (lv' := [(3, .ref q9), (0, .ref (t 0)), (1, .int x0), (2, .ref (oo 0))]) hx hb dL_led_12 rfl hl (by decide) rfl (fun ls hl => ?_)
  refine lv_iconst (v := (1 : Int32)) hx hb dL_led_13 (by decide) ?_
  rw [← hQ]
  refine vx_ret ?_
  exact W.iret hx hb hr (fun t ht hW => ⟨⟨_, (), rfl, rfl, by rw [ht]; exact hP2, hD2⟩, hS1.F ht⟩) hS1.2.2 dL_led_14
