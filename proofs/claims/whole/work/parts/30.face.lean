noncomputable def f_X10_takeDraft_b55 (pl : PlanT) (pd : PlanT) (z0 : TopT) (z3 : RideT) (z4 : FilmsT) (z5 : DealsT) : Option (TopT × RideT × FilmsT × DealsT) := some (z0, z3, z4, z5)
noncomputable def f_X10_takeDraft_b47 (pl : PlanT) (pd : PlanT) (z0 : TopT) (z3 : RideT) (z4 : FilmsT) (z5 : DealsT) : Option (TopT × RideT × FilmsT × DealsT) := f_X10_takeDraft_b55 pl pd z0 z3 z4 (de_set_counted z5 (0 : Int32))
noncomputable def f_X10_takeDraft_b39 (pl : PlanT) (pd : PlanT) (z0 : TopT) (z3 : RideT) (z4 : FilmsT) (z5 : DealsT) : Option (TopT × RideT × FilmsT × DealsT) := f_X10_takeDraft_b47 pl pd z0 z3 (fm_set_count z4 (0 : Int32)) z5
noncomputable def f_X10_takeDraft_b34 (pl : PlanT) (pd : PlanT) (z0 : TopT) (z3 : RideT) (z4 : FilmsT) (z5 : DealsT) : Option (TopT × RideT × FilmsT × DealsT) := f_X10_takeDraft_b39 pl pd (tp_set_markCount z0 (0 : Int32)) z3 z4 z5
noncomputable def f_X10_takeDraft_b23 (pl : PlanT) (pd : PlanT) (z0 : TopT) (z3 : RideT) (z4 : FilmsT) (z5 : DealsT) : Option (TopT × RideT × FilmsT × DealsT) := (f_X6_begin z3 pd).bind fun r1 => f_X10_takeDraft_b34 pl pd z0 r1 z4 z5
noncomputable def f_X10_takeDraft (tp : TopT) (pl : PlanT) (pd : PlanT) (rd : RideT) (fm : FilmsT) (de : DealsT) : Option (TopT × RideT × FilmsT × DealsT) := f_X10_takeDraft_b23 pl pd (tp_set_hasBus tp (1 : Int32)) rd fm de
set_option maxHeartbeats 4000000 in
set_option maxRecDepth 100000 in
theorem c_X10_takeDraft (l : Launch) (D : va_G) (dA : Nat → ClassId) (sz : Nat) (t : Nat → Nat) (pa : Nat → Nat) (db : Nat → Nat) (a : Nat → Nat) (fa : Nat → Nat) (da : Nat → Nat) (g0 : Nat) (g4 : Nat) (g6 : Nat) (g7 : Nat) (h0 : Nat) (h1 : Nat) (h2 : Nat) (tp : TopT) (pl : PlanT) (pd : PlanT) (rd : RideT) (fm : FilmsT) (de : DealsT) (u0 : TopT) (u3 : RideT) (u4 : FilmsT) (u5 : DealsT) (hf : f_X10_takeDraft tp pl pd rd fm de = some (u0, u3, u4, u5)) : kb_Mv l yX10_takeDraft cX10_takeDraft 2 none ({ frames := 2, cells := 0, slots := 0, locals := 44 } : Room) D dA [.ref (t 0)] sz (w_Top dA t g0 (pa 0) (db 0) (a 0) g4 (fa 0) g6 g7 (da 0) tp ++ (w_Plan dA pa pl ++ (w_Plan dA db pd ++ (w_Ride dA a h1 h2 rd ++ (w_Films dA fa fm ++ (w_Deals dA da h0 de)))))) 0 0 (w_Top dA t g0 (db 0) (pa 0) (a 0) g4 (fa 0) g6 g7 (da 0) u0 ++ (w_Plan dA pa pl ++ (w_Plan dA db pd ++ (w_Ride dA a (db 0) (db 1) u3 ++ (w_Films dA fa u4 ++ (w_Deals dA da h0 u5)))))) := by
  refine Met.ofW (cc := cX10_takeDraft) (maxL := 2) (ret := none) (by decide) rfl ?_
  intro p e s m args below meth c s₁ B hml hv
  obtain ⟨rfl, hsz, hP, hK, hD0, hE⟩ := hv
  have hx := B.exec
  have hb := B.bytes
  have hr := B.returns
  have hown : s.vm.findClass RX10 = some m.cls := findClass_of_methodNamed B.named
  have hlocks := B.notSynchronized
  have hts : ∀ w ∈ kb_gw, w.before ([.ref (t 0)] : List Value).toArray s = true := fun w hw => hK.2.1 w hw _
  subst hsz
  have hD := hD0.self (sz := s.heap.size)
  generalize hAe : va_A (w_Top dA t g0 (pa 0) (db 0) (a 0) g4 (fa 0) g6 g7 (da 0) tp ++ (w_Plan dA pa pl ++ (w_Plan dA db pd ++ (w_Ride dA a h1 h2 rd ++ (w_Films dA fa fm ++ (w_Deals dA da h0 de)))))) s.heap.size = A at hD hE ⊢
  have hA : ∀ q : Nat, s.heap.size ≤ q → A q := fun q h => by rw [← hAe]; exact Or.inr h
  have hS : va_S A s.heap s.heap [] := va_S.rf
  have hl := lv_entry ([.ref (t 0)]) (n := 2) (Nat.le_of_ble_eq_true rfl)
  rw [lg_entry_eq]
  generalize (lg_sl ([.ref (t 0)]) ++ List.replicate (2 - (lg_sl ([.ref (t 0)])).length) Slot.unset).toArray = ls at hl ⊢
  have hl : lv_has ls 2 [(0, .ref (t 0))] := hl
  generalize hQ : MQ below (va_Qv (fun (_ : Unit) => True) (kb_B D A (w_Top dA t g0 (db 0) (pa 0) (a 0) g4 (fa 0) g6 g7 (da 0) u0 ++ (w_Plan dA pa pl ++ (w_Plan dA db pd ++ (w_Ride dA a (db 0) (db 1) u3 ++ (w_Films dA fa u4 ++ (w_Deals dA da h0 u5))))))) A) ([.ref (t 0)] : List Value).toArray s 0 0 A = Q
  show W p l e ({ frames := 2, cells := 0, slots := 0, locals := 44 } : Room) s m ([.ref (t 0)] : List Value).toArray below meth c s.heap [] 0 0 Q (F0 m 0 ls [])
  have RET : ∀ (w0 : TopT) (w3 : RideT) (w4 : FilmsT) (w5 : DealsT) (H : Heap) (locs : List Loc) (ls : Array Slot) (pc : Nat), some (w0, w3, w4, w5) = some (u0, u3, u4, u5) → va_P D vwCl (w_Top dA t g0 (db 0) (pa 0) (a 0) g4 (fa 0) g6 g7 (da 0) w0 ++ (w_Plan dA pa pl ++ (w_Plan dA db pd ++ (w_Ride dA a (db 0) (db 1) w3 ++ (w_Films dA fa w4 ++ (w_Deals dA da h0 w5)))))) H → va_D A (w_Top dA t g0 (db 0) (pa 0) (a 0) g4 (fa 0) g6 g7 (da 0) w0 ++ (w_Plan dA pa pl ++ (w_Plan dA db pd ++ (w_Ride dA a (db 0) (db 1) w3 ++ (w_Films dA fa w4 ++ (w_Deals dA da h0 w5)))))) → va_S A s.heap H locs → decode cX10_takeDraft pc = .ok (.return_, 1) → W p l e ({ frames := 2, cells := 0, slots := 0, locals := 44 } : Room) s m ([.ref (t 0)] : List Value).toArray below meth c H locs 0 0 Q (F0 m pc ls []) := by
    intro w0 w3 w4 w5 H locs ls pc hq hP hD hS hd
    cases hq
    rw [← hQ]
    exact W.vret hx hb hr (fun t ht hW => ⟨⟨(), rfl, trivial, by rw [ht]; exact hP, hD⟩, hS.F ht⟩) hS.2.2 hd
  have B_55 : ∀ (z0 : TopT) (z3 : RideT) (z4 : FilmsT) (z5 : DealsT) (H : Heap) (locs : List Loc) (ls : Array Slot), f_X10_takeDraft_b55 pl pd z0 z3 z4 z5 = some (u0, u3, u4, u5) → va_P D vwCl (w_Top dA t g0 (db 0) (pa 0) (a 0) g4 (fa 0) g6 g7 (da 0) z0 ++ (w_Plan dA pa pl ++ (w_Plan dA db pd ++ (w_Ride dA a (db 0) (db 1) z3 ++ (w_Films dA fa z4 ++ (w_Deals dA da h0 z5)))))) H → va_D A (w_Top dA t g0 (db 0) (pa 0) (a 0) g4 (fa 0) g6 g7 (da 0) z0 ++ (w_Plan dA pa pl ++ (w_Plan dA db pd ++ (w_Ride dA a (db 0) (db 1) z3 ++ (w_Films dA fa z4 ++ (w_Deals dA da h0 z5)))))) → va_S A s.heap H locs → lv_has ls 2 [] → W p l e ({ frames := 2, cells := 0, slots := 0, locals := 44 } : Room) s m ([.ref (t 0)] : List Value).toArray below meth c H locs 0 0 Q (F0 m 55 ls []) := by
    intro z0 z3 z4 z5 H locs ls hf hP hD hS hl
    rw [f_X10_takeDraft_b55] at hf
    exact RET _ _ _ _ H _ ls 55 hf hP hD hS dX10_takeDraft_55
  have B_47 : ∀ (z0 : TopT) (z3 : RideT) (z4 : FilmsT) (z5 : DealsT) (H : Heap) (locs : List Loc) (ls : Array Slot), f_X10_takeDraft_b47 pl pd z0 z3 z4 z5 = some (u0, u3, u4, u5) → va_P D vwCl (w_Top dA t g0 (db 0) (pa 0) (a 0) g4 (fa 0) g6 g7 (da 0) z0 ++ (w_Plan dA pa pl ++ (w_Plan dA db pd ++ (w_Ride dA a (db 0) (db 1) z3 ++ (w_Films dA fa z4 ++ (w_Deals dA da h0 z5)))))) H → va_D A (w_Top dA t g0 (db 0) (pa 0) (a 0) g4 (fa 0) g6 g7 (da 0) z0 ++ (w_Plan dA pa pl ++ (w_Plan dA db pd ++ (w_Ride dA a (db 0) (db 1) z3 ++ (w_Films dA fa z4 ++ (w_Deals dA da h0 z5)))))) → va_S A s.heap H locs → lv_has ls 2 [(0, .ref (t 0))] → W p l e ({ frames := 2, cells := 0, slots := 0, locals := 44 } : Room) s m ([.ref (t 0)] : List Value).toArray below meth c H locs 0 0 Q (F0 m 47 ls []) := by
    intro z0 z3 z4 z5 H locs ls hf hP hD hS hl
    rw [f_X10_takeDraft_b47] at hf
    refine lv_aload_n hx hb dX10_takeDraft_47 rfl (lv_at hl 0 rfl) ?_
    refine va_get (D := D) (ci := 10) (v := .ref (da 0)) (C := RX10) (T := TX10) (N := 12) hx hb hts kb_inX10 hown hK.1 hP 0 rfl rfl 10 (by decide) (hK.2.w ww_2_162 rfl _) (fun _ h9 => h9) rfl dX10_takeDraft_48 ?_
    refine lv_iconst (v := (0 : Int32)) hx hb dX10_takeDraft_51 (by decide) ?_
    refine va_put (D := D) (ci := 1) (v := .int (0 : Int32)) (ty := .boolean) (C := RX1) (T := TX1) (N := 5) hx hb hts kb_inX1 tyX1 tyX1_ok nmX1 hown hK.1 hP hD hS 55 rfl rfl 0 (by decide) (hK.2.w ww_2_134 rfl _) (fun _ h9 => h9) rfl (by decide +kernel) rfl rfl (Nat.le_of_ble_eq_true rfl) dX10_takeDraft_52 (fun H locs hP hD hS => ?_)
    have hP : va_P D vwCl (w_Top dA t g0 (db 0) (pa 0) (a 0) g4 (fa 0) g6 g7 (da 0) z0 ++ (w_Plan dA pa pl ++ (w_Plan dA db pd ++ (w_Ride dA a (db 0) (db 1) z3 ++ (w_Films dA fa z4 ++ (w_Deals dA da h0 (de_set_counted z5 (0 : Int32)))))))) H := hP
    have hD : va_D A (w_Top dA t g0 (db 0) (pa 0) (a 0) g4 (fa 0) g6 g7 (da 0) z0 ++ (w_Plan dA pa pl ++ (w_Plan dA db pd ++ (w_Ride dA a (db 0) (db 1) z3 ++ (w_Films dA fa z4 ++ (w_Deals dA da h0 (de_set_counted z5 (0 : Int32)))))))) := hD
    exact B_55 _ _ _ _ _ _ _ hf hP hD hS (lv_sub hl [] rfl)
  have B_39 : ∀ (z0 : TopT) (z3 : RideT) (z4 : FilmsT) (z5 : DealsT) (H : Heap) (locs : List Loc) (ls : Array Slot), f_X10_takeDraft_b39 pl pd z0 z3 z4 z5 = some (u0, u3, u4, u5) → va_P D vwCl (w_Top dA t g0 (db 0) (pa 0) (a 0) g4 (fa 0) g6 g7 (da 0) z0 ++ (w_Plan dA pa pl ++ (w_Plan dA db pd ++ (w_Ride dA a (db 0) (db 1) z3 ++ (w_Films dA fa z4 ++ (w_Deals dA da h0 z5)))))) H → va_D A (w_Top dA t g0 (db 0) (pa 0) (a 0) g4 (fa 0) g6 g7 (da 0) z0 ++ (w_Plan dA pa pl ++ (w_Plan dA db pd ++ (w_Ride dA a (db 0) (db 1) z3 ++ (w_Films dA fa z4 ++ (w_Deals dA da h0 z5)))))) → va_S A s.heap H locs → lv_has ls 2 [(0, .ref (t 0))] → W p l e ({ frames := 2, cells := 0, slots := 0, locals := 44 } : Room) s m ([.ref (t 0)] : List Value).toArray below meth c H locs 0 0 Q (F0 m 39 ls []) := by
    intro z0 z3 z4 z5 H locs ls hf hP hD hS hl
    rw [f_X10_takeDraft_b39] at hf
    refine lv_aload_n hx hb dX10_takeDraft_39 rfl (lv_at hl 0 rfl) ?_
    refine va_get (D := D) (ci := 10) (v := .ref (fa 0)) (C := RX10) (T := TX10) (N := 12) hx hb hts kb_inX10 hown hK.1 hP 0 rfl rfl 7 (by decide) (hK.2.w ww_2_159 rfl _) (fun _ h9 => h9) rfl dX10_takeDraft_40 ?_
    refine lv_iconst (v := (0 : Int32)) hx hb dX10_takeDraft_43 (by decide) ?_
    refine va_put (D := D) (ci := 2) (v := .int (0 : Int32)) (ty := .int) (C := RX2) (T := TX2) (N := 3) hx hb hts kb_inX2 tyX2 tyX2_ok nmX2 hown hK.1 hP hD hS 52 rfl rfl 2 (by decide) (hK.2.w ww_2_32 rfl _) (fun _ h9 => h9) rfl (by decide +kernel) rfl rfl (Nat.le_of_ble_eq_true rfl) dX10_takeDraft_44 (fun H locs hP hD hS => ?_)
    have hP : va_P D vwCl (w_Top dA t g0 (db 0) (pa 0) (a 0) g4 (fa 0) g6 g7 (da 0) z0 ++ (w_Plan dA pa pl ++ (w_Plan dA db pd ++ (w_Ride dA a (db 0) (db 1) z3 ++ (w_Films dA fa (fm_set_count z4 (0 : Int32)) ++ (w_Deals dA da h0 z5)))))) H := hP
    have hD : va_D A (w_Top dA t g0 (db 0) (pa 0) (a 0) g4 (fa 0) g6 g7 (da 0) z0 ++ (w_Plan dA pa pl ++ (w_Plan dA db pd ++ (w_Ride dA a (db 0) (db 1) z3 ++ (w_Films dA fa (fm_set_count z4 (0 : Int32)) ++ (w_Deals dA da h0 z5)))))) := hD
    exact B_47 _ _ _ _ _ _ _ hf hP hD hS (lv_sub hl [0] rfl)
  have B_34 : ∀ (z0 : TopT) (z3 : RideT) (z4 : FilmsT) (z5 : DealsT) (H : Heap) (locs : List Loc) (ls : Array Slot), f_X10_takeDraft_b34 pl pd z0 z3 z4 z5 = some (u0, u3, u4, u5) → va_P D vwCl (w_Top dA t g0 (db 0) (pa 0) (a 0) g4 (fa 0) g6 g7 (da 0) z0 ++ (w_Plan dA pa pl ++ (w_Plan dA db pd ++ (w_Ride dA a (db 0) (db 1) z3 ++ (w_Films dA fa z4 ++ (w_Deals dA da h0 z5)))))) H → va_D A (w_Top dA t g0 (db 0) (pa 0) (a 0) g4 (fa 0) g6 g7 (da 0) z0 ++ (w_Plan dA pa pl ++ (w_Plan dA db pd ++ (w_Ride dA a (db 0) (db 1) z3 ++ (w_Films dA fa z4 ++ (w_Deals dA da h0 z5)))))) → va_S A s.heap H locs → lv_has ls 2 [(0, .ref (t 0))] → W p l e ({ frames := 2, cells := 0, slots := 0, locals := 44 } : Room) s m ([.ref (t 0)] : List Value).toArray below meth c H locs 0 0 Q (F0 m 34 ls []) := by
    intro z0 z3 z4 z5 H locs ls hf hP hD hS hl
    rw [f_X10_takeDraft_b34] at hf
    refine lv_aload_n hx hb dX10_takeDraft_34 rfl (lv_at hl 0 rfl) ?_
    refine lv_iconst (v := (0 : Int32)) hx hb dX10_takeDraft_35 (by decide) ?_
    refine va_put (D := D) (ci := 10) (v := .int (0 : Int32)) (ty := .int) (C := RX10) (T := TX10) (N := 12) hx hb hts kb_inX10 tyX10 tyX10_ok nmX10 hown hK.1 hP hD hS 0 rfl rfl 6 (by decide) (hK.2.w ww_2_158 rfl _) (fun _ h9 => h9) rfl (by decide +kernel) rfl rfl (Nat.le_of_ble_eq_true rfl) dX10_takeDraft_36 (fun H locs hP hD hS => ?_)
    have hP : va_P D vwCl (w_Top dA t g0 (db 0) (pa 0) (a 0) g4 (fa 0) g6 g7 (da 0) (tp_set_markCount z0 (0 : Int32)) ++ (w_Plan dA pa pl ++ (w_Plan dA db pd ++ (w_Ride dA a (db 0) (db 1) z3 ++ (w_Films dA fa z4 ++ (w_Deals dA da h0 z5)))))) H := hP
    have hD : va_D A (w_Top dA t g0 (db 0) (pa 0) (a 0) g4 (fa 0) g6 g7 (da 0) (tp_set_markCount z0 (0 : Int32)) ++ (w_Plan dA pa pl ++ (w_Plan dA db pd ++ (w_Ride dA a (db 0) (db 1) z3 ++ (w_Films dA fa z4 ++ (w_Deals dA da h0 z5)))))) := hD
    exact B_39 _ _ _ _ _ _ _ hf hP hD hS (lv_sub hl [0] rfl)
  have B_23 : ∀ (z0 : TopT) (z3 : RideT) (z4 : FilmsT) (z5 : DealsT) (H : Heap) (locs : List Loc) (ls : Array Slot), f_X10_takeDraft_b23 pl pd z0 z3 z4 z5 = some (u0, u3, u4, u5) → va_P D vwCl (w_Top dA t g0 (db 0) (pa 0) (a 0) g4 (fa 0) g6 g7 (da 0) z0 ++ (w_Plan dA pa pl ++ (w_Plan dA db pd ++ (w_Ride dA a h1 h2 z3 ++ (w_Films dA fa z4 ++ (w_Deals dA da h0 z5)))))) H → va_D A (w_Top dA t g0 (db 0) (pa 0) (a 0) g4 (fa 0) g6 g7 (da 0) z0 ++ (w_Plan dA pa pl ++ (w_Plan dA db pd ++ (w_Ride dA a h1 h2 z3 ++ (w_Films dA fa z4 ++ (w_Deals dA da h0 z5)))))) → va_S A s.heap H locs → lv_has ls 2 [(0, .ref (t 0))] → W p l e ({ frames := 2, cells := 0, slots := 0, locals := 44 } : Room) s m ([.ref (t 0)] : List Value).toArray below meth c H locs 0 0 Q (F0 m 23 ls []) := by
    intro z0 z3 z4 z5 H locs ls hf hP hD hS hl
    rw [f_X10_takeDraft_b23] at hf
    refine lv_aload_n hx hb dX10_takeDraft_23 rfl (lv_at hl 0 rfl) ?_
    refine va_get (D := D) (ci := 10) (v := .ref (a 0)) (C := RX10) (T := TX10) (N := 12) hx hb hts kb_inX10 hown hK.1 hP 0 rfl rfl 4 (by decide) (hK.2.w ww_2_156 rfl _) (fun _ h9 => h9) rfl dX10_takeDraft_24 ?_
    refine lv_aload_n hx hb dX10_takeDraft_27 rfl (lv_at hl 0 rfl) ?_
    refine va_get (D := D) (ci := 10) (v := .ref (db 0)) (C := RX10) (T := TX10) (N := 12) hx hb hts kb_inX10 hown hK.1 hP 0 rfl rfl 1 (by decide) (hK.2.w ww_2_153 rfl _) (fun _ h9 => h9) rfl dX10_takeDraft_28 ?_
    obtain ⟨r1, hc1, hf⟩ := kb_bind hf
    refine kb_cv (ws2 := (w_Top dA t g0 (db 0) (pa 0) (a 0) g4 (fa 0) g6 g7 (da 0) z0 ++ (w_Plan dA pa pl ++ (w_Plan dA db pd ++ (w_Ride dA a (db 0) (db 1) r1 ++ (w_Films dA fa z4 ++ (w_Deals dA da h0 z5))))))) (kb_rV (n := 1) (As := [.ref (db 0)]) (rest := []) hx hb hml hown hK (c_X6_begin l D dA H.size a db h1 h2 z3 pd r1 hc1) ⟨ww_3_176, ww_3_173, ww_3_174, ww_3_175, ww_1_8, rfl, by decide, by decide⟩ rfl rfl (by decide +kernel) ⟨Nat.le_of_ble_eq_true rfl, Nat.le_of_ble_eq_true rfl⟩ hP hD hS hA hE [43, 44, 45, 46, 47, 48, 49, 50, 51, 22, 23, 24, 25, 26, 27, 28, 29, 30, 31, 32, 33, 34, 35, 36, 37, 38, 39, 40, 41, 42] rfl (by decide) 0 rfl rfl rfl hl.1 rfl (Nat.le_of_ble_eq_true rfl) dX10_takeDraft_31 ⟨Nat.le_of_ble_eq_true rfl, Nat.le_of_ble_eq_true rfl⟩) hP hD hS hA [43, 44, 45, 46, 47, 48, 49, 50, 51, 22, 23, 24, 25, 26, 27, 28, 29, 30, 31, 32, 33, 34, 35, 36, 37, 38, 39, 40, 41, 42] [0, 1, 2, 3, 4, 5, 6, 7, 8, 9, 10, 11, 12, 13, 14, 15, 16, 17, 18, 19, 20, 21, 52, 53, 54, 55, 56, 57, 58] [0, 1, 2, 3, 4, 5, 6, 7, 8, 9, 10, 11, 12, 13, 14, 15, 16, 17, 18, 19, 20, 21, 38, 39, 40, 41, 42, 43, 44, 45, 46, 47, 48, 49, 50, 51, 52, 53, 54, 55, 56, 57, 58, 29, 30, 31, 32, 33, 34, 35, 36, 37, 22, 23, 24, 25, 26, 27, 28] rfl rfl (by decide) (by decide) rfl (by decide) (fun H locs hP hD hS => ?_)
    exact B_34 _ _ _ _ _ _ _ hf hP hD hS (lv_sub hl [0] rfl)
  have E0 : ∀ (H : Heap) (locs : List Loc), va_P D vwCl (w_Top dA t g0 (pa 0) (db 0) (a 0) g4 (fa 0) g6 g7 (da 0) tp ++ (w_Plan dA pa pl ++ (w_Plan dA db pd ++ (w_Ride dA a h1 h2 rd ++ (w_Films dA fa fm ++ (w_Deals dA da h0 de)))))) H → va_D A (w_Top dA t g0 (pa 0) (db 0) (a 0) g4 (fa 0) g6 g7 (da 0) tp ++ (w_Plan dA pa pl ++ (w_Plan dA db pd ++ (w_Ride dA a h1 h2 rd ++ (w_Films dA fa fm ++ (w_Deals dA da h0 de)))))) → va_S A s.heap H locs → W p l e ({ frames := 2, cells := 0, slots := 0, locals := 44 } : Room) s m ([.ref (t 0)] : List Value).toArray below meth c H locs 0 0 Q (F0 m 0 ls []) := by
    intro H locs hP hD hS
    rw [f_X10_takeDraft] at hf
    refine lv_aload_n hx hb dX10_takeDraft_0 rfl (lv_at hl 0 rfl) ?_
    refine va_get (D := D) (ci := 10) (v := .ref (pa 0)) (C := RX10) (T := TX10) (N := 12) hx hb hts kb_inX10 hown hK.1 hP 0 rfl rfl 1 (by decide) (hK.2.w ww_2_153 rfl _) (fun _ h9 => h9) rfl dX10_takeDraft_1 ?_
    refine lv_astore_n (lv' := [(1, .ref (pa 0)), (0, .ref (t 0))]) hx hb dX10_takeDraft_4 rfl hl (by decide) rfl (fun ls hl => ?_)
    refine lv_aload_n hx hb dX10_takeDraft_5 rfl (lv_at hl 1 rfl) ?_
    refine lv_aload_n hx hb dX10_takeDraft_6 rfl (lv_at hl 1 rfl) ?_
    refine va_get (D := D) (ci := 10) (v := .ref (db 0)) (C := RX10) (T := TX10) (N := 12) hx hb hts kb_inX10 hown hK.1 hP 0 rfl rfl 2 (by decide) (hK.2.w ww_2_154 rfl _) (fun _ h9 => h9) rfl dX10_takeDraft_7 ?_
    refine va_put (D := D) (ci := 10) (v := .ref (db 0)) (ty := .object "BusSeats$Plan") (C := RX10) (T := TX10) (N := 12) hx hb hts kb_inX10 tyX10 tyX10_ok nmX10 hown hK.1 hP hD hS 0 rfl rfl 1 (by decide) (hK.2.w ww_2_153 rfl _) (fun _ h9 => h9) rfl (by decide +kernel) rfl rfl (Nat.le_of_ble_eq_true rfl) dX10_takeDraft_10 (fun H locs hP hD hS => ?_)
    have hP : va_P D vwCl (w_Top dA t g0 (db 0) (db 0) (a 0) g4 (fa 0) g6 g7 (da 0) tp ++ (w_Plan dA pa pl ++ (w_Plan dA db pd ++ (w_Ride dA a h1 h2 rd ++ (w_Films dA fa fm ++ (w_Deals dA da h0 de)))))) H := hP
    have hD : va_D A (w_Top dA t g0 (db 0) (db 0) (a 0) g4 (fa 0) g6 g7 (da 0) tp ++ (w_Plan dA pa pl ++ (w_Plan dA db pd ++ (w_Ride dA a h1 h2 rd ++ (w_Films dA fa fm ++ (w_Deals dA da h0 de)))))) := hD
    refine lv_aload_n hx hb dX10_takeDraft_13 rfl (lv_at hl 1 rfl) ?_
    refine lv_aload_n hx hb dX10_takeDraft_14 rfl (lv_at hl 0 rfl) ?_
    refine va_put (D := D) (ci := 10) (v := .ref (pa 0)) (ty := .object "BusSeats$Plan") (C := RX10) (T := TX10) (N := 12) hx hb hts kb_inX10 tyX10 tyX10_ok nmX10 hown hK.1 hP hD hS 0 rfl rfl 2 (by decide) (hK.2.w ww_2_154 rfl _) (fun _ h9 => h9) rfl (by decide +kernel) rfl rfl (Nat.le_of_ble_eq_true rfl) dX10_takeDraft_15 (fun H locs hP hD hS => ?_)
    have hP : va_P D vwCl (w_Top dA t g0 (db 0) (pa 0) (a 0) g4 (fa 0) g6 g7 (da 0) tp ++ (w_Plan dA pa pl ++ (w_Plan dA db pd ++ (w_Ride dA a h1 h2 rd ++ (w_Films dA fa fm ++ (w_Deals dA da h0 de)))))) H := hP
    have hD : va_D A (w_Top dA t g0 (db 0) (pa 0) (a 0) g4 (fa 0) g6 g7 (da 0) tp ++ (w_Plan dA pa pl ++ (w_Plan dA db pd ++ (w_Ride dA a h1 h2 rd ++ (w_Films dA fa fm ++ (w_Deals dA da h0 de)))))) := hD
    refine lv_aload_n hx hb dX10_takeDraft_18 rfl (lv_at hl 1 rfl) ?_
    refine lv_iconst (v := (1 : Int32)) hx hb dX10_takeDraft_19 (by decide) ?_
    refine va_put (D := D) (ci := 10) (v := .int (1 : Int32)) (ty := .boolean) (C := RX10) (T := TX10) (N := 12) hx hb hts kb_inX10 tyX10 tyX10_ok nmX10 hown hK.1 hP hD hS 0 rfl rfl 3 (by decide) (hK.2.w ww_2_155 rfl _) (fun _ h9 => h9) rfl (by decide +kernel) rfl rfl (Nat.le_of_ble_eq_true rfl) dX10_takeDraft_20 (fun H locs hP hD hS => ?_)
    have hP : va_P D vwCl (w_Top dA t g0 (db 0) (pa 0) (a 0) g4 (fa 0) g6 g7 (da 0) (tp_set_hasBus tp (1 : Int32)) ++ (w_Plan dA pa pl ++ (w_Plan dA db pd ++ (w_Ride dA a h1 h2 rd ++ (w_Films dA fa fm ++ (w_Deals dA da h0 de)))))) H := hP
    have hD : va_D A (w_Top dA t g0 (db 0) (pa 0) (a 0) g4 (fa 0) g6 g7 (da 0) (tp_set_hasBus tp (1 : Int32)) ++ (w_Plan dA pa pl ++ (w_Plan dA db pd ++ (w_Ride dA a h1 h2 rd ++ (w_Films dA fa fm ++ (w_Deals dA da h0 de)))))) := hD
    exact B_23 _ _ _ _ _ _ _ hf hP hD hS (lv_sub hl [1] rfl)
  exact E0 _ _ hP hD hS

noncomputable def f_X10_film_b39 (pl : PlanT) (z0 : TopT) (z2 : FilmsT) : Option (Int32 × TopT × FilmsT) := (f_X10_refused z0 (2 : Int32)).bind fun r4 => some (r4.1, r4.2, z2)
noncomputable def f_X10_film_b72 (pl : PlanT) (z0 : TopT) (z2 : FilmsT) : Option (Int32 × TopT × FilmsT) := (f_X10_answered z0 (fm_count z2)).bind fun r9 => some (r9.1, r9.2, z2)
noncomputable def f_X10_film (tp : TopT) (pl : PlanT) (fm : FilmsT) (x0 : Int32) (x1 : Int32) : Option (Int32 × TopT × FilmsT) := (f_X10_isSeat tp pl x1).bind fun r1 => (if r1 = 0 then (f_X10_refused tp (1 : Int32)).bind fun r11 => some (r11.1, r11.2, fm) else (if (x0 &&& ((cb_seats (pl_cab pl)) ^^^ (-1 : Int32))) = 0 then (f_X10_holdsBit x0 x1).bind fun r5 => (if r5 = 0 then (if (fm_count fm) < (12 : Int32) then (f_X2_add fm x0 x1).bind fun r8 => f_X10_film_b72 pl tp r8 else (f_X10_refused tp (3 : Int32)).bind fun r10 => some (r10.1, r10.2, fm)) else f_X10_film_b39 pl tp fm) else f_X10_film_b39 pl tp fm))
set_option maxHeartbeats 4000000 in
set_option maxRecDepth 100000 in
theorem c_X10_film (l : Launch) (D : va_G) (dA : Nat → ClassId) (sz : Nat) (t : Nat → Nat) (pa : Nat → Nat) (fa : Nat → Nat) (g0 : Nat) (g2 : Nat) (g3 : Nat) (g4 : Nat) (g6 : Nat) (g7 : Nat) (g8 : Nat) (tp : TopT) (pl : PlanT) (fm : FilmsT) (x0 : Int32) (x1 : Int32) (rv : Int32) (u0 : TopT) (u2 : FilmsT) (hf : f_X10_film tp pl fm x0 x1 = some (rv, u0, u2)) : kb_Mi l yX10_film cX10_film 3 (some .int) ({ frames := 2, cells := 0, slots := 0, locals := 42 } : Room) D dA [.ref (t 0), .int x0, .int x1] sz (w_Top dA t g0 (pa 0) g2 g3 g4 (fa 0) g6 g7 g8 tp ++ (w_Plan dA pa pl ++ (w_Films dA fa fm))) 0 0 rv (w_Top dA t g0 (pa 0) g2 g3 g4 (fa 0) g6 g7 g8 u0 ++ (w_Plan dA pa pl ++ (w_Films dA fa u2))) := by
  refine Met.ofW (cc := cX10_film) (maxL := 3) (ret := (some .int)) (by decide) rfl ?_
  intro p e s m args below meth c s₁ B hml hv
  obtain ⟨rfl, hsz, hP, hK, hD0, hE⟩ := hv
  have hx := B.exec
  have hb := B.bytes
  have hr := B.returns
  have hown : s.vm.findClass RX10 = some m.cls := findClass_of_methodNamed B.named
  have hlocks := B.notSynchronized
  have hts : ∀ w ∈ kb_gw, w.before ([.ref (t 0), .int x0, .int x1] : List Value).toArray s = true := fun w hw => hK.2.1 w hw _
  subst hsz
  have hD := hD0.self (sz := s.heap.size)
  generalize hAe : va_A (w_Top dA t g0 (pa 0) g2 g3 g4 (fa 0) g6 g7 g8 tp ++ (w_Plan dA pa pl ++ (w_Films dA fa fm))) s.heap.size = A at hD hE ⊢
  have hA : ∀ q : Nat, s.heap.size ≤ q → A q := fun q h => by rw [← hAe]; exact Or.inr h
  have hS : va_S A s.heap s.heap [] := va_S.rf
  have hl := lv_entry ([.ref (t 0), .int x0, .int x1]) (n := 3) (Nat.le_of_ble_eq_true rfl)
  rw [lg_entry_eq]
  generalize (lg_sl ([.ref (t 0), .int x0, .int x1]) ++ List.replicate (3 - (lg_sl ([.ref (t 0), .int x0, .int x1])).length) Slot.unset).toArray = ls at hl ⊢
  have hl : lv_has ls 3 [(0, .ref (t 0)), (1, .int x0), (2, .int x1)] := hl
  generalize hQ : MQ below (va_Qi (fun r (_ : Unit) => r = rv) (kb_B D A (w_Top dA t g0 (pa 0) g2 g3 g4 (fa 0) g6 g7 g8 u0 ++ (w_Plan dA pa pl ++ (w_Films dA fa u2)))) A) ([.ref (t 0), .int x0, .int x1] : List Value).toArray s 0 0 A = Q
  show W p l e ({ frames := 2, cells := 0, slots := 0, locals := 42 } : Room) s m ([.ref (t 0), .int x0, .int x1] : List Value).toArray below meth c s.heap [] 0 0 Q (F0 m 0 ls [])
  have RET : ∀ (r2 : Int32) (w0 : TopT) (w2 : FilmsT) (H : Heap) (locs : List Loc) (ls : Array Slot) (pc : Nat), some (r2, w0, w2) = some (rv, u0, u2) → va_P D vwCl (w_Top dA t g0 (pa 0) g2 g3 g4 (fa 0) g6 g7 g8 w0 ++ (w_Plan dA pa pl ++ (w_Films dA fa w2))) H → va_D A (w_Top dA t g0 (pa 0) g2 g3 g4 (fa 0) g6 g7 g8 w0 ++ (w_Plan dA pa pl ++ (w_Films dA fa w2))) → va_S A s.heap H locs → decode cX10_film pc = .ok (.ireturn, 1) → W p l e ({ frames := 2, cells := 0, slots := 0, locals := 42 } : Room) s m ([.ref (t 0), .int x0, .int x1] : List Value).toArray below meth c H locs 0 0 Q (F0 m pc ls [.int r2]) := by
    intro r2 w0 w2 H locs ls pc hq hP hD hS hd
    cases hq
    rw [← hQ]
    exact W.iret hx hb hr (fun t ht hW => ⟨⟨_, (), rfl, rfl, by rw [ht]; exact hP, hD⟩, hS.F ht⟩) hS.2.2 hd
  have B_39 : ∀ (z0 : TopT) (z2 : FilmsT) (H : Heap) (locs : List Loc) (ls : Array Slot), f_X10_film_b39 pl z0 z2 = some (rv, u0, u2) → va_P D vwCl (w_Top dA t g0 (pa 0) g2 g3 g4 (fa 0) g6 g7 g8 z0 ++ (w_Plan dA pa pl ++ (w_Films dA fa z2))) H → va_D A (w_Top dA t g0 (pa 0) g2 g3 g4 (fa 0) g6 g7 g8 z0 ++ (w_Plan dA pa pl ++ (w_Films dA fa z2))) → va_S A s.heap H locs → lv_has ls 3 [(0, .ref (t 0))] → W p l e ({ frames := 2, cells := 0, slots := 0, locals := 42 } : Room) s m ([.ref (t 0), .int x0, .int x1] : List Value).toArray below meth c H locs 0 0 Q (F0 m 39 ls []) := by
    intro z0 z2 H locs ls hf hP hD hS hl
    rw [f_X10_film_b39] at hf
    refine lv_aload_n hx hb dX10_film_39 rfl (lv_at hl 0 rfl) ?_
    refine lv_iconst (v := (2 : Int32)) hx hb dX10_film_40 (by decide) ?_
    obtain ⟨r4, hc4, hf⟩ := kb_bind hf
    refine kb_ci (ws2 := (w_Top dA t g0 (pa 0) g2 g3 g4 (fa 0) g6 g7 g8 r4.2 ++ (w_Plan dA pa pl ++ (w_Films dA fa z2)))) (kb_rV (n := 1) (As := [.int (2 : Int32)]) (rest := []) hx hb hml hown hK (c_X10_refused l D dA H.size t g0 (pa 0) g2 g3 g4 (fa 0) g6 g7 g8 z0 (2 : Int32) r4.1 r4.2 hc4) ⟨ww_2_204, ww_2_201, ww_2_203, ws_0, ww_1_1, rfl, by decide, by decide⟩ rfl rfl (by decide +kernel) ⟨Nat.le_of_ble_eq_true rfl, Nat.le_of_ble_eq_true rfl⟩ hP hD hS hA hE [0] rfl (by decide) 0 rfl rfl rfl hl.1 rfl (Nat.le_of_ble_eq_true rfl) dX10_film_41 ⟨Nat.le_of_ble_eq_true rfl, Nat.le_of_ble_eq_true rfl⟩) hP hD hS hA [0] [1, 2, 3, 4, 5, 6, 7, 8, 9, 10, 11, 12, 13, 14, 15, 16, 17, 18, 19, 20, 21, 22, 23, 24] [24, 0, 1, 2, 3, 4, 5, 6, 7, 8, 9, 10, 11, 12, 13, 14, 15, 16, 17, 18, 19, 20, 21, 22, 23] rfl rfl (by decide) (by decide) rfl (by decide) (fun H locs hP hD hS => ?_)
    exact RET _ _ _ H _ ls 44 hf hP hD hS dX10_film_44
  have B_72 : ∀ (z0 : TopT) (z2 : FilmsT) (H : Heap) (locs : List Loc) (ls : Array Slot), f_X10_film_b72 pl z0 z2 = some (rv, u0, u2) → va_P D vwCl (w_Top dA t g0 (pa 0) g2 g3 g4 (fa 0) g6 g7 g8 z0 ++ (w_Plan dA pa pl ++ (w_Films dA fa z2))) H → va_D A (w_Top dA t g0 (pa 0) g2 g3 g4 (fa 0) g6 g7 g8 z0 ++ (w_Plan dA pa pl ++ (w_Films dA fa z2))) → va_S A s.heap H locs → lv_has ls 3 [(0, .ref (t 0))] → W p l e ({ frames := 2, cells := 0, slots := 0, locals := 42 } : Room) s m ([.ref (t 0), .int x0, .int x1] : List Value).toArray below meth c H locs 0 0 Q (F0 m 72 ls []) := by
    intro z0 z2 H locs ls hf hP hD hS hl
    rw [f_X10_film_b72] at hf
    refine lv_aload_n hx hb dX10_film_72 rfl (lv_at hl 0 rfl) ?_
    refine lv_aload_n hx hb dX10_film_73 rfl (lv_at hl 0 rfl) ?_
    refine va_get (D := D) (ci := 10) (v := .ref (fa 0)) (C := RX10) (T := TX10) (N := 12) hx hb hts kb_inX10 hown hK.1 hP 0 rfl rfl 7 (by decide) (hK.2.w ww_2_159 rfl _) (fun _ h9 => h9) rfl dX10_film_74 ?_
    refine va_get (D := D) (ci := 2) (v := .int (fm_count z2)) (C := RX2) (T := TX2) (N := 3) hx hb hts kb_inX2 hown hK.1 hP 22 rfl rfl 2 (by decide) (hK.2.w ww_2_32 rfl _) (fun _ h9 => h9) rfl dX10_film_77 ?_
    obtain ⟨r9, hc9, hf⟩ := kb_bind hf
    refine kb_ci (ws2 := (w_Top dA t g0 (pa 0) g2 g3 g4 (fa 0) g6 g7 g8 r9.2 ++ (w_Plan dA pa pl ++ (w_Films dA fa z2)))) (kb_rV (n := 1) (As := [.int (fm_count z2)]) (rest := []) hx hb hml hown hK (c_X10_answered l D dA H.size t g0 (pa 0) g2 g3 g4 (fa 0) g6 g7 g8 z0 (fm_count z2) r9.1 r9.2 hc9) ⟨ww_3_184, ww_3_181, ww_3_183, ws_22, ww_1_1, rfl, by decide, by decide⟩ rfl rfl (by decide +kernel) ⟨Nat.le_of_ble_eq_true rfl, Nat.le_of_ble_eq_true rfl⟩ hP hD hS hA hE [0] rfl (by decide) 0 rfl rfl rfl hl.1 rfl (Nat.le_of_ble_eq_true rfl) dX10_film_80 ⟨Nat.le_of_ble_eq_true rfl, Nat.le_of_ble_eq_true rfl⟩) hP hD hS hA [0] [1, 2, 3, 4, 5, 6, 7, 8, 9, 10, 11, 12, 13, 14, 15, 16, 17, 18, 19, 20, 21, 22, 23, 24] [24, 0, 1, 2, 3, 4, 5, 6, 7, 8, 9, 10, 11, 12, 13, 14, 15, 16, 17, 18, 19, 20, 21, 22, 23] rfl rfl (by decide) (by decide) rfl (by decide) (fun H locs hP hD hS => ?_)
    exact RET _ _ _ H _ ls 83 hf hP hD hS dX10_film_83
  have E0 : ∀ (H : Heap) (locs : List Loc), va_P D vwCl (w_Top dA t g0 (pa 0) g2 g3 g4 (fa 0) g6 g7 g8 tp ++ (w_Plan dA pa pl ++ (w_Films dA fa fm))) H → va_D A (w_Top dA t g0 (pa 0) g2 g3 g4 (fa 0) g6 g7 g8 tp ++ (w_Plan dA pa pl ++ (w_Films dA fa fm))) → va_S A s.heap H locs → W p l e ({ frames := 2, cells := 0, slots := 0, locals := 42 } : Room) s m ([.ref (t 0), .int x0, .int x1] : List Value).toArray below meth c H locs 0 0 Q (F0 m 0 ls []) := by
    intro H locs hP hD hS
    rw [f_X10_film] at hf
    refine lv_aload_n hx hb dX10_film_0 rfl (lv_at hl 0 rfl) ?_
    refine lv_iload_n hx hb dX10_film_1 rfl (lv_at hl 2 rfl) ?_
    obtain ⟨r1, hc1, hf⟩ := kb_bind hf
    refine kb_ci (ws2 := (w_Top dA t g0 (pa 0) g2 g3 g4 (fa 0) g6 g7 g8 tp ++ (w_Plan dA pa pl ++ (w_Films dA fa fm)))) (kb_rV (n := 1) (As := [.int x1]) (rest := []) hx hb hml hown hK (c_X10_isSeat l D dA H.size t pa g0 g2 g3 g4 (fa 0) g6 g7 g8 tp pl x1 r1 hc1) ⟨ww_4_84, ww_4_81, ww_4_83, ws_34, ww_1_1, rfl, by decide, by decide⟩ rfl rfl (by decide +kernel) ⟨Nat.le_of_ble_eq_true rfl, Nat.le_of_ble_eq_true rfl⟩ hP hD hS hA hE [0, 1, 2, 3, 4, 5, 6, 7, 8, 9, 10, 11, 12, 13, 14, 15, 16, 17, 18, 19, 20, 21] rfl (by decide) 0 rfl rfl rfl hl.1 rfl (Nat.le_of_ble_eq_true rfl) dX10_film_2 ⟨Nat.le_of_ble_eq_true rfl, Nat.le_of_ble_eq_true rfl⟩) hP hD hS hA [0, 1, 2, 3, 4, 5, 6, 7, 8, 9, 10, 11, 12, 13, 14, 15, 16, 17, 18, 19, 20, 21] [22, 23, 24] [3, 4, 5, 6, 7, 8, 9, 10, 11, 12, 13, 14, 15, 16, 17, 18, 19, 20, 21, 22, 23, 24, 0, 1, 2] rfl rfl (by decide) (by decide) rfl (by decide) (fun H locs hP hD hS => ?_)
    refine lv_if_ne (tgt := 14) hx hb dX10_film_5 (by decide) (fun c_2 => ?_) (fun c_2 => ?_)
    · rw [if_neg c_2] at hf
      refine lv_iload_n hx hb dX10_film_14 rfl (lv_at hl 1 rfl) ?_
      refine lv_aload_n hx hb dX10_film_15 rfl (lv_at hl 0 rfl) ?_
      refine va_get (D := D) (ci := 10) (v := .ref (pa 0)) (C := RX10) (T := TX10) (N := 12) hx hb hts kb_inX10 hown hK.1 hP 0 rfl rfl 1 (by decide) (hK.2.w ww_2_153 rfl _) (fun _ h9 => h9) rfl dX10_film_16 ?_
      refine va_get (D := D) (ci := 5) (v := .ref (pa 1)) (C := RX5) (T := TX5) (N := 8) hx hb hts kb_inX5 hown hK.1 hP 1 rfl rfl 0 (by decide) (hK.2.w ww_1_215 rfl _) (fun _ h9 => h9) rfl dX10_film_19 ?_
      refine va_get (D := D) (ci := 0) (v := .int (cb_seats (pl_cab pl))) (C := RX0) (T := TX0) (N := 8) hx hb hts kb_inX0 hown hK.1 hP 2 rfl rfl 6 (by decide) (hK.2.w ww_1_107 rfl _) (fun _ h9 => h9) rfl dX10_film_22 ?_
      refine lv_iconst (v := (-1 : Int32)) hx hb dX10_film_25 (by decide) ?_
      refine lv_ixor hx hb dX10_film_26 ?_
      refine lv_iand hx hb dX10_film_27 ?_
      refine lv_if_ne (tgt := 39) hx hb dX10_film_28 (by decide) (fun c_3 => ?_) (fun c_3 => ?_)
      · rw [if_neg c_3] at hf
        exact B_39 _ _ _ _ _ hf hP hD hS (lv_sub hl [0] rfl)
      · rw [if_pos c_3] at hf
        refine lv_iload_n hx hb dX10_film_31 rfl (lv_at hl 1 rfl) ?_
        refine lv_iload_n hx hb dX10_film_32 rfl (lv_at hl 2 rfl) ?_
        obtain ⟨r5, hc5, hf⟩ := kb_bind hf
        refine kb_ci (ws2 := (w_Top dA t g0 (pa 0) g2 g3 g4 (fa 0) g6 g7 g8 tp ++ (w_Plan dA pa pl ++ (w_Films dA fa fm)))) (kb_rS (n := 2) (As := [.int x0, .int x1]) (rest := []) hx hb hml hown hK (c_X10_holdsBit l D dA H.size x0 x1 r5 hc5) ⟨ww_3_158, ww_4_56, ww_3_157, ww_1_1, by decide, by decide⟩ rfl rfl (by decide +kernel) ⟨Nat.le_of_ble_eq_true rfl, Nat.le_of_ble_eq_true rfl⟩ hP hD hS hA hE [] rfl (by decide) rfl hl.1 rfl (Nat.le_of_ble_eq_true rfl) dX10_film_33 ⟨Nat.le_of_ble_eq_true rfl, Nat.le_of_ble_eq_true rfl⟩) hP hD hS hA [] [0, 1, 2, 3, 4, 5, 6, 7, 8, 9, 10, 11, 12, 13, 14, 15, 16, 17, 18, 19, 20, 21, 22, 23, 24] [0, 1, 2, 3, 4, 5, 6, 7, 8, 9, 10, 11, 12, 13, 14, 15, 16, 17, 18, 19, 20, 21, 22, 23, 24] rfl rfl (by decide) (by decide) rfl (by decide) (fun H locs hP hD hS => ?_)
        refine lv_if_eq (tgt := 45) hx hb dX10_film_36 (by decide) (fun c_6 => ?_) (fun c_6 => ?_)
        · rw [if_pos c_6] at hf
          refine lv_aload_n hx hb dX10_film_45 rfl (lv_at hl 0 rfl) ?_
          refine va_get (D := D) (ci := 10) (v := .ref (fa 0)) (C := RX10) (T := TX10) (N := 12) hx hb hts kb_inX10 hown hK.1 hP 0 rfl rfl 7 (by decide) (hK.2.w ww_2_159 rfl _) (fun _ h9 => h9) rfl dX10_film_46 ?_
          refine va_get (D := D) (ci := 2) (v := .int (fm_count fm)) (C := RX2) (T := TX2) (N := 3) hx hb hts kb_inX2 hown hK.1 hP 22 rfl rfl 2 (by decide) (hK.2.w ww_2_32 rfl _) (fun _ h9 => h9) rfl dX10_film_49 ?_
          refine lv_bipush (v := (12 : Int32)) hx hb dX10_film_52 (by decide) ?_
          refine lv_icmp_lt (tgt := 63) hx hb dX10_film_54 (by decide) (fun c_7 => ?_) (fun c_7 => ?_)
          · rw [if_pos c_7] at hf
            refine lv_aload_n hx hb dX10_film_63 rfl (lv_at hl 0 rfl) ?_
            refine va_get (D := D) (ci := 10) (v := .ref (fa 0)) (C := RX10) (T := TX10) (N := 12) hx hb hts kb_inX10 hown hK.1 hP 0 rfl rfl 7 (by decide) (hK.2.w ww_2_159 rfl _) (fun _ h9 => h9) rfl dX10_film_64 ?_
            refine lv_iload_n hx hb dX10_film_67 rfl (lv_at hl 1 rfl) ?_
            refine lv_iload_n hx hb dX10_film_68 rfl (lv_at hl 2 rfl) ?_
            obtain ⟨r8, hc8, hf⟩ := kb_bind hf
            refine kb_cv (ws2 := (w_Top dA t g0 (pa 0) g2 g3 g4 (fa 0) g6 g7 g8 tp ++ (w_Plan dA pa pl ++ (w_Films dA fa r8)))) (kb_rV (n := 2) (As := [.int x0, .int x1]) (rest := []) hx hb hml hown hK (c_X2_add l D dA H.size fa fm x0 x1 r8 hc8) ⟨ww_4_231, ww_4_228, ww_4_229, ww_4_230, ww_1_7, rfl, by decide, by decide⟩ rfl rfl (by decide +kernel) ⟨Nat.le_of_ble_eq_true rfl, Nat.le_of_ble_eq_true rfl⟩ hP hD hS hA hE [22, 23, 24] rfl (by decide) 0 rfl rfl rfl hl.1 rfl (Nat.le_of_ble_eq_true rfl) dX10_film_69 ⟨Nat.le_of_ble_eq_true rfl, Nat.le_of_ble_eq_true rfl⟩) hP hD hS hA [22, 23, 24] [0, 1, 2, 3, 4, 5, 6, 7, 8, 9, 10, 11, 12, 13, 14, 15, 16, 17, 18, 19, 20, 21] [0, 1, 2, 3, 4, 5, 6, 7, 8, 9, 10, 11, 12, 13, 14, 15, 16, 17, 18, 19, 20, 21, 22, 23, 24] rfl rfl (by decide) (by decide) rfl (by decide) (fun H locs hP hD hS => ?_)
            exact B_72 _ _ _ _ _ hf hP hD hS (lv_sub hl [0] rfl)
          · rw [if_neg c_7] at hf
            refine lv_aload_n hx hb dX10_film_57 rfl (lv_at hl 0 rfl) ?_
            refine lv_iconst (v := (3 : Int32)) hx hb dX10_film_58 (by decide) ?_
            obtain ⟨r10, hc10, hf⟩ := kb_bind hf
            refine kb_ci (ws2 := (w_Top dA t g0 (pa 0) g2 g3 g4 (fa 0) g6 g7 g8 r10.2 ++ (w_Plan dA pa pl ++ (w_Films dA fa fm)))) (kb_rV (n := 1) (As := [.int (3 : Int32)]) (rest := []) hx hb hml hown hK (c_X10_refused l D dA H.size t g0 (pa 0) g2 g3 g4 (fa 0) g6 g7 g8 tp (3 : Int32) r10.1 r10.2 hc10) ⟨ww_2_204, ww_2_201, ww_2_203, ws_0, ww_1_1, rfl, by decide, by decide⟩ rfl rfl (by decide +kernel) ⟨Nat.le_of_ble_eq_true rfl, Nat.le_of_ble_eq_true rfl⟩ hP hD hS hA hE [0] rfl (by decide) 0 rfl rfl rfl hl.1 rfl (Nat.le_of_ble_eq_true rfl) dX10_film_59 ⟨Nat.le_of_ble_eq_true rfl, Nat.le_of_ble_eq_true rfl⟩) hP hD hS hA [0] [1, 2, 3, 4, 5, 6, 7, 8, 9, 10, 11, 12, 13, 14, 15, 16, 17, 18, 19, 20, 21, 22, 23, 24] [24, 0, 1, 2, 3, 4, 5, 6, 7, 8, 9, 10, 11, 12, 13, 14, 15, 16, 17, 18, 19, 20, 21, 22, 23] rfl rfl (by decide) (by decide) rfl (by decide) (fun H locs hP hD hS => ?_)
            exact RET _ _ _ H _ ls 62 hf hP hD hS dX10_film_62
        · rw [if_neg c_6] at hf
          exact B_39 _ _ _ _ _ hf hP hD hS (lv_sub hl [0] rfl)
    · rw [if_pos c_2] at hf
      refine lv_aload_n hx hb dX10_film_8 rfl (lv_at hl 0 rfl) ?_
      refine lv_iconst (v := (1 : Int32)) hx hb dX10_film_9 (by decide) ?_
      obtain ⟨r11, hc11, hf⟩ := kb_bind hf
      refine kb_ci (ws2 := (w_Top dA t g0 (pa 0) g2 g3 g4 (fa 0) g6 g7 g8 r11.2 ++ (w_Plan dA pa pl ++ (w_Films dA fa fm)))) (kb_rV (n := 1) (As := [.int (1 : Int32)]) (rest := []) hx hb hml hown hK (c_X10_refused l D dA H.size t g0 (pa 0) g2 g3 g4 (fa 0) g6 g7 g8 tp (1 : Int32) r11.1 r11.2 hc11) ⟨ww_2_204, ww_2_201, ww_2_203, ws_0, ww_1_1, rfl, by decide, by decide⟩ rfl rfl (by decide +kernel) ⟨Nat.le_of_ble_eq_true rfl, Nat.le_of_ble_eq_true rfl⟩ hP hD hS hA hE [0] rfl (by decide) 0 rfl rfl rfl hl.1 rfl (Nat.le_of_ble_eq_true rfl) dX10_film_10 ⟨Nat.le_of_ble_eq_true rfl, Nat.le_of_ble_eq_true rfl⟩) hP hD hS hA [0] [1, 2, 3, 4, 5, 6, 7, 8, 9, 10, 11, 12, 13, 14, 15, 16, 17, 18, 19, 20, 21, 22, 23, 24] [24, 0, 1, 2, 3, 4, 5, 6, 7, 8, 9, 10, 11, 12, 13, 14, 15, 16, 17, 18, 19, 20, 21, 22, 23] rfl rfl (by decide) (by decide) rfl (by decide) (fun H locs hP hD hS => ?_)
      exact RET _ _ _ H _ ls 13 hf hP hD hS dX10_film_13
  exact E0 _ _ hP hD hS

noncomputable def f_X10_agrees (tp : TopT) (pl : PlanT) (fm : FilmsT) (sn : SceneT) (x0 : Int32) : Option (Int32 × TopT × SceneT) := (f_X10_isRule tp pl x0).bind fun r1 => (if r1 = 0 then (f_X10_refused tp (1 : Int32)).bind fun r6 => some (r6.1, r6.2, sn) else if kb_in? x0 4 then (f_X2_agreeing fm (pl_cab pl) (pl_rules pl) sn ((x0).toNatClampNeg)).bind fun r4 => (f_X10_answered tp r4.1).bind fun r5 => some (r5.1, r5.2, r4.2) else none)
set_option maxHeartbeats 4000000 in
set_option maxRecDepth 100000 in
theorem c_X10_agrees (l : Launch) (D : va_G) (dA : Nat → ClassId) (sz : Nat) (t : Nat → Nat) (pa : Nat → Nat) (fa : Nat → Nat) (sa : Nat → Nat) (g0 : Nat) (g2 : Nat) (g3 : Nat) (g4 : Nat) (g7 : Nat) (g8 : Nat) (ph : Nat → Nat) (tp : TopT) (pl : PlanT) (fm : FilmsT) (sn : SceneT) (x0 : Int32) (rv : Int32) (u0 : TopT) (u3 : SceneT) (hf : f_X10_agrees tp pl fm sn x0 = some (rv, u0, u3)) : kb_FMi l yX10_agrees cX10_agrees 2 (some .int) ({ frames := 4, cells := 0, slots := 0, locals := 107 } : Room) D dA [.ref (t 0), .int x0] sz (w_Top dA t g0 (pa 0) g2 g3 g4 (fa 0) (sa 0) g7 g8 tp ++ (w_Plan dA pa pl ++ (w_Films dA fa fm ++ (w_Scene dA sa (ph 0) sn)))) 0 0 rv (fun (ph2 : Nat → Nat) => (w_Top dA t g0 (pa 0) g2 g3 g4 (fa 0) (sa 0) g7 g8 u0 ++ (w_Plan dA pa pl ++ (w_Films dA fa fm ++ (w_Scene dA sa (ph2 0) u3))))) := by
  refine Met.ofW (cc := cX10_agrees) (maxL := 2) (ret := (some .int)) (by decide) rfl ?_
  intro p e s m args below meth c s₁ B hml hv
  obtain ⟨rfl, hsz, hP, hK, hD0, hE⟩ := hv
  have hx := B.exec
  have hb := B.bytes
  have hr := B.returns
  have hown : s.vm.findClass RX10 = some m.cls := findClass_of_methodNamed B.named
  have hlocks := B.notSynchronized
  have hts : ∀ w ∈ kb_gw, w.before ([.ref (t 0), .int x0] : List Value).toArray s = true := fun w hw => hK.2.1 w hw _
  subst hsz
  have hD := hD0.self (sz := s.heap.size)
  generalize hAe : va_A (w_Top dA t g0 (pa 0) g2 g3 g4 (fa 0) (sa 0) g7 g8 tp ++ (w_Plan dA pa pl ++ (w_Films dA fa fm ++ (w_Scene dA sa (ph 0) sn)))) s.heap.size = A at hD hE ⊢
  have hA : ∀ q : Nat, s.heap.size ≤ q → A q := fun q h => by rw [← hAe]; exact Or.inr h
  have hS : va_S A s.heap s.heap [] := va_S.rf
  have hl := lv_entry ([.ref (t 0), .int x0]) (n := 2) (Nat.le_of_ble_eq_true rfl)
  rw [lg_entry_eq]
  generalize (lg_sl ([.ref (t 0), .int x0]) ++ List.replicate (2 - (lg_sl ([.ref (t 0), .int x0])).length) Slot.unset).toArray = ls at hl ⊢
  have hl : lv_has ls 2 [(0, .ref (t 0)), (1, .int x0)] := hl
  generalize hQ : MQ below (va_Qi (fun r (_ : Nat → Nat) => r = rv) (fun ph2 => kb_B D A (w_Top dA t g0 (pa 0) g2 g3 g4 (fa 0) (sa 0) g7 g8 u0 ++ (w_Plan dA pa pl ++ (w_Films dA fa fm ++ (w_Scene dA sa (ph2 0) u3)))) ()) A) ([.ref (t 0), .int x0] : List Value).toArray s 0 0 A = Q
  show W p l e ({ frames := 4, cells := 0, slots := 0, locals := 107 } : Room) s m ([.ref (t 0), .int x0] : List Value).toArray below meth c s.heap [] 0 0 Q (F0 m 0 ls [])
  have RET : ∀ (ph2 : Nat → Nat) (r2 : Int32) (w0 : TopT) (w3 : SceneT) (H : Heap) (locs : List Loc) (ls : Array Slot) (pc : Nat), some (r2, w0, w3) = some (rv, u0, u3) → va_P D vwCl (w_Top dA t g0 (pa 0) g2 g3 g4 (fa 0) (sa 0) g7 g8 w0 ++ (w_Plan dA pa pl ++ (w_Films dA fa fm ++ (w_Scene dA sa (ph2 0) w3)))) H → va_D A (w_Top dA t g0 (pa 0) g2 g3 g4 (fa 0) (sa 0) g7 g8 w0 ++ (w_Plan dA pa pl ++ (w_Films dA fa fm ++ (w_Scene dA sa (ph2 0) w3)))) → va_S A s.heap H locs → decode cX10_agrees pc = .ok (.ireturn, 1) → W p l e ({ frames := 4, cells := 0, slots := 0, locals := 107 } : Room) s m ([.ref (t 0), .int x0] : List Value).toArray below meth c H locs 0 0 Q (F0 m pc ls [.int r2]) := by
    intro ph2 r2 w0 w3 H locs ls pc hq hP hD hS hd
    cases hq
    rw [← hQ]
    exact W.iret hx hb hr (fun t ht hW => ⟨⟨_, ph2, rfl, rfl, by rw [ht]; exact hP, hD⟩, hS.F ht⟩) hS.2.2 hd
  have E0 : ∀ (H : Heap) (locs : List Loc), va_P D vwCl (w_Top dA t g0 (pa 0) g2 g3 g4 (fa 0) (sa 0) g7 g8 tp ++ (w_Plan dA pa pl ++ (w_Films dA fa fm ++ (w_Scene dA sa (ph 0) sn)))) H → va_D A (w_Top dA t g0 (pa 0) g2 g3 g4 (fa 0) (sa 0) g7 g8 tp ++ (w_Plan dA pa pl ++ (w_Films dA fa fm ++ (w_Scene dA sa (ph 0) sn)))) → va_S A s.heap H locs → W p l e ({ frames := 4, cells := 0, slots := 0, locals := 107 } : Room) s m ([.ref (t 0), .int x0] : List Value).toArray below meth c H locs 0 0 Q (F0 m 0 ls []) := by
    intro H locs hP hD hS
    rw [f_X10_agrees] at hf
    refine lv_aload_n hx hb dX10_agrees_0 rfl (lv_at hl 0 rfl) ?_
    refine lv_iload_n hx hb dX10_agrees_1 rfl (lv_at hl 1 rfl) ?_
    obtain ⟨r1, hc1, hf⟩ := kb_bind hf
    refine kb_ci (ws2 := (w_Top dA t g0 (pa 0) g2 g3 g4 (fa 0) (sa 0) g7 g8 tp ++ (w_Plan dA pa pl ++ (w_Films dA fa fm ++ (w_Scene dA sa (ph 0) sn))))) (kb_rV (n := 1) (As := [.int x0]) (rest := []) hx hb hml hown hK (c_X10_isRule l D dA H.size t pa g0 g2 g3 g4 (fa 0) (sa 0) g7 g8 tp pl x0 r1 hc1) ⟨ww_4_239, ww_4_236, ww_4_238, ws_40, ww_1_1, rfl, by decide, by decide⟩ rfl rfl (by decide +kernel) ⟨Nat.le_of_ble_eq_true rfl, Nat.le_of_ble_eq_true rfl⟩ hP hD hS hA hE [0, 1, 2, 3, 4, 5, 6, 7, 8, 9, 10, 11, 12, 13, 14, 15, 16, 17, 18, 19, 20, 21] rfl (by decide) 0 rfl rfl rfl hl.1 rfl (Nat.le_of_ble_eq_true rfl) dX10_agrees_2 ⟨Nat.le_of_ble_eq_true rfl, Nat.le_of_ble_eq_true rfl⟩) hP hD hS hA [0, 1, 2, 3, 4, 5, 6, 7, 8, 9, 10, 11, 12, 13, 14, 15, 16, 17, 18, 19, 20, 21] [22, 23, 24, 25, 26, 27] [6, 7, 8, 9, 10, 11, 12, 13, 14, 15, 16, 17, 18, 19, 20, 21, 22, 23, 24, 25, 26, 27, 0, 1, 2, 3, 4, 5] rfl rfl (by decide) (by decide) rfl (by decide) (fun H locs hP hD hS => ?_)
    refine lv_if_ne (tgt := 14) hx hb dX10_agrees_5 (by decide) (fun c_2 => ?_) (fun c_2 => ?_)
    · rw [if_neg c_2] at hf
      refine lv_aload_n hx hb dX10_agrees_14 rfl (lv_at hl 0 rfl) ?_
      refine lv_aload_n hx hb dX10_agrees_15 rfl (lv_at hl 0 rfl) ?_
      refine va_get (D := D) (ci := 10) (v := .ref (fa 0)) (C := RX10) (T := TX10) (N := 12) hx hb hts kb_inX10 hown hK.1 hP 0 rfl rfl 7 (by decide) (hK.2.w ww_2_159 rfl _) (fun _ h9 => h9) rfl dX10_agrees_16 ?_
      refine lv_aload_n hx hb dX10_agrees_19 rfl (lv_at hl 0 rfl) ?_
      refine va_get (D := D) (ci := 10) (v := .ref (pa 0)) (C := RX10) (T := TX10) (N := 12) hx hb hts kb_inX10 hown hK.1 hP 0 rfl rfl 1 (by decide) (hK.2.w ww_2_153 rfl _) (fun _ h9 => h9) rfl dX10_agrees_20 ?_
      refine va_get (D := D) (ci := 5) (v := .ref (pa 1)) (C := RX5) (T := TX5) (N := 8) hx hb hts kb_inX5 hown hK.1 hP 1 rfl rfl 0 (by decide) (hK.2.w ww_1_215 rfl _) (fun _ h9 => h9) rfl dX10_agrees_23 ?_
      refine lv_aload_n hx hb dX10_agrees_26 rfl (lv_at hl 0 rfl) ?_
      refine va_get (D := D) (ci := 10) (v := .ref (pa 0)) (C := RX10) (T := TX10) (N := 12) hx hb hts kb_inX10 hown hK.1 hP 0 rfl rfl 1 (by decide) (hK.2.w ww_2_153 rfl _) (fun _ h9 => h9) rfl dX10_agrees_27 ?_
      refine va_get (D := D) (ci := 5) (v := .ref (pa 3)) (C := RX5) (T := TX5) (N := 8) hx hb hts kb_inX5 hown hK.1 hP 1 rfl rfl 1 (by decide) (hK.2.w ww_1_220 rfl _) (fun _ h9 => h9) rfl dX10_agrees_30 ?_
      refine lv_iload_n hx hb dX10_agrees_33 rfl (lv_at hl 1 rfl) ?_
      obtain ⟨h_3, hf⟩ := kb_if hf
      refine va_aldq (D := D) hx hb hK.1 hP 4 6 rfl rfl h_3 dX10_agrees_34 ?_
      show W p l e ({ frames := 4, cells := 0, slots := 0, locals := 107 } : Room) s m ([.ref (t 0), .int x0] : List Value).toArray below meth c _ _ 0 0 Q (F0 m 35 _ [.ref (pa (4 + (x0).toNatClampNeg)), .ref (pa 1), .ref (fa 0), .ref (t 0)])
      refine lv_aload_n hx hb dX10_agrees_35 rfl (lv_at hl 0 rfl) ?_
      refine va_get (D := D) (ci := 10) (v := .ref (sa 0)) (C := RX10) (T := TX10) (N := 12) hx hb hts kb_inX10 hown hK.1 hP 0 rfl rfl 8 (by decide) (hK.2.w ww_2_160 rfl _) (fun _ h9 => h9) rfl dX10_agrees_36 ?_
      obtain ⟨r4, hc4, hf⟩ := kb_bind hf
      refine kb_Fci (ws2 := fun ph4 => (w_Top dA t g0 (pa 0) g2 g3 g4 (fa 0) (sa 0) g7 g8 tp ++ (w_Plan dA pa pl ++ (w_Films dA fa fm ++ (w_Scene dA sa (ph4 0) r4.2))))) (kb_rV (n := 3) (As := [.ref (pa 1), .ref (pa (4 + (x0).toNatClampNeg)), .ref (sa 0)]) (rest := [.ref (t 0)]) hx hb hml hown hK (c_X2_agreeing l D dA H.size fa (fun k => pa (1 + k)) (fun k => pa (4 + k)) sa (kb_ph [(ph 0)]) fm (pl_cab pl) (pl_rules pl) sn (x0).toNatClampNeg (kb_inlt h_3) r4.1 r4.2 hc4) ⟨ww_5_3, ww_5_0, ww_5_1, ww_5_2, ww_1_7, rfl, by decide, by decide⟩ rfl rfl (by decide +kernel) ⟨Nat.le_of_ble_eq_true rfl, Nat.le_of_ble_eq_true rfl⟩ hP hD hS hA hE [22, 23, 24, 2, 3, 5, 6, 7, 8, 9, 10, 11, 12, 25, 26, 27] rfl (by decide) 0 rfl rfl rfl hl.1 rfl (Nat.le_of_ble_eq_true rfl) dX10_agrees_39 ⟨Nat.le_of_ble_eq_true rfl, Nat.le_of_ble_eq_true rfl⟩) hP hD hS hA [22, 23, 24, 2, 3, 5, 6, 7, 8, 9, 10, 11, 12, 25, 26, 27] [0, 1, 4, 13, 14, 15, 16, 17, 18, 19, 20, 21] [0, 1, 15, 16, 2, 17, 18, 19, 20, 21, 22, 23, 24, 3, 4, 5, 6, 7, 8, 9, 10, 11, 12, 13, 14, 25, 26, 27] rfl rfl (by decide) (by decide) (fun _ => rfl) (by decide) (fun ph4 H locs hP hD hS => ?_)
      obtain ⟨r5, hc5, hf⟩ := kb_bind hf
      refine kb_ci (ws2 := (w_Top dA t g0 (pa 0) g2 g3 g4 (fa 0) (sa 0) g7 g8 r5.2 ++ (w_Plan dA pa pl ++ (w_Films dA fa fm ++ (w_Scene dA sa (ph4 0) r4.2))))) (kb_rV (n := 1) (As := [.int r4.1]) (rest := []) hx hb hml hown hK (c_X10_answered l D dA H.size t g0 (pa 0) g2 g3 g4 (fa 0) (sa 0) g7 g8 tp r4.1 r5.1 r5.2 hc5) ⟨ww_3_184, ww_3_181, ww_3_183, ws_22, ww_1_1, rfl, by decide, by decide⟩ rfl rfl (by decide +kernel) ⟨Nat.le_of_ble_eq_true rfl, Nat.le_of_ble_eq_true rfl⟩ hP hD hS hA hE [0] rfl (by decide) 0 rfl rfl rfl hl.1 rfl (Nat.le_of_ble_eq_true rfl) dX10_agrees_42 ⟨Nat.le_of_ble_eq_true rfl, Nat.le_of_ble_eq_true rfl⟩) hP hD hS hA [0] [1, 2, 3, 4, 5, 6, 7, 8, 9, 10, 11, 12, 13, 14, 15, 16, 17, 18, 19, 20, 21, 22, 23, 24, 25, 26, 27] [27, 0, 1, 2, 3, 4, 5, 6, 7, 8, 9, 10, 11, 12, 13, 14, 15, 16, 17, 18, 19, 20, 21, 22, 23, 24, 25, 26] rfl rfl (by decide) (by decide) rfl (by decide) (fun H locs hP hD hS => ?_)
      exact RET (kb_ph [(ph4 0)]) _ _ _ H _ ls 45 hf hP hD hS dX10_agrees_45
    · rw [if_pos c_2] at hf
      refine lv_aload_n hx hb dX10_agrees_8 rfl (lv_at hl 0 rfl) ?_
      refine lv_iconst (v := (1 : Int32)) hx hb dX10_agrees_9 (by decide) ?_
      obtain ⟨r6, hc6, hf⟩ := kb_bind hf
      refine kb_ci (ws2 := (w_Top dA t g0 (pa 0) g2 g3 g4 (fa 0) (sa 0) g7 g8 r6.2 ++ (w_Plan dA pa pl ++ (w_Films dA fa fm ++ (w_Scene dA sa (ph 0) sn))))) (kb_rV (n := 1) (As := [.int (1 : Int32)]) (rest := []) hx hb hml hown hK (c_X10_refused l D dA H.size t g0 (pa 0) g2 g3 g4 (fa 0) (sa 0) g7 g8 tp (1 : Int32) r6.1 r6.2 hc6) ⟨ww_2_204, ww_2_201, ww_2_203, ws_0, ww_1_1, rfl, by decide, by decide⟩ rfl rfl (by decide +kernel) ⟨Nat.le_of_ble_eq_true rfl, Nat.le_of_ble_eq_true rfl⟩ hP hD hS hA hE [0] rfl (by decide) 0 rfl rfl rfl hl.1 rfl (Nat.le_of_ble_eq_true rfl) dX10_agrees_10 ⟨Nat.le_of_ble_eq_true rfl, Nat.le_of_ble_eq_true rfl⟩) hP hD hS hA [0] [1, 2, 3, 4, 5, 6, 7, 8, 9, 10, 11, 12, 13, 14, 15, 16, 17, 18, 19, 20, 21, 22, 23, 24, 25, 26, 27] [27, 0, 1, 2, 3, 4, 5, 6, 7, 8, 9, 10, 11, 12, 13, 14, 15, 16, 17, 18, 19, 20, 21, 22, 23, 24, 25, 26] rfl rfl (by decide) (by decide) rfl (by decide) (fun H locs hP hD hS => ?_)
      exact RET (kb_ph [(ph 0)]) _ _ _ H _ ls 13 hf hP hD hS dX10_agrees_13
  exact E0 _ _ hP hD hS

noncomputable def f_X10_likely_b36 (pl : PlanT) (fm : FilmsT) : Nat → Int32 → Int32 → Int32 → TopT → SceneT → Option (Int32 × TopT × SceneT)
  | 0, _, _, _, _, _ => none
  | n + 1, v1, v2, v3, z0, z3 => (if (pl_ruleCount pl) ≤ v3 then (f_X10_answered z0 v1).bind fun r4 => some (r4.1, r4.2, z3) else if kb_in? v3 4 then (f_X2_agreeing fm (pl_cab pl) (pl_rules pl) z3 ((v3).toNatClampNeg)).bind fun r6 => (if r6.1 ≤ v2 then f_X10_likely_b36 pl fm n v1 v2 (v3 + (1 : Int32)) z0 r6.2 else f_X10_likely_b36 pl fm n v3 r6.1 (v3 + (1 : Int32)) z0 r6.2) else none)
noncomputable def f_X10_likely (tp : TopT) (pl : PlanT) (fm : FilmsT) (sn : SceneT) : Option (Int32 × TopT × SceneT) := (if (tp_hasBus tp) = 0 then (f_X10_refused tp (1 : Int32)).bind fun r9 => some (r9.1, r9.2, sn) else (if (fm_count fm) = 0 then (f_X10_refused tp (6 : Int32)).bind fun r8 => some (r8.1, r8.2, sn) else f_X10_likely_b36 pl fm 4096 (-1 : Int32) (-1 : Int32) (0 : Int32) tp sn))
set_option maxHeartbeats 4000000 in
set_option maxRecDepth 100000 in
theorem c_X10_likely (l : Launch) (D : va_G) (dA : Nat → ClassId) (sz : Nat) (t : Nat → Nat) (pa : Nat → Nat) (fa : Nat → Nat) (sa : Nat → Nat) (g0 : Nat) (g2 : Nat) (g3 : Nat) (g4 : Nat) (g7 : Nat) (g8 : Nat) (ph : Nat → Nat) (tp : TopT) (pl : PlanT) (fm : FilmsT) (sn : SceneT) (rv : Int32) (u0 : TopT) (u3 : SceneT) (hf : f_X10_likely tp pl fm sn = some (rv, u0, u3)) : kb_FMi l yX10_likely cX10_likely 5 (some .int) ({ frames := 4, cells := 0, slots := 0, locals := 107 } : Room) D dA [.ref (t 0)] sz (w_Top dA t g0 (pa 0) g2 g3 g4 (fa 0) (sa 0) g7 g8 tp ++ (w_Plan dA pa pl ++ (w_Films dA fa fm ++ (w_Scene dA sa (ph 0) sn)))) 0 0 rv (fun (ph2 : Nat → Nat) => (w_Top dA t g0 (pa 0) g2 g3 g4 (fa 0) (sa 0) g7 g8 u0 ++ (w_Plan dA pa pl ++ (w_Films dA fa fm ++ (w_Scene dA sa (ph2 0) u3))))) := by
  refine Met.ofW (cc := cX10_likely) (maxL := 5) (ret := (some .int)) (by decide) rfl ?_
  intro p e s m args below meth c s₁ B hml hv
  obtain ⟨rfl, hsz, hP, hK, hD0, hE⟩ := hv
  have hx := B.exec
  have hb := B.bytes
  have hr := B.returns
  have hown : s.vm.findClass RX10 = some m.cls := findClass_of_methodNamed B.named
  have hlocks := B.notSynchronized
  have hts : ∀ w ∈ kb_gw, w.before ([.ref (t 0)] : List Value).toArray s = true := fun w hw => hK.2.1 w hw _
  subst hsz
  have hD := hD0.self (sz := s.heap.size)
  generalize hAe : va_A (w_Top dA t g0 (pa 0) g2 g3 g4 (fa 0) (sa 0) g7 g8 tp ++ (w_Plan dA pa pl ++ (w_Films dA fa fm ++ (w_Scene dA sa (ph 0) sn)))) s.heap.size = A at hD hE ⊢
  have hA : ∀ q : Nat, s.heap.size ≤ q → A q := fun q h => by rw [← hAe]; exact Or.inr h
  have hS : va_S A s.heap s.heap [] := va_S.rf
  have hl := lv_entry ([.ref (t 0)]) (n := 5) (Nat.le_of_ble_eq_true rfl)
  rw [lg_entry_eq]
  generalize (lg_sl ([.ref (t 0)]) ++ List.replicate (5 - (lg_sl ([.ref (t 0)])).length) Slot.unset).toArray = ls at hl ⊢
  have hl : lv_has ls 5 [(0, .ref (t 0))] := hl
  generalize hQ : MQ below (va_Qi (fun r (_ : Nat → Nat) => r = rv) (fun ph2 => kb_B D A (w_Top dA t g0 (pa 0) g2 g3 g4 (fa 0) (sa 0) g7 g8 u0 ++ (w_Plan dA pa pl ++ (w_Films dA fa fm ++ (w_Scene dA sa (ph2 0) u3)))) ()) A) ([.ref (t 0)] : List Value).toArray s 0 0 A = Q
  show W p l e ({ frames := 4, cells := 0, slots := 0, locals := 107 } : Room) s m ([.ref (t 0)] : List Value).toArray below meth c s.heap [] 0 0 Q (F0 m 0 ls [])
  have RET : ∀ (ph2 : Nat → Nat) (r2 : Int32) (w0 : TopT) (w3 : SceneT) (H : Heap) (locs : List Loc) (ls : Array Slot) (pc : Nat), some (r2, w0, w3) = some (rv, u0, u3) → va_P D vwCl (w_Top dA t g0 (pa 0) g2 g3 g4 (fa 0) (sa 0) g7 g8 w0 ++ (w_Plan dA pa pl ++ (w_Films dA fa fm ++ (w_Scene dA sa (ph2 0) w3)))) H → va_D A (w_Top dA t g0 (pa 0) g2 g3 g4 (fa 0) (sa 0) g7 g8 w0 ++ (w_Plan dA pa pl ++ (w_Films dA fa fm ++ (w_Scene dA sa (ph2 0) w3)))) → va_S A s.heap H locs → decode cX10_likely pc = .ok (.ireturn, 1) → W p l e ({ frames := 4, cells := 0, slots := 0, locals := 107 } : Room) s m ([.ref (t 0)] : List Value).toArray below meth c H locs 0 0 Q (F0 m pc ls [.int r2]) := by
    intro ph2 r2 w0 w3 H locs ls pc hq hP hD hS hd
    cases hq
    rw [← hQ]
    exact W.iret hx hb hr (fun t ht hW => ⟨⟨_, ph2, rfl, rfl, by rw [ht]; exact hP, hD⟩, hS.F ht⟩) hS.2.2 hd
  have B_36 : ∀ (n : Nat) (ph : Nat → Nat) (v1 : Int32) (v2 : Int32) (v3 : Int32) (z0 : TopT) (z3 : SceneT) (H : Heap) (locs : List Loc) (ls : Array Slot), f_X10_likely_b36 pl fm n v1 v2 v3 z0 z3 = some (rv, u0, u3) → va_P D vwCl (w_Top dA t g0 (pa 0) g2 g3 g4 (fa 0) (sa 0) g7 g8 z0 ++ (w_Plan dA pa pl ++ (w_Films dA fa fm ++ (w_Scene dA sa (ph 0) z3)))) H → va_D A (w_Top dA t g0 (pa 0) g2 g3 g4 (fa 0) (sa 0) g7 g8 z0 ++ (w_Plan dA pa pl ++ (w_Films dA fa fm ++ (w_Scene dA sa (ph 0) z3)))) → va_S A s.heap H locs → lv_has ls 5 [(0, .ref (t 0)), (1, .int v1), (2, .int v2), (3, .int v3)] → W p l e ({ frames := 4, cells := 0, slots := 0, locals := 107 } : Room) s m ([.ref (t 0)] : List Value).toArray below meth c H locs 0 0 Q (F0 m 36 ls []) := by
    intro n
    induction n with
    | zero =>
      intro ph v1 v2 v3 z0 z3 H locs ls hf
      exact absurd hf (by simp [f_X10_likely_b36])
    | succ n ih =>
      intro ph v1 v2 v3 z0 z3 H locs ls hf hP hD hS hl
      rw [f_X10_likely_b36] at hf
      refine lv_iload_n hx hb dX10_likely_36 rfl (lv_at hl 3 rfl) ?_
      refine lv_aload_n hx hb dX10_likely_37 rfl (lv_at hl 0 rfl) ?_
      refine va_get (D := D) (ci := 10) (v := .ref (pa 0)) (C := RX10) (T := TX10) (N := 12) hx hb hts kb_inX10 hown hK.1 hP 0 rfl rfl 1 (by decide) (hK.2.w ww_2_153 rfl _) (fun _ h9 => h9) rfl dX10_likely_38 ?_
      refine va_get (D := D) (ci := 5) (v := .int (pl_ruleCount pl)) (C := RX5) (T := TX5) (N := 8) hx hb hts kb_inX5 hown hK.1 hP 1 rfl rfl 4 (by decide) (hK.2.w ww_1_231 rfl _) (fun _ h9 => h9) rfl dX10_likely_41 ?_
      refine lv_icmp_ge (tgt := 93) hx hb dX10_likely_44 (by decide) (fun c_3 => ?_) (fun c_3 => ?_)
      · rw [if_pos c_3] at hf
        refine lv_aload_n hx hb dX10_likely_93 rfl (lv_at hl 0 rfl) ?_
        refine lv_iload_n hx hb dX10_likely_94 rfl (lv_at hl 1 rfl) ?_
        obtain ⟨r4, hc4, hf⟩ := kb_bind hf
        refine kb_ci (ws2 := (w_Top dA t g0 (pa 0) g2 g3 g4 (fa 0) (sa 0) g7 g8 r4.2 ++ (w_Plan dA pa pl ++ (w_Films dA fa fm ++ (w_Scene dA sa (ph 0) z3))))) (kb_rV (n := 1) (As := [.int v1]) (rest := []) hx hb hml hown hK (c_X10_answered l D dA H.size t g0 (pa 0) g2 g3 g4 (fa 0) (sa 0) g7 g8 z0 v1 r4.1 r4.2 hc4) ⟨ww_3_184, ww_3_181, ww_3_183, ws_22, ww_1_1, rfl, by decide, by decide⟩ rfl rfl (by decide +kernel) ⟨Nat.le_of_ble_eq_true rfl, Nat.le_of_ble_eq_true rfl⟩ hP hD hS hA hE [0] rfl (by decide) 0 rfl rfl rfl hl.1 rfl (Nat.le_of_ble_eq_true rfl) dX10_likely_95 ⟨Nat.le_of_ble_eq_true rfl, Nat.le_of_ble_eq_true rfl⟩) hP hD hS hA [0] [1, 2, 3, 4, 5, 6, 7, 8, 9, 10, 11, 12, 13, 14, 15, 16, 17, 18, 19, 20, 21, 22, 23, 24, 25, 26, 27] [27, 0, 1, 2, 3, 4, 5, 6, 7, 8, 9, 10, 11, 12, 13, 14, 15, 16, 17, 18, 19, 20, 21, 22, 23, 24, 25, 26] rfl rfl (by decide) (by decide) rfl (by decide) (fun H locs hP hD hS => ?_)
        exact RET (kb_ph [(ph 0)]) _ _ _ H _ ls 98 hf hP hD hS dX10_likely_98
      · rw [if_neg c_3] at hf
        refine lv_aload_n hx hb dX10_likely_47 rfl (lv_at hl 0 rfl) ?_
        refine va_get (D := D) (ci := 10) (v := .ref (fa 0)) (C := RX10) (T := TX10) (N := 12) hx hb hts kb_inX10 hown hK.1 hP 0 rfl rfl 7 (by decide) (hK.2.w ww_2_159 rfl _) (fun _ h9 => h9) rfl dX10_likely_48 ?_
        refine lv_aload_n hx hb dX10_likely_51 rfl (lv_at hl 0 rfl) ?_
        refine va_get (D := D) (ci := 10) (v := .ref (pa 0)) (C := RX10) (T := TX10) (N := 12) hx hb hts kb_inX10 hown hK.1 hP 0 rfl rfl 1 (by decide) (hK.2.w ww_2_153 rfl _) (fun _ h9 => h9) rfl dX10_likely_52 ?_
        refine va_get (D := D) (ci := 5) (v := .ref (pa 1)) (C := RX5) (T := TX5) (N := 8) hx hb hts kb_inX5 hown hK.1 hP 1 rfl rfl 0 (by decide) (hK.2.w ww_1_215 rfl _) (fun _ h9 => h9) rfl dX10_likely_55 ?_
        refine lv_aload_n hx hb dX10_likely_58 rfl (lv_at hl 0 rfl) ?_
        refine va_get (D := D) (ci := 10) (v := .ref (pa 0)) (C := RX10) (T := TX10) (N := 12) hx hb hts kb_inX10 hown hK.1 hP 0 rfl rfl 1 (by decide) (hK.2.w ww_2_153 rfl _) (fun _ h9 => h9) rfl dX10_likely_59 ?_
        refine va_get (D := D) (ci := 5) (v := .ref (pa 3)) (C := RX5) (T := TX5) (N := 8) hx hb hts kb_inX5 hown hK.1 hP 1 rfl rfl 1 (by decide) (hK.2.w ww_1_220 rfl _) (fun _ h9 => h9) rfl dX10_likely_62 ?_
        refine lv_iload_n hx hb dX10_likely_65 rfl (lv_at hl 3 rfl) ?_
        obtain ⟨h_5, hf⟩ := kb_if hf
        refine va_aldq (D := D) hx hb hK.1 hP 4 6 rfl rfl h_5 dX10_likely_66 ?_
        show W p l e ({ frames := 4, cells := 0, slots := 0, locals := 107 } : Room) s m ([.ref (t 0)] : List Value).toArray below meth c _ _ 0 0 Q (F0 m 67 _ [.ref (pa (4 + (v3).toNatClampNeg)), .ref (pa 1), .ref (fa 0)])
        refine lv_aload_n hx hb dX10_likely_67 rfl (lv_at hl 0 rfl) ?_
        refine va_get (D := D) (ci := 10) (v := .ref (sa 0)) (C := RX10) (T := TX10) (N := 12) hx hb hts kb_inX10 hown hK.1 hP 0 rfl rfl 8 (by decide) (hK.2.w ww_2_160 rfl _) (fun _ h9 => h9) rfl dX10_likely_68 ?_
        obtain ⟨r6, hc6, hf⟩ := kb_bind hf
        refine kb_Fci (ws2 := fun ph6 => (w_Top dA t g0 (pa 0) g2 g3 g4 (fa 0) (sa 0) g7 g8 z0 ++ (w_Plan dA pa pl ++ (w_Films dA fa fm ++ (w_Scene dA sa (ph6 0) r6.2))))) (kb_rV (n := 3) (As := [.ref (pa 1), .ref (pa (4 + (v3).toNatClampNeg)), .ref (sa 0)]) (rest := []) hx hb hml hown hK (c_X2_agreeing l D dA H.size fa (fun k => pa (1 + k)) (fun k => pa (4 + k)) sa (kb_ph [(ph 0)]) fm (pl_cab pl) (pl_rules pl) z3 (v3).toNatClampNeg (kb_inlt h_5) r6.1 r6.2 hc6) ⟨ww_5_3, ww_5_0, ww_5_1, ww_5_2, ww_1_7, rfl, by decide, by decide⟩ rfl rfl (by decide +kernel) ⟨Nat.le_of_ble_eq_true rfl, Nat.le_of_ble_eq_true rfl⟩ hP hD hS hA hE [22, 23, 24, 2, 3, 5, 6, 7, 8, 9, 10, 11, 12, 25, 26, 27] rfl (by decide) 0 rfl rfl rfl hl.1 rfl (Nat.le_of_ble_eq_true rfl) dX10_likely_71 ⟨Nat.le_of_ble_eq_true rfl, Nat.le_of_ble_eq_true rfl⟩) hP hD hS hA [22, 23, 24, 2, 3, 5, 6, 7, 8, 9, 10, 11, 12, 25, 26, 27] [0, 1, 4, 13, 14, 15, 16, 17, 18, 19, 20, 21] [0, 1, 15, 16, 2, 17, 18, 19, 20, 21, 22, 23, 24, 3, 4, 5, 6, 7, 8, 9, 10, 11, 12, 13, 14, 25, 26, 27] rfl rfl (by decide) (by decide) (fun _ => rfl) (by decide) (fun ph6 H locs hP hD hS => ?_)
        refine lv_istore (lv' := [(4, .int r6.1), (0, .ref (t 0)), (1, .int v1), (2, .int v2), (3, .int v3)]) hx hb dX10_likely_74 hl (by decide) rfl (fun ls hl => ?_)
        refine lv_iload hx hb dX10_likely_76 (lv_at hl 0 rfl) ?_
        refine lv_iload_n hx hb dX10_likely_78 rfl (lv_at hl 3 rfl) ?_
        refine lv_icmp_le (tgt := 87) hx hb dX10_likely_79 (by decide) (fun c_7 => ?_) (fun c_7 => ?_)
        · rw [if_pos c_7] at hf
          refine lv_iinc (v := (v3 + (1 : Int32))) (lv' := [(3, .int (v3 + (1 : Int32))), (4, .int r6.1), (0, .ref (t 0)), (1, .int v1), (2, .int v2)]) hx hb dX10_likely_87 hl (k := 4) rfl (by rfl) (by decide) rfl (fun ls hl => ?_)
          refine lv_goto (tgt := 36) hx hb dX10_likely_90 (by decide) ?_
          exact ih (kb_ph [(ph6 0)]) _ _ _ _ _ _ _ _ hf hP hD hS (lv_sub hl [2, 3, 4, 0] rfl)
        · rw [if_neg c_7] at hf
          refine lv_iload hx hb dX10_likely_82 (lv_at hl 0 rfl) ?_
          refine lv_istore_n (lv' := [(2, .int r6.1), (4, .int r6.1), (0, .ref (t 0)), (1, .int v1), (3, .int v3)]) hx hb dX10_likely_84 rfl hl (by decide) rfl (fun ls hl => ?_)
          refine lv_iload_n hx hb dX10_likely_85 rfl (lv_at hl 4 rfl) ?_
          refine lv_istore_n (lv' := [(1, .int v3), (2, .int r6.1), (4, .int r6.1), (0, .ref (t 0)), (3, .int v3)]) hx hb dX10_likely_86 rfl hl (by decide) rfl (fun ls hl => ?_)
          refine lv_iinc (v := (v3 + (1 : Int32))) (lv' := [(3, .int (v3 + (1 : Int32))), (1, .int v3), (2, .int r6.1), (4, .int r6.1), (0, .ref (t 0))]) hx hb dX10_likely_87 hl (k := 4) rfl (by rfl) (by decide) rfl (fun ls hl => ?_)
          refine lv_goto (tgt := 36) hx hb dX10_likely_90 (by decide) ?_
          exact ih (kb_ph [(ph6 0)]) _ _ _ _ _ _ _ _ hf hP hD hS (lv_sub hl [4, 1, 2, 0] rfl)
  have E0 : ∀ (H : Heap) (locs : List Loc), va_P D vwCl (w_Top dA t g0 (pa 0) g2 g3 g4 (fa 0) (sa 0) g7 g8 tp ++ (w_Plan dA pa pl ++ (w_Films dA fa fm ++ (w_Scene dA sa (ph 0) sn)))) H → va_D A (w_Top dA t g0 (pa 0) g2 g3 g4 (fa 0) (sa 0) g7 g8 tp ++ (w_Plan dA pa pl ++ (w_Films dA fa fm ++ (w_Scene dA sa (ph 0) sn)))) → va_S A s.heap H locs → W p l e ({ frames := 4, cells := 0, slots := 0, locals := 107 } : Room) s m ([.ref (t 0)] : List Value).toArray below meth c H locs 0 0 Q (F0 m 0 ls []) := by
    intro H locs hP hD hS
    rw [f_X10_likely] at hf
    refine lv_aload_n hx hb dX10_likely_0 rfl (lv_at hl 0 rfl) ?_
    refine va_get (D := D) (ci := 10) (v := .int (tp_hasBus tp)) (C := RX10) (T := TX10) (N := 12) hx hb hts kb_inX10 hown hK.1 hP 0 rfl rfl 3 (by decide) (hK.2.w ww_2_155 rfl _) (fun _ h9 => h9) rfl dX10_likely_1 ?_
    refine lv_if_ne (tgt := 13) hx hb dX10_likely_4 (by decide) (fun c_1 => ?_) (fun c_1 => ?_)
    · rw [if_neg c_1] at hf
      refine lv_aload_n hx hb dX10_likely_13 rfl (lv_at hl 0 rfl) ?_
      refine va_get (D := D) (ci := 10) (v := .ref (fa 0)) (C := RX10) (T := TX10) (N := 12) hx hb hts kb_inX10 hown hK.1 hP 0 rfl rfl 7 (by decide) (hK.2.w ww_2_159 rfl _) (fun _ h9 => h9) rfl dX10_likely_14 ?_
      refine va_get (D := D) (ci := 2) (v := .int (fm_count fm)) (C := RX2) (T := TX2) (N := 3) hx hb hts kb_inX2 hown hK.1 hP 22 rfl rfl 2 (by decide) (hK.2.w ww_2_32 rfl _) (fun _ h9 => h9) rfl dX10_likely_17 ?_
      refine lv_if_ne (tgt := 30) hx hb dX10_likely_20 (by decide) (fun c_2 => ?_) (fun c_2 => ?_)
      · rw [if_neg c_2] at hf
        refine lv_iconst (v := (-1 : Int32)) hx hb dX10_likely_30 (by decide) ?_
        refine lv_istore_n (lv' := [(1, .int (-1 : Int32)), (0, .ref (t 0))]) hx hb dX10_likely_31 rfl hl (by decide) rfl (fun ls hl => ?_)
        refine lv_iconst (v := (-1 : Int32)) hx hb dX10_likely_32 (by decide) ?_
        refine lv_istore_n (lv' := [(2, .int (-1 : Int32)), (1, .int (-1 : Int32)), (0, .ref (t 0))]) hx hb dX10_likely_33 rfl hl (by decide) rfl (fun ls hl => ?_)
        refine lv_iconst (v := (0 : Int32)) hx hb dX10_likely_34 (by decide) ?_
        refine lv_istore_n (lv' := [(3, .int (0 : Int32)), (2, .int (-1 : Int32)), (1, .int (-1 : Int32)), (0, .ref (t 0))]) hx hb dX10_likely_35 rfl hl (by decide) rfl (fun ls hl => ?_)
        exact B_36 4096 (kb_ph [(ph 0)]) _ _ _ _ _ _ _ _ hf hP hD hS (lv_sub hl [3, 2, 1, 0] rfl)
      · rw [if_pos c_2] at hf
        refine lv_aload_n hx hb dX10_likely_23 rfl (lv_at hl 0 rfl) ?_
        refine lv_bipush (v := (6 : Int32)) hx hb dX10_likely_24 (by decide) ?_
        obtain ⟨r8, hc8, hf⟩ := kb_bind hf
        refine kb_ci (ws2 := (w_Top dA t g0 (pa 0) g2 g3 g4 (fa 0) (sa 0) g7 g8 r8.2 ++ (w_Plan dA pa pl ++ (w_Films dA fa fm ++ (w_Scene dA sa (ph 0) sn))))) (kb_rV (n := 1) (As := [.int (6 : Int32)]) (rest := []) hx hb hml hown hK (c_X10_refused l D dA H.size t g0 (pa 0) g2 g3 g4 (fa 0) (sa 0) g7 g8 tp (6 : Int32) r8.1 r8.2 hc8) ⟨ww_2_204, ww_2_201, ww_2_203, ws_0, ww_1_1, rfl, by decide, by decide⟩ rfl rfl (by decide +kernel) ⟨Nat.le_of_ble_eq_true rfl, Nat.le_of_ble_eq_true rfl⟩ hP hD hS hA hE [0] rfl (by decide) 0 rfl rfl rfl hl.1 rfl (Nat.le_of_ble_eq_true rfl) dX10_likely_26 ⟨Nat.le_of_ble_eq_true rfl, Nat.le_of_ble_eq_true rfl⟩) hP hD hS hA [0] [1, 2, 3, 4, 5, 6, 7, 8, 9, 10, 11, 12, 13, 14, 15, 16, 17, 18, 19, 20, 21, 22, 23, 24, 25, 26, 27] [27, 0, 1, 2, 3, 4, 5, 6, 7, 8, 9, 10, 11, 12, 13, 14, 15, 16, 17, 18, 19, 20, 21, 22, 23, 24, 25, 26] rfl rfl (by decide) (by decide) rfl (by decide) (fun H locs hP hD hS => ?_)
        exact RET (kb_ph [(ph 0)]) _ _ _ H _ ls 29 hf hP hD hS dX10_likely_29
    · rw [if_pos c_1] at hf
      refine lv_aload_n hx hb dX10_likely_7 rfl (lv_at hl 0 rfl) ?_
      refine lv_iconst (v := (1 : Int32)) hx hb dX10_likely_8 (by decide) ?_
      obtain ⟨r9, hc9, hf⟩ := kb_bind hf
      refine kb_ci (ws2 := (w_Top dA t g0 (pa 0) g2 g3 g4 (fa 0) (sa 0) g7 g8 r9.2 ++ (w_Plan dA pa pl ++ (w_Films dA fa fm ++ (w_Scene dA sa (ph 0) sn))))) (kb_rV (n := 1) (As := [.int (1 : Int32)]) (rest := []) hx hb hml hown hK (c_X10_refused l D dA H.size t g0 (pa 0) g2 g3 g4 (fa 0) (sa 0) g7 g8 tp (1 : Int32) r9.1 r9.2 hc9) ⟨ww_2_204, ww_2_201, ww_2_203, ws_0, ww_1_1, rfl, by decide, by decide⟩ rfl rfl (by decide +kernel) ⟨Nat.le_of_ble_eq_true rfl, Nat.le_of_ble_eq_true rfl⟩ hP hD hS hA hE [0] rfl (by decide) 0 rfl rfl rfl hl.1 rfl (Nat.le_of_ble_eq_true rfl) dX10_likely_9 ⟨Nat.le_of_ble_eq_true rfl, Nat.le_of_ble_eq_true rfl⟩) hP hD hS hA [0] [1, 2, 3, 4, 5, 6, 7, 8, 9, 10, 11, 12, 13, 14, 15, 16, 17, 18, 19, 20, 21, 22, 23, 24, 25, 26, 27] [27, 0, 1, 2, 3, 4, 5, 6, 7, 8, 9, 10, 11, 12, 13, 14, 15, 16, 17, 18, 19, 20, 21, 22, 23, 24, 25, 26] rfl rfl (by decide) (by decide) rfl (by decide) (fun H locs hP hD hS => ?_)
      exact RET (kb_ph [(ph 0)]) _ _ _ H _ ls 12 hf hP hD hS dX10_likely_12
  exact E0 _ _ hP hD hS

noncomputable def f_X10_drivenFrom_b67 (tp : TopT) (rd : RideT) (pl : PlanT) (k37 : Int32 → Int32 → Int32 → Int32 → Int32 → SceneT → Option (Int32 × SceneT)) (v2 : Int32) (v4 : Int32) (v5 : Int32) (v6 : Int32) (v7 : Int32) (z3 : SceneT) : Option (Int32 × SceneT) := (if v7 < 0 then some (v5, z3) else (if v7 < (pl_riderCount pl) then if kb_in? v7 8 then if kb_in? ((qr_rule (pl_riders pl)) (v7).toNatClampNeg) 4 then (f_X9_best z3 (pl_cab pl) (pl_rules pl) ((((qr_rule (pl_riders pl)) (v7).toNatClampNeg)).toNatClampNeg) ((qr_looks (pl_riders pl)) (v7).toNatClampNeg) ((qr_friends (pl_riders pl)) (v7).toNatClampNeg) (v2 &&& (((1 : Int32) <<< (v4 &&& 31)) ^^^ (-1 : Int32)))).bind fun r9 => (if r9 = 0 then some ((v5 + (1 : Int32)), z3) else (f_X10_lowestBit r9).bind fun r11 => k37 (v2 &&& (((1 : Int32) <<< (v4 &&& 31)) ^^^ (-1 : Int32))) v7 r11 (v5 + (1 : Int32)) (v6 + (1 : Int32)) z3) else none else none else some (v5, z3)))
noncomputable def f_X10_drivenFrom_b37 (tp : TopT) (rd : RideT) (pl : PlanT) : Nat → Int32 → Int32 → Int32 → Int32 → Int32 → SceneT → Option (Int32 × SceneT)
  | 0, _, _, _, _, _, _ => none
  | n + 1, v2, v3, v4, v5, v6, z3 => (if (8 : Int32) < v6 then some (v5, z3) else if kb_in? v4 20 then if kb_in? v4 20 then f_X10_drivenFrom_b67 tp rd pl (f_X10_drivenFrom_b37 tp rd pl n) v2 v4 v5 v6 ((sc_sitter z3) (v4).toNatClampNeg) (sc_set_sitter z3 (upd (sc_sitter z3) (v4).toNatClampNeg v3)) else none else none)
noncomputable def f_X10_drivenFrom_b14 (tp : TopT) (rd : RideT) (pl : PlanT) (v1 : Int32) (z3 : SceneT) : Option (Int32 × SceneT) := f_X10_drivenFrom_b37 tp rd pl 4096 (cb_seats (pl_cab pl)) (8 : Int32) v1 (0 : Int32) (0 : Int32) z3
noncomputable def f_X10_drivenFrom (tp : TopT) (rd : RideT) (pl : PlanT) (sn : SceneT) (x0 : Int32) : Option (Int32 × SceneT) := (f_X9_copyFrom sn (rd_scene rd)).bind fun r1 => f_X10_drivenFrom_b14 tp rd pl x0 r1
set_option maxHeartbeats 4000000 in
set_option maxRecDepth 100000 in
theorem c_X10_drivenFrom (l : Launch) (D : va_G) (dA : Nat → ClassId) (sz : Nat) (t : Nat → Nat) (a : Nat → Nat) (pa : Nat → Nat) (sa : Nat → Nat) (g0 : Nat) (g2 : Nat) (g4 : Nat) (g5 : Nat) (g7 : Nat) (g8 : Nat) (ph : Nat → Nat) (tp : TopT) (rd : RideT) (pl : PlanT) (sn : SceneT) (x0 : Int32) (rv : Int32) (u3 : SceneT) (hf : f_X10_drivenFrom tp rd pl sn x0 = some (rv, u3)) : kb_FMi l yX10_drivenFrom cX10_drivenFrom 10 (some .int) ({ frames := 3, cells := 0, slots := 0, locals := 85 } : Room) D dA [.ref (t 0), .int x0] sz (w_Top dA t g0 (pa 0) g2 (a 0) g4 g5 (sa 0) g7 g8 tp ++ (w_Ride dA a (pa 0) (pa 1) rd ++ (w_Plan dA pa pl ++ (w_Scene dA sa (ph 0) sn)))) 0 0 rv (fun (ph2 : Nat → Nat) => (w_Top dA t g0 (pa 0) g2 (a 0) g4 g5 (sa 0) g7 g8 tp ++ (w_Ride dA a (pa 0) (pa 1) rd ++ (w_Plan dA pa pl ++ (w_Scene dA sa (ph2 0) u3))))) := by
  refine Met.ofW (cc := cX10_drivenFrom) (maxL := 10) (ret := (some .int)) (by decide) rfl ?_
  intro p e s m args below meth c s₁ B hml hv
  obtain ⟨rfl, hsz, hP, hK, hD0, hE⟩ := hv
  have hx := B.exec
  have hb := B.bytes
  have hr := B.returns
  have hown : s.vm.findClass RX10 = some m.cls := findClass_of_methodNamed B.named
  have hlocks := B.notSynchronized
  have hts : ∀ w ∈ kb_gw, w.before ([.ref (t 0), .int x0] : List Value).toArray s = true := fun w hw => hK.2.1 w hw _
  subst hsz
  have hD := hD0.self (sz := s.heap.size)
  generalize hAe : va_A (w_Top dA t g0 (pa 0) g2 (a 0) g4 g5 (sa 0) g7 g8 tp ++ (w_Ride dA a (pa 0) (pa 1) rd ++ (w_Plan dA pa pl ++ (w_Scene dA sa (ph 0) sn)))) s.heap.size = A at hD hE ⊢
  have hA : ∀ q : Nat, s.heap.size ≤ q → A q := fun q h => by rw [← hAe]; exact Or.inr h
  have hS : va_S A s.heap s.heap [] := va_S.rf
  have hl := lv_entry ([.ref (t 0), .int x0]) (n := 10) (Nat.le_of_ble_eq_true rfl)
  rw [lg_entry_eq]
  generalize (lg_sl ([.ref (t 0), .int x0]) ++ List.replicate (10 - (lg_sl ([.ref (t 0), .int x0])).length) Slot.unset).toArray = ls at hl ⊢
  have hl : lv_has ls 10 [(0, .ref (t 0)), (1, .int x0)] := hl
  generalize hQ : MQ below (va_Qi (fun r (_ : Nat → Nat) => r = rv) (fun ph2 => kb_B D A (w_Top dA t g0 (pa 0) g2 (a 0) g4 g5 (sa 0) g7 g8 tp ++ (w_Ride dA a (pa 0) (pa 1) rd ++ (w_Plan dA pa pl ++ (w_Scene dA sa (ph2 0) u3)))) ()) A) ([.ref (t 0), .int x0] : List Value).toArray s 0 0 A = Q
  show W p l e ({ frames := 3, cells := 0, slots := 0, locals := 85 } : Room) s m ([.ref (t 0), .int x0] : List Value).toArray below meth c s.heap [] 0 0 Q (F0 m 0 ls [])
  have RET : ∀ (ph2 : Nat → Nat) (r2 : Int32) (w3 : SceneT) (H : Heap) (locs : List Loc) (ls : Array Slot) (pc : Nat), some (r2, w3) = some (rv, u3) → va_P D vwCl (w_Top dA t g0 (pa 0) g2 (a 0) g4 g5 (sa 0) g7 g8 tp ++ (w_Ride dA a (pa 0) (pa 1) rd ++ (w_Plan dA pa pl ++ (w_Scene dA sa (ph2 0) w3)))) H → va_D A (w_Top dA t g0 (pa 0) g2 (a 0) g4 g5 (sa 0) g7 g8 tp ++ (w_Ride dA a (pa 0) (pa 1) rd ++ (w_Plan dA pa pl ++ (w_Scene dA sa (ph2 0) w3)))) → va_S A s.heap H locs → decode cX10_drivenFrom pc = .ok (.ireturn, 1) → W p l e ({ frames := 3, cells := 0, slots := 0, locals := 85 } : Room) s m ([.ref (t 0), .int x0] : List Value).toArray below meth c H locs 0 0 Q (F0 m pc ls [.int r2]) := by
    intro ph2 r2 w3 H locs ls pc hq hP hD hS hd
    cases hq
    rw [← hQ]
    exact W.iret hx hb hr (fun t ht hW => ⟨⟨_, ph2, rfl, rfl, by rw [ht]; exact hP, hD⟩, hS.F ht⟩) hS.2.2 hd
  have B_67 : ∀ (k37 : Int32 → Int32 → Int32 → Int32 → Int32 → SceneT → Option (Int32 × SceneT)) (hk37 : ∀ (ph : Nat → Nat) (v2 : Int32) (v3 : Int32) (v4 : Int32) (v5 : Int32) (v6 : Int32) (z3 : SceneT) (H : Heap) (locs : List Loc) (ls : Array Slot), k37 v2 v3 v4 v5 v6 z3 = some (rv, u3) → va_P D vwCl (w_Top dA t g0 (pa 0) g2 (a 0) g4 g5 (sa 0) g7 g8 tp ++ (w_Ride dA a (pa 0) (pa 1) rd ++ (w_Plan dA pa pl ++ (w_Scene dA sa (pa 1) z3)))) H → va_D A (w_Top dA t g0 (pa 0) g2 (a 0) g4 g5 (sa 0) g7 g8 tp ++ (w_Ride dA a (pa 0) (pa 1) rd ++ (w_Plan dA pa pl ++ (w_Scene dA sa (pa 1) z3)))) → va_S A s.heap H locs → lv_has ls 10 [(0, .ref (t 0)), (2, .int v2), (3, .int v3), (4, .int v4), (5, .int v5), (6, .int v6)] → W p l e ({ frames := 3, cells := 0, slots := 0, locals := 85 } : Room) s m ([.ref (t 0), .int x0] : List Value).toArray below meth c H locs 0 0 Q (F0 m 37 ls [])) (ph : Nat → Nat) (v2 : Int32) (v4 : Int32) (v5 : Int32) (v6 : Int32) (v7 : Int32) (z3 : SceneT) (H : Heap) (locs : List Loc) (ls : Array Slot), f_X10_drivenFrom_b67 tp rd pl k37 v2 v4 v5 v6 v7 z3 = some (rv, u3) → va_P D vwCl (w_Top dA t g0 (pa 0) g2 (a 0) g4 g5 (sa 0) g7 g8 tp ++ (w_Ride dA a (pa 0) (pa 1) rd ++ (w_Plan dA pa pl ++ (w_Scene dA sa (pa 1) z3)))) H → va_D A (w_Top dA t g0 (pa 0) g2 (a 0) g4 g5 (sa 0) g7 g8 tp ++ (w_Ride dA a (pa 0) (pa 1) rd ++ (w_Plan dA pa pl ++ (w_Scene dA sa (pa 1) z3)))) → va_S A s.heap H locs → lv_has ls 10 [(0, .ref (t 0)), (2, .int v2), (4, .int v4), (5, .int v5), (6, .int v6), (7, .int v7)] → W p l e ({ frames := 3, cells := 0, slots := 0, locals := 85 } : Room) s m ([.ref (t 0), .int x0] : List Value).toArray below meth c H locs 0 0 Q (F0 m 67 ls []) := by
    intro k37 hk37 ph v2 v4 v5 v6 v7 z3 H locs ls hf hP hD hS hl
    rw [f_X10_drivenFrom_b67] at hf
    refine lv_iload_n hx hb dX10_drivenFrom_67 rfl (lv_at hl 1 rfl) ?_
    refine lv_iconst (v := (1 : Int32)) hx hb dX10_drivenFrom_68 (by decide) ?_
    refine lv_iload hx hb dX10_drivenFrom_69 (lv_at hl 2 rfl) ?_
    refine lv_ishl hx hb dX10_drivenFrom_71 ?_
    refine lv_iconst (v := (-1 : Int32)) hx hb dX10_drivenFrom_72 (by decide) ?_
    refine lv_ixor hx hb dX10_drivenFrom_73 ?_
    refine lv_iand hx hb dX10_drivenFrom_74 ?_
    refine lv_istore_n (lv' := [(2, .int (v2 &&& (((1 : Int32) <<< (v4 &&& 31)) ^^^ (-1 : Int32)))), (0, .ref (t 0)), (4, .int v4), (5, .int v5), (6, .int v6), (7, .int v7)]) hx hb dX10_drivenFrom_75 rfl hl (by decide) rfl (fun ls hl => ?_)
    refine lv_iload hx hb dX10_drivenFrom_76 (lv_at hl 5 rfl) ?_
    refine lv_if_lt (tgt := 93) hx hb dX10_drivenFrom_78 (by decide) (fun c_5 => ?_) (fun c_5 => ?_)
    · rw [if_pos c_5] at hf
      refine lv_iload hx hb dX10_drivenFrom_93 (lv_at hl 3 rfl) ?_
      exact RET (kb_ph [(pa 1)]) _ _ H _ ls 95 hf hP hD hS dX10_drivenFrom_95
    · rw [if_neg c_5] at hf
      refine lv_iload hx hb dX10_drivenFrom_81 (lv_at hl 5 rfl) ?_
      refine lv_aload_n hx hb dX10_drivenFrom_83 rfl (lv_at hl 1 rfl) ?_
      refine va_get (D := D) (ci := 10) (v := .ref (pa 0)) (C := RX10) (T := TX10) (N := 12) hx hb hts kb_inX10 hown hK.1 hP 0 rfl rfl 1 (by decide) (hK.2.w ww_2_153 rfl _) (fun _ h9 => h9) rfl dX10_drivenFrom_84 ?_
      refine va_get (D := D) (ci := 5) (v := .int (pl_riderCount pl)) (C := RX5) (T := TX5) (N := 8) hx hb hts kb_inX5 hown hK.1 hP 10 rfl rfl 5 (by decide) (hK.2.w ww_1_236 rfl _) (fun _ h9 => h9) rfl dX10_drivenFrom_87 ?_
      refine lv_icmp_lt (tgt := 96) hx hb dX10_drivenFrom_90 (by decide) (fun c_6 => ?_) (fun c_6 => ?_)
      · rw [if_pos c_6] at hf
        refine lv_iinc (v := (v5 + (1 : Int32))) (lv' := [(5, .int (v5 + (1 : Int32))), (2, .int (v2 &&& (((1 : Int32) <<< (v4 &&& 31)) ^^^ (-1 : Int32)))), (0, .ref (t 0)), (4, .int v4), (6, .int v6), (7, .int v7)]) hx hb dX10_drivenFrom_96 hl (k := 3) rfl (by rfl) (by decide) rfl (fun ls hl => ?_)
        refine lv_aload_n hx hb dX10_drivenFrom_99 rfl (lv_at hl 2 rfl) ?_
        refine va_get (D := D) (ci := 10) (v := .ref (pa 0)) (C := RX10) (T := TX10) (N := 12) hx hb hts kb_inX10 hown hK.1 hP 0 rfl rfl 1 (by decide) (hK.2.w ww_2_153 rfl _) (fun _ h9 => h9) rfl dX10_drivenFrom_100 ?_
        refine va_get (D := D) (ci := 5) (v := .ref (pa 12)) (C := RX5) (T := TX5) (N := 8) hx hb hts kb_inX5 hown hK.1 hP 10 rfl rfl 2 (by decide) (hK.2.w ww_1_226 rfl _) (fun _ h9 => h9) rfl dX10_drivenFrom_103 ?_
        refine lv_iload hx hb dX10_drivenFrom_106 (lv_at hl 5 rfl) ?_
        obtain ⟨h_7, hf⟩ := kb_if hf
        refine va_aldq (D := D) hx hb hK.1 hP 22 5 rfl rfl h_7 dX10_drivenFrom_108 ?_
        show W p l e ({ frames := 3, cells := 0, slots := 0, locals := 85 } : Room) s m ([.ref (t 0), .int x0] : List Value).toArray below meth c _ _ 0 0 Q (F0 m 109 _ [.ref (pa (13 + (v7).toNatClampNeg))])
        refine lv_astore (lv' := [(8, .ref (pa (13 + (v7).toNatClampNeg))), (5, .int (v5 + (1 : Int32))), (2, .int (v2 &&& (((1 : Int32) <<< (v4 &&& 31)) ^^^ (-1 : Int32)))), (0, .ref (t 0)), (4, .int v4), (6, .int v6), (7, .int v7)]) hx hb dX10_drivenFrom_109 hl (by decide) rfl (fun ls hl => ?_)
        refine lv_aload_n hx hb dX10_drivenFrom_111 rfl (lv_at hl 3 rfl) ?_
        refine va_get (D := D) (ci := 10) (v := .ref (sa 0)) (C := RX10) (T := TX10) (N := 12) hx hb hts kb_inX10 hown hK.1 hP 0 rfl rfl 8 (by decide) (hK.2.w ww_2_160 rfl _) (fun _ h9 => h9) rfl dX10_drivenFrom_112 ?_
        refine lv_aload_n hx hb dX10_drivenFrom_115 rfl (lv_at hl 3 rfl) ?_
        refine va_get (D := D) (ci := 10) (v := .ref (pa 0)) (C := RX10) (T := TX10) (N := 12) hx hb hts kb_inX10 hown hK.1 hP 0 rfl rfl 1 (by decide) (hK.2.w ww_2_153 rfl _) (fun _ h9 => h9) rfl dX10_drivenFrom_116 ?_
        refine va_get (D := D) (ci := 5) (v := .ref (pa 3)) (C := RX5) (T := TX5) (N := 8) hx hb hts kb_inX5 hown hK.1 hP 10 rfl rfl 1 (by decide) (hK.2.w ww_1_220 rfl _) (fun _ h9 => h9) rfl dX10_drivenFrom_119 ?_
        refine lv_aload hx hb dX10_drivenFrom_122 (lv_at hl 0 rfl) ?_
        refine va_get (D := D) (ci := 7) (v := .int ((qr_rule (pl_riders pl)) (v7).toNatClampNeg)) (C := RX7) (T := TX7) (N := 10) hx hb hts kb_inX7 hown hK.1 hP (1 + (9 + (13 + (v7).toNatClampNeg))) (kb_at rfl (kb_at rfl (kb_lf (at_Plan_13 dA pa pl (v7).toNatClampNeg (kb_inlt h_7))))) rfl 3 (by decide) (hK.2.w ww_1_172 rfl _) (fun _ h9 => h9) rfl dX10_drivenFrom_124 ?_
        obtain ⟨h_8, hf⟩ := kb_if hf
        refine va_aldq (D := D) hx hb hK.1 hP 13 6 rfl rfl h_8 dX10_drivenFrom_127 ?_
        show W p l e ({ frames := 3, cells := 0, slots := 0, locals := 85 } : Room) s m ([.ref (t 0), .int x0] : List Value).toArray below meth c _ _ 0 0 Q (F0 m 128 _ [.ref (pa (4 + (((qr_rule (pl_riders pl)) (v7).toNatClampNeg)).toNatClampNeg)), .ref (sa 0)])
        refine lv_aload hx hb dX10_drivenFrom_128 (lv_at hl 0 rfl) ?_
        refine va_get (D := D) (ci := 7) (v := .int ((qr_looks (pl_riders pl)) (v7).toNatClampNeg)) (C := RX7) (T := TX7) (N := 10) hx hb hts kb_inX7 hown hK.1 hP (1 + (9 + (13 + (v7).toNatClampNeg))) (kb_at rfl (kb_at rfl (kb_lf (at_Plan_13 dA pa pl (v7).toNatClampNeg (kb_inlt h_7))))) rfl 4 (by decide) (hK.2.w ww_1_176 rfl _) (fun _ h9 => h9) rfl dX10_drivenFrom_130 ?_
        refine lv_aload hx hb dX10_drivenFrom_133 (lv_at hl 0 rfl) ?_
        refine va_get (D := D) (ci := 7) (v := .int ((qr_friends (pl_riders pl)) (v7).toNatClampNeg)) (C := RX7) (T := TX7) (N := 10) hx hb hts kb_inX7 hown hK.1 hP (1 + (9 + (13 + (v7).toNatClampNeg))) (kb_at rfl (kb_at rfl (kb_lf (at_Plan_13 dA pa pl (v7).toNatClampNeg (kb_inlt h_7))))) rfl 9 (by decide) (hK.2.w ww_1_191 rfl _) (fun _ h9 => h9) rfl dX10_drivenFrom_135 ?_
        refine lv_iload_n hx hb dX10_drivenFrom_138 rfl (lv_at hl 2 rfl) ?_
        obtain ⟨r9, hc9, hf⟩ := kb_bind hf
        refine kb_ci (ws2 := (w_Top dA t g0 (pa 0) g2 (a 0) g4 g5 (sa 0) g7 g8 tp ++ (w_Ride dA a (pa 0) (pa 1) rd ++ (w_Plan dA pa pl ++ (w_Scene dA sa (pa 1) z3))))) (kb_rV (n := 4) (As := [.ref (pa (4 + (((qr_rule (pl_riders pl)) (v7).toNatClampNeg)).toNatClampNeg)), .int ((qr_looks (pl_riders pl)) (v7).toNatClampNeg), .int ((qr_friends (pl_riders pl)) (v7).toNatClampNeg), .int (v2 &&& (((1 : Int32) <<< (v4 &&& 31)) ^^^ (-1 : Int32)))]) (rest := []) hx hb hml hown hK (c_X9_best l D dA H.size sa (fun k => pa (1 + k)) (fun k => pa (4 + k)) z3 (pl_cab pl) (pl_rules pl) ((((qr_rule (pl_riders pl)) (v7).toNatClampNeg)).toNatClampNeg) (kb_inlt h_8) ((qr_looks (pl_riders pl)) (v7).toNatClampNeg) ((qr_friends (pl_riders pl)) (v7).toNatClampNeg) (v2 &&& (((1 : Int32) <<< (v4 &&& 31)) ^^^ (-1 : Int32))) r9 hc9) ⟨ww_4_30, ww_4_210, ww_4_28, ww_4_29, ww_1_9, rfl, by decide, by decide⟩ rfl rfl (by decide +kernel) ⟨Nat.le_of_ble_eq_true rfl, Nat.le_of_ble_eq_true rfl⟩ hP hD hS hA hE [31, 32, 33, 11, 12, 14, 15, 16, 17, 18, 19, 20, 21] rfl (by decide) 0 rfl rfl rfl hl.1 rfl (Nat.le_of_ble_eq_true rfl) dX10_drivenFrom_139 ⟨Nat.le_of_ble_eq_true rfl, Nat.le_of_ble_eq_true rfl⟩) hP hD hS hA [31, 32, 33, 11, 12, 14, 15, 16, 17, 18, 19, 20, 21] [0, 1, 2, 3, 4, 5, 6, 7, 8, 9, 10, 13, 22, 23, 24, 25, 26, 27, 28, 29, 30] [0, 1, 2, 3, 4, 5, 6, 7, 8, 9, 10, 24, 25, 11, 26, 27, 28, 29, 30, 31, 32, 33, 12, 13, 14, 15, 16, 17, 18, 19, 20, 21, 22, 23] rfl rfl (by decide) (by decide) rfl (by decide) (fun H locs hP hD hS => ?_)
        refine lv_istore (lv' := [(9, .int r9), (8, .ref (pa (13 + (v7).toNatClampNeg))), (5, .int (v5 + (1 : Int32))), (2, .int (v2 &&& (((1 : Int32) <<< (v4 &&& 31)) ^^^ (-1 : Int32)))), (0, .ref (t 0)), (4, .int v4), (6, .int v6), (7, .int v7)]) hx hb dX10_drivenFrom_142 hl (by decide) rfl (fun ls hl => ?_)
        refine lv_iload hx hb dX10_drivenFrom_144 (lv_at hl 0 rfl) ?_
        refine lv_if_ne (tgt := 152) hx hb dX10_drivenFrom_146 (by decide) (fun c_10 => ?_) (fun c_10 => ?_)
        · rw [if_neg c_10] at hf
          refine lv_iload hx hb dX10_drivenFrom_152 (lv_at hl 0 rfl) ?_
          obtain ⟨r11, hc11, hf⟩ := kb_bind hf
          refine kb_ci (ws2 := (w_Top dA t g0 (pa 0) g2 (a 0) g4 g5 (sa 0) g7 g8 tp ++ (w_Ride dA a (pa 0) (pa 1) rd ++ (w_Plan dA pa pl ++ (w_Scene dA sa (pa 1) z3))))) (kb_rS (n := 1) (As := [.int r9]) (rest := []) hx hb hml hown hK (c_X10_lowestBit l D dA H.size r9 r11 hc11) ⟨ww_4_55, ww_4_211, ww_4_54, ww_1_1, by decide, by decide⟩ rfl rfl (by decide +kernel) ⟨Nat.le_of_ble_eq_true rfl, Nat.le_of_ble_eq_true rfl⟩ hP hD hS hA hE [] rfl (by decide) rfl hl.1 rfl (Nat.le_of_ble_eq_true rfl) dX10_drivenFrom_154 ⟨Nat.le_of_ble_eq_true rfl, Nat.le_of_ble_eq_true rfl⟩) hP hD hS hA [] [0, 1, 2, 3, 4, 5, 6, 7, 8, 9, 10, 11, 12, 13, 14, 15, 16, 17, 18, 19, 20, 21, 22, 23, 24, 25, 26, 27, 28, 29, 30, 31, 32, 33] [0, 1, 2, 3, 4, 5, 6, 7, 8, 9, 10, 11, 12, 13, 14, 15, 16, 17, 18, 19, 20, 21, 22, 23, 24, 25, 26, 27, 28, 29, 30, 31, 32, 33] rfl rfl (by decide) (by decide) rfl (by decide) (fun H locs hP hD hS => ?_)
          refine lv_istore (lv' := [(4, .int r11), (9, .int r9), (8, .ref (pa (13 + (v7).toNatClampNeg))), (5, .int (v5 + (1 : Int32))), (2, .int (v2 &&& (((1 : Int32) <<< (v4 &&& 31)) ^^^ (-1 : Int32)))), (0, .ref (t 0)), (6, .int v6), (7, .int v7)]) hx hb dX10_drivenFrom_157 hl (by decide) rfl (fun ls hl => ?_)
          refine lv_iload hx hb dX10_drivenFrom_159 (lv_at hl 7 rfl) ?_
          refine lv_istore_n (lv' := [(3, .int v7), (4, .int r11), (9, .int r9), (8, .ref (pa (13 + (v7).toNatClampNeg))), (5, .int (v5 + (1 : Int32))), (2, .int (v2 &&& (((1 : Int32) <<< (v4 &&& 31)) ^^^ (-1 : Int32)))), (0, .ref (t 0)), (6, .int v6), (7, .int v7)]) hx hb dX10_drivenFrom_161 rfl hl (by decide) rfl (fun ls hl => ?_)
          refine lv_iinc (v := (v6 + (1 : Int32))) (lv' := [(6, .int (v6 + (1 : Int32))), (3, .int v7), (4, .int r11), (9, .int r9), (8, .ref (pa (13 + (v7).toNatClampNeg))), (5, .int (v5 + (1 : Int32))), (2, .int (v2 &&& (((1 : Int32) <<< (v4 &&& 31)) ^^^ (-1 : Int32)))), (0, .ref (t 0)), (7, .int v7)]) hx hb dX10_drivenFrom_162 hl (k := 7) rfl (by rfl) (by decide) rfl (fun ls hl => ?_)
          refine lv_goto (tgt := 37) hx hb dX10_drivenFrom_165 (by decide) ?_
          exact hk37 (kb_ph [(pa 1)]) _ _ _ _ _ _ _ _ _ hf hP hD hS (lv_sub hl [7, 6, 1, 2, 5, 0] rfl)
        · rw [if_pos c_10] at hf
          refine lv_iload hx hb dX10_drivenFrom_149 (lv_at hl 2 rfl) ?_
          exact RET (kb_ph [(pa 1)]) _ _ H _ ls 151 hf hP hD hS dX10_drivenFrom_151
      · rw [if_neg c_6] at hf
        refine lv_iload hx hb dX10_drivenFrom_93 (lv_at hl 3 rfl) ?_
        exact RET (kb_ph [(pa 1)]) _ _ H _ ls 95 hf hP hD hS dX10_drivenFrom_95
  have B_37 : ∀ (n : Nat) (ph : Nat → Nat) (v2 : Int32) (v3 : Int32) (v4 : Int32) (v5 : Int32) (v6 : Int32) (z3 : SceneT) (H : Heap) (locs : List Loc) (ls : Array Slot), f_X10_drivenFrom_b37 tp rd pl n v2 v3 v4 v5 v6 z3 = some (rv, u3) → va_P D vwCl (w_Top dA t g0 (pa 0) g2 (a 0) g4 g5 (sa 0) g7 g8 tp ++ (w_Ride dA a (pa 0) (pa 1) rd ++ (w_Plan dA pa pl ++ (w_Scene dA sa (pa 1) z3)))) H → va_D A (w_Top dA t g0 (pa 0) g2 (a 0) g4 g5 (sa 0) g7 g8 tp ++ (w_Ride dA a (pa 0) (pa 1) rd ++ (w_Plan dA pa pl ++ (w_Scene dA sa (pa 1) z3)))) → va_S A s.heap H locs → lv_has ls 10 [(0, .ref (t 0)), (2, .int v2), (3, .int v3), (4, .int v4), (5, .int v5), (6, .int v6)] → W p l e ({ frames := 3, cells := 0, slots := 0, locals := 85 } : Room) s m ([.ref (t 0), .int x0] : List Value).toArray below meth c H locs 0 0 Q (F0 m 37 ls []) := by
    intro n
    induction n with
    | zero =>
      intro ph v2 v3 v4 v5 v6 z3 H locs ls hf
      exact absurd hf (by simp [f_X10_drivenFrom_b37])
    | succ n ih =>
      intro ph v2 v3 v4 v5 v6 z3 H locs ls hf hP hD hS hl
      rw [f_X10_drivenFrom_b37] at hf
      refine lv_iload hx hb dX10_drivenFrom_37 (lv_at hl 5 rfl) ?_
      refine lv_bipush (v := (8 : Int32)) hx hb dX10_drivenFrom_39 (by decide) ?_
      refine lv_icmp_gt (tgt := 168) hx hb dX10_drivenFrom_41 (by decide) (fun c_2 => ?_) (fun c_2 => ?_)
      · rw [if_pos c_2] at hf
        refine lv_iload hx hb dX10_drivenFrom_168 (lv_at hl 4 rfl) ?_
        exact RET (kb_ph [(pa 1)]) _ _ H _ ls 170 hf hP hD hS dX10_drivenFrom_170
      · rw [if_neg c_2] at hf
        refine lv_aload_n hx hb dX10_drivenFrom_44 rfl (lv_at hl 0 rfl) ?_
        refine va_get (D := D) (ci := 10) (v := .ref (sa 0)) (C := RX10) (T := TX10) (N := 12) hx hb hts kb_inX10 hown hK.1 hP 0 rfl rfl 8 (by decide) (hK.2.w ww_2_160 rfl _) (fun _ h9 => h9) rfl dX10_drivenFrom_45 ?_
        refine va_get (D := D) (ci := 9) (v := .ref (sa 1)) (C := RX9) (T := TX9) (N := 3) hx hb hts kb_inX9 hown hK.1 hP 31 rfl rfl 0 (by decide) (hK.2.w ww_2_53 rfl _) (fun _ h9 => h9) rfl dX10_drivenFrom_48 ?_
        refine lv_iload hx hb dX10_drivenFrom_51 (lv_at hl 3 rfl) ?_
        obtain ⟨h_3, hf⟩ := kb_if hf
        refine va_iald (D := D) hx hb hK.1 hP 32 0 rfl rfl h_3 dX10_drivenFrom_53 ?_
        refine lv_istore (lv' := [(7, .int ((sc_sitter z3) (v4).toNatClampNeg)), (0, .ref (t 0)), (2, .int v2), (3, .int v3), (4, .int v4), (5, .int v5), (6, .int v6)]) hx hb dX10_drivenFrom_54 hl (by decide) rfl (fun ls hl => ?_)
        refine lv_aload_n hx hb dX10_drivenFrom_56 rfl (lv_at hl 1 rfl) ?_
        refine va_get (D := D) (ci := 10) (v := .ref (sa 0)) (C := RX10) (T := TX10) (N := 12) hx hb hts kb_inX10 hown hK.1 hP 0 rfl rfl 8 (by decide) (hK.2.w ww_2_160 rfl _) (fun _ h9 => h9) rfl dX10_drivenFrom_57 ?_
        refine va_get (D := D) (ci := 9) (v := .ref (sa 1)) (C := RX9) (T := TX9) (N := 3) hx hb hts kb_inX9 hown hK.1 hP 31 rfl rfl 0 (by decide) (hK.2.w ww_2_53 rfl _) (fun _ h9 => h9) rfl dX10_drivenFrom_60 ?_
        refine lv_iload hx hb dX10_drivenFrom_63 (lv_at hl 4 rfl) ?_
        refine lv_iload_n hx hb dX10_drivenFrom_65 rfl (lv_at hl 3 rfl) ?_
        obtain ⟨h_4, hf⟩ := kb_if hf
        refine va_iast (D := D) hx hb hK.1 hP hD hS 32 0 rfl rfl h_4 dX10_drivenFrom_66 (fun H locs hP hD hS => ?_)
        have hP : va_P D vwCl (w_Top dA t g0 (pa 0) g2 (a 0) g4 g5 (sa 0) g7 g8 tp ++ (w_Ride dA a (pa 0) (pa 1) rd ++ (w_Plan dA pa pl ++ (w_Scene dA sa (pa 1) (sc_set_sitter z3 (upd (sc_sitter z3) (v4).toNatClampNeg v3)))))) H := hP
        have hD : va_D A (w_Top dA t g0 (pa 0) g2 (a 0) g4 g5 (sa 0) g7 g8 tp ++ (w_Ride dA a (pa 0) (pa 1) rd ++ (w_Plan dA pa pl ++ (w_Scene dA sa (pa 1) (sc_set_sitter z3 (upd (sc_sitter z3) (v4).toNatClampNeg v3)))))) := hD
        exact B_67 (f_X10_drivenFrom_b37 tp rd pl n) ih (kb_ph [(pa 1)]) _ _ _ _ _ _ _ _ _ hf hP hD hS (lv_sub hl [1, 2, 4, 5, 6, 0] rfl)
  have B_14 : ∀ (ph : Nat → Nat) (v1 : Int32) (z3 : SceneT) (H : Heap) (locs : List Loc) (ls : Array Slot), f_X10_drivenFrom_b14 tp rd pl v1 z3 = some (rv, u3) → va_P D vwCl (w_Top dA t g0 (pa 0) g2 (a 0) g4 g5 (sa 0) g7 g8 tp ++ (w_Ride dA a (pa 0) (pa 1) rd ++ (w_Plan dA pa pl ++ (w_Scene dA sa (pa 1) z3)))) H → va_D A (w_Top dA t g0 (pa 0) g2 (a 0) g4 g5 (sa 0) g7 g8 tp ++ (w_Ride dA a (pa 0) (pa 1) rd ++ (w_Plan dA pa pl ++ (w_Scene dA sa (pa 1) z3)))) → va_S A s.heap H locs → lv_has ls 10 [(0, .ref (t 0)), (1, .int v1)] → W p l e ({ frames := 3, cells := 0, slots := 0, locals := 85 } : Room) s m ([.ref (t 0), .int x0] : List Value).toArray below meth c H locs 0 0 Q (F0 m 14 ls []) := by
    intro ph v1 z3 H locs ls hf hP hD hS hl
    rw [f_X10_drivenFrom_b14] at hf
    refine lv_aload_n hx hb dX10_drivenFrom_14 rfl (lv_at hl 0 rfl) ?_
    refine va_get (D := D) (ci := 10) (v := .ref (pa 0)) (C := RX10) (T := TX10) (N := 12) hx hb hts kb_inX10 hown hK.1 hP 0 rfl rfl 1 (by decide) (hK.2.w ww_2_153 rfl _) (fun _ h9 => h9) rfl dX10_drivenFrom_15 ?_
    refine va_get (D := D) (ci := 5) (v := .ref (pa 1)) (C := RX5) (T := TX5) (N := 8) hx hb hts kb_inX5 hown hK.1 hP 10 rfl rfl 0 (by decide) (hK.2.w ww_1_215 rfl _) (fun _ h9 => h9) rfl dX10_drivenFrom_18 ?_
    refine va_get (D := D) (ci := 0) (v := .int (cb_seats (pl_cab pl))) (C := RX0) (T := TX0) (N := 8) hx hb hts kb_inX0 hown hK.1 hP 11 rfl rfl 6 (by decide) (hK.2.w ww_1_107 rfl _) (fun _ h9 => h9) rfl dX10_drivenFrom_21 ?_
    refine lv_istore_n (lv' := [(2, .int (cb_seats (pl_cab pl))), (0, .ref (t 0)), (1, .int v1)]) hx hb dX10_drivenFrom_24 rfl hl (by decide) rfl (fun ls hl => ?_)
    refine lv_bipush (v := (8 : Int32)) hx hb dX10_drivenFrom_25 (by decide) ?_
    refine lv_istore_n (lv' := [(3, .int (8 : Int32)), (2, .int (cb_seats (pl_cab pl))), (0, .ref (t 0)), (1, .int v1)]) hx hb dX10_drivenFrom_27 rfl hl (by decide) rfl (fun ls hl => ?_)
    refine lv_iload_n hx hb dX10_drivenFrom_28 rfl (lv_at hl 3 rfl) ?_
    refine lv_istore (lv' := [(4, .int v1), (3, .int (8 : Int32)), (2, .int (cb_seats (pl_cab pl))), (0, .ref (t 0)), (1, .int v1)]) hx hb dX10_drivenFrom_29 hl (by decide) rfl (fun ls hl => ?_)
    refine lv_iconst (v := (0 : Int32)) hx hb dX10_drivenFrom_31 (by decide) ?_
    refine lv_istore (lv' := [(5, .int (0 : Int32)), (4, .int v1), (3, .int (8 : Int32)), (2, .int (cb_seats (pl_cab pl))), (0, .ref (t 0)), (1, .int v1)]) hx hb dX10_drivenFrom_32 hl (by decide) rfl (fun ls hl => ?_)
    refine lv_iconst (v := (0 : Int32)) hx hb dX10_drivenFrom_34 (by decide) ?_
    refine lv_istore (lv' := [(6, .int (0 : Int32)), (5, .int (0 : Int32)), (4, .int v1), (3, .int (8 : Int32)), (2, .int (cb_seats (pl_cab pl))), (0, .ref (t 0)), (1, .int v1)]) hx hb dX10_drivenFrom_35 hl (by decide) rfl (fun ls hl => ?_)
    exact B_37 4096 (kb_ph [(pa 1)]) _ _ _ _ _ _ _ _ _ hf hP hD hS (lv_sub hl [5, 4, 3, 2, 1, 0] rfl)
  have E0 : ∀ (H : Heap) (locs : List Loc), va_P D vwCl (w_Top dA t g0 (pa 0) g2 (a 0) g4 g5 (sa 0) g7 g8 tp ++ (w_Ride dA a (pa 0) (pa 1) rd ++ (w_Plan dA pa pl ++ (w_Scene dA sa (ph 0) sn)))) H → va_D A (w_Top dA t g0 (pa 0) g2 (a 0) g4 g5 (sa 0) g7 g8 tp ++ (w_Ride dA a (pa 0) (pa 1) rd ++ (w_Plan dA pa pl ++ (w_Scene dA sa (ph 0) sn)))) → va_S A s.heap H locs → W p l e ({ frames := 3, cells := 0, slots := 0, locals := 85 } : Room) s m ([.ref (t 0), .int x0] : List Value).toArray below meth c H locs 0 0 Q (F0 m 0 ls []) := by
    intro H locs hP hD hS
    rw [f_X10_drivenFrom] at hf
    refine lv_aload_n hx hb dX10_drivenFrom_0 rfl (lv_at hl 0 rfl) ?_
    refine va_get (D := D) (ci := 10) (v := .ref (sa 0)) (C := RX10) (T := TX10) (N := 12) hx hb hts kb_inX10 hown hK.1 hP 0 rfl rfl 8 (by decide) (hK.2.w ww_2_160 rfl _) (fun _ h9 => h9) rfl dX10_drivenFrom_1 ?_
    refine lv_aload_n hx hb dX10_drivenFrom_4 rfl (lv_at hl 0 rfl) ?_
    refine va_get (D := D) (ci := 10) (v := .ref (a 0)) (C := RX10) (T := TX10) (N := 12) hx hb hts kb_inX10 hown hK.1 hP 0 rfl rfl 4 (by decide) (hK.2.w ww_2_156 rfl _) (fun _ h9 => h9) rfl dX10_drivenFrom_5 ?_
    refine va_get (D := D) (ci := 6) (v := .ref (a 1)) (C := RX6) (T := TX6) (N := 11) hx hb hts kb_inX6 hown hK.1 hP 1 rfl rfl 1 (by decide) (hK.2.w ww_2_69 rfl _) (fun _ h9 => h9) rfl dX10_drivenFrom_8 ?_
    obtain ⟨r1, hc1, hf⟩ := kb_bind hf
    refine kb_cv (ws2 := (w_Top dA t g0 (pa 0) g2 (a 0) g4 g5 (sa 0) g7 g8 tp ++ (w_Ride dA a (pa 0) (pa 1) rd ++ (w_Plan dA pa pl ++ (w_Scene dA sa (pa 1) r1))))) (kb_rV (n := 1) (As := [.ref (a 1)]) (rest := []) hx hb hml hown hK (c_X9_copyFrom l D dA H.size sa (fun k => a (1 + k)) (ph 0) (pa 1) sn (rd_scene rd) r1 hc1) ⟨ww_4_138, ww_4_209, ww_4_136, ww_4_137, ww_1_9, rfl, by decide, by decide⟩ rfl rfl (by decide +kernel) ⟨Nat.le_of_ble_eq_true rfl, Nat.le_of_ble_eq_true rfl⟩ hP hD hS hA hE [31, 32, 33, 2, 3, 4] rfl (by decide) 0 rfl rfl rfl hl.1 rfl (Nat.le_of_ble_eq_true rfl) dX10_drivenFrom_11 ⟨Nat.le_of_ble_eq_true rfl, Nat.le_of_ble_eq_true rfl⟩) hP hD hS hA [31, 32, 33, 2, 3, 4] [0, 1, 5, 6, 7, 8, 9, 10, 11, 12, 13, 14, 15, 16, 17, 18, 19, 20, 21, 22, 23, 24, 25, 26, 27, 28, 29, 30] [0, 1, 31, 32, 33, 2, 3, 4, 5, 6, 7, 8, 9, 10, 11, 12, 13, 14, 15, 16, 17, 18, 19, 20, 21, 22, 23, 24, 25, 26, 27, 28, 29, 30] rfl rfl (by decide) (by decide) rfl (by decide) (fun H locs hP hD hS => ?_)
    exact B_14 (kb_ph [(pa 1)]) _ _ _ _ _ hf hP hD hS (lv_sub hl [0, 1] rfl)
  exact E0 _ _ hP hD hS

noncomputable def f_X10_monday (tp : TopT) (rd : RideT) (pl : PlanT) (sn : SceneT) (x0 : Int32) : Option (Int32 × TopT × SceneT) := (f_X10_isSeat tp pl x0).bind fun r1 => (if r1 = 0 then (f_X10_refused tp (1 : Int32)).bind fun r5 => some (r5.1, r5.2, sn) else (f_X10_drivenFrom tp rd pl sn x0).bind fun r3 => (f_X10_answered tp r3.1).bind fun r4 => some (r4.1, r4.2, r3.2))
set_option maxHeartbeats 4000000 in
set_option maxRecDepth 100000 in
theorem c_X10_monday (l : Launch) (D : va_G) (dA : Nat → ClassId) (sz : Nat) (t : Nat → Nat) (a : Nat → Nat) (pa : Nat → Nat) (sa : Nat → Nat) (g0 : Nat) (g2 : Nat) (g4 : Nat) (g5 : Nat) (g7 : Nat) (g8 : Nat) (ph : Nat → Nat) (tp : TopT) (rd : RideT) (pl : PlanT) (sn : SceneT) (x0 : Int32) (rv : Int32) (u0 : TopT) (u3 : SceneT) (hf : f_X10_monday tp rd pl sn x0 = some (rv, u0, u3)) : kb_FMi l yX10_monday cX10_monday 2 (some .int) ({ frames := 4, cells := 0, slots := 0, locals := 114 } : Room) D dA [.ref (t 0), .int x0] sz (w_Top dA t g0 (pa 0) g2 (a 0) g4 g5 (sa 0) g7 g8 tp ++ (w_Ride dA a (pa 0) (pa 1) rd ++ (w_Plan dA pa pl ++ (w_Scene dA sa (ph 0) sn)))) 0 0 rv (fun (ph2 : Nat → Nat) => (w_Top dA t g0 (pa 0) g2 (a 0) g4 g5 (sa 0) g7 g8 u0 ++ (w_Ride dA a (pa 0) (pa 1) rd ++ (w_Plan dA pa pl ++ (w_Scene dA sa (ph2 0) u3))))) := by
  refine Met.ofW (cc := cX10_monday) (maxL := 2) (ret := (some .int)) (by decide) rfl ?_
  intro p e s m args below meth c s₁ B hml hv
  obtain ⟨rfl, hsz, hP, hK, hD0, hE⟩ := hv
  have hx := B.exec
  have hb := B.bytes
  have hr := B.returns
  have hown : s.vm.findClass RX10 = some m.cls := findClass_of_methodNamed B.named
  have hlocks := B.notSynchronized
  have hts : ∀ w ∈ kb_gw, w.before ([.ref (t 0), .int x0] : List Value).toArray s = true := fun w hw => hK.2.1 w hw _
  subst hsz
  have hD := hD0.self (sz := s.heap.size)
  generalize hAe : va_A (w_Top dA t g0 (pa 0) g2 (a 0) g4 g5 (sa 0) g7 g8 tp ++ (w_Ride dA a (pa 0) (pa 1) rd ++ (w_Plan dA pa pl ++ (w_Scene dA sa (ph 0) sn)))) s.heap.size = A at hD hE ⊢
  have hA : ∀ q : Nat, s.heap.size ≤ q → A q := fun q h => by rw [← hAe]; exact Or.inr h
  have hS : va_S A s.heap s.heap [] := va_S.rf
  have hl := lv_entry ([.ref (t 0), .int x0]) (n := 2) (Nat.le_of_ble_eq_true rfl)
  rw [lg_entry_eq]
  generalize (lg_sl ([.ref (t 0), .int x0]) ++ List.replicate (2 - (lg_sl ([.ref (t 0), .int x0])).length) Slot.unset).toArray = ls at hl ⊢
  have hl : lv_has ls 2 [(0, .ref (t 0)), (1, .int x0)] := hl
  generalize hQ : MQ below (va_Qi (fun r (_ : Nat → Nat) => r = rv) (fun ph2 => kb_B D A (w_Top dA t g0 (pa 0) g2 (a 0) g4 g5 (sa 0) g7 g8 u0 ++ (w_Ride dA a (pa 0) (pa 1) rd ++ (w_Plan dA pa pl ++ (w_Scene dA sa (ph2 0) u3)))) ()) A) ([.ref (t 0), .int x0] : List Value).toArray s 0 0 A = Q
  show W p l e ({ frames := 4, cells := 0, slots := 0, locals := 114 } : Room) s m ([.ref (t 0), .int x0] : List Value).toArray below meth c s.heap [] 0 0 Q (F0 m 0 ls [])
  have RET : ∀ (ph2 : Nat → Nat) (r2 : Int32) (w0 : TopT) (w3 : SceneT) (H : Heap) (locs : List Loc) (ls : Array Slot) (pc : Nat), some (r2, w0, w3) = some (rv, u0, u3) → va_P D vwCl (w_Top dA t g0 (pa 0) g2 (a 0) g4 g5 (sa 0) g7 g8 w0 ++ (w_Ride dA a (pa 0) (pa 1) rd ++ (w_Plan dA pa pl ++ (w_Scene dA sa (ph2 0) w3)))) H → va_D A (w_Top dA t g0 (pa 0) g2 (a 0) g4 g5 (sa 0) g7 g8 w0 ++ (w_Ride dA a (pa 0) (pa 1) rd ++ (w_Plan dA pa pl ++ (w_Scene dA sa (ph2 0) w3)))) → va_S A s.heap H locs → decode cX10_monday pc = .ok (.ireturn, 1) → W p l e ({ frames := 4, cells := 0, slots := 0, locals := 114 } : Room) s m ([.ref (t 0), .int x0] : List Value).toArray below meth c H locs 0 0 Q (F0 m pc ls [.int r2]) := by
    intro ph2 r2 w0 w3 H locs ls pc hq hP hD hS hd
    cases hq
    rw [← hQ]
    exact W.iret hx hb hr (fun t ht hW => ⟨⟨_, ph2, rfl, rfl, by rw [ht]; exact hP, hD⟩, hS.F ht⟩) hS.2.2 hd
  have E0 : ∀ (H : Heap) (locs : List Loc), va_P D vwCl (w_Top dA t g0 (pa 0) g2 (a 0) g4 g5 (sa 0) g7 g8 tp ++ (w_Ride dA a (pa 0) (pa 1) rd ++ (w_Plan dA pa pl ++ (w_Scene dA sa (ph 0) sn)))) H → va_D A (w_Top dA t g0 (pa 0) g2 (a 0) g4 g5 (sa 0) g7 g8 tp ++ (w_Ride dA a (pa 0) (pa 1) rd ++ (w_Plan dA pa pl ++ (w_Scene dA sa (ph 0) sn)))) → va_S A s.heap H locs → W p l e ({ frames := 4, cells := 0, slots := 0, locals := 114 } : Room) s m ([.ref (t 0), .int x0] : List Value).toArray below meth c H locs 0 0 Q (F0 m 0 ls []) := by
    intro H locs hP hD hS
    rw [f_X10_monday] at hf
    refine lv_aload_n hx hb dX10_monday_0 rfl (lv_at hl 0 rfl) ?_
    refine lv_iload_n hx hb dX10_monday_1 rfl (lv_at hl 1 rfl) ?_
    obtain ⟨r1, hc1, hf⟩ := kb_bind hf
    refine kb_ci (ws2 := (w_Top dA t g0 (pa 0) g2 (a 0) g4 g5 (sa 0) g7 g8 tp ++ (w_Ride dA a (pa 0) (pa 1) rd ++ (w_Plan dA pa pl ++ (w_Scene dA sa (ph 0) sn))))) (kb_rV (n := 1) (As := [.int x0]) (rest := []) hx hb hml hown hK (c_X10_isSeat l D dA H.size t pa g0 g2 (a 0) g4 g5 (sa 0) g7 g8 tp pl x0 r1 hc1) ⟨ww_4_84, ww_4_81, ww_4_83, ws_34, ww_1_1, rfl, by decide, by decide⟩ rfl rfl (by decide +kernel) ⟨Nat.le_of_ble_eq_true rfl, Nat.le_of_ble_eq_true rfl⟩ hP hD hS hA hE [0, 10, 11, 12, 13, 14, 15, 16, 17, 18, 19, 20, 21, 22, 23, 24, 25, 26, 27, 28, 29, 30] rfl (by decide) 0 rfl rfl rfl hl.1 rfl (Nat.le_of_ble_eq_true rfl) dX10_monday_2 ⟨Nat.le_of_ble_eq_true rfl, Nat.le_of_ble_eq_true rfl⟩) hP hD hS hA [0, 10, 11, 12, 13, 14, 15, 16, 17, 18, 19, 20, 21, 22, 23, 24, 25, 26, 27, 28, 29, 30] [1, 2, 3, 4, 5, 6, 7, 8, 9, 31, 32, 33] [12, 0, 1, 2, 3, 4, 5, 6, 7, 8, 13, 14, 15, 16, 17, 18, 19, 20, 21, 22, 23, 24, 25, 26, 27, 28, 29, 30, 31, 32, 33, 9, 10, 11] rfl rfl (by decide) (by decide) rfl (by decide) (fun H locs hP hD hS => ?_)
    refine lv_if_ne (tgt := 14) hx hb dX10_monday_5 (by decide) (fun c_2 => ?_) (fun c_2 => ?_)
    · rw [if_neg c_2] at hf
      refine lv_aload_n hx hb dX10_monday_14 rfl (lv_at hl 0 rfl) ?_
      refine lv_aload_n hx hb dX10_monday_15 rfl (lv_at hl 0 rfl) ?_
      refine lv_iload_n hx hb dX10_monday_16 rfl (lv_at hl 1 rfl) ?_
      obtain ⟨r3, hc3, hf⟩ := kb_bind hf
      refine kb_Fci (ws2 := fun ph3 => (w_Top dA t g0 (pa 0) g2 (a 0) g4 g5 (sa 0) g7 g8 tp ++ (w_Ride dA a (pa 0) (pa 1) rd ++ (w_Plan dA pa pl ++ (w_Scene dA sa (ph3 0) r3.2))))) (kb_rV (n := 1) (As := [.int x0]) (rest := [.ref (t 0)]) hx hb hml hown hK (c_X10_drivenFrom l D dA H.size t a pa sa g0 g2 g4 g5 g7 g8 (kb_ph [(ph 0)]) tp rd pl sn x0 r3.1 r3.2 hc3) ⟨ww_4_208, ww_4_205, ww_4_207, ws_37, ww_1_1, rfl, by decide, by decide⟩ rfl rfl (by decide +kernel) ⟨Nat.le_of_ble_eq_true rfl, Nat.le_of_ble_eq_true rfl⟩ hP hD hS hA hE [0, 1, 2, 3, 4, 5, 6, 7, 8, 9, 10, 11, 12, 13, 14, 15, 16, 17, 18, 19, 20, 21, 22, 23, 24, 25, 26, 27, 28, 29, 30, 31, 32, 33] rfl (by decide) 0 rfl rfl rfl hl.1 rfl (Nat.le_of_ble_eq_true rfl) dX10_monday_17 ⟨Nat.le_of_ble_eq_true rfl, Nat.le_of_ble_eq_true rfl⟩) hP hD hS hA [0, 1, 2, 3, 4, 5, 6, 7, 8, 9, 10, 11, 12, 13, 14, 15, 16, 17, 18, 19, 20, 21, 22, 23, 24, 25, 26, 27, 28, 29, 30, 31, 32, 33] [] [0, 1, 2, 3, 4, 5, 6, 7, 8, 9, 10, 11, 12, 13, 14, 15, 16, 17, 18, 19, 20, 21, 22, 23, 24, 25, 26, 27, 28, 29, 30, 31, 32, 33] rfl rfl (by decide) (by decide) (fun _ => rfl) (by decide) (fun ph3 H locs hP hD hS => ?_)
      obtain ⟨r4, hc4, hf⟩ := kb_bind hf
      refine kb_ci (ws2 := (w_Top dA t g0 (pa 0) g2 (a 0) g4 g5 (sa 0) g7 g8 r4.2 ++ (w_Ride dA a (pa 0) (pa 1) rd ++ (w_Plan dA pa pl ++ (w_Scene dA sa (ph3 0) r3.2))))) (kb_rV (n := 1) (As := [.int r3.1]) (rest := []) hx hb hml hown hK (c_X10_answered l D dA H.size t g0 (pa 0) g2 (a 0) g4 g5 (sa 0) g7 g8 tp r3.1 r4.1 r4.2 hc4) ⟨ww_3_184, ww_3_181, ww_3_183, ws_22, ww_1_1, rfl, by decide, by decide⟩ rfl rfl (by decide +kernel) ⟨Nat.le_of_ble_eq_true rfl, Nat.le_of_ble_eq_true rfl⟩ hP hD hS hA hE [0] rfl (by decide) 0 rfl rfl rfl hl.1 rfl (Nat.le_of_ble_eq_true rfl) dX10_monday_20 ⟨Nat.le_of_ble_eq_true rfl, Nat.le_of_ble_eq_true rfl⟩) hP hD hS hA [0] [1, 2, 3, 4, 5, 6, 7, 8, 9, 10, 11, 12, 13, 14, 15, 16, 17, 18, 19, 20, 21, 22, 23, 24, 25, 26, 27, 28, 29, 30, 31, 32, 33] [33, 0, 1, 2, 3, 4, 5, 6, 7, 8, 9, 10, 11, 12, 13, 14, 15, 16, 17, 18, 19, 20, 21, 22, 23, 24, 25, 26, 27, 28, 29, 30, 31, 32] rfl rfl (by decide) (by decide) rfl (by decide) (fun H locs hP hD hS => ?_)
      exact RET (kb_ph [(ph3 0)]) _ _ _ H _ ls 23 hf hP hD hS dX10_monday_23
    · rw [if_pos c_2] at hf
      refine lv_aload_n hx hb dX10_monday_8 rfl (lv_at hl 0 rfl) ?_
      refine lv_iconst (v := (1 : Int32)) hx hb dX10_monday_9 (by decide) ?_
      obtain ⟨r5, hc5, hf⟩ := kb_bind hf
      refine kb_ci (ws2 := (w_Top dA t g0 (pa 0) g2 (a 0) g4 g5 (sa 0) g7 g8 r5.2 ++ (w_Ride dA a (pa 0) (pa 1) rd ++ (w_Plan dA pa pl ++ (w_Scene dA sa (ph 0) sn))))) (kb_rV (n := 1) (As := [.int (1 : Int32)]) (rest := []) hx hb hml hown hK (c_X10_refused l D dA H.size t g0 (pa 0) g2 (a 0) g4 g5 (sa 0) g7 g8 tp (1 : Int32) r5.1 r5.2 hc5) ⟨ww_2_204, ww_2_201, ww_2_203, ws_0, ww_1_1, rfl, by decide, by decide⟩ rfl rfl (by decide +kernel) ⟨Nat.le_of_ble_eq_true rfl, Nat.le_of_ble_eq_true rfl⟩ hP hD hS hA hE [0] rfl (by decide) 0 rfl rfl rfl hl.1 rfl (Nat.le_of_ble_eq_true rfl) dX10_monday_10 ⟨Nat.le_of_ble_eq_true rfl, Nat.le_of_ble_eq_true rfl⟩) hP hD hS hA [0] [1, 2, 3, 4, 5, 6, 7, 8, 9, 10, 11, 12, 13, 14, 15, 16, 17, 18, 19, 20, 21, 22, 23, 24, 25, 26, 27, 28, 29, 30, 31, 32, 33] [33, 0, 1, 2, 3, 4, 5, 6, 7, 8, 9, 10, 11, 12, 13, 14, 15, 16, 17, 18, 19, 20, 21, 22, 23, 24, 25, 26, 27, 28, 29, 30, 31, 32] rfl rfl (by decide) (by decide) rfl (by decide) (fun H locs hP hD hS => ?_)
      exact RET (kb_ph [(ph 0)]) _ _ _ H _ ls 13 hf hP hD hS dX10_monday_13
  exact E0 _ _ hP hD hS

noncomputable def f_X1_tally_b66 (rd : RideT) (k2 : Int32 → Int32 → Int32 → DealsT → Option (DealsT)) (v1 : Int32) (v2 : Int32) (v3 : Int32) (z0 : DealsT) : Option (DealsT) := k2 v1 v2 (v3 + (1 : Int32)) z0
noncomputable def f_X1_tally_b45 (rd : RideT) (k2 : Int32 → Int32 → Int32 → DealsT → Option (DealsT)) (v1 : Int32) (v2 : Int32) (v3 : Int32) (v4 : Int32) (z0 : DealsT) : Option (DealsT) := if kb_in? v3 8 then (if v4 < ((de_told z0) (v3).toNatClampNeg) then k2 v1 v2 (v3 + (1 : Int32)) z0 else if kb_in? v3 8 then if kb_in? v3 8 then f_X1_tally_b66 rd k2 v1 v2 v3 (de_set_asMuch z0 (upd (de_asMuch z0) (v3).toNatClampNeg (((de_asMuch z0) (v3).toNatClampNeg) + (1 : Int32)))) else none else none) else none
noncomputable def f_X1_tally_b31 (rd : RideT) (k2 : Int32 → Int32 → Int32 → DealsT → Option (DealsT)) (v1 : Int32) (v2 : Int32) (v3 : Int32) (s0 : Int32) (z0 : DealsT) : Option (DealsT) := (if v2 = 0 then f_X1_tally_b45 rd k2 v1 v2 v3 s0 z0 else if kb_in? v3 8 then f_X1_tally_b45 rd k2 v1 v2 v3 s0 (de_set_told z0 (upd (de_told z0) (v3).toNatClampNeg s0)) else none)
noncomputable def f_X1_tally_b2 (rd : RideT) : Nat → Int32 → Int32 → Int32 → DealsT → Option (DealsT)
  | 0, _, _, _, _ => none
  | n + 1, v1, v2, v3, z0 => (if v1 ≤ v3 then some (z0) else if kb_in? v3 8 then (if ((rd_turn rd) (v3).toNatClampNeg) = 0 then f_X1_tally_b31 rd (f_X1_tally_b2 rd n) v1 v2 v3 (-1 : Int32) z0 else (f_X6_shunning rd v3).bind fun r4 => f_X1_tally_b31 rd (f_X1_tally_b2 rd n) v1 v2 v3 r4 z0) else none)
noncomputable def f_X1_tally (de : DealsT) (rd : RideT) (x0 : Int32) (x1 : Int32) : Option (DealsT) := f_X1_tally_b2 rd 4096 x0 x1 (0 : Int32) de
set_option maxHeartbeats 4000000 in
set_option maxRecDepth 100000 in
theorem c_X1_tally (l : Launch) (D : va_G) (dA : Nat → ClassId) (sz : Nat) (da : Nat → Nat) (a : Nat → Nat) (h0 : Nat) (h1 : Nat) (de : DealsT) (rd : RideT) (x0 : Int32) (x1 : Int32) (u0 : DealsT) (hf : f_X1_tally de rd x0 x1 = some (u0)) : kb_Mv l yX1_tally cX1_tally 5 none ({ frames := 2, cells := 0, slots := 0, locals := 42 } : Room) D dA [.ref (da 0), .int x0, .int x1] sz (w_Deals dA da (a 0) de ++ (w_Ride dA a h0 h1 rd)) 0 0 (w_Deals dA da (a 0) u0 ++ (w_Ride dA a h0 h1 rd)) := by
  refine Met.ofW (cc := cX1_tally) (maxL := 5) (ret := none) (by decide) rfl ?_
  intro p e s m args below meth c s₁ B hml hv
  obtain ⟨rfl, hsz, hP, hK, hD0, hE⟩ := hv
  have hx := B.exec
  have hb := B.bytes
  have hr := B.returns
  have hown : s.vm.findClass RX1 = some m.cls := findClass_of_methodNamed B.named
  have hlocks := B.notSynchronized
  have hts : ∀ w ∈ kb_gw, w.before ([.ref (da 0), .int x0, .int x1] : List Value).toArray s = true := fun w hw => hK.2.1 w hw _
  subst hsz
  have hD := hD0.self (sz := s.heap.size)
  generalize hAe : va_A (w_Deals dA da (a 0) de ++ (w_Ride dA a h0 h1 rd)) s.heap.size = A at hD hE ⊢
  have hA : ∀ q : Nat, s.heap.size ≤ q → A q := fun q h => by rw [← hAe]; exact Or.inr h
  have hS : va_S A s.heap s.heap [] := va_S.rf
  have hl := lv_entry ([.ref (da 0), .int x0, .int x1]) (n := 5) (Nat.le_of_ble_eq_true rfl)
  rw [lg_entry_eq]
  generalize (lg_sl ([.ref (da 0), .int x0, .int x1]) ++ List.replicate (5 - (lg_sl ([.ref (da 0), .int x0, .int x1])).length) Slot.unset).toArray = ls at hl ⊢
  have hl : lv_has ls 5 [(0, .ref (da 0)), (1, .int x0), (2, .int x1)] := hl
  generalize hQ : MQ below (va_Qv (fun (_ : Unit) => True) (kb_B D A (w_Deals dA da (a 0) u0 ++ (w_Ride dA a h0 h1 rd))) A) ([.ref (da 0), .int x0, .int x1] : List Value).toArray s 0 0 A = Q
  show W p l e ({ frames := 2, cells := 0, slots := 0, locals := 42 } : Room) s m ([.ref (da 0), .int x0, .int x1] : List Value).toArray below meth c s.heap [] 0 0 Q (F0 m 0 ls [])
  have RET : ∀ (w0 : DealsT) (H : Heap) (locs : List Loc) (ls : Array Slot) (pc : Nat), some (w0) = some (u0) → va_P D vwCl (w_Deals dA da (a 0) w0 ++ (w_Ride dA a h0 h1 rd)) H → va_D A (w_Deals dA da (a 0) w0 ++ (w_Ride dA a h0 h1 rd)) → va_S A s.heap H locs → decode cX1_tally pc = .ok (.return_, 1) → W p l e ({ frames := 2, cells := 0, slots := 0, locals := 42 } : Room) s m ([.ref (da 0), .int x0, .int x1] : List Value).toArray below meth c H locs 0 0 Q (F0 m pc ls []) := by
    intro w0 H locs ls pc hq hP hD hS hd
    cases hq
    rw [← hQ]
    exact W.vret hx hb hr (fun t ht hW => ⟨⟨(), rfl, trivial, by rw [ht]; exact hP, hD⟩, hS.F ht⟩) hS.2.2 hd
  have B_66 : ∀ (k2 : Int32 → Int32 → Int32 → DealsT → Option (DealsT)) (hk2 : ∀ (v1 : Int32) (v2 : Int32) (v3 : Int32) (z0 : DealsT) (H : Heap) (locs : List Loc) (ls : Array Slot), k2 v1 v2 v3 z0 = some (u0) → va_P D vwCl (w_Deals dA da (a 0) z0 ++ (w_Ride dA a h0 h1 rd)) H → va_D A (w_Deals dA da (a 0) z0 ++ (w_Ride dA a h0 h1 rd)) → va_S A s.heap H locs → lv_has ls 5 [(0, .ref (da 0)), (1, .int v1), (2, .int v2), (3, .int v3)] → W p l e ({ frames := 2, cells := 0, slots := 0, locals := 42 } : Room) s m ([.ref (da 0), .int x0, .int x1] : List Value).toArray below meth c H locs 0 0 Q (F0 m 2 ls [])) (v1 : Int32) (v2 : Int32) (v3 : Int32) (z0 : DealsT) (H : Heap) (locs : List Loc) (ls : Array Slot), f_X1_tally_b66 rd k2 v1 v2 v3 z0 = some (u0) → va_P D vwCl (w_Deals dA da (a 0) z0 ++ (w_Ride dA a h0 h1 rd)) H → va_D A (w_Deals dA da (a 0) z0 ++ (w_Ride dA a h0 h1 rd)) → va_S A s.heap H locs → lv_has ls 5 [(0, .ref (da 0)), (1, .int v1), (2, .int v2), (3, .int v3)] → W p l e ({ frames := 2, cells := 0, slots := 0, locals := 42 } : Room) s m ([.ref (da 0), .int x0, .int x1] : List Value).toArray below meth c H locs 0 0 Q (F0 m 66 ls []) := by
    intro k2 hk2 v1 v2 v3 z0 H locs ls hf hP hD hS hl
    rw [f_X1_tally_b66] at hf
    refine lv_iinc (v := (v3 + (1 : Int32))) (lv' := [(3, .int (v3 + (1 : Int32))), (0, .ref (da 0)), (1, .int v1), (2, .int v2)]) hx hb dX1_tally_66 hl (k := 3) rfl (by rfl) (by decide) rfl (fun ls hl => ?_)
    refine lv_goto (tgt := 2) hx hb dX1_tally_69 (by decide) ?_
    exact hk2 _ _ _ _ _ _ _ hf hP hD hS (lv_sub hl [1, 2, 3, 0] rfl)
  have B_45 : ∀ (k2 : Int32 → Int32 → Int32 → DealsT → Option (DealsT)) (hk2 : ∀ (v1 : Int32) (v2 : Int32) (v3 : Int32) (z0 : DealsT) (H : Heap) (locs : List Loc) (ls : Array Slot), k2 v1 v2 v3 z0 = some (u0) → va_P D vwCl (w_Deals dA da (a 0) z0 ++ (w_Ride dA a h0 h1 rd)) H → va_D A (w_Deals dA da (a 0) z0 ++ (w_Ride dA a h0 h1 rd)) → va_S A s.heap H locs → lv_has ls 5 [(0, .ref (da 0)), (1, .int v1), (2, .int v2), (3, .int v3)] → W p l e ({ frames := 2, cells := 0, slots := 0, locals := 42 } : Room) s m ([.ref (da 0), .int x0, .int x1] : List Value).toArray below meth c H locs 0 0 Q (F0 m 2 ls [])) (v1 : Int32) (v2 : Int32) (v3 : Int32) (v4 : Int32) (z0 : DealsT) (H : Heap) (locs : List Loc) (ls : Array Slot), f_X1_tally_b45 rd k2 v1 v2 v3 v4 z0 = some (u0) → va_P D vwCl (w_Deals dA da (a 0) z0 ++ (w_Ride dA a h0 h1 rd)) H → va_D A (w_Deals dA da (a 0) z0 ++ (w_Ride dA a h0 h1 rd)) → va_S A s.heap H locs → lv_has ls 5 [(0, .ref (da 0)), (1, .int v1), (2, .int v2), (3, .int v3), (4, .int v4)] → W p l e ({ frames := 2, cells := 0, slots := 0, locals := 42 } : Room) s m ([.ref (da 0), .int x0, .int x1] : List Value).toArray below meth c H locs 0 0 Q (F0 m 45 ls []) := by
    intro k2 hk2 v1 v2 v3 v4 z0 H locs ls hf hP hD hS hl
    rw [f_X1_tally_b45] at hf
    refine lv_iload hx hb dX1_tally_45 (lv_at hl 4 rfl) ?_
    refine lv_aload_n hx hb dX1_tally_47 rfl (lv_at hl 0 rfl) ?_
    refine va_get (D := D) (ci := 1) (v := .ref (da 1)) (C := RX1) (T := TX1) (N := 5) hx hb hts kb_inX1 hown hK.1 hP 0 rfl rfl 1 (by decide) (hK.2.w ww_2_135 rfl _) (fun _ h9 => h9) rfl dX1_tally_48 ?_
    refine lv_iload_n hx hb dX1_tally_51 rfl (lv_at hl 3 rfl) ?_
    obtain ⟨h_6, hf⟩ := kb_if hf
    refine va_iald (D := D) hx hb hK.1 hP 1 0 rfl rfl h_6 dX1_tally_52 ?_
    refine lv_icmp_lt (tgt := 66) hx hb dX1_tally_53 (by decide) (fun c_7 => ?_) (fun c_7 => ?_)
    · rw [if_pos c_7] at hf
      refine lv_iinc (v := (v3 + (1 : Int32))) (lv' := [(3, .int (v3 + (1 : Int32))), (0, .ref (da 0)), (1, .int v1), (2, .int v2), (4, .int v4)]) hx hb dX1_tally_66 hl (k := 3) rfl (by rfl) (by decide) rfl (fun ls hl => ?_)
      refine lv_goto (tgt := 2) hx hb dX1_tally_69 (by decide) ?_
      exact hk2 _ _ _ _ _ _ _ hf hP hD hS (lv_sub hl [1, 2, 3, 0] rfl)
    · rw [if_neg c_7] at hf
      refine lv_aload_n hx hb dX1_tally_56 rfl (lv_at hl 0 rfl) ?_
      refine va_get (D := D) (ci := 1) (v := .ref (da 2)) (C := RX1) (T := TX1) (N := 5) hx hb hts kb_inX1 hown hK.1 hP 0 rfl rfl 2 (by decide) (hK.2.w ww_2_137 rfl _) (fun _ h9 => h9) rfl dX1_tally_57 ?_
      refine lv_iload_n hx hb dX1_tally_60 rfl (lv_at hl 3 rfl) ?_
      refine lv_dup2_11 hx hb dX1_tally_61 rfl rfl ?_
      obtain ⟨h_8, hf⟩ := kb_if hf
      refine va_iald (D := D) hx hb hK.1 hP 2 0 rfl rfl h_8 dX1_tally_62 ?_
      refine lv_iconst (v := (1 : Int32)) hx hb dX1_tally_63 (by decide) ?_
      refine lv_iadd hx hb dX1_tally_64 ?_
      obtain ⟨h_9, hf⟩ := kb_if hf
      refine va_iast (D := D) hx hb hK.1 hP hD hS 2 0 rfl rfl h_9 dX1_tally_65 (fun H locs hP hD hS => ?_)
      have hP : va_P D vwCl (w_Deals dA da (a 0) (de_set_asMuch z0 (upd (de_asMuch z0) (v3).toNatClampNeg (((de_asMuch z0) (v3).toNatClampNeg) + (1 : Int32)))) ++ (w_Ride dA a h0 h1 rd)) H := hP
      have hD : va_D A (w_Deals dA da (a 0) (de_set_asMuch z0 (upd (de_asMuch z0) (v3).toNatClampNeg (((de_asMuch z0) (v3).toNatClampNeg) + (1 : Int32)))) ++ (w_Ride dA a h0 h1 rd)) := hD
      exact B_66 k2 hk2 _ _ _ _ _ _ _ hf hP hD hS (lv_sub hl [0, 1, 2, 3] rfl)
  have B_31 : ∀ (k2 : Int32 → Int32 → Int32 → DealsT → Option (DealsT)) (hk2 : ∀ (v1 : Int32) (v2 : Int32) (v3 : Int32) (z0 : DealsT) (H : Heap) (locs : List Loc) (ls : Array Slot), k2 v1 v2 v3 z0 = some (u0) → va_P D vwCl (w_Deals dA da (a 0) z0 ++ (w_Ride dA a h0 h1 rd)) H → va_D A (w_Deals dA da (a 0) z0 ++ (w_Ride dA a h0 h1 rd)) → va_S A s.heap H locs → lv_has ls 5 [(0, .ref (da 0)), (1, .int v1), (2, .int v2), (3, .int v3)] → W p l e ({ frames := 2, cells := 0, slots := 0, locals := 42 } : Room) s m ([.ref (da 0), .int x0, .int x1] : List Value).toArray below meth c H locs 0 0 Q (F0 m 2 ls [])) (v1 : Int32) (v2 : Int32) (v3 : Int32) (s0 : Int32) (z0 : DealsT) (H : Heap) (locs : List Loc) (ls : Array Slot), f_X1_tally_b31 rd k2 v1 v2 v3 s0 z0 = some (u0) → va_P D vwCl (w_Deals dA da (a 0) z0 ++ (w_Ride dA a h0 h1 rd)) H → va_D A (w_Deals dA da (a 0) z0 ++ (w_Ride dA a h0 h1 rd)) → va_S A s.heap H locs → lv_has ls 5 [(0, .ref (da 0)), (1, .int v1), (2, .int v2), (3, .int v3)] → W p l e ({ frames := 2, cells := 0, slots := 0, locals := 42 } : Room) s m ([.ref (da 0), .int x0, .int x1] : List Value).toArray below meth c H locs 0 0 Q (F0 m 31 ls [.int s0]) := by
    intro k2 hk2 v1 v2 v3 s0 z0 H locs ls hf hP hD hS hl
    rw [f_X1_tally_b31] at hf
    refine lv_istore (lv' := [(4, .int s0), (0, .ref (da 0)), (1, .int v1), (2, .int v2), (3, .int v3)]) hx hb dX1_tally_31 hl (by decide) rfl (fun ls hl => ?_)
    refine lv_iload_n hx hb dX1_tally_33 rfl (lv_at hl 3 rfl) ?_
    refine lv_if_eq (tgt := 45) hx hb dX1_tally_34 (by decide) (fun c_5 => ?_) (fun c_5 => ?_)
    · rw [if_pos c_5] at hf
      exact B_45 k2 hk2 _ _ _ _ _ _ _ _ hf hP hD hS (lv_sub hl [1, 2, 3, 4, 0] rfl)
    · rw [if_neg c_5] at hf
      refine lv_aload_n hx hb dX1_tally_37 rfl (lv_at hl 1 rfl) ?_
      refine va_get (D := D) (ci := 1) (v := .ref (da 1)) (C := RX1) (T := TX1) (N := 5) hx hb hts kb_inX1 hown hK.1 hP 0 rfl rfl 1 (by decide) (hK.2.w ww_2_135 rfl _) (fun _ h9 => h9) rfl dX1_tally_38 ?_
      refine lv_iload_n hx hb dX1_tally_41 rfl (lv_at hl 4 rfl) ?_
      refine lv_iload hx hb dX1_tally_42 (lv_at hl 0 rfl) ?_
      obtain ⟨h_10, hf⟩ := kb_if hf
      refine va_iast (D := D) hx hb hK.1 hP hD hS 1 0 rfl rfl h_10 dX1_tally_44 (fun H locs hP hD hS => ?_)
      have hP : va_P D vwCl (w_Deals dA da (a 0) (de_set_told z0 (upd (de_told z0) (v3).toNatClampNeg s0)) ++ (w_Ride dA a h0 h1 rd)) H := hP
      have hD : va_D A (w_Deals dA da (a 0) (de_set_told z0 (upd (de_told z0) (v3).toNatClampNeg s0)) ++ (w_Ride dA a h0 h1 rd)) := hD
      exact B_45 k2 hk2 _ _ _ _ _ _ _ _ hf hP hD hS (lv_sub hl [1, 2, 3, 4, 0] rfl)
  have B_2 : ∀ (n : Nat) (v1 : Int32) (v2 : Int32) (v3 : Int32) (z0 : DealsT) (H : Heap) (locs : List Loc) (ls : Array Slot), f_X1_tally_b2 rd n v1 v2 v3 z0 = some (u0) → va_P D vwCl (w_Deals dA da (a 0) z0 ++ (w_Ride dA a h0 h1 rd)) H → va_D A (w_Deals dA da (a 0) z0 ++ (w_Ride dA a h0 h1 rd)) → va_S A s.heap H locs → lv_has ls 5 [(0, .ref (da 0)), (1, .int v1), (2, .int v2), (3, .int v3)] → W p l e ({ frames := 2, cells := 0, slots := 0, locals := 42 } : Room) s m ([.ref (da 0), .int x0, .int x1] : List Value).toArray below meth c H locs 0 0 Q (F0 m 2 ls []) := by
    intro n
    induction n with
    | zero =>
      intro v1 v2 v3 z0 H locs ls hf
      exact absurd hf (by simp [f_X1_tally_b2])
    | succ n ih =>
      intro v1 v2 v3 z0 H locs ls hf hP hD hS hl
      rw [f_X1_tally_b2] at hf
      refine lv_iload_n hx hb dX1_tally_2 rfl (lv_at hl 3 rfl) ?_
      refine lv_iload_n hx hb dX1_tally_3 rfl (lv_at hl 1 rfl) ?_
      refine lv_icmp_ge (tgt := 72) hx hb dX1_tally_4 (by decide) (fun c_1 => ?_) (fun c_1 => ?_)
      · rw [if_pos c_1] at hf
        exact RET _ H _ ls 72 hf hP hD hS dX1_tally_72
      · rw [if_neg c_1] at hf
        refine lv_aload_n hx hb dX1_tally_7 rfl (lv_at hl 0 rfl) ?_
        refine va_get (D := D) (ci := 1) (v := .ref (a 0)) (C := RX1) (T := TX1) (N := 5) hx hb hts kb_inX1 hown hK.1 hP 0 rfl rfl 4 (by decide) (hK.2.w ww_2_140 rfl _) (fun _ h9 => h9) rfl dX1_tally_8 ?_
        refine va_get (D := D) (ci := 6) (v := .ref (a 6)) (C := RX6) (T := TX6) (N := 11) hx hb hts kb_inX6 hown hK.1 hP 4 rfl rfl 4 (by decide) (hK.2.w ww_2_75 rfl _) (fun _ h9 => h9) rfl dX1_tally_11 ?_
        refine lv_iload_n hx hb dX1_tally_14 rfl (lv_at hl 3 rfl) ?_
        obtain ⟨h_2, hf⟩ := kb_if hf
        refine va_iald (D := D) hx hb hK.1 hP 10 0 rfl rfl h_2 dX1_tally_15 ?_
        refine lv_if_ne (tgt := 23) hx hb dX1_tally_16 (by decide) (fun c_3 => ?_) (fun c_3 => ?_)
        · rw [if_neg c_3] at hf
          refine lv_aload_n hx hb dX1_tally_23 rfl (lv_at hl 0 rfl) ?_
          refine va_get (D := D) (ci := 1) (v := .ref (a 0)) (C := RX1) (T := TX1) (N := 5) hx hb hts kb_inX1 hown hK.1 hP 0 rfl rfl 4 (by decide) (hK.2.w ww_2_140 rfl _) (fun _ h9 => h9) rfl dX1_tally_24 ?_
          refine lv_iload_n hx hb dX1_tally_27 rfl (lv_at hl 3 rfl) ?_
          obtain ⟨r4, hc4, hf⟩ := kb_bind hf
          refine kb_ci (ws2 := (w_Deals dA da (a 0) z0 ++ (w_Ride dA a h0 h1 rd))) (kb_rV (n := 1) (As := [.int v3]) (rest := []) hx hb hml hown hK (c_X6_shunning l D dA H.size a h0 h1 rd v3 r4 hc4) ⟨ww_4_113, ww_5_30, ww_4_111, ww_4_112, ww_1_8, rfl, by decide, by decide⟩ rfl rfl (by decide +kernel) ⟨Nat.le_of_ble_eq_true rfl, Nat.le_of_ble_eq_true rfl⟩ hP hD hS hA hE [4, 5, 6, 7, 8, 9, 10, 11, 12] rfl (by decide) 0 rfl rfl rfl hl.1 rfl (Nat.le_of_ble_eq_true rfl) dX1_tally_28 ⟨Nat.le_of_ble_eq_true rfl, Nat.le_of_ble_eq_true rfl⟩) hP hD hS hA [4, 5, 6, 7, 8, 9, 10, 11, 12] [0, 1, 2, 3] [0, 1, 2, 3, 4, 5, 6, 7, 8, 9, 10, 11, 12] rfl rfl (by decide) (by decide) rfl (by decide) (fun H locs hP hD hS => ?_)
          exact B_31 (f_X1_tally_b2 rd n) ih _ _ _ _ _ _ _ _ hf hP hD hS (lv_sub hl [0, 1, 2, 3] rfl)
        · rw [if_pos c_3] at hf
          refine lv_iconst (v := (-1 : Int32)) hx hb dX1_tally_19 (by decide) ?_
          refine lv_goto (tgt := 31) hx hb dX1_tally_20 (by decide) ?_
          exact B_31 (f_X1_tally_b2 rd n) ih _ _ _ _ _ _ _ _ hf hP hD hS (lv_sub hl [0, 1, 2, 3] rfl)
  have E0 : ∀ (H : Heap) (locs : List Loc), va_P D vwCl (w_Deals dA da (a 0) de ++ (w_Ride dA a h0 h1 rd)) H → va_D A (w_Deals dA da (a 0) de ++ (w_Ride dA a h0 h1 rd)) → va_S A s.heap H locs → W p l e ({ frames := 2, cells := 0, slots := 0, locals := 42 } : Room) s m ([.ref (da 0), .int x0, .int x1] : List Value).toArray below meth c H locs 0 0 Q (F0 m 0 ls []) := by
    intro H locs hP hD hS
    rw [f_X1_tally] at hf
    refine lv_iconst (v := (0 : Int32)) hx hb dX1_tally_0 (by decide) ?_
    refine lv_istore_n (lv' := [(3, .int (0 : Int32)), (0, .ref (da 0)), (1, .int x0), (2, .int x1)]) hx hb dX1_tally_1 rfl hl (by decide) rfl (fun ls hl => ?_)
    exact B_2 4096 _ _ _ _ _ _ _ hf hP hD hS (lv_sub hl [1, 2, 3, 0] rfl)
  exact E0 _ _ hP hD hS

noncomputable def f_X1_countAll_b164 (pl : PlanT) (z0 : DealsT) (z1 : RideT) : Option (DealsT × RideT) := some (z0, z1)
noncomputable def f_X1_countAll_b153 (pl : PlanT) (k45 : Int32 → Int32 → Int32 → DealsT → RideT → Option (DealsT × RideT)) (v2 : Int32) (v3 : Int32) (v4 : Int32) (z0 : DealsT) (z1 : RideT) : Option (DealsT × RideT) := k45 v2 v3 (v4 + (1 : Int32)) z0 z1
noncomputable def f_X1_countAll_b148 (pl : PlanT) (k45 : Int32 → Int32 → Int32 → DealsT → RideT → Option (DealsT × RideT)) (v2 : Int32) (v3 : Int32) (v4 : Int32) (z0 : DealsT) (z1 : RideT) : Option (DealsT × RideT) := (f_X1_dealNext z0 v2).bind fun r9 => f_X1_countAll_b153 pl k45 v2 v3 v4 r9 z1
noncomputable def f_X1_countAll_b145 (pl : PlanT) (k45 : Int32 → Int32 → Int32 → DealsT → RideT → Option (DealsT × RideT)) (v2 : Int32) (v3 : Int32) (v4 : Int32) (s0 : Int32) (s1 : Int32) (z0 : DealsT) (z1 : RideT) : Option (DealsT × RideT) := (f_X1_tally z0 z1 s1 s0).bind fun r8 => f_X1_countAll_b148 pl k45 v2 v3 v4 r8 z1
noncomputable def f_X1_countAll_b127 (pl : PlanT) (k45 : Int32 → Int32 → Int32 → DealsT → RideT → Option (DealsT × RideT)) (k105 : Int32 → Int32 → Int32 → Int32 → DealsT → RideT → Option (DealsT × RideT)) (v2 : Int32) (v3 : Int32) (v4 : Int32) (v5 : Int32) (z0 : DealsT) (z1 : RideT) : Option (DealsT × RideT) := k105 v2 v3 v4 (v5 + (1 : Int32)) z0 z1
noncomputable def f_X1_countAll_b120 (pl : PlanT) (k45 : Int32 → Int32 → Int32 → DealsT → RideT → Option (DealsT × RideT)) (k105 : Int32 → Int32 → Int32 → Int32 → DealsT → RideT → Option (DealsT × RideT)) (v2 : Int32) (v3 : Int32) (v4 : Int32) (v5 : Int32) (z0 : DealsT) (z1 : RideT) : Option (DealsT × RideT) := (f_X6_board z1 pl).bind fun r11 => f_X1_countAll_b127 pl k45 k105 v2 v3 v4 v5 z0 r11
noncomputable def f_X1_countAll_b105 (pl : PlanT) (k45 : Int32 → Int32 → Int32 → DealsT → RideT → Option (DealsT × RideT)) : Nat → Int32 → Int32 → Int32 → Int32 → DealsT → RideT → Option (DealsT × RideT)
  | 0, _, _, _, _, _, _ => none
  | n + 1, v2, v3, v4, v5, z0, z1 => (if (12 : Int32) ≤ v5 then (if v4 = 0 then f_X1_countAll_b145 pl k45 v2 v3 v4 (1 : Int32) v2 z0 z1 else f_X1_countAll_b145 pl k45 v2 v3 v4 (0 : Int32) v2 z0 z1) else (f_X6_halt z1 pl).bind fun r10 => f_X1_countAll_b120 pl k45 (f_X1_countAll_b105 pl k45 n) v2 v3 v4 v5 z0 r10.2)
noncomputable def f_X1_countAll_b96 (pl : PlanT) (k45 : Int32 → Int32 → Int32 → DealsT → RideT → Option (DealsT × RideT)) (k62 : Int32 → Int32 → Int32 → Int32 → DealsT → RideT → Option (DealsT × RideT)) (v2 : Int32) (v3 : Int32) (v4 : Int32) (v5 : Int32) (z0 : DealsT) (z1 : RideT) : Option (DealsT × RideT) := k62 v2 v3 v4 (v5 + (1 : Int32)) z0 z1
noncomputable def f_X1_countAll_b62 (pl : PlanT) (k45 : Int32 → Int32 → Int32 → DealsT → RideT → Option (DealsT × RideT)) : Nat → Int32 → Int32 → Int32 → Int32 → DealsT → RideT → Option (DealsT × RideT)
  | 0, _, _, _, _, _, _ => none
  | n + 1, v2, v3, v4, v5, z0, z1 => (if v2 ≤ v5 then f_X1_countAll_b105 pl k45 4096 v2 v3 v4 (0 : Int32) z0 z1 else if kb_in? v5 6 then if kb_in? ((de_hand z0) (v5).toNatClampNeg) 8 then if kb_in? v5 9 then f_X1_countAll_b96 pl k45 (f_X1_countAll_b62 pl k45 n) v2 v3 v4 v5 z0 (rd_set_scene z1 (sc_set_looks (rd_scene z1) (upd (sc_looks (rd_scene z1)) (v5).toNatClampNeg ((qr_looks (pl_riders pl)) (((de_hand z0) (v5).toNatClampNeg)).toNatClampNeg)))) else none else none else none)
noncomputable def f_X1_countAll_b59 (pl : PlanT) (k45 : Int32 → Int32 → Int32 → DealsT → RideT → Option (DealsT × RideT)) (v2 : Int32) (v3 : Int32) (v4 : Int32) (z0 : DealsT) (z1 : RideT) : Option (DealsT × RideT) := f_X1_countAll_b62 pl k45 4096 v2 v3 v4 (0 : Int32) z0 z1
noncomputable def f_X1_countAll_b45 (pl : PlanT) : Nat → Int32 → Int32 → Int32 → DealsT → RideT → Option (DealsT × RideT)
  | 0, _, _, _, _, _ => none
  | n + 1, v2, v3, v4, z0, z1 => (if v3 ≤ v4 then f_X1_countAll_b164 pl (de_set_counted z0 (1 : Int32)) z1 else (f_X6_begin z1 pl).bind fun r4 => f_X1_countAll_b59 pl (f_X1_countAll_b45 pl n) v2 v3 v4 z0 r4)
noncomputable def f_X1_countAll_b31 (pl : PlanT) (k12 : Int32 → Int32 → DealsT → RideT → Option (DealsT × RideT)) (v2 : Int32) (v3 : Int32) (z0 : DealsT) (z1 : RideT) : Option (DealsT × RideT) := k12 v2 (v3 + (1 : Int32)) z0 z1
noncomputable def f_X1_countAll_b24 (pl : PlanT) (k12 : Int32 → Int32 → DealsT → RideT → Option (DealsT × RideT)) (v2 : Int32) (v3 : Int32) (z0 : DealsT) (z1 : RideT) : Option (DealsT × RideT) := if kb_in? v3 8 then f_X1_countAll_b31 pl k12 v2 v3 (de_set_asMuch z0 (upd (de_asMuch z0) (v3).toNatClampNeg (0 : Int32))) z1 else none
noncomputable def f_X1_countAll_b12 (pl : PlanT) : Nat → Int32 → Int32 → DealsT → RideT → Option (DealsT × RideT)
  | 0, _, _, _, _ => none
  | n + 1, v2, v3, z0, z1 => (if v2 ≤ v3 then (f_X1_howMany v2).bind fun r2 => f_X1_countAll_b45 pl 4096 v2 r2 (0 : Int32) z0 z1 else if kb_in? v3 6 then f_X1_countAll_b24 pl (f_X1_countAll_b12 pl n) v2 v3 (de_set_hand z0 (upd (de_hand z0) (v3).toNatClampNeg v3)) z1 else none)
noncomputable def f_X1_countAll (de : DealsT) (rd : RideT) (pl : PlanT) : Option (DealsT × RideT) := f_X1_countAll_b12 pl 4096 (if (6 : Int32) < (pl_riderCount pl) then (6 : Int32) else (pl_riderCount pl)) (0 : Int32) de rd
set_option maxHeartbeats 4000000 in
set_option maxRecDepth 100000 in
theorem c_X1_countAll (l : Launch) (D : va_G) (dA : Nat → ClassId) (sz : Nat) (da : Nat → Nat) (a : Nat → Nat) (pa : Nat → Nat) (ph : Nat → Nat) (de : DealsT) (rd : RideT) (pl : PlanT) (u0 : DealsT) (u1 : RideT) (hf : f_X1_countAll de rd pl = some (u0, u1)) : kb_FMv l yX1_countAll cX1_countAll 6 none ({ frames := 6, cells := 0, slots := 0, locals := 149 } : Room) D dA [.ref (da 0), .ref (pa 0)] sz (w_Deals dA da (a 0) de ++ (w_Ride dA a (ph 0) (ph 1) rd ++ (w_Plan dA pa pl))) 0 0 (fun (ph2 : Nat → Nat) => (w_Deals dA da (a 0) u0 ++ (w_Ride dA a (ph2 0) (ph2 1) u1 ++ (w_Plan dA pa pl)))) := by
  refine Met.ofW (cc := cX1_countAll) (maxL := 6) (ret := none) (by decide) rfl ?_
  intro p e s m args below meth c s₁ B hml hv
  obtain ⟨rfl, hsz, hP, hK, hD0, hE⟩ := hv
  have hx := B.exec
  have hb := B.bytes
  have hr := B.returns
  have hown : s.vm.findClass RX1 = some m.cls := findClass_of_methodNamed B.named
  have hlocks := B.notSynchronized
  have hts : ∀ w ∈ kb_gw, w.before ([.ref (da 0), .ref (pa 0)] : List Value).toArray s = true := fun w hw => hK.2.1 w hw _
  subst hsz
  have hD := hD0.self (sz := s.heap.size)
  generalize hAe : va_A (w_Deals dA da (a 0) de ++ (w_Ride dA a (ph 0) (ph 1) rd ++ (w_Plan dA pa pl))) s.heap.size = A at hD hE ⊢
  have hA : ∀ q : Nat, s.heap.size ≤ q → A q := fun q h => by rw [← hAe]; exact Or.inr h
  have hS : va_S A s.heap s.heap [] := va_S.rf
  have hl := lv_entry ([.ref (da 0), .ref (pa 0)]) (n := 6) (Nat.le_of_ble_eq_true rfl)
  rw [lg_entry_eq]
  generalize (lg_sl ([.ref (da 0), .ref (pa 0)]) ++ List.replicate (6 - (lg_sl ([.ref (da 0), .ref (pa 0)])).length) Slot.unset).toArray = ls at hl ⊢
  have hl : lv_has ls 6 [(0, .ref (da 0)), (1, .ref (pa 0))] := hl
  generalize hQ : MQ below (va_Qv (fun (_ : Nat → Nat) => True) (fun ph2 => kb_B D A (w_Deals dA da (a 0) u0 ++ (w_Ride dA a (ph2 0) (ph2 1) u1 ++ (w_Plan dA pa pl))) ()) A) ([.ref (da 0), .ref (pa 0)] : List Value).toArray s 0 0 A = Q
  show W p l e ({ frames := 6, cells := 0, slots := 0, locals := 149 } : Room) s m ([.ref (da 0), .ref (pa 0)] : List Value).toArray below meth c s.heap [] 0 0 Q (F0 m 0 ls [])
  have RET : ∀ (ph2 : Nat → Nat) (w0 : DealsT) (w1 : RideT) (H : Heap) (locs : List Loc) (ls : Array Slot) (pc : Nat), some (w0, w1) = some (u0, u1) → va_P D vwCl (w_Deals dA da (a 0) w0 ++ (w_Ride dA a (ph2 0) (ph2 1) w1 ++ (w_Plan dA pa pl))) H → va_D A (w_Deals dA da (a 0) w0 ++ (w_Ride dA a (ph2 0) (ph2 1) w1 ++ (w_Plan dA pa pl))) → va_S A s.heap H locs → decode cX1_countAll pc = .ok (.return_, 1) → W p l e ({ frames := 6, cells := 0, slots := 0, locals := 149 } : Room) s m ([.ref (da 0), .ref (pa 0)] : List Value).toArray below meth c H locs 0 0 Q (F0 m pc ls []) := by
    intro ph2 w0 w1 H locs ls pc hq hP hD hS hd
    cases hq
    rw [← hQ]
    exact W.vret hx hb hr (fun t ht hW => ⟨⟨ph2, rfl, trivial, by rw [ht]; exact hP, hD⟩, hS.F ht⟩) hS.2.2 hd
  have B_164 : ∀ (ph : Nat → Nat) (z0 : DealsT) (z1 : RideT) (H : Heap) (locs : List Loc) (ls : Array Slot), f_X1_countAll_b164 pl z0 z1 = some (u0, u1) → va_P D vwCl (w_Deals dA da (a 0) z0 ++ (w_Ride dA a (ph 0) (ph 1) z1 ++ (w_Plan dA pa pl))) H → va_D A (w_Deals dA da (a 0) z0 ++ (w_Ride dA a (ph 0) (ph 1) z1 ++ (w_Plan dA pa pl))) → va_S A s.heap H locs → lv_has ls 6 [] → W p l e ({ frames := 6, cells := 0, slots := 0, locals := 149 } : Room) s m ([.ref (da 0), .ref (pa 0)] : List Value).toArray below meth c H locs 0 0 Q (F0 m 164 ls []) := by
    intro ph z0 z1 H locs ls hf hP hD hS hl
    rw [f_X1_countAll_b164] at hf
    exact RET (kb_ph [(ph 0), (ph 1)]) _ _ H _ ls 164 hf hP hD hS dX1_countAll_164
  have B_153 : ∀ (k45 : Int32 → Int32 → Int32 → DealsT → RideT → Option (DealsT × RideT)) (hk45 : ∀ (ph : Nat → Nat) (v2 : Int32) (v3 : Int32) (v4 : Int32) (z0 : DealsT) (z1 : RideT) (H : Heap) (locs : List Loc) (ls : Array Slot), k45 v2 v3 v4 z0 z1 = some (u0, u1) → va_P D vwCl (w_Deals dA da (a 0) z0 ++ (w_Ride dA a (ph 0) (ph 1) z1 ++ (w_Plan dA pa pl))) H → va_D A (w_Deals dA da (a 0) z0 ++ (w_Ride dA a (ph 0) (ph 1) z1 ++ (w_Plan dA pa pl))) → va_S A s.heap H locs → lv_has ls 6 [(0, .ref (da 0)), (1, .ref (pa 0)), (2, .int v2), (3, .int v3), (4, .int v4)] → W p l e ({ frames := 6, cells := 0, slots := 0, locals := 149 } : Room) s m ([.ref (da 0), .ref (pa 0)] : List Value).toArray below meth c H locs 0 0 Q (F0 m 45 ls [])) (ph : Nat → Nat) (v2 : Int32) (v3 : Int32) (v4 : Int32) (z0 : DealsT) (z1 : RideT) (H : Heap) (locs : List Loc) (ls : Array Slot), f_X1_countAll_b153 pl k45 v2 v3 v4 z0 z1 = some (u0, u1) → va_P D vwCl (w_Deals dA da (a 0) z0 ++ (w_Ride dA a (pa 0) (pa 1) z1 ++ (w_Plan dA pa pl))) H → va_D A (w_Deals dA da (a 0) z0 ++ (w_Ride dA a (pa 0) (pa 1) z1 ++ (w_Plan dA pa pl))) → va_S A s.heap H locs → lv_has ls 6 [(0, .ref (da 0)), (1, .ref (pa 0)), (2, .int v2), (3, .int v3), (4, .int v4)] → W p l e ({ frames := 6, cells := 0, slots := 0, locals := 149 } : Room) s m ([.ref (da 0), .ref (pa 0)] : List Value).toArray below meth c H locs 0 0 Q (F0 m 153 ls []) := by
    intro k45 hk45 ph v2 v3 v4 z0 z1 H locs ls hf hP hD hS hl
    rw [f_X1_countAll_b153] at hf
    refine lv_iinc (v := (v4 + (1 : Int32))) (lv' := [(4, .int (v4 + (1 : Int32))), (0, .ref (da 0)), (1, .ref (pa 0)), (2, .int v2), (3, .int v3)]) hx hb dX1_countAll_153 hl (k := 4) rfl (by rfl) (by decide) rfl (fun ls hl => ?_)
    refine lv_goto (tgt := 45) hx hb dX1_countAll_156 (by decide) ?_
    exact hk45 (kb_ph [(pa 0), (pa 1)]) _ _ _ _ _ _ _ _ hf hP hD hS (lv_sub hl [1, 2, 3, 4, 0] rfl)
  have B_148 : ∀ (k45 : Int32 → Int32 → Int32 → DealsT → RideT → Option (DealsT × RideT)) (hk45 : ∀ (ph : Nat → Nat) (v2 : Int32) (v3 : Int32) (v4 : Int32) (z0 : DealsT) (z1 : RideT) (H : Heap) (locs : List Loc) (ls : Array Slot), k45 v2 v3 v4 z0 z1 = some (u0, u1) → va_P D vwCl (w_Deals dA da (a 0) z0 ++ (w_Ride dA a (ph 0) (ph 1) z1 ++ (w_Plan dA pa pl))) H → va_D A (w_Deals dA da (a 0) z0 ++ (w_Ride dA a (ph 0) (ph 1) z1 ++ (w_Plan dA pa pl))) → va_S A s.heap H locs → lv_has ls 6 [(0, .ref (da 0)), (1, .ref (pa 0)), (2, .int v2), (3, .int v3), (4, .int v4)] → W p l e ({ frames := 6, cells := 0, slots := 0, locals := 149 } : Room) s m ([.ref (da 0), .ref (pa 0)] : List Value).toArray below meth c H locs 0 0 Q (F0 m 45 ls [])) (ph : Nat → Nat) (v2 : Int32) (v3 : Int32) (v4 : Int32) (z0 : DealsT) (z1 : RideT) (H : Heap) (locs : List Loc) (ls : Array Slot), f_X1_countAll_b148 pl k45 v2 v3 v4 z0 z1 = some (u0, u1) → va_P D vwCl (w_Deals dA da (a 0) z0 ++ (w_Ride dA a (pa 0) (pa 1) z1 ++ (w_Plan dA pa pl))) H → va_D A (w_Deals dA da (a 0) z0 ++ (w_Ride dA a (pa 0) (pa 1) z1 ++ (w_Plan dA pa pl))) → va_S A s.heap H locs → lv_has ls 6 [(0, .ref (da 0)), (1, .ref (pa 0)), (2, .int v2), (3, .int v3), (4, .int v4)] → W p l e ({ frames := 6, cells := 0, slots := 0, locals := 149 } : Room) s m ([.ref (da 0), .ref (pa 0)] : List Value).toArray below meth c H locs 0 0 Q (F0 m 148 ls []) := by
    intro k45 hk45 ph v2 v3 v4 z0 z1 H locs ls hf hP hD hS hl
    rw [f_X1_countAll_b148] at hf
    refine lv_aload_n hx hb dX1_countAll_148 rfl (lv_at hl 0 rfl) ?_
    refine lv_iload_n hx hb dX1_countAll_149 rfl (lv_at hl 2 rfl) ?_
    obtain ⟨r9, hc9, hf⟩ := kb_bind hf
    refine kb_cv (ws2 := (w_Deals dA da (a 0) r9 ++ (w_Ride dA a (pa 0) (pa 1) z1 ++ (w_Plan dA pa pl)))) (kb_rV (n := 1) (As := [.int v2]) (rest := []) hx hb hml hown hK (c_X1_dealNext l D dA H.size da (a 0) z0 v2 r9 hc9) ⟨ww_5_34, ww_5_31, ww_5_33, ws_42, ww_1_11, rfl, by decide, by decide⟩ rfl rfl (by decide +kernel) ⟨Nat.le_of_ble_eq_true rfl, Nat.le_of_ble_eq_true rfl⟩ hP hD hS hA hE [0, 1, 2, 3] rfl (by decide) 0 rfl rfl rfl hl.1 rfl (Nat.le_of_ble_eq_true rfl) dX1_countAll_150 ⟨Nat.le_of_ble_eq_true rfl, Nat.le_of_ble_eq_true rfl⟩) hP hD hS hA [0, 1, 2, 3] [4, 5, 6, 7, 8, 9, 10, 11, 12, 13, 14, 15, 16, 17, 18, 19, 20, 21, 22, 23, 24, 25, 26, 27, 28, 29, 30, 31, 32, 33] [30, 31, 32, 33, 0, 1, 2, 3, 4, 5, 6, 7, 8, 9, 10, 11, 12, 13, 14, 15, 16, 17, 18, 19, 20, 21, 22, 23, 24, 25, 26, 27, 28, 29] rfl rfl (by decide) (by decide) rfl (by decide) (fun H locs hP hD hS => ?_)
    exact B_153 k45 hk45 (kb_ph [(pa 0), (pa 1)]) _ _ _ _ _ _ _ _ hf hP hD hS (lv_sub hl [0, 1, 2, 3, 4] rfl)
  have B_145 : ∀ (k45 : Int32 → Int32 → Int32 → DealsT → RideT → Option (DealsT × RideT)) (hk45 : ∀ (ph : Nat → Nat) (v2 : Int32) (v3 : Int32) (v4 : Int32) (z0 : DealsT) (z1 : RideT) (H : Heap) (locs : List Loc) (ls : Array Slot), k45 v2 v3 v4 z0 z1 = some (u0, u1) → va_P D vwCl (w_Deals dA da (a 0) z0 ++ (w_Ride dA a (ph 0) (ph 1) z1 ++ (w_Plan dA pa pl))) H → va_D A (w_Deals dA da (a 0) z0 ++ (w_Ride dA a (ph 0) (ph 1) z1 ++ (w_Plan dA pa pl))) → va_S A s.heap H locs → lv_has ls 6 [(0, .ref (da 0)), (1, .ref (pa 0)), (2, .int v2), (3, .int v3), (4, .int v4)] → W p l e ({ frames := 6, cells := 0, slots := 0, locals := 149 } : Room) s m ([.ref (da 0), .ref (pa 0)] : List Value).toArray below meth c H locs 0 0 Q (F0 m 45 ls [])) (ph : Nat → Nat) (v2 : Int32) (v3 : Int32) (v4 : Int32) (s0 : Int32) (s1 : Int32) (z0 : DealsT) (z1 : RideT) (H : Heap) (locs : List Loc) (ls : Array Slot), f_X1_countAll_b145 pl k45 v2 v3 v4 s0 s1 z0 z1 = some (u0, u1) → va_P D vwCl (w_Deals dA da (a 0) z0 ++ (w_Ride dA a (pa 0) (pa 1) z1 ++ (w_Plan dA pa pl))) H → va_D A (w_Deals dA da (a 0) z0 ++ (w_Ride dA a (pa 0) (pa 1) z1 ++ (w_Plan dA pa pl))) → va_S A s.heap H locs → lv_has ls 6 [(0, .ref (da 0)), (1, .ref (pa 0)), (2, .int v2), (3, .int v3), (4, .int v4)] → W p l e ({ frames := 6, cells := 0, slots := 0, locals := 149 } : Room) s m ([.ref (da 0), .ref (pa 0)] : List Value).toArray below meth c H locs 0 0 Q (F0 m 145 ls [.int s0, .int s1, .ref (da 0)]) := by
    intro k45 hk45 ph v2 v3 v4 s0 s1 z0 z1 H locs ls hf hP hD hS hl
    rw [f_X1_countAll_b145] at hf
    obtain ⟨r8, hc8, hf⟩ := kb_bind hf
    refine kb_cv (ws2 := (w_Deals dA da (a 0) r8 ++ (w_Ride dA a (pa 0) (pa 1) z1 ++ (w_Plan dA pa pl)))) (kb_rV (n := 2) (As := [.int s1, .int s0]) (rest := []) hx hb hml hown hK (c_X1_tally l D dA H.size da a (pa 0) (pa 1) z0 z1 s1 s0 r8 hc8) ⟨ww_5_29, ww_5_26, ww_5_28, ws_41, ww_1_11, rfl, by decide, by decide⟩ rfl rfl (by decide +kernel) ⟨Nat.le_of_ble_eq_true rfl, Nat.le_of_ble_eq_true rfl⟩ hP hD hS hA hE [0, 1, 2, 3, 4, 5, 6, 7, 8, 9, 10, 11, 12] rfl (by decide) 0 rfl rfl rfl hl.1 rfl (Nat.le_of_ble_eq_true rfl) dX1_countAll_145 ⟨Nat.le_of_ble_eq_true rfl, Nat.le_of_ble_eq_true rfl⟩) hP hD hS hA [0, 1, 2, 3, 4, 5, 6, 7, 8, 9, 10, 11, 12] [13, 14, 15, 16, 17, 18, 19, 20, 21, 22, 23, 24, 25, 26, 27, 28, 29, 30, 31, 32, 33] [21, 22, 23, 24, 25, 26, 27, 28, 29, 30, 31, 32, 33, 0, 1, 2, 3, 4, 5, 6, 7, 8, 9, 10, 11, 12, 13, 14, 15, 16, 17, 18, 19, 20] rfl rfl (by decide) (by decide) rfl (by decide) (fun H locs hP hD hS => ?_)
    exact B_148 k45 hk45 (kb_ph [(pa 0), (pa 1)]) _ _ _ _ _ _ _ _ hf hP hD hS (lv_sub hl [0, 1, 2, 3, 4] rfl)
  have B_127 : ∀ (k45 : Int32 → Int32 → Int32 → DealsT → RideT → Option (DealsT × RideT)) (hk45 : ∀ (ph : Nat → Nat) (v2 : Int32) (v3 : Int32) (v4 : Int32) (z0 : DealsT) (z1 : RideT) (H : Heap) (locs : List Loc) (ls : Array Slot), k45 v2 v3 v4 z0 z1 = some (u0, u1) → va_P D vwCl (w_Deals dA da (a 0) z0 ++ (w_Ride dA a (ph 0) (ph 1) z1 ++ (w_Plan dA pa pl))) H → va_D A (w_Deals dA da (a 0) z0 ++ (w_Ride dA a (ph 0) (ph 1) z1 ++ (w_Plan dA pa pl))) → va_S A s.heap H locs → lv_has ls 6 [(0, .ref (da 0)), (1, .ref (pa 0)), (2, .int v2), (3, .int v3), (4, .int v4)] → W p l e ({ frames := 6, cells := 0, slots := 0, locals := 149 } : Room) s m ([.ref (da 0), .ref (pa 0)] : List Value).toArray below meth c H locs 0 0 Q (F0 m 45 ls [])) (k105 : Int32 → Int32 → Int32 → Int32 → DealsT → RideT → Option (DealsT × RideT)) (hk105 : ∀ (ph : Nat → Nat) (v2 : Int32) (v3 : Int32) (v4 : Int32) (v5 : Int32) (z0 : DealsT) (z1 : RideT) (H : Heap) (locs : List Loc) (ls : Array Slot), k105 v2 v3 v4 v5 z0 z1 = some (u0, u1) → va_P D vwCl (w_Deals dA da (a 0) z0 ++ (w_Ride dA a (pa 0) (pa 1) z1 ++ (w_Plan dA pa pl))) H → va_D A (w_Deals dA da (a 0) z0 ++ (w_Ride dA a (pa 0) (pa 1) z1 ++ (w_Plan dA pa pl))) → va_S A s.heap H locs → lv_has ls 6 [(0, .ref (da 0)), (1, .ref (pa 0)), (2, .int v2), (3, .int v3), (4, .int v4), (5, .int v5)] → W p l e ({ frames := 6, cells := 0, slots := 0, locals := 149 } : Room) s m ([.ref (da 0), .ref (pa 0)] : List Value).toArray below meth c H locs 0 0 Q (F0 m 105 ls [])) (ph : Nat → Nat) (v2 : Int32) (v3 : Int32) (v4 : Int32) (v5 : Int32) (z0 : DealsT) (z1 : RideT) (H : Heap) (locs : List Loc) (ls : Array Slot), f_X1_countAll_b127 pl k45 k105 v2 v3 v4 v5 z0 z1 = some (u0, u1) → va_P D vwCl (w_Deals dA da (a 0) z0 ++ (w_Ride dA a (pa 0) (pa 1) z1 ++ (w_Plan dA pa pl))) H → va_D A (w_Deals dA da (a 0) z0 ++ (w_Ride dA a (pa 0) (pa 1) z1 ++ (w_Plan dA pa pl))) → va_S A s.heap H locs → lv_has ls 6 [(0, .ref (da 0)), (1, .ref (pa 0)), (2, .int v2), (3, .int v3), (4, .int v4), (5, .int v5)] → W p l e ({ frames := 6, cells := 0, slots := 0, locals := 149 } : Room) s m ([.ref (da 0), .ref (pa 0)] : List Value).toArray below meth c H locs 0 0 Q (F0 m 127 ls []) := by
    intro k45 hk45 k105 hk105 ph v2 v3 v4 v5 z0 z1 H locs ls hf hP hD hS hl
    rw [f_X1_countAll_b127] at hf
    refine lv_iinc (v := (v5 + (1 : Int32))) (lv' := [(5, .int (v5 + (1 : Int32))), (0, .ref (da 0)), (1, .ref (pa 0)), (2, .int v2), (3, .int v3), (4, .int v4)]) hx hb dX1_countAll_127 hl (k := 5) rfl (by rfl) (by decide) rfl (fun ls hl => ?_)
    refine lv_goto (tgt := 105) hx hb dX1_countAll_130 (by decide) ?_
    exact hk105 (kb_ph [(pa 0), (pa 1)]) _ _ _ _ _ _ _ _ _ hf hP hD hS (lv_sub hl [1, 2, 3, 4, 5, 0] rfl)
  have B_120 : ∀ (k45 : Int32 → Int32 → Int32 → DealsT → RideT → Option (DealsT × RideT)) (hk45 : ∀ (ph : Nat → Nat) (v2 : Int32) (v3 : Int32) (v4 : Int32) (z0 : DealsT) (z1 : RideT) (H : Heap) (locs : List Loc) (ls : Array Slot), k45 v2 v3 v4 z0 z1 = some (u0, u1) → va_P D vwCl (w_Deals dA da (a 0) z0 ++ (w_Ride dA a (ph 0) (ph 1) z1 ++ (w_Plan dA pa pl))) H → va_D A (w_Deals dA da (a 0) z0 ++ (w_Ride dA a (ph 0) (ph 1) z1 ++ (w_Plan dA pa pl))) → va_S A s.heap H locs → lv_has ls 6 [(0, .ref (da 0)), (1, .ref (pa 0)), (2, .int v2), (3, .int v3), (4, .int v4)] → W p l e ({ frames := 6, cells := 0, slots := 0, locals := 149 } : Room) s m ([.ref (da 0), .ref (pa 0)] : List Value).toArray below meth c H locs 0 0 Q (F0 m 45 ls [])) (k105 : Int32 → Int32 → Int32 → Int32 → DealsT → RideT → Option (DealsT × RideT)) (hk105 : ∀ (ph : Nat → Nat) (v2 : Int32) (v3 : Int32) (v4 : Int32) (v5 : Int32) (z0 : DealsT) (z1 : RideT) (H : Heap) (locs : List Loc) (ls : Array Slot), k105 v2 v3 v4 v5 z0 z1 = some (u0, u1) → va_P D vwCl (w_Deals dA da (a 0) z0 ++ (w_Ride dA a (pa 0) (pa 1) z1 ++ (w_Plan dA pa pl))) H → va_D A (w_Deals dA da (a 0) z0 ++ (w_Ride dA a (pa 0) (pa 1) z1 ++ (w_Plan dA pa pl))) → va_S A s.heap H locs → lv_has ls 6 [(0, .ref (da 0)), (1, .ref (pa 0)), (2, .int v2), (3, .int v3), (4, .int v4), (5, .int v5)] → W p l e ({ frames := 6, cells := 0, slots := 0, locals := 149 } : Room) s m ([.ref (da 0), .ref (pa 0)] : List Value).toArray below meth c H locs 0 0 Q (F0 m 105 ls [])) (ph : Nat → Nat) (v2 : Int32) (v3 : Int32) (v4 : Int32) (v5 : Int32) (z0 : DealsT) (z1 : RideT) (H : Heap) (locs : List Loc) (ls : Array Slot), f_X1_countAll_b120 pl k45 k105 v2 v3 v4 v5 z0 z1 = some (u0, u1) → va_P D vwCl (w_Deals dA da (a 0) z0 ++ (w_Ride dA a (pa 0) (pa 1) z1 ++ (w_Plan dA pa pl))) H → va_D A (w_Deals dA da (a 0) z0 ++ (w_Ride dA a (pa 0) (pa 1) z1 ++ (w_Plan dA pa pl))) → va_S A s.heap H locs → lv_has ls 6 [(0, .ref (da 0)), (1, .ref (pa 0)), (2, .int v2), (3, .int v3), (4, .int v4), (5, .int v5)] → W p l e ({ frames := 6, cells := 0, slots := 0, locals := 149 } : Room) s m ([.ref (da 0), .ref (pa 0)] : List Value).toArray below meth c H locs 0 0 Q (F0 m 120 ls []) := by
    intro k45 hk45 k105 hk105 ph v2 v3 v4 v5 z0 z1 H locs ls hf hP hD hS hl
    rw [f_X1_countAll_b120] at hf
    refine lv_aload_n hx hb dX1_countAll_120 rfl (lv_at hl 0 rfl) ?_
    refine va_get (D := D) (ci := 1) (v := .ref (a 0)) (C := RX1) (T := TX1) (N := 5) hx hb hts kb_inX1 hown hK.1 hP 0 rfl rfl 4 (by decide) (hK.2.w ww_2_140 rfl _) (fun _ h9 => h9) rfl dX1_countAll_121 ?_
    obtain ⟨r11, hc11, hf⟩ := kb_bind hf
    refine kb_cv (ws2 := (w_Deals dA da (a 0) z0 ++ (w_Ride dA a (pa 0) (pa 1) r11 ++ (w_Plan dA pa pl)))) (kb_rV (n := 0) (As := []) (rest := []) hx hb hml hown hK (c_X6_board l D dA H.size a pa z1 pl r11 hc11) ⟨ww_4_60, ww_5_25, ww_4_58, ww_4_59, ww_1_8, rfl, by decide, by decide⟩ rfl rfl (by decide +kernel) ⟨Nat.le_of_ble_eq_true rfl, Nat.le_of_ble_eq_true rfl⟩ hP hD hS hA hE [4, 5, 6, 7, 8, 9, 10, 11, 12, 13, 14, 15, 16, 17, 18, 19, 20, 21, 22, 23, 24, 25, 26, 27, 28, 29, 30, 31, 32, 33] rfl (by decide) 0 rfl rfl rfl hl.1 rfl (Nat.le_of_ble_eq_true rfl) dX1_countAll_124 ⟨Nat.le_of_ble_eq_true rfl, Nat.le_of_ble_eq_true rfl⟩) hP hD hS hA [4, 5, 6, 7, 8, 9, 10, 11, 12, 13, 14, 15, 16, 17, 18, 19, 20, 21, 22, 23, 24, 25, 26, 27, 28, 29, 30, 31, 32, 33] [0, 1, 2, 3] [0, 1, 2, 3, 4, 5, 6, 7, 8, 9, 10, 11, 12, 13, 14, 15, 16, 17, 18, 19, 20, 21, 22, 23, 24, 25, 26, 27, 28, 29, 30, 31, 32, 33] rfl rfl (by decide) (by decide) rfl (by decide) (fun H locs hP hD hS => ?_)
    exact B_127 k45 hk45 k105 hk105 (kb_ph [(pa 0), (pa 1)]) _ _ _ _ _ _ _ _ _ hf hP hD hS (lv_sub hl [0, 1, 2, 3, 4, 5] rfl)
  have B_105 : ∀ (k45 : Int32 → Int32 → Int32 → DealsT → RideT → Option (DealsT × RideT)) (hk45 : ∀ (ph : Nat → Nat) (v2 : Int32) (v3 : Int32) (v4 : Int32) (z0 : DealsT) (z1 : RideT) (H : Heap) (locs : List Loc) (ls : Array Slot), k45 v2 v3 v4 z0 z1 = some (u0, u1) → va_P D vwCl (w_Deals dA da (a 0) z0 ++ (w_Ride dA a (ph 0) (ph 1) z1 ++ (w_Plan dA pa pl))) H → va_D A (w_Deals dA da (a 0) z0 ++ (w_Ride dA a (ph 0) (ph 1) z1 ++ (w_Plan dA pa pl))) → va_S A s.heap H locs → lv_has ls 6 [(0, .ref (da 0)), (1, .ref (pa 0)), (2, .int v2), (3, .int v3), (4, .int v4)] → W p l e ({ frames := 6, cells := 0, slots := 0, locals := 149 } : Room) s m ([.ref (da 0), .ref (pa 0)] : List Value).toArray below meth c H locs 0 0 Q (F0 m 45 ls [])) (n : Nat) (ph : Nat → Nat) (v2 : Int32) (v3 : Int32) (v4 : Int32) (v5 : Int32) (z0 : DealsT) (z1 : RideT) (H : Heap) (locs : List Loc) (ls : Array Slot), f_X1_countAll_b105 pl k45 n v2 v3 v4 v5 z0 z1 = some (u0, u1) → va_P D vwCl (w_Deals dA da (a 0) z0 ++ (w_Ride dA a (pa 0) (pa 1) z1 ++ (w_Plan dA pa pl))) H → va_D A (w_Deals dA da (a 0) z0 ++ (w_Ride dA a (pa 0) (pa 1) z1 ++ (w_Plan dA pa pl))) → va_S A s.heap H locs → lv_has ls 6 [(0, .ref (da 0)), (1, .ref (pa 0)), (2, .int v2), (3, .int v3), (4, .int v4), (5, .int v5)] → W p l e ({ frames := 6, cells := 0, slots := 0, locals := 149 } : Room) s m ([.ref (da 0), .ref (pa 0)] : List Value).toArray below meth c H locs 0 0 Q (F0 m 105 ls []) := by
    intro k45 hk45 n
    induction n with
    | zero =>
      intro ph v2 v3 v4 v5 z0 z1 H locs ls hf
      exact absurd hf (by simp [f_X1_countAll_b105])
    | succ n ih =>
      intro ph v2 v3 v4 v5 z0 z1 H locs ls hf hP hD hS hl
      rw [f_X1_countAll_b105] at hf
      refine lv_iload hx hb dX1_countAll_105 (lv_at hl 5 rfl) ?_
      refine lv_bipush (v := (12 : Int32)) hx hb dX1_countAll_107 (by decide) ?_
      refine lv_icmp_ge (tgt := 133) hx hb dX1_countAll_109 (by decide) (fun c_6 => ?_) (fun c_6 => ?_)
      · rw [if_pos c_6] at hf
        refine lv_aload_n hx hb dX1_countAll_133 rfl (lv_at hl 0 rfl) ?_
        refine lv_iload_n hx hb dX1_countAll_134 rfl (lv_at hl 2 rfl) ?_
        refine lv_iload hx hb dX1_countAll_135 (lv_at hl 4 rfl) ?_
        refine lv_if_ne (tgt := 144) hx hb dX1_countAll_137 (by decide) (fun c_7 => ?_) (fun c_7 => ?_)
        · rw [if_neg c_7] at hf
          refine lv_iconst (v := (0 : Int32)) hx hb dX1_countAll_144 (by decide) ?_
          exact B_145 k45 hk45 (kb_ph [(pa 0), (pa 1)]) _ _ _ _ _ _ _ _ _ _ hf hP hD hS (lv_sub hl [0, 1, 2, 3, 4] rfl)
        · rw [if_pos c_7] at hf
          refine lv_iconst (v := (1 : Int32)) hx hb dX1_countAll_140 (by decide) ?_
          refine lv_goto (tgt := 145) hx hb dX1_countAll_141 (by decide) ?_
          exact B_145 k45 hk45 (kb_ph [(pa 0), (pa 1)]) _ _ _ _ _ _ _ _ _ _ hf hP hD hS (lv_sub hl [0, 1, 2, 3, 4] rfl)
      · rw [if_neg c_6] at hf
        refine lv_aload_n hx hb dX1_countAll_112 rfl (lv_at hl 0 rfl) ?_
        refine va_get (D := D) (ci := 1) (v := .ref (a 0)) (C := RX1) (T := TX1) (N := 5) hx hb hts kb_inX1 hown hK.1 hP 0 rfl rfl 4 (by decide) (hK.2.w ww_2_140 rfl _) (fun _ h9 => h9) rfl dX1_countAll_113 ?_
        obtain ⟨r10, hc10, hf⟩ := kb_bind hf
        refine kb_ci (ws2 := (w_Deals dA da (a 0) z0 ++ (w_Ride dA a (pa 0) (pa 1) r10.2 ++ (w_Plan dA pa pl)))) (kb_rV (n := 0) (As := []) (rest := []) hx hb hml hown hK (c_X6_halt l D dA H.size a pa z1 pl r10.1 r10.2 hc10) ⟨ww_3_200, ww_5_24, ww_3_198, ww_3_199, ww_1_8, rfl, by decide, by decide⟩ rfl rfl (by decide +kernel) ⟨Nat.le_of_ble_eq_true rfl, Nat.le_of_ble_eq_true rfl⟩ hP hD hS hA hE [4, 5, 6, 7, 8, 9, 10, 11, 12, 13, 14, 15, 16, 17, 18, 19, 20, 21, 22, 23, 24, 25, 26, 27, 28, 29, 30, 31, 32, 33] rfl (by decide) 0 rfl rfl rfl hl.1 rfl (Nat.le_of_ble_eq_true rfl) dX1_countAll_116 ⟨Nat.le_of_ble_eq_true rfl, Nat.le_of_ble_eq_true rfl⟩) hP hD hS hA [4, 5, 6, 7, 8, 9, 10, 11, 12, 13, 14, 15, 16, 17, 18, 19, 20, 21, 22, 23, 24, 25, 26, 27, 28, 29, 30, 31, 32, 33] [0, 1, 2, 3] [0, 1, 2, 3, 4, 5, 6, 7, 8, 9, 10, 11, 12, 13, 14, 15, 16, 17, 18, 19, 20, 21, 22, 23, 24, 25, 26, 27, 28, 29, 30, 31, 32, 33] rfl rfl (by decide) (by decide) rfl (by decide) (fun H locs hP hD hS => ?_)
        refine lv_pop hx hb dX1_countAll_119 rfl ?_
        exact B_120 k45 hk45 (f_X1_countAll_b105 pl k45 n) ih (kb_ph [(pa 0), (pa 1)]) _ _ _ _ _ _ _ _ _ hf hP hD hS (lv_sub hl [0, 1, 2, 3, 4, 5] rfl)
  have B_96 : ∀ (k45 : Int32 → Int32 → Int32 → DealsT → RideT → Option (DealsT × RideT)) (hk45 : ∀ (ph : Nat → Nat) (v2 : Int32) (v3 : Int32) (v4 : Int32) (z0 : DealsT) (z1 : RideT) (H : Heap) (locs : List Loc) (ls : Array Slot), k45 v2 v3 v4 z0 z1 = some (u0, u1) → va_P D vwCl (w_Deals dA da (a 0) z0 ++ (w_Ride dA a (ph 0) (ph 1) z1 ++ (w_Plan dA pa pl))) H → va_D A (w_Deals dA da (a 0) z0 ++ (w_Ride dA a (ph 0) (ph 1) z1 ++ (w_Plan dA pa pl))) → va_S A s.heap H locs → lv_has ls 6 [(0, .ref (da 0)), (1, .ref (pa 0)), (2, .int v2), (3, .int v3), (4, .int v4)] → W p l e ({ frames := 6, cells := 0, slots := 0, locals := 149 } : Room) s m ([.ref (da 0), .ref (pa 0)] : List Value).toArray below meth c H locs 0 0 Q (F0 m 45 ls [])) (k62 : Int32 → Int32 → Int32 → Int32 → DealsT → RideT → Option (DealsT × RideT)) (hk62 : ∀ (ph : Nat → Nat) (v2 : Int32) (v3 : Int32) (v4 : Int32) (v5 : Int32) (z0 : DealsT) (z1 : RideT) (H : Heap) (locs : List Loc) (ls : Array Slot), k62 v2 v3 v4 v5 z0 z1 = some (u0, u1) → va_P D vwCl (w_Deals dA da (a 0) z0 ++ (w_Ride dA a (pa 0) (pa 1) z1 ++ (w_Plan dA pa pl))) H → va_D A (w_Deals dA da (a 0) z0 ++ (w_Ride dA a (pa 0) (pa 1) z1 ++ (w_Plan dA pa pl))) → va_S A s.heap H locs → lv_has ls 6 [(0, .ref (da 0)), (1, .ref (pa 0)), (2, .int v2), (3, .int v3), (4, .int v4), (5, .int v5)] → W p l e ({ frames := 6, cells := 0, slots := 0, locals := 149 } : Room) s m ([.ref (da 0), .ref (pa 0)] : List Value).toArray below meth c H locs 0 0 Q (F0 m 62 ls [])) (ph : Nat → Nat) (v2 : Int32) (v3 : Int32) (v4 : Int32) (v5 : Int32) (z0 : DealsT) (z1 : RideT) (H : Heap) (locs : List Loc) (ls : Array Slot), f_X1_countAll_b96 pl k45 k62 v2 v3 v4 v5 z0 z1 = some (u0, u1) → va_P D vwCl (w_Deals dA da (a 0) z0 ++ (w_Ride dA a (pa 0) (pa 1) z1 ++ (w_Plan dA pa pl))) H → va_D A (w_Deals dA da (a 0) z0 ++ (w_Ride dA a (pa 0) (pa 1) z1 ++ (w_Plan dA pa pl))) → va_S A s.heap H locs → lv_has ls 6 [(0, .ref (da 0)), (1, .ref (pa 0)), (2, .int v2), (3, .int v3), (4, .int v4), (5, .int v5)] → W p l e ({ frames := 6, cells := 0, slots := 0, locals := 149 } : Room) s m ([.ref (da 0), .ref (pa 0)] : List Value).toArray below meth c H locs 0 0 Q (F0 m 96 ls []) := by
    intro k45 hk45 k62 hk62 ph v2 v3 v4 v5 z0 z1 H locs ls hf hP hD hS hl
    rw [f_X1_countAll_b96] at hf
    refine lv_iinc (v := (v5 + (1 : Int32))) (lv' := [(5, .int (v5 + (1 : Int32))), (0, .ref (da 0)), (1, .ref (pa 0)), (2, .int v2), (3, .int v3), (4, .int v4)]) hx hb dX1_countAll_96 hl (k := 5) rfl (by rfl) (by decide) rfl (fun ls hl => ?_)
    refine lv_goto (tgt := 62) hx hb dX1_countAll_99 (by decide) ?_
    exact hk62 (kb_ph [(pa 0), (pa 1)]) _ _ _ _ _ _ _ _ _ hf hP hD hS (lv_sub hl [1, 2, 3, 4, 5, 0] rfl)
  have B_62 : ∀ (k45 : Int32 → Int32 → Int32 → DealsT → RideT → Option (DealsT × RideT)) (hk45 : ∀ (ph : Nat → Nat) (v2 : Int32) (v3 : Int32) (v4 : Int32) (z0 : DealsT) (z1 : RideT) (H : Heap) (locs : List Loc) (ls : Array Slot), k45 v2 v3 v4 z0 z1 = some (u0, u1) → va_P D vwCl (w_Deals dA da (a 0) z0 ++ (w_Ride dA a (ph 0) (ph 1) z1 ++ (w_Plan dA pa pl))) H → va_D A (w_Deals dA da (a 0) z0 ++ (w_Ride dA a (ph 0) (ph 1) z1 ++ (w_Plan dA pa pl))) → va_S A s.heap H locs → lv_has ls 6 [(0, .ref (da 0)), (1, .ref (pa 0)), (2, .int v2), (3, .int v3), (4, .int v4)] → W p l e ({ frames := 6, cells := 0, slots := 0, locals := 149 } : Room) s m ([.ref (da 0), .ref (pa 0)] : List Value).toArray below meth c H locs 0 0 Q (F0 m 45 ls [])) (n : Nat) (ph : Nat → Nat) (v2 : Int32) (v3 : Int32) (v4 : Int32) (v5 : Int32) (z0 : DealsT) (z1 : RideT) (H : Heap) (locs : List Loc) (ls : Array Slot), f_X1_countAll_b62 pl k45 n v2 v3 v4 v5 z0 z1 = some (u0, u1) → va_P D vwCl (w_Deals dA da (a 0) z0 ++ (w_Ride dA a (pa 0) (pa 1) z1 ++ (w_Plan dA pa pl))) H → va_D A (w_Deals dA da (a 0) z0 ++ (w_Ride dA a (pa 0) (pa 1) z1 ++ (w_Plan dA pa pl))) → va_S A s.heap H locs → lv_has ls 6 [(0, .ref (da 0)), (1, .ref (pa 0)), (2, .int v2), (3, .int v3), (4, .int v4), (5, .int v5)] → W p l e ({ frames := 6, cells := 0, slots := 0, locals := 149 } : Room) s m ([.ref (da 0), .ref (pa 0)] : List Value).toArray below meth c H locs 0 0 Q (F0 m 62 ls []) := by
    intro k45 hk45 n
    induction n with
    | zero =>
      intro ph v2 v3 v4 v5 z0 z1 H locs ls hf
      exact absurd hf (by simp [f_X1_countAll_b62])
    | succ n ih =>
      intro ph v2 v3 v4 v5 z0 z1 H locs ls hf hP hD hS hl
      rw [f_X1_countAll_b62] at hf
      refine lv_iload hx hb dX1_countAll_62 (lv_at hl 5 rfl) ?_
      refine lv_iload_n hx hb dX1_countAll_64 rfl (lv_at hl 2 rfl) ?_
      refine lv_icmp_ge (tgt := 102) hx hb dX1_countAll_65 (by decide) (fun c_5 => ?_) (fun c_5 => ?_)
      · rw [if_pos c_5] at hf
        refine lv_iconst (v := (0 : Int32)) hx hb dX1_countAll_102 (by decide) ?_
        refine lv_istore (lv' := [(5, .int (0 : Int32)), (0, .ref (da 0)), (1, .ref (pa 0)), (2, .int v2), (3, .int v3), (4, .int v4)]) hx hb dX1_countAll_103 hl (by decide) rfl (fun ls hl => ?_)
        exact B_105 k45 hk45 4096 (kb_ph [(pa 0), (pa 1)]) _ _ _ _ _ _ _ _ _ hf hP hD hS (lv_sub hl [1, 2, 3, 4, 5, 0] rfl)
      · rw [if_neg c_5] at hf
        refine lv_aload_n hx hb dX1_countAll_68 rfl (lv_at hl 0 rfl) ?_
        refine va_get (D := D) (ci := 1) (v := .ref (a 0)) (C := RX1) (T := TX1) (N := 5) hx hb hts kb_inX1 hown hK.1 hP 0 rfl rfl 4 (by decide) (hK.2.w ww_2_140 rfl _) (fun _ h9 => h9) rfl dX1_countAll_69 ?_
        refine va_get (D := D) (ci := 6) (v := .ref (a 1)) (C := RX6) (T := TX6) (N := 11) hx hb hts kb_inX6 hown hK.1 hP 4 rfl rfl 1 (by decide) (hK.2.w ww_2_68 rfl _) (fun _ h9 => h9) rfl dX1_countAll_72 ?_
        refine va_get (D := D) (ci := 9) (v := .ref (a 3)) (C := RX9) (T := TX9) (N := 3) hx hb hts kb_inX9 hown hK.1 hP 5 rfl rfl 1 (by decide) (hK.2.w ww_2_57 rfl _) (fun _ h9 => h9) rfl dX1_countAll_75 ?_
        refine lv_iload hx hb dX1_countAll_78 (lv_at hl 5 rfl) ?_
        refine lv_aload_n hx hb dX1_countAll_80 rfl (lv_at hl 1 rfl) ?_
        refine va_get (D := D) (ci := 5) (v := .ref (pa 12)) (C := RX5) (T := TX5) (N := 8) hx hb hts kb_inX5 hown hK.1 hP 13 rfl rfl 2 (by decide) (hK.2.w ww_1_224 rfl _) (fun _ h9 => h9) rfl dX1_countAll_81 ?_
        refine lv_aload_n hx hb dX1_countAll_84 rfl (lv_at hl 0 rfl) ?_
        refine va_get (D := D) (ci := 1) (v := .ref (da 3)) (C := RX1) (T := TX1) (N := 5) hx hb hts kb_inX1 hown hK.1 hP 0 rfl rfl 3 (by decide) (hK.2.w ww_2_139 rfl _) (fun _ h9 => h9) rfl dX1_countAll_85 ?_
        refine lv_iload hx hb dX1_countAll_88 (lv_at hl 5 rfl) ?_
        obtain ⟨h_12, hf⟩ := kb_if hf
        refine va_iald (D := D) hx hb hK.1 hP 3 0 rfl rfl h_12 dX1_countAll_90 ?_
        obtain ⟨h_13, hf⟩ := kb_if hf
        refine va_aldq (D := D) hx hb hK.1 hP 25 5 rfl rfl h_13 dX1_countAll_91 ?_
        show W p l e ({ frames := 6, cells := 0, slots := 0, locals := 149 } : Room) s m ([.ref (da 0), .ref (pa 0)] : List Value).toArray below meth c _ _ 0 0 Q (F0 m 92 _ [.ref (pa (13 + (((de_hand z0) (v5).toNatClampNeg)).toNatClampNeg)), .int v5, .ref (a 3)])
        refine va_get (D := D) (ci := 7) (v := .int ((qr_looks (pl_riders pl)) (((de_hand z0) (v5).toNatClampNeg)).toNatClampNeg)) (C := RX7) (T := TX7) (N := 10) hx hb hts kb_inX7 hown hK.1 hP (4 + (9 + (13 + (((de_hand z0) (v5).toNatClampNeg)).toNatClampNeg))) (kb_at rfl (kb_at rfl (at_Plan_13 dA pa pl (((de_hand z0) (v5).toNatClampNeg)).toNatClampNeg (kb_inlt h_13)))) rfl 4 (by decide) (hK.2.w ww_1_174 rfl _) (fun _ h9 => h9) rfl dX1_countAll_92 ?_
        obtain ⟨h_14, hf⟩ := kb_if hf
        refine va_iast (D := D) hx hb hK.1 hP hD hS 7 0 rfl rfl h_14 dX1_countAll_95 (fun H locs hP hD hS => ?_)
        have hP : va_P D vwCl (w_Deals dA da (a 0) z0 ++ (w_Ride dA a (pa 0) (pa 1) (rd_set_scene z1 (sc_set_looks (rd_scene z1) (upd (sc_looks (rd_scene z1)) (v5).toNatClampNeg ((qr_looks (pl_riders pl)) (((de_hand z0) (v5).toNatClampNeg)).toNatClampNeg)))) ++ (w_Plan dA pa pl))) H := hP
        have hD : va_D A (w_Deals dA da (a 0) z0 ++ (w_Ride dA a (pa 0) (pa 1) (rd_set_scene z1 (sc_set_looks (rd_scene z1) (upd (sc_looks (rd_scene z1)) (v5).toNatClampNeg ((qr_looks (pl_riders pl)) (((de_hand z0) (v5).toNatClampNeg)).toNatClampNeg)))) ++ (w_Plan dA pa pl))) := hD
        exact B_96 k45 hk45 (f_X1_countAll_b62 pl k45 n) ih (kb_ph [(pa 0), (pa 1)]) _ _ _ _ _ _ _ _ _ hf hP hD hS (lv_sub hl [0, 1, 2, 3, 4, 5] rfl)
  have B_59 : ∀ (k45 : Int32 → Int32 → Int32 → DealsT → RideT → Option (DealsT × RideT)) (hk45 : ∀ (ph : Nat → Nat) (v2 : Int32) (v3 : Int32) (v4 : Int32) (z0 : DealsT) (z1 : RideT) (H : Heap) (locs : List Loc) (ls : Array Slot), k45 v2 v3 v4 z0 z1 = some (u0, u1) → va_P D vwCl (w_Deals dA da (a 0) z0 ++ (w_Ride dA a (ph 0) (ph 1) z1 ++ (w_Plan dA pa pl))) H → va_D A (w_Deals dA da (a 0) z0 ++ (w_Ride dA a (ph 0) (ph 1) z1 ++ (w_Plan dA pa pl))) → va_S A s.heap H locs → lv_has ls 6 [(0, .ref (da 0)), (1, .ref (pa 0)), (2, .int v2), (3, .int v3), (4, .int v4)] → W p l e ({ frames := 6, cells := 0, slots := 0, locals := 149 } : Room) s m ([.ref (da 0), .ref (pa 0)] : List Value).toArray below meth c H locs 0 0 Q (F0 m 45 ls [])) (ph : Nat → Nat) (v2 : Int32) (v3 : Int32) (v4 : Int32) (z0 : DealsT) (z1 : RideT) (H : Heap) (locs : List Loc) (ls : Array Slot), f_X1_countAll_b59 pl k45 v2 v3 v4 z0 z1 = some (u0, u1) → va_P D vwCl (w_Deals dA da (a 0) z0 ++ (w_Ride dA a (pa 0) (pa 1) z1 ++ (w_Plan dA pa pl))) H → va_D A (w_Deals dA da (a 0) z0 ++ (w_Ride dA a (pa 0) (pa 1) z1 ++ (w_Plan dA pa pl))) → va_S A s.heap H locs → lv_has ls 6 [(0, .ref (da 0)), (1, .ref (pa 0)), (2, .int v2), (3, .int v3), (4, .int v4)] → W p l e ({ frames := 6, cells := 0, slots := 0, locals := 149 } : Room) s m ([.ref (da 0), .ref (pa 0)] : List Value).toArray below meth c H locs 0 0 Q (F0 m 59 ls []) := by
    intro k45 hk45 ph v2 v3 v4 z0 z1 H locs ls hf hP hD hS hl
    rw [f_X1_countAll_b59] at hf
    refine lv_iconst (v := (0 : Int32)) hx hb dX1_countAll_59 (by decide) ?_
    refine lv_istore (lv' := [(5, .int (0 : Int32)), (0, .ref (da 0)), (1, .ref (pa 0)), (2, .int v2), (3, .int v3), (4, .int v4)]) hx hb dX1_countAll_60 hl (by decide) rfl (fun ls hl => ?_)
    exact B_62 k45 hk45 4096 (kb_ph [(pa 0), (pa 1)]) _ _ _ _ _ _ _ _ _ hf hP hD hS (lv_sub hl [1, 2, 3, 4, 5, 0] rfl)
  have B_45 : ∀ (n : Nat) (ph : Nat → Nat) (v2 : Int32) (v3 : Int32) (v4 : Int32) (z0 : DealsT) (z1 : RideT) (H : Heap) (locs : List Loc) (ls : Array Slot), f_X1_countAll_b45 pl n v2 v3 v4 z0 z1 = some (u0, u1) → va_P D vwCl (w_Deals dA da (a 0) z0 ++ (w_Ride dA a (ph 0) (ph 1) z1 ++ (w_Plan dA pa pl))) H → va_D A (w_Deals dA da (a 0) z0 ++ (w_Ride dA a (ph 0) (ph 1) z1 ++ (w_Plan dA pa pl))) → va_S A s.heap H locs → lv_has ls 6 [(0, .ref (da 0)), (1, .ref (pa 0)), (2, .int v2), (3, .int v3), (4, .int v4)] → W p l e ({ frames := 6, cells := 0, slots := 0, locals := 149 } : Room) s m ([.ref (da 0), .ref (pa 0)] : List Value).toArray below meth c H locs 0 0 Q (F0 m 45 ls []) := by
    intro n
    induction n with
    | zero =>
      intro ph v2 v3 v4 z0 z1 H locs ls hf
      exact absurd hf (by simp [f_X1_countAll_b45])
    | succ n ih =>
      intro ph v2 v3 v4 z0 z1 H locs ls hf hP hD hS hl
      rw [f_X1_countAll_b45] at hf
      refine lv_iload hx hb dX1_countAll_45 (lv_at hl 4 rfl) ?_
      refine lv_iload_n hx hb dX1_countAll_47 rfl (lv_at hl 3 rfl) ?_
      refine lv_icmp_ge (tgt := 159) hx hb dX1_countAll_48 (by decide) (fun c_3 => ?_) (fun c_3 => ?_)
      · rw [if_pos c_3] at hf
        refine lv_aload_n hx hb dX1_countAll_159 rfl (lv_at hl 0 rfl) ?_
        refine lv_iconst (v := (1 : Int32)) hx hb dX1_countAll_160 (by decide) ?_
        refine va_put (D := D) (ci := 1) (v := .int (1 : Int32)) (ty := .boolean) (C := RX1) (T := TX1) (N := 5) hx hb hts kb_inX1 tyX1 tyX1_ok nmX1 hown hK.1 hP hD hS 0 rfl rfl 0 (by decide) (hK.2.w ww_2_133 rfl _) (fun _ h9 => h9) rfl (by decide +kernel) rfl rfl (Nat.le_of_ble_eq_true rfl) dX1_countAll_161 (fun H locs hP hD hS => ?_)
        have hP : va_P D vwCl (w_Deals dA da (a 0) (de_set_counted z0 (1 : Int32)) ++ (w_Ride dA a (ph 0) (ph 1) z1 ++ (w_Plan dA pa pl))) H := hP
        have hD : va_D A (w_Deals dA da (a 0) (de_set_counted z0 (1 : Int32)) ++ (w_Ride dA a (ph 0) (ph 1) z1 ++ (w_Plan dA pa pl))) := hD
        exact B_164 (kb_ph [(ph 0), (ph 1)]) _ _ _ _ _ hf hP hD hS (lv_sub hl [] rfl)
      · rw [if_neg c_3] at hf
        refine lv_aload_n hx hb dX1_countAll_51 rfl (lv_at hl 0 rfl) ?_
        refine va_get (D := D) (ci := 1) (v := .ref (a 0)) (C := RX1) (T := TX1) (N := 5) hx hb hts kb_inX1 hown hK.1 hP 0 rfl rfl 4 (by decide) (hK.2.w ww_2_140 rfl _) (fun _ h9 => h9) rfl dX1_countAll_52 ?_
        refine lv_aload_n hx hb dX1_countAll_55 rfl (lv_at hl 1 rfl) ?_
        obtain ⟨r4, hc4, hf⟩ := kb_bind hf
        refine kb_cv (ws2 := (w_Deals dA da (a 0) z0 ++ (w_Ride dA a (pa 0) (pa 1) r4 ++ (w_Plan dA pa pl)))) (kb_rV (n := 1) (As := [.ref (pa 0)]) (rest := []) hx hb hml hown hK (c_X6_begin l D dA H.size a pa (ph 0) (ph 1) z1 pl r4 hc4) ⟨ww_3_176, ww_5_23, ww_3_174, ww_3_175, ww_1_8, rfl, by decide, by decide⟩ rfl rfl (by decide +kernel) ⟨Nat.le_of_ble_eq_true rfl, Nat.le_of_ble_eq_true rfl⟩ hP hD hS hA hE [4, 5, 6, 7, 8, 9, 10, 11, 12, 13, 14, 15, 16, 17, 18, 19, 20, 21, 22, 23, 24, 25, 26, 27, 28, 29, 30, 31, 32, 33] rfl (by decide) 0 rfl rfl rfl hl.1 rfl (Nat.le_of_ble_eq_true rfl) dX1_countAll_56 ⟨Nat.le_of_ble_eq_true rfl, Nat.le_of_ble_eq_true rfl⟩) hP hD hS hA [4, 5, 6, 7, 8, 9, 10, 11, 12, 13, 14, 15, 16, 17, 18, 19, 20, 21, 22, 23, 24, 25, 26, 27, 28, 29, 30, 31, 32, 33] [0, 1, 2, 3] [0, 1, 2, 3, 4, 5, 6, 7, 8, 9, 10, 11, 12, 13, 14, 15, 16, 17, 18, 19, 20, 21, 22, 23, 24, 25, 26, 27, 28, 29, 30, 31, 32, 33] rfl rfl (by decide) (by decide) rfl (by decide) (fun H locs hP hD hS => ?_)
        exact B_59 (f_X1_countAll_b45 pl n) ih (kb_ph [(pa 0), (pa 1)]) _ _ _ _ _ _ _ _ hf hP hD hS (lv_sub hl [0, 1, 2, 3, 4] rfl)
  have B_31 : ∀ (k12 : Int32 → Int32 → DealsT → RideT → Option (DealsT × RideT)) (hk12 : ∀ (ph : Nat → Nat) (v2 : Int32) (v3 : Int32) (z0 : DealsT) (z1 : RideT) (H : Heap) (locs : List Loc) (ls : Array Slot), k12 v2 v3 z0 z1 = some (u0, u1) → va_P D vwCl (w_Deals dA da (a 0) z0 ++ (w_Ride dA a (ph 0) (ph 1) z1 ++ (w_Plan dA pa pl))) H → va_D A (w_Deals dA da (a 0) z0 ++ (w_Ride dA a (ph 0) (ph 1) z1 ++ (w_Plan dA pa pl))) → va_S A s.heap H locs → lv_has ls 6 [(0, .ref (da 0)), (1, .ref (pa 0)), (2, .int v2), (3, .int v3)] → W p l e ({ frames := 6, cells := 0, slots := 0, locals := 149 } : Room) s m ([.ref (da 0), .ref (pa 0)] : List Value).toArray below meth c H locs 0 0 Q (F0 m 12 ls [])) (ph : Nat → Nat) (v2 : Int32) (v3 : Int32) (z0 : DealsT) (z1 : RideT) (H : Heap) (locs : List Loc) (ls : Array Slot), f_X1_countAll_b31 pl k12 v2 v3 z0 z1 = some (u0, u1) → va_P D vwCl (w_Deals dA da (a 0) z0 ++ (w_Ride dA a (ph 0) (ph 1) z1 ++ (w_Plan dA pa pl))) H → va_D A (w_Deals dA da (a 0) z0 ++ (w_Ride dA a (ph 0) (ph 1) z1 ++ (w_Plan dA pa pl))) → va_S A s.heap H locs → lv_has ls 6 [(0, .ref (da 0)), (1, .ref (pa 0)), (2, .int v2), (3, .int v3)] → W p l e ({ frames := 6, cells := 0, slots := 0, locals := 149 } : Room) s m ([.ref (da 0), .ref (pa 0)] : List Value).toArray below meth c H locs 0 0 Q (F0 m 31 ls []) := by
    intro k12 hk12 ph v2 v3 z0 z1 H locs ls hf hP hD hS hl
    rw [f_X1_countAll_b31] at hf
    refine lv_iinc (v := (v3 + (1 : Int32))) (lv' := [(3, .int (v3 + (1 : Int32))), (0, .ref (da 0)), (1, .ref (pa 0)), (2, .int v2)]) hx hb dX1_countAll_31 hl (k := 3) rfl (by rfl) (by decide) rfl (fun ls hl => ?_)
    refine lv_goto (tgt := 12) hx hb dX1_countAll_34 (by decide) ?_
    exact hk12 (kb_ph [(ph 0), (ph 1)]) _ _ _ _ _ _ _ hf hP hD hS (lv_sub hl [1, 2, 3, 0] rfl)
  have B_24 : ∀ (k12 : Int32 → Int32 → DealsT → RideT → Option (DealsT × RideT)) (hk12 : ∀ (ph : Nat → Nat) (v2 : Int32) (v3 : Int32) (z0 : DealsT) (z1 : RideT) (H : Heap) (locs : List Loc) (ls : Array Slot), k12 v2 v3 z0 z1 = some (u0, u1) → va_P D vwCl (w_Deals dA da (a 0) z0 ++ (w_Ride dA a (ph 0) (ph 1) z1 ++ (w_Plan dA pa pl))) H → va_D A (w_Deals dA da (a 0) z0 ++ (w_Ride dA a (ph 0) (ph 1) z1 ++ (w_Plan dA pa pl))) → va_S A s.heap H locs → lv_has ls 6 [(0, .ref (da 0)), (1, .ref (pa 0)), (2, .int v2), (3, .int v3)] → W p l e ({ frames := 6, cells := 0, slots := 0, locals := 149 } : Room) s m ([.ref (da 0), .ref (pa 0)] : List Value).toArray below meth c H locs 0 0 Q (F0 m 12 ls [])) (ph : Nat → Nat) (v2 : Int32) (v3 : Int32) (z0 : DealsT) (z1 : RideT) (H : Heap) (locs : List Loc) (ls : Array Slot), f_X1_countAll_b24 pl k12 v2 v3 z0 z1 = some (u0, u1) → va_P D vwCl (w_Deals dA da (a 0) z0 ++ (w_Ride dA a (ph 0) (ph 1) z1 ++ (w_Plan dA pa pl))) H → va_D A (w_Deals dA da (a 0) z0 ++ (w_Ride dA a (ph 0) (ph 1) z1 ++ (w_Plan dA pa pl))) → va_S A s.heap H locs → lv_has ls 6 [(0, .ref (da 0)), (1, .ref (pa 0)), (2, .int v2), (3, .int v3)] → W p l e ({ frames := 6, cells := 0, slots := 0, locals := 149 } : Room) s m ([.ref (da 0), .ref (pa 0)] : List Value).toArray below meth c H locs 0 0 Q (F0 m 24 ls []) := by
    intro k12 hk12 ph v2 v3 z0 z1 H locs ls hf hP hD hS hl
    rw [f_X1_countAll_b24] at hf
    refine lv_aload_n hx hb dX1_countAll_24 rfl (lv_at hl 0 rfl) ?_
    refine va_get (D := D) (ci := 1) (v := .ref (da 2)) (C := RX1) (T := TX1) (N := 5) hx hb hts kb_inX1 hown hK.1 hP 0 rfl rfl 2 (by decide) (hK.2.w ww_2_137 rfl _) (fun _ h9 => h9) rfl dX1_countAll_25 ?_
    refine lv_iload_n hx hb dX1_countAll_28 rfl (lv_at hl 3 rfl) ?_
    refine lv_iconst (v := (0 : Int32)) hx hb dX1_countAll_29 (by decide) ?_
    obtain ⟨h_16, hf⟩ := kb_if hf
    refine va_iast (D := D) hx hb hK.1 hP hD hS 2 0 rfl rfl h_16 dX1_countAll_30 (fun H locs hP hD hS => ?_)
    have hP : va_P D vwCl (w_Deals dA da (a 0) (de_set_asMuch z0 (upd (de_asMuch z0) (v3).toNatClampNeg (0 : Int32))) ++ (w_Ride dA a (ph 0) (ph 1) z1 ++ (w_Plan dA pa pl))) H := hP
    have hD : va_D A (w_Deals dA da (a 0) (de_set_asMuch z0 (upd (de_asMuch z0) (v3).toNatClampNeg (0 : Int32))) ++ (w_Ride dA a (ph 0) (ph 1) z1 ++ (w_Plan dA pa pl))) := hD
    exact B_31 k12 hk12 (kb_ph [(ph 0), (ph 1)]) _ _ _ _ _ _ _ hf hP hD hS (lv_sub hl [0, 1, 2, 3] rfl)
  have B_12 : ∀ (n : Nat) (ph : Nat → Nat) (v2 : Int32) (v3 : Int32) (z0 : DealsT) (z1 : RideT) (H : Heap) (locs : List Loc) (ls : Array Slot), f_X1_countAll_b12 pl n v2 v3 z0 z1 = some (u0, u1) → va_P D vwCl (w_Deals dA da (a 0) z0 ++ (w_Ride dA a (ph 0) (ph 1) z1 ++ (w_Plan dA pa pl))) H → va_D A (w_Deals dA da (a 0) z0 ++ (w_Ride dA a (ph 0) (ph 1) z1 ++ (w_Plan dA pa pl))) → va_S A s.heap H locs → lv_has ls 6 [(0, .ref (da 0)), (1, .ref (pa 0)), (2, .int v2), (3, .int v3)] → W p l e ({ frames := 6, cells := 0, slots := 0, locals := 149 } : Room) s m ([.ref (da 0), .ref (pa 0)] : List Value).toArray below meth c H locs 0 0 Q (F0 m 12 ls []) := by
    intro n
    induction n with
    | zero =>
      intro ph v2 v3 z0 z1 H locs ls hf
      exact absurd hf (by simp [f_X1_countAll_b12])
    | succ n ih =>
      intro ph v2 v3 z0 z1 H locs ls hf hP hD hS hl
      rw [f_X1_countAll_b12] at hf
      refine lv_iload_n hx hb dX1_countAll_12 rfl (lv_at hl 3 rfl) ?_
      refine lv_iload_n hx hb dX1_countAll_13 rfl (lv_at hl 2 rfl) ?_
      refine lv_icmp_ge (tgt := 37) hx hb dX1_countAll_14 (by decide) (fun c_1 => ?_) (fun c_1 => ?_)
      · rw [if_pos c_1] at hf
        refine lv_iload_n hx hb dX1_countAll_37 rfl (lv_at hl 2 rfl) ?_
        obtain ⟨r2, hc2, hf⟩ := kb_bind hf
        refine kb_ci (ws2 := (w_Deals dA da (a 0) z0 ++ (w_Ride dA a (ph 0) (ph 1) z1 ++ (w_Plan dA pa pl)))) (kb_rS (n := 1) (As := [.int v2]) (rest := []) hx hb hml hown hK (c_X1_howMany l D dA H.size v2 r2 hc2) ⟨ww_5_22, ww_5_20, ww_5_21, ww_1_11, by decide, by decide⟩ rfl rfl (by decide +kernel) ⟨Nat.le_of_ble_eq_true rfl, Nat.le_of_ble_eq_true rfl⟩ hP hD hS hA hE [] rfl (by decide) rfl hl.1 rfl (Nat.le_of_ble_eq_true rfl) dX1_countAll_38 ⟨Nat.le_of_ble_eq_true rfl, Nat.le_of_ble_eq_true rfl⟩) hP hD hS hA [] [0, 1, 2, 3, 4, 5, 6, 7, 8, 9, 10, 11, 12, 13, 14, 15, 16, 17, 18, 19, 20, 21, 22, 23, 24, 25, 26, 27, 28, 29, 30, 31, 32, 33] [0, 1, 2, 3, 4, 5, 6, 7, 8, 9, 10, 11, 12, 13, 14, 15, 16, 17, 18, 19, 20, 21, 22, 23, 24, 25, 26, 27, 28, 29, 30, 31, 32, 33] rfl rfl (by decide) (by decide) rfl (by decide) (fun H locs hP hD hS => ?_)
        refine lv_istore_n (lv' := [(3, .int r2), (0, .ref (da 0)), (1, .ref (pa 0)), (2, .int v2)]) hx hb dX1_countAll_41 rfl hl (by decide) rfl (fun ls hl => ?_)
        refine lv_iconst (v := (0 : Int32)) hx hb dX1_countAll_42 (by decide) ?_
        refine lv_istore (lv' := [(4, .int (0 : Int32)), (3, .int r2), (0, .ref (da 0)), (1, .ref (pa 0)), (2, .int v2)]) hx hb dX1_countAll_43 hl (by decide) rfl (fun ls hl => ?_)
        exact B_45 4096 (kb_ph [(ph 0), (ph 1)]) _ _ _ _ _ _ _ _ hf hP hD hS (lv_sub hl [2, 3, 4, 1, 0] rfl)
      · rw [if_neg c_1] at hf
        refine lv_aload_n hx hb dX1_countAll_17 rfl (lv_at hl 0 rfl) ?_
        refine va_get (D := D) (ci := 1) (v := .ref (da 3)) (C := RX1) (T := TX1) (N := 5) hx hb hts kb_inX1 hown hK.1 hP 0 rfl rfl 3 (by decide) (hK.2.w ww_2_139 rfl _) (fun _ h9 => h9) rfl dX1_countAll_18 ?_
        refine lv_iload_n hx hb dX1_countAll_21 rfl (lv_at hl 3 rfl) ?_
        refine lv_iload_n hx hb dX1_countAll_22 rfl (lv_at hl 3 rfl) ?_
        obtain ⟨h_15, hf⟩ := kb_if hf
        refine va_iast (D := D) hx hb hK.1 hP hD hS 3 0 rfl rfl h_15 dX1_countAll_23 (fun H locs hP hD hS => ?_)
        have hP : va_P D vwCl (w_Deals dA da (a 0) (de_set_hand z0 (upd (de_hand z0) (v3).toNatClampNeg v3)) ++ (w_Ride dA a (ph 0) (ph 1) z1 ++ (w_Plan dA pa pl))) H := hP
        have hD : va_D A (w_Deals dA da (a 0) (de_set_hand z0 (upd (de_hand z0) (v3).toNatClampNeg v3)) ++ (w_Ride dA a (ph 0) (ph 1) z1 ++ (w_Plan dA pa pl))) := hD
        exact B_24 (f_X1_countAll_b12 pl n) ih (kb_ph [(ph 0), (ph 1)]) _ _ _ _ _ _ _ hf hP hD hS (lv_sub hl [0, 1, 2, 3] rfl)
  have E0 : ∀ (H : Heap) (locs : List Loc), va_P D vwCl (w_Deals dA da (a 0) de ++ (w_Ride dA a (ph 0) (ph 1) rd ++ (w_Plan dA pa pl))) H → va_D A (w_Deals dA da (a 0) de ++ (w_Ride dA a (ph 0) (ph 1) rd ++ (w_Plan dA pa pl))) → va_S A s.heap H locs → W p l e ({ frames := 6, cells := 0, slots := 0, locals := 149 } : Room) s m ([.ref (da 0), .ref (pa 0)] : List Value).toArray below meth c H locs 0 0 Q (F0 m 0 ls []) := by
    intro H locs hP hD hS
    rw [f_X1_countAll] at hf
    refine lv_aload_n hx hb dX1_countAll_0 rfl (lv_at hl 1 rfl) ?_
    refine va_get (D := D) (ci := 5) (v := .int (pl_riderCount pl)) (C := RX5) (T := TX5) (N := 8) hx hb hts kb_inX5 hown hK.1 hP 13 rfl rfl 5 (by decide) (hK.2.w ww_1_235 rfl _) (fun _ h9 => h9) rfl dX1_countAll_1 ?_
    refine lv_bipush (v := (6 : Int32)) hx hb dX1_countAll_4 (by decide) ?_
    refine va_mmin hx hb (hml.trans hl.1.symm) hown (hK.2.w ww_5_19 rfl _) (hK.2.w ww_2_214 rfl _) (hK.2.w ww_1_13 rfl _) (hK.2.w ww_2_215 rfl _) (Nat.le_of_ble_eq_true rfl) (Nat.le_of_ble_eq_true rfl) (Nat.le_of_ble_eq_true rfl) (Nat.le_of_ble_eq_true rfl) dX1_countAll_6 ?_
    refine lv_istore_n (lv' := [(2, .int (if (6 : Int32) < (pl_riderCount pl) then (6 : Int32) else (pl_riderCount pl))), (0, .ref (da 0)), (1, .ref (pa 0))]) hx hb dX1_countAll_9 rfl hl (by decide) rfl (fun ls hl => ?_)
    refine lv_iconst (v := (0 : Int32)) hx hb dX1_countAll_10 (by decide) ?_
    refine lv_istore_n (lv' := [(3, .int (0 : Int32)), (2, .int (if (6 : Int32) < (pl_riderCount pl) then (6 : Int32) else (pl_riderCount pl))), (0, .ref (da 0)), (1, .ref (pa 0))]) hx hb dX1_countAll_11 rfl hl (by decide) rfl (fun ls hl => ?_)
    exact B_12 4096 (kb_ph [(ph 0), (ph 1)]) _ _ _ _ _ _ _ hf hP hD hS (lv_sub hl [2, 3, 1, 0] rfl)
  exact E0 _ _ hP hD hS

noncomputable def f_X10_dealt_b53 (pl : PlanT) (v1 : Int32) (z0 : TopT) (z2 : DealsT) (z3 : RideT) : Option (Int32 × TopT × DealsT × RideT) := if kb_in? v1 8 then (if ((de_told z2) (v1).toNatClampNeg) = (-1 : Int32) then (f_X10_refused z0 (5 : Int32)).bind fun r9 => some (r9.1, r9.2, z2, z3) else if kb_in? v1 8 then (f_X10_answered z0 ((de_asMuch z2) (v1).toNatClampNeg)).bind fun r8 => some (r8.1, r8.2, z2, z3) else none) else none
noncomputable def f_X10_dealt (tp : TopT) (pl : PlanT) (de : DealsT) (rd : RideT) (x0 : Int32) : Option (Int32 × TopT × DealsT × RideT) := (f_X10_isRider tp pl x0).bind fun r1 => (if r1 = 0 then (f_X10_refused tp (1 : Int32)).bind fun r12 => some (r12.1, r12.2, de, rd) else (if (pl_riderCount pl) ≤ (6 : Int32) then (if (de_counted de) = 0 then (f_X1_countAll de rd pl).bind fun r10 => f_X10_dealt_b53 pl x0 tp r10.1 r10.2 else f_X10_dealt_b53 pl x0 tp de rd) else (f_X10_refused tp (3 : Int32)).bind fun r11 => some (r11.1, r11.2, de, rd)))
set_option maxHeartbeats 4000000 in
set_option maxRecDepth 100000 in
theorem c_X10_dealt (l : Launch) (D : va_G) (dA : Nat → ClassId) (sz : Nat) (t : Nat → Nat) (pa : Nat → Nat) (da : Nat → Nat) (a : Nat → Nat) (g0 : Nat) (g2 : Nat) (g3 : Nat) (g4 : Nat) (g5 : Nat) (g6 : Nat) (g7 : Nat) (ph : Nat → Nat) (tp : TopT) (pl : PlanT) (de : DealsT) (rd : RideT) (x0 : Int32) (rv : Int32) (u0 : TopT) (u2 : DealsT) (u3 : RideT) (hf : f_X10_dealt tp pl de rd x0 = some (rv, u0, u2, u3)) : kb_FMi l yX10_dealt cX10_dealt 2 (some .int) ({ frames := 7, cells := 0, slots := 0, locals := 174 } : Room) D dA [.ref (t 0), .int x0] sz (w_Top dA t g0 (pa 0) g2 g3 g4 g5 g6 g7 (da 0) tp ++ (w_Plan dA pa pl ++ (w_Deals dA da (a 0) de ++ (w_Ride dA a (ph 0) (ph 1) rd)))) 0 0 rv (fun (ph2 : Nat → Nat) => (w_Top dA t g0 (pa 0) g2 g3 g4 g5 g6 g7 (da 0) u0 ++ (w_Plan dA pa pl ++ (w_Deals dA da (a 0) u2 ++ (w_Ride dA a (ph2 0) (ph2 1) u3))))) := by
  refine Met.ofW (cc := cX10_dealt) (maxL := 2) (ret := (some .int)) (by decide) rfl ?_
  intro p e s m args below meth c s₁ B hml hv
  obtain ⟨rfl, hsz, hP, hK, hD0, hE⟩ := hv
  have hx := B.exec
  have hb := B.bytes
  have hr := B.returns
  have hown : s.vm.findClass RX10 = some m.cls := findClass_of_methodNamed B.named
  have hlocks := B.notSynchronized
  have hts : ∀ w ∈ kb_gw, w.before ([.ref (t 0), .int x0] : List Value).toArray s = true := fun w hw => hK.2.1 w hw _
  subst hsz
  have hD := hD0.self (sz := s.heap.size)
  generalize hAe : va_A (w_Top dA t g0 (pa 0) g2 g3 g4 g5 g6 g7 (da 0) tp ++ (w_Plan dA pa pl ++ (w_Deals dA da (a 0) de ++ (w_Ride dA a (ph 0) (ph 1) rd)))) s.heap.size = A at hD hE ⊢
  have hA : ∀ q : Nat, s.heap.size ≤ q → A q := fun q h => by rw [← hAe]; exact Or.inr h
  have hS : va_S A s.heap s.heap [] := va_S.rf
  have hl := lv_entry ([.ref (t 0), .int x0]) (n := 2) (Nat.le_of_ble_eq_true rfl)
  rw [lg_entry_eq]
  generalize (lg_sl ([.ref (t 0), .int x0]) ++ List.replicate (2 - (lg_sl ([.ref (t 0), .int x0])).length) Slot.unset).toArray = ls at hl ⊢
  have hl : lv_has ls 2 [(0, .ref (t 0)), (1, .int x0)] := hl
  generalize hQ : MQ below (va_Qi (fun r (_ : Nat → Nat) => r = rv) (fun ph2 => kb_B D A (w_Top dA t g0 (pa 0) g2 g3 g4 g5 g6 g7 (da 0) u0 ++ (w_Plan dA pa pl ++ (w_Deals dA da (a 0) u2 ++ (w_Ride dA a (ph2 0) (ph2 1) u3)))) ()) A) ([.ref (t 0), .int x0] : List Value).toArray s 0 0 A = Q
  show W p l e ({ frames := 7, cells := 0, slots := 0, locals := 174 } : Room) s m ([.ref (t 0), .int x0] : List Value).toArray below meth c s.heap [] 0 0 Q (F0 m 0 ls [])
  have RET : ∀ (ph2 : Nat → Nat) (r2 : Int32) (w0 : TopT) (w2 : DealsT) (w3 : RideT) (H : Heap) (locs : List Loc) (ls : Array Slot) (pc : Nat), some (r2, w0, w2, w3) = some (rv, u0, u2, u3) → va_P D vwCl (w_Top dA t g0 (pa 0) g2 g3 g4 g5 g6 g7 (da 0) w0 ++ (w_Plan dA pa pl ++ (w_Deals dA da (a 0) w2 ++ (w_Ride dA a (ph2 0) (ph2 1) w3)))) H → va_D A (w_Top dA t g0 (pa 0) g2 g3 g4 g5 g6 g7 (da 0) w0 ++ (w_Plan dA pa pl ++ (w_Deals dA da (a 0) w2 ++ (w_Ride dA a (ph2 0) (ph2 1) w3)))) → va_S A s.heap H locs → decode cX10_dealt pc = .ok (.ireturn, 1) → W p l e ({ frames := 7, cells := 0, slots := 0, locals := 174 } : Room) s m ([.ref (t 0), .int x0] : List Value).toArray below meth c H locs 0 0 Q (F0 m pc ls [.int r2]) := by
    intro ph2 r2 w0 w2 w3 H locs ls pc hq hP hD hS hd
    cases hq
    rw [← hQ]
    exact W.iret hx hb hr (fun t ht hW => ⟨⟨_, ph2, rfl, rfl, by rw [ht]; exact hP, hD⟩, hS.F ht⟩) hS.2.2 hd
  have B_53 : ∀ (ph : Nat → Nat) (v1 : Int32) (z0 : TopT) (z2 : DealsT) (z3 : RideT) (H : Heap) (locs : List Loc) (ls : Array Slot), f_X10_dealt_b53 pl v1 z0 z2 z3 = some (rv, u0, u2, u3) → va_P D vwCl (w_Top dA t g0 (pa 0) g2 g3 g4 g5 g6 g7 (da 0) z0 ++ (w_Plan dA pa pl ++ (w_Deals dA da (a 0) z2 ++ (w_Ride dA a (ph 0) (ph 1) z3)))) H → va_D A (w_Top dA t g0 (pa 0) g2 g3 g4 g5 g6 g7 (da 0) z0 ++ (w_Plan dA pa pl ++ (w_Deals dA da (a 0) z2 ++ (w_Ride dA a (ph 0) (ph 1) z3)))) → va_S A s.heap H locs → lv_has ls 2 [(0, .ref (t 0)), (1, .int v1)] → W p l e ({ frames := 7, cells := 0, slots := 0, locals := 174 } : Room) s m ([.ref (t 0), .int x0] : List Value).toArray below meth c H locs 0 0 Q (F0 m 53 ls []) := by
    intro ph v1 z0 z2 z3 H locs ls hf hP hD hS hl
    rw [f_X10_dealt_b53] at hf
    refine lv_aload_n hx hb dX10_dealt_53 rfl (lv_at hl 0 rfl) ?_
    refine va_get (D := D) (ci := 10) (v := .ref (da 0)) (C := RX10) (T := TX10) (N := 12) hx hb hts kb_inX10 hown hK.1 hP 0 rfl rfl 10 (by decide) (hK.2.w ww_2_162 rfl _) (fun _ h9 => h9) rfl dX10_dealt_54 ?_
    refine va_get (D := D) (ci := 1) (v := .ref (da 1)) (C := RX1) (T := TX1) (N := 5) hx hb hts kb_inX1 hown hK.1 hP 22 rfl rfl 1 (by decide) (hK.2.w ww_2_136 rfl _) (fun _ h9 => h9) rfl dX10_dealt_57 ?_
    refine lv_iload_n hx hb dX10_dealt_60 rfl (lv_at hl 1 rfl) ?_
    obtain ⟨h_5, hf⟩ := kb_if hf
    refine va_iald (D := D) hx hb hK.1 hP 23 0 rfl rfl h_5 dX10_dealt_61 ?_
    refine lv_iconst (v := (-1 : Int32)) hx hb dX10_dealt_62 (by decide) ?_
    refine lv_icmp_ne (tgt := 72) hx hb dX10_dealt_63 (by decide) (fun c_6 => ?_) (fun c_6 => ?_)
    · rw [if_neg c_6] at hf
      refine lv_aload_n hx hb dX10_dealt_72 rfl (lv_at hl 0 rfl) ?_
      refine lv_aload_n hx hb dX10_dealt_73 rfl (lv_at hl 0 rfl) ?_
      refine va_get (D := D) (ci := 10) (v := .ref (da 0)) (C := RX10) (T := TX10) (N := 12) hx hb hts kb_inX10 hown hK.1 hP 0 rfl rfl 10 (by decide) (hK.2.w ww_2_162 rfl _) (fun _ h9 => h9) rfl dX10_dealt_74 ?_
      refine va_get (D := D) (ci := 1) (v := .ref (da 2)) (C := RX1) (T := TX1) (N := 5) hx hb hts kb_inX1 hown hK.1 hP 22 rfl rfl 2 (by decide) (hK.2.w ww_2_138 rfl _) (fun _ h9 => h9) rfl dX10_dealt_77 ?_
      refine lv_iload_n hx hb dX10_dealt_80 rfl (lv_at hl 1 rfl) ?_
      obtain ⟨h_7, hf⟩ := kb_if hf
      refine va_iald (D := D) hx hb hK.1 hP 24 0 rfl rfl h_7 dX10_dealt_81 ?_
      obtain ⟨r8, hc8, hf⟩ := kb_bind hf
      refine kb_ci (ws2 := (w_Top dA t g0 (pa 0) g2 g3 g4 g5 g6 g7 (da 0) r8.2 ++ (w_Plan dA pa pl ++ (w_Deals dA da (a 0) z2 ++ (w_Ride dA a (ph 0) (ph 1) z3))))) (kb_rV (n := 1) (As := [.int ((de_asMuch z2) (v1).toNatClampNeg)]) (rest := []) hx hb hml hown hK (c_X10_answered l D dA H.size t g0 (pa 0) g2 g3 g4 g5 g6 g7 (da 0) z0 ((de_asMuch z2) (v1).toNatClampNeg) r8.1 r8.2 hc8) ⟨ww_3_184, ww_3_181, ww_3_183, ws_22, ww_1_1, rfl, by decide, by decide⟩ rfl rfl (by decide +kernel) ⟨Nat.le_of_ble_eq_true rfl, Nat.le_of_ble_eq_true rfl⟩ hP hD hS hA hE [0] rfl (by decide) 0 rfl rfl rfl hl.1 rfl (Nat.le_of_ble_eq_true rfl) dX10_dealt_82 ⟨Nat.le_of_ble_eq_true rfl, Nat.le_of_ble_eq_true rfl⟩) hP hD hS hA [0] [1, 2, 3, 4, 5, 6, 7, 8, 9, 10, 11, 12, 13, 14, 15, 16, 17, 18, 19, 20, 21, 22, 23, 24, 25, 26, 27, 28, 29, 30, 31, 32, 33, 34] [34, 0, 1, 2, 3, 4, 5, 6, 7, 8, 9, 10, 11, 12, 13, 14, 15, 16, 17, 18, 19, 20, 21, 22, 23, 24, 25, 26, 27, 28, 29, 30, 31, 32, 33] rfl rfl (by decide) (by decide) rfl (by decide) (fun H locs hP hD hS => ?_)
      exact RET (kb_ph [(ph 0), (ph 1)]) _ _ _ _ H _ ls 85 hf hP hD hS dX10_dealt_85
    · rw [if_pos c_6] at hf
      refine lv_aload_n hx hb dX10_dealt_66 rfl (lv_at hl 0 rfl) ?_
      refine lv_iconst (v := (5 : Int32)) hx hb dX10_dealt_67 (by decide) ?_
      obtain ⟨r9, hc9, hf⟩ := kb_bind hf
      refine kb_ci (ws2 := (w_Top dA t g0 (pa 0) g2 g3 g4 g5 g6 g7 (da 0) r9.2 ++ (w_Plan dA pa pl ++ (w_Deals dA da (a 0) z2 ++ (w_Ride dA a (ph 0) (ph 1) z3))))) (kb_rV (n := 1) (As := [.int (5 : Int32)]) (rest := []) hx hb hml hown hK (c_X10_refused l D dA H.size t g0 (pa 0) g2 g3 g4 g5 g6 g7 (da 0) z0 (5 : Int32) r9.1 r9.2 hc9) ⟨ww_2_204, ww_2_201, ww_2_203, ws_0, ww_1_1, rfl, by decide, by decide⟩ rfl rfl (by decide +kernel) ⟨Nat.le_of_ble_eq_true rfl, Nat.le_of_ble_eq_true rfl⟩ hP hD hS hA hE [0] rfl (by decide) 0 rfl rfl rfl hl.1 rfl (Nat.le_of_ble_eq_true rfl) dX10_dealt_68 ⟨Nat.le_of_ble_eq_true rfl, Nat.le_of_ble_eq_true rfl⟩) hP hD hS hA [0] [1, 2, 3, 4, 5, 6, 7, 8, 9, 10, 11, 12, 13, 14, 15, 16, 17, 18, 19, 20, 21, 22, 23, 24, 25, 26, 27, 28, 29, 30, 31, 32, 33, 34] [34, 0, 1, 2, 3, 4, 5, 6, 7, 8, 9, 10, 11, 12, 13, 14, 15, 16, 17, 18, 19, 20, 21, 22, 23, 24, 25, 26, 27, 28, 29, 30, 31, 32, 33] rfl rfl (by decide) (by decide) rfl (by decide) (fun H locs hP hD hS => ?_)
      exact RET (kb_ph [(ph 0), (ph 1)]) _ _ _ _ H _ ls 71 hf hP hD hS dX10_dealt_71
  have E0 : ∀ (H : Heap) (locs : List Loc), va_P D vwCl (w_Top dA t g0 (pa 0) g2 g3 g4 g5 g6 g7 (da 0) tp ++ (w_Plan dA pa pl ++ (w_Deals dA da (a 0) de ++ (w_Ride dA a (ph 0) (ph 1) rd)))) H → va_D A (w_Top dA t g0 (pa 0) g2 g3 g4 g5 g6 g7 (da 0) tp ++ (w_Plan dA pa pl ++ (w_Deals dA da (a 0) de ++ (w_Ride dA a (ph 0) (ph 1) rd)))) → va_S A s.heap H locs → W p l e ({ frames := 7, cells := 0, slots := 0, locals := 174 } : Room) s m ([.ref (t 0), .int x0] : List Value).toArray below meth c H locs 0 0 Q (F0 m 0 ls []) := by
    intro H locs hP hD hS
    rw [f_X10_dealt] at hf
    refine lv_aload_n hx hb dX10_dealt_0 rfl (lv_at hl 0 rfl) ?_
    refine lv_iload_n hx hb dX10_dealt_1 rfl (lv_at hl 1 rfl) ?_
    obtain ⟨r1, hc1, hf⟩ := kb_bind hf
    refine kb_ci (ws2 := (w_Top dA t g0 (pa 0) g2 g3 g4 g5 g6 g7 (da 0) tp ++ (w_Plan dA pa pl ++ (w_Deals dA da (a 0) de ++ (w_Ride dA a (ph 0) (ph 1) rd))))) (kb_rV (n := 1) (As := [.int x0]) (rest := []) hx hb hml hown hK (c_X10_isRider l D dA H.size t pa g0 g2 g3 g4 g5 g6 g7 (da 0) tp pl x0 r1 hc1) ⟨ww_4_76, ww_4_73, ww_4_75, ws_33, ww_1_1, rfl, by decide, by decide⟩ rfl rfl (by decide +kernel) ⟨Nat.le_of_ble_eq_true rfl, Nat.le_of_ble_eq_true rfl⟩ hP hD hS hA hE [0, 1, 2, 3, 4, 5, 6, 7, 8, 9, 10, 11, 12, 13, 14, 15, 16, 17, 18, 19, 20, 21] rfl (by decide) 0 rfl rfl rfl hl.1 rfl (Nat.le_of_ble_eq_true rfl) dX10_dealt_2 ⟨Nat.le_of_ble_eq_true rfl, Nat.le_of_ble_eq_true rfl⟩) hP hD hS hA [0, 1, 2, 3, 4, 5, 6, 7, 8, 9, 10, 11, 12, 13, 14, 15, 16, 17, 18, 19, 20, 21] [22, 23, 24, 25, 26, 27, 28, 29, 30, 31, 32, 33, 34] [13, 14, 15, 16, 17, 18, 19, 20, 21, 22, 23, 24, 25, 26, 27, 28, 29, 30, 31, 32, 33, 34, 0, 1, 2, 3, 4, 5, 6, 7, 8, 9, 10, 11, 12] rfl rfl (by decide) (by decide) rfl (by decide) (fun H locs hP hD hS => ?_)
    refine lv_if_ne (tgt := 14) hx hb dX10_dealt_5 (by decide) (fun c_2 => ?_) (fun c_2 => ?_)
    · rw [if_neg c_2] at hf
      refine lv_aload_n hx hb dX10_dealt_14 rfl (lv_at hl 0 rfl) ?_
      refine va_get (D := D) (ci := 10) (v := .ref (pa 0)) (C := RX10) (T := TX10) (N := 12) hx hb hts kb_inX10 hown hK.1 hP 0 rfl rfl 1 (by decide) (hK.2.w ww_2_153 rfl _) (fun _ h9 => h9) rfl dX10_dealt_15 ?_
      refine va_get (D := D) (ci := 5) (v := .int (pl_riderCount pl)) (C := RX5) (T := TX5) (N := 8) hx hb hts kb_inX5 hown hK.1 hP 1 rfl rfl 5 (by decide) (hK.2.w ww_1_236 rfl _) (fun _ h9 => h9) rfl dX10_dealt_18 ?_
      refine lv_bipush (v := (6 : Int32)) hx hb dX10_dealt_21 (by decide) ?_
      refine lv_icmp_le (tgt := 32) hx hb dX10_dealt_23 (by decide) (fun c_3 => ?_) (fun c_3 => ?_)
      · rw [if_pos c_3] at hf
        refine lv_aload_n hx hb dX10_dealt_32 rfl (lv_at hl 0 rfl) ?_
        refine va_get (D := D) (ci := 10) (v := .ref (da 0)) (C := RX10) (T := TX10) (N := 12) hx hb hts kb_inX10 hown hK.1 hP 0 rfl rfl 10 (by decide) (hK.2.w ww_2_162 rfl _) (fun _ h9 => h9) rfl dX10_dealt_33 ?_
        refine va_get (D := D) (ci := 1) (v := .int (de_counted de)) (C := RX1) (T := TX1) (N := 5) hx hb hts kb_inX1 hown hK.1 hP 22 rfl rfl 0 (by decide) (hK.2.w ww_2_134 rfl _) (fun _ h9 => h9) rfl dX10_dealt_36 ?_
        refine lv_if_ne (tgt := 53) hx hb dX10_dealt_39 (by decide) (fun c_4 => ?_) (fun c_4 => ?_)
        · rw [if_neg c_4] at hf
          exact B_53 (kb_ph [(ph 0), (ph 1)]) _ _ _ _ _ _ _ hf hP hD hS (lv_sub hl [0, 1] rfl)
        · rw [if_pos c_4] at hf
          refine lv_aload_n hx hb dX10_dealt_42 rfl (lv_at hl 0 rfl) ?_
          refine va_get (D := D) (ci := 10) (v := .ref (da 0)) (C := RX10) (T := TX10) (N := 12) hx hb hts kb_inX10 hown hK.1 hP 0 rfl rfl 10 (by decide) (hK.2.w ww_2_162 rfl _) (fun _ h9 => h9) rfl dX10_dealt_43 ?_
          refine lv_aload_n hx hb dX10_dealt_46 rfl (lv_at hl 0 rfl) ?_
          refine va_get (D := D) (ci := 10) (v := .ref (pa 0)) (C := RX10) (T := TX10) (N := 12) hx hb hts kb_inX10 hown hK.1 hP 0 rfl rfl 1 (by decide) (hK.2.w ww_2_153 rfl _) (fun _ h9 => h9) rfl dX10_dealt_47 ?_
          obtain ⟨r10, hc10, hf⟩ := kb_bind hf
          refine kb_Fcv (ws2 := fun ph10 => (w_Top dA t g0 (pa 0) g2 g3 g4 g5 g6 g7 (da 0) tp ++ (w_Plan dA pa pl ++ (w_Deals dA da (a 0) r10.1 ++ (w_Ride dA a (ph10 0) (ph10 1) r10.2))))) (kb_rV (n := 1) (As := [.ref (pa 0)]) (rest := []) hx hb hml hown hK (c_X1_countAll l D dA H.size da a pa (kb_ph [(ph 0), (ph 1)]) de rd pl r10.1 r10.2 hc10) ⟨ww_5_18, ww_5_15, ww_5_16, ww_5_17, ww_1_11, rfl, by decide, by decide⟩ rfl rfl (by decide +kernel) ⟨Nat.le_of_ble_eq_true rfl, Nat.le_of_ble_eq_true rfl⟩ hP hD hS hA hE [22, 23, 24, 25, 26, 27, 28, 29, 30, 31, 32, 33, 34, 1, 2, 3, 4, 5, 6, 7, 8, 9, 10, 11, 12, 13, 14, 15, 16, 17, 18, 19, 20, 21] rfl (by decide) 0 rfl rfl rfl hl.1 rfl (Nat.le_of_ble_eq_true rfl) dX10_dealt_50 ⟨Nat.le_of_ble_eq_true rfl, Nat.le_of_ble_eq_true rfl⟩) hP hD hS hA [22, 23, 24, 25, 26, 27, 28, 29, 30, 31, 32, 33, 34, 1, 2, 3, 4, 5, 6, 7, 8, 9, 10, 11, 12, 13, 14, 15, 16, 17, 18, 19, 20, 21] [0] [0, 14, 15, 16, 17, 18, 19, 20, 21, 22, 23, 24, 25, 26, 27, 28, 29, 30, 31, 32, 33, 34, 1, 2, 3, 4, 5, 6, 7, 8, 9, 10, 11, 12, 13] rfl rfl (by decide) (by decide) (fun _ => rfl) (by decide) (fun ph10 H locs hP hD hS => ?_)
          exact B_53 (kb_ph [(ph10 0), (ph10 1)]) _ _ _ _ _ _ _ hf hP hD hS (lv_sub hl [0, 1] rfl)
      · rw [if_neg c_3] at hf
        refine lv_aload_n hx hb dX10_dealt_26 rfl (lv_at hl 0 rfl) ?_
        refine lv_iconst (v := (3 : Int32)) hx hb dX10_dealt_27 (by decide) ?_
        obtain ⟨r11, hc11, hf⟩ := kb_bind hf
        refine kb_ci (ws2 := (w_Top dA t g0 (pa 0) g2 g3 g4 g5 g6 g7 (da 0) r11.2 ++ (w_Plan dA pa pl ++ (w_Deals dA da (a 0) de ++ (w_Ride dA a (ph 0) (ph 1) rd))))) (kb_rV (n := 1) (As := [.int (3 : Int32)]) (rest := []) hx hb hml hown hK (c_X10_refused l D dA H.size t g0 (pa 0) g2 g3 g4 g5 g6 g7 (da 0) tp (3 : Int32) r11.1 r11.2 hc11) ⟨ww_2_204, ww_2_201, ww_2_203, ws_0, ww_1_1, rfl, by decide, by decide⟩ rfl rfl (by decide +kernel) ⟨Nat.le_of_ble_eq_true rfl, Nat.le_of_ble_eq_true rfl⟩ hP hD hS hA hE [0] rfl (by decide) 0 rfl rfl rfl hl.1 rfl (Nat.le_of_ble_eq_true rfl) dX10_dealt_28 ⟨Nat.le_of_ble_eq_true rfl, Nat.le_of_ble_eq_true rfl⟩) hP hD hS hA [0] [1, 2, 3, 4, 5, 6, 7, 8, 9, 10, 11, 12, 13, 14, 15, 16, 17, 18, 19, 20, 21, 22, 23, 24, 25, 26, 27, 28, 29, 30, 31, 32, 33, 34] [34, 0, 1, 2, 3, 4, 5, 6, 7, 8, 9, 10, 11, 12, 13, 14, 15, 16, 17, 18, 19, 20, 21, 22, 23, 24, 25, 26, 27, 28, 29, 30, 31, 32, 33] rfl rfl (by decide) (by decide) rfl (by decide) (fun H locs hP hD hS => ?_)
        exact RET (kb_ph [(ph 0), (ph 1)]) _ _ _ _ H _ ls 31 hf hP hD hS dX10_dealt_31
    · rw [if_pos c_2] at hf
      refine lv_aload_n hx hb dX10_dealt_8 rfl (lv_at hl 0 rfl) ?_
      refine lv_iconst (v := (1 : Int32)) hx hb dX10_dealt_9 (by decide) ?_
      obtain ⟨r12, hc12, hf⟩ := kb_bind hf
      refine kb_ci (ws2 := (w_Top dA t g0 (pa 0) g2 g3 g4 g5 g6 g7 (da 0) r12.2 ++ (w_Plan dA pa pl ++ (w_Deals dA da (a 0) de ++ (w_Ride dA a (ph 0) (ph 1) rd))))) (kb_rV (n := 1) (As := [.int (1 : Int32)]) (rest := []) hx hb hml hown hK (c_X10_refused l D dA H.size t g0 (pa 0) g2 g3 g4 g5 g6 g7 (da 0) tp (1 : Int32) r12.1 r12.2 hc12) ⟨ww_2_204, ww_2_201, ww_2_203, ws_0, ww_1_1, rfl, by decide, by decide⟩ rfl rfl (by decide +kernel) ⟨Nat.le_of_ble_eq_true rfl, Nat.le_of_ble_eq_true rfl⟩ hP hD hS hA hE [0] rfl (by decide) 0 rfl rfl rfl hl.1 rfl (Nat.le_of_ble_eq_true rfl) dX10_dealt_10 ⟨Nat.le_of_ble_eq_true rfl, Nat.le_of_ble_eq_true rfl⟩) hP hD hS hA [0] [1, 2, 3, 4, 5, 6, 7, 8, 9, 10, 11, 12, 13, 14, 15, 16, 17, 18, 19, 20, 21, 22, 23, 24, 25, 26, 27, 28, 29, 30, 31, 32, 33, 34] [34, 0, 1, 2, 3, 4, 5, 6, 7, 8, 9, 10, 11, 12, 13, 14, 15, 16, 17, 18, 19, 20, 21, 22, 23, 24, 25, 26, 27, 28, 29, 30, 31, 32, 33] rfl rfl (by decide) (by decide) rfl (by decide) (fun H locs hP hD hS => ?_)
      exact RET (kb_ph [(ph 0), (ph 1)]) _ _ _ _ H _ ls 13 hf hP hD hS dX10_dealt_13
  exact E0 _ _ hP hD hS

noncomputable def f_X10_size (tp : TopT) (ps : ParserT) (pl : PlanT) (rd : RideT) (fm : FilmsT) (x0 : Int32) : Option (Int32) := (if x0 = (0 : Int32) then (if (tp_hasBus tp) = 0 then some ((0 : Int32)) else some ((pl_riderCount pl))) else (if x0 = (1 : Int32) then (if (tp_hasBus tp) = 0 then some ((0 : Int32)) else some ((pl_ruleCount pl))) else (if x0 = (2 : Int32) then (if (tp_hasBus tp) = 0 then some ((0 : Int32)) else some ((pl_friendCount pl))) else (if x0 = (3 : Int32) then (if (tp_hasBus tp) = 0 then some ((0 : Int32)) else some ((pl_holderCount pl))) else (if x0 = (4 : Int32) then (if (tp_hasBus tp) = 0 then some ((0 : Int32)) else (f_J6_bitCount_0f7a4 (cb_seats (pl_cab pl))).bind fun r11 => some (r11)) else (if x0 = (5 : Int32) then (if (tp_hasBus tp) = 0 then some ((0 : Int32)) else some ((rd_stops rd))) else (if x0 = (6 : Int32) then some ((tp_markCount tp)) else (if x0 = (7 : Int32) then some ((fm_count fm)) else (if x0 = (8 : Int32) then (if (tp_hasBus tp) = 0 then some ((0 : Int32)) else some ((cb_form (pl_cab pl)))) else (if x0 = (9 : Int32) then some ((ps_length ps)) else some ((-1 : Int32))))))))))))
set_option maxHeartbeats 4000000 in
set_option maxRecDepth 100000 in
theorem c_X10_size (l : Launch) (D : va_G) (dA : Nat → ClassId) (sz : Nat) (t : Nat → Nat) (ya : Nat → Nat) (pa : Nat → Nat) (a : Nat → Nat) (fa : Nat → Nat) (g2 : Nat) (g4 : Nat) (g6 : Nat) (g7 : Nat) (g8 : Nat) (h0 : Nat) (h1 : Nat) (tp : TopT) (ps : ParserT) (pl : PlanT) (rd : RideT) (fm : FilmsT) (x0 : Int32) (rv : Int32) (hf : f_X10_size tp ps pl rd fm x0 = some (rv)) : kb_Mi l yX10_size cX10_size 2 (some .int) ({ frames := 1, cells := 0, slots := 0, locals := 20 } : Room) D dA [.ref (t 0), .int x0] sz (w_Top dA t (ya 0) (pa 0) g2 (a 0) g4 (fa 0) g6 g7 g8 tp ++ (w_Parser dA ya ps ++ (w_Plan dA pa pl ++ (w_Ride dA a h0 h1 rd ++ (w_Films dA fa fm))))) 0 0 rv (w_Top dA t (ya 0) (pa 0) g2 (a 0) g4 (fa 0) g6 g7 g8 tp ++ (w_Parser dA ya ps ++ (w_Plan dA pa pl ++ (w_Ride dA a h0 h1 rd ++ (w_Films dA fa fm))))) := by
  refine Met.ofW (cc := cX10_size) (maxL := 2) (ret := (some .int)) (by decide) rfl ?_
  intro p e s m args below meth c s₁ B hml hv
  obtain ⟨rfl, hsz, hP, hK, hD0, hE⟩ := hv
  have hx := B.exec
  have hb := B.bytes
  have hr := B.returns
  have hown : s.vm.findClass RX10 = some m.cls := findClass_of_methodNamed B.named
  have hlocks := B.notSynchronized
  have hts : ∀ w ∈ kb_gw, w.before ([.ref (t 0), .int x0] : List Value).toArray s = true := fun w hw => hK.2.1 w hw _
  subst hsz
  have hD := hD0.self (sz := s.heap.size)
  generalize hAe : va_A (w_Top dA t (ya 0) (pa 0) g2 (a 0) g4 (fa 0) g6 g7 g8 tp ++ (w_Parser dA ya ps ++ (w_Plan dA pa pl ++ (w_Ride dA a h0 h1 rd ++ (w_Films dA fa fm))))) s.heap.size = A at hD hE ⊢
  have hA : ∀ q : Nat, s.heap.size ≤ q → A q := fun q h => by rw [← hAe]; exact Or.inr h
  have hS : va_S A s.heap s.heap [] := va_S.rf
  have hl := lv_entry ([.ref (t 0), .int x0]) (n := 2) (Nat.le_of_ble_eq_true rfl)
  rw [lg_entry_eq]
  generalize (lg_sl ([.ref (t 0), .int x0]) ++ List.replicate (2 - (lg_sl ([.ref (t 0), .int x0])).length) Slot.unset).toArray = ls at hl ⊢
  have hl : lv_has ls 2 [(0, .ref (t 0)), (1, .int x0)] := hl
  generalize hQ : MQ below (va_Qi (fun r (_ : Unit) => r = rv) (kb_B D A (w_Top dA t (ya 0) (pa 0) g2 (a 0) g4 (fa 0) g6 g7 g8 tp ++ (w_Parser dA ya ps ++ (w_Plan dA pa pl ++ (w_Ride dA a h0 h1 rd ++ (w_Films dA fa fm)))))) A) ([.ref (t 0), .int x0] : List Value).toArray s 0 0 A = Q
  show W p l e ({ frames := 1, cells := 0, slots := 0, locals := 20 } : Room) s m ([.ref (t 0), .int x0] : List Value).toArray below meth c s.heap [] 0 0 Q (F0 m 0 ls [])
  have RET : ∀ (r2 : Int32) (H : Heap) (locs : List Loc) (ls : Array Slot) (pc : Nat), some (r2) = some (rv) → va_P D vwCl (w_Top dA t (ya 0) (pa 0) g2 (a 0) g4 (fa 0) g6 g7 g8 tp ++ (w_Parser dA ya ps ++ (w_Plan dA pa pl ++ (w_Ride dA a h0 h1 rd ++ (w_Films dA fa fm))))) H → va_D A (w_Top dA t (ya 0) (pa 0) g2 (a 0) g4 (fa 0) g6 g7 g8 tp ++ (w_Parser dA ya ps ++ (w_Plan dA pa pl ++ (w_Ride dA a h0 h1 rd ++ (w_Films dA fa fm))))) → va_S A s.heap H locs → decode cX10_size pc = .ok (.ireturn, 1) → W p l e ({ frames := 1, cells := 0, slots := 0, locals := 20 } : Room) s m ([.ref (t 0), .int x0] : List Value).toArray below meth c H locs 0 0 Q (F0 m pc ls [.int r2]) := by
    intro r2 H locs ls pc hq hP hD hS hd
    cases hq
    rw [← hQ]
    exact W.iret hx hb hr (fun t ht hW => ⟨⟨_, (), rfl, rfl, by rw [ht]; exact hP, hD⟩, hS.F ht⟩) hS.2.2 hd
  have E0 : ∀ (H : Heap) (locs : List Loc), va_P D vwCl (w_Top dA t (ya 0) (pa 0) g2 (a 0) g4 (fa 0) g6 g7 g8 tp ++ (w_Parser dA ya ps ++ (w_Plan dA pa pl ++ (w_Ride dA a h0 h1 rd ++ (w_Films dA fa fm))))) H → va_D A (w_Top dA t (ya 0) (pa 0) g2 (a 0) g4 (fa 0) g6 g7 g8 tp ++ (w_Parser dA ya ps ++ (w_Plan dA pa pl ++ (w_Ride dA a h0 h1 rd ++ (w_Films dA fa fm))))) → va_S A s.heap H locs → W p l e ({ frames := 1, cells := 0, slots := 0, locals := 20 } : Room) s m ([.ref (t 0), .int x0] : List Value).toArray below meth c H locs 0 0 Q (F0 m 0 ls []) := by
    intro H locs hP hD hS
    rw [f_X10_size] at hf
    refine lv_iload_n hx hb dX10_size_0 rfl (lv_at hl 1 rfl) ?_
    by_cases c_1 : x0 = (0 : Int32)
    · rw [if_pos c_1] at hf
      refine lv_tableIn (tgt := 56) hx hb dX10_size_1 (by rw [c_1]; decide) (by rw [c_1]; decide) (by rw [c_1]; rfl) (by decide) ?_
      refine lv_aload_n hx hb dX10_size_56 rfl (lv_at hl 0 rfl) ?_
      refine va_get (D := D) (ci := 10) (v := .int (tp_hasBus tp)) (C := RX10) (T := TX10) (N := 12) hx hb hts kb_inX10 hown hK.1 hP 0 rfl rfl 3 (by decide) (hK.2.w ww_2_155 rfl _) (fun _ h9 => h9) rfl dX10_size_57 ?_
      refine lv_if_eq (tgt := 73) hx hb dX10_size_60 (by decide) (fun c_2 => ?_) (fun c_2 => ?_)
      · rw [if_pos c_2] at hf
        refine lv_iconst (v := (0 : Int32)) hx hb dX10_size_73 (by decide) ?_
        exact RET _ H _ ls 74 hf hP hD hS dX10_size_74
      · rw [if_neg c_2] at hf
        refine lv_aload_n hx hb dX10_size_63 rfl (lv_at hl 0 rfl) ?_
        refine va_get (D := D) (ci := 10) (v := .ref (pa 0)) (C := RX10) (T := TX10) (N := 12) hx hb hts kb_inX10 hown hK.1 hP 0 rfl rfl 1 (by decide) (hK.2.w ww_2_153 rfl _) (fun _ h9 => h9) rfl dX10_size_64 ?_
        refine va_get (D := D) (ci := 5) (v := .int (pl_riderCount pl)) (C := RX5) (T := TX5) (N := 8) hx hb hts kb_inX5 hown hK.1 hP 3 rfl rfl 5 (by decide) (hK.2.w ww_1_236 rfl _) (fun _ h9 => h9) rfl dX10_size_67 ?_
        refine lv_goto (tgt := 74) hx hb dX10_size_70 (by decide) ?_
        exact RET _ H _ ls 74 hf hP hD hS dX10_size_74
    · rw [if_neg c_1] at hf
      by_cases c_3 : x0 = (1 : Int32)
      · rw [if_pos c_3] at hf
        refine lv_tableIn (tgt := 75) hx hb dX10_size_1 (by rw [c_3]; decide) (by rw [c_3]; decide) (by rw [c_3]; rfl) (by decide) ?_
        refine lv_aload_n hx hb dX10_size_75 rfl (lv_at hl 0 rfl) ?_
        refine va_get (D := D) (ci := 10) (v := .int (tp_hasBus tp)) (C := RX10) (T := TX10) (N := 12) hx hb hts kb_inX10 hown hK.1 hP 0 rfl rfl 3 (by decide) (hK.2.w ww_2_155 rfl _) (fun _ h9 => h9) rfl dX10_size_76 ?_
        refine lv_if_eq (tgt := 92) hx hb dX10_size_79 (by decide) (fun c_4 => ?_) (fun c_4 => ?_)
        · rw [if_pos c_4] at hf
          refine lv_iconst (v := (0 : Int32)) hx hb dX10_size_92 (by decide) ?_
          exact RET _ H _ ls 93 hf hP hD hS dX10_size_93
        · rw [if_neg c_4] at hf
          refine lv_aload_n hx hb dX10_size_82 rfl (lv_at hl 0 rfl) ?_
          refine va_get (D := D) (ci := 10) (v := .ref (pa 0)) (C := RX10) (T := TX10) (N := 12) hx hb hts kb_inX10 hown hK.1 hP 0 rfl rfl 1 (by decide) (hK.2.w ww_2_153 rfl _) (fun _ h9 => h9) rfl dX10_size_83 ?_
          refine va_get (D := D) (ci := 5) (v := .int (pl_ruleCount pl)) (C := RX5) (T := TX5) (N := 8) hx hb hts kb_inX5 hown hK.1 hP 3 rfl rfl 4 (by decide) (hK.2.w ww_1_231 rfl _) (fun _ h9 => h9) rfl dX10_size_86 ?_
          refine lv_goto (tgt := 93) hx hb dX10_size_89 (by decide) ?_
          exact RET _ H _ ls 93 hf hP hD hS dX10_size_93
      · rw [if_neg c_3] at hf
        by_cases c_5 : x0 = (2 : Int32)
        · rw [if_pos c_5] at hf
          refine lv_tableIn (tgt := 94) hx hb dX10_size_1 (by rw [c_5]; decide) (by rw [c_5]; decide) (by rw [c_5]; rfl) (by decide) ?_
          refine lv_aload_n hx hb dX10_size_94 rfl (lv_at hl 0 rfl) ?_
          refine va_get (D := D) (ci := 10) (v := .int (tp_hasBus tp)) (C := RX10) (T := TX10) (N := 12) hx hb hts kb_inX10 hown hK.1 hP 0 rfl rfl 3 (by decide) (hK.2.w ww_2_155 rfl _) (fun _ h9 => h9) rfl dX10_size_95 ?_
          refine lv_if_eq (tgt := 111) hx hb dX10_size_98 (by decide) (fun c_6 => ?_) (fun c_6 => ?_)
          · rw [if_pos c_6] at hf
            refine lv_iconst (v := (0 : Int32)) hx hb dX10_size_111 (by decide) ?_
            exact RET _ H _ ls 112 hf hP hD hS dX10_size_112
          · rw [if_neg c_6] at hf
            refine lv_aload_n hx hb dX10_size_101 rfl (lv_at hl 0 rfl) ?_
            refine va_get (D := D) (ci := 10) (v := .ref (pa 0)) (C := RX10) (T := TX10) (N := 12) hx hb hts kb_inX10 hown hK.1 hP 0 rfl rfl 1 (by decide) (hK.2.w ww_2_153 rfl _) (fun _ h9 => h9) rfl dX10_size_102 ?_
            refine va_get (D := D) (ci := 5) (v := .int (pl_friendCount pl)) (C := RX5) (T := TX5) (N := 8) hx hb hts kb_inX5 hown hK.1 hP 3 rfl rfl 6 (by decide) (hK.2.w ww_2_0 rfl _) (fun _ h9 => h9) rfl dX10_size_105 ?_
            refine lv_goto (tgt := 112) hx hb dX10_size_108 (by decide) ?_
            exact RET _ H _ ls 112 hf hP hD hS dX10_size_112
        · rw [if_neg c_5] at hf
          by_cases c_7 : x0 = (3 : Int32)
          · rw [if_pos c_7] at hf
            refine lv_tableIn (tgt := 113) hx hb dX10_size_1 (by rw [c_7]; decide) (by rw [c_7]; decide) (by rw [c_7]; rfl) (by decide) ?_
            refine lv_aload_n hx hb dX10_size_113 rfl (lv_at hl 0 rfl) ?_
            refine va_get (D := D) (ci := 10) (v := .int (tp_hasBus tp)) (C := RX10) (T := TX10) (N := 12) hx hb hts kb_inX10 hown hK.1 hP 0 rfl rfl 3 (by decide) (hK.2.w ww_2_155 rfl _) (fun _ h9 => h9) rfl dX10_size_114 ?_
            refine lv_if_eq (tgt := 130) hx hb dX10_size_117 (by decide) (fun c_8 => ?_) (fun c_8 => ?_)
            · rw [if_pos c_8] at hf
              refine lv_iconst (v := (0 : Int32)) hx hb dX10_size_130 (by decide) ?_
              exact RET _ H _ ls 131 hf hP hD hS dX10_size_131
            · rw [if_neg c_8] at hf
              refine lv_aload_n hx hb dX10_size_120 rfl (lv_at hl 0 rfl) ?_
              refine va_get (D := D) (ci := 10) (v := .ref (pa 0)) (C := RX10) (T := TX10) (N := 12) hx hb hts kb_inX10 hown hK.1 hP 0 rfl rfl 1 (by decide) (hK.2.w ww_2_153 rfl _) (fun _ h9 => h9) rfl dX10_size_121 ?_
              refine va_get (D := D) (ci := 5) (v := .int (pl_holderCount pl)) (C := RX5) (T := TX5) (N := 8) hx hb hts kb_inX5 hown hK.1 hP 3 rfl rfl 7 (by decide) (hK.2.w ww_2_3 rfl _) (fun _ h9 => h9) rfl dX10_size_124 ?_
              refine lv_goto (tgt := 131) hx hb dX10_size_127 (by decide) ?_
              exact RET _ H _ ls 131 hf hP hD hS dX10_size_131
          · rw [if_neg c_7] at hf
            by_cases c_9 : x0 = (4 : Int32)
            · rw [if_pos c_9] at hf
              refine lv_tableIn (tgt := 132) hx hb dX10_size_1 (by rw [c_9]; decide) (by rw [c_9]; decide) (by rw [c_9]; rfl) (by decide) ?_
              refine lv_aload_n hx hb dX10_size_132 rfl (lv_at hl 0 rfl) ?_
              refine va_get (D := D) (ci := 10) (v := .int (tp_hasBus tp)) (C := RX10) (T := TX10) (N := 12) hx hb hts kb_inX10 hown hK.1 hP 0 rfl rfl 3 (by decide) (hK.2.w ww_2_155 rfl _) (fun _ h9 => h9) rfl dX10_size_133 ?_
              refine lv_if_eq (tgt := 155) hx hb dX10_size_136 (by decide) (fun c_10 => ?_) (fun c_10 => ?_)
              · rw [if_pos c_10] at hf
                refine lv_iconst (v := (0 : Int32)) hx hb dX10_size_155 (by decide) ?_
                exact RET _ H _ ls 156 hf hP hD hS dX10_size_156
              · rw [if_neg c_10] at hf
                refine lv_aload_n hx hb dX10_size_139 rfl (lv_at hl 0 rfl) ?_
                refine va_get (D := D) (ci := 10) (v := .ref (pa 0)) (C := RX10) (T := TX10) (N := 12) hx hb hts kb_inX10 hown hK.1 hP 0 rfl rfl 1 (by decide) (hK.2.w ww_2_153 rfl _) (fun _ h9 => h9) rfl dX10_size_140 ?_
                refine va_get (D := D) (ci := 5) (v := .ref (pa 1)) (C := RX5) (T := TX5) (N := 8) hx hb hts kb_inX5 hown hK.1 hP 3 rfl rfl 0 (by decide) (hK.2.w ww_1_215 rfl _) (fun _ h9 => h9) rfl dX10_size_143 ?_
                refine va_get (D := D) (ci := 0) (v := .int (cb_seats (pl_cab pl))) (C := RX0) (T := TX0) (N := 8) hx hb hts kb_inX0 hown hK.1 hP 4 rfl rfl 6 (by decide) (hK.2.w ww_1_107 rfl _) (fun _ h9 => h9) rfl dX10_size_146 ?_
                obtain ⟨r11, hc11, hf⟩ := kb_bind hf
                refine kb_ci (ws2 := (w_Top dA t (ya 0) (pa 0) g2 (a 0) g4 (fa 0) g6 g7 g8 tp ++ (w_Parser dA ya ps ++ (w_Plan dA pa pl ++ (w_Ride dA a h0 h1 rd ++ (w_Films dA fa fm)))))) (kb_rS (n := 1) (As := [.int (cb_seats (pl_cab pl))]) (rest := []) hx hb hml hown hK (c_J6_bitCount_0f7a4 l D dA H.size (cb_seats (pl_cab pl)) r11 hc11) ⟨ww_4_163, ww_4_161, ww_4_162, ww_1_20, by decide, by decide⟩ rfl rfl (by decide +kernel) ⟨Nat.le_of_ble_eq_true rfl, Nat.le_of_ble_eq_true rfl⟩ hP hD hS hA hE [] rfl (by decide) rfl hl.1 rfl (Nat.le_of_ble_eq_true rfl) dX10_size_149 ⟨Nat.le_of_ble_eq_true rfl, Nat.le_of_ble_eq_true rfl⟩) hP hD hS hA [] [0, 1, 2, 3, 4, 5, 6, 7, 8, 9, 10, 11, 12, 13, 14, 15, 16, 17, 18, 19, 20, 21, 22, 23, 24, 25, 26, 27, 28, 29, 30, 31, 32, 33, 34, 35] [0, 1, 2, 3, 4, 5, 6, 7, 8, 9, 10, 11, 12, 13, 14, 15, 16, 17, 18, 19, 20, 21, 22, 23, 24, 25, 26, 27, 28, 29, 30, 31, 32, 33, 34, 35] rfl rfl (by decide) (by decide) rfl (by decide) (fun H locs hP hD hS => ?_)
                refine lv_goto (tgt := 156) hx hb dX10_size_152 (by decide) ?_
                exact RET _ H _ ls 156 hf hP hD hS dX10_size_156
            · rw [if_neg c_9] at hf
              by_cases c_12 : x0 = (5 : Int32)
              · rw [if_pos c_12] at hf
                refine lv_tableIn (tgt := 157) hx hb dX10_size_1 (by rw [c_12]; decide) (by rw [c_12]; decide) (by rw [c_12]; rfl) (by decide) ?_
                refine lv_aload_n hx hb dX10_size_157 rfl (lv_at hl 0 rfl) ?_
                refine va_get (D := D) (ci := 10) (v := .int (tp_hasBus tp)) (C := RX10) (T := TX10) (N := 12) hx hb hts kb_inX10 hown hK.1 hP 0 rfl rfl 3 (by decide) (hK.2.w ww_2_155 rfl _) (fun _ h9 => h9) rfl dX10_size_158 ?_
                refine lv_if_eq (tgt := 174) hx hb dX10_size_161 (by decide) (fun c_13 => ?_) (fun c_13 => ?_)
                · rw [if_pos c_13] at hf
                  refine lv_iconst (v := (0 : Int32)) hx hb dX10_size_174 (by decide) ?_
                  exact RET _ H _ ls 175 hf hP hD hS dX10_size_175
                · rw [if_neg c_13] at hf
                  refine lv_aload_n hx hb dX10_size_164 rfl (lv_at hl 0 rfl) ?_
                  refine va_get (D := D) (ci := 10) (v := .ref (a 0)) (C := RX10) (T := TX10) (N := 12) hx hb hts kb_inX10 hown hK.1 hP 0 rfl rfl 4 (by decide) (hK.2.w ww_2_156 rfl _) (fun _ h9 => h9) rfl dX10_size_165 ?_
                  refine va_get (D := D) (ci := 6) (v := .int (rd_stops rd)) (C := RX6) (T := TX6) (N := 11) hx hb hts kb_inX6 hown hK.1 hP 24 rfl rfl 10 (by decide) (hK.2.w ww_2_85 rfl _) (fun _ h9 => h9) rfl dX10_size_168 ?_
                  refine lv_goto (tgt := 175) hx hb dX10_size_171 (by decide) ?_
                  exact RET _ H _ ls 175 hf hP hD hS dX10_size_175
              · rw [if_neg c_12] at hf
                by_cases c_14 : x0 = (6 : Int32)
                · rw [if_pos c_14] at hf
                  refine lv_tableIn (tgt := 176) hx hb dX10_size_1 (by rw [c_14]; decide) (by rw [c_14]; decide) (by rw [c_14]; rfl) (by decide) ?_
                  refine lv_aload_n hx hb dX10_size_176 rfl (lv_at hl 0 rfl) ?_
                  refine va_get (D := D) (ci := 10) (v := .int (tp_markCount tp)) (C := RX10) (T := TX10) (N := 12) hx hb hts kb_inX10 hown hK.1 hP 0 rfl rfl 6 (by decide) (hK.2.w ww_2_158 rfl _) (fun _ h9 => h9) rfl dX10_size_177 ?_
                  exact RET _ H _ ls 180 hf hP hD hS dX10_size_180
                · rw [if_neg c_14] at hf
                  by_cases c_15 : x0 = (7 : Int32)
                  · rw [if_pos c_15] at hf
                    refine lv_tableIn (tgt := 181) hx hb dX10_size_1 (by rw [c_15]; decide) (by rw [c_15]; decide) (by rw [c_15]; rfl) (by decide) ?_
                    refine lv_aload_n hx hb dX10_size_181 rfl (lv_at hl 0 rfl) ?_
                    refine va_get (D := D) (ci := 10) (v := .ref (fa 0)) (C := RX10) (T := TX10) (N := 12) hx hb hts kb_inX10 hown hK.1 hP 0 rfl rfl 7 (by decide) (hK.2.w ww_2_159 rfl _) (fun _ h9 => h9) rfl dX10_size_182 ?_
                    refine va_get (D := D) (ci := 2) (v := .int (fm_count fm)) (C := RX2) (T := TX2) (N := 3) hx hb hts kb_inX2 hown hK.1 hP 33 rfl rfl 2 (by decide) (hK.2.w ww_2_32 rfl _) (fun _ h9 => h9) rfl dX10_size_185 ?_
                    exact RET _ H _ ls 188 hf hP hD hS dX10_size_188
                  · rw [if_neg c_15] at hf
                    by_cases c_16 : x0 = (8 : Int32)
                    · rw [if_pos c_16] at hf
                      refine lv_tableIn (tgt := 189) hx hb dX10_size_1 (by rw [c_16]; decide) (by rw [c_16]; decide) (by rw [c_16]; rfl) (by decide) ?_
                      refine lv_aload_n hx hb dX10_size_189 rfl (lv_at hl 0 rfl) ?_
                      refine va_get (D := D) (ci := 10) (v := .int (tp_hasBus tp)) (C := RX10) (T := TX10) (N := 12) hx hb hts kb_inX10 hown hK.1 hP 0 rfl rfl 3 (by decide) (hK.2.w ww_2_155 rfl _) (fun _ h9 => h9) rfl dX10_size_190 ?_
                      refine lv_if_eq (tgt := 209) hx hb dX10_size_193 (by decide) (fun c_17 => ?_) (fun c_17 => ?_)
                      · rw [if_pos c_17] at hf
                        refine lv_iconst (v := (0 : Int32)) hx hb dX10_size_209 (by decide) ?_
                        exact RET _ H _ ls 210 hf hP hD hS dX10_size_210
                      · rw [if_neg c_17] at hf
                        refine lv_aload_n hx hb dX10_size_196 rfl (lv_at hl 0 rfl) ?_
                        refine va_get (D := D) (ci := 10) (v := .ref (pa 0)) (C := RX10) (T := TX10) (N := 12) hx hb hts kb_inX10 hown hK.1 hP 0 rfl rfl 1 (by decide) (hK.2.w ww_2_153 rfl _) (fun _ h9 => h9) rfl dX10_size_197 ?_
                        refine va_get (D := D) (ci := 5) (v := .ref (pa 1)) (C := RX5) (T := TX5) (N := 8) hx hb hts kb_inX5 hown hK.1 hP 3 rfl rfl 0 (by decide) (hK.2.w ww_1_215 rfl _) (fun _ h9 => h9) rfl dX10_size_200 ?_
                        refine va_get (D := D) (ci := 0) (v := .int (cb_form (pl_cab pl))) (C := RX0) (T := TX0) (N := 8) hx hb hts kb_inX0 hown hK.1 hP 4 rfl rfl 1 (by decide) (hK.2.w ww_1_92 rfl _) (fun _ h9 => h9) rfl dX10_size_203 ?_
                        refine lv_goto (tgt := 210) hx hb dX10_size_206 (by decide) ?_
                        exact RET _ H _ ls 210 hf hP hD hS dX10_size_210
                    · rw [if_neg c_16] at hf
                      by_cases c_18 : x0 = (9 : Int32)
                      · rw [if_pos c_18] at hf
                        refine lv_tableIn (tgt := 211) hx hb dX10_size_1 (by rw [c_18]; decide) (by rw [c_18]; decide) (by rw [c_18]; rfl) (by decide) ?_
                        refine lv_aload_n hx hb dX10_size_211 rfl (lv_at hl 0 rfl) ?_
                        refine va_get (D := D) (ci := 10) (v := .ref (ya 0)) (C := RX10) (T := TX10) (N := 12) hx hb hts kb_inX10 hown hK.1 hP 0 rfl rfl 0 (by decide) (hK.2.w ww_2_152 rfl _) (fun _ h9 => h9) rfl dX10_size_212 ?_
                        refine va_get (D := D) (ci := 4) (v := .int (ps_length ps)) (C := RX4) (T := TX4) (N := 10) hx hb hts kb_inX4 hown hK.1 hP 1 rfl rfl 0 (by decide) (hK.2.w ww_1_39 rfl _) (fun _ h9 => h9) rfl dX10_size_215 ?_
                        exact RET _ H _ ls 218 hf hP hD hS dX10_size_218
                      · rw [if_neg c_18] at hf
                        refine lv_tableOut (tgt := 219) hx hb dX10_size_1 (kb_sw 0 9 (fun k q1 q2 => by
                            rcases (show k = 0 ∨ k = 1 ∨ k = 2 ∨ k = 3 ∨ k = 4 ∨ k = 5 ∨ k = 6 ∨ k = 7 ∨ k = 8 ∨ k = 9 by omega) with rfl | rfl | rfl | rfl | rfl | rfl | rfl | rfl | rfl | rfl
                            · exact fun e => c_1 (e.trans (by decide))
                            · exact fun e => c_3 (e.trans (by decide))
                            · exact fun e => c_5 (e.trans (by decide))
                            · exact fun e => c_7 (e.trans (by decide))
                            · exact fun e => c_9 (e.trans (by decide))
                            · exact fun e => c_12 (e.trans (by decide))
                            · exact fun e => c_14 (e.trans (by decide))
                            · exact fun e => c_15 (e.trans (by decide))
                            · exact fun e => c_16 (e.trans (by decide))
                            · exact fun e => c_18 (e.trans (by decide)))) (by decide) ?_
                        refine lv_iconst (v := (-1 : Int32)) hx hb dX10_size_219 (by decide) ?_
                        exact RET _ H _ ls 220 hf hP hD hS dX10_size_220
  exact E0 _ _ hP hD hS

noncomputable def f_X10_bus_b15 (pl : PlanT) (z0 : TopT) (z1 : ParserT) (z3 : PlanT) (z4 : RideT) (z5 : FilmsT) (z6 : DealsT) : Option (Int32 × TopT × ParserT × PlanT × RideT × FilmsT × DealsT × Nat) := (f_X10_refused z0 (2 : Int32)).bind fun r2 => some (r2.1, r2.2, z1, z3, z4, z5, z6, 0)
noncomputable def f_X10_bus (tp : TopT) (ps : ParserT) (pl : PlanT) (pd : PlanT) (rd : RideT) (fm : FilmsT) (de : DealsT) (x0 : Int32) : Option (Int32 × TopT × ParserT × PlanT × RideT × FilmsT × DealsT × Nat) := (if x0 < 0 then f_X10_bus_b15 pl tp ps pd rd fm de else (if x0 ≤ (ps_length ps) then (f_X4_read ps pd x0).bind fun r4 => (if r4.1 = 0 then (f_X10_refused tp (4 : Int32)).bind fun r8 => some (r8.1, r8.2, r4.2.1, r4.2.2, rd, fm, de, 0) else (f_X10_takeDraft tp pl r4.2.2 rd fm de).bind fun r6 => (f_X10_answered r6.1 (pl_riderCount r4.2.2)).bind fun r7 => some (r7.1, r7.2, r4.2.1, r4.2.2, r6.2.1, r6.2.2.1, r6.2.2.2, 1)) else f_X10_bus_b15 pl tp ps pd rd fm de))
set_option maxHeartbeats 4000000 in
set_option maxRecDepth 100000 in
theorem c_X10_bus_0 (l : Launch) (D : va_G) (dA : Nat → ClassId) (sz : Nat) (t : Nat → Nat) (ya : Nat → Nat) (pa : Nat → Nat) (db : Nat → Nat) (a : Nat → Nat) (fa : Nat → Nat) (da : Nat → Nat) (g4 : Nat) (g6 : Nat) (g7 : Nat) (h0 : Nat) (tp : TopT) (ps : ParserT) (pl : PlanT) (pd : PlanT) (rd : RideT) (fm : FilmsT) (de : DealsT) (x0 : Int32) (rv : Int32) (u0 : TopT) (u1 : ParserT) (u3 : PlanT) (u4 : RideT) (u5 : FilmsT) (u6 : DealsT) (hf : f_X10_bus tp ps pl pd rd fm de x0 = some (rv, u0, u1, u3, u4, u5, u6, 0)) : kb_Mi l yX10_bus cX10_bus 2 (some .int) ({ frames := 10, cells := 0, slots := 0, locals := 218 } : Room) D dA [.ref (t 0), .int x0] sz (w_Top dA t (ya 0) (pa 0) (db 0) (a 0) g4 (fa 0) g6 g7 (da 0) tp ++ (w_Parser dA ya ps ++ (w_Plan dA pa pl ++ (w_Plan dA db pd ++ (w_Ride dA a (pa 0) (pa 1) rd ++ (w_Films dA fa fm ++ (w_Deals dA da h0 de))))))) 0 0 rv (w_Top dA t (ya 0) (pa 0) (db 0) (a 0) g4 (fa 0) g6 g7 (da 0) u0 ++ (w_Parser dA ya u1 ++ (w_Plan dA pa pl ++ (w_Plan dA db u3 ++ (w_Ride dA a (pa 0) (pa 1) u4 ++ (w_Films dA fa u5 ++ (w_Deals dA da h0 u6))))))) := by
  refine Met.ofW (cc := cX10_bus) (maxL := 2) (ret := (some .int)) (by decide) rfl ?_
  intro p e s m args below meth c s₁ B hml hv
  obtain ⟨rfl, hsz, hP, hK, hD0, hE⟩ := hv
  have hx := B.exec
  have hb := B.bytes
  have hr := B.returns
  have hown : s.vm.findClass RX10 = some m.cls := findClass_of_methodNamed B.named
  have hlocks := B.notSynchronized
  have hts : ∀ w ∈ kb_gw, w.before ([.ref (t 0), .int x0] : List Value).toArray s = true := fun w hw => hK.2.1 w hw _
  subst hsz
  have hD := hD0.self (sz := s.heap.size)
  generalize hAe : va_A (w_Top dA t (ya 0) (pa 0) (db 0) (a 0) g4 (fa 0) g6 g7 (da 0) tp ++ (w_Parser dA ya ps ++ (w_Plan dA pa pl ++ (w_Plan dA db pd ++ (w_Ride dA a (pa 0) (pa 1) rd ++ (w_Films dA fa fm ++ (w_Deals dA da h0 de))))))) s.heap.size = A at hD hE ⊢
  have hA : ∀ q : Nat, s.heap.size ≤ q → A q := fun q h => by rw [← hAe]; exact Or.inr h
  have hS : va_S A s.heap s.heap [] := va_S.rf
  have hl := lv_entry ([.ref (t 0), .int x0]) (n := 2) (Nat.le_of_ble_eq_true rfl)
  rw [lg_entry_eq]
  generalize (lg_sl ([.ref (t 0), .int x0]) ++ List.replicate (2 - (lg_sl ([.ref (t 0), .int x0])).length) Slot.unset).toArray = ls at hl ⊢
  have hl : lv_has ls 2 [(0, .ref (t 0)), (1, .int x0)] := hl
  generalize hQ : MQ below (va_Qi (fun r (_ : Unit) => r = rv) (kb_B D A (w_Top dA t (ya 0) (pa 0) (db 0) (a 0) g4 (fa 0) g6 g7 (da 0) u0 ++ (w_Parser dA ya u1 ++ (w_Plan dA pa pl ++ (w_Plan dA db u3 ++ (w_Ride dA a (pa 0) (pa 1) u4 ++ (w_Films dA fa u5 ++ (w_Deals dA da h0 u6)))))))) A) ([.ref (t 0), .int x0] : List Value).toArray s 0 0 A = Q
  show W p l e ({ frames := 10, cells := 0, slots := 0, locals := 218 } : Room) s m ([.ref (t 0), .int x0] : List Value).toArray below meth c s.heap [] 0 0 Q (F0 m 0 ls [])
  have RET0 : ∀ (r2 : Int32) (w0 : TopT) (w1 : ParserT) (w3 : PlanT) (w4 : RideT) (w5 : FilmsT) (w6 : DealsT) (H : Heap) (locs : List Loc) (ls : Array Slot) (pc : Nat), some (r2, w0, w1, w3, w4, w5, w6, 0) = some (rv, u0, u1, u3, u4, u5, u6, 0) → va_P D vwCl (w_Top dA t (ya 0) (pa 0) (db 0) (a 0) g4 (fa 0) g6 g7 (da 0) w0 ++ (w_Parser dA ya w1 ++ (w_Plan dA pa pl ++ (w_Plan dA db w3 ++ (w_Ride dA a (pa 0) (pa 1) w4 ++ (w_Films dA fa w5 ++ (w_Deals dA da h0 w6))))))) H → va_D A (w_Top dA t (ya 0) (pa 0) (db 0) (a 0) g4 (fa 0) g6 g7 (da 0) w0 ++ (w_Parser dA ya w1 ++ (w_Plan dA pa pl ++ (w_Plan dA db w3 ++ (w_Ride dA a (pa 0) (pa 1) w4 ++ (w_Films dA fa w5 ++ (w_Deals dA da h0 w6))))))) → va_S A s.heap H locs → decode cX10_bus pc = .ok (.ireturn, 1) → W p l e ({ frames := 10, cells := 0, slots := 0, locals := 218 } : Room) s m ([.ref (t 0), .int x0] : List Value).toArray below meth c H locs 0 0 Q (F0 m pc ls [.int r2]) := by
    intro r2 w0 w1 w3 w4 w5 w6 H locs ls pc hq hP hD hS hd
    cases hq
    rw [← hQ]
    exact W.iret hx hb hr (fun t ht hW => ⟨⟨_, (), rfl, rfl, by rw [ht]; exact hP, hD⟩, hS.F ht⟩) hS.2.2 hd
  have RET1 : ∀ (r2 : Int32) (w0 : TopT) (w1 : ParserT) (w3 : PlanT) (w4 : RideT) (w5 : FilmsT) (w6 : DealsT) (H : Heap) (locs : List Loc) (ls : Array Slot) (pc : Nat), some (r2, w0, w1, w3, w4, w5, w6, 1) = some (rv, u0, u1, u3, u4, u5, u6, 0) → va_P D vwCl (w_Top dA t (ya 0) (db 0) (pa 0) (a 0) g4 (fa 0) g6 g7 (da 0) w0 ++ (w_Parser dA ya w1 ++ (w_Plan dA pa pl ++ (w_Plan dA db w3 ++ (w_Ride dA a (db 0) (db 1) w4 ++ (w_Films dA fa w5 ++ (w_Deals dA da h0 w6))))))) H → va_D A (w_Top dA t (ya 0) (db 0) (pa 0) (a 0) g4 (fa 0) g6 g7 (da 0) w0 ++ (w_Parser dA ya w1 ++ (w_Plan dA pa pl ++ (w_Plan dA db w3 ++ (w_Ride dA a (db 0) (db 1) w4 ++ (w_Films dA fa w5 ++ (w_Deals dA da h0 w6))))))) → va_S A s.heap H locs → decode cX10_bus pc = .ok (.ireturn, 1) → W p l e ({ frames := 10, cells := 0, slots := 0, locals := 218 } : Room) s m ([.ref (t 0), .int x0] : List Value).toArray below meth c H locs 0 0 Q (F0 m pc ls [.int r2]) := by
    intro r2 w0 w1 w3 w4 w5 w6 H locs ls pc hq hP hD hS hd
    exact absurd hq (by simp)
  have B_15 : ∀ (z0 : TopT) (z1 : ParserT) (z3 : PlanT) (z4 : RideT) (z5 : FilmsT) (z6 : DealsT) (H : Heap) (locs : List Loc) (ls : Array Slot), f_X10_bus_b15 pl z0 z1 z3 z4 z5 z6 = some (rv, u0, u1, u3, u4, u5, u6, 0) → va_P D vwCl (w_Top dA t (ya 0) (pa 0) (db 0) (a 0) g4 (fa 0) g6 g7 (da 0) z0 ++ (w_Parser dA ya z1 ++ (w_Plan dA pa pl ++ (w_Plan dA db z3 ++ (w_Ride dA a (pa 0) (pa 1) z4 ++ (w_Films dA fa z5 ++ (w_Deals dA da h0 z6))))))) H → va_D A (w_Top dA t (ya 0) (pa 0) (db 0) (a 0) g4 (fa 0) g6 g7 (da 0) z0 ++ (w_Parser dA ya z1 ++ (w_Plan dA pa pl ++ (w_Plan dA db z3 ++ (w_Ride dA a (pa 0) (pa 1) z4 ++ (w_Films dA fa z5 ++ (w_Deals dA da h0 z6))))))) → va_S A s.heap H locs → lv_has ls 2 [(0, .ref (t 0))] → W p l e ({ frames := 10, cells := 0, slots := 0, locals := 218 } : Room) s m ([.ref (t 0), .int x0] : List Value).toArray below meth c H locs 0 0 Q (F0 m 15 ls []) := by
    intro z0 z1 z3 z4 z5 z6 H locs ls hf hP hD hS hl
    rw [f_X10_bus_b15] at hf
    refine lv_aload_n hx hb dX10_bus_15 rfl (lv_at hl 0 rfl) ?_
    refine lv_iconst (v := (2 : Int32)) hx hb dX10_bus_16 (by decide) ?_
    obtain ⟨r2, hc2, hf⟩ := kb_bind hf
    refine kb_ci (ws2 := (w_Top dA t (ya 0) (pa 0) (db 0) (a 0) g4 (fa 0) g6 g7 (da 0) r2.2 ++ (w_Parser dA ya z1 ++ (w_Plan dA pa pl ++ (w_Plan dA db z3 ++ (w_Ride dA a (pa 0) (pa 1) z4 ++ (w_Films dA fa z5 ++ (w_Deals dA da h0 z6)))))))) (kb_rV (n := 1) (As := [.int (2 : Int32)]) (rest := []) hx hb hml hown hK (c_X10_refused l D dA H.size t (ya 0) (pa 0) (db 0) (a 0) g4 (fa 0) g6 g7 (da 0) z0 (2 : Int32) r2.1 r2.2 hc2) ⟨ww_2_204, ww_2_201, ww_2_203, ws_0, ww_1_1, rfl, by decide, by decide⟩ rfl rfl (by decide +kernel) ⟨Nat.le_of_ble_eq_true rfl, Nat.le_of_ble_eq_true rfl⟩ hP hD hS hA hE [0] rfl (by decide) 0 rfl rfl rfl hl.1 rfl (Nat.le_of_ble_eq_true rfl) dX10_bus_17 ⟨Nat.le_of_ble_eq_true rfl, Nat.le_of_ble_eq_true rfl⟩) hP hD hS hA [0] [1, 2, 3, 4, 5, 6, 7, 8, 9, 10, 11, 12, 13, 14, 15, 16, 17, 18, 19, 20, 21, 22, 23, 24, 25, 26, 27, 28, 29, 30, 31, 32, 33, 34, 35, 36, 37, 38, 39, 40, 41, 42, 43, 44, 45, 46, 47, 48, 49, 50, 51, 52, 53, 54, 55, 56, 57, 58, 59, 60] [60, 0, 1, 2, 3, 4, 5, 6, 7, 8, 9, 10, 11, 12, 13, 14, 15, 16, 17, 18, 19, 20, 21, 22, 23, 24, 25, 26, 27, 28, 29, 30, 31, 32, 33, 34, 35, 36, 37, 38, 39, 40, 41, 42, 43, 44, 45, 46, 47, 48, 49, 50, 51, 52, 53, 54, 55, 56, 57, 58, 59] rfl rfl (by decide) (by decide) rfl (by decide) (fun H locs hP hD hS => ?_)
    exact RET0 _ _ _ _ _ _ _ H _ ls 20 hf hP hD hS dX10_bus_20
  have E0 : ∀ (H : Heap) (locs : List Loc), va_P D vwCl (w_Top dA t (ya 0) (pa 0) (db 0) (a 0) g4 (fa 0) g6 g7 (da 0) tp ++ (w_Parser dA ya ps ++ (w_Plan dA pa pl ++ (w_Plan dA db pd ++ (w_Ride dA a (pa 0) (pa 1) rd ++ (w_Films dA fa fm ++ (w_Deals dA da h0 de))))))) H → va_D A (w_Top dA t (ya 0) (pa 0) (db 0) (a 0) g4 (fa 0) g6 g7 (da 0) tp ++ (w_Parser dA ya ps ++ (w_Plan dA pa pl ++ (w_Plan dA db pd ++ (w_Ride dA a (pa 0) (pa 1) rd ++ (w_Films dA fa fm ++ (w_Deals dA da h0 de))))))) → va_S A s.heap H locs → W p l e ({ frames := 10, cells := 0, slots := 0, locals := 218 } : Room) s m ([.ref (t 0), .int x0] : List Value).toArray below meth c H locs 0 0 Q (F0 m 0 ls []) := by
    intro H locs hP hD hS
    rw [f_X10_bus] at hf
    refine lv_iload_n hx hb dX10_bus_0 rfl (lv_at hl 1 rfl) ?_
    refine lv_if_lt (tgt := 15) hx hb dX10_bus_1 (by decide) (fun c_1 => ?_) (fun c_1 => ?_)
    · rw [if_pos c_1] at hf
      exact B_15 _ _ _ _ _ _ _ _ _ hf hP hD hS (lv_sub hl [0] rfl)
    · rw [if_neg c_1] at hf
      refine lv_iload_n hx hb dX10_bus_4 rfl (lv_at hl 1 rfl) ?_
      refine lv_aload_n hx hb dX10_bus_5 rfl (lv_at hl 0 rfl) ?_
      refine va_get (D := D) (ci := 10) (v := .ref (ya 0)) (C := RX10) (T := TX10) (N := 12) hx hb hts kb_inX10 hown hK.1 hP 0 rfl rfl 0 (by decide) (hK.2.w ww_2_152 rfl _) (fun _ h9 => h9) rfl dX10_bus_6 ?_
      refine va_get (D := D) (ci := 4) (v := .int (ps_length ps)) (C := RX4) (T := TX4) (N := 10) hx hb hts kb_inX4 hown hK.1 hP 1 rfl rfl 0 (by decide) (hK.2.w ww_1_39 rfl _) (fun _ h9 => h9) rfl dX10_bus_9 ?_
      refine lv_icmp_le (tgt := 21) hx hb dX10_bus_12 (by decide) (fun c_3 => ?_) (fun c_3 => ?_)
      · rw [if_pos c_3] at hf
        refine lv_aload_n hx hb dX10_bus_21 rfl (lv_at hl 0 rfl) ?_
        refine va_get (D := D) (ci := 10) (v := .ref (ya 0)) (C := RX10) (T := TX10) (N := 12) hx hb hts kb_inX10 hown hK.1 hP 0 rfl rfl 0 (by decide) (hK.2.w ww_2_152 rfl _) (fun _ h9 => h9) rfl dX10_bus_22 ?_
        refine lv_aload_n hx hb dX10_bus_25 rfl (lv_at hl 0 rfl) ?_
        refine va_get (D := D) (ci := 10) (v := .ref (db 0)) (C := RX10) (T := TX10) (N := 12) hx hb hts kb_inX10 hown hK.1 hP 0 rfl rfl 2 (by decide) (hK.2.w ww_2_154 rfl _) (fun _ h9 => h9) rfl dX10_bus_26 ?_
        refine lv_iload_n hx hb dX10_bus_29 rfl (lv_at hl 1 rfl) ?_
        obtain ⟨r4, hc4, hf⟩ := kb_bind hf
        refine kb_ci (ws2 := (w_Top dA t (ya 0) (pa 0) (db 0) (a 0) g4 (fa 0) g6 g7 (da 0) tp ++ (w_Parser dA ya r4.2.1 ++ (w_Plan dA pa pl ++ (w_Plan dA db r4.2.2 ++ (w_Ride dA a (pa 0) (pa 1) rd ++ (w_Films dA fa fm ++ (w_Deals dA da h0 de)))))))) (kb_rV (n := 2) (As := [.ref (db 0), .int x0]) (rest := []) hx hb hml hown hK (c_X4_read l D dA H.size ya db ps pd x0 r4.1 r4.2.1 r4.2.2 hc4) ⟨ww_2_208, ww_2_205, ww_2_206, ww_2_207, ww_1_2, rfl, by decide, by decide⟩ rfl rfl (by decide +kernel) ⟨Nat.le_of_ble_eq_true rfl, Nat.le_of_ble_eq_true rfl⟩ hP hD hS hA hE [1, 2, 24, 25, 26, 27, 28, 29, 30, 31, 32, 33, 34, 35, 36, 37, 38, 39, 40, 41, 42, 43, 44] rfl (by decide) 0 rfl rfl rfl hl.1 rfl (Nat.le_of_ble_eq_true rfl) dX10_bus_30 ⟨Nat.le_of_ble_eq_true rfl, Nat.le_of_ble_eq_true rfl⟩) hP hD hS hA [1, 2, 24, 25, 26, 27, 28, 29, 30, 31, 32, 33, 34, 35, 36, 37, 38, 39, 40, 41, 42, 43, 44] [0, 3, 4, 5, 6, 7, 8, 9, 10, 11, 12, 13, 14, 15, 16, 17, 18, 19, 20, 21, 22, 23, 45, 46, 47, 48, 49, 50, 51, 52, 53, 54, 55, 56, 57, 58, 59, 60] [0, 38, 39, 1, 2, 3, 4, 5, 6, 7, 8, 9, 10, 11, 12, 13, 14, 15, 16, 17, 18, 19, 20, 21, 40, 41, 42, 43, 44, 45, 46, 47, 48, 49, 50, 51, 52, 53, 54, 55, 56, 57, 58, 59, 60, 22, 23, 24, 25, 26, 27, 28, 29, 30, 31, 32, 33, 34, 35, 36, 37] rfl rfl (by decide) (by decide) rfl (by decide) (fun H locs hP hD hS => ?_)
        refine lv_if_ne (tgt := 42) hx hb dX10_bus_33 (by decide) (fun c_5 => ?_) (fun c_5 => ?_)
        · rw [if_neg c_5] at hf
          refine lv_aload_n hx hb dX10_bus_42 rfl (lv_at hl 0 rfl) ?_
          obtain ⟨r6, hc6, hf⟩ := kb_bind hf
          refine kb_cv (ws2 := (w_Top dA t (ya 0) (db 0) (pa 0) (a 0) g4 (fa 0) g6 g7 (da 0) r6.1 ++ (w_Parser dA ya r4.2.1 ++ (w_Plan dA pa pl ++ (w_Plan dA db r4.2.2 ++ (w_Ride dA a (db 0) (db 1) r6.2.1 ++ (w_Films dA fa r6.2.2.1 ++ (w_Deals dA da h0 r6.2.2.2)))))))) (kb_rV (n := 0) (As := []) (rest := []) hx hb hml hown hK (c_X10_takeDraft l D dA H.size t pa db a fa da (ya 0) g4 g6 g7 h0 (pa 0) (pa 1) tp pl r4.2.2 rd fm de r6.1 r6.2.1 r6.2.2.1 r6.2.2.2 hc6) ⟨ww_3_172, ww_3_169, ww_3_171, ws_21, ww_1_1, rfl, by decide, by decide⟩ rfl rfl (by decide +kernel) ⟨Nat.le_of_ble_eq_true rfl, Nat.le_of_ble_eq_true rfl⟩ hP hD hS hA hE [0, 3, 4, 5, 6, 7, 8, 9, 10, 11, 12, 13, 14, 15, 16, 17, 18, 19, 20, 21, 22, 23, 24, 25, 26, 27, 28, 29, 30, 31, 32, 33, 34, 35, 36, 37, 38, 39, 40, 41, 42, 43, 44, 45, 46, 47, 48, 49, 50, 51, 52, 53, 54, 55, 56, 57, 58, 59, 60] rfl (by decide) 0 rfl rfl rfl hl.1 rfl (Nat.le_of_ble_eq_true rfl) dX10_bus_43 ⟨Nat.le_of_ble_eq_true rfl, Nat.le_of_ble_eq_true rfl⟩) hP hD hS hA [0, 3, 4, 5, 6, 7, 8, 9, 10, 11, 12, 13, 14, 15, 16, 17, 18, 19, 20, 21, 22, 23, 24, 25, 26, 27, 28, 29, 30, 31, 32, 33, 34, 35, 36, 37, 38, 39, 40, 41, 42, 43, 44, 45, 46, 47, 48, 49, 50, 51, 52, 53, 54, 55, 56, 57, 58, 59, 60] [1, 2] [2, 0, 1, 3, 4, 5, 6, 7, 8, 9, 10, 11, 12, 13, 14, 15, 16, 17, 18, 19, 20, 21, 22, 23, 24, 25, 26, 27, 28, 29, 30, 31, 32, 33, 34, 35, 36, 37, 38, 39, 40, 41, 42, 43, 44, 45, 46, 47, 48, 49, 50, 51, 52, 53, 54, 55, 56, 57, 58, 59, 60] rfl rfl (by decide) (by decide) rfl (by decide) (fun H locs hP hD hS => ?_)
          refine lv_aload_n hx hb dX10_bus_46 rfl (lv_at hl 0 rfl) ?_
          refine lv_aload_n hx hb dX10_bus_47 rfl (lv_at hl 0 rfl) ?_
          refine va_get (D := D) (ci := 10) (v := .ref (db 0)) (C := RX10) (T := TX10) (N := 12) hx hb hts kb_inX10 hown hK.1 hP 0 rfl rfl 1 (by decide) (hK.2.w ww_2_153 rfl _) (fun _ h9 => h9) rfl dX10_bus_48 ?_
          refine va_get (D := D) (ci := 5) (v := .int (pl_riderCount r4.2.2)) (C := RX5) (T := TX5) (N := 8) hx hb hts kb_inX5 hown hK.1 hP 24 rfl rfl 5 (by decide) (hK.2.w ww_1_236 rfl _) (fun _ h9 => h9) rfl dX10_bus_51 ?_
          obtain ⟨r7, hc7, hf⟩ := kb_bind hf
          refine kb_ci (ws2 := (w_Top dA t (ya 0) (db 0) (pa 0) (a 0) g4 (fa 0) g6 g7 (da 0) r7.2 ++ (w_Parser dA ya r4.2.1 ++ (w_Plan dA pa pl ++ (w_Plan dA db r4.2.2 ++ (w_Ride dA a (db 0) (db 1) r6.2.1 ++ (w_Films dA fa r6.2.2.1 ++ (w_Deals dA da h0 r6.2.2.2)))))))) (kb_rV (n := 1) (As := [.int (pl_riderCount r4.2.2)]) (rest := []) hx hb hml hown hK (c_X10_answered l D dA H.size t (ya 0) (db 0) (pa 0) (a 0) g4 (fa 0) g6 g7 (da 0) r6.1 (pl_riderCount r4.2.2) r7.1 r7.2 hc7) ⟨ww_3_184, ww_3_181, ww_3_183, ws_22, ww_1_1, rfl, by decide, by decide⟩ rfl rfl (by decide +kernel) ⟨Nat.le_of_ble_eq_true rfl, Nat.le_of_ble_eq_true rfl⟩ hP hD hS hA hE [0] rfl (by decide) 0 rfl rfl rfl hl.1 rfl (Nat.le_of_ble_eq_true rfl) dX10_bus_54 ⟨Nat.le_of_ble_eq_true rfl, Nat.le_of_ble_eq_true rfl⟩) hP hD hS hA [0] [1, 2, 3, 4, 5, 6, 7, 8, 9, 10, 11, 12, 13, 14, 15, 16, 17, 18, 19, 20, 21, 22, 23, 24, 25, 26, 27, 28, 29, 30, 31, 32, 33, 34, 35, 36, 37, 38, 39, 40, 41, 42, 43, 44, 45, 46, 47, 48, 49, 50, 51, 52, 53, 54, 55, 56, 57, 58, 59, 60] [60, 0, 1, 2, 3, 4, 5, 6, 7, 8, 9, 10, 11, 12, 13, 14, 15, 16, 17, 18, 19, 20, 21, 22, 23, 24, 25, 26, 27, 28, 29, 30, 31, 32, 33, 34, 35, 36, 37, 38, 39, 40, 41, 42, 43, 44, 45, 46, 47, 48, 49, 50, 51, 52, 53, 54, 55, 56, 57, 58, 59] rfl rfl (by decide) (by decide) rfl (by decide) (fun H locs hP hD hS => ?_)
          exact RET1 _ _ _ _ _ _ _ H _ ls 57 hf hP hD hS dX10_bus_57
        · rw [if_pos c_5] at hf
          refine lv_aload_n hx hb dX10_bus_36 rfl (lv_at hl 0 rfl) ?_
          refine lv_iconst (v := (4 : Int32)) hx hb dX10_bus_37 (by decide) ?_
          obtain ⟨r8, hc8, hf⟩ := kb_bind hf
          refine kb_ci (ws2 := (w_Top dA t (ya 0) (pa 0) (db 0) (a 0) g4 (fa 0) g6 g7 (da 0) r8.2 ++ (w_Parser dA ya r4.2.1 ++ (w_Plan dA pa pl ++ (w_Plan dA db r4.2.2 ++ (w_Ride dA a (pa 0) (pa 1) rd ++ (w_Films dA fa fm ++ (w_Deals dA da h0 de)))))))) (kb_rV (n := 1) (As := [.int (4 : Int32)]) (rest := []) hx hb hml hown hK (c_X10_refused l D dA H.size t (ya 0) (pa 0) (db 0) (a 0) g4 (fa 0) g6 g7 (da 0) tp (4 : Int32) r8.1 r8.2 hc8) ⟨ww_2_204, ww_2_201, ww_2_203, ws_0, ww_1_1, rfl, by decide, by decide⟩ rfl rfl (by decide +kernel) ⟨Nat.le_of_ble_eq_true rfl, Nat.le_of_ble_eq_true rfl⟩ hP hD hS hA hE [0] rfl (by decide) 0 rfl rfl rfl hl.1 rfl (Nat.le_of_ble_eq_true rfl) dX10_bus_38 ⟨Nat.le_of_ble_eq_true rfl, Nat.le_of_ble_eq_true rfl⟩) hP hD hS hA [0] [1, 2, 3, 4, 5, 6, 7, 8, 9, 10, 11, 12, 13, 14, 15, 16, 17, 18, 19, 20, 21, 22, 23, 24, 25, 26, 27, 28, 29, 30, 31, 32, 33, 34, 35, 36, 37, 38, 39, 40, 41, 42, 43, 44, 45, 46, 47, 48, 49, 50, 51, 52, 53, 54, 55, 56, 57, 58, 59, 60] [60, 0, 1, 2, 3, 4, 5, 6, 7, 8, 9, 10, 11, 12, 13, 14, 15, 16, 17, 18, 19, 20, 21, 22, 23, 24, 25, 26, 27, 28, 29, 30, 31, 32, 33, 34, 35, 36, 37, 38, 39, 40, 41, 42, 43, 44, 45, 46, 47, 48, 49, 50, 51, 52, 53, 54, 55, 56, 57, 58, 59] rfl rfl (by decide) (by decide) rfl (by decide) (fun H locs hP hD hS => ?_)
          exact RET0 _ _ _ _ _ _ _ H _ ls 41 hf hP hD hS dX10_bus_41
      · rw [if_neg c_3] at hf
        exact B_15 _ _ _ _ _ _ _ _ _ hf hP hD hS (lv_sub hl [0] rfl)
  exact E0 _ _ hP hD hS

set_option maxHeartbeats 4000000 in
set_option maxRecDepth 100000 in
theorem c_X10_bus_1 (l : Launch) (D : va_G) (dA : Nat → ClassId) (sz : Nat) (t : Nat → Nat) (ya : Nat → Nat) (pa : Nat → Nat) (db : Nat → Nat) (a : Nat → Nat) (fa : Nat → Nat) (da : Nat → Nat) (g4 : Nat) (g6 : Nat) (g7 : Nat) (h0 : Nat) (tp : TopT) (ps : ParserT) (pl : PlanT) (pd : PlanT) (rd : RideT) (fm : FilmsT) (de : DealsT) (x0 : Int32) (rv : Int32) (u0 : TopT) (u1 : ParserT) (u3 : PlanT) (u4 : RideT) (u5 : FilmsT) (u6 : DealsT) (hf : f_X10_bus tp ps pl pd rd fm de x0 = some (rv, u0, u1, u3, u4, u5, u6, 1)) : kb_Mi l yX10_bus cX10_bus 2 (some .int) ({ frames := 10, cells := 0, slots := 0, locals := 218 } : Room) D dA [.ref (t 0), .int x0] sz (w_Top dA t (ya 0) (pa 0) (db 0) (a 0) g4 (fa 0) g6 g7 (da 0) tp ++ (w_Parser dA ya ps ++ (w_Plan dA pa pl ++ (w_Plan dA db pd ++ (w_Ride dA a (pa 0) (pa 1) rd ++ (w_Films dA fa fm ++ (w_Deals dA da h0 de))))))) 0 0 rv (w_Top dA t (ya 0) (db 0) (pa 0) (a 0) g4 (fa 0) g6 g7 (da 0) u0 ++ (w_Parser dA ya u1 ++ (w_Plan dA pa pl ++ (w_Plan dA db u3 ++ (w_Ride dA a (db 0) (db 1) u4 ++ (w_Films dA fa u5 ++ (w_Deals dA da h0 u6))))))) := by
  refine Met.ofW (cc := cX10_bus) (maxL := 2) (ret := (some .int)) (by decide) rfl ?_
  intro p e s m args below meth c s₁ B hml hv
  obtain ⟨rfl, hsz, hP, hK, hD0, hE⟩ := hv
  have hx := B.exec
  have hb := B.bytes
  have hr := B.returns
  have hown : s.vm.findClass RX10 = some m.cls := findClass_of_methodNamed B.named
  have hlocks := B.notSynchronized
  have hts : ∀ w ∈ kb_gw, w.before ([.ref (t 0), .int x0] : List Value).toArray s = true := fun w hw => hK.2.1 w hw _
  subst hsz
  have hD := hD0.self (sz := s.heap.size)
  generalize hAe : va_A (w_Top dA t (ya 0) (pa 0) (db 0) (a 0) g4 (fa 0) g6 g7 (da 0) tp ++ (w_Parser dA ya ps ++ (w_Plan dA pa pl ++ (w_Plan dA db pd ++ (w_Ride dA a (pa 0) (pa 1) rd ++ (w_Films dA fa fm ++ (w_Deals dA da h0 de))))))) s.heap.size = A at hD hE ⊢
  have hA : ∀ q : Nat, s.heap.size ≤ q → A q := fun q h => by rw [← hAe]; exact Or.inr h
  have hS : va_S A s.heap s.heap [] := va_S.rf
  have hl := lv_entry ([.ref (t 0), .int x0]) (n := 2) (Nat.le_of_ble_eq_true rfl)
  rw [lg_entry_eq]
  generalize (lg_sl ([.ref (t 0), .int x0]) ++ List.replicate (2 - (lg_sl ([.ref (t 0), .int x0])).length) Slot.unset).toArray = ls at hl ⊢
  have hl : lv_has ls 2 [(0, .ref (t 0)), (1, .int x0)] := hl
  generalize hQ : MQ below (va_Qi (fun r (_ : Unit) => r = rv) (kb_B D A (w_Top dA t (ya 0) (db 0) (pa 0) (a 0) g4 (fa 0) g6 g7 (da 0) u0 ++ (w_Parser dA ya u1 ++ (w_Plan dA pa pl ++ (w_Plan dA db u3 ++ (w_Ride dA a (db 0) (db 1) u4 ++ (w_Films dA fa u5 ++ (w_Deals dA da h0 u6)))))))) A) ([.ref (t 0), .int x0] : List Value).toArray s 0 0 A = Q
  show W p l e ({ frames := 10, cells := 0, slots := 0, locals := 218 } : Room) s m ([.ref (t 0), .int x0] : List Value).toArray below meth c s.heap [] 0 0 Q (F0 m 0 ls [])
  have RET0 : ∀ (r2 : Int32) (w0 : TopT) (w1 : ParserT) (w3 : PlanT) (w4 : RideT) (w5 : FilmsT) (w6 : DealsT) (H : Heap) (locs : List Loc) (ls : Array Slot) (pc : Nat), some (r2, w0, w1, w3, w4, w5, w6, 0) = some (rv, u0, u1, u3, u4, u5, u6, 1) → va_P D vwCl (w_Top dA t (ya 0) (pa 0) (db 0) (a 0) g4 (fa 0) g6 g7 (da 0) w0 ++ (w_Parser dA ya w1 ++ (w_Plan dA pa pl ++ (w_Plan dA db w3 ++ (w_Ride dA a (pa 0) (pa 1) w4 ++ (w_Films dA fa w5 ++ (w_Deals dA da h0 w6))))))) H → va_D A (w_Top dA t (ya 0) (pa 0) (db 0) (a 0) g4 (fa 0) g6 g7 (da 0) w0 ++ (w_Parser dA ya w1 ++ (w_Plan dA pa pl ++ (w_Plan dA db w3 ++ (w_Ride dA a (pa 0) (pa 1) w4 ++ (w_Films dA fa w5 ++ (w_Deals dA da h0 w6))))))) → va_S A s.heap H locs → decode cX10_bus pc = .ok (.ireturn, 1) → W p l e ({ frames := 10, cells := 0, slots := 0, locals := 218 } : Room) s m ([.ref (t 0), .int x0] : List Value).toArray below meth c H locs 0 0 Q (F0 m pc ls [.int r2]) := by
    intro r2 w0 w1 w3 w4 w5 w6 H locs ls pc hq hP hD hS hd
    exact absurd hq (by simp)
  have RET1 : ∀ (r2 : Int32) (w0 : TopT) (w1 : ParserT) (w3 : PlanT) (w4 : RideT) (w5 : FilmsT) (w6 : DealsT) (H : Heap) (locs : List Loc) (ls : Array Slot) (pc : Nat), some (r2, w0, w1, w3, w4, w5, w6, 1) = some (rv, u0, u1, u3, u4, u5, u6, 1) → va_P D vwCl (w_Top dA t (ya 0) (db 0) (pa 0) (a 0) g4 (fa 0) g6 g7 (da 0) w0 ++ (w_Parser dA ya w1 ++ (w_Plan dA pa pl ++ (w_Plan dA db w3 ++ (w_Ride dA a (db 0) (db 1) w4 ++ (w_Films dA fa w5 ++ (w_Deals dA da h0 w6))))))) H → va_D A (w_Top dA t (ya 0) (db 0) (pa 0) (a 0) g4 (fa 0) g6 g7 (da 0) w0 ++ (w_Parser dA ya w1 ++ (w_Plan dA pa pl ++ (w_Plan dA db w3 ++ (w_Ride dA a (db 0) (db 1) w4 ++ (w_Films dA fa w5 ++ (w_Deals dA da h0 w6))))))) → va_S A s.heap H locs → decode cX10_bus pc = .ok (.ireturn, 1) → W p l e ({ frames := 10, cells := 0, slots := 0, locals := 218 } : Room) s m ([.ref (t 0), .int x0] : List Value).toArray below meth c H locs 0 0 Q (F0 m pc ls [.int r2]) := by
    intro r2 w0 w1 w3 w4 w5 w6 H locs ls pc hq hP hD hS hd
    cases hq
    rw [← hQ]
    exact W.iret hx hb hr (fun t ht hW => ⟨⟨_, (), rfl, rfl, by rw [ht]; exact hP, hD⟩, hS.F ht⟩) hS.2.2 hd
  have B_15 : ∀ (z0 : TopT) (z1 : ParserT) (z3 : PlanT) (z4 : RideT) (z5 : FilmsT) (z6 : DealsT) (H : Heap) (locs : List Loc) (ls : Array Slot), f_X10_bus_b15 pl z0 z1 z3 z4 z5 z6 = some (rv, u0, u1, u3, u4, u5, u6, 1) → va_P D vwCl (w_Top dA t (ya 0) (pa 0) (db 0) (a 0) g4 (fa 0) g6 g7 (da 0) z0 ++ (w_Parser dA ya z1 ++ (w_Plan dA pa pl ++ (w_Plan dA db z3 ++ (w_Ride dA a (pa 0) (pa 1) z4 ++ (w_Films dA fa z5 ++ (w_Deals dA da h0 z6))))))) H → va_D A (w_Top dA t (ya 0) (pa 0) (db 0) (a 0) g4 (fa 0) g6 g7 (da 0) z0 ++ (w_Parser dA ya z1 ++ (w_Plan dA pa pl ++ (w_Plan dA db z3 ++ (w_Ride dA a (pa 0) (pa 1) z4 ++ (w_Films dA fa z5 ++ (w_Deals dA da h0 z6))))))) → va_S A s.heap H locs → lv_has ls 2 [(0, .ref (t 0))] → W p l e ({ frames := 10, cells := 0, slots := 0, locals := 218 } : Room) s m ([.ref (t 0), .int x0] : List Value).toArray below meth c H locs 0 0 Q (F0 m 15 ls []) := by
    intro z0 z1 z3 z4 z5 z6 H locs ls hf hP hD hS hl
    rw [f_X10_bus_b15] at hf
    refine lv_aload_n hx hb dX10_bus_15 rfl (lv_at hl 0 rfl) ?_
    refine lv_iconst (v := (2 : Int32)) hx hb dX10_bus_16 (by decide) ?_
    obtain ⟨r2, hc2, hf⟩ := kb_bind hf
    refine kb_ci (ws2 := (w_Top dA t (ya 0) (pa 0) (db 0) (a 0) g4 (fa 0) g6 g7 (da 0) r2.2 ++ (w_Parser dA ya z1 ++ (w_Plan dA pa pl ++ (w_Plan dA db z3 ++ (w_Ride dA a (pa 0) (pa 1) z4 ++ (w_Films dA fa z5 ++ (w_Deals dA da h0 z6)))))))) (kb_rV (n := 1) (As := [.int (2 : Int32)]) (rest := []) hx hb hml hown hK (c_X10_refused l D dA H.size t (ya 0) (pa 0) (db 0) (a 0) g4 (fa 0) g6 g7 (da 0) z0 (2 : Int32) r2.1 r2.2 hc2) ⟨ww_2_204, ww_2_201, ww_2_203, ws_0, ww_1_1, rfl, by decide, by decide⟩ rfl rfl (by decide +kernel) ⟨Nat.le_of_ble_eq_true rfl, Nat.le_of_ble_eq_true rfl⟩ hP hD hS hA hE [0] rfl (by decide) 0 rfl rfl rfl hl.1 rfl (Nat.le_of_ble_eq_true rfl) dX10_bus_17 ⟨Nat.le_of_ble_eq_true rfl, Nat.le_of_ble_eq_true rfl⟩) hP hD hS hA [0] [1, 2, 3, 4, 5, 6, 7, 8, 9, 10, 11, 12, 13, 14, 15, 16, 17, 18, 19, 20, 21, 22, 23, 24, 25, 26, 27, 28, 29, 30, 31, 32, 33, 34, 35, 36, 37, 38, 39, 40, 41, 42, 43, 44, 45, 46, 47, 48, 49, 50, 51, 52, 53, 54, 55, 56, 57, 58, 59, 60] [60, 0, 1, 2, 3, 4, 5, 6, 7, 8, 9, 10, 11, 12, 13, 14, 15, 16, 17, 18, 19, 20, 21, 22, 23, 24, 25, 26, 27, 28, 29, 30, 31, 32, 33, 34, 35, 36, 37, 38, 39, 40, 41, 42, 43, 44, 45, 46, 47, 48, 49, 50, 51, 52, 53, 54, 55, 56, 57, 58, 59] rfl rfl (by decide) (by decide) rfl (by decide) (fun H locs hP hD hS => ?_)
    exact RET0 _ _ _ _ _ _ _ H _ ls 20 hf hP hD hS dX10_bus_20
  have E0 : ∀ (H : Heap) (locs : List Loc), va_P D vwCl (w_Top dA t (ya 0) (pa 0) (db 0) (a 0) g4 (fa 0) g6 g7 (da 0) tp ++ (w_Parser dA ya ps ++ (w_Plan dA pa pl ++ (w_Plan dA db pd ++ (w_Ride dA a (pa 0) (pa 1) rd ++ (w_Films dA fa fm ++ (w_Deals dA da h0 de))))))) H → va_D A (w_Top dA t (ya 0) (pa 0) (db 0) (a 0) g4 (fa 0) g6 g7 (da 0) tp ++ (w_Parser dA ya ps ++ (w_Plan dA pa pl ++ (w_Plan dA db pd ++ (w_Ride dA a (pa 0) (pa 1) rd ++ (w_Films dA fa fm ++ (w_Deals dA da h0 de))))))) → va_S A s.heap H locs → W p l e ({ frames := 10, cells := 0, slots := 0, locals := 218 } : Room) s m ([.ref (t 0), .int x0] : List Value).toArray below meth c H locs 0 0 Q (F0 m 0 ls []) := by
    intro H locs hP hD hS
    rw [f_X10_bus] at hf
    refine lv_iload_n hx hb dX10_bus_0 rfl (lv_at hl 1 rfl) ?_
    refine lv_if_lt (tgt := 15) hx hb dX10_bus_1 (by decide) (fun c_1 => ?_) (fun c_1 => ?_)
    · rw [if_pos c_1] at hf
      exact B_15 _ _ _ _ _ _ _ _ _ hf hP hD hS (lv_sub hl [0] rfl)
    · rw [if_neg c_1] at hf
      refine lv_iload_n hx hb dX10_bus_4 rfl (lv_at hl 1 rfl) ?_
      refine lv_aload_n hx hb dX10_bus_5 rfl (lv_at hl 0 rfl) ?_
      refine va_get (D := D) (ci := 10) (v := .ref (ya 0)) (C := RX10) (T := TX10) (N := 12) hx hb hts kb_inX10 hown hK.1 hP 0 rfl rfl 0 (by decide) (hK.2.w ww_2_152 rfl _) (fun _ h9 => h9) rfl dX10_bus_6 ?_
      refine va_get (D := D) (ci := 4) (v := .int (ps_length ps)) (C := RX4) (T := TX4) (N := 10) hx hb hts kb_inX4 hown hK.1 hP 1 rfl rfl 0 (by decide) (hK.2.w ww_1_39 rfl _) (fun _ h9 => h9) rfl dX10_bus_9 ?_
      refine lv_icmp_le (tgt := 21) hx hb dX10_bus_12 (by decide) (fun c_3 => ?_) (fun c_3 => ?_)
      · rw [if_pos c_3] at hf
        refine lv_aload_n hx hb dX10_bus_21 rfl (lv_at hl 0 rfl) ?_
        refine va_get (D := D) (ci := 10) (v := .ref (ya 0)) (C := RX10) (T := TX10) (N := 12) hx hb hts kb_inX10 hown hK.1 hP 0 rfl rfl 0 (by decide) (hK.2.w ww_2_152 rfl _) (fun _ h9 => h9) rfl dX10_bus_22 ?_
        refine lv_aload_n hx hb dX10_bus_25 rfl (lv_at hl 0 rfl) ?_
        refine va_get (D := D) (ci := 10) (v := .ref (db 0)) (C := RX10) (T := TX10) (N := 12) hx hb hts kb_inX10 hown hK.1 hP 0 rfl rfl 2 (by decide) (hK.2.w ww_2_154 rfl _) (fun _ h9 => h9) rfl dX10_bus_26 ?_
        refine lv_iload_n hx hb dX10_bus_29 rfl (lv_at hl 1 rfl) ?_
        obtain ⟨r4, hc4, hf⟩ := kb_bind hf
        refine kb_ci (ws2 := (w_Top dA t (ya 0) (pa 0) (db 0) (a 0) g4 (fa 0) g6 g7 (da 0) tp ++ (w_Parser dA ya r4.2.1 ++ (w_Plan dA pa pl ++ (w_Plan dA db r4.2.2 ++ (w_Ride dA a (pa 0) (pa 1) rd ++ (w_Films dA fa fm ++ (w_Deals dA da h0 de)))))))) (kb_rV (n := 2) (As := [.ref (db 0), .int x0]) (rest := []) hx hb hml hown hK (c_X4_read l D dA H.size ya db ps pd x0 r4.1 r4.2.1 r4.2.2 hc4) ⟨ww_2_208, ww_2_205, ww_2_206, ww_2_207, ww_1_2, rfl, by decide, by decide⟩ rfl rfl (by decide +kernel) ⟨Nat.le_of_ble_eq_true rfl, Nat.le_of_ble_eq_true rfl⟩ hP hD hS hA hE [1, 2, 24, 25, 26, 27, 28, 29, 30, 31, 32, 33, 34, 35, 36, 37, 38, 39, 40, 41, 42, 43, 44] rfl (by decide) 0 rfl rfl rfl hl.1 rfl (Nat.le_of_ble_eq_true rfl) dX10_bus_30 ⟨Nat.le_of_ble_eq_true rfl, Nat.le_of_ble_eq_true rfl⟩) hP hD hS hA [1, 2, 24, 25, 26, 27, 28, 29, 30, 31, 32, 33, 34, 35, 36, 37, 38, 39, 40, 41, 42, 43, 44] [0, 3, 4, 5, 6, 7, 8, 9, 10, 11, 12, 13, 14, 15, 16, 17, 18, 19, 20, 21, 22, 23, 45, 46, 47, 48, 49, 50, 51, 52, 53, 54, 55, 56, 57, 58, 59, 60] [0, 38, 39, 1, 2, 3, 4, 5, 6, 7, 8, 9, 10, 11, 12, 13, 14, 15, 16, 17, 18, 19, 20, 21, 40, 41, 42, 43, 44, 45, 46, 47, 48, 49, 50, 51, 52, 53, 54, 55, 56, 57, 58, 59, 60, 22, 23, 24, 25, 26, 27, 28, 29, 30, 31, 32, 33, 34, 35, 36, 37] rfl rfl (by decide) (by decide) rfl (by decide) (fun H locs hP hD hS => ?_)
        refine lv_if_ne (tgt := 42) hx hb dX10_bus_33 (by decide) (fun c_5 => ?_) (fun c_5 => ?_)
        · rw [if_neg c_5] at hf
          refine lv_aload_n hx hb dX10_bus_42 rfl (lv_at hl 0 rfl) ?_
          obtain ⟨r6, hc6, hf⟩ := kb_bind hf
          refine kb_cv (ws2 := (w_Top dA t (ya 0) (db 0) (pa 0) (a 0) g4 (fa 0) g6 g7 (da 0) r6.1 ++ (w_Parser dA ya r4.2.1 ++ (w_Plan dA pa pl ++ (w_Plan dA db r4.2.2 ++ (w_Ride dA a (db 0) (db 1) r6.2.1 ++ (w_Films dA fa r6.2.2.1 ++ (w_Deals dA da h0 r6.2.2.2)))))))) (kb_rV (n := 0) (As := []) (rest := []) hx hb hml hown hK (c_X10_takeDraft l D dA H.size t pa db a fa da (ya 0) g4 g6 g7 h0 (pa 0) (pa 1) tp pl r4.2.2 rd fm de r6.1 r6.2.1 r6.2.2.1 r6.2.2.2 hc6) ⟨ww_3_172, ww_3_169, ww_3_171, ws_21, ww_1_1, rfl, by decide, by decide⟩ rfl rfl (by decide +kernel) ⟨Nat.le_of_ble_eq_true rfl, Nat.le_of_ble_eq_true rfl⟩ hP hD hS hA hE [0, 3, 4, 5, 6, 7, 8, 9, 10, 11, 12, 13, 14, 15, 16, 17, 18, 19, 20, 21, 22, 23, 24, 25, 26, 27, 28, 29, 30, 31, 32, 33, 34, 35, 36, 37, 38, 39, 40, 41, 42, 43, 44, 45, 46, 47, 48, 49, 50, 51, 52, 53, 54, 55, 56, 57, 58, 59, 60] rfl (by decide) 0 rfl rfl rfl hl.1 rfl (Nat.le_of_ble_eq_true rfl) dX10_bus_43 ⟨Nat.le_of_ble_eq_true rfl, Nat.le_of_ble_eq_true rfl⟩) hP hD hS hA [0, 3, 4, 5, 6, 7, 8, 9, 10, 11, 12, 13, 14, 15, 16, 17, 18, 19, 20, 21, 22, 23, 24, 25, 26, 27, 28, 29, 30, 31, 32, 33, 34, 35, 36, 37, 38, 39, 40, 41, 42, 43, 44, 45, 46, 47, 48, 49, 50, 51, 52, 53, 54, 55, 56, 57, 58, 59, 60] [1, 2] [2, 0, 1, 3, 4, 5, 6, 7, 8, 9, 10, 11, 12, 13, 14, 15, 16, 17, 18, 19, 20, 21, 22, 23, 24, 25, 26, 27, 28, 29, 30, 31, 32, 33, 34, 35, 36, 37, 38, 39, 40, 41, 42, 43, 44, 45, 46, 47, 48, 49, 50, 51, 52, 53, 54, 55, 56, 57, 58, 59, 60] rfl rfl (by decide) (by decide) rfl (by decide) (fun H locs hP hD hS => ?_)
          refine lv_aload_n hx hb dX10_bus_46 rfl (lv_at hl 0 rfl) ?_
          refine lv_aload_n hx hb dX10_bus_47 rfl (lv_at hl 0 rfl) ?_
          refine va_get (D := D) (ci := 10) (v := .ref (db 0)) (C := RX10) (T := TX10) (N := 12) hx hb hts kb_inX10 hown hK.1 hP 0 rfl rfl 1 (by decide) (hK.2.w ww_2_153 rfl _) (fun _ h9 => h9) rfl dX10_bus_48 ?_
          refine va_get (D := D) (ci := 5) (v := .int (pl_riderCount r4.2.2)) (C := RX5) (T := TX5) (N := 8) hx hb hts kb_inX5 hown hK.1 hP 24 rfl rfl 5 (by decide) (hK.2.w ww_1_236 rfl _) (fun _ h9 => h9) rfl dX10_bus_51 ?_
          obtain ⟨r7, hc7, hf⟩ := kb_bind hf
          refine kb_ci (ws2 := (w_Top dA t (ya 0) (db 0) (pa 0) (a 0) g4 (fa 0) g6 g7 (da 0) r7.2 ++ (w_Parser dA ya r4.2.1 ++ (w_Plan dA pa pl ++ (w_Plan dA db r4.2.2 ++ (w_Ride dA a (db 0) (db 1) r6.2.1 ++ (w_Films dA fa r6.2.2.1 ++ (w_Deals dA da h0 r6.2.2.2)))))))) (kb_rV (n := 1) (As := [.int (pl_riderCount r4.2.2)]) (rest := []) hx hb hml hown hK (c_X10_answered l D dA H.size t (ya 0) (db 0) (pa 0) (a 0) g4 (fa 0) g6 g7 (da 0) r6.1 (pl_riderCount r4.2.2) r7.1 r7.2 hc7) ⟨ww_3_184, ww_3_181, ww_3_183, ws_22, ww_1_1, rfl, by decide, by decide⟩ rfl rfl (by decide +kernel) ⟨Nat.le_of_ble_eq_true rfl, Nat.le_of_ble_eq_true rfl⟩ hP hD hS hA hE [0] rfl (by decide) 0 rfl rfl rfl hl.1 rfl (Nat.le_of_ble_eq_true rfl) dX10_bus_54 ⟨Nat.le_of_ble_eq_true rfl, Nat.le_of_ble_eq_true rfl⟩) hP hD hS hA [0] [1, 2, 3, 4, 5, 6, 7, 8, 9, 10, 11, 12, 13, 14, 15, 16, 17, 18, 19, 20, 21, 22, 23, 24, 25, 26, 27, 28, 29, 30, 31, 32, 33, 34, 35, 36, 37, 38, 39, 40, 41, 42, 43, 44, 45, 46, 47, 48, 49, 50, 51, 52, 53, 54, 55, 56, 57, 58, 59, 60] [60, 0, 1, 2, 3, 4, 5, 6, 7, 8, 9, 10, 11, 12, 13, 14, 15, 16, 17, 18, 19, 20, 21, 22, 23, 24, 25, 26, 27, 28, 29, 30, 31, 32, 33, 34, 35, 36, 37, 38, 39, 40, 41, 42, 43, 44, 45, 46, 47, 48, 49, 50, 51, 52, 53, 54, 55, 56, 57, 58, 59] rfl rfl (by decide) (by decide) rfl (by decide) (fun H locs hP hD hS => ?_)
          exact RET1 _ _ _ _ _ _ _ H _ ls 57 hf hP hD hS dX10_bus_57
        · rw [if_pos c_5] at hf
          refine lv_aload_n hx hb dX10_bus_36 rfl (lv_at hl 0 rfl) ?_
          refine lv_iconst (v := (4 : Int32)) hx hb dX10_bus_37 (by decide) ?_
          obtain ⟨r8, hc8, hf⟩ := kb_bind hf
          refine kb_ci (ws2 := (w_Top dA t (ya 0) (pa 0) (db 0) (a 0) g4 (fa 0) g6 g7 (da 0) r8.2 ++ (w_Parser dA ya r4.2.1 ++ (w_Plan dA pa pl ++ (w_Plan dA db r4.2.2 ++ (w_Ride dA a (pa 0) (pa 1) rd ++ (w_Films dA fa fm ++ (w_Deals dA da h0 de)))))))) (kb_rV (n := 1) (As := [.int (4 : Int32)]) (rest := []) hx hb hml hown hK (c_X10_refused l D dA H.size t (ya 0) (pa 0) (db 0) (a 0) g4 (fa 0) g6 g7 (da 0) tp (4 : Int32) r8.1 r8.2 hc8) ⟨ww_2_204, ww_2_201, ww_2_203, ws_0, ww_1_1, rfl, by decide, by decide⟩ rfl rfl (by decide +kernel) ⟨Nat.le_of_ble_eq_true rfl, Nat.le_of_ble_eq_true rfl⟩ hP hD hS hA hE [0] rfl (by decide) 0 rfl rfl rfl hl.1 rfl (Nat.le_of_ble_eq_true rfl) dX10_bus_38 ⟨Nat.le_of_ble_eq_true rfl, Nat.le_of_ble_eq_true rfl⟩) hP hD hS hA [0] [1, 2, 3, 4, 5, 6, 7, 8, 9, 10, 11, 12, 13, 14, 15, 16, 17, 18, 19, 20, 21, 22, 23, 24, 25, 26, 27, 28, 29, 30, 31, 32, 33, 34, 35, 36, 37, 38, 39, 40, 41, 42, 43, 44, 45, 46, 47, 48, 49, 50, 51, 52, 53, 54, 55, 56, 57, 58, 59, 60] [60, 0, 1, 2, 3, 4, 5, 6, 7, 8, 9, 10, 11, 12, 13, 14, 15, 16, 17, 18, 19, 20, 21, 22, 23, 24, 25, 26, 27, 28, 29, 30, 31, 32, 33, 34, 35, 36, 37, 38, 39, 40, 41, 42, 43, 44, 45, 46, 47, 48, 49, 50, 51, 52, 53, 54, 55, 56, 57, 58, 59] rfl rfl (by decide) (by decide) rfl (by decide) (fun H locs hP hD hS => ?_)
          exact RET0 _ _ _ _ _ _ _ H _ ls 41 hf hP hD hS dX10_bus_41
      · rw [if_neg c_3] at hf
        exact B_15 _ _ _ _ _ _ _ _ _ hf hP hD hS (lv_sub hl [0] rfl)
  exact E0 _ _ hP hD hS
