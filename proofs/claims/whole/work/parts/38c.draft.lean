noncomputable def f_X10_takeDraft_b55 (pl : PlanT) (pd : PlanT) (z0 : TopT) (z3 : RideT) (z4 : FilmsT) (z5 : DealsT) : Option (TopT × RideT × FilmsT × DealsT) := some (z0, z3, z4, z5)
noncomputable def f_X10_takeDraft_b47 (pl : PlanT) (pd : PlanT) (z0 : TopT) (z3 : RideT) (z4 : FilmsT) (z5 : DealsT) : Option (TopT × RideT × FilmsT × DealsT) := f_X10_takeDraft_b55 pl pd z0 z3 z4 (de_set_counted z5 (0 : Int32))
noncomputable def f_X10_takeDraft_b39 (pl : PlanT) (pd : PlanT) (z0 : TopT) (z3 : RideT) (z4 : FilmsT) (z5 : DealsT) : Option (TopT × RideT × FilmsT × DealsT) := f_X10_takeDraft_b47 pl pd z0 z3 (fm_set_count z4 (0 : Int32)) z5
noncomputable def f_X10_takeDraft_b34 (pl : PlanT) (pd : PlanT) (z0 : TopT) (z3 : RideT) (z4 : FilmsT) (z5 : DealsT) : Option (TopT × RideT × FilmsT × DealsT) := f_X10_takeDraft_b39 pl pd (tp_set_markCount z0 (0 : Int32)) z3 z4 z5
noncomputable def f_X10_takeDraft_b23 (pl : PlanT) (pd : PlanT) (z0 : TopT) (z3 : RideT) (z4 : FilmsT) (z5 : DealsT) : Option (TopT × RideT × FilmsT × DealsT) := (f_X6_begin z3 pd).bind fun r1 => f_X10_takeDraft_b34 pl pd z0 r1 z4 z5
noncomputable def f_X10_takeDraft (tp : TopT) (pl : PlanT) (pd : PlanT) (rd : RideT) (fm : FilmsT) (de : DealsT) : Option (TopT × RideT × FilmsT × DealsT) := f_X10_takeDraft_b23 pl pd (tp_set_hasBus tp (1 : Int32)) rd fm de
set_option maxHeartbeats 4000000 in
set_option maxRecDepth 100000 in
theorem c_X10_takeDraft (l : Launch) (D : va_G) (dA : Nat → ClassId) (sz : Nat) (t : Nat → Nat) (pa : Nat → Nat) (db : Nat → Nat) (a : Nat → Nat) (fa : Nat → Nat) (da : Nat → Nat) (g0 : Nat) (g4 : Nat) (g6 : Nat) (g7 : Nat) (h0 : Nat) (h1 : Nat) (h2 : Nat) (tp : TopT) (pl : PlanT) (pd : PlanT) (rd : RideT) (fm : FilmsT) (de : DealsT) (u0 : TopT) (u3 : RideT) (u4 : FilmsT) (u5 : DealsT) (hf : f_X10_takeDraft tp pl pd rd fm de = some (u0, u3, u4, u5)) : kb_Mv l yX10_takeDraft cX10_takeDraft 2 none ({ frames := 2, cells := 0, slots := 0, locals := 44 } : Room) D dA [.ref (t 0)] sz (w_Top dA t g0 (pa 0) (db 0) (a 0) g4 (fa 0) g6 g7 (da 0) tp ++ (w_Plan dA pa pl ++ (w_Plan dA db pd ++ (w_Ride dA a h1 h2 rd ++ (w_Films dA fa fm ++ (w_Deals dA da h0 de)))))) 0 0 (w_Top dA t g0 (db 0) (pa 0) (a 0) g4 (fa 0) g6 g7 (da 0) u0 ++ (w_Plan dA pa pl ++ (w_Plan dA db pd ++ (w_Ride dA a (db 0) (db 1) u3 ++ (w_Films dA fa u4 ++ (w_Deals dA da h0 u5)))))) := by
  refine Met.ofW (cc := cX10_takeDraft) (maxL := 2) (ret := none) (by decide) rfl ?_
  intro p e s m args below meth c s₁ B hml hv
  obtain ⟨rfl, hsz, hP, hK, hD0, hE⟩ := hv
  have hx := B.exec
  have hb := B.bytes
  have hr := B.returns
  have hown : s.vm.findClass RX10 = some m.cls := findClass_of_methodNamed B.named
  have hlocks := B.notSynchronized
  have hts : ∀ w ∈ kb_gw, w.before ([.ref (t 0)] : List Value).toArray s = true := fun w hw => hK.2.1 w hw _
  subst hsz
  have hD := hD0.self (sz := s.heap.size)
  generalize hAe : va_A (w_Top dA t g0 (pa 0) (db 0) (a 0) g4 (fa 0) g6 g7 (da 0) tp ++ (w_Plan dA pa pl ++ (w_Plan dA db pd ++ (w_Ride dA a h1 h2 rd ++ (w_Films dA fa fm ++ (w_Deals dA da h0 de)))))) s.heap.size = A at hD hE ⊢
  have hA : ∀ q : Nat, s.heap.size ≤ q → A q := fun q h => by rw [← hAe]; exact Or.inr h
  have hS : va_S A s.heap s.heap [] := va_S.rf
  have hl := lv_entry ([.ref (t 0)]) (n := 2) (Nat.le_of_ble_eq_true rfl)
  rw [lg_entry_eq]
  generalize (lg_sl ([.ref (t 0)]) ++ List.replicate (2 - (lg_sl ([.ref (t 0)])).length) Slot.unset).toArray = ls at hl ⊢
  have hl : lv_has ls 2 [(0, .ref (t 0))] := hl
  generalize hQ : MQ below (va_Qv (fun (_ : Unit) => True) (kb_B D A (w_Top dA t g0 (db 0) (pa 0) (a 0) g4 (fa 0) g6 g7 (da 0) u0 ++ (w_Plan dA pa pl ++ (w_Plan dA db pd ++ (w_Ride dA a (db 0) (db 1) u3 ++ (w_Films dA fa u4 ++ (w_Deals dA da h0 u5))))))) A) ([.ref (t 0)] : List Value).toArray s 0 0 A = Q
  show W p l e ({ frames := 2, cells := 0, slots := 0, locals := 44 } : Room) s m ([.ref (t 0)] : List Value).toArray below meth c s.heap [] 0 0 Q (F0 m 0 ls [])
  have RET : ∀ (w0 : TopT) (w3 : RideT) (w4 : FilmsT) (w5 : DealsT) (H : Heap) (locs : List Loc) (ls : Array Slot) (pc : Nat), some (w0, w3, w4, w5) = some (u0, u3, u4, u5) → va_P D vwCl (w_Top dA t g0 (db 0) (pa 0) (a 0) g4 (fa 0) g6 g7 (da 0) w0 ++ (w_Plan dA pa pl ++ (w_Plan dA db pd ++ (w_Ride dA a (db 0) (db 1) w3 ++ (w_Films dA fa w4 ++ (w_Deals dA da h0 w5)))))) H → va_D A (w_Top dA t g0 (db 0) (pa 0) (a 0) g4 (fa 0) g6 g7 (da 0) w0 ++ (w_Plan dA pa pl ++ (w_Plan dA db pd ++ (w_Ride dA a (db 0) (db 1) w3 ++ (w_Films dA fa w4 ++ (w_Deals dA da h0 w5)))))) → va_S A s.heap H locs → decode cX10_takeDraft pc = .ok (.return_, 1) → W p l e ({ frames := 2, cells := 0, slots := 0, locals := 44 } : Room) s m ([.ref (t 0)] : List Value).toArray below meth c H locs 0 0 Q (F0 m pc ls []) := by
    intro w0 w3 w4 w5 H locs ls pc hq hP hD hS hd
    cases hq
    rw [← hQ]
    exact W.vret hx hb hr (fun t ht hW => ⟨⟨(), rfl, trivial, by rw [ht]; exact hP, hD⟩, hS.F ht⟩) hS.2.2 hd
  have B_55 : ∀ (z0 : TopT) (z3 : RideT) (z4 : FilmsT) (z5 : DealsT) (H : Heap) (locs : List Loc) (ls : Array Slot), f_X10_takeDraft_b55 pl pd z0 z3 z4 z5 = some (u0, u3, u4, u5) → va_P D vwCl (w_Top dA t g0 (db 0) (pa 0) (a 0) g4 (fa 0) g6 g7 (da 0) z0 ++ (w_Plan dA pa pl ++ (w_Plan dA db pd ++ (w_Ride dA a (db 0) (db 1) z3 ++ (w_Films dA fa z4 ++ (w_Deals dA da h0 z5)))))) H → va_D A (w_Top dA t g0 (db 0) (pa 0) (a 0) g4 (fa 0) g6 g7 (da 0) z0 ++ (w_Plan dA pa pl ++ (w_Plan dA db pd ++ (w_Ride dA a (db 0) (db 1) z3 ++ (w_Films dA fa z4 ++ (w_Deals dA da h0 z5)))))) → va_S A s.heap H locs → lv_has ls 2 [] → W p l e ({ frames := 2, cells := 0, slots := 0, locals := 44 } : Room) s m ([.ref (t 0)] : List Value).toArray below meth c H locs 0 0 Q (F0 m 55 ls []) := by
    intro z0 z3 z4 z5 H locs ls hf hP hD hS hl
    rw [f_X10_takeDraft_b55] at hf
    exact RET _ _ _ _ H _ ls 55 hf hP hD hS dX10_takeDraft_55
  have B_47 : ∀ (z0 : TopT) (z3 : RideT) (z4 : FilmsT) (z5 : DealsT) (H : Heap) (locs : List Loc) (ls : Array Slot), f_X10_takeDraft_b47 pl pd z0 z3 z4 z5 = some (u0, u3, u4, u5) → va_P D vwCl (w_Top dA t g0 (db 0) (pa 0) (a 0) g4 (fa 0) g6 g7 (da 0) z0 ++ (w_Plan dA pa pl ++ (w_Plan dA db pd ++ (w_Ride dA a (db 0) (db 1) z3 ++ (w_Films dA fa z4 ++ (w_Deals dA da h0 z5)))))) H → va_D A (w_Top dA t g0 (db 0) (pa 0) (a 0) g4 (fa 0) g6 g7 (da 0) z0 ++ (w_Plan dA pa pl ++ (w_Plan dA db pd ++ (w_Ride dA a (db 0) (db 1) z3 ++ (w_Films dA fa z4 ++ (w_Deals dA da h0 z5)))))) → va_S A s.heap H locs → lv_has ls 2 [(0, .ref (t 0))] → W p l e ({ frames := 2, cells := 0, slots := 0, locals := 44 } : Room) s m ([.ref (t 0)] : List Value).toArray below meth c H locs 0 0 Q (F0 m 47 ls []) := by
    intro z0 z3 z4 z5 H locs ls hf hP hD hS hl
    rw [f_X10_takeDraft_b47] at hf
    refine lv_aload_n hx hb dX10_takeDraft_47 rfl (lv_at hl 0 rfl) ?_
    refine va_get (D := D) (ci := 10) (v := .ref (da 0)) (C := RX10) (T := TX10) (N := 12) hx hb hts kb_inX10 hown hK.1 hP 0 rfl rfl 10 (by decide) (hK.2.w ww_2_162 rfl _) (fun _ h9 => h9) rfl dX10_takeDraft_48 ?_
    refine lv_iconst (v := (0 : Int32)) hx hb dX10_takeDraft_51 (by decide) ?_
    refine va_put (D := D) (ci := 1) (v := .int (0 : Int32)) (ty := .boolean) (C := RX1) (T := TX1) (N := 5) hx hb hts kb_inX1 tyX1 tyX1_ok nmX1 hown hK.1 hP hD hS 55 rfl rfl 0 (by decide) (hK.2.w ww_2_134 rfl _) (fun _ h9 => h9) rfl (by decide +kernel) rfl rfl (Nat.le_of_ble_eq_true rfl) dX10_takeDraft_52 (fun H locs hP hD hS => ?_)
    have hP : va_P D vwCl (w_Top dA t g0 (db 0) (pa 0) (a 0) g4 (fa 0) g6 g7 (da 0) z0 ++ (w_Plan dA pa pl ++ (w_Plan dA db pd ++ (w_Ride dA a (db 0) (db 1) z3 ++ (w_Films dA fa z4 ++ (w_Deals dA da h0 (de_set_counted z5 (0 : Int32)))))))) H := hP
    have hD : va_D A (w_Top dA t g0 (db 0) (pa 0) (a 0) g4 (fa 0) g6 g7 (da 0) z0 ++ (w_Plan dA pa pl ++ (w_Plan dA db pd ++ (w_Ride dA a (db 0) (db 1) z3 ++ (w_Films dA fa z4 ++ (w_Deals dA da h0 (de_set_counted z5 (0 : Int32)))))))) := hD
    exact B_55 _ _ _ _ _ _ _ hf hP hD hS (lv_sub hl [] rfl)
  have B_39 : ∀ (z0 : TopT) (z3 : RideT) (z4 : FilmsT) (z5 : DealsT) (H : Heap) (locs : List Loc) (ls : Array Slot), f_X10_takeDraft_b39 pl pd z0 z3 z4 z5 = some (u0, u3, u4, u5) → va_P D vwCl (w_Top dA t g0 (db 0) (pa 0) (a 0) g4 (fa 0) g6 g7 (da 0) z0 ++ (w_Plan dA pa pl ++ (w_Plan dA db pd ++ (w_Ride dA a (db 0) (db 1) z3 ++ (w_Films dA fa z4 ++ (w_Deals dA da h0 z5)))))) H → va_D A (w_Top dA t g0 (db 0) (pa 0) (a 0) g4 (fa 0) g6 g7 (da 0) z0 ++ (w_Plan dA pa pl ++ (w_Plan dA db pd ++ (w_Ride dA a (db 0) (db 1) z3 ++ (w_Films dA fa z4 ++ (w_Deals dA da h0 z5)))))) → va_S A s.heap H locs → lv_has ls 2 [(0, .ref (t 0))] → W p l e ({ frames := 2, cells := 0, slots := 0, locals := 44 } : Room) s m ([.ref (t 0)] : List Value).toArray below meth c H locs 0 0 Q (F0 m 39 ls []) := by
    intro z0 z3 z4 z5 H locs ls hf hP hD hS hl
    rw [f_X10_takeDraft_b39] at hf
    refine lv_aload_n hx hb dX10_takeDraft_39 rfl (lv_at hl 0 rfl) ?_
    refine va_get (D := D) (ci := 10) (v := .ref (fa 0)) (C := RX10) (T := TX10) (N := 12) hx hb hts kb_inX10 hown hK.1 hP 0 rfl rfl 7 (by decide) (hK.2.w ww_2_159 rfl _) (fun _ h9 => h9) rfl dX10_takeDraft_40 ?_
    refine lv_iconst (v := (0 : Int32)) hx hb dX10_takeDraft_43 (by decide) ?_
    refine va_put (D := D) (ci := 2) (v := .int (0 : Int32)) (ty := .int) (C := RX2) (T := TX2) (N := 3) hx hb hts kb_inX2 tyX2 tyX2_ok nmX2 hown hK.1 hP hD hS 52 rfl rfl 2 (by decide) (hK.2.w ww_2_32 rfl _) (fun _ h9 => h9) rfl (by decide +kernel) rfl rfl (Nat.le_of_ble_eq_true rfl) dX10_takeDraft_44 (fun H locs hP hD hS => ?_)
    have hP : va_P D vwCl (w_Top dA t g0 (db 0) (pa 0) (a 0) g4 (fa 0) g6 g7 (da 0) z0 ++ (w_Plan dA pa pl ++ (w_Plan dA db pd ++ (w_Ride dA a (db 0) (db 1) z3 ++ (w_Films dA fa (fm_set_count z4 (0 : Int32)) ++ (w_Deals dA da h0 z5)))))) H := hP
    have hD : va_D A (w_Top dA t g0 (db 0) (pa 0) (a 0) g4 (fa 0) g6 g7 (da 0) z0 ++ (w_Plan dA pa pl ++ (w_Plan dA db pd ++ (w_Ride dA a (db 0) (db 1) z3 ++ (w_Films dA fa (fm_set_count z4 (0 : Int32)) ++ (w_Deals dA da h0 z5)))))) := hD
    exact B_47 _ _ _ _ _ _ _ hf hP hD hS (lv_sub hl [0] rfl)
  have B_34 : ∀ (z0 : TopT) (z3 : RideT) (z4 : FilmsT) (z5 : DealsT) (H : Heap) (locs : List Loc) (ls : Array Slot), f_X10_takeDraft_b34 pl pd z0 z3 z4 z5 = some (u0, u3, u4, u5) → va_P D vwCl (w_Top dA t g0 (db 0) (pa 0) (a 0) g4 (fa 0) g6 g7 (da 0) z0 ++ (w_Plan dA pa pl ++ (w_Plan dA db pd ++ (w_Ride dA a (db 0) (db 1) z3 ++ (w_Films dA fa z4 ++ (w_Deals dA da h0 z5)))))) H → va_D A (w_Top dA t g0 (db 0) (pa 0) (a 0) g4 (fa 0) g6 g7 (da 0) z0 ++ (w_Plan dA pa pl ++ (w_Plan dA db pd ++ (w_Ride dA a (db 0) (db 1) z3 ++ (w_Films dA fa z4 ++ (w_Deals dA da h0 z5)))))) → va_S A s.heap H locs → lv_has ls 2 [(0, .ref (t 0))] → W p l e ({ frames := 2, cells := 0, slots := 0, locals := 44 } : Room) s m ([.ref (t 0)] : List Value).toArray below meth c H locs 0 0 Q (F0 m 34 ls []) := by
    intro z0 z3 z4 z5 H locs ls hf hP hD hS hl
    rw [f_X10_takeDraft_b34] at hf
    refine lv_aload_n hx hb dX10_takeDraft_34 rfl (lv_at hl 0 rfl) ?_
    refine lv_iconst (v := (0 : Int32)) hx hb dX10_takeDraft_35 (by decide) ?_
    refine va_put (D := D) (ci := 10) (v := .int (0 : Int32)) (ty := .int) (C := RX10) (T := TX10) (N := 12) hx hb hts kb_inX10 tyX10 tyX10_ok nmX10 hown hK.1 hP hD hS 0 rfl rfl 6 (by decide) (hK.2.w ww_2_158 rfl _) (fun _ h9 => h9) rfl (by decide +kernel) rfl rfl (Nat.le_of_ble_eq_true rfl) dX10_takeDraft_36 (fun H locs hP hD hS => ?_)
    have hP : va_P D vwCl (w_Top dA t g0 (db 0) (pa 0) (a 0) g4 (fa 0) g6 g7 (da 0) (tp_set_markCount z0 (0 : Int32)) ++ (w_Plan dA pa pl ++ (w_Plan dA db pd ++ (w_Ride dA a (db 0) (db 1) z3 ++ (w_Films dA fa z4 ++ (w_Deals dA da h0 z5)))))) H := hP
    have hD : va_D A (w_Top dA t g0 (db 0) (pa 0) (a 0) g4 (fa 0) g6 g7 (da 0) (tp_set_markCount z0 (0 : Int32)) ++ (w_Plan dA pa pl ++ (w_Plan dA db pd ++ (w_Ride dA a (db 0) (db 1) z3 ++ (w_Films dA fa z4 ++ (w_Deals dA da h0 z5)))))) := hD
    exact B_39 _ _ _ _ _ _ _ hf hP hD hS (lv_sub hl [0] rfl)
  have B_23 : ∀ (z0 : TopT) (z3 : RideT) (z4 : FilmsT) (z5 : DealsT) (H : Heap) (locs : List Loc) (ls : Array Slot), f_X10_takeDraft_b23 pl pd z0 z3 z4 z5 = some (u0, u3, u4, u5) → va_P D vwCl (w_Top dA t g0 (db 0) (pa 0) (a 0) g4 (fa 0) g6 g7 (da 0) z0 ++ (w_Plan dA pa pl ++ (w_Plan dA db pd ++ (w_Ride dA a h1 h2 z3 ++ (w_Films dA fa z4 ++ (w_Deals dA da h0 z5)))))) H → va_D A (w_Top dA t g0 (db 0) (pa 0) (a 0) g4 (fa 0) g6 g7 (da 0) z0 ++ (w_Plan dA pa pl ++ (w_Plan dA db pd ++ (w_Ride dA a h1 h2 z3 ++ (w_Films dA fa z4 ++ (w_Deals dA da h0 z5)))))) → va_S A s.heap H locs → lv_has ls 2 [(0, .ref (t 0))] → W p l e ({ frames := 2, cells := 0, slots := 0, locals := 44 } : Room) s m ([.ref (t 0)] : List Value).toArray below meth c H locs 0 0 Q (F0 m 23 ls []) := by
    intro z0 z3 z4 z5 H locs ls hf hP hD hS hl
    rw [f_X10_takeDraft_b23] at hf
    refine lv_aload_n hx hb dX10_takeDraft_23 rfl (lv_at hl 0 rfl) ?_
    refine va_get (D := D) (ci := 10) (v := .ref (a 0)) (C := RX10) (T := TX10) (N := 12) hx hb hts kb_inX10 hown hK.1 hP 0 rfl rfl 4 (by decide) (hK.2.w ww_2_156 rfl _) (fun _ h9 => h9) rfl dX10_takeDraft_24 ?_
    refine lv_aload_n hx hb dX10_takeDraft_27 rfl (lv_at hl 0 rfl) ?_
    refine va_get (D := D) (ci := 10) (v := .ref (db 0)) (C := RX10) (T := TX10) (N := 12) hx hb hts kb_inX10 hown hK.1 hP 0 rfl rfl 1 (by decide) (hK.2.w ww_2_153 rfl _) (fun _ h9 => h9) rfl dX10_takeDraft_28 ?_
    obtain ⟨r1, hc1, hf⟩ := kb_bind hf
    refine kb_cv (ws2 := (w_Top dA t g0 (db 0) (pa 0) (a 0) g4 (fa 0) g6 g7 (da 0) z0 ++ (w_Plan dA pa pl ++ (w_Plan dA db pd ++ (w_Ride dA a (db 0) (db 1) r1 ++ (w_Films dA fa z4 ++ (w_Deals dA da h0 z5))))))) (kb_rV (n := 1) (As := [.ref (db 0)]) (rest := []) hx hb hml hown hK (c_X6_begin l D dA H.size a db h1 h2 z3 pd r1 hc1) ⟨ww_3_176, ww_3_173, ww_3_174, ww_3_175, ww_1_8, rfl, by decide, by decide⟩ rfl rfl (by decide +kernel) ⟨Nat.le_of_ble_eq_true rfl, Nat.le_of_ble_eq_true rfl⟩ hP hD hS hA hE [43, 44, 45, 46, 47, 48, 49, 50, 51, 22, 23, 24, 25, 26, 27, 28, 29, 30, 31, 32, 33, 34, 35, 36, 37, 38, 39, 40, 41, 42] rfl (by decide) 0 rfl rfl rfl hl.1 rfl (Nat.le_of_ble_eq_true rfl) dX10_takeDraft_31 ⟨Nat.le_of_ble_eq_true rfl, Nat.le_of_ble_eq_true rfl⟩) hP hD hS hA [43, 44, 45, 46, 47, 48, 49, 50, 51, 22, 23, 24, 25, 26, 27, 28, 29, 30, 31, 32, 33, 34, 35, 36, 37, 38, 39, 40, 41, 42] [0, 1, 2, 3, 4, 5, 6, 7, 8, 9, 10, 11, 12, 13, 14, 15, 16, 17, 18, 19, 20, 21, 52, 53, 54, 55, 56, 57, 58] [0, 1, 2, 3, 4, 5, 6, 7, 8, 9, 10, 11, 12, 13, 14, 15, 16, 17, 18, 19, 20, 21, 38, 39, 40, 41, 42, 43, 44, 45, 46, 47, 48, 49, 50, 51, 52, 53, 54, 55, 56, 57, 58, 29, 30, 31, 32, 33, 34, 35, 36, 37, 22, 23, 24, 25, 26, 27, 28] rfl rfl (by decide) (by decide) rfl (by decide) (fun H locs hP hD hS => ?_)
    exact B_34 _ _ _ _ _ _ _ hf hP hD hS (lv_sub hl [0] rfl)
  have E0 : ∀ (H : Heap) (locs : List Loc), va_P D vwCl (w_Top dA t g0 (pa 0) (db 0) (a 0) g4 (fa 0) g6 g7 (da 0) tp ++ (w_Plan dA pa pl ++ (w_Plan dA db pd ++ (w_Ride dA a h1 h2 rd ++ (w_Films dA fa fm ++ (w_Deals dA da h0 de)))))) H → va_D A (w_Top dA t g0 (pa 0) (db 0) (a 0) g4 (fa 0) g6 g7 (da 0) tp ++ (w_Plan dA pa pl ++ (w_Plan dA db pd ++ (w_Ride dA a h1 h2 rd ++ (w_Films dA fa fm ++ (w_Deals dA da h0 de)))))) → va_S A s.heap H locs → W p l e ({ frames := 2, cells := 0, slots := 0, locals := 44 } : Room) s m ([.ref (t 0)] : List Value).toArray below meth c H locs 0 0 Q (F0 m 0 ls []) := by
    intro H locs hP hD hS
    rw [f_X10_takeDraft] at hf
    refine lv_aload_n hx hb dX10_takeDraft_0 rfl (lv_at hl 0 rfl) ?_
    refine va_get (D := D) (ci := 10) (v := .ref (pa 0)) (C := RX10) (T := TX10) (N := 12) hx hb hts kb_inX10 hown hK.1 hP 0 rfl rfl 1 (by decide) (hK.2.w ww_2_153 rfl _) (fun _ h9 => h9) rfl dX10_takeDraft_1 ?_
    refine lv_astore_n (lv' := [(1, .ref (pa 0)), (0, .ref (t 0))]) hx hb dX10_takeDraft_4 rfl hl (by decide) rfl (fun ls hl => ?_)
    refine lv_aload_n hx hb dX10_takeDraft_5 rfl (lv_at hl 1 rfl) ?_
    refine lv_aload_n hx hb dX10_takeDraft_6 rfl (lv_at hl 1 rfl) ?_
    refine va_get (D := D) (ci := 10) (v := .ref (db 0)) (C := RX10) (T := TX10) (N := 12) hx hb hts kb_inX10 hown hK.1 hP 0 rfl rfl 2 (by decide) (hK.2.w ww_2_154 rfl _) (fun _ h9 => h9) rfl dX10_takeDraft_7 ?_
    refine va_put (D := D) (ci := 10) (v := .ref (db 0)) (ty := .object "BusSeats$Plan") (C := RX10) (T := TX10) (N := 12) hx hb hts kb_inX10 tyX10 tyX10_ok nmX10 hown hK.1 hP hD hS 0 rfl rfl 1 (by decide) (hK.2.w ww_2_153 rfl _) (fun _ h9 => h9) rfl (by decide +kernel) rfl rfl (Nat.le_of_ble_eq_true rfl) dX10_takeDraft_10 (fun H locs hP hD hS => ?_)
    have hP : va_P D vwCl (w_Top dA t g0 (db 0) (db 0) (a 0) g4 (fa 0) g6 g7 (da 0) tp ++ (w_Plan dA pa pl ++ (w_Plan dA db pd ++ (w_Ride dA a h1 h2 rd ++ (w_Films dA fa fm ++ (w_Deals dA da h0 de)))))) H := hP
    have hD : va_D A (w_Top dA t g0 (db 0) (db 0) (a 0) g4 (fa 0) g6 g7 (da 0) tp ++ (w_Plan dA pa pl ++ (w_Plan dA db pd ++ (w_Ride dA a h1 h2 rd ++ (w_Films dA fa fm ++ (w_Deals dA da h0 de)))))) := hD
    refine lv_aload_n hx hb dX10_takeDraft_13 rfl (lv_at hl 1 rfl) ?_
    refine lv_aload_n hx hb dX10_takeDraft_14 rfl (lv_at hl 0 rfl) ?_
    refine va_put (D := D) (ci := 10) (v := .ref (pa 0)) (ty := .object "BusSeats$Plan") (C := RX10) (T := TX10) (N := 12) hx hb hts kb_inX10 tyX10 tyX10_ok nmX10 hown hK.1 hP hD hS 0 rfl rfl 2 (by decide) (hK.2.w ww_2_154 rfl _) (fun _ h9 => h9) rfl (by decide +kernel) rfl rfl (Nat.le_of_ble_eq_true rfl) dX10_takeDraft_15 (fun H locs hP hD hS => ?_)
    have hP : va_P D vwCl (w_Top dA t g0 (db 0) (pa 0) (a 0) g4 (fa 0) g6 g7 (da 0) tp ++ (w_Plan dA pa pl ++ (w_Plan dA db pd ++ (w_Ride dA a h1 h2 rd ++ (w_Films dA fa fm ++ (w_Deals dA da h0 de)))))) H := hP
    have hD : va_D A (w_Top dA t g0 (db 0) (pa 0) (a 0) g4 (fa 0) g6 g7 (da 0) tp ++ (w_Plan dA pa pl ++ (w_Plan dA db pd ++ (w_Ride dA a h1 h2 rd ++ (w_Films dA fa fm ++ (w_Deals dA da h0 de)))))) := hD
    refine lv_aload_n hx hb dX10_takeDraft_18 rfl (lv_at hl 1 rfl) ?_
    refine lv_iconst (v := (1 : Int32)) hx hb dX10_takeDraft_19 (by decide) ?_
    refine va_put (D := D) (ci := 10) (v := .int (1 : Int32)) (ty := .boolean) (C := RX10) (T := TX10) (N := 12) hx hb hts kb_inX10 tyX10 tyX10_ok nmX10 hown hK.1 hP hD hS 0 rfl rfl 3 (by decide) (hK.2.w ww_2_155 rfl _) (fun _ h9 => h9) rfl (by decide +kernel) rfl rfl (Nat.le_of_ble_eq_true rfl) dX10_takeDraft_20 (fun H locs hP hD hS => ?_)
    have hP : va_P D vwCl (w_Top dA t g0 (db 0) (pa 0) (a 0) g4 (fa 0) g6 g7 (da 0) (tp_set_hasBus tp (1 : Int32)) ++ (w_Plan dA pa pl ++ (w_Plan dA db pd ++ (w_Ride dA a h1 h2 rd ++ (w_Films dA fa fm ++ (w_Deals dA da h0 de)))))) H := hP
    have hD : va_D A (w_Top dA t g0 (db 0) (pa 0) (a 0) g4 (fa 0) g6 g7 (da 0) (tp_set_hasBus tp (1 : Int32)) ++ (w_Plan dA pa pl ++ (w_Plan dA db pd ++ (w_Ride dA a h1 h2 rd ++ (w_Films dA fa fm ++ (w_Deals dA da h0 de)))))) := hD
    exact B_23 _ _ _ _ _ _ _ hf hP hD hS (lv_sub hl [1] rfl)
  exact E0 _ _ hP hD hS

noncomputable def f_X10_size (tp : TopT) (ps : ParserT) (pl : PlanT) (rd : RideT) (fm : FilmsT) (x0 : Int32) : Option (Int32) := (if x0 = (0 : Int32) then (if (tp_hasBus tp) = 0 then some ((0 : Int32)) else some ((pl_riderCount pl))) else (if x0 = (1 : Int32) then (if (tp_hasBus tp) = 0 then some ((0 : Int32)) else some ((pl_ruleCount pl))) else (if x0 = (2 : Int32) then (if (tp_hasBus tp) = 0 then some ((0 : Int32)) else some ((pl_friendCount pl))) else (if x0 = (3 : Int32) then (if (tp_hasBus tp) = 0 then some ((0 : Int32)) else some ((pl_holderCount pl))) else (if x0 = (4 : Int32) then (if (tp_hasBus tp) = 0 then some ((0 : Int32)) else (f_J6_bitCount_0f7a4 (cb_seats (pl_cab pl))).bind fun r11 => some (r11)) else (if x0 = (5 : Int32) then (if (tp_hasBus tp) = 0 then some ((0 : Int32)) else some ((rd_stops rd))) else (if x0 = (6 : Int32) then some ((tp_markCount tp)) else (if x0 = (7 : Int32) then some ((fm_count fm)) else (if x0 = (8 : Int32) then (if (tp_hasBus tp) = 0 then some ((0 : Int32)) else some ((cb_form (pl_cab pl)))) else (if x0 = (9 : Int32) then some ((ps_length ps)) else some ((-1 : Int32))))))))))))
set_option maxHeartbeats 4000000 in
set_option maxRecDepth 100000 in
theorem c_X10_size (l : Launch) (D : va_G) (dA : Nat → ClassId) (sz : Nat) (t : Nat → Nat) (ya : Nat → Nat) (pa : Nat → Nat) (a : Nat → Nat) (fa : Nat → Nat) (g2 : Nat) (g4 : Nat) (g6 : Nat) (g7 : Nat) (g8 : Nat) (h0 : Nat) (h1 : Nat) (tp : TopT) (ps : ParserT) (pl : PlanT) (rd : RideT) (fm : FilmsT) (x0 : Int32) (rv : Int32) (hf : f_X10_size tp ps pl rd fm x0 = some (rv)) : kb_Mi l yX10_size cX10_size 2 (some .int) ({ frames := 1, cells := 0, slots := 0, locals := 20 } : Room) D dA [.ref (t 0), .int x0] sz (w_Top dA t (ya 0) (pa 0) g2 (a 0) g4 (fa 0) g6 g7 g8 tp ++ (w_Parser dA ya ps ++ (w_Plan dA pa pl ++ (w_Ride dA a h0 h1 rd ++ (w_Films dA fa fm))))) 0 0 rv (w_Top dA t (ya 0) (pa 0) g2 (a 0) g4 (fa 0) g6 g7 g8 tp ++ (w_Parser dA ya ps ++ (w_Plan dA pa pl ++ (w_Ride dA a h0 h1 rd ++ (w_Films dA fa fm))))) := by
  refine Met.ofW (cc := cX10_size) (maxL := 2) (ret := (some .int)) (by decide) rfl ?_
  intro p e s m args below meth c s₁ B hml hv
  obtain ⟨rfl, hsz, hP, hK, hD0, hE⟩ := hv
  have hx := B.exec
  have hb := B.bytes
  have hr := B.returns
  have hown : s.vm.findClass RX10 = some m.cls := findClass_of_methodNamed B.named
  have hlocks := B.notSynchronized
  have hts : ∀ w ∈ kb_gw, w.before ([.ref (t 0), .int x0] : List Value).toArray s = true := fun w hw => hK.2.1 w hw _
  subst hsz
  have hD := hD0.self (sz := s.heap.size)
  generalize hAe : va_A (w_Top dA t (ya 0) (pa 0) g2 (a 0) g4 (fa 0) g6 g7 g8 tp ++ (w_Parser dA ya ps ++ (w_Plan dA pa pl ++ (w_Ride dA a h0 h1 rd ++ (w_Films dA fa fm))))) s.heap.size = A at hD hE ⊢
  have hA : ∀ q : Nat, s.heap.size ≤ q → A q := fun q h => by rw [← hAe]; exact Or.inr h
  have hS : va_S A s.heap s.heap [] := va_S.rf
  have hl := lv_entry ([.ref (t 0), .int x0]) (n := 2) (Nat.le_of_ble_eq_true rfl)
  rw [lg_entry_eq]
  generalize (lg_sl ([.ref (t 0), .int x0]) ++ List.replicate (2 - (lg_sl ([.ref (t 0), .int x0])).length) Slot.unset).toArray = ls at hl ⊢
  have hl : lv_has ls 2 [(0, .ref (t 0)), (1, .int x0)] := hl
  generalize hQ : MQ below (va_Qi (fun r (_ : Unit) => r = rv) (kb_B D A (w_Top dA t (ya 0) (pa 0) g2 (a 0) g4 (fa 0) g6 g7 g8 tp ++ (w_Parser dA ya ps ++ (w_Plan dA pa pl ++ (w_Ride dA a h0 h1 rd ++ (w_Films dA fa fm)))))) A) ([.ref (t 0), .int x0] : List Value).toArray s 0 0 A = Q
  show W p l e ({ frames := 1, cells := 0, slots := 0, locals := 20 } : Room) s m ([.ref (t 0), .int x0] : List Value).toArray below meth c s.heap [] 0 0 Q (F0 m 0 ls [])
  have RET : ∀ (r2 : Int32) (H : Heap) (locs : List Loc) (ls : Array Slot) (pc : Nat), some (r2) = some (rv) → va_P D vwCl (w_Top dA t (ya 0) (pa 0) g2 (a 0) g4 (fa 0) g6 g7 g8 tp ++ (w_Parser dA ya ps ++ (w_Plan dA pa pl ++ (w_Ride dA a h0 h1 rd ++ (w_Films dA fa fm))))) H → va_D A (w_Top dA t (ya 0) (pa 0) g2 (a 0) g4 (fa 0) g6 g7 g8 tp ++ (w_Parser dA ya ps ++ (w_Plan dA pa pl ++ (w_Ride dA a h0 h1 rd ++ (w_Films dA fa fm))))) → va_S A s.heap H locs → decode cX10_size pc = .ok (.ireturn, 1) → W p l e ({ frames := 1, cells := 0, slots := 0, locals := 20 } : Room) s m ([.ref (t 0), .int x0] : List Value).toArray below meth c H locs 0 0 Q (F0 m pc ls [.int r2]) := by
    intro r2 H locs ls pc hq hP hD hS hd
    cases hq
    rw [← hQ]
    exact W.iret hx hb hr (fun t ht hW => ⟨⟨_, (), rfl, rfl, by rw [ht]; exact hP, hD⟩, hS.F ht⟩) hS.2.2 hd
  have E0 : ∀ (H : Heap) (locs : List Loc), va_P D vwCl (w_Top dA t (ya 0) (pa 0) g2 (a 0) g4 (fa 0) g6 g7 g8 tp ++ (w_Parser dA ya ps ++ (w_Plan dA pa pl ++ (w_Ride dA a h0 h1 rd ++ (w_Films dA fa fm))))) H → va_D A (w_Top dA t (ya 0) (pa 0) g2 (a 0) g4 (fa 0) g6 g7 g8 tp ++ (w_Parser dA ya ps ++ (w_Plan dA pa pl ++ (w_Ride dA a h0 h1 rd ++ (w_Films dA fa fm))))) → va_S A s.heap H locs → W p l e ({ frames := 1, cells := 0, slots := 0, locals := 20 } : Room) s m ([.ref (t 0), .int x0] : List Value).toArray below meth c H locs 0 0 Q (F0 m 0 ls []) := by
    intro H locs hP hD hS
    rw [f_X10_size] at hf
    refine lv_iload_n hx hb dX10_size_0 rfl (lv_at hl 1 rfl) ?_
    by_cases c_1 : x0 = (0 : Int32)
    · rw [if_pos c_1] at hf
      refine lv_tableIn (tgt := 56) hx hb dX10_size_1 (by rw [c_1]; decide) (by rw [c_1]; decide) (by rw [c_1]; rfl) (by decide) ?_
      refine lv_aload_n hx hb dX10_size_56 rfl (lv_at hl 0 rfl) ?_
      refine va_get (D := D) (ci := 10) (v := .int (tp_hasBus tp)) (C := RX10) (T := TX10) (N := 12) hx hb hts kb_inX10 hown hK.1 hP 0 rfl rfl 3 (by decide) (hK.2.w ww_2_155 rfl _) (fun _ h9 => h9) rfl dX10_size_57 ?_
      refine lv_if_eq (tgt := 73) hx hb dX10_size_60 (by decide) (fun c_2 => ?_) (fun c_2 => ?_)
      · rw [if_pos c_2] at hf
        refine lv_iconst (v := (0 : Int32)) hx hb dX10_size_73 (by decide) ?_
        exact RET _ H _ ls 74 hf hP hD hS dX10_size_74
      · rw [if_neg c_2] at hf
        refine lv_aload_n hx hb dX10_size_63 rfl (lv_at hl 0 rfl) ?_
        refine va_get (D := D) (ci := 10) (v := .ref (pa 0)) (C := RX10) (T := TX10) (N := 12) hx hb hts kb_inX10 hown hK.1 hP 0 rfl rfl 1 (by decide) (hK.2.w ww_2_153 rfl _) (fun _ h9 => h9) rfl dX10_size_64 ?_
        refine va_get (D := D) (ci := 5) (v := .int (pl_riderCount pl)) (C := RX5) (T := TX5) (N := 8) hx hb hts kb_inX5 hown hK.1 hP 3 rfl rfl 5 (by decide) (hK.2.w ww_1_236 rfl _) (fun _ h9 => h9) rfl dX10_size_67 ?_
        refine lv_goto (tgt := 74) hx hb dX10_size_70 (by decide) ?_
        exact RET _ H _ ls 74 hf hP hD hS dX10_size_74
    · rw [if_neg c_1] at hf
      by_cases c_3 : x0 = (1 : Int32)
      · rw [if_pos c_3] at hf
        refine lv_tableIn (tgt := 75) hx hb dX10_size_1 (by rw [c_3]; decide) (by rw [c_3]; decide) (by rw [c_3]; rfl) (by decide) ?_
        refine lv_aload_n hx hb dX10_size_75 rfl (lv_at hl 0 rfl) ?_
        refine va_get (D := D) (ci := 10) (v := .int (tp_hasBus tp)) (C := RX10) (T := TX10) (N := 12) hx hb hts kb_inX10 hown hK.1 hP 0 rfl rfl 3 (by decide) (hK.2.w ww_2_155 rfl _) (fun _ h9 => h9) rfl dX10_size_76 ?_
        refine lv_if_eq (tgt := 92) hx hb dX10_size_79 (by decide) (fun c_4 => ?_) (fun c_4 => ?_)
        · rw [if_pos c_4] at hf
          refine lv_iconst (v := (0 : Int32)) hx hb dX10_size_92 (by decide) ?_
          exact RET _ H _ ls 93 hf hP hD hS dX10_size_93
        · rw [if_neg c_4] at hf
          refine lv_aload_n hx hb dX10_size_82 rfl (lv_at hl 0 rfl) ?_
          refine va_get (D := D) (ci := 10) (v := .ref (pa 0)) (C := RX10) (T := TX10) (N := 12) hx hb hts kb_inX10 hown hK.1 hP 0 rfl rfl 1 (by decide) (hK.2.w ww_2_153 rfl _) (fun _ h9 => h9) rfl dX10_size_83 ?_
          refine va_get (D := D) (ci := 5) (v := .int (pl_ruleCount pl)) (C := RX5) (T := TX5) (N := 8) hx hb hts kb_inX5 hown hK.1 hP 3 rfl rfl 4 (by decide) (hK.2.w ww_1_231 rfl _) (fun _ h9 => h9) rfl dX10_size_86 ?_
          refine lv_goto (tgt := 93) hx hb dX10_size_89 (by decide) ?_
          exact RET _ H _ ls 93 hf hP hD hS dX10_size_93
      · rw [if_neg c_3] at hf
        by_cases c_5 : x0 = (2 : Int32)
        · rw [if_pos c_5] at hf
          refine lv_tableIn (tgt := 94) hx hb dX10_size_1 (by rw [c_5]; decide) (by rw [c_5]; decide) (by rw [c_5]; rfl) (by decide) ?_
          refine lv_aload_n hx hb dX10_size_94 rfl (lv_at hl 0 rfl) ?_
          refine va_get (D := D) (ci := 10) (v := .int (tp_hasBus tp)) (C := RX10) (T := TX10) (N := 12) hx hb hts kb_inX10 hown hK.1 hP 0 rfl rfl 3 (by decide) (hK.2.w ww_2_155 rfl _) (fun _ h9 => h9) rfl dX10_size_95 ?_
          refine lv_if_eq (tgt := 111) hx hb dX10_size_98 (by decide) (fun c_6 => ?_) (fun c_6 => ?_)
          · rw [if_pos c_6] at hf
            refine lv_iconst (v := (0 : Int32)) hx hb dX10_size_111 (by decide) ?_
            exact RET _ H _ ls 112 hf hP hD hS dX10_size_112
          · rw [if_neg c_6] at hf
            refine lv_aload_n hx hb dX10_size_101 rfl (lv_at hl 0 rfl) ?_
            refine va_get (D := D) (ci := 10) (v := .ref (pa 0)) (C := RX10) (T := TX10) (N := 12) hx hb hts kb_inX10 hown hK.1 hP 0 rfl rfl 1 (by decide) (hK.2.w ww_2_153 rfl _) (fun _ h9 => h9) rfl dX10_size_102 ?_
            refine va_get (D := D) (ci := 5) (v := .int (pl_friendCount pl)) (C := RX5) (T := TX5) (N := 8) hx hb hts kb_inX5 hown hK.1 hP 3 rfl rfl 6 (by decide) (hK.2.w ww_2_0 rfl _) (fun _ h9 => h9) rfl dX10_size_105 ?_
            refine lv_goto (tgt := 112) hx hb dX10_size_108 (by decide) ?_
            exact RET _ H _ ls 112 hf hP hD hS dX10_size_112
        · rw [if_neg c_5] at hf
          by_cases c_7 : x0 = (3 : Int32)
          · rw [if_pos c_7] at hf
            refine lv_tableIn (tgt := 113) hx hb dX10_size_1 (by rw [c_7]; decide) (by rw [c_7]; decide) (by rw [c_7]; rfl) (by decide) ?_
            refine lv_aload_n hx hb dX10_size_113 rfl (lv_at hl 0 rfl) ?_
            refine va_get (D := D) (ci := 10) (v := .int (tp_hasBus tp)) (C := RX10) (T := TX10) (N := 12) hx hb hts kb_inX10 hown hK.1 hP 0 rfl rfl 3 (by decide) (hK.2.w ww_2_155 rfl _) (fun _ h9 => h9) rfl dX10_size_114 ?_
            refine lv_if_eq (tgt := 130) hx hb dX10_size_117 (by decide) (fun c_8 => ?_) (fun c_8 => ?_)
            · rw [if_pos c_8] at hf
              refine lv_iconst (v := (0 : Int32)) hx hb dX10_size_130 (by decide) ?_
              exact RET _ H _ ls 131 hf hP hD hS dX10_size_131
            · rw [if_neg c_8] at hf
              refine lv_aload_n hx hb dX10_size_120 rfl (lv_at hl 0 rfl) ?_
              refine va_get (D := D) (ci := 10) (v := .ref (pa 0)) (C := RX10) (T := TX10) (N := 12) hx hb hts kb_inX10 hown hK.1 hP 0 rfl rfl 1 (by decide) (hK.2.w ww_2_153 rfl _) (fun _ h9 => h9) rfl dX10_size_121 ?_
              refine va_get (D := D) (ci := 5) (v := .int (pl_holderCount pl)) (C := RX5) (T := TX5) (N := 8) hx hb hts kb_inX5 hown hK.1 hP 3 rfl rfl 7 (by decide) (hK.2.w ww_2_3 rfl _) (fun _ h9 => h9) rfl dX10_size_124 ?_
              refine lv_goto (tgt := 131) hx hb dX10_size_127 (by decide) ?_
              exact RET _ H _ ls 131 hf hP hD hS dX10_size_131
          · rw [if_neg c_7] at hf
            by_cases c_9 : x0 = (4 : Int32)
            · rw [if_pos c_9] at hf
              refine lv_tableIn (tgt := 132) hx hb dX10_size_1 (by rw [c_9]; decide) (by rw [c_9]; decide) (by rw [c_9]; rfl) (by decide) ?_
              refine lv_aload_n hx hb dX10_size_132 rfl (lv_at hl 0 rfl) ?_
              refine va_get (D := D) (ci := 10) (v := .int (tp_hasBus tp)) (C := RX10) (T := TX10) (N := 12) hx hb hts kb_inX10 hown hK.1 hP 0 rfl rfl 3 (by decide) (hK.2.w ww_2_155 rfl _) (fun _ h9 => h9) rfl dX10_size_133 ?_
              refine lv_if_eq (tgt := 155) hx hb dX10_size_136 (by decide) (fun c_10 => ?_) (fun c_10 => ?_)
              · rw [if_pos c_10] at hf
                refine lv_iconst (v := (0 : Int32)) hx hb dX10_size_155 (by decide) ?_
                exact RET _ H _ ls 156 hf hP hD hS dX10_size_156
              · rw [if_neg c_10] at hf
                refine lv_aload_n hx hb dX10_size_139 rfl (lv_at hl 0 rfl) ?_
                refine va_get (D := D) (ci := 10) (v := .ref (pa 0)) (C := RX10) (T := TX10) (N := 12) hx hb hts kb_inX10 hown hK.1 hP 0 rfl rfl 1 (by decide) (hK.2.w ww_2_153 rfl _) (fun _ h9 => h9) rfl dX10_size_140 ?_
                refine va_get (D := D) (ci := 5) (v := .ref (pa 1)) (C := RX5) (T := TX5) (N := 8) hx hb hts kb_inX5 hown hK.1 hP 3 rfl rfl 0 (by decide) (hK.2.w ww_1_215 rfl _) (fun _ h9 => h9) rfl dX10_size_143 ?_
                refine va_get (D := D) (ci := 0) (v := .int (cb_seats (pl_cab pl))) (C := RX0) (T := TX0) (N := 8) hx hb hts kb_inX0 hown hK.1 hP 4 rfl rfl 6 (by decide) (hK.2.w ww_1_107 rfl _) (fun _ h9 => h9) rfl dX10_size_146 ?_
                obtain ⟨r11, hc11, hf⟩ := kb_bind hf
                refine kb_ci (ws2 := (w_Top dA t (ya 0) (pa 0) g2 (a 0) g4 (fa 0) g6 g7 g8 tp ++ (w_Parser dA ya ps ++ (w_Plan dA pa pl ++ (w_Ride dA a h0 h1 rd ++ (w_Films dA fa fm)))))) (kb_rS (n := 1) (As := [.int (cb_seats (pl_cab pl))]) (rest := []) hx hb hml hown hK (c_J6_bitCount_0f7a4 l D dA H.size (cb_seats (pl_cab pl)) r11 hc11) ⟨ww_4_166, ww_4_164, ww_4_165, ww_1_20, by decide, by decide⟩ rfl rfl (by decide +kernel) ⟨Nat.le_of_ble_eq_true rfl, Nat.le_of_ble_eq_true rfl⟩ hP hD hS hA hE [] rfl (by decide) rfl hl.1 rfl (Nat.le_of_ble_eq_true rfl) dX10_size_149 ⟨Nat.le_of_ble_eq_true rfl, Nat.le_of_ble_eq_true rfl⟩) hP hD hS hA [] [0, 1, 2, 3, 4, 5, 6, 7, 8, 9, 10, 11, 12, 13, 14, 15, 16, 17, 18, 19, 20, 21, 22, 23, 24, 25, 26, 27, 28, 29, 30, 31, 32, 33, 34, 35] [0, 1, 2, 3, 4, 5, 6, 7, 8, 9, 10, 11, 12, 13, 14, 15, 16, 17, 18, 19, 20, 21, 22, 23, 24, 25, 26, 27, 28, 29, 30, 31, 32, 33, 34, 35] rfl rfl (by decide) (by decide) rfl (by decide) (fun H locs hP hD hS => ?_)
                refine lv_goto (tgt := 156) hx hb dX10_size_152 (by decide) ?_
                exact RET _ H _ ls 156 hf hP hD hS dX10_size_156
            · rw [if_neg c_9] at hf
              by_cases c_12 : x0 = (5 : Int32)
              · rw [if_pos c_12] at hf
                refine lv_tableIn (tgt := 157) hx hb dX10_size_1 (by rw [c_12]; decide) (by rw [c_12]; decide) (by rw [c_12]; rfl) (by decide) ?_
                refine lv_aload_n hx hb dX10_size_157 rfl (lv_at hl 0 rfl) ?_
                refine va_get (D := D) (ci := 10) (v := .int (tp_hasBus tp)) (C := RX10) (T := TX10) (N := 12) hx hb hts kb_inX10 hown hK.1 hP 0 rfl rfl 3 (by decide) (hK.2.w ww_2_155 rfl _) (fun _ h9 => h9) rfl dX10_size_158 ?_
                refine lv_if_eq (tgt := 174) hx hb dX10_size_161 (by decide) (fun c_13 => ?_) (fun c_13 => ?_)
                · rw [if_pos c_13] at hf
                  refine lv_iconst (v := (0 : Int32)) hx hb dX10_size_174 (by decide) ?_
                  exact RET _ H _ ls 175 hf hP hD hS dX10_size_175
                · rw [if_neg c_13] at hf
                  refine lv_aload_n hx hb dX10_size_164 rfl (lv_at hl 0 rfl) ?_
                  refine va_get (D := D) (ci := 10) (v := .ref (a 0)) (C := RX10) (T := TX10) (N := 12) hx hb hts kb_inX10 hown hK.1 hP 0 rfl rfl 4 (by decide) (hK.2.w ww_2_156 rfl _) (fun _ h9 => h9) rfl dX10_size_165 ?_
                  refine va_get (D := D) (ci := 6) (v := .int (rd_stops rd)) (C := RX6) (T := TX6) (N := 11) hx hb hts kb_inX6 hown hK.1 hP 24 rfl rfl 10 (by decide) (hK.2.w ww_2_85 rfl _) (fun _ h9 => h9) rfl dX10_size_168 ?_
                  refine lv_goto (tgt := 175) hx hb dX10_size_171 (by decide) ?_
                  exact RET _ H _ ls 175 hf hP hD hS dX10_size_175
              · rw [if_neg c_12] at hf
                by_cases c_14 : x0 = (6 : Int32)
                · rw [if_pos c_14] at hf
                  refine lv_tableIn (tgt := 176) hx hb dX10_size_1 (by rw [c_14]; decide) (by rw [c_14]; decide) (by rw [c_14]; rfl) (by decide) ?_
                  refine lv_aload_n hx hb dX10_size_176 rfl (lv_at hl 0 rfl) ?_
                  refine va_get (D := D) (ci := 10) (v := .int (tp_markCount tp)) (C := RX10) (T := TX10) (N := 12) hx hb hts kb_inX10 hown hK.1 hP 0 rfl rfl 6 (by decide) (hK.2.w ww_2_158 rfl _) (fun _ h9 => h9) rfl dX10_size_177 ?_
                  exact RET _ H _ ls 180 hf hP hD hS dX10_size_180
                · rw [if_neg c_14] at hf
                  by_cases c_15 : x0 = (7 : Int32)
                  · rw [if_pos c_15] at hf
                    refine lv_tableIn (tgt := 181) hx hb dX10_size_1 (by rw [c_15]; decide) (by rw [c_15]; decide) (by rw [c_15]; rfl) (by decide) ?_
                    refine lv_aload_n hx hb dX10_size_181 rfl (lv_at hl 0 rfl) ?_
                    refine va_get (D := D) (ci := 10) (v := .ref (fa 0)) (C := RX10) (T := TX10) (N := 12) hx hb hts kb_inX10 hown hK.1 hP 0 rfl rfl 7 (by decide) (hK.2.w ww_2_159 rfl _) (fun _ h9 => h9) rfl dX10_size_182 ?_
                    refine va_get (D := D) (ci := 2) (v := .int (fm_count fm)) (C := RX2) (T := TX2) (N := 3) hx hb hts kb_inX2 hown hK.1 hP 33 rfl rfl 2 (by decide) (hK.2.w ww_2_32 rfl _) (fun _ h9 => h9) rfl dX10_size_185 ?_
                    exact RET _ H _ ls 188 hf hP hD hS dX10_size_188
                  · rw [if_neg c_15] at hf
                    by_cases c_16 : x0 = (8 : Int32)
                    · rw [if_pos c_16] at hf
                      refine lv_tableIn (tgt := 189) hx hb dX10_size_1 (by rw [c_16]; decide) (by rw [c_16]; decide) (by rw [c_16]; rfl) (by decide) ?_
                      refine lv_aload_n hx hb dX10_size_189 rfl (lv_at hl 0 rfl) ?_
                      refine va_get (D := D) (ci := 10) (v := .int (tp_hasBus tp)) (C := RX10) (T := TX10) (N := 12) hx hb hts kb_inX10 hown hK.1 hP 0 rfl rfl 3 (by decide) (hK.2.w ww_2_155 rfl _) (fun _ h9 => h9) rfl dX10_size_190 ?_
                      refine lv_if_eq (tgt := 209) hx hb dX10_size_193 (by decide) (fun c_17 => ?_) (fun c_17 => ?_)
                      · rw [if_pos c_17] at hf
                        refine lv_iconst (v := (0 : Int32)) hx hb dX10_size_209 (by decide) ?_
                        exact RET _ H _ ls 210 hf hP hD hS dX10_size_210
                      · rw [if_neg c_17] at hf
                        refine lv_aload_n hx hb dX10_size_196 rfl (lv_at hl 0 rfl) ?_
                        refine va_get (D := D) (ci := 10) (v := .ref (pa 0)) (C := RX10) (T := TX10) (N := 12) hx hb hts kb_inX10 hown hK.1 hP 0 rfl rfl 1 (by decide) (hK.2.w ww_2_153 rfl _) (fun _ h9 => h9) rfl dX10_size_197 ?_
                        refine va_get (D := D) (ci := 5) (v := .ref (pa 1)) (C := RX5) (T := TX5) (N := 8) hx hb hts kb_inX5 hown hK.1 hP 3 rfl rfl 0 (by decide) (hK.2.w ww_1_215 rfl _) (fun _ h9 => h9) rfl dX10_size_200 ?_
                        refine va_get (D := D) (ci := 0) (v := .int (cb_form (pl_cab pl))) (C := RX0) (T := TX0) (N := 8) hx hb hts kb_inX0 hown hK.1 hP 4 rfl rfl 1 (by decide) (hK.2.w ww_1_92 rfl _) (fun _ h9 => h9) rfl dX10_size_203 ?_
                        refine lv_goto (tgt := 210) hx hb dX10_size_206 (by decide) ?_
                        exact RET _ H _ ls 210 hf hP hD hS dX10_size_210
                    · rw [if_neg c_16] at hf
                      by_cases c_18 : x0 = (9 : Int32)
                      · rw [if_pos c_18] at hf
                        refine lv_tableIn (tgt := 211) hx hb dX10_size_1 (by rw [c_18]; decide) (by rw [c_18]; decide) (by rw [c_18]; rfl) (by decide) ?_
                        refine lv_aload_n hx hb dX10_size_211 rfl (lv_at hl 0 rfl) ?_
                        refine va_get (D := D) (ci := 10) (v := .ref (ya 0)) (C := RX10) (T := TX10) (N := 12) hx hb hts kb_inX10 hown hK.1 hP 0 rfl rfl 0 (by decide) (hK.2.w ww_2_152 rfl _) (fun _ h9 => h9) rfl dX10_size_212 ?_
                        refine va_get (D := D) (ci := 4) (v := .int (ps_length ps)) (C := RX4) (T := TX4) (N := 10) hx hb hts kb_inX4 hown hK.1 hP 1 rfl rfl 0 (by decide) (hK.2.w ww_1_39 rfl _) (fun _ h9 => h9) rfl dX10_size_215 ?_
                        exact RET _ H _ ls 218 hf hP hD hS dX10_size_218
                      · rw [if_neg c_18] at hf
                        refine lv_tableOut (tgt := 219) hx hb dX10_size_1 (kb_sw 0 9 (fun k q1 q2 => by
                            rcases (show k = 0 ∨ k = 1 ∨ k = 2 ∨ k = 3 ∨ k = 4 ∨ k = 5 ∨ k = 6 ∨ k = 7 ∨ k = 8 ∨ k = 9 by omega) with rfl | rfl | rfl | rfl | rfl | rfl | rfl | rfl | rfl | rfl
                            · exact fun e => c_1 (e.trans (by decide))
                            · exact fun e => c_3 (e.trans (by decide))
                            · exact fun e => c_5 (e.trans (by decide))
                            · exact fun e => c_7 (e.trans (by decide))
                            · exact fun e => c_9 (e.trans (by decide))
                            · exact fun e => c_12 (e.trans (by decide))
                            · exact fun e => c_14 (e.trans (by decide))
                            · exact fun e => c_15 (e.trans (by decide))
                            · exact fun e => c_16 (e.trans (by decide))
                            · exact fun e => c_18 (e.trans (by decide)))) (by decide) ?_
                        refine lv_iconst (v := (-1 : Int32)) hx hb dX10_size_219 (by decide) ?_
                        exact RET _ H _ ls 220 hf hP hD hS dX10_size_220
  exact E0 _ _ hP hD hS
