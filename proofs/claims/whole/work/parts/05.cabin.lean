noncomputable def f_X0_isSunny_b16 (cb : CabT) (s0 : Int32) (s1 : Int32) : Option (Int32) := (if s1 = s0 then some ((1 : Int32)) else some ((0 : Int32)))
noncomputable def f_X0_isSunny (cb : CabT) (x0 : Int32) : Option (Int32) := (if (2 : Int32) ≤ (x0 - x0 / (4 : Int32) * (4 : Int32)) then f_X0_isSunny_b16 cb (1 : Int32) (cb_sun cb) else f_X0_isSunny_b16 cb (0 : Int32) (cb_sun cb))
set_option maxHeartbeats 4000000 in
set_option maxRecDepth 100000 in
theorem c_X0_isSunny (l : Launch) (D : va_G) (dA : Nat → ClassId) (sz : Nat) (a : Nat → Nat) (cb : CabT) (x0 : Int32) (rv : Int32) (hf : f_X0_isSunny cb x0 = some (rv)) : kb_Mi l yX0_isSunny cX0_isSunny 2 (some .boolean) ({ frames := 0, cells := 0, slots := 0, locals := 0 } : Room) D dA [.ref (a 0), .int x0] sz (w_Cab dA a cb) 0 0 rv (w_Cab dA a cb) := by
  refine Met.ofW (cc := cX0_isSunny) (maxL := 2) (ret := (some .boolean)) (by decide) rfl ?_
  intro p e s m args below meth c s₁ B hml hv
  obtain ⟨rfl, hsz, hP, hK, hD0, hE⟩ := hv
  have hx := B.exec
  have hb := B.bytes
  have hr := B.returns
  have hown : s.vm.findClass RX0 = some m.cls := findClass_of_methodNamed B.named
  have hlocks := B.notSynchronized
  have hts : ∀ w ∈ kb_gw, w.before ([.ref (a 0), .int x0] : List Value).toArray s = true := fun w hw => hK.2.1 w hw _
  subst hsz
  have hD := hD0.self (sz := s.heap.size)
  generalize hAe : va_A (w_Cab dA a cb) s.heap.size = A at hD hE ⊢
  have hA : ∀ q : Nat, s.heap.size ≤ q → A q := fun q h => by rw [← hAe]; exact Or.inr h
  have hS : va_S A s.heap s.heap [] := va_S.rf
  have hl := lv_entry ([.ref (a 0), .int x0]) (n := 2) (Nat.le_of_ble_eq_true rfl)
  rw [lg_entry_eq]
  generalize (lg_sl ([.ref (a 0), .int x0]) ++ List.replicate (2 - (lg_sl ([.ref (a 0), .int x0])).length) Slot.unset).toArray = ls at hl ⊢
  have hl : lv_has ls 2 [(0, .ref (a 0)), (1, .int x0)] := hl
  generalize hQ : MQ below (va_Qi (fun r (_ : Unit) => r = rv) (kb_B D A (w_Cab dA a cb)) A) ([.ref (a 0), .int x0] : List Value).toArray s 0 0 A = Q
  show W p l e ({ frames := 0, cells := 0, slots := 0, locals := 0 } : Room) s m ([.ref (a 0), .int x0] : List Value).toArray below meth c s.heap [] 0 0 Q (F0 m 0 ls [])
  have RET : ∀ (r2 : Int32) (H : Heap) (locs : List Loc) (ls : Array Slot) (pc : Nat), some (r2) = some (rv) → va_P D vwCl (w_Cab dA a cb) H → va_D A (w_Cab dA a cb) → va_S A s.heap H locs → kb_01 r2 → decode cX0_isSunny pc = .ok (.ireturn, 1) → W p l e ({ frames := 0, cells := 0, slots := 0, locals := 0 } : Room) s m ([.ref (a 0), .int x0] : List Value).toArray below meth c H locs 0 0 Q (F0 m pc ls [.int r2]) := by
    intro r2 H locs ls pc hq hP hD hS h01 hd
    cases hq
    rw [← hQ]
    exact W.zret (ty := .boolean) hx hb hr (kb_nz h01) (fun t ht hW => ⟨⟨_, (), rfl, rfl, by rw [ht]; exact hP, hD⟩, hS.F ht⟩) hS.2.2 hd
  have B_16 : ∀ (s0 : Int32) (s1 : Int32) (H : Heap) (locs : List Loc) (ls : Array Slot), f_X0_isSunny_b16 cb s0 s1 = some (rv) → va_P D vwCl (w_Cab dA a cb) H → va_D A (w_Cab dA a cb) → va_S A s.heap H locs → lv_has ls 2 [] → W p l e ({ frames := 0, cells := 0, slots := 0, locals := 0 } : Room) s m ([.ref (a 0), .int x0] : List Value).toArray below meth c H locs 0 0 Q (F0 m 16 ls [.int s0, .int s1]) := by
    intro s0 s1 H locs ls hf hP hD hS hl
    rw [f_X0_isSunny_b16] at hf
    refine lv_icmp_ne (tgt := 23) hx hb dX0_isSunny_16 (by decide) (fun c_2 => ?_) (fun c_2 => ?_)
    · rw [if_neg c_2] at hf
      refine lv_iconst (v := (0 : Int32)) hx hb dX0_isSunny_23 (by decide) ?_
      exact RET _ H _ ls 24 hf hP hD hS (by decide) dX0_isSunny_24
    · rw [if_pos c_2] at hf
      refine lv_iconst (v := (1 : Int32)) hx hb dX0_isSunny_19 (by decide) ?_
      refine lv_goto (tgt := 24) hx hb dX0_isSunny_20 (by decide) ?_
      exact RET _ H _ ls 24 hf hP hD hS (by decide) dX0_isSunny_24
  have E0 : ∀ (H : Heap) (locs : List Loc), va_P D vwCl (w_Cab dA a cb) H → va_D A (w_Cab dA a cb) → va_S A s.heap H locs → W p l e ({ frames := 0, cells := 0, slots := 0, locals := 0 } : Room) s m ([.ref (a 0), .int x0] : List Value).toArray below meth c H locs 0 0 Q (F0 m 0 ls []) := by
    intro H locs hP hD hS
    rw [f_X0_isSunny] at hf
    refine lv_aload_n hx hb dX0_isSunny_0 rfl (lv_at hl 0 rfl) ?_
    refine va_get (D := D) (ci := 0) (v := .int (cb_sun cb)) (C := RX0) (T := TX0) (N := 8) hx hb hts kb_inX0 hown hK.1 hP 0 rfl rfl 5 (by decide) (hK.2.w ww_1_103 rfl _) (fun _ h9 => h9) rfl dX0_isSunny_1 ?_
    refine lv_iload_n hx hb dX0_isSunny_4 rfl (lv_at hl 1 rfl) ?_
    refine lv_iconst (v := (4 : Int32)) hx hb dX0_isSunny_5 (by decide) ?_
    refine lv_irem hx hb dX0_isSunny_6 (by decide) ?_
    refine lv_iconst (v := (2 : Int32)) hx hb dX0_isSunny_7 (by decide) ?_
    refine lv_icmp_ge (tgt := 15) hx hb dX0_isSunny_8 (by decide) (fun c_1 => ?_) (fun c_1 => ?_)
    · rw [if_pos c_1] at hf
      refine lv_iconst (v := (1 : Int32)) hx hb dX0_isSunny_15 (by decide) ?_
      exact B_16 _ _ _ _ _ hf hP hD hS (lv_sub hl [] rfl)
    · rw [if_neg c_1] at hf
      refine lv_iconst (v := (0 : Int32)) hx hb dX0_isSunny_11 (by decide) ?_
      refine lv_goto (tgt := 16) hx hb dX0_isSunny_12 (by decide) ?_
      exact B_16 _ _ _ _ _ hf hP hD hS (lv_sub hl [] rfl)
  exact E0 _ _ hP hD hS

noncomputable def f_X0_isShutIn_b26 (cb : CabT)  : Option (Int32) := some ((0 : Int32))
noncomputable def f_X0_isShutIn (cb : CabT) (x0 : Int32) : Option (Int32) := (f_X0_isWindow (x0 - x0 / (4 : Int32) * (4 : Int32))).bind fun r1 => (if r1 = 0 then f_X0_isShutIn_b26 cb  else (f_X0_isAisle (cb_form cb) (x0 - x0 / (4 : Int32) * (4 : Int32))).bind fun r3 => (if r3 = 0 then some ((1 : Int32)) else f_X0_isShutIn_b26 cb ))
set_option maxHeartbeats 4000000 in
set_option maxRecDepth 100000 in
theorem c_X0_isShutIn (l : Launch) (D : va_G) (dA : Nat → ClassId) (sz : Nat) (a : Nat → Nat) (cb : CabT) (x0 : Int32) (rv : Int32) (hf : f_X0_isShutIn cb x0 = some (rv)) : kb_Mi l yX0_isShutIn cX0_isShutIn 2 (some .boolean) ({ frames := 1, cells := 0, slots := 0, locals := 21 } : Room) D dA [.ref (a 0), .int x0] sz (w_Cab dA a cb) 0 0 rv (w_Cab dA a cb) := by
  refine Met.ofW (cc := cX0_isShutIn) (maxL := 2) (ret := (some .boolean)) (by decide) rfl ?_
  intro p e s m args below meth c s₁ B hml hv
  obtain ⟨rfl, hsz, hP, hK, hD0, hE⟩ := hv
  have hx := B.exec
  have hb := B.bytes
  have hr := B.returns
  have hown : s.vm.findClass RX0 = some m.cls := findClass_of_methodNamed B.named
  have hlocks := B.notSynchronized
  have hts : ∀ w ∈ kb_gw, w.before ([.ref (a 0), .int x0] : List Value).toArray s = true := fun w hw => hK.2.1 w hw _
  subst hsz
  have hD := hD0.self (sz := s.heap.size)
  generalize hAe : va_A (w_Cab dA a cb) s.heap.size = A at hD hE ⊢
  have hA : ∀ q : Nat, s.heap.size ≤ q → A q := fun q h => by rw [← hAe]; exact Or.inr h
  have hS : va_S A s.heap s.heap [] := va_S.rf
  have hl := lv_entry ([.ref (a 0), .int x0]) (n := 2) (Nat.le_of_ble_eq_true rfl)
  rw [lg_entry_eq]
  generalize (lg_sl ([.ref (a 0), .int x0]) ++ List.replicate (2 - (lg_sl ([.ref (a 0), .int x0])).length) Slot.unset).toArray = ls at hl ⊢
  have hl : lv_has ls 2 [(0, .ref (a 0)), (1, .int x0)] := hl
  generalize hQ : MQ below (va_Qi (fun r (_ : Unit) => r = rv) (kb_B D A (w_Cab dA a cb)) A) ([.ref (a 0), .int x0] : List Value).toArray s 0 0 A = Q
  show W p l e ({ frames := 1, cells := 0, slots := 0, locals := 21 } : Room) s m ([.ref (a 0), .int x0] : List Value).toArray below meth c s.heap [] 0 0 Q (F0 m 0 ls [])
  have RET : ∀ (r2 : Int32) (H : Heap) (locs : List Loc) (ls : Array Slot) (pc : Nat), some (r2) = some (rv) → va_P D vwCl (w_Cab dA a cb) H → va_D A (w_Cab dA a cb) → va_S A s.heap H locs → kb_01 r2 → decode cX0_isShutIn pc = .ok (.ireturn, 1) → W p l e ({ frames := 1, cells := 0, slots := 0, locals := 21 } : Room) s m ([.ref (a 0), .int x0] : List Value).toArray below meth c H locs 0 0 Q (F0 m pc ls [.int r2]) := by
    intro r2 H locs ls pc hq hP hD hS h01 hd
    cases hq
    rw [← hQ]
    exact W.zret (ty := .boolean) hx hb hr (kb_nz h01) (fun t ht hW => ⟨⟨_, (), rfl, rfl, by rw [ht]; exact hP, hD⟩, hS.F ht⟩) hS.2.2 hd
  have B_26 : ∀  (H : Heap) (locs : List Loc) (ls : Array Slot), f_X0_isShutIn_b26 cb  = some (rv) → va_P D vwCl (w_Cab dA a cb) H → va_D A (w_Cab dA a cb) → va_S A s.heap H locs → lv_has ls 2 [] → W p l e ({ frames := 1, cells := 0, slots := 0, locals := 21 } : Room) s m ([.ref (a 0), .int x0] : List Value).toArray below meth c H locs 0 0 Q (F0 m 26 ls []) := by
    intro  H locs ls hf hP hD hS hl
    rw [f_X0_isShutIn_b26] at hf
    refine lv_iconst (v := (0 : Int32)) hx hb dX0_isShutIn_26 (by decide) ?_
    exact RET _ H _ ls 27 hf hP hD hS (by decide) dX0_isShutIn_27
  have E0 : ∀ (H : Heap) (locs : List Loc), va_P D vwCl (w_Cab dA a cb) H → va_D A (w_Cab dA a cb) → va_S A s.heap H locs → W p l e ({ frames := 1, cells := 0, slots := 0, locals := 21 } : Room) s m ([.ref (a 0), .int x0] : List Value).toArray below meth c H locs 0 0 Q (F0 m 0 ls []) := by
    intro H locs hP hD hS
    rw [f_X0_isShutIn] at hf
    refine lv_iload_n hx hb dX0_isShutIn_0 rfl (lv_at hl 1 rfl) ?_
    refine lv_iconst (v := (4 : Int32)) hx hb dX0_isShutIn_1 (by decide) ?_
    refine lv_irem hx hb dX0_isShutIn_2 (by decide) ?_
    obtain ⟨r1, hc1, hf⟩ := kb_bind hf
    refine kb_ci (ws2 := (w_Cab dA a cb)) (kb_rS (n := 1) (As := [.int (x0 - x0 / (4 : Int32) * (4 : Int32))]) (rest := []) hx hb hml hown hK (c_X0_isWindow l D dA H.size (x0 - x0 / (4 : Int32) * (4 : Int32)) r1 hc1) ⟨ww_3_226, ww_3_224, ww_3_225, ww_1_4, by decide, by decide⟩ rfl rfl (by decide +kernel) ⟨Nat.le_of_ble_eq_true rfl, Nat.le_of_ble_eq_true rfl⟩ hP hD hS hA hE [] rfl (by decide) rfl hl.1 rfl (Nat.le_of_ble_eq_true rfl) dX0_isShutIn_3 ⟨Nat.le_of_ble_eq_true rfl, Nat.le_of_ble_eq_true rfl⟩) hP hD hS hA [] [0, 1] [0, 1] rfl rfl (by decide) (by decide) rfl (by decide) (fun H locs hP hD hS => ?_)
    refine lv_if_eq (tgt := 26) hx hb dX0_isShutIn_6 (by decide) (fun c_2 => ?_) (fun c_2 => ?_)
    · rw [if_pos c_2] at hf
      exact B_26 _ _ _ hf hP hD hS (lv_sub hl [] rfl)
    · rw [if_neg c_2] at hf
      refine lv_aload_n hx hb dX0_isShutIn_9 rfl (lv_at hl 0 rfl) ?_
      refine va_get (D := D) (ci := 0) (v := .int (cb_form cb)) (C := RX0) (T := TX0) (N := 8) hx hb hts kb_inX0 hown hK.1 hP 0 rfl rfl 1 (by decide) (hK.2.w ww_1_90 rfl _) (fun _ h9 => h9) rfl dX0_isShutIn_10 ?_
      refine lv_iload_n hx hb dX0_isShutIn_13 rfl (lv_at hl 1 rfl) ?_
      refine lv_iconst (v := (4 : Int32)) hx hb dX0_isShutIn_14 (by decide) ?_
      refine lv_irem hx hb dX0_isShutIn_15 (by decide) ?_
      obtain ⟨r3, hc3, hf⟩ := kb_bind hf
      refine kb_ci (ws2 := (w_Cab dA a cb)) (kb_rS (n := 2) (As := [.int (cb_form cb), .int (x0 - x0 / (4 : Int32) * (4 : Int32))]) (rest := []) hx hb hml hown hK (c_X0_isAisle l D dA H.size (cb_form cb) (x0 - x0 / (4 : Int32) * (4 : Int32)) r3 hc3) ⟨ww_3_229, ww_3_227, ww_3_228, ww_1_4, by decide, by decide⟩ rfl rfl (by decide +kernel) ⟨Nat.le_of_ble_eq_true rfl, Nat.le_of_ble_eq_true rfl⟩ hP hD hS hA hE [] rfl (by decide) rfl hl.1 rfl (Nat.le_of_ble_eq_true rfl) dX0_isShutIn_16 ⟨Nat.le_of_ble_eq_true rfl, Nat.le_of_ble_eq_true rfl⟩) hP hD hS hA [] [0, 1] [0, 1] rfl rfl (by decide) (by decide) rfl (by decide) (fun H locs hP hD hS => ?_)
      refine lv_if_ne (tgt := 26) hx hb dX0_isShutIn_19 (by decide) (fun c_4 => ?_) (fun c_4 => ?_)
      · rw [if_neg c_4] at hf
        exact B_26 _ _ _ hf hP hD hS (lv_sub hl [] rfl)
      · rw [if_pos c_4] at hf
        refine lv_iconst (v := (1 : Int32)) hx hb dX0_isShutIn_22 (by decide) ?_
        refine lv_goto (tgt := 27) hx hb dX0_isShutIn_23 (by decide) ?_
        exact RET _ H _ ls 27 hf hP hD hS (by decide) dX0_isShutIn_27
  exact E0 _ _ hP hD hS

noncomputable def f_X0_walk (cb : CabT) (x0 : Int32) : Option (Int32) := (f_X10_gap (x0 / (4 : Int32)) (cb_door cb)).bind fun r1 => some (((cb_pace cb) * ((1 : Int32) + r1)))
set_option maxHeartbeats 4000000 in
set_option maxRecDepth 100000 in
theorem c_X0_walk (l : Launch) (D : va_G) (dA : Nat → ClassId) (sz : Nat) (a : Nat → Nat) (cb : CabT) (x0 : Int32) (rv : Int32) (hf : f_X0_walk cb x0 = some (rv)) : kb_Mi l yX0_walk cX0_walk 2 (some .int) ({ frames := 1, cells := 0, slots := 0, locals := 21 } : Room) D dA [.ref (a 0), .int x0] sz (w_Cab dA a cb) 0 0 rv (w_Cab dA a cb) := by
  refine Met.ofW (cc := cX0_walk) (maxL := 2) (ret := (some .int)) (by decide) rfl ?_
  intro p e s m args below meth c s₁ B hml hv
  obtain ⟨rfl, hsz, hP, hK, hD0, hE⟩ := hv
  have hx := B.exec
  have hb := B.bytes
  have hr := B.returns
  have hown : s.vm.findClass RX0 = some m.cls := findClass_of_methodNamed B.named
  have hlocks := B.notSynchronized
  have hts : ∀ w ∈ kb_gw, w.before ([.ref (a 0), .int x0] : List Value).toArray s = true := fun w hw => hK.2.1 w hw _
  subst hsz
  have hD := hD0.self (sz := s.heap.size)
  generalize hAe : va_A (w_Cab dA a cb) s.heap.size = A at hD hE ⊢
  have hA : ∀ q : Nat, s.heap.size ≤ q → A q := fun q h => by rw [← hAe]; exact Or.inr h
  have hS : va_S A s.heap s.heap [] := va_S.rf
  have hl := lv_entry ([.ref (a 0), .int x0]) (n := 2) (Nat.le_of_ble_eq_true rfl)
  rw [lg_entry_eq]
  generalize (lg_sl ([.ref (a 0), .int x0]) ++ List.replicate (2 - (lg_sl ([.ref (a 0), .int x0])).length) Slot.unset).toArray = ls at hl ⊢
  have hl : lv_has ls 2 [(0, .ref (a 0)), (1, .int x0)] := hl
  generalize hQ : MQ below (va_Qi (fun r (_ : Unit) => r = rv) (kb_B D A (w_Cab dA a cb)) A) ([.ref (a 0), .int x0] : List Value).toArray s 0 0 A = Q
  show W p l e ({ frames := 1, cells := 0, slots := 0, locals := 21 } : Room) s m ([.ref (a 0), .int x0] : List Value).toArray below meth c s.heap [] 0 0 Q (F0 m 0 ls [])
  have RET : ∀ (r2 : Int32) (H : Heap) (locs : List Loc) (ls : Array Slot) (pc : Nat), some (r2) = some (rv) → va_P D vwCl (w_Cab dA a cb) H → va_D A (w_Cab dA a cb) → va_S A s.heap H locs → decode cX0_walk pc = .ok (.ireturn, 1) → W p l e ({ frames := 1, cells := 0, slots := 0, locals := 21 } : Room) s m ([.ref (a 0), .int x0] : List Value).toArray below meth c H locs 0 0 Q (F0 m pc ls [.int r2]) := by
    intro r2 H locs ls pc hq hP hD hS hd
    cases hq
    rw [← hQ]
    exact W.iret hx hb hr (fun t ht hW => ⟨⟨_, (), rfl, rfl, by rw [ht]; exact hP, hD⟩, hS.F ht⟩) hS.2.2 hd
  have E0 : ∀ (H : Heap) (locs : List Loc), va_P D vwCl (w_Cab dA a cb) H → va_D A (w_Cab dA a cb) → va_S A s.heap H locs → W p l e ({ frames := 1, cells := 0, slots := 0, locals := 21 } : Room) s m ([.ref (a 0), .int x0] : List Value).toArray below meth c H locs 0 0 Q (F0 m 0 ls []) := by
    intro H locs hP hD hS
    rw [f_X0_walk] at hf
    refine lv_aload_n hx hb dX0_walk_0 rfl (lv_at hl 0 rfl) ?_
    refine va_get (D := D) (ci := 0) (v := .int (cb_pace cb)) (C := RX0) (T := TX0) (N := 8) hx hb hts kb_inX0 hown hK.1 hP 0 rfl rfl 3 (by decide) (hK.2.w ww_1_97 rfl _) (fun _ h9 => h9) rfl dX0_walk_1 ?_
    refine lv_iconst (v := (1 : Int32)) hx hb dX0_walk_4 (by decide) ?_
    refine lv_iload_n hx hb dX0_walk_5 rfl (lv_at hl 1 rfl) ?_
    refine lv_iconst (v := (4 : Int32)) hx hb dX0_walk_6 (by decide) ?_
    refine lv_idiv hx hb dX0_walk_7 (by decide) ?_
    refine lv_aload_n hx hb dX0_walk_8 rfl (lv_at hl 0 rfl) ?_
    refine va_get (D := D) (ci := 0) (v := .int (cb_door cb)) (C := RX0) (T := TX0) (N := 8) hx hb hts kb_inX0 hown hK.1 hP 0 rfl rfl 2 (by decide) (hK.2.w ww_1_94 rfl _) (fun _ h9 => h9) rfl dX0_walk_9 ?_
    obtain ⟨r1, hc1, hf⟩ := kb_bind hf
    refine kb_ci (ws2 := (w_Cab dA a cb)) (kb_rSN (n := 2) (As := [.int (x0 / (4 : Int32)), .int (cb_door cb)]) (rest := [.int (1 : Int32), .int (cb_pace cb)]) hx hb hml hown hK (c_X10_gap l D dA H.size (x0 / (4 : Int32)) (cb_door cb) r1 hc1) ⟨ww_3_219, ww_3_217, ww_3_218, ww_1_1, by decide, by decide⟩ rfl rfl (by decide +kernel) ⟨Nat.le_of_ble_eq_true rfl, Nat.le_of_ble_eq_true rfl⟩ hP hD hS hA hE [] rfl (by decide) rfl hl.1 rfl (Nat.le_of_ble_eq_true rfl) dX0_walk_12 ⟨Nat.le_of_ble_eq_true rfl, Nat.le_of_ble_eq_true rfl⟩) hP hD hS hA [] [0, 1] [0, 1] rfl rfl (by decide) (by decide) rfl (by decide) (fun H locs hP hD hS => ?_)
    refine lv_iadd hx hb dX0_walk_15 ?_
    refine lv_imul hx hb dX0_walk_16 ?_
    exact RET _ H _ ls 17 hf hP hD hS dX0_walk_17
  exact E0 _ _ hP hD hS

noncomputable def f_X0_part (cb : CabT) (x0 : Int32) (x1 : Int32) (x2 : Int32) : Option (Int32) := (if x2 = (0 : Int32) then some ((1 : Int32)) else (if x2 = (1 : Int32) then (f_X0_isWindow (x1 - x1 / (4 : Int32) * (4 : Int32))).bind fun r3 => (if r3 = 0 then some ((0 : Int32)) else some ((1 : Int32))) else (if x2 = (2 : Int32) then (f_X0_isPaired x0 (x1 - x1 / (4 : Int32) * (4 : Int32))).bind fun r6 => (if r6 = 0 then some ((1 : Int32)) else some ((0 : Int32))) else (f_X0_walk cb x1).bind fun r8 => some (r8))))
set_option maxHeartbeats 4000000 in
set_option maxRecDepth 100000 in
theorem c_X0_part (l : Launch) (D : va_G) (dA : Nat → ClassId) (sz : Nat) (a : Nat → Nat) (cb : CabT) (x0 : Int32) (x1 : Int32) (x2 : Int32) (rv : Int32) (hf : f_X0_part cb x0 x1 x2 = some (rv)) : kb_Mi l yX0_part cX0_part 4 (some .int) ({ frames := 2, cells := 0, slots := 0, locals := 42 } : Room) D dA [.ref (a 0), .int x0, .int x1, .int x2] sz (w_Cab dA a cb) 0 0 rv (w_Cab dA a cb) := by
  refine Met.ofW (cc := cX0_part) (maxL := 4) (ret := (some .int)) (by decide) rfl ?_
  intro p e s m args below meth c s₁ B hml hv
  obtain ⟨rfl, hsz, hP, hK, hD0, hE⟩ := hv
  have hx := B.exec
  have hb := B.bytes
  have hr := B.returns
  have hown : s.vm.findClass RX0 = some m.cls := findClass_of_methodNamed B.named
  have hlocks := B.notSynchronized
  have hts : ∀ w ∈ kb_gw, w.before ([.ref (a 0), .int x0, .int x1, .int x2] : List Value).toArray s = true := fun w hw => hK.2.1 w hw _
  subst hsz
  have hD := hD0.self (sz := s.heap.size)
  generalize hAe : va_A (w_Cab dA a cb) s.heap.size = A at hD hE ⊢
  have hA : ∀ q : Nat, s.heap.size ≤ q → A q := fun q h => by rw [← hAe]; exact Or.inr h
  have hS : va_S A s.heap s.heap [] := va_S.rf
  have hl := lv_entry ([.ref (a 0), .int x0, .int x1, .int x2]) (n := 4) (Nat.le_of_ble_eq_true rfl)
  rw [lg_entry_eq]
  generalize (lg_sl ([.ref (a 0), .int x0, .int x1, .int x2]) ++ List.replicate (4 - (lg_sl ([.ref (a 0), .int x0, .int x1, .int x2])).length) Slot.unset).toArray = ls at hl ⊢
  have hl : lv_has ls 4 [(0, .ref (a 0)), (1, .int x0), (2, .int x1), (3, .int x2)] := hl
  generalize hQ : MQ below (va_Qi (fun r (_ : Unit) => r = rv) (kb_B D A (w_Cab dA a cb)) A) ([.ref (a 0), .int x0, .int x1, .int x2] : List Value).toArray s 0 0 A = Q
  show W p l e ({ frames := 2, cells := 0, slots := 0, locals := 42 } : Room) s m ([.ref (a 0), .int x0, .int x1, .int x2] : List Value).toArray below meth c s.heap [] 0 0 Q (F0 m 0 ls [])
  have RET : ∀ (r2 : Int32) (H : Heap) (locs : List Loc) (ls : Array Slot) (pc : Nat), some (r2) = some (rv) → va_P D vwCl (w_Cab dA a cb) H → va_D A (w_Cab dA a cb) → va_S A s.heap H locs → decode cX0_part pc = .ok (.ireturn, 1) → W p l e ({ frames := 2, cells := 0, slots := 0, locals := 42 } : Room) s m ([.ref (a 0), .int x0, .int x1, .int x2] : List Value).toArray below meth c H locs 0 0 Q (F0 m pc ls [.int r2]) := by
    intro r2 H locs ls pc hq hP hD hS hd
    cases hq
    rw [← hQ]
    exact W.iret hx hb hr (fun t ht hW => ⟨⟨_, (), rfl, rfl, by rw [ht]; exact hP, hD⟩, hS.F ht⟩) hS.2.2 hd
  have E0 : ∀ (H : Heap) (locs : List Loc), va_P D vwCl (w_Cab dA a cb) H → va_D A (w_Cab dA a cb) → va_S A s.heap H locs → W p l e ({ frames := 2, cells := 0, slots := 0, locals := 42 } : Room) s m ([.ref (a 0), .int x0, .int x1, .int x2] : List Value).toArray below meth c H locs 0 0 Q (F0 m 0 ls []) := by
    intro H locs hP hD hS
    rw [f_X0_part] at hf
    refine lv_iload_n hx hb dX0_part_0 rfl (lv_at hl 3 rfl) ?_
    by_cases c_1 : x2 = (0 : Int32)
    · rw [if_pos c_1] at hf
      refine lv_tableIn (tgt := 28) hx hb dX0_part_1 (by rw [c_1]; decide) (by rw [c_1]; decide) (by rw [c_1]; rfl) (by decide) ?_
      refine lv_iconst (v := (1 : Int32)) hx hb dX0_part_28 (by decide) ?_
      exact RET _ H _ ls 29 hf hP hD hS dX0_part_29
    · rw [if_neg c_1] at hf
      by_cases c_2 : x2 = (1 : Int32)
      · rw [if_pos c_2] at hf
        refine lv_tableIn (tgt := 30) hx hb dX0_part_1 (by rw [c_2]; decide) (by rw [c_2]; decide) (by rw [c_2]; rfl) (by decide) ?_
        refine lv_iload_n hx hb dX0_part_30 rfl (lv_at hl 2 rfl) ?_
        refine lv_iconst (v := (4 : Int32)) hx hb dX0_part_31 (by decide) ?_
        refine lv_irem hx hb dX0_part_32 (by decide) ?_
        obtain ⟨r3, hc3, hf⟩ := kb_bind hf
        refine kb_ci (ws2 := (w_Cab dA a cb)) (kb_rS (n := 1) (As := [.int (x1 - x1 / (4 : Int32) * (4 : Int32))]) (rest := []) hx hb hml hown hK (c_X0_isWindow l D dA H.size (x1 - x1 / (4 : Int32) * (4 : Int32)) r3 hc3) ⟨ww_3_226, ww_3_224, ww_3_225, ww_1_4, by decide, by decide⟩ rfl rfl (by decide +kernel) ⟨Nat.le_of_ble_eq_true rfl, Nat.le_of_ble_eq_true rfl⟩ hP hD hS hA hE [] rfl (by decide) rfl hl.1 rfl (Nat.le_of_ble_eq_true rfl) dX0_part_33 ⟨Nat.le_of_ble_eq_true rfl, Nat.le_of_ble_eq_true rfl⟩) hP hD hS hA [] [0, 1] [0, 1] rfl rfl (by decide) (by decide) rfl (by decide) (fun H locs hP hD hS => ?_)
        refine lv_if_eq (tgt := 43) hx hb dX0_part_36 (by decide) (fun c_4 => ?_) (fun c_4 => ?_)
        · rw [if_pos c_4] at hf
          refine lv_iconst (v := (0 : Int32)) hx hb dX0_part_43 (by decide) ?_
          exact RET _ H _ ls 44 hf hP hD hS dX0_part_44
        · rw [if_neg c_4] at hf
          refine lv_iconst (v := (1 : Int32)) hx hb dX0_part_39 (by decide) ?_
          refine lv_goto (tgt := 44) hx hb dX0_part_40 (by decide) ?_
          exact RET _ H _ ls 44 hf hP hD hS dX0_part_44
      · rw [if_neg c_2] at hf
        by_cases c_5 : x2 = (2 : Int32)
        · rw [if_pos c_5] at hf
          refine lv_tableIn (tgt := 45) hx hb dX0_part_1 (by rw [c_5]; decide) (by rw [c_5]; decide) (by rw [c_5]; rfl) (by decide) ?_
          refine lv_iload_n hx hb dX0_part_45 rfl (lv_at hl 1 rfl) ?_
          refine lv_iload_n hx hb dX0_part_46 rfl (lv_at hl 2 rfl) ?_
          refine lv_iconst (v := (4 : Int32)) hx hb dX0_part_47 (by decide) ?_
          refine lv_irem hx hb dX0_part_48 (by decide) ?_
          obtain ⟨r6, hc6, hf⟩ := kb_bind hf
          refine kb_ci (ws2 := (w_Cab dA a cb)) (kb_rS (n := 2) (As := [.int x0, .int (x1 - x1 / (4 : Int32) * (4 : Int32))]) (rest := []) hx hb hml hown hK (c_X0_isPaired l D dA H.size x0 (x1 - x1 / (4 : Int32) * (4 : Int32)) r6 hc6) ⟨ww_3_84, ww_3_82, ww_3_83, ww_1_4, by decide, by decide⟩ rfl rfl (by decide +kernel) ⟨Nat.le_of_ble_eq_true rfl, Nat.le_of_ble_eq_true rfl⟩ hP hD hS hA hE [] rfl (by decide) rfl hl.1 rfl (Nat.le_of_ble_eq_true rfl) dX0_part_49 ⟨Nat.le_of_ble_eq_true rfl, Nat.le_of_ble_eq_true rfl⟩) hP hD hS hA [] [0, 1] [0, 1] rfl rfl (by decide) (by decide) rfl (by decide) (fun H locs hP hD hS => ?_)
          refine lv_if_eq (tgt := 59) hx hb dX0_part_52 (by decide) (fun c_7 => ?_) (fun c_7 => ?_)
          · rw [if_pos c_7] at hf
            refine lv_iconst (v := (1 : Int32)) hx hb dX0_part_59 (by decide) ?_
            exact RET _ H _ ls 60 hf hP hD hS dX0_part_60
          · rw [if_neg c_7] at hf
            refine lv_iconst (v := (0 : Int32)) hx hb dX0_part_55 (by decide) ?_
            refine lv_goto (tgt := 60) hx hb dX0_part_56 (by decide) ?_
            exact RET _ H _ ls 60 hf hP hD hS dX0_part_60
        · rw [if_neg c_5] at hf
          refine lv_tableOut (tgt := 61) hx hb dX0_part_1 (kb_sw 0 2 (fun k q1 q2 => by
              rcases (show k = 0 ∨ k = 1 ∨ k = 2 by omega) with rfl | rfl | rfl
              · exact fun e => c_1 (e.trans (by decide))
              · exact fun e => c_2 (e.trans (by decide))
              · exact fun e => c_5 (e.trans (by decide)))) (by decide) ?_
          refine lv_aload_n hx hb dX0_part_61 rfl (lv_at hl 0 rfl) ?_
          refine lv_iload_n hx hb dX0_part_62 rfl (lv_at hl 2 rfl) ?_
          obtain ⟨r8, hc8, hf⟩ := kb_bind hf
          refine kb_ci (ws2 := (w_Cab dA a cb)) (kb_rV (n := 1) (As := [.int x1]) (rest := []) hx hb hml hown hK (c_X0_walk l D dA H.size a cb x1 r8 hc8) ⟨ww_3_216, ww_5_81, ww_3_214, ww_3_215, ww_1_4, rfl, by decide, by decide⟩ rfl rfl (by decide +kernel) ⟨Nat.le_of_ble_eq_true rfl, Nat.le_of_ble_eq_true rfl⟩ hP hD hS hA hE [0, 1] rfl (by decide) 0 rfl rfl rfl hl.1 rfl (Nat.le_of_ble_eq_true rfl) dX0_part_63 ⟨Nat.le_of_ble_eq_true rfl, Nat.le_of_ble_eq_true rfl⟩) hP hD hS hA [0, 1] [] [0, 1] rfl rfl (by decide) (by decide) rfl (by decide) (fun H locs hP hD hS => ?_)
          exact RET _ H _ ls 66 hf hP hD hS dX0_part_66
  exact E0 _ _ hP hD hS

noncomputable def f_X0_total_b5 (cb : CabT) : Nat → Int32 → Int32 → Int32 → Int32 → Option (Int32)
  | 0, _, _, _, _ => none
  | n + 1, v1, v2, v3, v4 => (if ((4 : Int32) * (cb_rows cb)) ≤ v4 then some (v3) else (f_X0_isIn v1 (v4 - v4 / (4 : Int32) * (4 : Int32))).bind fun r2 => (if r2 = 0 then f_X0_total_b5 cb n v1 v2 v3 (v4 + (1 : Int32)) else (f_X0_part cb v1 v4 v2).bind fun r4 => f_X0_total_b5 cb n v1 v2 (v3 + r4) (v4 + (1 : Int32))))
noncomputable def f_X0_total (cb : CabT) (x0 : Int32) (x1 : Int32) : Option (Int32) := f_X0_total_b5 cb 4096 x0 x1 (0 : Int32) (0 : Int32)
set_option maxHeartbeats 4000000 in
set_option maxRecDepth 100000 in
theorem c_X0_total (l : Launch) (D : va_G) (dA : Nat → ClassId) (sz : Nat) (a : Nat → Nat) (cb : CabT) (x0 : Int32) (x1 : Int32) (rv : Int32) (hf : f_X0_total cb x0 x1 = some (rv)) : kb_Mi l yX0_total cX0_total 5 (some .int) ({ frames := 3, cells := 0, slots := 0, locals := 65 } : Room) D dA [.ref (a 0), .int x0, .int x1] sz (w_Cab dA a cb) 0 0 rv (w_Cab dA a cb) := by
  refine Met.ofW (cc := cX0_total) (maxL := 5) (ret := (some .int)) (by decide) rfl ?_
  intro p e s m args below meth c s₁ B hml hv
  obtain ⟨rfl, hsz, hP, hK, hD0, hE⟩ := hv
  have hx := B.exec
  have hb := B.bytes
  have hr := B.returns
  have hown : s.vm.findClass RX0 = some m.cls := findClass_of_methodNamed B.named
  have hlocks := B.notSynchronized
  have hts : ∀ w ∈ kb_gw, w.before ([.ref (a 0), .int x0, .int x1] : List Value).toArray s = true := fun w hw => hK.2.1 w hw _
  subst hsz
  have hD := hD0.self (sz := s.heap.size)
  generalize hAe : va_A (w_Cab dA a cb) s.heap.size = A at hD hE ⊢
  have hA : ∀ q : Nat, s.heap.size ≤ q → A q := fun q h => by rw [← hAe]; exact Or.inr h
  have hS : va_S A s.heap s.heap [] := va_S.rf
  have hl := lv_entry ([.ref (a 0), .int x0, .int x1]) (n := 5) (Nat.le_of_ble_eq_true rfl)
  rw [lg_entry_eq]
  generalize (lg_sl ([.ref (a 0), .int x0, .int x1]) ++ List.replicate (5 - (lg_sl ([.ref (a 0), .int x0, .int x1])).length) Slot.unset).toArray = ls at hl ⊢
  have hl : lv_has ls 5 [(0, .ref (a 0)), (1, .int x0), (2, .int x1)] := hl
  generalize hQ : MQ below (va_Qi (fun r (_ : Unit) => r = rv) (kb_B D A (w_Cab dA a cb)) A) ([.ref (a 0), .int x0, .int x1] : List Value).toArray s 0 0 A = Q
  show W p l e ({ frames := 3, cells := 0, slots := 0, locals := 65 } : Room) s m ([.ref (a 0), .int x0, .int x1] : List Value).toArray below meth c s.heap [] 0 0 Q (F0 m 0 ls [])
  have RET : ∀ (r2 : Int32) (H : Heap) (locs : List Loc) (ls : Array Slot) (pc : Nat), some (r2) = some (rv) → va_P D vwCl (w_Cab dA a cb) H → va_D A (w_Cab dA a cb) → va_S A s.heap H locs → decode cX0_total pc = .ok (.ireturn, 1) → W p l e ({ frames := 3, cells := 0, slots := 0, locals := 65 } : Room) s m ([.ref (a 0), .int x0, .int x1] : List Value).toArray below meth c H locs 0 0 Q (F0 m pc ls [.int r2]) := by
    intro r2 H locs ls pc hq hP hD hS hd
    cases hq
    rw [← hQ]
    exact W.iret hx hb hr (fun t ht hW => ⟨⟨_, (), rfl, rfl, by rw [ht]; exact hP, hD⟩, hS.F ht⟩) hS.2.2 hd
  have B_5 : ∀ (n : Nat) (v1 : Int32) (v2 : Int32) (v3 : Int32) (v4 : Int32) (H : Heap) (locs : List Loc) (ls : Array Slot), f_X0_total_b5 cb n v1 v2 v3 v4 = some (rv) → va_P D vwCl (w_Cab dA a cb) H → va_D A (w_Cab dA a cb) → va_S A s.heap H locs → lv_has ls 5 [(0, .ref (a 0)), (1, .int v1), (2, .int v2), (3, .int v3), (4, .int v4)] → W p l e ({ frames := 3, cells := 0, slots := 0, locals := 65 } : Room) s m ([.ref (a 0), .int x0, .int x1] : List Value).toArray below meth c H locs 0 0 Q (F0 m 5 ls []) := by
    intro n
    induction n with
    | zero =>
      intro v1 v2 v3 v4 H locs ls hf
      exact absurd hf (by simp [f_X0_total_b5])
    | succ n ih =>
      intro v1 v2 v3 v4 H locs ls hf hP hD hS hl
      rw [f_X0_total_b5] at hf
      refine lv_iload hx hb dX0_total_5 (lv_at hl 4 rfl) ?_
      refine lv_iconst (v := (4 : Int32)) hx hb dX0_total_7 (by decide) ?_
      refine lv_aload_n hx hb dX0_total_8 rfl (lv_at hl 0 rfl) ?_
      refine va_get (D := D) (ci := 0) (v := .int (cb_rows cb)) (C := RX0) (T := TX0) (N := 8) hx hb hts kb_inX0 hown hK.1 hP 0 rfl rfl 0 (by decide) (hK.2.w ww_1_87 rfl _) (fun _ h9 => h9) rfl dX0_total_9 ?_
      refine lv_imul hx hb dX0_total_12 ?_
      refine lv_icmp_ge (tgt := 44) hx hb dX0_total_13 (by decide) (fun c_1 => ?_) (fun c_1 => ?_)
      · rw [if_pos c_1] at hf
        refine lv_iload_n hx hb dX0_total_44 rfl (lv_at hl 3 rfl) ?_
        exact RET _ H _ ls 45 hf hP hD hS dX0_total_45
      · rw [if_neg c_1] at hf
        refine lv_iload_n hx hb dX0_total_16 rfl (lv_at hl 1 rfl) ?_
        refine lv_iload hx hb dX0_total_17 (lv_at hl 4 rfl) ?_
        refine lv_iconst (v := (4 : Int32)) hx hb dX0_total_19 (by decide) ?_
        refine lv_irem hx hb dX0_total_20 (by decide) ?_
        obtain ⟨r2, hc2, hf⟩ := kb_bind hf
        refine kb_ci (ws2 := (w_Cab dA a cb)) (kb_rS (n := 2) (As := [.int v1, .int (v4 - v4 / (4 : Int32) * (4 : Int32))]) (rest := []) hx hb hml hown hK (c_X0_isIn l D dA H.size v1 (v4 - v4 / (4 : Int32) * (4 : Int32)) r2 hc2) ⟨ww_3_81, ww_3_79, ww_3_80, ww_1_4, by decide, by decide⟩ rfl rfl (by decide +kernel) ⟨Nat.le_of_ble_eq_true rfl, Nat.le_of_ble_eq_true rfl⟩ hP hD hS hA hE [] rfl (by decide) rfl hl.1 rfl (Nat.le_of_ble_eq_true rfl) dX0_total_21 ⟨Nat.le_of_ble_eq_true rfl, Nat.le_of_ble_eq_true rfl⟩) hP hD hS hA [] [0, 1] [0, 1] rfl rfl (by decide) (by decide) rfl (by decide) (fun H locs hP hD hS => ?_)
        refine lv_if_eq (tgt := 38) hx hb dX0_total_24 (by decide) (fun c_3 => ?_) (fun c_3 => ?_)
        · rw [if_pos c_3] at hf
          refine lv_iinc (v := (v4 + (1 : Int32))) (lv' := [(4, .int (v4 + (1 : Int32))), (0, .ref (a 0)), (1, .int v1), (2, .int v2), (3, .int v3)]) hx hb dX0_total_38 hl (k := 4) rfl (by rfl) (by decide) rfl (fun ls hl => ?_)
          refine lv_goto (tgt := 5) hx hb dX0_total_41 (by decide) ?_
          exact ih _ _ _ _ _ _ _ hf hP hD hS (lv_sub hl [1, 2, 3, 4, 0] rfl)
        · rw [if_neg c_3] at hf
          refine lv_iload_n hx hb dX0_total_27 rfl (lv_at hl 3 rfl) ?_
          refine lv_aload_n hx hb dX0_total_28 rfl (lv_at hl 0 rfl) ?_
          refine lv_iload_n hx hb dX0_total_29 rfl (lv_at hl 1 rfl) ?_
          refine lv_iload hx hb dX0_total_30 (lv_at hl 4 rfl) ?_
          refine lv_iload_n hx hb dX0_total_32 rfl (lv_at hl 2 rfl) ?_
          obtain ⟨r4, hc4, hf⟩ := kb_bind hf
          refine kb_ci (ws2 := (w_Cab dA a cb)) (kb_rV (n := 3) (As := [.int v1, .int v4, .int v2]) (rest := [.int v3]) hx hb hml hown hK (c_X0_part l D dA H.size a cb v1 v4 v2 r4 hc4) ⟨ww_5_80, ww_5_77, ww_5_79, ws_44, ww_1_4, rfl, by decide, by decide⟩ rfl rfl (by decide +kernel) ⟨Nat.le_of_ble_eq_true rfl, Nat.le_of_ble_eq_true rfl⟩ hP hD hS hA hE [0, 1] rfl (by decide) 0 rfl rfl rfl hl.1 rfl (Nat.le_of_ble_eq_true rfl) dX0_total_33 ⟨Nat.le_of_ble_eq_true rfl, Nat.le_of_ble_eq_true rfl⟩) hP hD hS hA [0, 1] [] [0, 1] rfl rfl (by decide) (by decide) rfl (by decide) (fun H locs hP hD hS => ?_)
          refine lv_iadd hx hb dX0_total_36 ?_
          refine lv_istore_n (lv' := [(3, .int (v3 + r4)), (0, .ref (a 0)), (1, .int v1), (2, .int v2), (4, .int v4)]) hx hb dX0_total_37 rfl hl (by decide) rfl (fun ls hl => ?_)
          refine lv_iinc (v := (v4 + (1 : Int32))) (lv' := [(4, .int (v4 + (1 : Int32))), (3, .int (v3 + r4)), (0, .ref (a 0)), (1, .int v1), (2, .int v2)]) hx hb dX0_total_38 hl (k := 4) rfl (by rfl) (by decide) rfl (fun ls hl => ?_)
          refine lv_goto (tgt := 5) hx hb dX0_total_41 (by decide) ?_
          exact ih _ _ _ _ _ _ _ hf hP hD hS (lv_sub hl [2, 3, 4, 1, 0] rfl)
  have E0 : ∀ (H : Heap) (locs : List Loc), va_P D vwCl (w_Cab dA a cb) H → va_D A (w_Cab dA a cb) → va_S A s.heap H locs → W p l e ({ frames := 3, cells := 0, slots := 0, locals := 65 } : Room) s m ([.ref (a 0), .int x0, .int x1] : List Value).toArray below meth c H locs 0 0 Q (F0 m 0 ls []) := by
    intro H locs hP hD hS
    rw [f_X0_total] at hf
    refine lv_iconst (v := (0 : Int32)) hx hb dX0_total_0 (by decide) ?_
    refine lv_istore_n (lv' := [(3, .int (0 : Int32)), (0, .ref (a 0)), (1, .int x0), (2, .int x1)]) hx hb dX0_total_1 rfl hl (by decide) rfl (fun ls hl => ?_)
    refine lv_iconst (v := (0 : Int32)) hx hb dX0_total_2 (by decide) ?_
    refine lv_istore (lv' := [(4, .int (0 : Int32)), (3, .int (0 : Int32)), (0, .ref (a 0)), (1, .int x0), (2, .int x1)]) hx hb dX0_total_3 hl (by decide) rfl (fun ls hl => ?_)
    exact B_5 4096 _ _ _ _ _ _ _ hf hP hD hS (lv_sub hl [2, 3, 4, 1, 0] rfl)
  exact E0 _ _ hP hD hS

noncomputable def f_X0_isBetter_b55 (cb : CabT) (k5 : Int32 → Int32 → Int32 → Int32 → Option (Int32)) (v1 : Int32) (v2 : Int32) (v4 : Int32) : Option (Int32) := k5 v1 v2 (1 : Int32) (v4 + (1 : Int32))
noncomputable def f_X0_isBetter_b39 (cb : CabT) (k5 : Int32 → Int32 → Int32 → Int32 → Option (Int32)) (v1 : Int32) (v2 : Int32) (v3 : Int32) (v4 : Int32) (v5 : Int32) : Option (Int32) := (if 0 ≤ v5 then (if v3 = 0 then (if v5 ≤ 0 then k5 v1 v2 (0 : Int32) (v4 + (1 : Int32)) else f_X0_isBetter_b55 cb k5 v1 v2 v4) else f_X0_isBetter_b55 cb k5 v1 v2 v4) else some ((0 : Int32)))
noncomputable def f_X0_isBetter_b5 (cb : CabT) : Nat → Int32 → Int32 → Int32 → Int32 → Option (Int32)
  | 0, _, _, _, _ => none
  | n + 1, v1, v2, v3, v4 => (if (4 : Int32) ≤ v4 then if kb_01 v3 then some (v3) else none else (f_X0_total cb v1 v4).bind fun r3 => (f_X0_total cb v2 v4).bind fun r4 => (if v4 = (3 : Int32) then f_X0_isBetter_b39 cb (f_X0_isBetter_b5 cb n) v1 v2 v3 v4 (-(r3 - r4)) else f_X0_isBetter_b39 cb (f_X0_isBetter_b5 cb n) v1 v2 v3 v4 (r3 - r4)))
noncomputable def f_X0_isBetter (cb : CabT) (x0 : Int32) (x1 : Int32) : Option (Int32) := f_X0_isBetter_b5 cb 4096 x0 x1 (0 : Int32) (0 : Int32)
set_option maxHeartbeats 4000000 in
set_option maxRecDepth 100000 in
theorem c_X0_isBetter (l : Launch) (D : va_G) (dA : Nat → ClassId) (sz : Nat) (a : Nat → Nat) (cb : CabT) (x0 : Int32) (x1 : Int32) (rv : Int32) (hf : f_X0_isBetter cb x0 x1 = some (rv)) : kb_Mi l yX0_isBetter cX0_isBetter 6 (some .boolean) ({ frames := 4, cells := 0, slots := 0, locals := 89 } : Room) D dA [.ref (a 0), .int x0, .int x1] sz (w_Cab dA a cb) 0 0 rv (w_Cab dA a cb) := by
  refine Met.ofW (cc := cX0_isBetter) (maxL := 6) (ret := (some .boolean)) (by decide) rfl ?_
  intro p e s m args below meth c s₁ B hml hv
  obtain ⟨rfl, hsz, hP, hK, hD0, hE⟩ := hv
  have hx := B.exec
  have hb := B.bytes
  have hr := B.returns
  have hown : s.vm.findClass RX0 = some m.cls := findClass_of_methodNamed B.named
  have hlocks := B.notSynchronized
  have hts : ∀ w ∈ kb_gw, w.before ([.ref (a 0), .int x0, .int x1] : List Value).toArray s = true := fun w hw => hK.2.1 w hw _
  subst hsz
  have hD := hD0.self (sz := s.heap.size)
  generalize hAe : va_A (w_Cab dA a cb) s.heap.size = A at hD hE ⊢
  have hA : ∀ q : Nat, s.heap.size ≤ q → A q := fun q h => by rw [← hAe]; exact Or.inr h
  have hS : va_S A s.heap s.heap [] := va_S.rf
  have hl := lv_entry ([.ref (a 0), .int x0, .int x1]) (n := 6) (Nat.le_of_ble_eq_true rfl)
  rw [lg_entry_eq]
  generalize (lg_sl ([.ref (a 0), .int x0, .int x1]) ++ List.replicate (6 - (lg_sl ([.ref (a 0), .int x0, .int x1])).length) Slot.unset).toArray = ls at hl ⊢
  have hl : lv_has ls 6 [(0, .ref (a 0)), (1, .int x0), (2, .int x1)] := hl
  generalize hQ : MQ below (va_Qi (fun r (_ : Unit) => r = rv) (kb_B D A (w_Cab dA a cb)) A) ([.ref (a 0), .int x0, .int x1] : List Value).toArray s 0 0 A = Q
  show W p l e ({ frames := 4, cells := 0, slots := 0, locals := 89 } : Room) s m ([.ref (a 0), .int x0, .int x1] : List Value).toArray below meth c s.heap [] 0 0 Q (F0 m 0 ls [])
  have RET : ∀ (r2 : Int32) (H : Heap) (locs : List Loc) (ls : Array Slot) (pc : Nat), some (r2) = some (rv) → va_P D vwCl (w_Cab dA a cb) H → va_D A (w_Cab dA a cb) → va_S A s.heap H locs → kb_01 r2 → decode cX0_isBetter pc = .ok (.ireturn, 1) → W p l e ({ frames := 4, cells := 0, slots := 0, locals := 89 } : Room) s m ([.ref (a 0), .int x0, .int x1] : List Value).toArray below meth c H locs 0 0 Q (F0 m pc ls [.int r2]) := by
    intro r2 H locs ls pc hq hP hD hS h01 hd
    cases hq
    rw [← hQ]
    exact W.zret (ty := .boolean) hx hb hr (kb_nz h01) (fun t ht hW => ⟨⟨_, (), rfl, rfl, by rw [ht]; exact hP, hD⟩, hS.F ht⟩) hS.2.2 hd
  have B_55 : ∀ (k5 : Int32 → Int32 → Int32 → Int32 → Option (Int32)) (hk5 : ∀ (v1 : Int32) (v2 : Int32) (v3 : Int32) (v4 : Int32) (H : Heap) (locs : List Loc) (ls : Array Slot), k5 v1 v2 v3 v4 = some (rv) → va_P D vwCl (w_Cab dA a cb) H → va_D A (w_Cab dA a cb) → va_S A s.heap H locs → lv_has ls 6 [(0, .ref (a 0)), (1, .int v1), (2, .int v2), (3, .int v3), (4, .int v4)] → W p l e ({ frames := 4, cells := 0, slots := 0, locals := 89 } : Room) s m ([.ref (a 0), .int x0, .int x1] : List Value).toArray below meth c H locs 0 0 Q (F0 m 5 ls [])) (v1 : Int32) (v2 : Int32) (v4 : Int32) (H : Heap) (locs : List Loc) (ls : Array Slot), f_X0_isBetter_b55 cb k5 v1 v2 v4 = some (rv) → va_P D vwCl (w_Cab dA a cb) H → va_D A (w_Cab dA a cb) → va_S A s.heap H locs → lv_has ls 6 [(0, .ref (a 0)), (1, .int v1), (2, .int v2), (4, .int v4)] → W p l e ({ frames := 4, cells := 0, slots := 0, locals := 89 } : Room) s m ([.ref (a 0), .int x0, .int x1] : List Value).toArray below meth c H locs 0 0 Q (F0 m 55 ls []) := by
    intro k5 hk5 v1 v2 v4 H locs ls hf hP hD hS hl
    rw [f_X0_isBetter_b55] at hf
    refine lv_iconst (v := (1 : Int32)) hx hb dX0_isBetter_55 (by decide) ?_
    refine lv_goto (tgt := 60) hx hb dX0_isBetter_56 (by decide) ?_
    refine lv_istore_n (lv' := [(3, .int (1 : Int32)), (0, .ref (a 0)), (1, .int v1), (2, .int v2), (4, .int v4)]) hx hb dX0_isBetter_60 rfl hl (by decide) rfl (fun ls hl => ?_)
    refine lv_iinc (v := (v4 + (1 : Int32))) (lv' := [(4, .int (v4 + (1 : Int32))), (3, .int (1 : Int32)), (0, .ref (a 0)), (1, .int v1), (2, .int v2)]) hx hb dX0_isBetter_61 hl (k := 4) rfl (by rfl) (by decide) rfl (fun ls hl => ?_)
    refine lv_goto (tgt := 5) hx hb dX0_isBetter_64 (by decide) ?_
    exact hk5 _ _ _ _ _ _ _ hf hP hD hS (lv_sub hl [2, 3, 4, 1, 0] rfl)
  have B_39 : ∀ (k5 : Int32 → Int32 → Int32 → Int32 → Option (Int32)) (hk5 : ∀ (v1 : Int32) (v2 : Int32) (v3 : Int32) (v4 : Int32) (H : Heap) (locs : List Loc) (ls : Array Slot), k5 v1 v2 v3 v4 = some (rv) → va_P D vwCl (w_Cab dA a cb) H → va_D A (w_Cab dA a cb) → va_S A s.heap H locs → lv_has ls 6 [(0, .ref (a 0)), (1, .int v1), (2, .int v2), (3, .int v3), (4, .int v4)] → W p l e ({ frames := 4, cells := 0, slots := 0, locals := 89 } : Room) s m ([.ref (a 0), .int x0, .int x1] : List Value).toArray below meth c H locs 0 0 Q (F0 m 5 ls [])) (v1 : Int32) (v2 : Int32) (v3 : Int32) (v4 : Int32) (v5 : Int32) (H : Heap) (locs : List Loc) (ls : Array Slot), f_X0_isBetter_b39 cb k5 v1 v2 v3 v4 v5 = some (rv) → va_P D vwCl (w_Cab dA a cb) H → va_D A (w_Cab dA a cb) → va_S A s.heap H locs → lv_has ls 6 [(0, .ref (a 0)), (1, .int v1), (2, .int v2), (3, .int v3), (4, .int v4), (5, .int v5)] → W p l e ({ frames := 4, cells := 0, slots := 0, locals := 89 } : Room) s m ([.ref (a 0), .int x0, .int x1] : List Value).toArray below meth c H locs 0 0 Q (F0 m 39 ls []) := by
    intro k5 hk5 v1 v2 v3 v4 v5 H locs ls hf hP hD hS hl
    rw [f_X0_isBetter_b39] at hf
    refine lv_iload hx hb dX0_isBetter_39 (lv_at hl 5 rfl) ?_
    refine lv_if_ge (tgt := 46) hx hb dX0_isBetter_41 (by decide) (fun c_6 => ?_) (fun c_6 => ?_)
    · rw [if_pos c_6] at hf
      refine lv_iload_n hx hb dX0_isBetter_46 rfl (lv_at hl 3 rfl) ?_
      refine lv_if_ne (tgt := 55) hx hb dX0_isBetter_47 (by decide) (fun c_7 => ?_) (fun c_7 => ?_)
      · rw [if_neg c_7] at hf
        exact B_55 k5 hk5 _ _ _ _ _ _ hf hP hD hS (lv_sub hl [0, 1, 2, 4] rfl)
      · rw [if_pos c_7] at hf
        refine lv_iload hx hb dX0_isBetter_50 (lv_at hl 5 rfl) ?_
        refine lv_if_le (tgt := 59) hx hb dX0_isBetter_52 (by decide) (fun c_8 => ?_) (fun c_8 => ?_)
        · rw [if_pos c_8] at hf
          refine lv_iconst (v := (0 : Int32)) hx hb dX0_isBetter_59 (by decide) ?_
          refine lv_istore_n (lv' := [(3, .int (0 : Int32)), (0, .ref (a 0)), (1, .int v1), (2, .int v2), (4, .int v4), (5, .int v5)]) hx hb dX0_isBetter_60 rfl hl (by decide) rfl (fun ls hl => ?_)
          refine lv_iinc (v := (v4 + (1 : Int32))) (lv' := [(4, .int (v4 + (1 : Int32))), (3, .int (0 : Int32)), (0, .ref (a 0)), (1, .int v1), (2, .int v2), (5, .int v5)]) hx hb dX0_isBetter_61 hl (k := 4) rfl (by rfl) (by decide) rfl (fun ls hl => ?_)
          refine lv_goto (tgt := 5) hx hb dX0_isBetter_64 (by decide) ?_
          exact hk5 _ _ _ _ _ _ _ hf hP hD hS (lv_sub hl [2, 3, 4, 1, 0] rfl)
        · rw [if_neg c_8] at hf
          exact B_55 k5 hk5 _ _ _ _ _ _ hf hP hD hS (lv_sub hl [0, 1, 2, 4] rfl)
    · rw [if_neg c_6] at hf
      refine lv_iconst (v := (0 : Int32)) hx hb dX0_isBetter_44 (by decide) ?_
      exact RET _ H _ ls 45 hf hP hD hS (by decide) dX0_isBetter_45
  have B_5 : ∀ (n : Nat) (v1 : Int32) (v2 : Int32) (v3 : Int32) (v4 : Int32) (H : Heap) (locs : List Loc) (ls : Array Slot), f_X0_isBetter_b5 cb n v1 v2 v3 v4 = some (rv) → va_P D vwCl (w_Cab dA a cb) H → va_D A (w_Cab dA a cb) → va_S A s.heap H locs → lv_has ls 6 [(0, .ref (a 0)), (1, .int v1), (2, .int v2), (3, .int v3), (4, .int v4)] → W p l e ({ frames := 4, cells := 0, slots := 0, locals := 89 } : Room) s m ([.ref (a 0), .int x0, .int x1] : List Value).toArray below meth c H locs 0 0 Q (F0 m 5 ls []) := by
    intro n
    induction n with
    | zero =>
      intro v1 v2 v3 v4 H locs ls hf
      exact absurd hf (by simp [f_X0_isBetter_b5])
    | succ n ih =>
      intro v1 v2 v3 v4 H locs ls hf hP hD hS hl
      rw [f_X0_isBetter_b5] at hf
      refine lv_iload hx hb dX0_isBetter_5 (lv_at hl 4 rfl) ?_
      refine lv_iconst (v := (4 : Int32)) hx hb dX0_isBetter_7 (by decide) ?_
      refine lv_icmp_ge (tgt := 67) hx hb dX0_isBetter_8 (by decide) (fun c_1 => ?_) (fun c_1 => ?_)
      · rw [if_pos c_1] at hf
        refine lv_iload_n hx hb dX0_isBetter_67 rfl (lv_at hl 3 rfl) ?_
        obtain ⟨h_2, hf⟩ := kb_if hf
        exact RET _ H _ ls 68 hf hP hD hS h_2 dX0_isBetter_68
      · rw [if_neg c_1] at hf
        refine lv_aload_n hx hb dX0_isBetter_11 rfl (lv_at hl 0 rfl) ?_
        refine lv_iload_n hx hb dX0_isBetter_12 rfl (lv_at hl 1 rfl) ?_
        refine lv_iload hx hb dX0_isBetter_13 (lv_at hl 4 rfl) ?_
        obtain ⟨r3, hc3, hf⟩ := kb_bind hf
        refine kb_ci (ws2 := (w_Cab dA a cb)) (kb_rV (n := 2) (As := [.int v1, .int v4]) (rest := []) hx hb hml hown hK (c_X0_total l D dA H.size a cb v1 v4 r3 hc3) ⟨ww_5_76, ww_5_90, ww_5_74, ww_5_75, ww_1_4, rfl, by decide, by decide⟩ rfl rfl (by decide +kernel) ⟨Nat.le_of_ble_eq_true rfl, Nat.le_of_ble_eq_true rfl⟩ hP hD hS hA hE [0, 1] rfl (by decide) 0 rfl rfl rfl hl.1 rfl (Nat.le_of_ble_eq_true rfl) dX0_isBetter_15 ⟨Nat.le_of_ble_eq_true rfl, Nat.le_of_ble_eq_true rfl⟩) hP hD hS hA [0, 1] [] [0, 1] rfl rfl (by decide) (by decide) rfl (by decide) (fun H locs hP hD hS => ?_)
        refine lv_aload_n hx hb dX0_isBetter_18 rfl (lv_at hl 0 rfl) ?_
        refine lv_iload_n hx hb dX0_isBetter_19 rfl (lv_at hl 2 rfl) ?_
        refine lv_iload hx hb dX0_isBetter_20 (lv_at hl 4 rfl) ?_
        obtain ⟨r4, hc4, hf⟩ := kb_bind hf
        refine kb_ci (ws2 := (w_Cab dA a cb)) (kb_rV (n := 2) (As := [.int v2, .int v4]) (rest := [.int r3]) hx hb hml hown hK (c_X0_total l D dA H.size a cb v2 v4 r4 hc4) ⟨ww_5_76, ww_5_90, ww_5_74, ww_5_75, ww_1_4, rfl, by decide, by decide⟩ rfl rfl (by decide +kernel) ⟨Nat.le_of_ble_eq_true rfl, Nat.le_of_ble_eq_true rfl⟩ hP hD hS hA hE [0, 1] rfl (by decide) 0 rfl rfl rfl hl.1 rfl (Nat.le_of_ble_eq_true rfl) dX0_isBetter_22 ⟨Nat.le_of_ble_eq_true rfl, Nat.le_of_ble_eq_true rfl⟩) hP hD hS hA [0, 1] [] [0, 1] rfl rfl (by decide) (by decide) rfl (by decide) (fun H locs hP hD hS => ?_)
        refine lv_isub hx hb dX0_isBetter_25 ?_
        refine lv_istore (lv' := [(5, .int (r3 - r4)), (0, .ref (a 0)), (1, .int v1), (2, .int v2), (3, .int v3), (4, .int v4)]) hx hb dX0_isBetter_26 hl (by decide) rfl (fun ls hl => ?_)
        refine lv_iload hx hb dX0_isBetter_28 (lv_at hl 5 rfl) ?_
        refine lv_iconst (v := (3 : Int32)) hx hb dX0_isBetter_30 (by decide) ?_
        refine lv_icmp_ne (tgt := 39) hx hb dX0_isBetter_31 (by decide) (fun c_5 => ?_) (fun c_5 => ?_)
        · rw [if_neg c_5] at hf
          exact B_39 (f_X0_isBetter_b5 cb n) ih _ _ _ _ _ _ _ _ hf hP hD hS (lv_sub hl [1, 2, 3, 4, 5, 0] rfl)
        · rw [if_pos c_5] at hf
          refine lv_iload hx hb dX0_isBetter_34 (lv_at hl 0 rfl) ?_
          refine lv_ineg hx hb dX0_isBetter_36 ?_
          refine lv_istore (lv' := [(5, .int (-(r3 - r4))), (0, .ref (a 0)), (1, .int v1), (2, .int v2), (3, .int v3), (4, .int v4)]) hx hb dX0_isBetter_37 hl (by decide) rfl (fun ls hl => ?_)
          exact B_39 (f_X0_isBetter_b5 cb n) ih _ _ _ _ _ _ _ _ hf hP hD hS (lv_sub hl [1, 2, 3, 4, 5, 0] rfl)
  have E0 : ∀ (H : Heap) (locs : List Loc), va_P D vwCl (w_Cab dA a cb) H → va_D A (w_Cab dA a cb) → va_S A s.heap H locs → W p l e ({ frames := 4, cells := 0, slots := 0, locals := 89 } : Room) s m ([.ref (a 0), .int x0, .int x1] : List Value).toArray below meth c H locs 0 0 Q (F0 m 0 ls []) := by
    intro H locs hP hD hS
    rw [f_X0_isBetter] at hf
    refine lv_iconst (v := (0 : Int32)) hx hb dX0_isBetter_0 (by decide) ?_
    refine lv_istore_n (lv' := [(3, .int (0 : Int32)), (0, .ref (a 0)), (1, .int x0), (2, .int x1)]) hx hb dX0_isBetter_1 rfl hl (by decide) rfl (fun ls hl => ?_)
    refine lv_iconst (v := (0 : Int32)) hx hb dX0_isBetter_2 (by decide) ?_
    refine lv_istore (lv' := [(4, .int (0 : Int32)), (3, .int (0 : Int32)), (0, .ref (a 0)), (1, .int x0), (2, .int x1)]) hx hb dX0_isBetter_3 hl (by decide) rfl (fun ls hl => ?_)
    exact B_5 4096 _ _ _ _ _ _ _ hf hP hD hS (lv_sub hl [2, 3, 4, 1, 0] rfl)
  exact E0 _ _ hP hD hS

noncomputable def f_X0_placeSeats_b84 (k7 : Int32 → CabT → Option (CabT)) (v1 : Int32) (s0 : Int32) (s1 : Int32) (z0 : CabT) : Option (CabT) := if kb_in? s1 20 then k7 (v1 + (1 : Int32)) (cb_set_beside z0 (upd (cb_beside z0) (s1).toNatClampNeg s0)) else none
noncomputable def f_X0_placeSeats_b82 (k7 : Int32 → CabT → Option (CabT)) (v1 : Int32) (s0 : Int32) (z0 : CabT) : Option (CabT) := f_X0_placeSeats_b84 k7 v1 (-2 : Int32) s0 z0
noncomputable def f_X0_placeSeats_b48 (k7 : Int32 → CabT → Option (CabT)) (v1 : Int32) (z0 : CabT) : Option (CabT) := (if ((4 : Int32) * (cb_rows z0)) ≤ v1 then f_X0_placeSeats_b82 k7 v1 v1 z0 else (f_X0_isPaired (cb_form z0) (v1 - v1 / (4 : Int32) * (4 : Int32))).bind fun r5 => (if r5 = 0 then f_X0_placeSeats_b82 k7 v1 v1 z0 else f_X0_placeSeats_b84 k7 v1 (v1 ^^^ (1 : Int32)) v1 z0))
noncomputable def f_X0_placeSeats_b7 : Nat → Int32 → CabT → Option (CabT)
  | 0, _, _ => none
  | n + 1, v1, z0 => (if (20 : Int32) ≤ v1 then some (z0) else (if ((4 : Int32) * (cb_rows z0)) ≤ v1 then f_X0_placeSeats_b48 (f_X0_placeSeats_b7 n) v1 z0 else (f_X0_isIn (cb_form z0) (v1 - v1 / (4 : Int32) * (4 : Int32))).bind fun r7 => (if r7 = 0 then f_X0_placeSeats_b48 (f_X0_placeSeats_b7 n) v1 z0 else f_X0_placeSeats_b48 (f_X0_placeSeats_b7 n) v1 (cb_set_seats z0 ((cb_seats z0) ||| ((1 : Int32) <<< (v1 &&& 31)))))))
noncomputable def f_X0_placeSeats (cb : CabT) : Option (CabT) := f_X0_placeSeats_b7 4096 (0 : Int32) (cb_set_seats cb (0 : Int32))
set_option maxHeartbeats 4000000 in
set_option maxRecDepth 100000 in
theorem c_X0_placeSeats (l : Launch) (D : va_G) (dA : Nat → ClassId) (sz : Nat) (a : Nat → Nat) (cb : CabT) (u0 : CabT) (hf : f_X0_placeSeats cb = some (u0)) : kb_Mv l yX0_placeSeats cX0_placeSeats 2 none ({ frames := 2, cells := 0, slots := 0, locals := 42 } : Room) D dA [.ref (a 0)] sz (w_Cab dA a cb) 0 0 (w_Cab dA a u0) := by
  refine Met.ofW (cc := cX0_placeSeats) (maxL := 2) (ret := none) (by decide) rfl ?_
  intro p e s m args below meth c s₁ B hml hv
  obtain ⟨rfl, hsz, hP, hK, hD0, hE⟩ := hv
  have hx := B.exec
  have hb := B.bytes
  have hr := B.returns
  have hown : s.vm.findClass RX0 = some m.cls := findClass_of_methodNamed B.named
  have hlocks := B.notSynchronized
  have hts : ∀ w ∈ kb_gw, w.before ([.ref (a 0)] : List Value).toArray s = true := fun w hw => hK.2.1 w hw _
  subst hsz
  have hD := hD0.self (sz := s.heap.size)
  generalize hAe : va_A (w_Cab dA a cb) s.heap.size = A at hD hE ⊢
  have hA : ∀ q : Nat, s.heap.size ≤ q → A q := fun q h => by rw [← hAe]; exact Or.inr h
  have hS : va_S A s.heap s.heap [] := va_S.rf
  have hl := lv_entry ([.ref (a 0)]) (n := 2) (Nat.le_of_ble_eq_true rfl)
  rw [lg_entry_eq]
  generalize (lg_sl ([.ref (a 0)]) ++ List.replicate (2 - (lg_sl ([.ref (a 0)])).length) Slot.unset).toArray = ls at hl ⊢
  have hl : lv_has ls 2 [(0, .ref (a 0))] := hl
  generalize hQ : MQ below (va_Qv (fun (_ : Unit) => True) (kb_B D A (w_Cab dA a u0)) A) ([.ref (a 0)] : List Value).toArray s 0 0 A = Q
  show W p l e ({ frames := 2, cells := 0, slots := 0, locals := 42 } : Room) s m ([.ref (a 0)] : List Value).toArray below meth c s.heap [] 0 0 Q (F0 m 0 ls [])
  have RET : ∀ (w0 : CabT) (H : Heap) (locs : List Loc) (ls : Array Slot) (pc : Nat), some (w0) = some (u0) → va_P D vwCl (w_Cab dA a w0) H → va_D A (w_Cab dA a w0) → va_S A s.heap H locs → decode cX0_placeSeats pc = .ok (.return_, 1) → W p l e ({ frames := 2, cells := 0, slots := 0, locals := 42 } : Room) s m ([.ref (a 0)] : List Value).toArray below meth c H locs 0 0 Q (F0 m pc ls []) := by
    intro w0 H locs ls pc hq hP hD hS hd
    cases hq
    rw [← hQ]
    exact W.vret hx hb hr (fun t ht hW => ⟨⟨(), rfl, trivial, by rw [ht]; exact hP, hD⟩, hS.F ht⟩) hS.2.2 hd
  have B_84 : ∀ (k7 : Int32 → CabT → Option (CabT)) (hk7 : ∀ (v1 : Int32) (z0 : CabT) (H : Heap) (locs : List Loc) (ls : Array Slot), k7 v1 z0 = some (u0) → va_P D vwCl (w_Cab dA a z0) H → va_D A (w_Cab dA a z0) → va_S A s.heap H locs → lv_has ls 2 [(0, .ref (a 0)), (1, .int v1)] → W p l e ({ frames := 2, cells := 0, slots := 0, locals := 42 } : Room) s m ([.ref (a 0)] : List Value).toArray below meth c H locs 0 0 Q (F0 m 7 ls [])) (v1 : Int32) (s0 : Int32) (s1 : Int32) (z0 : CabT) (H : Heap) (locs : List Loc) (ls : Array Slot), f_X0_placeSeats_b84 k7 v1 s0 s1 z0 = some (u0) → va_P D vwCl (w_Cab dA a z0) H → va_D A (w_Cab dA a z0) → va_S A s.heap H locs → lv_has ls 2 [(0, .ref (a 0)), (1, .int v1)] → W p l e ({ frames := 2, cells := 0, slots := 0, locals := 42 } : Room) s m ([.ref (a 0)] : List Value).toArray below meth c H locs 0 0 Q (F0 m 84 ls [.int s0, .int s1, .ref (a 1)]) := by
    intro k7 hk7 v1 s0 s1 z0 H locs ls hf hP hD hS hl
    rw [f_X0_placeSeats_b84] at hf
    obtain ⟨h_4, hf⟩ := kb_if hf
    refine va_iast (D := D) hx hb hK.1 hP hD hS 1 0 rfl rfl h_4 dX0_placeSeats_84 (fun H locs hP hD hS => ?_)
    have hP : va_P D vwCl (w_Cab dA a (cb_set_beside z0 (upd (cb_beside z0) (s1).toNatClampNeg s0))) H := hP
    have hD : va_D A (w_Cab dA a (cb_set_beside z0 (upd (cb_beside z0) (s1).toNatClampNeg s0))) := hD
    refine lv_iinc (v := (v1 + (1 : Int32))) (lv' := [(1, .int (v1 + (1 : Int32))), (0, .ref (a 0))]) hx hb dX0_placeSeats_85 hl (k := 1) rfl (by rfl) (by decide) rfl (fun ls hl => ?_)
    refine lv_goto (tgt := 7) hx hb dX0_placeSeats_88 (by decide) ?_
    exact hk7 _ _ _ _ _ hf hP hD hS (lv_sub hl [1, 0] rfl)
  have B_82 : ∀ (k7 : Int32 → CabT → Option (CabT)) (hk7 : ∀ (v1 : Int32) (z0 : CabT) (H : Heap) (locs : List Loc) (ls : Array Slot), k7 v1 z0 = some (u0) → va_P D vwCl (w_Cab dA a z0) H → va_D A (w_Cab dA a z0) → va_S A s.heap H locs → lv_has ls 2 [(0, .ref (a 0)), (1, .int v1)] → W p l e ({ frames := 2, cells := 0, slots := 0, locals := 42 } : Room) s m ([.ref (a 0)] : List Value).toArray below meth c H locs 0 0 Q (F0 m 7 ls [])) (v1 : Int32) (s0 : Int32) (z0 : CabT) (H : Heap) (locs : List Loc) (ls : Array Slot), f_X0_placeSeats_b82 k7 v1 s0 z0 = some (u0) → va_P D vwCl (w_Cab dA a z0) H → va_D A (w_Cab dA a z0) → va_S A s.heap H locs → lv_has ls 2 [(0, .ref (a 0)), (1, .int v1)] → W p l e ({ frames := 2, cells := 0, slots := 0, locals := 42 } : Room) s m ([.ref (a 0)] : List Value).toArray below meth c H locs 0 0 Q (F0 m 82 ls [.int s0, .ref (a 1)]) := by
    intro k7 hk7 v1 s0 z0 H locs ls hf hP hD hS hl
    rw [f_X0_placeSeats_b82] at hf
    refine lv_bipush (v := (-2 : Int32)) hx hb dX0_placeSeats_82 (by decide) ?_
    exact B_84 k7 hk7 _ _ _ _ _ _ _ hf hP hD hS (lv_sub hl [0, 1] rfl)
  have B_48 : ∀ (k7 : Int32 → CabT → Option (CabT)) (hk7 : ∀ (v1 : Int32) (z0 : CabT) (H : Heap) (locs : List Loc) (ls : Array Slot), k7 v1 z0 = some (u0) → va_P D vwCl (w_Cab dA a z0) H → va_D A (w_Cab dA a z0) → va_S A s.heap H locs → lv_has ls 2 [(0, .ref (a 0)), (1, .int v1)] → W p l e ({ frames := 2, cells := 0, slots := 0, locals := 42 } : Room) s m ([.ref (a 0)] : List Value).toArray below meth c H locs 0 0 Q (F0 m 7 ls [])) (v1 : Int32) (z0 : CabT) (H : Heap) (locs : List Loc) (ls : Array Slot), f_X0_placeSeats_b48 k7 v1 z0 = some (u0) → va_P D vwCl (w_Cab dA a z0) H → va_D A (w_Cab dA a z0) → va_S A s.heap H locs → lv_has ls 2 [(0, .ref (a 0)), (1, .int v1)] → W p l e ({ frames := 2, cells := 0, slots := 0, locals := 42 } : Room) s m ([.ref (a 0)] : List Value).toArray below meth c H locs 0 0 Q (F0 m 48 ls []) := by
    intro k7 hk7 v1 z0 H locs ls hf hP hD hS hl
    rw [f_X0_placeSeats_b48] at hf
    refine lv_aload_n hx hb dX0_placeSeats_48 rfl (lv_at hl 0 rfl) ?_
    refine va_get (D := D) (ci := 0) (v := .ref (a 1)) (C := RX0) (T := TX0) (N := 8) hx hb hts kb_inX0 hown hK.1 hP 0 rfl rfl 7 (by decide) (hK.2.w ww_1_108 rfl _) (fun _ h9 => h9) rfl dX0_placeSeats_49 ?_
    refine lv_iload_n hx hb dX0_placeSeats_52 rfl (lv_at hl 1 rfl) ?_
    refine lv_iload_n hx hb dX0_placeSeats_53 rfl (lv_at hl 1 rfl) ?_
    refine lv_iconst (v := (4 : Int32)) hx hb dX0_placeSeats_54 (by decide) ?_
    refine lv_aload_n hx hb dX0_placeSeats_55 rfl (lv_at hl 0 rfl) ?_
    refine va_get (D := D) (ci := 0) (v := .int (cb_rows z0)) (C := RX0) (T := TX0) (N := 8) hx hb hts kb_inX0 hown hK.1 hP 0 rfl rfl 0 (by decide) (hK.2.w ww_1_87 rfl _) (fun _ h9 => h9) rfl dX0_placeSeats_56 ?_
    refine lv_imul hx hb dX0_placeSeats_59 ?_
    refine lv_icmp_ge (tgt := 82) hx hb dX0_placeSeats_60 (by decide) (fun c_3 => ?_) (fun c_3 => ?_)
    · rw [if_pos c_3] at hf
      exact B_82 k7 hk7 _ _ _ _ _ _ hf hP hD hS (lv_sub hl [0, 1] rfl)
    · rw [if_neg c_3] at hf
      refine lv_aload_n hx hb dX0_placeSeats_63 rfl (lv_at hl 0 rfl) ?_
      refine va_get (D := D) (ci := 0) (v := .int (cb_form z0)) (C := RX0) (T := TX0) (N := 8) hx hb hts kb_inX0 hown hK.1 hP 0 rfl rfl 1 (by decide) (hK.2.w ww_1_90 rfl _) (fun _ h9 => h9) rfl dX0_placeSeats_64 ?_
      refine lv_iload_n hx hb dX0_placeSeats_67 rfl (lv_at hl 1 rfl) ?_
      refine lv_iconst (v := (4 : Int32)) hx hb dX0_placeSeats_68 (by decide) ?_
      refine lv_irem hx hb dX0_placeSeats_69 (by decide) ?_
      obtain ⟨r5, hc5, hf⟩ := kb_bind hf
      refine kb_ci (ws2 := (w_Cab dA a z0)) (kb_rS (n := 2) (As := [.int (cb_form z0), .int (v1 - v1 / (4 : Int32) * (4 : Int32))]) (rest := [.int v1, .ref (a 1)]) hx hb hml hown hK (c_X0_isPaired l D dA H.size (cb_form z0) (v1 - v1 / (4 : Int32) * (4 : Int32)) r5 hc5) ⟨ww_3_84, ww_3_82, ww_3_83, ww_1_4, by decide, by decide⟩ rfl rfl (by decide +kernel) ⟨Nat.le_of_ble_eq_true rfl, Nat.le_of_ble_eq_true rfl⟩ hP hD hS hA hE [] rfl (by decide) rfl hl.1 rfl (Nat.le_of_ble_eq_true rfl) dX0_placeSeats_70 ⟨Nat.le_of_ble_eq_true rfl, Nat.le_of_ble_eq_true rfl⟩) hP hD hS hA [] [0, 1] [0, 1] rfl rfl (by decide) (by decide) rfl (by decide) (fun H locs hP hD hS => ?_)
      refine lv_if_eq (tgt := 82) hx hb dX0_placeSeats_73 (by decide) (fun c_6 => ?_) (fun c_6 => ?_)
      · rw [if_pos c_6] at hf
        exact B_82 k7 hk7 _ _ _ _ _ _ hf hP hD hS (lv_sub hl [0, 1] rfl)
      · rw [if_neg c_6] at hf
        refine lv_iload_n hx hb dX0_placeSeats_76 rfl (lv_at hl 1 rfl) ?_
        refine lv_iconst (v := (1 : Int32)) hx hb dX0_placeSeats_77 (by decide) ?_
        refine lv_ixor hx hb dX0_placeSeats_78 ?_
        refine lv_goto (tgt := 84) hx hb dX0_placeSeats_79 (by decide) ?_
        exact B_84 k7 hk7 _ _ _ _ _ _ _ hf hP hD hS (lv_sub hl [0, 1] rfl)
  have B_7 : ∀ (n : Nat) (v1 : Int32) (z0 : CabT) (H : Heap) (locs : List Loc) (ls : Array Slot), f_X0_placeSeats_b7 n v1 z0 = some (u0) → va_P D vwCl (w_Cab dA a z0) H → va_D A (w_Cab dA a z0) → va_S A s.heap H locs → lv_has ls 2 [(0, .ref (a 0)), (1, .int v1)] → W p l e ({ frames := 2, cells := 0, slots := 0, locals := 42 } : Room) s m ([.ref (a 0)] : List Value).toArray below meth c H locs 0 0 Q (F0 m 7 ls []) := by
    intro n
    induction n with
    | zero =>
      intro v1 z0 H locs ls hf
      exact absurd hf (by simp [f_X0_placeSeats_b7])
    | succ n ih =>
      intro v1 z0 H locs ls hf hP hD hS hl
      rw [f_X0_placeSeats_b7] at hf
      refine lv_iload_n hx hb dX0_placeSeats_7 rfl (lv_at hl 1 rfl) ?_
      refine lv_bipush (v := (20 : Int32)) hx hb dX0_placeSeats_8 (by decide) ?_
      refine lv_icmp_ge (tgt := 91) hx hb dX0_placeSeats_10 (by decide) (fun c_1 => ?_) (fun c_1 => ?_)
      · rw [if_pos c_1] at hf
        exact RET _ H _ ls 91 hf hP hD hS dX0_placeSeats_91
      · rw [if_neg c_1] at hf
        refine lv_iload_n hx hb dX0_placeSeats_13 rfl (lv_at hl 1 rfl) ?_
        refine lv_iconst (v := (4 : Int32)) hx hb dX0_placeSeats_14 (by decide) ?_
        refine lv_aload_n hx hb dX0_placeSeats_15 rfl (lv_at hl 0 rfl) ?_
        refine va_get (D := D) (ci := 0) (v := .int (cb_rows z0)) (C := RX0) (T := TX0) (N := 8) hx hb hts kb_inX0 hown hK.1 hP 0 rfl rfl 0 (by decide) (hK.2.w ww_1_87 rfl _) (fun _ h9 => h9) rfl dX0_placeSeats_16 ?_
        refine lv_imul hx hb dX0_placeSeats_19 ?_
        refine lv_icmp_ge (tgt := 48) hx hb dX0_placeSeats_20 (by decide) (fun c_2 => ?_) (fun c_2 => ?_)
        · rw [if_pos c_2] at hf
          exact B_48 (f_X0_placeSeats_b7 n) ih _ _ _ _ _ hf hP hD hS (lv_sub hl [0, 1] rfl)
        · rw [if_neg c_2] at hf
          refine lv_aload_n hx hb dX0_placeSeats_23 rfl (lv_at hl 0 rfl) ?_
          refine va_get (D := D) (ci := 0) (v := .int (cb_form z0)) (C := RX0) (T := TX0) (N := 8) hx hb hts kb_inX0 hown hK.1 hP 0 rfl rfl 1 (by decide) (hK.2.w ww_1_90 rfl _) (fun _ h9 => h9) rfl dX0_placeSeats_24 ?_
          refine lv_iload_n hx hb dX0_placeSeats_27 rfl (lv_at hl 1 rfl) ?_
          refine lv_iconst (v := (4 : Int32)) hx hb dX0_placeSeats_28 (by decide) ?_
          refine lv_irem hx hb dX0_placeSeats_29 (by decide) ?_
          obtain ⟨r7, hc7, hf⟩ := kb_bind hf
          refine kb_ci (ws2 := (w_Cab dA a z0)) (kb_rS (n := 2) (As := [.int (cb_form z0), .int (v1 - v1 / (4 : Int32) * (4 : Int32))]) (rest := []) hx hb hml hown hK (c_X0_isIn l D dA H.size (cb_form z0) (v1 - v1 / (4 : Int32) * (4 : Int32)) r7 hc7) ⟨ww_3_81, ww_3_79, ww_3_80, ww_1_4, by decide, by decide⟩ rfl rfl (by decide +kernel) ⟨Nat.le_of_ble_eq_true rfl, Nat.le_of_ble_eq_true rfl⟩ hP hD hS hA hE [] rfl (by decide) rfl hl.1 rfl (Nat.le_of_ble_eq_true rfl) dX0_placeSeats_30 ⟨Nat.le_of_ble_eq_true rfl, Nat.le_of_ble_eq_true rfl⟩) hP hD hS hA [] [0, 1] [0, 1] rfl rfl (by decide) (by decide) rfl (by decide) (fun H locs hP hD hS => ?_)
          refine lv_if_eq (tgt := 48) hx hb dX0_placeSeats_33 (by decide) (fun c_8 => ?_) (fun c_8 => ?_)
          · rw [if_pos c_8] at hf
            exact B_48 (f_X0_placeSeats_b7 n) ih _ _ _ _ _ hf hP hD hS (lv_sub hl [0, 1] rfl)
          · rw [if_neg c_8] at hf
            refine lv_aload_n hx hb dX0_placeSeats_36 rfl (lv_at hl 0 rfl) ?_
            refine lv_dup hx hb dX0_placeSeats_37 rfl ?_
            refine va_get (D := D) (ci := 0) (v := .int (cb_seats z0)) (C := RX0) (T := TX0) (N := 8) hx hb hts kb_inX0 hown hK.1 hP 0 rfl rfl 6 (by decide) (hK.2.w ww_1_105 rfl _) (fun _ h9 => h9) rfl dX0_placeSeats_38 ?_
            refine lv_iconst (v := (1 : Int32)) hx hb dX0_placeSeats_41 (by decide) ?_
            refine lv_iload_n hx hb dX0_placeSeats_42 rfl (lv_at hl 1 rfl) ?_
            refine lv_ishl hx hb dX0_placeSeats_43 ?_
            refine lv_ior hx hb dX0_placeSeats_44 ?_
            refine va_put (D := D) (ci := 0) (v := .int ((cb_seats z0) ||| ((1 : Int32) <<< (v1 &&& 31)))) (ty := .int) (C := RX0) (T := TX0) (N := 8) hx hb hts kb_inX0 tyX0 tyX0_ok nmX0 hown hK.1 hP hD hS 0 rfl rfl 6 (by decide) (hK.2.w ww_1_105 rfl _) (fun _ h9 => h9) rfl (by decide +kernel) rfl rfl (Nat.le_of_ble_eq_true rfl) dX0_placeSeats_45 (fun H locs hP hD hS => ?_)
            have hP : va_P D vwCl (w_Cab dA a (cb_set_seats z0 ((cb_seats z0) ||| ((1 : Int32) <<< (v1 &&& 31))))) H := hP
            have hD : va_D A (w_Cab dA a (cb_set_seats z0 ((cb_seats z0) ||| ((1 : Int32) <<< (v1 &&& 31))))) := hD
            exact B_48 (f_X0_placeSeats_b7 n) ih _ _ _ _ _ hf hP hD hS (lv_sub hl [0, 1] rfl)
  have E0 : ∀ (H : Heap) (locs : List Loc), va_P D vwCl (w_Cab dA a cb) H → va_D A (w_Cab dA a cb) → va_S A s.heap H locs → W p l e ({ frames := 2, cells := 0, slots := 0, locals := 42 } : Room) s m ([.ref (a 0)] : List Value).toArray below meth c H locs 0 0 Q (F0 m 0 ls []) := by
    intro H locs hP hD hS
    rw [f_X0_placeSeats] at hf
    refine lv_aload_n hx hb dX0_placeSeats_0 rfl (lv_at hl 0 rfl) ?_
    refine lv_iconst (v := (0 : Int32)) hx hb dX0_placeSeats_1 (by decide) ?_
    refine va_put (D := D) (ci := 0) (v := .int (0 : Int32)) (ty := .int) (C := RX0) (T := TX0) (N := 8) hx hb hts kb_inX0 tyX0 tyX0_ok nmX0 hown hK.1 hP hD hS 0 rfl rfl 6 (by decide) (hK.2.w ww_1_105 rfl _) (fun _ h9 => h9) rfl (by decide +kernel) rfl rfl (Nat.le_of_ble_eq_true rfl) dX0_placeSeats_2 (fun H locs hP hD hS => ?_)
    have hP : va_P D vwCl (w_Cab dA a (cb_set_seats cb (0 : Int32))) H := hP
    have hD : va_D A (w_Cab dA a (cb_set_seats cb (0 : Int32))) := hD
    refine lv_iconst (v := (0 : Int32)) hx hb dX0_placeSeats_5 (by decide) ?_
    refine lv_istore_n (lv' := [(1, .int (0 : Int32)), (0, .ref (a 0))]) hx hb dX0_placeSeats_6 rfl hl (by decide) rfl (fun ls hl => ?_)
    exact B_7 4096 _ _ _ _ _ hf hP hD hS (lv_sub hl [1, 0] rfl)
  exact E0 _ _ hP hD hS
