noncomputable def f_X10_choosingTrouble_b32 (tp : TopT) (rd : RideT) (pl : PlanT)  : Option (Int32) := some ((0 : Int32))
noncomputable def f_X10_choosingTrouble (tp : TopT) (rd : RideT) (pl : PlanT) (x0 : Int32) : Option (Int32) := (f_X10_isRider tp pl x0).bind fun r1 => (if r1 = 0 then some ((1 : Int32)) else if kb_in? x0 8 then (if ((rd_place rd) (x0).toNatClampNeg) = (100 : Int32) then f_X10_choosingTrouble_b32 tp rd pl  else (if ((rd_place rd) (x0).toNatClampNeg) = (101 : Int32) then f_X10_choosingTrouble_b32 tp rd pl  else some ((5 : Int32)))) else none)
set_option maxHeartbeats 4000000 in
set_option maxRecDepth 100000 in
theorem c_X10_choosingTrouble (l : Launch) (D : va_G) (dA : Nat → ClassId) (sz : Nat) (t : Nat → Nat) (a : Nat → Nat) (pa : Nat → Nat) (g0 : Nat) (g2 : Nat) (g4 : Nat) (g5 : Nat) (g6 : Nat) (g7 : Nat) (g8 : Nat) (tp : TopT) (rd : RideT) (pl : PlanT) (x0 : Int32) (rv : Int32) (hf : f_X10_choosingTrouble tp rd pl x0 = some (rv)) : kb_Mi l yX10_choosingTrouble cX10_choosingTrouble 3 (some .int) ({ frames := 1, cells := 0, slots := 0, locals := 21 } : Room) D dA [.ref (t 0), .int x0] sz (w_Top dA t g0 (pa 0) g2 (a 0) g4 g5 g6 g7 g8 tp ++ (w_Ride dA a (pa 0) (pa 1) rd ++ (w_Plan dA pa pl))) 0 0 rv (w_Top dA t g0 (pa 0) g2 (a 0) g4 g5 g6 g7 g8 tp ++ (w_Ride dA a (pa 0) (pa 1) rd ++ (w_Plan dA pa pl))) := by
  refine Met.ofW (cc := cX10_choosingTrouble) (maxL := 3) (ret := (some .int)) (by decide) rfl ?_
  intro p e s m args below meth c s₁ B hml hv
  obtain ⟨rfl, hsz, hP, hK, hD0, hE⟩ := hv
  have hx := B.exec
  have hb := B.bytes
  have hr := B.returns
  have hown : s.vm.findClass RX10 = some m.cls := findClass_of_methodNamed B.named
  have hlocks := B.notSynchronized
  have hts : ∀ w ∈ kb_gw, w.before ([.ref (t 0), .int x0] : List Value).toArray s = true := fun w hw => hK.2.1 w hw _
  subst hsz
  have hD := hD0.self (sz := s.heap.size)
  generalize hAe : va_A (w_Top dA t g0 (pa 0) g2 (a 0) g4 g5 g6 g7 g8 tp ++ (w_Ride dA a (pa 0) (pa 1) rd ++ (w_Plan dA pa pl))) s.heap.size = A at hD hE ⊢
  have hA : ∀ q : Nat, s.heap.size ≤ q → A q := fun q h => by rw [← hAe]; exact Or.inr h
  have hS : va_S A s.heap s.heap [] := va_S.rf
  have hl := lv_entry ([.ref (t 0), .int x0]) (n := 3) (Nat.le_of_ble_eq_true rfl)
  rw [lg_entry_eq]
  generalize (lg_sl ([.ref (t 0), .int x0]) ++ List.replicate (3 - (lg_sl ([.ref (t 0), .int x0])).length) Slot.unset).toArray = ls at hl ⊢
  have hl : lv_has ls 3 [(0, .ref (t 0)), (1, .int x0)] := hl
  generalize hQ : MQ below (va_Qi (fun r (_ : Unit) => r = rv) (kb_B D A (w_Top dA t g0 (pa 0) g2 (a 0) g4 g5 g6 g7 g8 tp ++ (w_Ride dA a (pa 0) (pa 1) rd ++ (w_Plan dA pa pl)))) A) ([.ref (t 0), .int x0] : List Value).toArray s 0 0 A = Q
  show W p l e ({ frames := 1, cells := 0, slots := 0, locals := 21 } : Room) s m ([.ref (t 0), .int x0] : List Value).toArray below meth c s.heap [] 0 0 Q (F0 m 0 ls [])
  have RET : ∀ (r2 : Int32) (H : Heap) (locs : List Loc) (ls : Array Slot) (pc : Nat), some (r2) = some (rv) → va_P D vwCl (w_Top dA t g0 (pa 0) g2 (a 0) g4 g5 g6 g7 g8 tp ++ (w_Ride dA a (pa 0) (pa 1) rd ++ (w_Plan dA pa pl))) H → va_D A (w_Top dA t g0 (pa 0) g2 (a 0) g4 g5 g6 g7 g8 tp ++ (w_Ride dA a (pa 0) (pa 1) rd ++ (w_Plan dA pa pl))) → va_S A s.heap H locs → decode cX10_choosingTrouble pc = .ok (.ireturn, 1) → W p l e ({ frames := 1, cells := 0, slots := 0, locals := 21 } : Room) s m ([.ref (t 0), .int x0] : List Value).toArray below meth c H locs 0 0 Q (F0 m pc ls [.int r2]) := by
    intro r2 H locs ls pc hq hP hD hS hd
    cases hq
    rw [← hQ]
    exact W.iret hx hb hr (fun t ht hW => ⟨⟨_, (), rfl, rfl, by rw [ht]; exact hP, hD⟩, hS.F ht⟩) hS.2.2 hd
  have B_32 : ∀  (H : Heap) (locs : List Loc) (ls : Array Slot), f_X10_choosingTrouble_b32 tp rd pl  = some (rv) → va_P D vwCl (w_Top dA t g0 (pa 0) g2 (a 0) g4 g5 g6 g7 g8 tp ++ (w_Ride dA a (pa 0) (pa 1) rd ++ (w_Plan dA pa pl))) H → va_D A (w_Top dA t g0 (pa 0) g2 (a 0) g4 g5 g6 g7 g8 tp ++ (w_Ride dA a (pa 0) (pa 1) rd ++ (w_Plan dA pa pl))) → va_S A s.heap H locs → lv_has ls 3 [] → W p l e ({ frames := 1, cells := 0, slots := 0, locals := 21 } : Room) s m ([.ref (t 0), .int x0] : List Value).toArray below meth c H locs 0 0 Q (F0 m 32 ls []) := by
    intro  H locs ls hf hP hD hS hl
    rw [f_X10_choosingTrouble_b32] at hf
    refine lv_iconst (v := (0 : Int32)) hx hb dX10_choosingTrouble_32 (by decide) ?_
    refine lv_goto (tgt := 37) hx hb dX10_choosingTrouble_33 (by decide) ?_
    exact RET _ H _ ls 37 hf hP hD hS dX10_choosingTrouble_37
  have E0 : ∀ (H : Heap) (locs : List Loc), va_P D vwCl (w_Top dA t g0 (pa 0) g2 (a 0) g4 g5 g6 g7 g8 tp ++ (w_Ride dA a (pa 0) (pa 1) rd ++ (w_Plan dA pa pl))) H → va_D A (w_Top dA t g0 (pa 0) g2 (a 0) g4 g5 g6 g7 g8 tp ++ (w_Ride dA a (pa 0) (pa 1) rd ++ (w_Plan dA pa pl))) → va_S A s.heap H locs → W p l e ({ frames := 1, cells := 0, slots := 0, locals := 21 } : Room) s m ([.ref (t 0), .int x0] : List Value).toArray below meth c H locs 0 0 Q (F0 m 0 ls []) := by
    intro H locs hP hD hS
    rw [f_X10_choosingTrouble] at hf
    refine lv_aload_n hx hb dX10_choosingTrouble_0 rfl (lv_at hl 0 rfl) ?_
    refine lv_iload_n hx hb dX10_choosingTrouble_1 rfl (lv_at hl 1 rfl) ?_
    obtain ⟨r1, hc1, hf⟩ := kb_bind hf
    refine kb_ci (ws2 := (w_Top dA t g0 (pa 0) g2 (a 0) g4 g5 g6 g7 g8 tp ++ (w_Ride dA a (pa 0) (pa 1) rd ++ (w_Plan dA pa pl)))) (kb_rV (n := 1) (As := [.int x0]) (rest := []) hx hb hml hown hK (c_X10_isRider l D dA H.size t pa g0 g2 (a 0) g4 g5 g6 g7 g8 tp pl x0 r1 hc1) ⟨ww_4_75, ww_4_72, ww_4_74, ws_33, ww_1_1, rfl, by decide, by decide⟩ rfl rfl (by decide +kernel) ⟨Nat.le_of_ble_eq_true rfl, Nat.le_of_ble_eq_true rfl⟩ hP hD hS hA hE [0, 10, 11, 12, 13, 14, 15, 16, 17, 18, 19, 20, 21, 22, 23, 24, 25, 26, 27, 28, 29, 30] rfl (by decide) 0 rfl rfl rfl hl.1 rfl (Nat.le_of_ble_eq_true rfl) dX10_choosingTrouble_2 ⟨Nat.le_of_ble_eq_true rfl, Nat.le_of_ble_eq_true rfl⟩) hP hD hS hA [0, 10, 11, 12, 13, 14, 15, 16, 17, 18, 19, 20, 21, 22, 23, 24, 25, 26, 27, 28, 29, 30] [1, 2, 3, 4, 5, 6, 7, 8, 9] [9, 0, 1, 2, 3, 4, 5, 6, 7, 8, 10, 11, 12, 13, 14, 15, 16, 17, 18, 19, 20, 21, 22, 23, 24, 25, 26, 27, 28, 29, 30] rfl rfl (by decide) (by decide) rfl (by decide) (fun H locs hP hD hS => ?_)
    refine lv_if_ne (tgt := 10) hx hb dX10_choosingTrouble_5 (by decide) (fun c_2 => ?_) (fun c_2 => ?_)
    · rw [if_neg c_2] at hf
      refine lv_aload_n hx hb dX10_choosingTrouble_10 rfl (lv_at hl 0 rfl) ?_
      refine va_get (D := D) (ci := 10) (v := .ref (a 0)) (C := RX10) (T := TX10) (N := 12) hx hb hts kb_inX10 hown hK.1 hP 0 rfl rfl 4 (by decide) (hK.2.w ww_2_156 rfl _) (fun _ h9 => h9) rfl dX10_choosingTrouble_11 ?_
      refine va_get (D := D) (ci := 6) (v := .ref (a 4)) (C := RX6) (T := TX6) (N := 11) hx hb hts kb_inX6 hown hK.1 hP 1 rfl rfl 2 (by decide) (hK.2.w ww_2_71 rfl _) (fun _ h9 => h9) rfl dX10_choosingTrouble_14 ?_
      refine lv_iload_n hx hb dX10_choosingTrouble_17 rfl (lv_at hl 1 rfl) ?_
      obtain ⟨h_3, hf⟩ := kb_if hf
      refine va_iald (D := D) hx hb hK.1 hP 5 0 rfl rfl h_3 dX10_choosingTrouble_18 ?_
      refine lv_istore_n (lv' := [(2, .int ((rd_place rd) (x0).toNatClampNeg)), (0, .ref (t 0)), (1, .int x0)]) hx hb dX10_choosingTrouble_19 rfl hl (by decide) rfl (fun ls hl => ?_)
      refine lv_iload_n hx hb dX10_choosingTrouble_20 rfl (lv_at hl 0 rfl) ?_
      refine lv_bipush (v := (100 : Int32)) hx hb dX10_choosingTrouble_21 (by decide) ?_
      refine lv_icmp_eq (tgt := 32) hx hb dX10_choosingTrouble_23 (by decide) (fun c_4 => ?_) (fun c_4 => ?_)
      · rw [if_pos c_4] at hf
        exact B_32 _ _ _ hf hP hD hS (lv_sub hl [] rfl)
      · rw [if_neg c_4] at hf
        refine lv_iload_n hx hb dX10_choosingTrouble_26 rfl (lv_at hl 0 rfl) ?_
        refine lv_bipush (v := (101 : Int32)) hx hb dX10_choosingTrouble_27 (by decide) ?_
        refine lv_icmp_ne (tgt := 36) hx hb dX10_choosingTrouble_29 (by decide) (fun c_5 => ?_) (fun c_5 => ?_)
        · rw [if_neg c_5] at hf
          refine lv_iconst (v := (5 : Int32)) hx hb dX10_choosingTrouble_36 (by decide) ?_
          exact RET _ H _ ls 37 hf hP hD hS dX10_choosingTrouble_37
        · rw [if_pos c_5] at hf
          exact B_32 _ _ _ hf hP hD hS (lv_sub hl [] rfl)
    · rw [if_pos c_2] at hf
      refine lv_iconst (v := (1 : Int32)) hx hb dX10_choosingTrouble_8 (by decide) ?_
      exact RET _ H _ ls 9 hf hP hD hS dX10_choosingTrouble_9
  exact E0 _ _ hP hD hS

noncomputable def f_X10_choice (tp : TopT) (rd : RideT) (pl : PlanT) (x0 : Int32) : Option (Int32 × TopT) := (f_X10_choosingTrouble tp rd pl x0).bind fun r1 => (if r1 = 0 then (f_X6_bestSeats rd pl x0).bind fun r3 => (f_X6_chosen rd pl x0 r3).bind fun r4 => (f_X10_answered tp r4).bind fun r5 => some (r5.1, r5.2) else (f_X10_refused tp r1).bind fun r6 => some (r6.1, r6.2))
set_option maxHeartbeats 4000000 in
set_option maxRecDepth 100000 in
theorem c_X10_choice (l : Launch) (D : va_G) (dA : Nat → ClassId) (sz : Nat) (t : Nat → Nat) (a : Nat → Nat) (pa : Nat → Nat) (g0 : Nat) (g2 : Nat) (g4 : Nat) (g5 : Nat) (g6 : Nat) (g7 : Nat) (g8 : Nat) (tp : TopT) (rd : RideT) (pl : PlanT) (x0 : Int32) (rv : Int32) (u0 : TopT) (hf : f_X10_choice tp rd pl x0 = some (rv, u0)) : kb_Mi l yX10_choice cX10_choice 3 (some .int) ({ frames := 4, cells := 0, slots := 0, locals := 104 } : Room) D dA [.ref (t 0), .int x0] sz (w_Top dA t g0 (pa 0) g2 (a 0) g4 g5 g6 g7 g8 tp ++ (w_Ride dA a (pa 0) (pa 1) rd ++ (w_Plan dA pa pl))) 0 0 rv (w_Top dA t g0 (pa 0) g2 (a 0) g4 g5 g6 g7 g8 u0 ++ (w_Ride dA a (pa 0) (pa 1) rd ++ (w_Plan dA pa pl))) := by
  refine Met.ofW (cc := cX10_choice) (maxL := 3) (ret := (some .int)) (by decide) rfl ?_
  intro p e s m args below meth c s₁ B hml hv
  obtain ⟨rfl, hsz, hP, hK, hD0, hE⟩ := hv
  have hx := B.exec
  have hb := B.bytes
  have hr := B.returns
  have hown : s.vm.findClass RX10 = some m.cls := findClass_of_methodNamed B.named
  have hlocks := B.notSynchronized
  have hts : ∀ w ∈ kb_gw, w.before ([.ref (t 0), .int x0] : List Value).toArray s = true := fun w hw => hK.2.1 w hw _
  subst hsz
  have hD := hD0.self (sz := s.heap.size)
  generalize hAe : va_A (w_Top dA t g0 (pa 0) g2 (a 0) g4 g5 g6 g7 g8 tp ++ (w_Ride dA a (pa 0) (pa 1) rd ++ (w_Plan dA pa pl))) s.heap.size = A at hD hE ⊢
  have hA : ∀ q : Nat, s.heap.size ≤ q → A q := fun q h => by rw [← hAe]; exact Or.inr h
  have hS : va_S A s.heap s.heap [] := va_S.rf
  have hl := lv_entry ([.ref (t 0), .int x0]) (n := 3) (Nat.le_of_ble_eq_true rfl)
  rw [lg_entry_eq]
  generalize (lg_sl ([.ref (t 0), .int x0]) ++ List.replicate (3 - (lg_sl ([.ref (t 0), .int x0])).length) Slot.unset).toArray = ls at hl ⊢
  have hl : lv_has ls 3 [(0, .ref (t 0)), (1, .int x0)] := hl
  generalize hQ : MQ below (va_Qi (fun r (_ : Unit) => r = rv) (kb_B D A (w_Top dA t g0 (pa 0) g2 (a 0) g4 g5 g6 g7 g8 u0 ++ (w_Ride dA a (pa 0) (pa 1) rd ++ (w_Plan dA pa pl)))) A) ([.ref (t 0), .int x0] : List Value).toArray s 0 0 A = Q
  show W p l e ({ frames := 4, cells := 0, slots := 0, locals := 104 } : Room) s m ([.ref (t 0), .int x0] : List Value).toArray below meth c s.heap [] 0 0 Q (F0 m 0 ls [])
  have RET : ∀ (r2 : Int32) (w0 : TopT) (H : Heap) (locs : List Loc) (ls : Array Slot) (pc : Nat), some (r2, w0) = some (rv, u0) → va_P D vwCl (w_Top dA t g0 (pa 0) g2 (a 0) g4 g5 g6 g7 g8 w0 ++ (w_Ride dA a (pa 0) (pa 1) rd ++ (w_Plan dA pa pl))) H → va_D A (w_Top dA t g0 (pa 0) g2 (a 0) g4 g5 g6 g7 g8 w0 ++ (w_Ride dA a (pa 0) (pa 1) rd ++ (w_Plan dA pa pl))) → va_S A s.heap H locs → decode cX10_choice pc = .ok (.ireturn, 1) → W p l e ({ frames := 4, cells := 0, slots := 0, locals := 104 } : Room) s m ([.ref (t 0), .int x0] : List Value).toArray below meth c H locs 0 0 Q (F0 m pc ls [.int r2]) := by
    intro r2 w0 H locs ls pc hq hP hD hS hd
    cases hq
    rw [← hQ]
    exact W.iret hx hb hr (fun t ht hW => ⟨⟨_, (), rfl, rfl, by rw [ht]; exact hP, hD⟩, hS.F ht⟩) hS.2.2 hd
  have E0 : ∀ (H : Heap) (locs : List Loc), va_P D vwCl (w_Top dA t g0 (pa 0) g2 (a 0) g4 g5 g6 g7 g8 tp ++ (w_Ride dA a (pa 0) (pa 1) rd ++ (w_Plan dA pa pl))) H → va_D A (w_Top dA t g0 (pa 0) g2 (a 0) g4 g5 g6 g7 g8 tp ++ (w_Ride dA a (pa 0) (pa 1) rd ++ (w_Plan dA pa pl))) → va_S A s.heap H locs → W p l e ({ frames := 4, cells := 0, slots := 0, locals := 104 } : Room) s m ([.ref (t 0), .int x0] : List Value).toArray below meth c H locs 0 0 Q (F0 m 0 ls []) := by
    intro H locs hP hD hS
    rw [f_X10_choice] at hf
    refine lv_aload_n hx hb dX10_choice_0 rfl (lv_at hl 0 rfl) ?_
    refine lv_iload_n hx hb dX10_choice_1 rfl (lv_at hl 1 rfl) ?_
    obtain ⟨r1, hc1, hf⟩ := kb_bind hf
    refine kb_ci (ws2 := (w_Top dA t g0 (pa 0) g2 (a 0) g4 g5 g6 g7 g8 tp ++ (w_Ride dA a (pa 0) (pa 1) rd ++ (w_Plan dA pa pl)))) (kb_rV (n := 1) (As := [.int x0]) (rest := []) hx hb hml hown hK (c_X10_choosingTrouble l D dA H.size t a pa g0 g2 g4 g5 g6 g7 g8 tp rd pl x0 r1 hc1) ⟨ww_4_153, ww_4_150, ww_4_152, ws_35, ww_1_1, rfl, by decide, by decide⟩ rfl rfl (by decide +kernel) ⟨Nat.le_of_ble_eq_true rfl, Nat.le_of_ble_eq_true rfl⟩ hP hD hS hA hE [0, 1, 2, 3, 4, 5, 6, 7, 8, 9, 10, 11, 12, 13, 14, 15, 16, 17, 18, 19, 20, 21, 22, 23, 24, 25, 26, 27, 28, 29, 30] rfl (by decide) 0 rfl rfl rfl hl.1 rfl (Nat.le_of_ble_eq_true rfl) dX10_choice_2 ⟨Nat.le_of_ble_eq_true rfl, Nat.le_of_ble_eq_true rfl⟩) hP hD hS hA [0, 1, 2, 3, 4, 5, 6, 7, 8, 9, 10, 11, 12, 13, 14, 15, 16, 17, 18, 19, 20, 21, 22, 23, 24, 25, 26, 27, 28, 29, 30] [] [0, 1, 2, 3, 4, 5, 6, 7, 8, 9, 10, 11, 12, 13, 14, 15, 16, 17, 18, 19, 20, 21, 22, 23, 24, 25, 26, 27, 28, 29, 30] rfl rfl (by decide) (by decide) rfl (by decide) (fun H locs hP hD hS => ?_)
    refine lv_istore_n (lv' := [(2, .int r1), (0, .ref (t 0)), (1, .int x0)]) hx hb dX10_choice_5 rfl hl (by decide) rfl (fun ls hl => ?_)
    refine lv_iload_n hx hb dX10_choice_6 rfl (lv_at hl 0 rfl) ?_
    refine lv_if_eq (tgt := 16) hx hb dX10_choice_7 (by decide) (fun c_2 => ?_) (fun c_2 => ?_)
    · rw [if_pos c_2] at hf
      refine lv_aload_n hx hb dX10_choice_16 rfl (lv_at hl 1 rfl) ?_
      refine lv_aload_n hx hb dX10_choice_17 rfl (lv_at hl 1 rfl) ?_
      refine va_get (D := D) (ci := 10) (v := .ref (a 0)) (C := RX10) (T := TX10) (N := 12) hx hb hts kb_inX10 hown hK.1 hP 0 rfl rfl 4 (by decide) (hK.2.w ww_2_156 rfl _) (fun _ h9 => h9) rfl dX10_choice_18 ?_
      refine lv_iload_n hx hb dX10_choice_21 rfl (lv_at hl 2 rfl) ?_
      refine lv_aload_n hx hb dX10_choice_22 rfl (lv_at hl 1 rfl) ?_
      refine va_get (D := D) (ci := 10) (v := .ref (a 0)) (C := RX10) (T := TX10) (N := 12) hx hb hts kb_inX10 hown hK.1 hP 0 rfl rfl 4 (by decide) (hK.2.w ww_2_156 rfl _) (fun _ h9 => h9) rfl dX10_choice_23 ?_
      refine lv_iload_n hx hb dX10_choice_26 rfl (lv_at hl 2 rfl) ?_
      obtain ⟨r3, hc3, hf⟩ := kb_bind hf
      refine kb_ci (ws2 := (w_Top dA t g0 (pa 0) g2 (a 0) g4 g5 g6 g7 g8 tp ++ (w_Ride dA a (pa 0) (pa 1) rd ++ (w_Plan dA pa pl)))) (kb_rV (n := 1) (As := [.int x0]) (rest := [.int x0, .ref (a 0), .ref (t 0)]) hx hb hml hown hK (c_X6_bestSeats l D dA H.size a pa rd pl x0 r3 hc3) ⟨ww_4_18, ww_4_154, ww_4_16, ww_4_17, ww_1_8, rfl, by decide, by decide⟩ rfl rfl (by decide +kernel) ⟨Nat.le_of_ble_eq_true rfl, Nat.le_of_ble_eq_true rfl⟩ hP hD hS hA hE [1, 2, 3, 4, 5, 6, 7, 8, 9, 10, 11, 12, 13, 14, 15, 16, 17, 18, 19, 20, 21, 22, 23, 24, 25, 26, 27, 28, 29, 30] rfl (by decide) 0 rfl rfl rfl hl.1 rfl (Nat.le_of_ble_eq_true rfl) dX10_choice_27 ⟨Nat.le_of_ble_eq_true rfl, Nat.le_of_ble_eq_true rfl⟩) hP hD hS hA [1, 2, 3, 4, 5, 6, 7, 8, 9, 10, 11, 12, 13, 14, 15, 16, 17, 18, 19, 20, 21, 22, 23, 24, 25, 26, 27, 28, 29, 30] [0] [0, 1, 2, 3, 4, 5, 6, 7, 8, 9, 10, 11, 12, 13, 14, 15, 16, 17, 18, 19, 20, 21, 22, 23, 24, 25, 26, 27, 28, 29, 30] rfl rfl (by decide) (by decide) rfl (by decide) (fun H locs hP hD hS => ?_)
      obtain ⟨r4, hc4, hf⟩ := kb_bind hf
      refine kb_ci (ws2 := (w_Top dA t g0 (pa 0) g2 (a 0) g4 g5 g6 g7 g8 tp ++ (w_Ride dA a (pa 0) (pa 1) rd ++ (w_Plan dA pa pl)))) (kb_rV (n := 2) (As := [.int x0, .int r3]) (rest := [.ref (t 0)]) hx hb hml hown hK (c_X6_chosen l D dA H.size a pa rd pl x0 r3 r4 hc4) ⟨ww_4_51, ww_4_155, ww_4_49, ww_4_50, ww_1_8, rfl, by decide, by decide⟩ rfl rfl (by decide +kernel) ⟨Nat.le_of_ble_eq_true rfl, Nat.le_of_ble_eq_true rfl⟩ hP hD hS hA hE [1, 2, 3, 4, 5, 6, 7, 8, 9, 10, 11, 12, 13, 14, 15, 16, 17, 18, 19, 20, 21, 22, 23, 24, 25, 26, 27, 28, 29, 30] rfl (by decide) 0 rfl rfl rfl hl.1 rfl (Nat.le_of_ble_eq_true rfl) dX10_choice_30 ⟨Nat.le_of_ble_eq_true rfl, Nat.le_of_ble_eq_true rfl⟩) hP hD hS hA [1, 2, 3, 4, 5, 6, 7, 8, 9, 10, 11, 12, 13, 14, 15, 16, 17, 18, 19, 20, 21, 22, 23, 24, 25, 26, 27, 28, 29, 30] [0] [0, 1, 2, 3, 4, 5, 6, 7, 8, 9, 10, 11, 12, 13, 14, 15, 16, 17, 18, 19, 20, 21, 22, 23, 24, 25, 26, 27, 28, 29, 30] rfl rfl (by decide) (by decide) rfl (by decide) (fun H locs hP hD hS => ?_)
      obtain ⟨r5, hc5, hf⟩ := kb_bind hf
      refine kb_ci (ws2 := (w_Top dA t g0 (pa 0) g2 (a 0) g4 g5 g6 g7 g8 r5.2 ++ (w_Ride dA a (pa 0) (pa 1) rd ++ (w_Plan dA pa pl)))) (kb_rV (n := 1) (As := [.int r4]) (rest := []) hx hb hml hown hK (c_X10_answered l D dA H.size t g0 (pa 0) g2 (a 0) g4 g5 g6 g7 g8 tp r4 r5.1 r5.2 hc5) ⟨ww_3_184, ww_3_181, ww_3_183, ws_22, ww_1_1, rfl, by decide, by decide⟩ rfl rfl (by decide +kernel) ⟨Nat.le_of_ble_eq_true rfl, Nat.le_of_ble_eq_true rfl⟩ hP hD hS hA hE [0] rfl (by decide) 0 rfl rfl rfl hl.1 rfl (Nat.le_of_ble_eq_true rfl) dX10_choice_33 ⟨Nat.le_of_ble_eq_true rfl, Nat.le_of_ble_eq_true rfl⟩) hP hD hS hA [0] [1, 2, 3, 4, 5, 6, 7, 8, 9, 10, 11, 12, 13, 14, 15, 16, 17, 18, 19, 20, 21, 22, 23, 24, 25, 26, 27, 28, 29, 30] [30, 0, 1, 2, 3, 4, 5, 6, 7, 8, 9, 10, 11, 12, 13, 14, 15, 16, 17, 18, 19, 20, 21, 22, 23, 24, 25, 26, 27, 28, 29] rfl rfl (by decide) (by decide) rfl (by decide) (fun H locs hP hD hS => ?_)
      exact RET _ _ H _ ls 36 hf hP hD hS dX10_choice_36
    · rw [if_neg c_2] at hf
      refine lv_aload_n hx hb dX10_choice_10 rfl (lv_at hl 1 rfl) ?_
      refine lv_iload_n hx hb dX10_choice_11 rfl (lv_at hl 0 rfl) ?_
      obtain ⟨r6, hc6, hf⟩ := kb_bind hf
      refine kb_ci (ws2 := (w_Top dA t g0 (pa 0) g2 (a 0) g4 g5 g6 g7 g8 r6.2 ++ (w_Ride dA a (pa 0) (pa 1) rd ++ (w_Plan dA pa pl)))) (kb_rV (n := 1) (As := [.int r1]) (rest := []) hx hb hml hown hK (c_X10_refused l D dA H.size t g0 (pa 0) g2 (a 0) g4 g5 g6 g7 g8 tp r1 r6.1 r6.2 hc6) ⟨ww_2_204, ww_2_201, ww_2_203, ws_0, ww_1_1, rfl, by decide, by decide⟩ rfl rfl (by decide +kernel) ⟨Nat.le_of_ble_eq_true rfl, Nat.le_of_ble_eq_true rfl⟩ hP hD hS hA hE [0] rfl (by decide) 0 rfl rfl rfl hl.1 rfl (Nat.le_of_ble_eq_true rfl) dX10_choice_12 ⟨Nat.le_of_ble_eq_true rfl, Nat.le_of_ble_eq_true rfl⟩) hP hD hS hA [0] [1, 2, 3, 4, 5, 6, 7, 8, 9, 10, 11, 12, 13, 14, 15, 16, 17, 18, 19, 20, 21, 22, 23, 24, 25, 26, 27, 28, 29, 30] [30, 0, 1, 2, 3, 4, 5, 6, 7, 8, 9, 10, 11, 12, 13, 14, 15, 16, 17, 18, 19, 20, 21, 22, 23, 24, 25, 26, 27, 28, 29] rfl rfl (by decide) (by decide) rfl (by decide) (fun H locs hP hD hS => ?_)
      exact RET _ _ H _ ls 15 hf hP hD hS dX10_choice_15
  exact E0 _ _ hP hD hS

noncomputable def f_X10_ties (tp : TopT) (rd : RideT) (pl : PlanT) (x0 : Int32) : Option (Int32 × TopT) := (f_X10_choosingTrouble tp rd pl x0).bind fun r1 => (if r1 = 0 then (f_X6_bestSeats rd pl x0).bind fun r3 => (f_X6_tied rd pl x0 r3).bind fun r4 => (f_J6_bitCount_0f7a4 r4).bind fun r5 => (f_X10_answered tp r5).bind fun r6 => some (r6.1, r6.2) else (f_X10_refused tp r1).bind fun r7 => some (r7.1, r7.2))
set_option maxHeartbeats 4000000 in
set_option maxRecDepth 100000 in
theorem c_X10_ties (l : Launch) (D : va_G) (dA : Nat → ClassId) (sz : Nat) (t : Nat → Nat) (a : Nat → Nat) (pa : Nat → Nat) (g0 : Nat) (g2 : Nat) (g4 : Nat) (g5 : Nat) (g6 : Nat) (g7 : Nat) (g8 : Nat) (tp : TopT) (rd : RideT) (pl : PlanT) (x0 : Int32) (rv : Int32) (u0 : TopT) (hf : f_X10_ties tp rd pl x0 = some (rv, u0)) : kb_Mi l yX10_ties cX10_ties 3 (some .int) ({ frames := 4, cells := 0, slots := 0, locals := 104 } : Room) D dA [.ref (t 0), .int x0] sz (w_Top dA t g0 (pa 0) g2 (a 0) g4 g5 g6 g7 g8 tp ++ (w_Ride dA a (pa 0) (pa 1) rd ++ (w_Plan dA pa pl))) 0 0 rv (w_Top dA t g0 (pa 0) g2 (a 0) g4 g5 g6 g7 g8 u0 ++ (w_Ride dA a (pa 0) (pa 1) rd ++ (w_Plan dA pa pl))) := by
  refine Met.ofW (cc := cX10_ties) (maxL := 3) (ret := (some .int)) (by decide) rfl ?_
  intro p e s m args below meth c s₁ B hml hv
  obtain ⟨rfl, hsz, hP, hK, hD0, hE⟩ := hv
  have hx := B.exec
  have hb := B.bytes
  have hr := B.returns
  have hown : s.vm.findClass RX10 = some m.cls := findClass_of_methodNamed B.named
  have hlocks := B.notSynchronized
  have hts : ∀ w ∈ kb_gw, w.before ([.ref (t 0), .int x0] : List Value).toArray s = true := fun w hw => hK.2.1 w hw _
  subst hsz
  have hD := hD0.self (sz := s.heap.size)
  generalize hAe : va_A (w_Top dA t g0 (pa 0) g2 (a 0) g4 g5 g6 g7 g8 tp ++ (w_Ride dA a (pa 0) (pa 1) rd ++ (w_Plan dA pa pl))) s.heap.size = A at hD hE ⊢
  have hA : ∀ q : Nat, s.heap.size ≤ q → A q := fun q h => by rw [← hAe]; exact Or.inr h
  have hS : va_S A s.heap s.heap [] := va_S.rf
  have hl := lv_entry ([.ref (t 0), .int x0]) (n := 3) (Nat.le_of_ble_eq_true rfl)
  rw [lg_entry_eq]
  generalize (lg_sl ([.ref (t 0), .int x0]) ++ List.replicate (3 - (lg_sl ([.ref (t 0), .int x0])).length) Slot.unset).toArray = ls at hl ⊢
  have hl : lv_has ls 3 [(0, .ref (t 0)), (1, .int x0)] := hl
  generalize hQ : MQ below (va_Qi (fun r (_ : Unit) => r = rv) (kb_B D A (w_Top dA t g0 (pa 0) g2 (a 0) g4 g5 g6 g7 g8 u0 ++ (w_Ride dA a (pa 0) (pa 1) rd ++ (w_Plan dA pa pl)))) A) ([.ref (t 0), .int x0] : List Value).toArray s 0 0 A = Q
  show W p l e ({ frames := 4, cells := 0, slots := 0, locals := 104 } : Room) s m ([.ref (t 0), .int x0] : List Value).toArray below meth c s.heap [] 0 0 Q (F0 m 0 ls [])
  have RET : ∀ (r2 : Int32) (w0 : TopT) (H : Heap) (locs : List Loc) (ls : Array Slot) (pc : Nat), some (r2, w0) = some (rv, u0) → va_P D vwCl (w_Top dA t g0 (pa 0) g2 (a 0) g4 g5 g6 g7 g8 w0 ++ (w_Ride dA a (pa 0) (pa 1) rd ++ (w_Plan dA pa pl))) H → va_D A (w_Top dA t g0 (pa 0) g2 (a 0) g4 g5 g6 g7 g8 w0 ++ (w_Ride dA a (pa 0) (pa 1) rd ++ (w_Plan dA pa pl))) → va_S A s.heap H locs → decode cX10_ties pc = .ok (.ireturn, 1) → W p l e ({ frames := 4, cells := 0, slots := 0, locals := 104 } : Room) s m ([.ref (t 0), .int x0] : List Value).toArray below meth c H locs 0 0 Q (F0 m pc ls [.int r2]) := by
    intro r2 w0 H locs ls pc hq hP hD hS hd
    cases hq
    rw [← hQ]
    exact W.iret hx hb hr (fun t ht hW => ⟨⟨_, (), rfl, rfl, by rw [ht]; exact hP, hD⟩, hS.F ht⟩) hS.2.2 hd
  have E0 : ∀ (H : Heap) (locs : List Loc), va_P D vwCl (w_Top dA t g0 (pa 0) g2 (a 0) g4 g5 g6 g7 g8 tp ++ (w_Ride dA a (pa 0) (pa 1) rd ++ (w_Plan dA pa pl))) H → va_D A (w_Top dA t g0 (pa 0) g2 (a 0) g4 g5 g6 g7 g8 tp ++ (w_Ride dA a (pa 0) (pa 1) rd ++ (w_Plan dA pa pl))) → va_S A s.heap H locs → W p l e ({ frames := 4, cells := 0, slots := 0, locals := 104 } : Room) s m ([.ref (t 0), .int x0] : List Value).toArray below meth c H locs 0 0 Q (F0 m 0 ls []) := by
    intro H locs hP hD hS
    rw [f_X10_ties] at hf
    refine lv_aload_n hx hb dX10_ties_0 rfl (lv_at hl 0 rfl) ?_
    refine lv_iload_n hx hb dX10_ties_1 rfl (lv_at hl 1 rfl) ?_
    obtain ⟨r1, hc1, hf⟩ := kb_bind hf
    refine kb_ci (ws2 := (w_Top dA t g0 (pa 0) g2 (a 0) g4 g5 g6 g7 g8 tp ++ (w_Ride dA a (pa 0) (pa 1) rd ++ (w_Plan dA pa pl)))) (kb_rV (n := 1) (As := [.int x0]) (rest := []) hx hb hml hown hK (c_X10_choosingTrouble l D dA H.size t a pa g0 g2 g4 g5 g6 g7 g8 tp rd pl x0 r1 hc1) ⟨ww_4_153, ww_4_150, ww_4_152, ws_35, ww_1_1, rfl, by decide, by decide⟩ rfl rfl (by decide +kernel) ⟨Nat.le_of_ble_eq_true rfl, Nat.le_of_ble_eq_true rfl⟩ hP hD hS hA hE [0, 1, 2, 3, 4, 5, 6, 7, 8, 9, 10, 11, 12, 13, 14, 15, 16, 17, 18, 19, 20, 21, 22, 23, 24, 25, 26, 27, 28, 29, 30] rfl (by decide) 0 rfl rfl rfl hl.1 rfl (Nat.le_of_ble_eq_true rfl) dX10_ties_2 ⟨Nat.le_of_ble_eq_true rfl, Nat.le_of_ble_eq_true rfl⟩) hP hD hS hA [0, 1, 2, 3, 4, 5, 6, 7, 8, 9, 10, 11, 12, 13, 14, 15, 16, 17, 18, 19, 20, 21, 22, 23, 24, 25, 26, 27, 28, 29, 30] [] [0, 1, 2, 3, 4, 5, 6, 7, 8, 9, 10, 11, 12, 13, 14, 15, 16, 17, 18, 19, 20, 21, 22, 23, 24, 25, 26, 27, 28, 29, 30] rfl rfl (by decide) (by decide) rfl (by decide) (fun H locs hP hD hS => ?_)
    refine lv_istore_n (lv' := [(2, .int r1), (0, .ref (t 0)), (1, .int x0)]) hx hb dX10_ties_5 rfl hl (by decide) rfl (fun ls hl => ?_)
    refine lv_iload_n hx hb dX10_ties_6 rfl (lv_at hl 0 rfl) ?_
    refine lv_if_eq (tgt := 16) hx hb dX10_ties_7 (by decide) (fun c_2 => ?_) (fun c_2 => ?_)
    · rw [if_pos c_2] at hf
      refine lv_aload_n hx hb dX10_ties_16 rfl (lv_at hl 1 rfl) ?_
      refine lv_aload_n hx hb dX10_ties_17 rfl (lv_at hl 1 rfl) ?_
      refine va_get (D := D) (ci := 10) (v := .ref (a 0)) (C := RX10) (T := TX10) (N := 12) hx hb hts kb_inX10 hown hK.1 hP 0 rfl rfl 4 (by decide) (hK.2.w ww_2_156 rfl _) (fun _ h9 => h9) rfl dX10_ties_18 ?_
      refine lv_iload_n hx hb dX10_ties_21 rfl (lv_at hl 2 rfl) ?_
      refine lv_aload_n hx hb dX10_ties_22 rfl (lv_at hl 1 rfl) ?_
      refine va_get (D := D) (ci := 10) (v := .ref (a 0)) (C := RX10) (T := TX10) (N := 12) hx hb hts kb_inX10 hown hK.1 hP 0 rfl rfl 4 (by decide) (hK.2.w ww_2_156 rfl _) (fun _ h9 => h9) rfl dX10_ties_23 ?_
      refine lv_iload_n hx hb dX10_ties_26 rfl (lv_at hl 2 rfl) ?_
      obtain ⟨r3, hc3, hf⟩ := kb_bind hf
      refine kb_ci (ws2 := (w_Top dA t g0 (pa 0) g2 (a 0) g4 g5 g6 g7 g8 tp ++ (w_Ride dA a (pa 0) (pa 1) rd ++ (w_Plan dA pa pl)))) (kb_rV (n := 1) (As := [.int x0]) (rest := [.int x0, .ref (a 0), .ref (t 0)]) hx hb hml hown hK (c_X6_bestSeats l D dA H.size a pa rd pl x0 r3 hc3) ⟨ww_4_18, ww_4_154, ww_4_16, ww_4_17, ww_1_8, rfl, by decide, by decide⟩ rfl rfl (by decide +kernel) ⟨Nat.le_of_ble_eq_true rfl, Nat.le_of_ble_eq_true rfl⟩ hP hD hS hA hE [1, 2, 3, 4, 5, 6, 7, 8, 9, 10, 11, 12, 13, 14, 15, 16, 17, 18, 19, 20, 21, 22, 23, 24, 25, 26, 27, 28, 29, 30] rfl (by decide) 0 rfl rfl rfl hl.1 rfl (Nat.le_of_ble_eq_true rfl) dX10_ties_27 ⟨Nat.le_of_ble_eq_true rfl, Nat.le_of_ble_eq_true rfl⟩) hP hD hS hA [1, 2, 3, 4, 5, 6, 7, 8, 9, 10, 11, 12, 13, 14, 15, 16, 17, 18, 19, 20, 21, 22, 23, 24, 25, 26, 27, 28, 29, 30] [0] [0, 1, 2, 3, 4, 5, 6, 7, 8, 9, 10, 11, 12, 13, 14, 15, 16, 17, 18, 19, 20, 21, 22, 23, 24, 25, 26, 27, 28, 29, 30] rfl rfl (by decide) (by decide) rfl (by decide) (fun H locs hP hD hS => ?_)
      obtain ⟨r4, hc4, hf⟩ := kb_bind hf
      refine kb_ci (ws2 := (w_Top dA t g0 (pa 0) g2 (a 0) g4 g5 g6 g7 g8 tp ++ (w_Ride dA a (pa 0) (pa 1) rd ++ (w_Plan dA pa pl)))) (kb_rV (n := 2) (As := [.int x0, .int r3]) (rest := [.ref (t 0)]) hx hb hml hown hK (c_X6_tied l D dA H.size a pa rd pl x0 r3 r4 hc4) ⟨ww_4_163, ww_4_160, ww_4_161, ww_4_162, ww_1_8, rfl, by decide, by decide⟩ rfl rfl (by decide +kernel) ⟨Nat.le_of_ble_eq_true rfl, Nat.le_of_ble_eq_true rfl⟩ hP hD hS hA hE [1, 2, 3, 4, 5, 6, 7, 8, 9, 10, 11, 12, 13, 14, 15, 16, 17, 18, 19, 20, 21, 22, 23, 24, 25, 26, 27, 28, 29, 30] rfl (by decide) 0 rfl rfl rfl hl.1 rfl (Nat.le_of_ble_eq_true rfl) dX10_ties_30 ⟨Nat.le_of_ble_eq_true rfl, Nat.le_of_ble_eq_true rfl⟩) hP hD hS hA [1, 2, 3, 4, 5, 6, 7, 8, 9, 10, 11, 12, 13, 14, 15, 16, 17, 18, 19, 20, 21, 22, 23, 24, 25, 26, 27, 28, 29, 30] [0] [0, 1, 2, 3, 4, 5, 6, 7, 8, 9, 10, 11, 12, 13, 14, 15, 16, 17, 18, 19, 20, 21, 22, 23, 24, 25, 26, 27, 28, 29, 30] rfl rfl (by decide) (by decide) rfl (by decide) (fun H locs hP hD hS => ?_)
      obtain ⟨r5, hc5, hf⟩ := kb_bind hf
      refine kb_ci (ws2 := (w_Top dA t g0 (pa 0) g2 (a 0) g4 g5 g6 g7 g8 tp ++ (w_Ride dA a (pa 0) (pa 1) rd ++ (w_Plan dA pa pl)))) (kb_rS (n := 1) (As := [.int r4]) (rest := [.ref (t 0)]) hx hb hml hown hK (c_J6_bitCount_0f7a4 l D dA H.size r4 r5 hc5) ⟨ww_4_166, ww_4_164, ww_4_165, ww_1_20, by decide, by decide⟩ rfl rfl (by decide +kernel) ⟨Nat.le_of_ble_eq_true rfl, Nat.le_of_ble_eq_true rfl⟩ hP hD hS hA hE [] rfl (by decide) rfl hl.1 rfl (Nat.le_of_ble_eq_true rfl) dX10_ties_33 ⟨Nat.le_of_ble_eq_true rfl, Nat.le_of_ble_eq_true rfl⟩) hP hD hS hA [] [0, 1, 2, 3, 4, 5, 6, 7, 8, 9, 10, 11, 12, 13, 14, 15, 16, 17, 18, 19, 20, 21, 22, 23, 24, 25, 26, 27, 28, 29, 30] [0, 1, 2, 3, 4, 5, 6, 7, 8, 9, 10, 11, 12, 13, 14, 15, 16, 17, 18, 19, 20, 21, 22, 23, 24, 25, 26, 27, 28, 29, 30] rfl rfl (by decide) (by decide) rfl (by decide) (fun H locs hP hD hS => ?_)
      obtain ⟨r6, hc6, hf⟩ := kb_bind hf
      refine kb_ci (ws2 := (w_Top dA t g0 (pa 0) g2 (a 0) g4 g5 g6 g7 g8 r6.2 ++ (w_Ride dA a (pa 0) (pa 1) rd ++ (w_Plan dA pa pl)))) (kb_rV (n := 1) (As := [.int r5]) (rest := []) hx hb hml hown hK (c_X10_answered l D dA H.size t g0 (pa 0) g2 (a 0) g4 g5 g6 g7 g8 tp r5 r6.1 r6.2 hc6) ⟨ww_3_184, ww_3_181, ww_3_183, ws_22, ww_1_1, rfl, by decide, by decide⟩ rfl rfl (by decide +kernel) ⟨Nat.le_of_ble_eq_true rfl, Nat.le_of_ble_eq_true rfl⟩ hP hD hS hA hE [0] rfl (by decide) 0 rfl rfl rfl hl.1 rfl (Nat.le_of_ble_eq_true rfl) dX10_ties_36 ⟨Nat.le_of_ble_eq_true rfl, Nat.le_of_ble_eq_true rfl⟩) hP hD hS hA [0] [1, 2, 3, 4, 5, 6, 7, 8, 9, 10, 11, 12, 13, 14, 15, 16, 17, 18, 19, 20, 21, 22, 23, 24, 25, 26, 27, 28, 29, 30] [30, 0, 1, 2, 3, 4, 5, 6, 7, 8, 9, 10, 11, 12, 13, 14, 15, 16, 17, 18, 19, 20, 21, 22, 23, 24, 25, 26, 27, 28, 29] rfl rfl (by decide) (by decide) rfl (by decide) (fun H locs hP hD hS => ?_)
      exact RET _ _ H _ ls 39 hf hP hD hS dX10_ties_39
    · rw [if_neg c_2] at hf
      refine lv_aload_n hx hb dX10_ties_10 rfl (lv_at hl 1 rfl) ?_
      refine lv_iload_n hx hb dX10_ties_11 rfl (lv_at hl 0 rfl) ?_
      obtain ⟨r7, hc7, hf⟩ := kb_bind hf
      refine kb_ci (ws2 := (w_Top dA t g0 (pa 0) g2 (a 0) g4 g5 g6 g7 g8 r7.2 ++ (w_Ride dA a (pa 0) (pa 1) rd ++ (w_Plan dA pa pl)))) (kb_rV (n := 1) (As := [.int r1]) (rest := []) hx hb hml hown hK (c_X10_refused l D dA H.size t g0 (pa 0) g2 (a 0) g4 g5 g6 g7 g8 tp r1 r7.1 r7.2 hc7) ⟨ww_2_204, ww_2_201, ww_2_203, ws_0, ww_1_1, rfl, by decide, by decide⟩ rfl rfl (by decide +kernel) ⟨Nat.le_of_ble_eq_true rfl, Nat.le_of_ble_eq_true rfl⟩ hP hD hS hA hE [0] rfl (by decide) 0 rfl rfl rfl hl.1 rfl (Nat.le_of_ble_eq_true rfl) dX10_ties_12 ⟨Nat.le_of_ble_eq_true rfl, Nat.le_of_ble_eq_true rfl⟩) hP hD hS hA [0] [1, 2, 3, 4, 5, 6, 7, 8, 9, 10, 11, 12, 13, 14, 15, 16, 17, 18, 19, 20, 21, 22, 23, 24, 25, 26, 27, 28, 29, 30] [30, 0, 1, 2, 3, 4, 5, 6, 7, 8, 9, 10, 11, 12, 13, 14, 15, 16, 17, 18, 19, 20, 21, 22, 23, 24, 25, 26, 27, 28, 29] rfl rfl (by decide) (by decide) rfl (by decide) (fun H locs hP hD hS => ?_)
      exact RET _ _ H _ ls 15 hf hP hD hS dX10_ties_15
  exact E0 _ _ hP hD hS

noncomputable def f_X10_byDoor (tp : TopT) (rd : RideT) (pl : PlanT) (x0 : Int32) : Option (Int32) := if kb_in? x0 8 then some (((cb_pace (pl_cab pl)) * ((((qr_off (pl_riders pl)) (x0).toNatClampNeg) - (rd_stops rd)) + (1 : Int32)))) else none
set_option maxHeartbeats 4000000 in
set_option maxRecDepth 100000 in
theorem c_X10_byDoor (l : Launch) (D : va_G) (dA : Nat → ClassId) (sz : Nat) (t : Nat → Nat) (a : Nat → Nat) (pa : Nat → Nat) (g0 : Nat) (g2 : Nat) (g4 : Nat) (g5 : Nat) (g6 : Nat) (g7 : Nat) (g8 : Nat) (tp : TopT) (rd : RideT) (pl : PlanT) (x0 : Int32) (rv : Int32) (hf : f_X10_byDoor tp rd pl x0 = some (rv)) : kb_Mi l yX10_byDoor cX10_byDoor 2 (some .int) ({ frames := 0, cells := 0, slots := 0, locals := 0 } : Room) D dA [.ref (t 0), .int x0] sz (w_Top dA t g0 (pa 0) g2 (a 0) g4 g5 g6 g7 g8 tp ++ (w_Ride dA a (pa 0) (pa 1) rd ++ (w_Plan dA pa pl))) 0 0 rv (w_Top dA t g0 (pa 0) g2 (a 0) g4 g5 g6 g7 g8 tp ++ (w_Ride dA a (pa 0) (pa 1) rd ++ (w_Plan dA pa pl))) := by
  refine Met.ofW (cc := cX10_byDoor) (maxL := 2) (ret := (some .int)) (by decide) rfl ?_
  intro p e s m args below meth c s₁ B hml hv
  obtain ⟨rfl, hsz, hP, hK, hD0, hE⟩ := hv
  have hx := B.exec
  have hb := B.bytes
  have hr := B.returns
  have hown : s.vm.findClass RX10 = some m.cls := findClass_of_methodNamed B.named
  have hlocks := B.notSynchronized
  have hts : ∀ w ∈ kb_gw, w.before ([.ref (t 0), .int x0] : List Value).toArray s = true := fun w hw => hK.2.1 w hw _
  subst hsz
  have hD := hD0.self (sz := s.heap.size)
  generalize hAe : va_A (w_Top dA t g0 (pa 0) g2 (a 0) g4 g5 g6 g7 g8 tp ++ (w_Ride dA a (pa 0) (pa 1) rd ++ (w_Plan dA pa pl))) s.heap.size = A at hD hE ⊢
  have hA : ∀ q : Nat, s.heap.size ≤ q → A q := fun q h => by rw [← hAe]; exact Or.inr h
  have hS : va_S A s.heap s.heap [] := va_S.rf
  have hl := lv_entry ([.ref (t 0), .int x0]) (n := 2) (Nat.le_of_ble_eq_true rfl)
  rw [lg_entry_eq]
  generalize (lg_sl ([.ref (t 0), .int x0]) ++ List.replicate (2 - (lg_sl ([.ref (t 0), .int x0])).length) Slot.unset).toArray = ls at hl ⊢
  have hl : lv_has ls 2 [(0, .ref (t 0)), (1, .int x0)] := hl
  generalize hQ : MQ below (va_Qi (fun r (_ : Unit) => r = rv) (kb_B D A (w_Top dA t g0 (pa 0) g2 (a 0) g4 g5 g6 g7 g8 tp ++ (w_Ride dA a (pa 0) (pa 1) rd ++ (w_Plan dA pa pl)))) A) ([.ref (t 0), .int x0] : List Value).toArray s 0 0 A = Q
  show W p l e ({ frames := 0, cells := 0, slots := 0, locals := 0 } : Room) s m ([.ref (t 0), .int x0] : List Value).toArray below meth c s.heap [] 0 0 Q (F0 m 0 ls [])
  have RET : ∀ (r2 : Int32) (H : Heap) (locs : List Loc) (ls : Array Slot) (pc : Nat), some (r2) = some (rv) → va_P D vwCl (w_Top dA t g0 (pa 0) g2 (a 0) g4 g5 g6 g7 g8 tp ++ (w_Ride dA a (pa 0) (pa 1) rd ++ (w_Plan dA pa pl))) H → va_D A (w_Top dA t g0 (pa 0) g2 (a 0) g4 g5 g6 g7 g8 tp ++ (w_Ride dA a (pa 0) (pa 1) rd ++ (w_Plan dA pa pl))) → va_S A s.heap H locs → decode cX10_byDoor pc = .ok (.ireturn, 1) → W p l e ({ frames := 0, cells := 0, slots := 0, locals := 0 } : Room) s m ([.ref (t 0), .int x0] : List Value).toArray below meth c H locs 0 0 Q (F0 m pc ls [.int r2]) := by
    intro r2 H locs ls pc hq hP hD hS hd
    cases hq
    rw [← hQ]
    exact W.iret hx hb hr (fun t ht hW => ⟨⟨_, (), rfl, rfl, by rw [ht]; exact hP, hD⟩, hS.F ht⟩) hS.2.2 hd
  have E0 : ∀ (H : Heap) (locs : List Loc), va_P D vwCl (w_Top dA t g0 (pa 0) g2 (a 0) g4 g5 g6 g7 g8 tp ++ (w_Ride dA a (pa 0) (pa 1) rd ++ (w_Plan dA pa pl))) H → va_D A (w_Top dA t g0 (pa 0) g2 (a 0) g4 g5 g6 g7 g8 tp ++ (w_Ride dA a (pa 0) (pa 1) rd ++ (w_Plan dA pa pl))) → va_S A s.heap H locs → W p l e ({ frames := 0, cells := 0, slots := 0, locals := 0 } : Room) s m ([.ref (t 0), .int x0] : List Value).toArray below meth c H locs 0 0 Q (F0 m 0 ls []) := by
    intro H locs hP hD hS
    rw [f_X10_byDoor] at hf
    refine lv_aload_n hx hb dX10_byDoor_0 rfl (lv_at hl 0 rfl) ?_
    refine va_get (D := D) (ci := 10) (v := .ref (pa 0)) (C := RX10) (T := TX10) (N := 12) hx hb hts kb_inX10 hown hK.1 hP 0 rfl rfl 1 (by decide) (hK.2.w ww_2_153 rfl _) (fun _ h9 => h9) rfl dX10_byDoor_1 ?_
    refine va_get (D := D) (ci := 5) (v := .ref (pa 1)) (C := RX5) (T := TX5) (N := 8) hx hb hts kb_inX5 hown hK.1 hP 10 rfl rfl 0 (by decide) (hK.2.w ww_1_215 rfl _) (fun _ h9 => h9) rfl dX10_byDoor_4 ?_
    refine va_get (D := D) (ci := 0) (v := .int (cb_pace (pl_cab pl))) (C := RX0) (T := TX0) (N := 8) hx hb hts kb_inX0 hown hK.1 hP 11 rfl rfl 3 (by decide) (hK.2.w ww_1_98 rfl _) (fun _ h9 => h9) rfl dX10_byDoor_7 ?_
    refine lv_aload_n hx hb dX10_byDoor_10 rfl (lv_at hl 0 rfl) ?_
    refine va_get (D := D) (ci := 10) (v := .ref (pa 0)) (C := RX10) (T := TX10) (N := 12) hx hb hts kb_inX10 hown hK.1 hP 0 rfl rfl 1 (by decide) (hK.2.w ww_2_153 rfl _) (fun _ h9 => h9) rfl dX10_byDoor_11 ?_
    refine va_get (D := D) (ci := 5) (v := .ref (pa 12)) (C := RX5) (T := TX5) (N := 8) hx hb hts kb_inX5 hown hK.1 hP 10 rfl rfl 2 (by decide) (hK.2.w ww_1_226 rfl _) (fun _ h9 => h9) rfl dX10_byDoor_14 ?_
    refine lv_iload_n hx hb dX10_byDoor_17 rfl (lv_at hl 1 rfl) ?_
    obtain ⟨h_1, hf⟩ := kb_if hf
    refine va_aldq (D := D) hx hb hK.1 hP 22 5 rfl rfl h_1 dX10_byDoor_18 ?_
    show W p l e ({ frames := 0, cells := 0, slots := 0, locals := 0 } : Room) s m ([.ref (t 0), .int x0] : List Value).toArray below meth c _ _ 0 0 Q (F0 m 19 _ [.ref (pa (13 + (x0).toNatClampNeg)), .int (cb_pace (pl_cab pl))])
    refine va_get (D := D) (ci := 7) (v := .int ((qr_off (pl_riders pl)) (x0).toNatClampNeg)) (C := RX7) (T := TX7) (N := 10) hx hb hts kb_inX7 hown hK.1 hP (1 + (9 + (13 + (x0).toNatClampNeg))) (kb_at rfl (kb_at rfl (at_Plan_13 dA pa pl (x0).toNatClampNeg (kb_inlt h_1)))) rfl 2 (by decide) (hK.2.w ww_1_169 rfl _) (fun _ h9 => h9) rfl dX10_byDoor_19 ?_
    refine lv_aload_n hx hb dX10_byDoor_22 rfl (lv_at hl 0 rfl) ?_
    refine va_get (D := D) (ci := 10) (v := .ref (a 0)) (C := RX10) (T := TX10) (N := 12) hx hb hts kb_inX10 hown hK.1 hP 0 rfl rfl 4 (by decide) (hK.2.w ww_2_156 rfl _) (fun _ h9 => h9) rfl dX10_byDoor_23 ?_
    refine va_get (D := D) (ci := 6) (v := .int (rd_stops rd)) (C := RX6) (T := TX6) (N := 11) hx hb hts kb_inX6 hown hK.1 hP 1 rfl rfl 10 (by decide) (hK.2.w ww_2_85 rfl _) (fun _ h9 => h9) rfl dX10_byDoor_26 ?_
    refine lv_isub hx hb dX10_byDoor_29 ?_
    refine lv_iconst (v := (1 : Int32)) hx hb dX10_byDoor_30 (by decide) ?_
    refine lv_iadd hx hb dX10_byDoor_31 ?_
    refine lv_imul hx hb dX10_byDoor_32 ?_
    exact RET _ H _ ls 33 hf hP hD hS dX10_byDoor_33
  exact E0 _ _ hP hD hS

noncomputable def f_X10_rests_b132 (tp : TopT) (rd : RideT) (pl : PlanT) (v3 : Int32) (v4 : Int32) (v5 : Int32) (v7 : Int32) : Option (Int32) := (if v3 < v5 then some (v7) else (if v4 < v5 then some (v7) else some ((v7 ||| (8 : Int32)))))
noncomputable def f_X10_rests_b111 (tp : TopT) (rd : RideT) (pl : PlanT) (v3 : Int32) (v4 : Int32) (v5 : Int32) (v6 : Int32) (v7 : Int32) : Option (Int32) := (if v5 < v4 then f_X10_rests_b132 tp rd pl v3 v4 v5 v7 else (if ((2 : Int32) * v3) < v6 then f_X10_rests_b132 tp rd pl v3 v4 v5 v7 else f_X10_rests_b132 tp rd pl v3 v4 v5 (v7 ||| (4 : Int32))))
noncomputable def f_X10_rests_b90 (tp : TopT) (rd : RideT) (pl : PlanT) (v3 : Int32) (v4 : Int32) (v5 : Int32) (v6 : Int32) (v7 : Int32) : Option (Int32) := (if v5 < v3 then f_X10_rests_b111 tp rd pl v3 v4 v5 v6 v7 else (if ((2 : Int32) * v4) < v6 then f_X10_rests_b111 tp rd pl v3 v4 v5 v6 v7 else f_X10_rests_b111 tp rd pl v3 v4 v5 v6 (v7 ||| (2 : Int32))))
noncomputable def f_X10_rests (tp : TopT) (rd : RideT) (pl : PlanT) (x0 : Int32) (x1 : Int32) : Option (Int32) := (f_X10_byDoor tp rd pl x0).bind fun r1 => (f_X10_byDoor tp rd pl x1).bind fun r2 => (if ((((cb_pace (pl_cab pl)) * ((1 : Int32) + (cb_rows (pl_cab pl)))) + (cb_rise (pl_cab pl))) + (cb_rise (pl_cab pl))) < ((2 : Int32) * r1) then f_X10_rests_b90 tp rd pl r1 r2 (((cb_pace (pl_cab pl)) * ((1 : Int32) + (cb_rows (pl_cab pl)))) + (cb_rise (pl_cab pl))) ((((cb_pace (pl_cab pl)) * ((1 : Int32) + (cb_rows (pl_cab pl)))) + (cb_rise (pl_cab pl))) + (cb_rise (pl_cab pl))) (0 : Int32) else (if ((((cb_pace (pl_cab pl)) * ((1 : Int32) + (cb_rows (pl_cab pl)))) + (cb_rise (pl_cab pl))) + (cb_rise (pl_cab pl))) < ((2 : Int32) * r2) then f_X10_rests_b90 tp rd pl r1 r2 (((cb_pace (pl_cab pl)) * ((1 : Int32) + (cb_rows (pl_cab pl)))) + (cb_rise (pl_cab pl))) ((((cb_pace (pl_cab pl)) * ((1 : Int32) + (cb_rows (pl_cab pl)))) + (cb_rise (pl_cab pl))) + (cb_rise (pl_cab pl))) (0 : Int32) else f_X10_rests_b90 tp rd pl r1 r2 (((cb_pace (pl_cab pl)) * ((1 : Int32) + (cb_rows (pl_cab pl)))) + (cb_rise (pl_cab pl))) ((((cb_pace (pl_cab pl)) * ((1 : Int32) + (cb_rows (pl_cab pl)))) + (cb_rise (pl_cab pl))) + (cb_rise (pl_cab pl))) ((0 : Int32) ||| (1 : Int32))))
set_option maxHeartbeats 4000000 in
set_option maxRecDepth 100000 in
theorem c_X10_rests (l : Launch) (D : va_G) (dA : Nat → ClassId) (sz : Nat) (t : Nat → Nat) (a : Nat → Nat) (pa : Nat → Nat) (g0 : Nat) (g2 : Nat) (g4 : Nat) (g5 : Nat) (g6 : Nat) (g7 : Nat) (g8 : Nat) (tp : TopT) (rd : RideT) (pl : PlanT) (x0 : Int32) (x1 : Int32) (rv : Int32) (hf : f_X10_rests tp rd pl x0 x1 = some (rv)) : kb_Mi l yX10_rests cX10_rests 8 (some .int) ({ frames := 1, cells := 0, slots := 0, locals := 21 } : Room) D dA [.ref (t 0), .int x0, .int x1] sz (w_Top dA t g0 (pa 0) g2 (a 0) g4 g5 g6 g7 g8 tp ++ (w_Ride dA a (pa 0) (pa 1) rd ++ (w_Plan dA pa pl))) 0 0 rv (w_Top dA t g0 (pa 0) g2 (a 0) g4 g5 g6 g7 g8 tp ++ (w_Ride dA a (pa 0) (pa 1) rd ++ (w_Plan dA pa pl))) := by
  refine Met.ofW (cc := cX10_rests) (maxL := 8) (ret := (some .int)) (by decide) rfl ?_
  intro p e s m args below meth c s₁ B hml hv
  obtain ⟨rfl, hsz, hP, hK, hD0, hE⟩ := hv
  have hx := B.exec
  have hb := B.bytes
  have hr := B.returns
  have hown : s.vm.findClass RX10 = some m.cls := findClass_of_methodNamed B.named
  have hlocks := B.notSynchronized
  have hts : ∀ w ∈ kb_gw, w.before ([.ref (t 0), .int x0, .int x1] : List Value).toArray s = true := fun w hw => hK.2.1 w hw _
  subst hsz
  have hD := hD0.self (sz := s.heap.size)
  generalize hAe : va_A (w_Top dA t g0 (pa 0) g2 (a 0) g4 g5 g6 g7 g8 tp ++ (w_Ride dA a (pa 0) (pa 1) rd ++ (w_Plan dA pa pl))) s.heap.size = A at hD hE ⊢
  have hA : ∀ q : Nat, s.heap.size ≤ q → A q := fun q h => by rw [← hAe]; exact Or.inr h
  have hS : va_S A s.heap s.heap [] := va_S.rf
  have hl := lv_entry ([.ref (t 0), .int x0, .int x1]) (n := 8) (Nat.le_of_ble_eq_true rfl)
  rw [lg_entry_eq]
  generalize (lg_sl ([.ref (t 0), .int x0, .int x1]) ++ List.replicate (8 - (lg_sl ([.ref (t 0), .int x0, .int x1])).length) Slot.unset).toArray = ls at hl ⊢
  have hl : lv_has ls 8 [(0, .ref (t 0)), (1, .int x0), (2, .int x1)] := hl
  generalize hQ : MQ below (va_Qi (fun r (_ : Unit) => r = rv) (kb_B D A (w_Top dA t g0 (pa 0) g2 (a 0) g4 g5 g6 g7 g8 tp ++ (w_Ride dA a (pa 0) (pa 1) rd ++ (w_Plan dA pa pl)))) A) ([.ref (t 0), .int x0, .int x1] : List Value).toArray s 0 0 A = Q
  show W p l e ({ frames := 1, cells := 0, slots := 0, locals := 21 } : Room) s m ([.ref (t 0), .int x0, .int x1] : List Value).toArray below meth c s.heap [] 0 0 Q (F0 m 0 ls [])
  have RET : ∀ (r2 : Int32) (H : Heap) (locs : List Loc) (ls : Array Slot) (pc : Nat), some (r2) = some (rv) → va_P D vwCl (w_Top dA t g0 (pa 0) g2 (a 0) g4 g5 g6 g7 g8 tp ++ (w_Ride dA a (pa 0) (pa 1) rd ++ (w_Plan dA pa pl))) H → va_D A (w_Top dA t g0 (pa 0) g2 (a 0) g4 g5 g6 g7 g8 tp ++ (w_Ride dA a (pa 0) (pa 1) rd ++ (w_Plan dA pa pl))) → va_S A s.heap H locs → decode cX10_rests pc = .ok (.ireturn, 1) → W p l e ({ frames := 1, cells := 0, slots := 0, locals := 21 } : Room) s m ([.ref (t 0), .int x0, .int x1] : List Value).toArray below meth c H locs 0 0 Q (F0 m pc ls [.int r2]) := by
    intro r2 H locs ls pc hq hP hD hS hd
    cases hq
    rw [← hQ]
    exact W.iret hx hb hr (fun t ht hW => ⟨⟨_, (), rfl, rfl, by rw [ht]; exact hP, hD⟩, hS.F ht⟩) hS.2.2 hd
  have B_132 : ∀ (v3 : Int32) (v4 : Int32) (v5 : Int32) (v7 : Int32) (H : Heap) (locs : List Loc) (ls : Array Slot), f_X10_rests_b132 tp rd pl v3 v4 v5 v7 = some (rv) → va_P D vwCl (w_Top dA t g0 (pa 0) g2 (a 0) g4 g5 g6 g7 g8 tp ++ (w_Ride dA a (pa 0) (pa 1) rd ++ (w_Plan dA pa pl))) H → va_D A (w_Top dA t g0 (pa 0) g2 (a 0) g4 g5 g6 g7 g8 tp ++ (w_Ride dA a (pa 0) (pa 1) rd ++ (w_Plan dA pa pl))) → va_S A s.heap H locs → lv_has ls 8 [(3, .int v3), (4, .int v4), (5, .int v5), (7, .int v7)] → W p l e ({ frames := 1, cells := 0, slots := 0, locals := 21 } : Room) s m ([.ref (t 0), .int x0, .int x1] : List Value).toArray below meth c H locs 0 0 Q (F0 m 132 ls []) := by
    intro v3 v4 v5 v7 H locs ls hf hP hD hS hl
    rw [f_X10_rests_b132] at hf
    refine lv_iload hx hb dX10_rests_132 (lv_at hl 2 rfl) ?_
    refine lv_iload_n hx hb dX10_rests_134 rfl (lv_at hl 0 rfl) ?_
    refine lv_icmp_gt (tgt := 152) hx hb dX10_rests_135 (by decide) (fun c_6 => ?_) (fun c_6 => ?_)
    · rw [if_pos c_6] at hf
      refine lv_iload hx hb dX10_rests_152 (lv_at hl 3 rfl) ?_
      exact RET _ H _ ls 154 hf hP hD hS dX10_rests_154
    · rw [if_neg c_6] at hf
      refine lv_iload hx hb dX10_rests_138 (lv_at hl 2 rfl) ?_
      refine lv_iload hx hb dX10_rests_140 (lv_at hl 1 rfl) ?_
      refine lv_icmp_gt (tgt := 152) hx hb dX10_rests_142 (by decide) (fun c_7 => ?_) (fun c_7 => ?_)
      · rw [if_pos c_7] at hf
        refine lv_iload hx hb dX10_rests_152 (lv_at hl 3 rfl) ?_
        exact RET _ H _ ls 154 hf hP hD hS dX10_rests_154
      · rw [if_neg c_7] at hf
        refine lv_iload hx hb dX10_rests_145 (lv_at hl 3 rfl) ?_
        refine lv_bipush (v := (8 : Int32)) hx hb dX10_rests_147 (by decide) ?_
        refine lv_ior hx hb dX10_rests_149 ?_
        refine lv_istore (lv' := [(7, .int (v7 ||| (8 : Int32))), (3, .int v3), (4, .int v4), (5, .int v5)]) hx hb dX10_rests_150 hl (by decide) rfl (fun ls hl => ?_)
        refine lv_iload hx hb dX10_rests_152 (lv_at hl 0 rfl) ?_
        exact RET _ H _ ls 154 hf hP hD hS dX10_rests_154
  have B_111 : ∀ (v3 : Int32) (v4 : Int32) (v5 : Int32) (v6 : Int32) (v7 : Int32) (H : Heap) (locs : List Loc) (ls : Array Slot), f_X10_rests_b111 tp rd pl v3 v4 v5 v6 v7 = some (rv) → va_P D vwCl (w_Top dA t g0 (pa 0) g2 (a 0) g4 g5 g6 g7 g8 tp ++ (w_Ride dA a (pa 0) (pa 1) rd ++ (w_Plan dA pa pl))) H → va_D A (w_Top dA t g0 (pa 0) g2 (a 0) g4 g5 g6 g7 g8 tp ++ (w_Ride dA a (pa 0) (pa 1) rd ++ (w_Plan dA pa pl))) → va_S A s.heap H locs → lv_has ls 8 [(3, .int v3), (4, .int v4), (5, .int v5), (6, .int v6), (7, .int v7)] → W p l e ({ frames := 1, cells := 0, slots := 0, locals := 21 } : Room) s m ([.ref (t 0), .int x0, .int x1] : List Value).toArray below meth c H locs 0 0 Q (F0 m 111 ls []) := by
    intro v3 v4 v5 v6 v7 H locs ls hf hP hD hS hl
    rw [f_X10_rests_b111] at hf
    refine lv_iload hx hb dX10_rests_111 (lv_at hl 1 rfl) ?_
    refine lv_iload hx hb dX10_rests_113 (lv_at hl 2 rfl) ?_
    refine lv_icmp_gt (tgt := 132) hx hb dX10_rests_115 (by decide) (fun c_5 => ?_) (fun c_5 => ?_)
    · rw [if_pos c_5] at hf
      exact B_132 _ _ _ _ _ _ _ hf hP hD hS (lv_sub hl [0, 1, 2, 4] rfl)
    · rw [if_neg c_5] at hf
      refine lv_iload hx hb dX10_rests_118 (lv_at hl 3 rfl) ?_
      refine lv_iconst (v := (2 : Int32)) hx hb dX10_rests_120 (by decide) ?_
      refine lv_iload_n hx hb dX10_rests_121 rfl (lv_at hl 0 rfl) ?_
      refine lv_imul hx hb dX10_rests_122 ?_
      refine lv_icmp_gt (tgt := 132) hx hb dX10_rests_123 (by decide) (fun c_8 => ?_) (fun c_8 => ?_)
      · rw [if_pos c_8] at hf
        exact B_132 _ _ _ _ _ _ _ hf hP hD hS (lv_sub hl [0, 1, 2, 4] rfl)
      · rw [if_neg c_8] at hf
        refine lv_iload hx hb dX10_rests_126 (lv_at hl 4 rfl) ?_
        refine lv_iconst (v := (4 : Int32)) hx hb dX10_rests_128 (by decide) ?_
        refine lv_ior hx hb dX10_rests_129 ?_
        refine lv_istore (lv' := [(7, .int (v7 ||| (4 : Int32))), (3, .int v3), (4, .int v4), (5, .int v5), (6, .int v6)]) hx hb dX10_rests_130 hl (by decide) rfl (fun ls hl => ?_)
        exact B_132 _ _ _ _ _ _ _ hf hP hD hS (lv_sub hl [1, 2, 3, 0] rfl)
  have B_90 : ∀ (v3 : Int32) (v4 : Int32) (v5 : Int32) (v6 : Int32) (v7 : Int32) (H : Heap) (locs : List Loc) (ls : Array Slot), f_X10_rests_b90 tp rd pl v3 v4 v5 v6 v7 = some (rv) → va_P D vwCl (w_Top dA t g0 (pa 0) g2 (a 0) g4 g5 g6 g7 g8 tp ++ (w_Ride dA a (pa 0) (pa 1) rd ++ (w_Plan dA pa pl))) H → va_D A (w_Top dA t g0 (pa 0) g2 (a 0) g4 g5 g6 g7 g8 tp ++ (w_Ride dA a (pa 0) (pa 1) rd ++ (w_Plan dA pa pl))) → va_S A s.heap H locs → lv_has ls 8 [(3, .int v3), (4, .int v4), (5, .int v5), (6, .int v6), (7, .int v7)] → W p l e ({ frames := 1, cells := 0, slots := 0, locals := 21 } : Room) s m ([.ref (t 0), .int x0, .int x1] : List Value).toArray below meth c H locs 0 0 Q (F0 m 90 ls []) := by
    intro v3 v4 v5 v6 v7 H locs ls hf hP hD hS hl
    rw [f_X10_rests_b90] at hf
    refine lv_iload_n hx hb dX10_rests_90 rfl (lv_at hl 0 rfl) ?_
    refine lv_iload hx hb dX10_rests_91 (lv_at hl 2 rfl) ?_
    refine lv_icmp_gt (tgt := 111) hx hb dX10_rests_93 (by decide) (fun c_4 => ?_) (fun c_4 => ?_)
    · rw [if_pos c_4] at hf
      exact B_111 _ _ _ _ _ _ _ _ hf hP hD hS (lv_sub hl [0, 1, 2, 3, 4] rfl)
    · rw [if_neg c_4] at hf
      refine lv_iload hx hb dX10_rests_96 (lv_at hl 3 rfl) ?_
      refine lv_iconst (v := (2 : Int32)) hx hb dX10_rests_98 (by decide) ?_
      refine lv_iload hx hb dX10_rests_99 (lv_at hl 1 rfl) ?_
      refine lv_imul hx hb dX10_rests_101 ?_
      refine lv_icmp_gt (tgt := 111) hx hb dX10_rests_102 (by decide) (fun c_9 => ?_) (fun c_9 => ?_)
      · rw [if_pos c_9] at hf
        exact B_111 _ _ _ _ _ _ _ _ hf hP hD hS (lv_sub hl [0, 1, 2, 3, 4] rfl)
      · rw [if_neg c_9] at hf
        refine lv_iload hx hb dX10_rests_105 (lv_at hl 4 rfl) ?_
        refine lv_iconst (v := (2 : Int32)) hx hb dX10_rests_107 (by decide) ?_
        refine lv_ior hx hb dX10_rests_108 ?_
        refine lv_istore (lv' := [(7, .int (v7 ||| (2 : Int32))), (3, .int v3), (4, .int v4), (5, .int v5), (6, .int v6)]) hx hb dX10_rests_109 hl (by decide) rfl (fun ls hl => ?_)
        exact B_111 _ _ _ _ _ _ _ _ hf hP hD hS (lv_sub hl [1, 2, 3, 4, 0] rfl)
  have E0 : ∀ (H : Heap) (locs : List Loc), va_P D vwCl (w_Top dA t g0 (pa 0) g2 (a 0) g4 g5 g6 g7 g8 tp ++ (w_Ride dA a (pa 0) (pa 1) rd ++ (w_Plan dA pa pl))) H → va_D A (w_Top dA t g0 (pa 0) g2 (a 0) g4 g5 g6 g7 g8 tp ++ (w_Ride dA a (pa 0) (pa 1) rd ++ (w_Plan dA pa pl))) → va_S A s.heap H locs → W p l e ({ frames := 1, cells := 0, slots := 0, locals := 21 } : Room) s m ([.ref (t 0), .int x0, .int x1] : List Value).toArray below meth c H locs 0 0 Q (F0 m 0 ls []) := by
    intro H locs hP hD hS
    rw [f_X10_rests] at hf
    refine lv_aload_n hx hb dX10_rests_0 rfl (lv_at hl 0 rfl) ?_
    refine lv_iload_n hx hb dX10_rests_1 rfl (lv_at hl 1 rfl) ?_
    obtain ⟨r1, hc1, hf⟩ := kb_bind hf
    refine kb_ci (ws2 := (w_Top dA t g0 (pa 0) g2 (a 0) g4 g5 g6 g7 g8 tp ++ (w_Ride dA a (pa 0) (pa 1) rd ++ (w_Plan dA pa pl)))) (kb_rV (n := 1) (As := [.int x0]) (rest := []) hx hb hml hown hK (c_X10_byDoor l D dA H.size t a pa g0 g2 g4 g5 g6 g7 g8 tp rd pl x0 r1 hc1) ⟨ww_4_227, ww_4_224, ww_4_226, ws_39, ww_1_1, rfl, by decide, by decide⟩ rfl rfl (by decide +kernel) ⟨Nat.le_of_ble_eq_true rfl, Nat.le_of_ble_eq_true rfl⟩ hP hD hS hA hE [0, 1, 2, 3, 4, 5, 6, 7, 8, 9, 10, 11, 12, 13, 14, 15, 16, 17, 18, 19, 20, 21, 22, 23, 24, 25, 26, 27, 28, 29, 30] rfl (by decide) 0 rfl rfl rfl hl.1 rfl (Nat.le_of_ble_eq_true rfl) dX10_rests_2 ⟨Nat.le_of_ble_eq_true rfl, Nat.le_of_ble_eq_true rfl⟩) hP hD hS hA [0, 1, 2, 3, 4, 5, 6, 7, 8, 9, 10, 11, 12, 13, 14, 15, 16, 17, 18, 19, 20, 21, 22, 23, 24, 25, 26, 27, 28, 29, 30] [] [0, 1, 2, 3, 4, 5, 6, 7, 8, 9, 10, 11, 12, 13, 14, 15, 16, 17, 18, 19, 20, 21, 22, 23, 24, 25, 26, 27, 28, 29, 30] rfl rfl (by decide) (by decide) rfl (by decide) (fun H locs hP hD hS => ?_)
    refine lv_istore_n (lv' := [(3, .int r1), (0, .ref (t 0)), (1, .int x0), (2, .int x1)]) hx hb dX10_rests_5 rfl hl (by decide) rfl (fun ls hl => ?_)
    refine lv_aload_n hx hb dX10_rests_6 rfl (lv_at hl 1 rfl) ?_
    refine lv_iload_n hx hb dX10_rests_7 rfl (lv_at hl 3 rfl) ?_
    obtain ⟨r2, hc2, hf⟩ := kb_bind hf
    refine kb_ci (ws2 := (w_Top dA t g0 (pa 0) g2 (a 0) g4 g5 g6 g7 g8 tp ++ (w_Ride dA a (pa 0) (pa 1) rd ++ (w_Plan dA pa pl)))) (kb_rV (n := 1) (As := [.int x1]) (rest := []) hx hb hml hown hK (c_X10_byDoor l D dA H.size t a pa g0 g2 g4 g5 g6 g7 g8 tp rd pl x1 r2 hc2) ⟨ww_4_227, ww_4_224, ww_4_226, ws_39, ww_1_1, rfl, by decide, by decide⟩ rfl rfl (by decide +kernel) ⟨Nat.le_of_ble_eq_true rfl, Nat.le_of_ble_eq_true rfl⟩ hP hD hS hA hE [0, 1, 2, 3, 4, 5, 6, 7, 8, 9, 10, 11, 12, 13, 14, 15, 16, 17, 18, 19, 20, 21, 22, 23, 24, 25, 26, 27, 28, 29, 30] rfl (by decide) 0 rfl rfl rfl hl.1 rfl (Nat.le_of_ble_eq_true rfl) dX10_rests_8 ⟨Nat.le_of_ble_eq_true rfl, Nat.le_of_ble_eq_true rfl⟩) hP hD hS hA [0, 1, 2, 3, 4, 5, 6, 7, 8, 9, 10, 11, 12, 13, 14, 15, 16, 17, 18, 19, 20, 21, 22, 23, 24, 25, 26, 27, 28, 29, 30] [] [0, 1, 2, 3, 4, 5, 6, 7, 8, 9, 10, 11, 12, 13, 14, 15, 16, 17, 18, 19, 20, 21, 22, 23, 24, 25, 26, 27, 28, 29, 30] rfl rfl (by decide) (by decide) rfl (by decide) (fun H locs hP hD hS => ?_)
    refine lv_istore (lv' := [(4, .int r2), (3, .int r1), (0, .ref (t 0)), (1, .int x0), (2, .int x1)]) hx hb dX10_rests_11 hl (by decide) rfl (fun ls hl => ?_)
    refine lv_aload_n hx hb dX10_rests_13 rfl (lv_at hl 2 rfl) ?_
    refine va_get (D := D) (ci := 10) (v := .ref (pa 0)) (C := RX10) (T := TX10) (N := 12) hx hb hts kb_inX10 hown hK.1 hP 0 rfl rfl 1 (by decide) (hK.2.w ww_2_153 rfl _) (fun _ h9 => h9) rfl dX10_rests_14 ?_
    refine va_get (D := D) (ci := 5) (v := .ref (pa 1)) (C := RX5) (T := TX5) (N := 8) hx hb hts kb_inX5 hown hK.1 hP 10 rfl rfl 0 (by decide) (hK.2.w ww_1_215 rfl _) (fun _ h9 => h9) rfl dX10_rests_17 ?_
    refine va_get (D := D) (ci := 0) (v := .int (cb_pace (pl_cab pl))) (C := RX0) (T := TX0) (N := 8) hx hb hts kb_inX0 hown hK.1 hP 11 rfl rfl 3 (by decide) (hK.2.w ww_1_98 rfl _) (fun _ h9 => h9) rfl dX10_rests_20 ?_
    refine lv_iconst (v := (1 : Int32)) hx hb dX10_rests_23 (by decide) ?_
    refine lv_aload_n hx hb dX10_rests_24 rfl (lv_at hl 2 rfl) ?_
    refine va_get (D := D) (ci := 10) (v := .ref (pa 0)) (C := RX10) (T := TX10) (N := 12) hx hb hts kb_inX10 hown hK.1 hP 0 rfl rfl 1 (by decide) (hK.2.w ww_2_153 rfl _) (fun _ h9 => h9) rfl dX10_rests_25 ?_
    refine va_get (D := D) (ci := 5) (v := .ref (pa 1)) (C := RX5) (T := TX5) (N := 8) hx hb hts kb_inX5 hown hK.1 hP 10 rfl rfl 0 (by decide) (hK.2.w ww_1_215 rfl _) (fun _ h9 => h9) rfl dX10_rests_28 ?_
    refine va_get (D := D) (ci := 0) (v := .int (cb_rows (pl_cab pl))) (C := RX0) (T := TX0) (N := 8) hx hb hts kb_inX0 hown hK.1 hP 11 rfl rfl 0 (by decide) (hK.2.w ww_1_88 rfl _) (fun _ h9 => h9) rfl dX10_rests_31 ?_
    refine lv_iadd hx hb dX10_rests_34 ?_
    refine lv_imul hx hb dX10_rests_35 ?_
    refine lv_aload_n hx hb dX10_rests_36 rfl (lv_at hl 2 rfl) ?_
    refine va_get (D := D) (ci := 10) (v := .ref (pa 0)) (C := RX10) (T := TX10) (N := 12) hx hb hts kb_inX10 hown hK.1 hP 0 rfl rfl 1 (by decide) (hK.2.w ww_2_153 rfl _) (fun _ h9 => h9) rfl dX10_rests_37 ?_
    refine va_get (D := D) (ci := 5) (v := .ref (pa 1)) (C := RX5) (T := TX5) (N := 8) hx hb hts kb_inX5 hown hK.1 hP 10 rfl rfl 0 (by decide) (hK.2.w ww_1_215 rfl _) (fun _ h9 => h9) rfl dX10_rests_40 ?_
    refine va_get (D := D) (ci := 0) (v := .int (cb_rise (pl_cab pl))) (C := RX0) (T := TX0) (N := 8) hx hb hts kb_inX0 hown hK.1 hP 11 rfl rfl 4 (by decide) (hK.2.w ww_1_101 rfl _) (fun _ h9 => h9) rfl dX10_rests_43 ?_
    refine lv_iadd hx hb dX10_rests_46 ?_
    refine lv_istore (lv' := [(5, .int (((cb_pace (pl_cab pl)) * ((1 : Int32) + (cb_rows (pl_cab pl)))) + (cb_rise (pl_cab pl)))), (4, .int r2), (3, .int r1), (0, .ref (t 0)), (1, .int x0), (2, .int x1)]) hx hb dX10_rests_47 hl (by decide) rfl (fun ls hl => ?_)
    refine lv_iload hx hb dX10_rests_49 (lv_at hl 0 rfl) ?_
    refine lv_aload_n hx hb dX10_rests_51 rfl (lv_at hl 3 rfl) ?_
    refine va_get (D := D) (ci := 10) (v := .ref (pa 0)) (C := RX10) (T := TX10) (N := 12) hx hb hts kb_inX10 hown hK.1 hP 0 rfl rfl 1 (by decide) (hK.2.w ww_2_153 rfl _) (fun _ h9 => h9) rfl dX10_rests_52 ?_
    refine va_get (D := D) (ci := 5) (v := .ref (pa 1)) (C := RX5) (T := TX5) (N := 8) hx hb hts kb_inX5 hown hK.1 hP 10 rfl rfl 0 (by decide) (hK.2.w ww_1_215 rfl _) (fun _ h9 => h9) rfl dX10_rests_55 ?_
    refine va_get (D := D) (ci := 0) (v := .int (cb_rise (pl_cab pl))) (C := RX0) (T := TX0) (N := 8) hx hb hts kb_inX0 hown hK.1 hP 11 rfl rfl 4 (by decide) (hK.2.w ww_1_101 rfl _) (fun _ h9 => h9) rfl dX10_rests_58 ?_
    refine lv_iadd hx hb dX10_rests_61 ?_
    refine lv_istore (lv' := [(6, .int ((((cb_pace (pl_cab pl)) * ((1 : Int32) + (cb_rows (pl_cab pl)))) + (cb_rise (pl_cab pl))) + (cb_rise (pl_cab pl)))), (5, .int (((cb_pace (pl_cab pl)) * ((1 : Int32) + (cb_rows (pl_cab pl)))) + (cb_rise (pl_cab pl)))), (4, .int r2), (3, .int r1), (0, .ref (t 0)), (1, .int x0), (2, .int x1)]) hx hb dX10_rests_62 hl (by decide) rfl (fun ls hl => ?_)
    refine lv_iconst (v := (0 : Int32)) hx hb dX10_rests_64 (by decide) ?_
    refine lv_istore (lv' := [(7, .int (0 : Int32)), (6, .int ((((cb_pace (pl_cab pl)) * ((1 : Int32) + (cb_rows (pl_cab pl)))) + (cb_rise (pl_cab pl))) + (cb_rise (pl_cab pl)))), (5, .int (((cb_pace (pl_cab pl)) * ((1 : Int32) + (cb_rows (pl_cab pl)))) + (cb_rise (pl_cab pl)))), (4, .int r2), (3, .int r1), (0, .ref (t 0)), (1, .int x0), (2, .int x1)]) hx hb dX10_rests_65 hl (by decide) rfl (fun ls hl => ?_)
    refine lv_iconst (v := (2 : Int32)) hx hb dX10_rests_67 (by decide) ?_
    refine lv_iload_n hx hb dX10_rests_68 rfl (lv_at hl 4 rfl) ?_
    refine lv_imul hx hb dX10_rests_69 ?_
    refine lv_iload hx hb dX10_rests_70 (lv_at hl 1 rfl) ?_
    refine lv_icmp_gt (tgt := 90) hx hb dX10_rests_72 (by decide) (fun c_3 => ?_) (fun c_3 => ?_)
    · rw [if_pos c_3] at hf
      exact B_90 _ _ _ _ _ _ _ _ hf hP hD hS (lv_sub hl [4, 3, 2, 1, 0] rfl)
    · rw [if_neg c_3] at hf
      refine lv_iconst (v := (2 : Int32)) hx hb dX10_rests_75 (by decide) ?_
      refine lv_iload hx hb dX10_rests_76 (lv_at hl 3 rfl) ?_
      refine lv_imul hx hb dX10_rests_78 ?_
      refine lv_iload hx hb dX10_rests_79 (lv_at hl 1 rfl) ?_
      refine lv_icmp_gt (tgt := 90) hx hb dX10_rests_81 (by decide) (fun c_10 => ?_) (fun c_10 => ?_)
      · rw [if_pos c_10] at hf
        exact B_90 _ _ _ _ _ _ _ _ hf hP hD hS (lv_sub hl [4, 3, 2, 1, 0] rfl)
      · rw [if_neg c_10] at hf
        refine lv_iload hx hb dX10_rests_84 (lv_at hl 0 rfl) ?_
        refine lv_iconst (v := (1 : Int32)) hx hb dX10_rests_86 (by decide) ?_
        refine lv_ior hx hb dX10_rests_87 ?_
        refine lv_istore (lv' := [(7, .int ((0 : Int32) ||| (1 : Int32))), (6, .int ((((cb_pace (pl_cab pl)) * ((1 : Int32) + (cb_rows (pl_cab pl)))) + (cb_rise (pl_cab pl))) + (cb_rise (pl_cab pl)))), (5, .int (((cb_pace (pl_cab pl)) * ((1 : Int32) + (cb_rows (pl_cab pl)))) + (cb_rise (pl_cab pl)))), (4, .int r2), (3, .int r1), (0, .ref (t 0)), (1, .int x0), (2, .int x1)]) hx hb dX10_rests_88 hl (by decide) rfl (fun ls hl => ?_)
        exact B_90 _ _ _ _ _ _ _ _ hf hP hD hS (lv_sub hl [4, 3, 2, 1, 0] rfl)
  exact E0 _ _ hP hD hS

noncomputable def f_X10_doorway_b21 (rd : RideT) (pl : PlanT) (z0 : TopT) : Option (Int32 × TopT) := (f_X10_refused z0 (1 : Int32)).bind fun r3 => some (r3.1, r3.2)
noncomputable def f_X10_doorway_b55 (rd : RideT) (pl : PlanT) (z0 : TopT) : Option (Int32 × TopT) := (f_X10_refused z0 (5 : Int32)).bind fun r9 => some (r9.1, r9.2)
noncomputable def f_X10_doorway (tp : TopT) (rd : RideT) (pl : PlanT) (x0 : Int32) (x1 : Int32) : Option (Int32 × TopT) := (f_X10_isRider tp pl x0).bind fun r1 => (if r1 = 0 then f_X10_doorway_b21 rd pl tp else (f_X10_isRider tp pl x1).bind fun r4 => (if r4 = 0 then f_X10_doorway_b21 rd pl tp else (if x0 = x1 then f_X10_doorway_b21 rd pl tp else if kb_in? x0 8 then (if ((rd_place rd) (x0).toNatClampNeg) = (101 : Int32) then if kb_in? x1 8 then (if ((rd_place rd) (x1).toNatClampNeg) = (101 : Int32) then (f_X10_rests tp rd pl x0 x1).bind fun r12 => (f_X10_answered tp r12).bind fun r13 => some (r13.1, r13.2) else f_X10_doorway_b55 rd pl tp) else none else f_X10_doorway_b55 rd pl tp) else none)))
set_option maxHeartbeats 4000000 in
set_option maxRecDepth 100000 in
theorem c_X10_doorway (l : Launch) (D : va_G) (dA : Nat → ClassId) (sz : Nat) (t : Nat → Nat) (a : Nat → Nat) (pa : Nat → Nat) (g0 : Nat) (g2 : Nat) (g4 : Nat) (g5 : Nat) (g6 : Nat) (g7 : Nat) (g8 : Nat) (tp : TopT) (rd : RideT) (pl : PlanT) (x0 : Int32) (x1 : Int32) (rv : Int32) (u0 : TopT) (hf : f_X10_doorway tp rd pl x0 x1 = some (rv, u0)) : kb_Mi l yX10_doorway cX10_doorway 3 (some .int) ({ frames := 2, cells := 0, slots := 0, locals := 48 } : Room) D dA [.ref (t 0), .int x0, .int x1] sz (w_Top dA t g0 (pa 0) g2 (a 0) g4 g5 g6 g7 g8 tp ++ (w_Ride dA a (pa 0) (pa 1) rd ++ (w_Plan dA pa pl))) 0 0 rv (w_Top dA t g0 (pa 0) g2 (a 0) g4 g5 g6 g7 g8 u0 ++ (w_Ride dA a (pa 0) (pa 1) rd ++ (w_Plan dA pa pl))) := by
  refine Met.ofW (cc := cX10_doorway) (maxL := 3) (ret := (some .int)) (by decide) rfl ?_
  intro p e s m args below meth c s₁ B hml hv
  obtain ⟨rfl, hsz, hP, hK, hD0, hE⟩ := hv
  have hx := B.exec
  have hb := B.bytes
  have hr := B.returns
  have hown : s.vm.findClass RX10 = some m.cls := findClass_of_methodNamed B.named
  have hlocks := B.notSynchronized
  have hts : ∀ w ∈ kb_gw, w.before ([.ref (t 0), .int x0, .int x1] : List Value).toArray s = true := fun w hw => hK.2.1 w hw _
  subst hsz
  have hD := hD0.self (sz := s.heap.size)
  generalize hAe : va_A (w_Top dA t g0 (pa 0) g2 (a 0) g4 g5 g6 g7 g8 tp ++ (w_Ride dA a (pa 0) (pa 1) rd ++ (w_Plan dA pa pl))) s.heap.size = A at hD hE ⊢
  have hA : ∀ q : Nat, s.heap.size ≤ q → A q := fun q h => by rw [← hAe]; exact Or.inr h
  have hS : va_S A s.heap s.heap [] := va_S.rf
  have hl := lv_entry ([.ref (t 0), .int x0, .int x1]) (n := 3) (Nat.le_of_ble_eq_true rfl)
  rw [lg_entry_eq]
  generalize (lg_sl ([.ref (t 0), .int x0, .int x1]) ++ List.replicate (3 - (lg_sl ([.ref (t 0), .int x0, .int x1])).length) Slot.unset).toArray = ls at hl ⊢
  have hl : lv_has ls 3 [(0, .ref (t 0)), (1, .int x0), (2, .int x1)] := hl
  generalize hQ : MQ below (va_Qi (fun r (_ : Unit) => r = rv) (kb_B D A (w_Top dA t g0 (pa 0) g2 (a 0) g4 g5 g6 g7 g8 u0 ++ (w_Ride dA a (pa 0) (pa 1) rd ++ (w_Plan dA pa pl)))) A) ([.ref (t 0), .int x0, .int x1] : List Value).toArray s 0 0 A = Q
  show W p l e ({ frames := 2, cells := 0, slots := 0, locals := 48 } : Room) s m ([.ref (t 0), .int x0, .int x1] : List Value).toArray below meth c s.heap [] 0 0 Q (F0 m 0 ls [])
  have RET : ∀ (r2 : Int32) (w0 : TopT) (H : Heap) (locs : List Loc) (ls : Array Slot) (pc : Nat), some (r2, w0) = some (rv, u0) → va_P D vwCl (w_Top dA t g0 (pa 0) g2 (a 0) g4 g5 g6 g7 g8 w0 ++ (w_Ride dA a (pa 0) (pa 1) rd ++ (w_Plan dA pa pl))) H → va_D A (w_Top dA t g0 (pa 0) g2 (a 0) g4 g5 g6 g7 g8 w0 ++ (w_Ride dA a (pa 0) (pa 1) rd ++ (w_Plan dA pa pl))) → va_S A s.heap H locs → decode cX10_doorway pc = .ok (.ireturn, 1) → W p l e ({ frames := 2, cells := 0, slots := 0, locals := 48 } : Room) s m ([.ref (t 0), .int x0, .int x1] : List Value).toArray below meth c H locs 0 0 Q (F0 m pc ls [.int r2]) := by
    intro r2 w0 H locs ls pc hq hP hD hS hd
    cases hq
    rw [← hQ]
    exact W.iret hx hb hr (fun t ht hW => ⟨⟨_, (), rfl, rfl, by rw [ht]; exact hP, hD⟩, hS.F ht⟩) hS.2.2 hd
  have B_21 : ∀ (z0 : TopT) (H : Heap) (locs : List Loc) (ls : Array Slot), f_X10_doorway_b21 rd pl z0 = some (rv, u0) → va_P D vwCl (w_Top dA t g0 (pa 0) g2 (a 0) g4 g5 g6 g7 g8 z0 ++ (w_Ride dA a (pa 0) (pa 1) rd ++ (w_Plan dA pa pl))) H → va_D A (w_Top dA t g0 (pa 0) g2 (a 0) g4 g5 g6 g7 g8 z0 ++ (w_Ride dA a (pa 0) (pa 1) rd ++ (w_Plan dA pa pl))) → va_S A s.heap H locs → lv_has ls 3 [(0, .ref (t 0))] → W p l e ({ frames := 2, cells := 0, slots := 0, locals := 48 } : Room) s m ([.ref (t 0), .int x0, .int x1] : List Value).toArray below meth c H locs 0 0 Q (F0 m 21 ls []) := by
    intro z0 H locs ls hf hP hD hS hl
    rw [f_X10_doorway_b21] at hf
    refine lv_aload_n hx hb dX10_doorway_21 rfl (lv_at hl 0 rfl) ?_
    refine lv_iconst (v := (1 : Int32)) hx hb dX10_doorway_22 (by decide) ?_
    obtain ⟨r3, hc3, hf⟩ := kb_bind hf
    refine kb_ci (ws2 := (w_Top dA t g0 (pa 0) g2 (a 0) g4 g5 g6 g7 g8 r3.2 ++ (w_Ride dA a (pa 0) (pa 1) rd ++ (w_Plan dA pa pl)))) (kb_rV (n := 1) (As := [.int (1 : Int32)]) (rest := []) hx hb hml hown hK (c_X10_refused l D dA H.size t g0 (pa 0) g2 (a 0) g4 g5 g6 g7 g8 z0 (1 : Int32) r3.1 r3.2 hc3) ⟨ww_2_204, ww_2_201, ww_2_203, ws_0, ww_1_1, rfl, by decide, by decide⟩ rfl rfl (by decide +kernel) ⟨Nat.le_of_ble_eq_true rfl, Nat.le_of_ble_eq_true rfl⟩ hP hD hS hA hE [0] rfl (by decide) 0 rfl rfl rfl hl.1 rfl (Nat.le_of_ble_eq_true rfl) dX10_doorway_23 ⟨Nat.le_of_ble_eq_true rfl, Nat.le_of_ble_eq_true rfl⟩) hP hD hS hA [0] [1, 2, 3, 4, 5, 6, 7, 8, 9, 10, 11, 12, 13, 14, 15, 16, 17, 18, 19, 20, 21, 22, 23, 24, 25, 26, 27, 28, 29, 30] [30, 0, 1, 2, 3, 4, 5, 6, 7, 8, 9, 10, 11, 12, 13, 14, 15, 16, 17, 18, 19, 20, 21, 22, 23, 24, 25, 26, 27, 28, 29] rfl rfl (by decide) (by decide) rfl (by decide) (fun H locs hP hD hS => ?_)
    exact RET _ _ H _ ls 26 hf hP hD hS dX10_doorway_26
  have B_55 : ∀ (z0 : TopT) (H : Heap) (locs : List Loc) (ls : Array Slot), f_X10_doorway_b55 rd pl z0 = some (rv, u0) → va_P D vwCl (w_Top dA t g0 (pa 0) g2 (a 0) g4 g5 g6 g7 g8 z0 ++ (w_Ride dA a (pa 0) (pa 1) rd ++ (w_Plan dA pa pl))) H → va_D A (w_Top dA t g0 (pa 0) g2 (a 0) g4 g5 g6 g7 g8 z0 ++ (w_Ride dA a (pa 0) (pa 1) rd ++ (w_Plan dA pa pl))) → va_S A s.heap H locs → lv_has ls 3 [(0, .ref (t 0))] → W p l e ({ frames := 2, cells := 0, slots := 0, locals := 48 } : Room) s m ([.ref (t 0), .int x0, .int x1] : List Value).toArray below meth c H locs 0 0 Q (F0 m 55 ls []) := by
    intro z0 H locs ls hf hP hD hS hl
    rw [f_X10_doorway_b55] at hf
    refine lv_aload_n hx hb dX10_doorway_55 rfl (lv_at hl 0 rfl) ?_
    refine lv_iconst (v := (5 : Int32)) hx hb dX10_doorway_56 (by decide) ?_
    obtain ⟨r9, hc9, hf⟩ := kb_bind hf
    refine kb_ci (ws2 := (w_Top dA t g0 (pa 0) g2 (a 0) g4 g5 g6 g7 g8 r9.2 ++ (w_Ride dA a (pa 0) (pa 1) rd ++ (w_Plan dA pa pl)))) (kb_rV (n := 1) (As := [.int (5 : Int32)]) (rest := []) hx hb hml hown hK (c_X10_refused l D dA H.size t g0 (pa 0) g2 (a 0) g4 g5 g6 g7 g8 z0 (5 : Int32) r9.1 r9.2 hc9) ⟨ww_2_204, ww_2_201, ww_2_203, ws_0, ww_1_1, rfl, by decide, by decide⟩ rfl rfl (by decide +kernel) ⟨Nat.le_of_ble_eq_true rfl, Nat.le_of_ble_eq_true rfl⟩ hP hD hS hA hE [0] rfl (by decide) 0 rfl rfl rfl hl.1 rfl (Nat.le_of_ble_eq_true rfl) dX10_doorway_57 ⟨Nat.le_of_ble_eq_true rfl, Nat.le_of_ble_eq_true rfl⟩) hP hD hS hA [0] [1, 2, 3, 4, 5, 6, 7, 8, 9, 10, 11, 12, 13, 14, 15, 16, 17, 18, 19, 20, 21, 22, 23, 24, 25, 26, 27, 28, 29, 30] [30, 0, 1, 2, 3, 4, 5, 6, 7, 8, 9, 10, 11, 12, 13, 14, 15, 16, 17, 18, 19, 20, 21, 22, 23, 24, 25, 26, 27, 28, 29] rfl rfl (by decide) (by decide) rfl (by decide) (fun H locs hP hD hS => ?_)
    exact RET _ _ H _ ls 60 hf hP hD hS dX10_doorway_60
  have E0 : ∀ (H : Heap) (locs : List Loc), va_P D vwCl (w_Top dA t g0 (pa 0) g2 (a 0) g4 g5 g6 g7 g8 tp ++ (w_Ride dA a (pa 0) (pa 1) rd ++ (w_Plan dA pa pl))) H → va_D A (w_Top dA t g0 (pa 0) g2 (a 0) g4 g5 g6 g7 g8 tp ++ (w_Ride dA a (pa 0) (pa 1) rd ++ (w_Plan dA pa pl))) → va_S A s.heap H locs → W p l e ({ frames := 2, cells := 0, slots := 0, locals := 48 } : Room) s m ([.ref (t 0), .int x0, .int x1] : List Value).toArray below meth c H locs 0 0 Q (F0 m 0 ls []) := by
    intro H locs hP hD hS
    rw [f_X10_doorway] at hf
    refine lv_aload_n hx hb dX10_doorway_0 rfl (lv_at hl 0 rfl) ?_
    refine lv_iload_n hx hb dX10_doorway_1 rfl (lv_at hl 1 rfl) ?_
    obtain ⟨r1, hc1, hf⟩ := kb_bind hf
    refine kb_ci (ws2 := (w_Top dA t g0 (pa 0) g2 (a 0) g4 g5 g6 g7 g8 tp ++ (w_Ride dA a (pa 0) (pa 1) rd ++ (w_Plan dA pa pl)))) (kb_rV (n := 1) (As := [.int x0]) (rest := []) hx hb hml hown hK (c_X10_isRider l D dA H.size t pa g0 g2 (a 0) g4 g5 g6 g7 g8 tp pl x0 r1 hc1) ⟨ww_4_75, ww_4_72, ww_4_74, ws_33, ww_1_1, rfl, by decide, by decide⟩ rfl rfl (by decide +kernel) ⟨Nat.le_of_ble_eq_true rfl, Nat.le_of_ble_eq_true rfl⟩ hP hD hS hA hE [0, 10, 11, 12, 13, 14, 15, 16, 17, 18, 19, 20, 21, 22, 23, 24, 25, 26, 27, 28, 29, 30] rfl (by decide) 0 rfl rfl rfl hl.1 rfl (Nat.le_of_ble_eq_true rfl) dX10_doorway_2 ⟨Nat.le_of_ble_eq_true rfl, Nat.le_of_ble_eq_true rfl⟩) hP hD hS hA [0, 10, 11, 12, 13, 14, 15, 16, 17, 18, 19, 20, 21, 22, 23, 24, 25, 26, 27, 28, 29, 30] [1, 2, 3, 4, 5, 6, 7, 8, 9] [9, 0, 1, 2, 3, 4, 5, 6, 7, 8, 10, 11, 12, 13, 14, 15, 16, 17, 18, 19, 20, 21, 22, 23, 24, 25, 26, 27, 28, 29, 30] rfl rfl (by decide) (by decide) rfl (by decide) (fun H locs hP hD hS => ?_)
    refine lv_if_eq (tgt := 21) hx hb dX10_doorway_5 (by decide) (fun c_2 => ?_) (fun c_2 => ?_)
    · rw [if_pos c_2] at hf
      exact B_21 _ _ _ _ hf hP hD hS (lv_sub hl [0] rfl)
    · rw [if_neg c_2] at hf
      refine lv_aload_n hx hb dX10_doorway_8 rfl (lv_at hl 0 rfl) ?_
      refine lv_iload_n hx hb dX10_doorway_9 rfl (lv_at hl 2 rfl) ?_
      obtain ⟨r4, hc4, hf⟩ := kb_bind hf
      refine kb_ci (ws2 := (w_Top dA t g0 (pa 0) g2 (a 0) g4 g5 g6 g7 g8 tp ++ (w_Ride dA a (pa 0) (pa 1) rd ++ (w_Plan dA pa pl)))) (kb_rV (n := 1) (As := [.int x1]) (rest := []) hx hb hml hown hK (c_X10_isRider l D dA H.size t pa g0 g2 (a 0) g4 g5 g6 g7 g8 tp pl x1 r4 hc4) ⟨ww_4_75, ww_4_72, ww_4_74, ws_33, ww_1_1, rfl, by decide, by decide⟩ rfl rfl (by decide +kernel) ⟨Nat.le_of_ble_eq_true rfl, Nat.le_of_ble_eq_true rfl⟩ hP hD hS hA hE [0, 10, 11, 12, 13, 14, 15, 16, 17, 18, 19, 20, 21, 22, 23, 24, 25, 26, 27, 28, 29, 30] rfl (by decide) 0 rfl rfl rfl hl.1 rfl (Nat.le_of_ble_eq_true rfl) dX10_doorway_10 ⟨Nat.le_of_ble_eq_true rfl, Nat.le_of_ble_eq_true rfl⟩) hP hD hS hA [0, 10, 11, 12, 13, 14, 15, 16, 17, 18, 19, 20, 21, 22, 23, 24, 25, 26, 27, 28, 29, 30] [1, 2, 3, 4, 5, 6, 7, 8, 9] [9, 0, 1, 2, 3, 4, 5, 6, 7, 8, 10, 11, 12, 13, 14, 15, 16, 17, 18, 19, 20, 21, 22, 23, 24, 25, 26, 27, 28, 29, 30] rfl rfl (by decide) (by decide) rfl (by decide) (fun H locs hP hD hS => ?_)
      refine lv_if_eq (tgt := 21) hx hb dX10_doorway_13 (by decide) (fun c_5 => ?_) (fun c_5 => ?_)
      · rw [if_pos c_5] at hf
        exact B_21 _ _ _ _ hf hP hD hS (lv_sub hl [0] rfl)
      · rw [if_neg c_5] at hf
        refine lv_iload_n hx hb dX10_doorway_16 rfl (lv_at hl 1 rfl) ?_
        refine lv_iload_n hx hb dX10_doorway_17 rfl (lv_at hl 2 rfl) ?_
        refine lv_icmp_ne (tgt := 27) hx hb dX10_doorway_18 (by decide) (fun c_6 => ?_) (fun c_6 => ?_)
        · rw [if_neg c_6] at hf
          refine lv_aload_n hx hb dX10_doorway_27 rfl (lv_at hl 0 rfl) ?_
          refine va_get (D := D) (ci := 10) (v := .ref (a 0)) (C := RX10) (T := TX10) (N := 12) hx hb hts kb_inX10 hown hK.1 hP 0 rfl rfl 4 (by decide) (hK.2.w ww_2_156 rfl _) (fun _ h9 => h9) rfl dX10_doorway_28 ?_
          refine va_get (D := D) (ci := 6) (v := .ref (a 4)) (C := RX6) (T := TX6) (N := 11) hx hb hts kb_inX6 hown hK.1 hP 1 rfl rfl 2 (by decide) (hK.2.w ww_2_71 rfl _) (fun _ h9 => h9) rfl dX10_doorway_31 ?_
          refine lv_iload_n hx hb dX10_doorway_34 rfl (lv_at hl 1 rfl) ?_
          obtain ⟨h_7, hf⟩ := kb_if hf
          refine va_iald (D := D) hx hb hK.1 hP 5 0 rfl rfl h_7 dX10_doorway_35 ?_
          refine lv_bipush (v := (101 : Int32)) hx hb dX10_doorway_36 (by decide) ?_
          refine lv_icmp_ne (tgt := 55) hx hb dX10_doorway_38 (by decide) (fun c_8 => ?_) (fun c_8 => ?_)
          · rw [if_neg c_8] at hf
            exact B_55 _ _ _ _ hf hP hD hS (lv_sub hl [0] rfl)
          · rw [if_pos c_8] at hf
            refine lv_aload_n hx hb dX10_doorway_41 rfl (lv_at hl 0 rfl) ?_
            refine va_get (D := D) (ci := 10) (v := .ref (a 0)) (C := RX10) (T := TX10) (N := 12) hx hb hts kb_inX10 hown hK.1 hP 0 rfl rfl 4 (by decide) (hK.2.w ww_2_156 rfl _) (fun _ h9 => h9) rfl dX10_doorway_42 ?_
            refine va_get (D := D) (ci := 6) (v := .ref (a 4)) (C := RX6) (T := TX6) (N := 11) hx hb hts kb_inX6 hown hK.1 hP 1 rfl rfl 2 (by decide) (hK.2.w ww_2_71 rfl _) (fun _ h9 => h9) rfl dX10_doorway_45 ?_
            refine lv_iload_n hx hb dX10_doorway_48 rfl (lv_at hl 2 rfl) ?_
            obtain ⟨h_10, hf⟩ := kb_if hf
            refine va_iald (D := D) hx hb hK.1 hP 5 0 rfl rfl h_10 dX10_doorway_49 ?_
            refine lv_bipush (v := (101 : Int32)) hx hb dX10_doorway_50 (by decide) ?_
            refine lv_icmp_eq (tgt := 61) hx hb dX10_doorway_52 (by decide) (fun c_11 => ?_) (fun c_11 => ?_)
            · rw [if_pos c_11] at hf
              refine lv_aload_n hx hb dX10_doorway_61 rfl (lv_at hl 0 rfl) ?_
              refine lv_aload_n hx hb dX10_doorway_62 rfl (lv_at hl 0 rfl) ?_
              refine lv_iload_n hx hb dX10_doorway_63 rfl (lv_at hl 1 rfl) ?_
              refine lv_iload_n hx hb dX10_doorway_64 rfl (lv_at hl 2 rfl) ?_
              obtain ⟨r12, hc12, hf⟩ := kb_bind hf
              refine kb_ci (ws2 := (w_Top dA t g0 (pa 0) g2 (a 0) g4 g5 g6 g7 g8 tp ++ (w_Ride dA a (pa 0) (pa 1) rd ++ (w_Plan dA pa pl)))) (kb_rV (n := 2) (As := [.int x0, .int x1]) (rest := [.ref (t 0)]) hx hb hml hown hK (c_X10_rests l D dA H.size t a pa g0 g2 g4 g5 g6 g7 g8 tp rd pl x0 x1 r12 hc12) ⟨ww_4_223, ww_4_220, ww_4_222, ws_38, ww_1_1, rfl, by decide, by decide⟩ rfl rfl (by decide +kernel) ⟨Nat.le_of_ble_eq_true rfl, Nat.le_of_ble_eq_true rfl⟩ hP hD hS hA hE [0, 1, 2, 3, 4, 5, 6, 7, 8, 9, 10, 11, 12, 13, 14, 15, 16, 17, 18, 19, 20, 21, 22, 23, 24, 25, 26, 27, 28, 29, 30] rfl (by decide) 0 rfl rfl rfl hl.1 rfl (Nat.le_of_ble_eq_true rfl) dX10_doorway_65 ⟨Nat.le_of_ble_eq_true rfl, Nat.le_of_ble_eq_true rfl⟩) hP hD hS hA [0, 1, 2, 3, 4, 5, 6, 7, 8, 9, 10, 11, 12, 13, 14, 15, 16, 17, 18, 19, 20, 21, 22, 23, 24, 25, 26, 27, 28, 29, 30] [] [0, 1, 2, 3, 4, 5, 6, 7, 8, 9, 10, 11, 12, 13, 14, 15, 16, 17, 18, 19, 20, 21, 22, 23, 24, 25, 26, 27, 28, 29, 30] rfl rfl (by decide) (by decide) rfl (by decide) (fun H locs hP hD hS => ?_)
              obtain ⟨r13, hc13, hf⟩ := kb_bind hf
              refine kb_ci (ws2 := (w_Top dA t g0 (pa 0) g2 (a 0) g4 g5 g6 g7 g8 r13.2 ++ (w_Ride dA a (pa 0) (pa 1) rd ++ (w_Plan dA pa pl)))) (kb_rV (n := 1) (As := [.int r12]) (rest := []) hx hb hml hown hK (c_X10_answered l D dA H.size t g0 (pa 0) g2 (a 0) g4 g5 g6 g7 g8 tp r12 r13.1 r13.2 hc13) ⟨ww_3_184, ww_3_181, ww_3_183, ws_22, ww_1_1, rfl, by decide, by decide⟩ rfl rfl (by decide +kernel) ⟨Nat.le_of_ble_eq_true rfl, Nat.le_of_ble_eq_true rfl⟩ hP hD hS hA hE [0] rfl (by decide) 0 rfl rfl rfl hl.1 rfl (Nat.le_of_ble_eq_true rfl) dX10_doorway_68 ⟨Nat.le_of_ble_eq_true rfl, Nat.le_of_ble_eq_true rfl⟩) hP hD hS hA [0] [1, 2, 3, 4, 5, 6, 7, 8, 9, 10, 11, 12, 13, 14, 15, 16, 17, 18, 19, 20, 21, 22, 23, 24, 25, 26, 27, 28, 29, 30] [30, 0, 1, 2, 3, 4, 5, 6, 7, 8, 9, 10, 11, 12, 13, 14, 15, 16, 17, 18, 19, 20, 21, 22, 23, 24, 25, 26, 27, 28, 29] rfl rfl (by decide) (by decide) rfl (by decide) (fun H locs hP hD hS => ?_)
              exact RET _ _ H _ ls 71 hf hP hD hS dX10_doorway_71
            · rw [if_neg c_11] at hf
              exact B_55 _ _ _ _ hf hP hD hS (lv_sub hl [0] rfl)
        · rw [if_pos c_6] at hf
          exact B_21 _ _ _ _ hf hP hD hS (lv_sub hl [0] rfl)
  exact E0 _ _ hP hD hS

noncomputable def f_X10_apartWays_b18 : Nat → Int32 → Int32 → Int64 → Int32 → Option (Int64)
  | 0, _, _, _, _ => none
  | n + 1, v1, v2, v3, v5 => (if v1 < v5 then some (v3) else if ¬ (v5).toInt64 = 0 then f_X10_apartWays_b18 n v1 v2 ((v3 * (((v2 - v1) + v5)).toInt64) / (v5).toInt64) (v5 + (1 : Int32)) else none)
noncomputable def f_X10_apartWays (x0 : Int32) (x1 : Int32) : Option (Int64) := (if x1 ≤ ((x0 - x1) + (1 : Int32)) then f_X10_apartWays_b18 4096 x1 ((x0 - x1) + (1 : Int32)) (1 : Int64) (1 : Int32) else some ((0 : Int64)))
set_option maxHeartbeats 4000000 in
set_option maxRecDepth 100000 in
theorem c_X10_apartWays (l : Launch) (D : va_G) (dA : Nat → ClassId) (sz : Nat) (x0 : Int32) (x1 : Int32) (rv : Int64) (hf : f_X10_apartWays x0 x1 = some (rv)) : kb_Ml l yX10_apartWays cX10_apartWays 6 (some .long) ({ frames := 0, cells := 0, slots := 0, locals := 0 } : Room) D dA [.int x0, .int x1] sz ([] : va_W) 0 0 rv ([] : va_W) := by
  refine Met.ofW (cc := cX10_apartWays) (maxL := 6) (ret := (some .long)) (by decide) rfl ?_
  intro p e s m args below meth c s₁ B hml hv
  obtain ⟨rfl, hsz, hP, hK, hD0, hE⟩ := hv
  have hx := B.exec
  have hb := B.bytes
  have hr := B.returns
  have hown : s.vm.findClass RX10 = some m.cls := findClass_of_methodNamed B.named
  have hlocks := B.notSynchronized
  have hts : ∀ w ∈ kb_gw, w.before ([.int x0, .int x1] : List Value).toArray s = true := fun w hw => hK.2.1 w hw _
  subst hsz
  have hD := hD0.self (sz := s.heap.size)
  generalize hAe : va_A ([] : va_W) s.heap.size = A at hD hE ⊢
  have hA : ∀ q : Nat, s.heap.size ≤ q → A q := fun q h => by rw [← hAe]; exact Or.inr h
  have hS : va_S A s.heap s.heap [] := va_S.rf
  have hl := lv_entry ([.int x0, .int x1]) (n := 6) (Nat.le_of_ble_eq_true rfl)
  rw [lg_entry_eq]
  generalize (lg_sl ([.int x0, .int x1]) ++ List.replicate (6 - (lg_sl ([.int x0, .int x1])).length) Slot.unset).toArray = ls at hl ⊢
  have hl : lv_has ls 6 [(0, .int x0), (1, .int x1)] := hl
  generalize hQ : MQ below (va_Ql (fun r (_ : Unit) => r = rv) (kb_B D A ([] : va_W)) A) ([.int x0, .int x1] : List Value).toArray s 0 0 A = Q
  show W p l e ({ frames := 0, cells := 0, slots := 0, locals := 0 } : Room) s m ([.int x0, .int x1] : List Value).toArray below meth c s.heap [] 0 0 Q (F0 m 0 ls [])
  have RET : ∀ (r2 : Int64) (H : Heap) (locs : List Loc) (ls : Array Slot) (pc : Nat), some (r2) = some (rv) → va_P D vwCl ([] : va_W) H → va_D A ([] : va_W) → va_S A s.heap H locs → decode cX10_apartWays pc = .ok (.lreturn, 1) → W p l e ({ frames := 0, cells := 0, slots := 0, locals := 0 } : Room) s m ([.int x0, .int x1] : List Value).toArray below meth c H locs 0 0 Q (F0 m pc ls [.long r2]) := by
    intro r2 H locs ls pc hq hP hD hS hd
    cases hq
    rw [← hQ]
    exact W.lret hx hb hr (fun t ht hW => ⟨⟨_, (), rfl, rfl, by rw [ht]; exact hP, hD⟩, hS.F ht⟩) hS.2.2 hd
  have B_18 : ∀ (n : Nat) (v1 : Int32) (v2 : Int32) (v3 : Int64) (v5 : Int32) (H : Heap) (locs : List Loc) (ls : Array Slot), f_X10_apartWays_b18 n v1 v2 v3 v5 = some (rv) → va_P D vwCl ([] : va_W) H → va_D A ([] : va_W) → va_S A s.heap H locs → lv_has ls 6 [(1, .int v1), (2, .int v2), (3, .long v3), (5, .int v5)] → W p l e ({ frames := 0, cells := 0, slots := 0, locals := 0 } : Room) s m ([.int x0, .int x1] : List Value).toArray below meth c H locs 0 0 Q (F0 m 18 ls []) := by
    intro n
    induction n with
    | zero =>
      intro v1 v2 v3 v5 H locs ls hf
      exact absurd hf (by simp [f_X10_apartWays_b18])
    | succ n ih =>
      intro v1 v2 v3 v5 H locs ls hf hP hD hS hl
      rw [f_X10_apartWays_b18] at hf
      refine lv_iload hx hb dX10_apartWays_18 (lv_at hl 3 rfl) ?_
      refine lv_iload_n hx hb dX10_apartWays_20 rfl (lv_at hl 0 rfl) ?_
      refine lv_icmp_gt (tgt := 44) hx hb dX10_apartWays_21 (by decide) (fun c_2 => ?_) (fun c_2 => ?_)
      · rw [if_pos c_2] at hf
        refine lv_lload_n hx hb dX10_apartWays_44 rfl (lv_at hl 2 rfl) ?_
        exact RET _ H _ ls 45 hf hP hD hS dX10_apartWays_45
      · rw [if_neg c_2] at hf
        refine lv_lload_n hx hb dX10_apartWays_24 rfl (lv_at hl 2 rfl) ?_
        refine lv_iload_n hx hb dX10_apartWays_25 rfl (lv_at hl 1 rfl) ?_
        refine lv_iload_n hx hb dX10_apartWays_26 rfl (lv_at hl 0 rfl) ?_
        refine lv_isub hx hb dX10_apartWays_27 ?_
        refine lv_iload hx hb dX10_apartWays_28 (lv_at hl 3 rfl) ?_
        refine lv_iadd hx hb dX10_apartWays_30 ?_
        refine lv_i2l hx hb dX10_apartWays_31 rfl ?_
        refine lv_lmul hx hb dX10_apartWays_32 ?_
        refine lv_iload hx hb dX10_apartWays_33 (lv_at hl 3 rfl) ?_
        refine lv_i2l hx hb dX10_apartWays_35 rfl ?_
        obtain ⟨h_3, hf⟩ := kb_if hf
        refine lv_ldiv hx hb dX10_apartWays_36 h_3 ?_
        refine lv_lstore_n (lv' := [(3, .long ((v3 * (((v2 - v1) + v5)).toInt64) / (v5).toInt64)), (1, .int v1), (2, .int v2), (5, .int v5)]) hx hb dX10_apartWays_37 rfl hl (by decide) rfl (fun ls hl => ?_)
        refine lv_iinc (v := (v5 + (1 : Int32))) (lv' := [(5, .int (v5 + (1 : Int32))), (3, .long ((v3 * (((v2 - v1) + v5)).toInt64) / (v5).toInt64)), (1, .int v1), (2, .int v2)]) hx hb dX10_apartWays_38 hl (k := 3) rfl (by rfl) (by decide) rfl (fun ls hl => ?_)
        refine lv_goto (tgt := 18) hx hb dX10_apartWays_41 (by decide) ?_
        exact ih _ _ _ _ _ _ _ hf hP hD hS (lv_sub hl [2, 3, 1, 0] rfl)
  have E0 : ∀ (H : Heap) (locs : List Loc), va_P D vwCl ([] : va_W) H → va_D A ([] : va_W) → va_S A s.heap H locs → W p l e ({ frames := 0, cells := 0, slots := 0, locals := 0 } : Room) s m ([.int x0, .int x1] : List Value).toArray below meth c H locs 0 0 Q (F0 m 0 ls []) := by
    intro H locs hP hD hS
    rw [f_X10_apartWays] at hf
    refine lv_iload_n hx hb dX10_apartWays_0 rfl (lv_at hl 0 rfl) ?_
    refine lv_iload_n hx hb dX10_apartWays_1 rfl (lv_at hl 1 rfl) ?_
    refine lv_isub hx hb dX10_apartWays_2 ?_
    refine lv_iconst (v := (1 : Int32)) hx hb dX10_apartWays_3 (by decide) ?_
    refine lv_iadd hx hb dX10_apartWays_4 ?_
    refine lv_istore_n (lv' := [(2, .int ((x0 - x1) + (1 : Int32))), (0, .int x0), (1, .int x1)]) hx hb dX10_apartWays_5 rfl hl (by decide) rfl (fun ls hl => ?_)
    refine lv_iload_n hx hb dX10_apartWays_6 rfl (lv_at hl 2 rfl) ?_
    refine lv_iload_n hx hb dX10_apartWays_7 rfl (lv_at hl 0 rfl) ?_
    refine lv_icmp_le (tgt := 13) hx hb dX10_apartWays_8 (by decide) (fun c_1 => ?_) (fun c_1 => ?_)
    · rw [if_pos c_1] at hf
      refine lv_lconst (v := (1 : Int64)) hx hb dX10_apartWays_13 (by decide) ?_
      refine lv_lstore_n (lv' := [(3, .long (1 : Int64)), (2, .int ((x0 - x1) + (1 : Int32))), (0, .int x0), (1, .int x1)]) hx hb dX10_apartWays_14 rfl hl (by decide) rfl (fun ls hl => ?_)
      refine lv_iconst (v := (1 : Int32)) hx hb dX10_apartWays_15 (by decide) ?_
      refine lv_istore (lv' := [(5, .int (1 : Int32)), (3, .long (1 : Int64)), (2, .int ((x0 - x1) + (1 : Int32))), (0, .int x0), (1, .int x1)]) hx hb dX10_apartWays_16 hl (by decide) rfl (fun ls hl => ?_)
      exact B_18 4096 _ _ _ _ _ _ _ hf hP hD hS (lv_sub hl [4, 2, 1, 0] rfl)
    · rw [if_neg c_1] at hf
      refine lv_lconst (v := (0 : Int64)) hx hb dX10_apartWays_11 (by decide) ?_
      exact RET _ H _ ls 12 hf hP hD hS dX10_apartWays_12
  exact E0 _ _ hP hD hS

noncomputable def f_X10_alone_b17 (z0 : TopT) : Option (Int64 × TopT) := (f_X10_refused z0 (2 : Int32)).bind fun r3 => some ((r3.1).toInt64, r3.2)
noncomputable def f_X10_alone (tp : TopT) (x0 : Int32) (x1 : Int32) : Option (Int64 × TopT) := (f_X10_isPlaces x0).bind fun r1 => (if r1 = 0 then f_X10_alone_b17 tp else (if x1 < 0 then f_X10_alone_b17 tp else (if x1 ≤ (40 : Int32) then (f_X10_apartWays x0 x1).bind fun r6 => some (r6, (tp_set_latestTrouble tp (0 : Int32))) else f_X10_alone_b17 tp)))
set_option maxHeartbeats 4000000 in
set_option maxRecDepth 100000 in
theorem c_X10_alone (l : Launch) (D : va_G) (dA : Nat → ClassId) (sz : Nat) (t : Nat → Nat) (g0 : Nat) (g1 : Nat) (g2 : Nat) (g3 : Nat) (g4 : Nat) (g5 : Nat) (g6 : Nat) (g7 : Nat) (g8 : Nat) (tp : TopT) (x0 : Int32) (x1 : Int32) (rv : Int64) (u0 : TopT) (hf : f_X10_alone tp x0 x1 = some (rv, u0)) : kb_Ml l yX10_alone cX10_alone 3 (some .long) ({ frames := 1, cells := 0, slots := 0, locals := 25 } : Room) D dA [.ref (t 0), .int x0, .int x1] sz (w_Top dA t g0 g1 g2 g3 g4 g5 g6 g7 g8 tp) 0 0 rv (w_Top dA t g0 g1 g2 g3 g4 g5 g6 g7 g8 u0) := by
  refine Met.ofW (cc := cX10_alone) (maxL := 3) (ret := (some .long)) (by decide) rfl ?_
  intro p e s m args below meth c s₁ B hml hv
  obtain ⟨rfl, hsz, hP, hK, hD0, hE⟩ := hv
  have hx := B.exec
  have hb := B.bytes
  have hr := B.returns
  have hown : s.vm.findClass RX10 = some m.cls := findClass_of_methodNamed B.named
  have hlocks := B.notSynchronized
  have hts : ∀ w ∈ kb_gw, w.before ([.ref (t 0), .int x0, .int x1] : List Value).toArray s = true := fun w hw => hK.2.1 w hw _
  subst hsz
  have hD := hD0.self (sz := s.heap.size)
  generalize hAe : va_A (w_Top dA t g0 g1 g2 g3 g4 g5 g6 g7 g8 tp) s.heap.size = A at hD hE ⊢
  have hA : ∀ q : Nat, s.heap.size ≤ q → A q := fun q h => by rw [← hAe]; exact Or.inr h
  have hS : va_S A s.heap s.heap [] := va_S.rf
  have hl := lv_entry ([.ref (t 0), .int x0, .int x1]) (n := 3) (Nat.le_of_ble_eq_true rfl)
  rw [lg_entry_eq]
  generalize (lg_sl ([.ref (t 0), .int x0, .int x1]) ++ List.replicate (3 - (lg_sl ([.ref (t 0), .int x0, .int x1])).length) Slot.unset).toArray = ls at hl ⊢
  have hl : lv_has ls 3 [(0, .ref (t 0)), (1, .int x0), (2, .int x1)] := hl
  generalize hQ : MQ below (va_Ql (fun r (_ : Unit) => r = rv) (kb_B D A (w_Top dA t g0 g1 g2 g3 g4 g5 g6 g7 g8 u0)) A) ([.ref (t 0), .int x0, .int x1] : List Value).toArray s 0 0 A = Q
  show W p l e ({ frames := 1, cells := 0, slots := 0, locals := 25 } : Room) s m ([.ref (t 0), .int x0, .int x1] : List Value).toArray below meth c s.heap [] 0 0 Q (F0 m 0 ls [])
  have RET : ∀ (r2 : Int64) (w0 : TopT) (H : Heap) (locs : List Loc) (ls : Array Slot) (pc : Nat), some (r2, w0) = some (rv, u0) → va_P D vwCl (w_Top dA t g0 g1 g2 g3 g4 g5 g6 g7 g8 w0) H → va_D A (w_Top dA t g0 g1 g2 g3 g4 g5 g6 g7 g8 w0) → va_S A s.heap H locs → decode cX10_alone pc = .ok (.lreturn, 1) → W p l e ({ frames := 1, cells := 0, slots := 0, locals := 25 } : Room) s m ([.ref (t 0), .int x0, .int x1] : List Value).toArray below meth c H locs 0 0 Q (F0 m pc ls [.long r2]) := by
    intro r2 w0 H locs ls pc hq hP hD hS hd
    cases hq
    rw [← hQ]
    exact W.lret hx hb hr (fun t ht hW => ⟨⟨_, (), rfl, rfl, by rw [ht]; exact hP, hD⟩, hS.F ht⟩) hS.2.2 hd
  have B_17 : ∀ (z0 : TopT) (H : Heap) (locs : List Loc) (ls : Array Slot), f_X10_alone_b17 z0 = some (rv, u0) → va_P D vwCl (w_Top dA t g0 g1 g2 g3 g4 g5 g6 g7 g8 z0) H → va_D A (w_Top dA t g0 g1 g2 g3 g4 g5 g6 g7 g8 z0) → va_S A s.heap H locs → lv_has ls 3 [(0, .ref (t 0))] → W p l e ({ frames := 1, cells := 0, slots := 0, locals := 25 } : Room) s m ([.ref (t 0), .int x0, .int x1] : List Value).toArray below meth c H locs 0 0 Q (F0 m 17 ls []) := by
    intro z0 H locs ls hf hP hD hS hl
    rw [f_X10_alone_b17] at hf
    refine lv_aload_n hx hb dX10_alone_17 rfl (lv_at hl 0 rfl) ?_
    refine lv_iconst (v := (2 : Int32)) hx hb dX10_alone_18 (by decide) ?_
    obtain ⟨r3, hc3, hf⟩ := kb_bind hf
    refine kb_ci (ws2 := (w_Top dA t g0 g1 g2 g3 g4 g5 g6 g7 g8 r3.2)) (kb_rV (n := 1) (As := [.int (2 : Int32)]) (rest := []) hx hb hml hown hK (c_X10_refused l D dA H.size t g0 g1 g2 g3 g4 g5 g6 g7 g8 z0 (2 : Int32) r3.1 r3.2 hc3) ⟨ww_2_204, ww_2_201, ww_2_203, ws_0, ww_1_1, rfl, by decide, by decide⟩ rfl rfl (by decide +kernel) ⟨Nat.le_of_ble_eq_true rfl, Nat.le_of_ble_eq_true rfl⟩ hP hD hS hA hE [0] rfl (by decide) 0 rfl rfl rfl hl.1 rfl (Nat.le_of_ble_eq_true rfl) dX10_alone_19 ⟨Nat.le_of_ble_eq_true rfl, Nat.le_of_ble_eq_true rfl⟩) hP hD hS hA [0] [] [0] rfl rfl (by decide) (by decide) rfl (by decide) (fun H locs hP hD hS => ?_)
    refine lv_i2l hx hb dX10_alone_22 rfl ?_
    exact RET _ _ H _ ls 23 hf hP hD hS dX10_alone_23
  have E0 : ∀ (H : Heap) (locs : List Loc), va_P D vwCl (w_Top dA t g0 g1 g2 g3 g4 g5 g6 g7 g8 tp) H → va_D A (w_Top dA t g0 g1 g2 g3 g4 g5 g6 g7 g8 tp) → va_S A s.heap H locs → W p l e ({ frames := 1, cells := 0, slots := 0, locals := 25 } : Room) s m ([.ref (t 0), .int x0, .int x1] : List Value).toArray below meth c H locs 0 0 Q (F0 m 0 ls []) := by
    intro H locs hP hD hS
    rw [f_X10_alone] at hf
    refine lv_iload_n hx hb dX10_alone_0 rfl (lv_at hl 1 rfl) ?_
    obtain ⟨r1, hc1, hf⟩ := kb_bind hf
    refine kb_ci (ws2 := (w_Top dA t g0 g1 g2 g3 g4 g5 g6 g7 g8 tp)) (kb_rS (n := 1) (As := [.int x0]) (rest := []) hx hb hml hown hK (c_X10_isPlaces l D dA H.size x0 r1 hc1) ⟨ww_5_54, ww_5_52, ww_5_53, ww_1_1, by decide, by decide⟩ rfl rfl (by decide +kernel) ⟨Nat.le_of_ble_eq_true rfl, Nat.le_of_ble_eq_true rfl⟩ hP hD hS hA hE [] rfl (by decide) rfl hl.1 rfl (Nat.le_of_ble_eq_true rfl) dX10_alone_1 ⟨Nat.le_of_ble_eq_true rfl, Nat.le_of_ble_eq_true rfl⟩) hP hD hS hA [] [0] [0] rfl rfl (by decide) (by decide) rfl (by decide) (fun H locs hP hD hS => ?_)
    refine lv_if_eq (tgt := 17) hx hb dX10_alone_4 (by decide) (fun c_2 => ?_) (fun c_2 => ?_)
    · rw [if_pos c_2] at hf
      exact B_17 _ _ _ _ hf hP hD hS (lv_sub hl [0] rfl)
    · rw [if_neg c_2] at hf
      refine lv_iload_n hx hb dX10_alone_7 rfl (lv_at hl 2 rfl) ?_
      refine lv_if_lt (tgt := 17) hx hb dX10_alone_8 (by decide) (fun c_4 => ?_) (fun c_4 => ?_)
      · rw [if_pos c_4] at hf
        exact B_17 _ _ _ _ hf hP hD hS (lv_sub hl [0] rfl)
      · rw [if_neg c_4] at hf
        refine lv_iload_n hx hb dX10_alone_11 rfl (lv_at hl 2 rfl) ?_
        refine lv_bipush (v := (40 : Int32)) hx hb dX10_alone_12 (by decide) ?_
        refine lv_icmp_le (tgt := 24) hx hb dX10_alone_14 (by decide) (fun c_5 => ?_) (fun c_5 => ?_)
        · rw [if_pos c_5] at hf
          refine lv_aload_n hx hb dX10_alone_24 rfl (lv_at hl 0 rfl) ?_
          refine lv_iconst (v := (0 : Int32)) hx hb dX10_alone_25 (by decide) ?_
          refine va_put (D := D) (ci := 10) (v := .int (0 : Int32)) (ty := .int) (C := RX10) (T := TX10) (N := 12) hx hb hts kb_inX10 tyX10 tyX10_ok nmX10 hown hK.1 hP hD hS 0 rfl rfl 11 (by decide) (hK.2.w ww_2_163 rfl _) (fun _ h9 => h9) rfl (by decide +kernel) rfl rfl (Nat.le_of_ble_eq_true rfl) dX10_alone_26 (fun H locs hP hD hS => ?_)
          have hP : va_P D vwCl (w_Top dA t g0 g1 g2 g3 g4 g5 g6 g7 g8 (tp_set_latestTrouble tp (0 : Int32))) H := hP
          have hD : va_D A (w_Top dA t g0 g1 g2 g3 g4 g5 g6 g7 g8 (tp_set_latestTrouble tp (0 : Int32))) := hD
          refine lv_iload_n hx hb dX10_alone_29 rfl (lv_at hl 1 rfl) ?_
          refine lv_iload_n hx hb dX10_alone_30 rfl (lv_at hl 2 rfl) ?_
          obtain ⟨r6, hc6, hf⟩ := kb_bind hf
          refine kb_cl (ws2 := (w_Top dA t g0 g1 g2 g3 g4 g5 g6 g7 g8 (tp_set_latestTrouble tp (0 : Int32)))) (kb_rS (n := 2) (As := [.int x0, .int x1]) (rest := []) hx hb hml hown hK (c_X10_apartWays l D dA H.size x0 x1 r6 hc6) ⟨ww_5_57, ww_5_55, ww_5_56, ww_1_1, by decide, by decide⟩ rfl rfl (by decide +kernel) ⟨Nat.le_of_ble_eq_true rfl, Nat.le_of_ble_eq_true rfl⟩ hP hD hS hA hE [] rfl (by decide) rfl hl.1 rfl (Nat.le_of_ble_eq_true rfl) dX10_alone_31 ⟨Nat.le_of_ble_eq_true rfl, Nat.le_of_ble_eq_true rfl⟩) hP hD hS hA [] [0] [0] rfl rfl (by decide) (by decide) rfl (by decide) (fun H locs hP hD hS => ?_)
          exact RET _ _ H _ ls 34 hf hP hD hS dX10_alone_34
        · rw [if_neg c_5] at hf
          exact B_17 _ _ _ _ hf hP hD hS (lv_sub hl [0] rfl)
  exact E0 _ _ hP hD hS

noncomputable def f_X10_full (tp : TopT) (x0 : Int32) : Option (Int32 × TopT) := (f_X10_isPlaces x0).bind fun r1 => (if r1 = 0 then (f_X10_refused tp (2 : Int32)).bind fun r4 => some (r4.1, r4.2) else (f_X10_answered tp ((x0 + (1 : Int32)) / (2 : Int32))).bind fun r3 => some (r3.1, r3.2))
set_option maxHeartbeats 4000000 in
set_option maxRecDepth 100000 in
theorem c_X10_full (l : Launch) (D : va_G) (dA : Nat → ClassId) (sz : Nat) (t : Nat → Nat) (g0 : Nat) (g1 : Nat) (g2 : Nat) (g3 : Nat) (g4 : Nat) (g5 : Nat) (g6 : Nat) (g7 : Nat) (g8 : Nat) (tp : TopT) (x0 : Int32) (rv : Int32) (u0 : TopT) (hf : f_X10_full tp x0 = some (rv, u0)) : kb_Mi l yX10_full cX10_full 2 (some .int) ({ frames := 1, cells := 0, slots := 0, locals := 21 } : Room) D dA [.ref (t 0), .int x0] sz (w_Top dA t g0 g1 g2 g3 g4 g5 g6 g7 g8 tp) 0 0 rv (w_Top dA t g0 g1 g2 g3 g4 g5 g6 g7 g8 u0) := by
  refine Met.ofW (cc := cX10_full) (maxL := 2) (ret := (some .int)) (by decide) rfl ?_
  intro p e s m args below meth c s₁ B hml hv
  obtain ⟨rfl, hsz, hP, hK, hD0, hE⟩ := hv
  have hx := B.exec
  have hb := B.bytes
  have hr := B.returns
  have hown : s.vm.findClass RX10 = some m.cls := findClass_of_methodNamed B.named
  have hlocks := B.notSynchronized
  have hts : ∀ w ∈ kb_gw, w.before ([.ref (t 0), .int x0] : List Value).toArray s = true := fun w hw => hK.2.1 w hw _
  subst hsz
  have hD := hD0.self (sz := s.heap.size)
  generalize hAe : va_A (w_Top dA t g0 g1 g2 g3 g4 g5 g6 g7 g8 tp) s.heap.size = A at hD hE ⊢
  have hA : ∀ q : Nat, s.heap.size ≤ q → A q := fun q h => by rw [← hAe]; exact Or.inr h
  have hS : va_S A s.heap s.heap [] := va_S.rf
  have hl := lv_entry ([.ref (t 0), .int x0]) (n := 2) (Nat.le_of_ble_eq_true rfl)
  rw [lg_entry_eq]
  generalize (lg_sl ([.ref (t 0), .int x0]) ++ List.replicate (2 - (lg_sl ([.ref (t 0), .int x0])).length) Slot.unset).toArray = ls at hl ⊢
  have hl : lv_has ls 2 [(0, .ref (t 0)), (1, .int x0)] := hl
  generalize hQ : MQ below (va_Qi (fun r (_ : Unit) => r = rv) (kb_B D A (w_Top dA t g0 g1 g2 g3 g4 g5 g6 g7 g8 u0)) A) ([.ref (t 0), .int x0] : List Value).toArray s 0 0 A = Q
  show W p l e ({ frames := 1, cells := 0, slots := 0, locals := 21 } : Room) s m ([.ref (t 0), .int x0] : List Value).toArray below meth c s.heap [] 0 0 Q (F0 m 0 ls [])
  have RET : ∀ (r2 : Int32) (w0 : TopT) (H : Heap) (locs : List Loc) (ls : Array Slot) (pc : Nat), some (r2, w0) = some (rv, u0) → va_P D vwCl (w_Top dA t g0 g1 g2 g3 g4 g5 g6 g7 g8 w0) H → va_D A (w_Top dA t g0 g1 g2 g3 g4 g5 g6 g7 g8 w0) → va_S A s.heap H locs → decode cX10_full pc = .ok (.ireturn, 1) → W p l e ({ frames := 1, cells := 0, slots := 0, locals := 21 } : Room) s m ([.ref (t 0), .int x0] : List Value).toArray below meth c H locs 0 0 Q (F0 m pc ls [.int r2]) := by
    intro r2 w0 H locs ls pc hq hP hD hS hd
    cases hq
    rw [← hQ]
    exact W.iret hx hb hr (fun t ht hW => ⟨⟨_, (), rfl, rfl, by rw [ht]; exact hP, hD⟩, hS.F ht⟩) hS.2.2 hd
  have E0 : ∀ (H : Heap) (locs : List Loc), va_P D vwCl (w_Top dA t g0 g1 g2 g3 g4 g5 g6 g7 g8 tp) H → va_D A (w_Top dA t g0 g1 g2 g3 g4 g5 g6 g7 g8 tp) → va_S A s.heap H locs → W p l e ({ frames := 1, cells := 0, slots := 0, locals := 21 } : Room) s m ([.ref (t 0), .int x0] : List Value).toArray below meth c H locs 0 0 Q (F0 m 0 ls []) := by
    intro H locs hP hD hS
    rw [f_X10_full] at hf
    refine lv_iload_n hx hb dX10_full_0 rfl (lv_at hl 1 rfl) ?_
    obtain ⟨r1, hc1, hf⟩ := kb_bind hf
    refine kb_ci (ws2 := (w_Top dA t g0 g1 g2 g3 g4 g5 g6 g7 g8 tp)) (kb_rS (n := 1) (As := [.int x0]) (rest := []) hx hb hml hown hK (c_X10_isPlaces l D dA H.size x0 r1 hc1) ⟨ww_5_54, ww_5_52, ww_5_53, ww_1_1, by decide, by decide⟩ rfl rfl (by decide +kernel) ⟨Nat.le_of_ble_eq_true rfl, Nat.le_of_ble_eq_true rfl⟩ hP hD hS hA hE [] rfl (by decide) rfl hl.1 rfl (Nat.le_of_ble_eq_true rfl) dX10_full_1 ⟨Nat.le_of_ble_eq_true rfl, Nat.le_of_ble_eq_true rfl⟩) hP hD hS hA [] [0] [0] rfl rfl (by decide) (by decide) rfl (by decide) (fun H locs hP hD hS => ?_)
    refine lv_if_ne (tgt := 13) hx hb dX10_full_4 (by decide) (fun c_2 => ?_) (fun c_2 => ?_)
    · rw [if_neg c_2] at hf
      refine lv_aload_n hx hb dX10_full_13 rfl (lv_at hl 0 rfl) ?_
      refine lv_iload_n hx hb dX10_full_14 rfl (lv_at hl 1 rfl) ?_
      refine lv_iconst (v := (1 : Int32)) hx hb dX10_full_15 (by decide) ?_
      refine lv_iadd hx hb dX10_full_16 ?_
      refine lv_iconst (v := (2 : Int32)) hx hb dX10_full_17 (by decide) ?_
      refine lv_idiv hx hb dX10_full_18 (by decide) ?_
      obtain ⟨r3, hc3, hf⟩ := kb_bind hf
      refine kb_ci (ws2 := (w_Top dA t g0 g1 g2 g3 g4 g5 g6 g7 g8 r3.2)) (kb_rV (n := 1) (As := [.int ((x0 + (1 : Int32)) / (2 : Int32))]) (rest := []) hx hb hml hown hK (c_X10_answered l D dA H.size t g0 g1 g2 g3 g4 g5 g6 g7 g8 tp ((x0 + (1 : Int32)) / (2 : Int32)) r3.1 r3.2 hc3) ⟨ww_3_184, ww_3_181, ww_3_183, ws_22, ww_1_1, rfl, by decide, by decide⟩ rfl rfl (by decide +kernel) ⟨Nat.le_of_ble_eq_true rfl, Nat.le_of_ble_eq_true rfl⟩ hP hD hS hA hE [0] rfl (by decide) 0 rfl rfl rfl hl.1 rfl (Nat.le_of_ble_eq_true rfl) dX10_full_19 ⟨Nat.le_of_ble_eq_true rfl, Nat.le_of_ble_eq_true rfl⟩) hP hD hS hA [0] [] [0] rfl rfl (by decide) (by decide) rfl (by decide) (fun H locs hP hD hS => ?_)
      exact RET _ _ H _ ls 22 hf hP hD hS dX10_full_22
    · rw [if_pos c_2] at hf
      refine lv_aload_n hx hb dX10_full_7 rfl (lv_at hl 0 rfl) ?_
      refine lv_iconst (v := (2 : Int32)) hx hb dX10_full_8 (by decide) ?_
      obtain ⟨r4, hc4, hf⟩ := kb_bind hf
      refine kb_ci (ws2 := (w_Top dA t g0 g1 g2 g3 g4 g5 g6 g7 g8 r4.2)) (kb_rV (n := 1) (As := [.int (2 : Int32)]) (rest := []) hx hb hml hown hK (c_X10_refused l D dA H.size t g0 g1 g2 g3 g4 g5 g6 g7 g8 tp (2 : Int32) r4.1 r4.2 hc4) ⟨ww_2_204, ww_2_201, ww_2_203, ws_0, ww_1_1, rfl, by decide, by decide⟩ rfl rfl (by decide +kernel) ⟨Nat.le_of_ble_eq_true rfl, Nat.le_of_ble_eq_true rfl⟩ hP hD hS hA hE [0] rfl (by decide) 0 rfl rfl rfl hl.1 rfl (Nat.le_of_ble_eq_true rfl) dX10_full_9 ⟨Nat.le_of_ble_eq_true rfl, Nat.le_of_ble_eq_true rfl⟩) hP hD hS hA [0] [] [0] rfl rfl (by decide) (by decide) rfl (by decide) (fun H locs hP hD hS => ?_)
      exact RET _ _ H _ ls 12 hf hP hD hS dX10_full_12
  exact E0 _ _ hP hD hS

noncomputable def f_X10_fewest (tp : TopT) (x0 : Int32) : Option (Int32 × TopT) := (f_X10_isPlaces x0).bind fun r1 => (if r1 = 0 then (f_X10_refused tp (2 : Int32)).bind fun r4 => some (r4.1, r4.2) else (f_X10_answered tp ((x0 + (2 : Int32)) / (3 : Int32))).bind fun r3 => some (r3.1, r3.2))
set_option maxHeartbeats 4000000 in
set_option maxRecDepth 100000 in
theorem c_X10_fewest (l : Launch) (D : va_G) (dA : Nat → ClassId) (sz : Nat) (t : Nat → Nat) (g0 : Nat) (g1 : Nat) (g2 : Nat) (g3 : Nat) (g4 : Nat) (g5 : Nat) (g6 : Nat) (g7 : Nat) (g8 : Nat) (tp : TopT) (x0 : Int32) (rv : Int32) (u0 : TopT) (hf : f_X10_fewest tp x0 = some (rv, u0)) : kb_Mi l yX10_fewest cX10_fewest 2 (some .int) ({ frames := 1, cells := 0, slots := 0, locals := 21 } : Room) D dA [.ref (t 0), .int x0] sz (w_Top dA t g0 g1 g2 g3 g4 g5 g6 g7 g8 tp) 0 0 rv (w_Top dA t g0 g1 g2 g3 g4 g5 g6 g7 g8 u0) := by
  refine Met.ofW (cc := cX10_fewest) (maxL := 2) (ret := (some .int)) (by decide) rfl ?_
  intro p e s m args below meth c s₁ B hml hv
  obtain ⟨rfl, hsz, hP, hK, hD0, hE⟩ := hv
  have hx := B.exec
  have hb := B.bytes
  have hr := B.returns
  have hown : s.vm.findClass RX10 = some m.cls := findClass_of_methodNamed B.named
  have hlocks := B.notSynchronized
  have hts : ∀ w ∈ kb_gw, w.before ([.ref (t 0), .int x0] : List Value).toArray s = true := fun w hw => hK.2.1 w hw _
  subst hsz
  have hD := hD0.self (sz := s.heap.size)
  generalize hAe : va_A (w_Top dA t g0 g1 g2 g3 g4 g5 g6 g7 g8 tp) s.heap.size = A at hD hE ⊢
  have hA : ∀ q : Nat, s.heap.size ≤ q → A q := fun q h => by rw [← hAe]; exact Or.inr h
  have hS : va_S A s.heap s.heap [] := va_S.rf
  have hl := lv_entry ([.ref (t 0), .int x0]) (n := 2) (Nat.le_of_ble_eq_true rfl)
  rw [lg_entry_eq]
  generalize (lg_sl ([.ref (t 0), .int x0]) ++ List.replicate (2 - (lg_sl ([.ref (t 0), .int x0])).length) Slot.unset).toArray = ls at hl ⊢
  have hl : lv_has ls 2 [(0, .ref (t 0)), (1, .int x0)] := hl
  generalize hQ : MQ below (va_Qi (fun r (_ : Unit) => r = rv) (kb_B D A (w_Top dA t g0 g1 g2 g3 g4 g5 g6 g7 g8 u0)) A) ([.ref (t 0), .int x0] : List Value).toArray s 0 0 A = Q
  show W p l e ({ frames := 1, cells := 0, slots := 0, locals := 21 } : Room) s m ([.ref (t 0), .int x0] : List Value).toArray below meth c s.heap [] 0 0 Q (F0 m 0 ls [])
  have RET : ∀ (r2 : Int32) (w0 : TopT) (H : Heap) (locs : List Loc) (ls : Array Slot) (pc : Nat), some (r2, w0) = some (rv, u0) → va_P D vwCl (w_Top dA t g0 g1 g2 g3 g4 g5 g6 g7 g8 w0) H → va_D A (w_Top dA t g0 g1 g2 g3 g4 g5 g6 g7 g8 w0) → va_S A s.heap H locs → decode cX10_fewest pc = .ok (.ireturn, 1) → W p l e ({ frames := 1, cells := 0, slots := 0, locals := 21 } : Room) s m ([.ref (t 0), .int x0] : List Value).toArray below meth c H locs 0 0 Q (F0 m pc ls [.int r2]) := by
    intro r2 w0 H locs ls pc hq hP hD hS hd
    cases hq
    rw [← hQ]
    exact W.iret hx hb hr (fun t ht hW => ⟨⟨_, (), rfl, rfl, by rw [ht]; exact hP, hD⟩, hS.F ht⟩) hS.2.2 hd
  have E0 : ∀ (H : Heap) (locs : List Loc), va_P D vwCl (w_Top dA t g0 g1 g2 g3 g4 g5 g6 g7 g8 tp) H → va_D A (w_Top dA t g0 g1 g2 g3 g4 g5 g6 g7 g8 tp) → va_S A s.heap H locs → W p l e ({ frames := 1, cells := 0, slots := 0, locals := 21 } : Room) s m ([.ref (t 0), .int x0] : List Value).toArray below meth c H locs 0 0 Q (F0 m 0 ls []) := by
    intro H locs hP hD hS
    rw [f_X10_fewest] at hf
    refine lv_iload_n hx hb dX10_fewest_0 rfl (lv_at hl 1 rfl) ?_
    obtain ⟨r1, hc1, hf⟩ := kb_bind hf
    refine kb_ci (ws2 := (w_Top dA t g0 g1 g2 g3 g4 g5 g6 g7 g8 tp)) (kb_rS (n := 1) (As := [.int x0]) (rest := []) hx hb hml hown hK (c_X10_isPlaces l D dA H.size x0 r1 hc1) ⟨ww_5_54, ww_5_52, ww_5_53, ww_1_1, by decide, by decide⟩ rfl rfl (by decide +kernel) ⟨Nat.le_of_ble_eq_true rfl, Nat.le_of_ble_eq_true rfl⟩ hP hD hS hA hE [] rfl (by decide) rfl hl.1 rfl (Nat.le_of_ble_eq_true rfl) dX10_fewest_1 ⟨Nat.le_of_ble_eq_true rfl, Nat.le_of_ble_eq_true rfl⟩) hP hD hS hA [] [0] [0] rfl rfl (by decide) (by decide) rfl (by decide) (fun H locs hP hD hS => ?_)
    refine lv_if_ne (tgt := 13) hx hb dX10_fewest_4 (by decide) (fun c_2 => ?_) (fun c_2 => ?_)
    · rw [if_neg c_2] at hf
      refine lv_aload_n hx hb dX10_fewest_13 rfl (lv_at hl 0 rfl) ?_
      refine lv_iload_n hx hb dX10_fewest_14 rfl (lv_at hl 1 rfl) ?_
      refine lv_iconst (v := (2 : Int32)) hx hb dX10_fewest_15 (by decide) ?_
      refine lv_iadd hx hb dX10_fewest_16 ?_
      refine lv_iconst (v := (3 : Int32)) hx hb dX10_fewest_17 (by decide) ?_
      refine lv_idiv hx hb dX10_fewest_18 (by decide) ?_
      obtain ⟨r3, hc3, hf⟩ := kb_bind hf
      refine kb_ci (ws2 := (w_Top dA t g0 g1 g2 g3 g4 g5 g6 g7 g8 r3.2)) (kb_rV (n := 1) (As := [.int ((x0 + (2 : Int32)) / (3 : Int32))]) (rest := []) hx hb hml hown hK (c_X10_answered l D dA H.size t g0 g1 g2 g3 g4 g5 g6 g7 g8 tp ((x0 + (2 : Int32)) / (3 : Int32)) r3.1 r3.2 hc3) ⟨ww_3_184, ww_3_181, ww_3_183, ws_22, ww_1_1, rfl, by decide, by decide⟩ rfl rfl (by decide +kernel) ⟨Nat.le_of_ble_eq_true rfl, Nat.le_of_ble_eq_true rfl⟩ hP hD hS hA hE [0] rfl (by decide) 0 rfl rfl rfl hl.1 rfl (Nat.le_of_ble_eq_true rfl) dX10_fewest_19 ⟨Nat.le_of_ble_eq_true rfl, Nat.le_of_ble_eq_true rfl⟩) hP hD hS hA [0] [] [0] rfl rfl (by decide) (by decide) rfl (by decide) (fun H locs hP hD hS => ?_)
      exact RET _ _ H _ ls 22 hf hP hD hS dX10_fewest_22
    · rw [if_pos c_2] at hf
      refine lv_aload_n hx hb dX10_fewest_7 rfl (lv_at hl 0 rfl) ?_
      refine lv_iconst (v := (2 : Int32)) hx hb dX10_fewest_8 (by decide) ?_
      obtain ⟨r4, hc4, hf⟩ := kb_bind hf
      refine kb_ci (ws2 := (w_Top dA t g0 g1 g2 g3 g4 g5 g6 g7 g8 r4.2)) (kb_rV (n := 1) (As := [.int (2 : Int32)]) (rest := []) hx hb hml hown hK (c_X10_refused l D dA H.size t g0 g1 g2 g3 g4 g5 g6 g7 g8 tp (2 : Int32) r4.1 r4.2 hc4) ⟨ww_2_204, ww_2_201, ww_2_203, ws_0, ww_1_1, rfl, by decide, by decide⟩ rfl rfl (by decide +kernel) ⟨Nat.le_of_ble_eq_true rfl, Nat.le_of_ble_eq_true rfl⟩ hP hD hS hA hE [0] rfl (by decide) 0 rfl rfl rfl hl.1 rfl (Nat.le_of_ble_eq_true rfl) dX10_fewest_9 ⟨Nat.le_of_ble_eq_true rfl, Nat.le_of_ble_eq_true rfl⟩) hP hD hS hA [0] [] [0] rfl rfl (by decide) (by decide) rfl (by decide) (fun H locs hP hD hS => ?_)
      exact RET _ _ H _ ls 12 hf hP hD hS dX10_fewest_12
  exact E0 _ _ hP hD hS

noncomputable def f_X10_layout_b23 (pl : PlanT) (z0 : TopT) : Option (Int32 × TopT) := (f_X10_refused z0 (1 : Int32)).bind fun r2 => some (r2.1, r2.2)
noncomputable def f_X10_layout (tp : TopT) (pl : PlanT) (x0 : Int32) (x1 : Int32) : Option (Int32 × TopT) := (if (tp_hasBus tp) = 0 then f_X10_layout_b23 pl tp else (f_X10_isForm x0).bind fun r3 => (if r3 = 0 then f_X10_layout_b23 pl tp else (if x1 < 0 then f_X10_layout_b23 pl tp else (if x1 < (4 : Int32) then (f_X0_total (pl_cab pl) x0 x1).bind fun r7 => (f_X10_answered tp r7).bind fun r8 => some (r8.1, r8.2) else f_X10_layout_b23 pl tp))))
set_option maxHeartbeats 4000000 in
set_option maxRecDepth 100000 in
theorem c_X10_layout (l : Launch) (D : va_G) (dA : Nat → ClassId) (sz : Nat) (t : Nat → Nat) (pa : Nat → Nat) (g0 : Nat) (g2 : Nat) (g3 : Nat) (g4 : Nat) (g5 : Nat) (g6 : Nat) (g7 : Nat) (g8 : Nat) (tp : TopT) (pl : PlanT) (x0 : Int32) (x1 : Int32) (rv : Int32) (u0 : TopT) (hf : f_X10_layout tp pl x0 x1 = some (rv, u0)) : kb_Mi l yX10_layout cX10_layout 3 (some .int) ({ frames := 4, cells := 0, slots := 0, locals := 89 } : Room) D dA [.ref (t 0), .int x0, .int x1] sz (w_Top dA t g0 (pa 0) g2 g3 g4 g5 g6 g7 g8 tp ++ (w_Plan dA pa pl)) 0 0 rv (w_Top dA t g0 (pa 0) g2 g3 g4 g5 g6 g7 g8 u0 ++ (w_Plan dA pa pl)) := by
  refine Met.ofW (cc := cX10_layout) (maxL := 3) (ret := (some .int)) (by decide) rfl ?_
  intro p e s m args below meth c s₁ B hml hv
  obtain ⟨rfl, hsz, hP, hK, hD0, hE⟩ := hv
  have hx := B.exec
  have hb := B.bytes
  have hr := B.returns
  have hown : s.vm.findClass RX10 = some m.cls := findClass_of_methodNamed B.named
  have hlocks := B.notSynchronized
  have hts : ∀ w ∈ kb_gw, w.before ([.ref (t 0), .int x0, .int x1] : List Value).toArray s = true := fun w hw => hK.2.1 w hw _
  subst hsz
  have hD := hD0.self (sz := s.heap.size)
  generalize hAe : va_A (w_Top dA t g0 (pa 0) g2 g3 g4 g5 g6 g7 g8 tp ++ (w_Plan dA pa pl)) s.heap.size = A at hD hE ⊢
  have hA : ∀ q : Nat, s.heap.size ≤ q → A q := fun q h => by rw [← hAe]; exact Or.inr h
  have hS : va_S A s.heap s.heap [] := va_S.rf
  have hl := lv_entry ([.ref (t 0), .int x0, .int x1]) (n := 3) (Nat.le_of_ble_eq_true rfl)
  rw [lg_entry_eq]
  generalize (lg_sl ([.ref (t 0), .int x0, .int x1]) ++ List.replicate (3 - (lg_sl ([.ref (t 0), .int x0, .int x1])).length) Slot.unset).toArray = ls at hl ⊢
  have hl : lv_has ls 3 [(0, .ref (t 0)), (1, .int x0), (2, .int x1)] := hl
  generalize hQ : MQ below (va_Qi (fun r (_ : Unit) => r = rv) (kb_B D A (w_Top dA t g0 (pa 0) g2 g3 g4 g5 g6 g7 g8 u0 ++ (w_Plan dA pa pl))) A) ([.ref (t 0), .int x0, .int x1] : List Value).toArray s 0 0 A = Q
  show W p l e ({ frames := 4, cells := 0, slots := 0, locals := 89 } : Room) s m ([.ref (t 0), .int x0, .int x1] : List Value).toArray below meth c s.heap [] 0 0 Q (F0 m 0 ls [])
  have RET : ∀ (r2 : Int32) (w0 : TopT) (H : Heap) (locs : List Loc) (ls : Array Slot) (pc : Nat), some (r2, w0) = some (rv, u0) → va_P D vwCl (w_Top dA t g0 (pa 0) g2 g3 g4 g5 g6 g7 g8 w0 ++ (w_Plan dA pa pl)) H → va_D A (w_Top dA t g0 (pa 0) g2 g3 g4 g5 g6 g7 g8 w0 ++ (w_Plan dA pa pl)) → va_S A s.heap H locs → decode cX10_layout pc = .ok (.ireturn, 1) → W p l e ({ frames := 4, cells := 0, slots := 0, locals := 89 } : Room) s m ([.ref (t 0), .int x0, .int x1] : List Value).toArray below meth c H locs 0 0 Q (F0 m pc ls [.int r2]) := by
    intro r2 w0 H locs ls pc hq hP hD hS hd
    cases hq
    rw [← hQ]
    exact W.iret hx hb hr (fun t ht hW => ⟨⟨_, (), rfl, rfl, by rw [ht]; exact hP, hD⟩, hS.F ht⟩) hS.2.2 hd
  have B_23 : ∀ (z0 : TopT) (H : Heap) (locs : List Loc) (ls : Array Slot), f_X10_layout_b23 pl z0 = some (rv, u0) → va_P D vwCl (w_Top dA t g0 (pa 0) g2 g3 g4 g5 g6 g7 g8 z0 ++ (w_Plan dA pa pl)) H → va_D A (w_Top dA t g0 (pa 0) g2 g3 g4 g5 g6 g7 g8 z0 ++ (w_Plan dA pa pl)) → va_S A s.heap H locs → lv_has ls 3 [(0, .ref (t 0))] → W p l e ({ frames := 4, cells := 0, slots := 0, locals := 89 } : Room) s m ([.ref (t 0), .int x0, .int x1] : List Value).toArray below meth c H locs 0 0 Q (F0 m 23 ls []) := by
    intro z0 H locs ls hf hP hD hS hl
    rw [f_X10_layout_b23] at hf
    refine lv_aload_n hx hb dX10_layout_23 rfl (lv_at hl 0 rfl) ?_
    refine lv_iconst (v := (1 : Int32)) hx hb dX10_layout_24 (by decide) ?_
    obtain ⟨r2, hc2, hf⟩ := kb_bind hf
    refine kb_ci (ws2 := (w_Top dA t g0 (pa 0) g2 g3 g4 g5 g6 g7 g8 r2.2 ++ (w_Plan dA pa pl))) (kb_rV (n := 1) (As := [.int (1 : Int32)]) (rest := []) hx hb hml hown hK (c_X10_refused l D dA H.size t g0 (pa 0) g2 g3 g4 g5 g6 g7 g8 z0 (1 : Int32) r2.1 r2.2 hc2) ⟨ww_2_204, ww_2_201, ww_2_203, ws_0, ww_1_1, rfl, by decide, by decide⟩ rfl rfl (by decide +kernel) ⟨Nat.le_of_ble_eq_true rfl, Nat.le_of_ble_eq_true rfl⟩ hP hD hS hA hE [0] rfl (by decide) 0 rfl rfl rfl hl.1 rfl (Nat.le_of_ble_eq_true rfl) dX10_layout_25 ⟨Nat.le_of_ble_eq_true rfl, Nat.le_of_ble_eq_true rfl⟩) hP hD hS hA [0] [1, 2, 3, 4, 5, 6, 7, 8, 9, 10, 11, 12, 13, 14, 15, 16, 17, 18, 19, 20, 21] [21, 0, 1, 2, 3, 4, 5, 6, 7, 8, 9, 10, 11, 12, 13, 14, 15, 16, 17, 18, 19, 20] rfl rfl (by decide) (by decide) rfl (by decide) (fun H locs hP hD hS => ?_)
    exact RET _ _ H _ ls 28 hf hP hD hS dX10_layout_28
  have E0 : ∀ (H : Heap) (locs : List Loc), va_P D vwCl (w_Top dA t g0 (pa 0) g2 g3 g4 g5 g6 g7 g8 tp ++ (w_Plan dA pa pl)) H → va_D A (w_Top dA t g0 (pa 0) g2 g3 g4 g5 g6 g7 g8 tp ++ (w_Plan dA pa pl)) → va_S A s.heap H locs → W p l e ({ frames := 4, cells := 0, slots := 0, locals := 89 } : Room) s m ([.ref (t 0), .int x0, .int x1] : List Value).toArray below meth c H locs 0 0 Q (F0 m 0 ls []) := by
    intro H locs hP hD hS
    rw [f_X10_layout] at hf
    refine lv_aload_n hx hb dX10_layout_0 rfl (lv_at hl 0 rfl) ?_
    refine va_get (D := D) (ci := 10) (v := .int (tp_hasBus tp)) (C := RX10) (T := TX10) (N := 12) hx hb hts kb_inX10 hown hK.1 hP 0 rfl rfl 3 (by decide) (hK.2.w ww_2_155 rfl _) (fun _ h9 => h9) rfl dX10_layout_1 ?_
    refine lv_if_eq (tgt := 23) hx hb dX10_layout_4 (by decide) (fun c_1 => ?_) (fun c_1 => ?_)
    · rw [if_pos c_1] at hf
      exact B_23 _ _ _ _ hf hP hD hS (lv_sub hl [0] rfl)
    · rw [if_neg c_1] at hf
      refine lv_iload_n hx hb dX10_layout_7 rfl (lv_at hl 1 rfl) ?_
      obtain ⟨r3, hc3, hf⟩ := kb_bind hf
      refine kb_ci (ws2 := (w_Top dA t g0 (pa 0) g2 g3 g4 g5 g6 g7 g8 tp ++ (w_Plan dA pa pl))) (kb_rS (n := 1) (As := [.int x0]) (rest := []) hx hb hml hown hK (c_X10_isForm l D dA H.size x0 r3 hc3) ⟨ww_5_72, ww_5_70, ww_5_71, ww_1_1, by decide, by decide⟩ rfl rfl (by decide +kernel) ⟨Nat.le_of_ble_eq_true rfl, Nat.le_of_ble_eq_true rfl⟩ hP hD hS hA hE [] rfl (by decide) rfl hl.1 rfl (Nat.le_of_ble_eq_true rfl) dX10_layout_8 ⟨Nat.le_of_ble_eq_true rfl, Nat.le_of_ble_eq_true rfl⟩) hP hD hS hA [] [0, 1, 2, 3, 4, 5, 6, 7, 8, 9, 10, 11, 12, 13, 14, 15, 16, 17, 18, 19, 20, 21] [0, 1, 2, 3, 4, 5, 6, 7, 8, 9, 10, 11, 12, 13, 14, 15, 16, 17, 18, 19, 20, 21] rfl rfl (by decide) (by decide) rfl (by decide) (fun H locs hP hD hS => ?_)
      refine lv_if_eq (tgt := 23) hx hb dX10_layout_11 (by decide) (fun c_4 => ?_) (fun c_4 => ?_)
      · rw [if_pos c_4] at hf
        exact B_23 _ _ _ _ hf hP hD hS (lv_sub hl [0] rfl)
      · rw [if_neg c_4] at hf
        refine lv_iload_n hx hb dX10_layout_14 rfl (lv_at hl 2 rfl) ?_
        refine lv_if_lt (tgt := 23) hx hb dX10_layout_15 (by decide) (fun c_5 => ?_) (fun c_5 => ?_)
        · rw [if_pos c_5] at hf
          exact B_23 _ _ _ _ hf hP hD hS (lv_sub hl [0] rfl)
        · rw [if_neg c_5] at hf
          refine lv_iload_n hx hb dX10_layout_18 rfl (lv_at hl 2 rfl) ?_
          refine lv_iconst (v := (4 : Int32)) hx hb dX10_layout_19 (by decide) ?_
          refine lv_icmp_lt (tgt := 29) hx hb dX10_layout_20 (by decide) (fun c_6 => ?_) (fun c_6 => ?_)
          · rw [if_pos c_6] at hf
            refine lv_aload_n hx hb dX10_layout_29 rfl (lv_at hl 0 rfl) ?_
            refine lv_aload_n hx hb dX10_layout_30 rfl (lv_at hl 0 rfl) ?_
            refine va_get (D := D) (ci := 10) (v := .ref (pa 0)) (C := RX10) (T := TX10) (N := 12) hx hb hts kb_inX10 hown hK.1 hP 0 rfl rfl 1 (by decide) (hK.2.w ww_2_153 rfl _) (fun _ h9 => h9) rfl dX10_layout_31 ?_
            refine va_get (D := D) (ci := 5) (v := .ref (pa 1)) (C := RX5) (T := TX5) (N := 8) hx hb hts kb_inX5 hown hK.1 hP 1 rfl rfl 0 (by decide) (hK.2.w ww_1_215 rfl _) (fun _ h9 => h9) rfl dX10_layout_34 ?_
            refine lv_iload_n hx hb dX10_layout_37 rfl (lv_at hl 1 rfl) ?_
            refine lv_iload_n hx hb dX10_layout_38 rfl (lv_at hl 2 rfl) ?_
            obtain ⟨r7, hc7, hf⟩ := kb_bind hf
            refine kb_ci (ws2 := (w_Top dA t g0 (pa 0) g2 g3 g4 g5 g6 g7 g8 tp ++ (w_Plan dA pa pl))) (kb_rV (n := 2) (As := [.int x0, .int x1]) (rest := [.ref (t 0)]) hx hb hml hown hK (c_X0_total l D dA H.size (fun k => pa (1 + k)) (pl_cab pl) x0 x1 r7 hc7) ⟨ww_5_76, ww_5_73, ww_5_74, ww_5_75, ww_1_4, rfl, by decide, by decide⟩ rfl rfl (by decide +kernel) ⟨Nat.le_of_ble_eq_true rfl, Nat.le_of_ble_eq_true rfl⟩ hP hD hS hA hE [2, 3] rfl (by decide) 0 rfl rfl rfl hl.1 rfl (Nat.le_of_ble_eq_true rfl) dX10_layout_39 ⟨Nat.le_of_ble_eq_true rfl, Nat.le_of_ble_eq_true rfl⟩) hP hD hS hA [2, 3] [0, 1, 4, 5, 6, 7, 8, 9, 10, 11, 12, 13, 14, 15, 16, 17, 18, 19, 20, 21] [0, 1, 20, 21, 2, 3, 4, 5, 6, 7, 8, 9, 10, 11, 12, 13, 14, 15, 16, 17, 18, 19] rfl rfl (by decide) (by decide) rfl (by decide) (fun H locs hP hD hS => ?_)
            obtain ⟨r8, hc8, hf⟩ := kb_bind hf
            refine kb_ci (ws2 := (w_Top dA t g0 (pa 0) g2 g3 g4 g5 g6 g7 g8 r8.2 ++ (w_Plan dA pa pl))) (kb_rV (n := 1) (As := [.int r7]) (rest := []) hx hb hml hown hK (c_X10_answered l D dA H.size t g0 (pa 0) g2 g3 g4 g5 g6 g7 g8 tp r7 r8.1 r8.2 hc8) ⟨ww_3_184, ww_3_181, ww_3_183, ws_22, ww_1_1, rfl, by decide, by decide⟩ rfl rfl (by decide +kernel) ⟨Nat.le_of_ble_eq_true rfl, Nat.le_of_ble_eq_true rfl⟩ hP hD hS hA hE [0] rfl (by decide) 0 rfl rfl rfl hl.1 rfl (Nat.le_of_ble_eq_true rfl) dX10_layout_42 ⟨Nat.le_of_ble_eq_true rfl, Nat.le_of_ble_eq_true rfl⟩) hP hD hS hA [0] [1, 2, 3, 4, 5, 6, 7, 8, 9, 10, 11, 12, 13, 14, 15, 16, 17, 18, 19, 20, 21] [21, 0, 1, 2, 3, 4, 5, 6, 7, 8, 9, 10, 11, 12, 13, 14, 15, 16, 17, 18, 19, 20] rfl rfl (by decide) (by decide) rfl (by decide) (fun H locs hP hD hS => ?_)
            exact RET _ _ H _ ls 45 hf hP hD hS dX10_layout_45
          · rw [if_neg c_6] at hf
            exact B_23 _ _ _ _ hf hP hD hS (lv_sub hl [0] rfl)
  exact E0 _ _ hP hD hS

noncomputable def f_X10_beats_b26 (pl : PlanT) (z0 : TopT) : Option (Int32 × TopT) := (f_X10_refused z0 (1 : Int32)).bind fun r2 => some (r2.1, r2.2)
noncomputable def f_X10_beats_b53 (pl : PlanT) (s0 : Int32) (z0 : TopT) : Option (Int32 × TopT) := (f_X10_answered z0 s0).bind fun r10 => some (r10.1, r10.2)
noncomputable def f_X10_beats (tp : TopT) (pl : PlanT) (x0 : Int32) (x1 : Int32) : Option (Int32 × TopT) := (if (tp_hasBus tp) = 0 then f_X10_beats_b26 pl tp else (f_X10_isForm x0).bind fun r3 => (if r3 = 0 then f_X10_beats_b26 pl tp else (f_X10_isForm x1).bind fun r5 => (if r5 = 0 then f_X10_beats_b26 pl tp else (if x0 = x1 then f_X10_beats_b26 pl tp else (f_X0_isBetter (pl_cab pl) x0 x1).bind fun r8 => (if r8 = 0 then f_X10_beats_b53 pl (0 : Int32) tp else f_X10_beats_b53 pl (1 : Int32) tp)))))
set_option maxHeartbeats 4000000 in
set_option maxRecDepth 100000 in
theorem c_X10_beats (l : Launch) (D : va_G) (dA : Nat → ClassId) (sz : Nat) (t : Nat → Nat) (pa : Nat → Nat) (g0 : Nat) (g2 : Nat) (g3 : Nat) (g4 : Nat) (g5 : Nat) (g6 : Nat) (g7 : Nat) (g8 : Nat) (tp : TopT) (pl : PlanT) (x0 : Int32) (x1 : Int32) (rv : Int32) (u0 : TopT) (hf : f_X10_beats tp pl x0 x1 = some (rv, u0)) : kb_Mi l yX10_beats cX10_beats 3 (some .int) ({ frames := 5, cells := 0, slots := 0, locals := 114 } : Room) D dA [.ref (t 0), .int x0, .int x1] sz (w_Top dA t g0 (pa 0) g2 g3 g4 g5 g6 g7 g8 tp ++ (w_Plan dA pa pl)) 0 0 rv (w_Top dA t g0 (pa 0) g2 g3 g4 g5 g6 g7 g8 u0 ++ (w_Plan dA pa pl)) := by
  refine Met.ofW (cc := cX10_beats) (maxL := 3) (ret := (some .int)) (by decide) rfl ?_
  intro p e s m args below meth c s₁ B hml hv
  obtain ⟨rfl, hsz, hP, hK, hD0, hE⟩ := hv
  have hx := B.exec
  have hb := B.bytes
  have hr := B.returns
  have hown : s.vm.findClass RX10 = some m.cls := findClass_of_methodNamed B.named
  have hlocks := B.notSynchronized
  have hts : ∀ w ∈ kb_gw, w.before ([.ref (t 0), .int x0, .int x1] : List Value).toArray s = true := fun w hw => hK.2.1 w hw _
  subst hsz
  have hD := hD0.self (sz := s.heap.size)
  generalize hAe : va_A (w_Top dA t g0 (pa 0) g2 g3 g4 g5 g6 g7 g8 tp ++ (w_Plan dA pa pl)) s.heap.size = A at hD hE ⊢
  have hA : ∀ q : Nat, s.heap.size ≤ q → A q := fun q h => by rw [← hAe]; exact Or.inr h
  have hS : va_S A s.heap s.heap [] := va_S.rf
  have hl := lv_entry ([.ref (t 0), .int x0, .int x1]) (n := 3) (Nat.le_of_ble_eq_true rfl)
  rw [lg_entry_eq]
  generalize (lg_sl ([.ref (t 0), .int x0, .int x1]) ++ List.replicate (3 - (lg_sl ([.ref (t 0), .int x0, .int x1])).length) Slot.unset).toArray = ls at hl ⊢
  have hl : lv_has ls 3 [(0, .ref (t 0)), (1, .int x0), (2, .int x1)] := hl
  generalize hQ : MQ below (va_Qi (fun r (_ : Unit) => r = rv) (kb_B D A (w_Top dA t g0 (pa 0) g2 g3 g4 g5 g6 g7 g8 u0 ++ (w_Plan dA pa pl))) A) ([.ref (t 0), .int x0, .int x1] : List Value).toArray s 0 0 A = Q
  show W p l e ({ frames := 5, cells := 0, slots := 0, locals := 114 } : Room) s m ([.ref (t 0), .int x0, .int x1] : List Value).toArray below meth c s.heap [] 0 0 Q (F0 m 0 ls [])
  have RET : ∀ (r2 : Int32) (w0 : TopT) (H : Heap) (locs : List Loc) (ls : Array Slot) (pc : Nat), some (r2, w0) = some (rv, u0) → va_P D vwCl (w_Top dA t g0 (pa 0) g2 g3 g4 g5 g6 g7 g8 w0 ++ (w_Plan dA pa pl)) H → va_D A (w_Top dA t g0 (pa 0) g2 g3 g4 g5 g6 g7 g8 w0 ++ (w_Plan dA pa pl)) → va_S A s.heap H locs → decode cX10_beats pc = .ok (.ireturn, 1) → W p l e ({ frames := 5, cells := 0, slots := 0, locals := 114 } : Room) s m ([.ref (t 0), .int x0, .int x1] : List Value).toArray below meth c H locs 0 0 Q (F0 m pc ls [.int r2]) := by
    intro r2 w0 H locs ls pc hq hP hD hS hd
    cases hq
    rw [← hQ]
    exact W.iret hx hb hr (fun t ht hW => ⟨⟨_, (), rfl, rfl, by rw [ht]; exact hP, hD⟩, hS.F ht⟩) hS.2.2 hd
  have B_26 : ∀ (z0 : TopT) (H : Heap) (locs : List Loc) (ls : Array Slot), f_X10_beats_b26 pl z0 = some (rv, u0) → va_P D vwCl (w_Top dA t g0 (pa 0) g2 g3 g4 g5 g6 g7 g8 z0 ++ (w_Plan dA pa pl)) H → va_D A (w_Top dA t g0 (pa 0) g2 g3 g4 g5 g6 g7 g8 z0 ++ (w_Plan dA pa pl)) → va_S A s.heap H locs → lv_has ls 3 [(0, .ref (t 0))] → W p l e ({ frames := 5, cells := 0, slots := 0, locals := 114 } : Room) s m ([.ref (t 0), .int x0, .int x1] : List Value).toArray below meth c H locs 0 0 Q (F0 m 26 ls []) := by
    intro z0 H locs ls hf hP hD hS hl
    rw [f_X10_beats_b26] at hf
    refine lv_aload_n hx hb dX10_beats_26 rfl (lv_at hl 0 rfl) ?_
    refine lv_iconst (v := (1 : Int32)) hx hb dX10_beats_27 (by decide) ?_
    obtain ⟨r2, hc2, hf⟩ := kb_bind hf
    refine kb_ci (ws2 := (w_Top dA t g0 (pa 0) g2 g3 g4 g5 g6 g7 g8 r2.2 ++ (w_Plan dA pa pl))) (kb_rV (n := 1) (As := [.int (1 : Int32)]) (rest := []) hx hb hml hown hK (c_X10_refused l D dA H.size t g0 (pa 0) g2 g3 g4 g5 g6 g7 g8 z0 (1 : Int32) r2.1 r2.2 hc2) ⟨ww_2_204, ww_2_201, ww_2_203, ws_0, ww_1_1, rfl, by decide, by decide⟩ rfl rfl (by decide +kernel) ⟨Nat.le_of_ble_eq_true rfl, Nat.le_of_ble_eq_true rfl⟩ hP hD hS hA hE [0] rfl (by decide) 0 rfl rfl rfl hl.1 rfl (Nat.le_of_ble_eq_true rfl) dX10_beats_28 ⟨Nat.le_of_ble_eq_true rfl, Nat.le_of_ble_eq_true rfl⟩) hP hD hS hA [0] [1, 2, 3, 4, 5, 6, 7, 8, 9, 10, 11, 12, 13, 14, 15, 16, 17, 18, 19, 20, 21] [21, 0, 1, 2, 3, 4, 5, 6, 7, 8, 9, 10, 11, 12, 13, 14, 15, 16, 17, 18, 19, 20] rfl rfl (by decide) (by decide) rfl (by decide) (fun H locs hP hD hS => ?_)
    exact RET _ _ H _ ls 31 hf hP hD hS dX10_beats_31
  have B_53 : ∀ (s0 : Int32) (z0 : TopT) (H : Heap) (locs : List Loc) (ls : Array Slot), f_X10_beats_b53 pl s0 z0 = some (rv, u0) → va_P D vwCl (w_Top dA t g0 (pa 0) g2 g3 g4 g5 g6 g7 g8 z0 ++ (w_Plan dA pa pl)) H → va_D A (w_Top dA t g0 (pa 0) g2 g3 g4 g5 g6 g7 g8 z0 ++ (w_Plan dA pa pl)) → va_S A s.heap H locs → lv_has ls 3 [] → W p l e ({ frames := 5, cells := 0, slots := 0, locals := 114 } : Room) s m ([.ref (t 0), .int x0, .int x1] : List Value).toArray below meth c H locs 0 0 Q (F0 m 53 ls [.int s0, .ref (t 0)]) := by
    intro s0 z0 H locs ls hf hP hD hS hl
    rw [f_X10_beats_b53] at hf
    obtain ⟨r10, hc10, hf⟩ := kb_bind hf
    refine kb_ci (ws2 := (w_Top dA t g0 (pa 0) g2 g3 g4 g5 g6 g7 g8 r10.2 ++ (w_Plan dA pa pl))) (kb_rV (n := 1) (As := [.int s0]) (rest := []) hx hb hml hown hK (c_X10_answered l D dA H.size t g0 (pa 0) g2 g3 g4 g5 g6 g7 g8 z0 s0 r10.1 r10.2 hc10) ⟨ww_3_184, ww_3_181, ww_3_183, ws_22, ww_1_1, rfl, by decide, by decide⟩ rfl rfl (by decide +kernel) ⟨Nat.le_of_ble_eq_true rfl, Nat.le_of_ble_eq_true rfl⟩ hP hD hS hA hE [0] rfl (by decide) 0 rfl rfl rfl hl.1 rfl (Nat.le_of_ble_eq_true rfl) dX10_beats_53 ⟨Nat.le_of_ble_eq_true rfl, Nat.le_of_ble_eq_true rfl⟩) hP hD hS hA [0] [1, 2, 3, 4, 5, 6, 7, 8, 9, 10, 11, 12, 13, 14, 15, 16, 17, 18, 19, 20, 21] [21, 0, 1, 2, 3, 4, 5, 6, 7, 8, 9, 10, 11, 12, 13, 14, 15, 16, 17, 18, 19, 20] rfl rfl (by decide) (by decide) rfl (by decide) (fun H locs hP hD hS => ?_)
    exact RET _ _ H _ ls 56 hf hP hD hS dX10_beats_56
  have E0 : ∀ (H : Heap) (locs : List Loc), va_P D vwCl (w_Top dA t g0 (pa 0) g2 g3 g4 g5 g6 g7 g8 tp ++ (w_Plan dA pa pl)) H → va_D A (w_Top dA t g0 (pa 0) g2 g3 g4 g5 g6 g7 g8 tp ++ (w_Plan dA pa pl)) → va_S A s.heap H locs → W p l e ({ frames := 5, cells := 0, slots := 0, locals := 114 } : Room) s m ([.ref (t 0), .int x0, .int x1] : List Value).toArray below meth c H locs 0 0 Q (F0 m 0 ls []) := by
    intro H locs hP hD hS
    rw [f_X10_beats] at hf
    refine lv_aload_n hx hb dX10_beats_0 rfl (lv_at hl 0 rfl) ?_
    refine va_get (D := D) (ci := 10) (v := .int (tp_hasBus tp)) (C := RX10) (T := TX10) (N := 12) hx hb hts kb_inX10 hown hK.1 hP 0 rfl rfl 3 (by decide) (hK.2.w ww_2_155 rfl _) (fun _ h9 => h9) rfl dX10_beats_1 ?_
    refine lv_if_eq (tgt := 26) hx hb dX10_beats_4 (by decide) (fun c_1 => ?_) (fun c_1 => ?_)
    · rw [if_pos c_1] at hf
      exact B_26 _ _ _ _ hf hP hD hS (lv_sub hl [0] rfl)
    · rw [if_neg c_1] at hf
      refine lv_iload_n hx hb dX10_beats_7 rfl (lv_at hl 1 rfl) ?_
      obtain ⟨r3, hc3, hf⟩ := kb_bind hf
      refine kb_ci (ws2 := (w_Top dA t g0 (pa 0) g2 g3 g4 g5 g6 g7 g8 tp ++ (w_Plan dA pa pl))) (kb_rS (n := 1) (As := [.int x0]) (rest := []) hx hb hml hown hK (c_X10_isForm l D dA H.size x0 r3 hc3) ⟨ww_5_72, ww_5_70, ww_5_71, ww_1_1, by decide, by decide⟩ rfl rfl (by decide +kernel) ⟨Nat.le_of_ble_eq_true rfl, Nat.le_of_ble_eq_true rfl⟩ hP hD hS hA hE [] rfl (by decide) rfl hl.1 rfl (Nat.le_of_ble_eq_true rfl) dX10_beats_8 ⟨Nat.le_of_ble_eq_true rfl, Nat.le_of_ble_eq_true rfl⟩) hP hD hS hA [] [0, 1, 2, 3, 4, 5, 6, 7, 8, 9, 10, 11, 12, 13, 14, 15, 16, 17, 18, 19, 20, 21] [0, 1, 2, 3, 4, 5, 6, 7, 8, 9, 10, 11, 12, 13, 14, 15, 16, 17, 18, 19, 20, 21] rfl rfl (by decide) (by decide) rfl (by decide) (fun H locs hP hD hS => ?_)
      refine lv_if_eq (tgt := 26) hx hb dX10_beats_11 (by decide) (fun c_4 => ?_) (fun c_4 => ?_)
      · rw [if_pos c_4] at hf
        exact B_26 _ _ _ _ hf hP hD hS (lv_sub hl [0] rfl)
      · rw [if_neg c_4] at hf
        refine lv_iload_n hx hb dX10_beats_14 rfl (lv_at hl 2 rfl) ?_
        obtain ⟨r5, hc5, hf⟩ := kb_bind hf
        refine kb_ci (ws2 := (w_Top dA t g0 (pa 0) g2 g3 g4 g5 g6 g7 g8 tp ++ (w_Plan dA pa pl))) (kb_rS (n := 1) (As := [.int x1]) (rest := []) hx hb hml hown hK (c_X10_isForm l D dA H.size x1 r5 hc5) ⟨ww_5_72, ww_5_70, ww_5_71, ww_1_1, by decide, by decide⟩ rfl rfl (by decide +kernel) ⟨Nat.le_of_ble_eq_true rfl, Nat.le_of_ble_eq_true rfl⟩ hP hD hS hA hE [] rfl (by decide) rfl hl.1 rfl (Nat.le_of_ble_eq_true rfl) dX10_beats_15 ⟨Nat.le_of_ble_eq_true rfl, Nat.le_of_ble_eq_true rfl⟩) hP hD hS hA [] [0, 1, 2, 3, 4, 5, 6, 7, 8, 9, 10, 11, 12, 13, 14, 15, 16, 17, 18, 19, 20, 21] [0, 1, 2, 3, 4, 5, 6, 7, 8, 9, 10, 11, 12, 13, 14, 15, 16, 17, 18, 19, 20, 21] rfl rfl (by decide) (by decide) rfl (by decide) (fun H locs hP hD hS => ?_)
        refine lv_if_eq (tgt := 26) hx hb dX10_beats_18 (by decide) (fun c_6 => ?_) (fun c_6 => ?_)
        · rw [if_pos c_6] at hf
          exact B_26 _ _ _ _ hf hP hD hS (lv_sub hl [0] rfl)
        · rw [if_neg c_6] at hf
          refine lv_iload_n hx hb dX10_beats_21 rfl (lv_at hl 1 rfl) ?_
          refine lv_iload_n hx hb dX10_beats_22 rfl (lv_at hl 2 rfl) ?_
          refine lv_icmp_ne (tgt := 32) hx hb dX10_beats_23 (by decide) (fun c_7 => ?_) (fun c_7 => ?_)
          · rw [if_neg c_7] at hf
            refine lv_aload_n hx hb dX10_beats_32 rfl (lv_at hl 0 rfl) ?_
            refine lv_aload_n hx hb dX10_beats_33 rfl (lv_at hl 0 rfl) ?_
            refine va_get (D := D) (ci := 10) (v := .ref (pa 0)) (C := RX10) (T := TX10) (N := 12) hx hb hts kb_inX10 hown hK.1 hP 0 rfl rfl 1 (by decide) (hK.2.w ww_2_153 rfl _) (fun _ h9 => h9) rfl dX10_beats_34 ?_
            refine va_get (D := D) (ci := 5) (v := .ref (pa 1)) (C := RX5) (T := TX5) (N := 8) hx hb hts kb_inX5 hown hK.1 hP 1 rfl rfl 0 (by decide) (hK.2.w ww_1_215 rfl _) (fun _ h9 => h9) rfl dX10_beats_37 ?_
            refine lv_iload_n hx hb dX10_beats_40 rfl (lv_at hl 1 rfl) ?_
            refine lv_iload_n hx hb dX10_beats_41 rfl (lv_at hl 2 rfl) ?_
            obtain ⟨r8, hc8, hf⟩ := kb_bind hf
            refine kb_ci (ws2 := (w_Top dA t g0 (pa 0) g2 g3 g4 g5 g6 g7 g8 tp ++ (w_Plan dA pa pl))) (kb_rV (n := 2) (As := [.int x0, .int x1]) (rest := [.ref (t 0)]) hx hb hml hown hK (c_X0_isBetter l D dA H.size (fun k => pa (1 + k)) (pl_cab pl) x0 x1 r8 hc8) ⟨ww_5_89, ww_5_86, ww_5_87, ww_5_88, ww_1_4, rfl, by decide, by decide⟩ rfl rfl (by decide +kernel) ⟨Nat.le_of_ble_eq_true rfl, Nat.le_of_ble_eq_true rfl⟩ hP hD hS hA hE [2, 3] rfl (by decide) 0 rfl rfl rfl hl.1 rfl (Nat.le_of_ble_eq_true rfl) dX10_beats_42 ⟨Nat.le_of_ble_eq_true rfl, Nat.le_of_ble_eq_true rfl⟩) hP hD hS hA [2, 3] [0, 1, 4, 5, 6, 7, 8, 9, 10, 11, 12, 13, 14, 15, 16, 17, 18, 19, 20, 21] [0, 1, 20, 21, 2, 3, 4, 5, 6, 7, 8, 9, 10, 11, 12, 13, 14, 15, 16, 17, 18, 19] rfl rfl (by decide) (by decide) rfl (by decide) (fun H locs hP hD hS => ?_)
            refine lv_if_eq (tgt := 52) hx hb dX10_beats_45 (by decide) (fun c_9 => ?_) (fun c_9 => ?_)
            · rw [if_pos c_9] at hf
              refine lv_iconst (v := (0 : Int32)) hx hb dX10_beats_52 (by decide) ?_
              exact B_53 _ _ _ _ _ hf hP hD hS (lv_sub hl [] rfl)
            · rw [if_neg c_9] at hf
              refine lv_iconst (v := (1 : Int32)) hx hb dX10_beats_48 (by decide) ?_
              refine lv_goto (tgt := 53) hx hb dX10_beats_49 (by decide) ?_
              exact B_53 _ _ _ _ _ hf hP hD hS (lv_sub hl [] rfl)
          · rw [if_pos c_7] at hf
            exact B_26 _ _ _ _ hf hP hD hS (lv_sub hl [0] rfl)
  exact E0 _ _ hP hD hS

noncomputable def f_X10_unbeaten_b53 (pl : PlanT) (k17 : Int32 → Int32 → TopT → Option (Int32 × TopT)) (k27 : Int32 → Int32 → Int32 → Int32 → TopT → Option (Int32 × TopT)) (v1 : Int32) (v2 : Int32) (v4 : Int32) (z0 : TopT) : Option (Int32 × TopT) := k27 v1 v2 (1 : Int32) (v4 + (1 : Int32)) z0
noncomputable def f_X10_unbeaten_b27 (pl : PlanT) (k17 : Int32 → Int32 → TopT → Option (Int32 × TopT)) : Nat → Int32 → Int32 → Int32 → Int32 → TopT → Option (Int32 × TopT)
  | 0, _, _, _, _, _ => none
  | n + 1, v1, v2, v3, v4, z0 => (if (3 : Int32) ≤ v4 then (if v3 = 0 then k17 (v1 ||| ((1 : Int32) <<< (v2 &&& 31))) (v2 + (1 : Int32)) z0 else k17 v1 (v2 + (1 : Int32)) z0) else (if v3 = 0 then (f_X0_isBetter (pl_cab pl) v4 v2).bind fun r7 => (if r7 = 0 then f_X10_unbeaten_b27 pl k17 n v1 v2 (0 : Int32) (v4 + (1 : Int32)) z0 else f_X10_unbeaten_b53 pl k17 (f_X10_unbeaten_b27 pl k17 n) v1 v2 v4 z0) else f_X10_unbeaten_b53 pl k17 (f_X10_unbeaten_b27 pl k17 n) v1 v2 v4 z0))
noncomputable def f_X10_unbeaten_b17 (pl : PlanT) : Nat → Int32 → Int32 → TopT → Option (Int32 × TopT)
  | 0, _, _, _ => none
  | n + 1, v1, v2, z0 => (if (3 : Int32) ≤ v2 then (f_X10_answered z0 v1).bind fun r3 => some (r3.1, r3.2) else f_X10_unbeaten_b27 pl (f_X10_unbeaten_b17 pl n) 4096 v1 v2 (0 : Int32) (0 : Int32) z0)
noncomputable def f_X10_unbeaten (tp : TopT) (pl : PlanT) : Option (Int32 × TopT) := (if (tp_hasBus tp) = 0 then (f_X10_refused tp (1 : Int32)).bind fun r9 => some (r9.1, r9.2) else f_X10_unbeaten_b17 pl 4096 (0 : Int32) (0 : Int32) tp)
set_option maxHeartbeats 4000000 in
set_option maxRecDepth 100000 in
theorem c_X10_unbeaten (l : Launch) (D : va_G) (dA : Nat → ClassId) (sz : Nat) (t : Nat → Nat) (pa : Nat → Nat) (g0 : Nat) (g2 : Nat) (g3 : Nat) (g4 : Nat) (g5 : Nat) (g6 : Nat) (g7 : Nat) (g8 : Nat) (tp : TopT) (pl : PlanT) (rv : Int32) (u0 : TopT) (hf : f_X10_unbeaten tp pl = some (rv, u0)) : kb_Mi l yX10_unbeaten cX10_unbeaten 5 (some .int) ({ frames := 5, cells := 0, slots := 0, locals := 114 } : Room) D dA [.ref (t 0)] sz (w_Top dA t g0 (pa 0) g2 g3 g4 g5 g6 g7 g8 tp ++ (w_Plan dA pa pl)) 0 0 rv (w_Top dA t g0 (pa 0) g2 g3 g4 g5 g6 g7 g8 u0 ++ (w_Plan dA pa pl)) := by
  refine Met.ofW (cc := cX10_unbeaten) (maxL := 5) (ret := (some .int)) (by decide) rfl ?_
  intro p e s m args below meth c s₁ B hml hv
  obtain ⟨rfl, hsz, hP, hK, hD0, hE⟩ := hv
  have hx := B.exec
  have hb := B.bytes
  have hr := B.returns
  have hown : s.vm.findClass RX10 = some m.cls := findClass_of_methodNamed B.named
  have hlocks := B.notSynchronized
  have hts : ∀ w ∈ kb_gw, w.before ([.ref (t 0)] : List Value).toArray s = true := fun w hw => hK.2.1 w hw _
  subst hsz
  have hD := hD0.self (sz := s.heap.size)
  generalize hAe : va_A (w_Top dA t g0 (pa 0) g2 g3 g4 g5 g6 g7 g8 tp ++ (w_Plan dA pa pl)) s.heap.size = A at hD hE ⊢
  have hA : ∀ q : Nat, s.heap.size ≤ q → A q := fun q h => by rw [← hAe]; exact Or.inr h
  have hS : va_S A s.heap s.heap [] := va_S.rf
  have hl := lv_entry ([.ref (t 0)]) (n := 5) (Nat.le_of_ble_eq_true rfl)
  rw [lg_entry_eq]
  generalize (lg_sl ([.ref (t 0)]) ++ List.replicate (5 - (lg_sl ([.ref (t 0)])).length) Slot.unset).toArray = ls at hl ⊢
  have hl : lv_has ls 5 [(0, .ref (t 0))] := hl
  generalize hQ : MQ below (va_Qi (fun r (_ : Unit) => r = rv) (kb_B D A (w_Top dA t g0 (pa 0) g2 g3 g4 g5 g6 g7 g8 u0 ++ (w_Plan dA pa pl))) A) ([.ref (t 0)] : List Value).toArray s 0 0 A = Q
  show W p l e ({ frames := 5, cells := 0, slots := 0, locals := 114 } : Room) s m ([.ref (t 0)] : List Value).toArray below meth c s.heap [] 0 0 Q (F0 m 0 ls [])
  have RET : ∀ (r2 : Int32) (w0 : TopT) (H : Heap) (locs : List Loc) (ls : Array Slot) (pc : Nat), some (r2, w0) = some (rv, u0) → va_P D vwCl (w_Top dA t g0 (pa 0) g2 g3 g4 g5 g6 g7 g8 w0 ++ (w_Plan dA pa pl)) H → va_D A (w_Top dA t g0 (pa 0) g2 g3 g4 g5 g6 g7 g8 w0 ++ (w_Plan dA pa pl)) → va_S A s.heap H locs → decode cX10_unbeaten pc = .ok (.ireturn, 1) → W p l e ({ frames := 5, cells := 0, slots := 0, locals := 114 } : Room) s m ([.ref (t 0)] : List Value).toArray below meth c H locs 0 0 Q (F0 m pc ls [.int r2]) := by
    intro r2 w0 H locs ls pc hq hP hD hS hd
    cases hq
    rw [← hQ]
    exact W.iret hx hb hr (fun t ht hW => ⟨⟨_, (), rfl, rfl, by rw [ht]; exact hP, hD⟩, hS.F ht⟩) hS.2.2 hd
  have B_53 : ∀ (k17 : Int32 → Int32 → TopT → Option (Int32 × TopT)) (hk17 : ∀ (v1 : Int32) (v2 : Int32) (z0 : TopT) (H : Heap) (locs : List Loc) (ls : Array Slot), k17 v1 v2 z0 = some (rv, u0) → va_P D vwCl (w_Top dA t g0 (pa 0) g2 g3 g4 g5 g6 g7 g8 z0 ++ (w_Plan dA pa pl)) H → va_D A (w_Top dA t g0 (pa 0) g2 g3 g4 g5 g6 g7 g8 z0 ++ (w_Plan dA pa pl)) → va_S A s.heap H locs → lv_has ls 5 [(0, .ref (t 0)), (1, .int v1), (2, .int v2)] → W p l e ({ frames := 5, cells := 0, slots := 0, locals := 114 } : Room) s m ([.ref (t 0)] : List Value).toArray below meth c H locs 0 0 Q (F0 m 17 ls [])) (k27 : Int32 → Int32 → Int32 → Int32 → TopT → Option (Int32 × TopT)) (hk27 : ∀ (v1 : Int32) (v2 : Int32) (v3 : Int32) (v4 : Int32) (z0 : TopT) (H : Heap) (locs : List Loc) (ls : Array Slot), k27 v1 v2 v3 v4 z0 = some (rv, u0) → va_P D vwCl (w_Top dA t g0 (pa 0) g2 g3 g4 g5 g6 g7 g8 z0 ++ (w_Plan dA pa pl)) H → va_D A (w_Top dA t g0 (pa 0) g2 g3 g4 g5 g6 g7 g8 z0 ++ (w_Plan dA pa pl)) → va_S A s.heap H locs → lv_has ls 5 [(0, .ref (t 0)), (1, .int v1), (2, .int v2), (3, .int v3), (4, .int v4)] → W p l e ({ frames := 5, cells := 0, slots := 0, locals := 114 } : Room) s m ([.ref (t 0)] : List Value).toArray below meth c H locs 0 0 Q (F0 m 27 ls [])) (v1 : Int32) (v2 : Int32) (v4 : Int32) (z0 : TopT) (H : Heap) (locs : List Loc) (ls : Array Slot), f_X10_unbeaten_b53 pl k17 k27 v1 v2 v4 z0 = some (rv, u0) → va_P D vwCl (w_Top dA t g0 (pa 0) g2 g3 g4 g5 g6 g7 g8 z0 ++ (w_Plan dA pa pl)) H → va_D A (w_Top dA t g0 (pa 0) g2 g3 g4 g5 g6 g7 g8 z0 ++ (w_Plan dA pa pl)) → va_S A s.heap H locs → lv_has ls 5 [(0, .ref (t 0)), (1, .int v1), (2, .int v2), (4, .int v4)] → W p l e ({ frames := 5, cells := 0, slots := 0, locals := 114 } : Room) s m ([.ref (t 0)] : List Value).toArray below meth c H locs 0 0 Q (F0 m 53 ls []) := by
    intro k17 hk17 k27 hk27 v1 v2 v4 z0 H locs ls hf hP hD hS hl
    rw [f_X10_unbeaten_b53] at hf
    refine lv_iconst (v := (1 : Int32)) hx hb dX10_unbeaten_53 (by decide) ?_
    refine lv_goto (tgt := 58) hx hb dX10_unbeaten_54 (by decide) ?_
    refine lv_istore_n (lv' := [(3, .int (1 : Int32)), (0, .ref (t 0)), (1, .int v1), (2, .int v2), (4, .int v4)]) hx hb dX10_unbeaten_58 rfl hl (by decide) rfl (fun ls hl => ?_)
    refine lv_iinc (v := (v4 + (1 : Int32))) (lv' := [(4, .int (v4 + (1 : Int32))), (3, .int (1 : Int32)), (0, .ref (t 0)), (1, .int v1), (2, .int v2)]) hx hb dX10_unbeaten_59 hl (k := 4) rfl (by rfl) (by decide) rfl (fun ls hl => ?_)
    refine lv_goto (tgt := 27) hx hb dX10_unbeaten_62 (by decide) ?_
    exact hk27 _ _ _ _ _ _ _ _ hf hP hD hS (lv_sub hl [2, 3, 4, 1, 0] rfl)
  have B_27 : ∀ (k17 : Int32 → Int32 → TopT → Option (Int32 × TopT)) (hk17 : ∀ (v1 : Int32) (v2 : Int32) (z0 : TopT) (H : Heap) (locs : List Loc) (ls : Array Slot), k17 v1 v2 z0 = some (rv, u0) → va_P D vwCl (w_Top dA t g0 (pa 0) g2 g3 g4 g5 g6 g7 g8 z0 ++ (w_Plan dA pa pl)) H → va_D A (w_Top dA t g0 (pa 0) g2 g3 g4 g5 g6 g7 g8 z0 ++ (w_Plan dA pa pl)) → va_S A s.heap H locs → lv_has ls 5 [(0, .ref (t 0)), (1, .int v1), (2, .int v2)] → W p l e ({ frames := 5, cells := 0, slots := 0, locals := 114 } : Room) s m ([.ref (t 0)] : List Value).toArray below meth c H locs 0 0 Q (F0 m 17 ls [])) (n : Nat) (v1 : Int32) (v2 : Int32) (v3 : Int32) (v4 : Int32) (z0 : TopT) (H : Heap) (locs : List Loc) (ls : Array Slot), f_X10_unbeaten_b27 pl k17 n v1 v2 v3 v4 z0 = some (rv, u0) → va_P D vwCl (w_Top dA t g0 (pa 0) g2 g3 g4 g5 g6 g7 g8 z0 ++ (w_Plan dA pa pl)) H → va_D A (w_Top dA t g0 (pa 0) g2 g3 g4 g5 g6 g7 g8 z0 ++ (w_Plan dA pa pl)) → va_S A s.heap H locs → lv_has ls 5 [(0, .ref (t 0)), (1, .int v1), (2, .int v2), (3, .int v3), (4, .int v4)] → W p l e ({ frames := 5, cells := 0, slots := 0, locals := 114 } : Room) s m ([.ref (t 0)] : List Value).toArray below meth c H locs 0 0 Q (F0 m 27 ls []) := by
    intro k17 hk17 n
    induction n with
    | zero =>
      intro v1 v2 v3 v4 z0 H locs ls hf
      exact absurd hf (by simp [f_X10_unbeaten_b27])
    | succ n ih =>
      intro v1 v2 v3 v4 z0 H locs ls hf hP hD hS hl
      rw [f_X10_unbeaten_b27] at hf
      refine lv_iload hx hb dX10_unbeaten_27 (lv_at hl 4 rfl) ?_
      refine lv_iconst (v := (3 : Int32)) hx hb dX10_unbeaten_29 (by decide) ?_
      refine lv_icmp_ge (tgt := 65) hx hb dX10_unbeaten_30 (by decide) (fun c_4 => ?_) (fun c_4 => ?_)
      · rw [if_pos c_4] at hf
        refine lv_iload_n hx hb dX10_unbeaten_65 rfl (lv_at hl 3 rfl) ?_
        refine lv_if_ne (tgt := 75) hx hb dX10_unbeaten_66 (by decide) (fun c_5 => ?_) (fun c_5 => ?_)
        · rw [if_neg c_5] at hf
          refine lv_iinc (v := (v2 + (1 : Int32))) (lv' := [(2, .int (v2 + (1 : Int32))), (0, .ref (t 0)), (1, .int v1), (3, .int v3), (4, .int v4)]) hx hb dX10_unbeaten_75 hl (k := 2) rfl (by rfl) (by decide) rfl (fun ls hl => ?_)
          refine lv_goto (tgt := 17) hx hb dX10_unbeaten_78 (by decide) ?_
          exact hk17 _ _ _ _ _ _ hf hP hD hS (lv_sub hl [1, 2, 0] rfl)
        · rw [if_pos c_5] at hf
          refine lv_iload_n hx hb dX10_unbeaten_69 rfl (lv_at hl 1 rfl) ?_
          refine lv_iconst (v := (1 : Int32)) hx hb dX10_unbeaten_70 (by decide) ?_
          refine lv_iload_n hx hb dX10_unbeaten_71 rfl (lv_at hl 2 rfl) ?_
          refine lv_ishl hx hb dX10_unbeaten_72 ?_
          refine lv_ior hx hb dX10_unbeaten_73 ?_
          refine lv_istore_n (lv' := [(1, .int (v1 ||| ((1 : Int32) <<< (v2 &&& 31)))), (0, .ref (t 0)), (2, .int v2), (3, .int v3), (4, .int v4)]) hx hb dX10_unbeaten_74 rfl hl (by decide) rfl (fun ls hl => ?_)
          refine lv_iinc (v := (v2 + (1 : Int32))) (lv' := [(2, .int (v2 + (1 : Int32))), (1, .int (v1 ||| ((1 : Int32) <<< (v2 &&& 31)))), (0, .ref (t 0)), (3, .int v3), (4, .int v4)]) hx hb dX10_unbeaten_75 hl (k := 2) rfl (by rfl) (by decide) rfl (fun ls hl => ?_)
          refine lv_goto (tgt := 17) hx hb dX10_unbeaten_78 (by decide) ?_
          exact hk17 _ _ _ _ _ _ hf hP hD hS (lv_sub hl [2, 1, 0] rfl)
      · rw [if_neg c_4] at hf
        refine lv_iload_n hx hb dX10_unbeaten_33 rfl (lv_at hl 3 rfl) ?_
        refine lv_if_ne (tgt := 53) hx hb dX10_unbeaten_34 (by decide) (fun c_6 => ?_) (fun c_6 => ?_)
        · rw [if_neg c_6] at hf
          exact B_53 k17 hk17 (f_X10_unbeaten_b27 pl k17 n) ih _ _ _ _ _ _ _ hf hP hD hS (lv_sub hl [0, 1, 2, 4] rfl)
        · rw [if_pos c_6] at hf
          refine lv_aload_n hx hb dX10_unbeaten_37 rfl (lv_at hl 0 rfl) ?_
          refine va_get (D := D) (ci := 10) (v := .ref (pa 0)) (C := RX10) (T := TX10) (N := 12) hx hb hts kb_inX10 hown hK.1 hP 0 rfl rfl 1 (by decide) (hK.2.w ww_2_153 rfl _) (fun _ h9 => h9) rfl dX10_unbeaten_38 ?_
          refine va_get (D := D) (ci := 5) (v := .ref (pa 1)) (C := RX5) (T := TX5) (N := 8) hx hb hts kb_inX5 hown hK.1 hP 1 rfl rfl 0 (by decide) (hK.2.w ww_1_215 rfl _) (fun _ h9 => h9) rfl dX10_unbeaten_41 ?_
          refine lv_iload hx hb dX10_unbeaten_44 (lv_at hl 4 rfl) ?_
          refine lv_iload_n hx hb dX10_unbeaten_46 rfl (lv_at hl 2 rfl) ?_
          obtain ⟨r7, hc7, hf⟩ := kb_bind hf
          refine kb_ci (ws2 := (w_Top dA t g0 (pa 0) g2 g3 g4 g5 g6 g7 g8 z0 ++ (w_Plan dA pa pl))) (kb_rV (n := 2) (As := [.int v4, .int v2]) (rest := []) hx hb hml hown hK (c_X0_isBetter l D dA H.size (fun k => pa (1 + k)) (pl_cab pl) v4 v2 r7 hc7) ⟨ww_5_89, ww_5_86, ww_5_87, ww_5_88, ww_1_4, rfl, by decide, by decide⟩ rfl rfl (by decide +kernel) ⟨Nat.le_of_ble_eq_true rfl, Nat.le_of_ble_eq_true rfl⟩ hP hD hS hA hE [2, 3] rfl (by decide) 0 rfl rfl rfl hl.1 rfl (Nat.le_of_ble_eq_true rfl) dX10_unbeaten_47 ⟨Nat.le_of_ble_eq_true rfl, Nat.le_of_ble_eq_true rfl⟩) hP hD hS hA [2, 3] [0, 1, 4, 5, 6, 7, 8, 9, 10, 11, 12, 13, 14, 15, 16, 17, 18, 19, 20, 21] [0, 1, 20, 21, 2, 3, 4, 5, 6, 7, 8, 9, 10, 11, 12, 13, 14, 15, 16, 17, 18, 19] rfl rfl (by decide) (by decide) rfl (by decide) (fun H locs hP hD hS => ?_)
          refine lv_if_eq (tgt := 57) hx hb dX10_unbeaten_50 (by decide) (fun c_8 => ?_) (fun c_8 => ?_)
          · rw [if_pos c_8] at hf
            refine lv_iconst (v := (0 : Int32)) hx hb dX10_unbeaten_57 (by decide) ?_
            refine lv_istore_n (lv' := [(3, .int (0 : Int32)), (0, .ref (t 0)), (1, .int v1), (2, .int v2), (4, .int v4)]) hx hb dX10_unbeaten_58 rfl hl (by decide) rfl (fun ls hl => ?_)
            refine lv_iinc (v := (v4 + (1 : Int32))) (lv' := [(4, .int (v4 + (1 : Int32))), (3, .int (0 : Int32)), (0, .ref (t 0)), (1, .int v1), (2, .int v2)]) hx hb dX10_unbeaten_59 hl (k := 4) rfl (by rfl) (by decide) rfl (fun ls hl => ?_)
            refine lv_goto (tgt := 27) hx hb dX10_unbeaten_62 (by decide) ?_
            exact ih _ _ _ _ _ _ _ _ hf hP hD hS (lv_sub hl [2, 3, 4, 1, 0] rfl)
          · rw [if_neg c_8] at hf
            exact B_53 k17 hk17 (f_X10_unbeaten_b27 pl k17 n) ih _ _ _ _ _ _ _ hf hP hD hS (lv_sub hl [0, 1, 2, 4] rfl)
  have B_17 : ∀ (n : Nat) (v1 : Int32) (v2 : Int32) (z0 : TopT) (H : Heap) (locs : List Loc) (ls : Array Slot), f_X10_unbeaten_b17 pl n v1 v2 z0 = some (rv, u0) → va_P D vwCl (w_Top dA t g0 (pa 0) g2 g3 g4 g5 g6 g7 g8 z0 ++ (w_Plan dA pa pl)) H → va_D A (w_Top dA t g0 (pa 0) g2 g3 g4 g5 g6 g7 g8 z0 ++ (w_Plan dA pa pl)) → va_S A s.heap H locs → lv_has ls 5 [(0, .ref (t 0)), (1, .int v1), (2, .int v2)] → W p l e ({ frames := 5, cells := 0, slots := 0, locals := 114 } : Room) s m ([.ref (t 0)] : List Value).toArray below meth c H locs 0 0 Q (F0 m 17 ls []) := by
    intro n
    induction n with
    | zero =>
      intro v1 v2 z0 H locs ls hf
      exact absurd hf (by simp [f_X10_unbeaten_b17])
    | succ n ih =>
      intro v1 v2 z0 H locs ls hf hP hD hS hl
      rw [f_X10_unbeaten_b17] at hf
      refine lv_iload_n hx hb dX10_unbeaten_17 rfl (lv_at hl 2 rfl) ?_
      refine lv_iconst (v := (3 : Int32)) hx hb dX10_unbeaten_18 (by decide) ?_
      refine lv_icmp_ge (tgt := 81) hx hb dX10_unbeaten_19 (by decide) (fun c_2 => ?_) (fun c_2 => ?_)
      · rw [if_pos c_2] at hf
        refine lv_aload_n hx hb dX10_unbeaten_81 rfl (lv_at hl 0 rfl) ?_
        refine lv_iload_n hx hb dX10_unbeaten_82 rfl (lv_at hl 1 rfl) ?_
        obtain ⟨r3, hc3, hf⟩ := kb_bind hf
        refine kb_ci (ws2 := (w_Top dA t g0 (pa 0) g2 g3 g4 g5 g6 g7 g8 r3.2 ++ (w_Plan dA pa pl))) (kb_rV (n := 1) (As := [.int v1]) (rest := []) hx hb hml hown hK (c_X10_answered l D dA H.size t g0 (pa 0) g2 g3 g4 g5 g6 g7 g8 z0 v1 r3.1 r3.2 hc3) ⟨ww_3_184, ww_3_181, ww_3_183, ws_22, ww_1_1, rfl, by decide, by decide⟩ rfl rfl (by decide +kernel) ⟨Nat.le_of_ble_eq_true rfl, Nat.le_of_ble_eq_true rfl⟩ hP hD hS hA hE [0] rfl (by decide) 0 rfl rfl rfl hl.1 rfl (Nat.le_of_ble_eq_true rfl) dX10_unbeaten_83 ⟨Nat.le_of_ble_eq_true rfl, Nat.le_of_ble_eq_true rfl⟩) hP hD hS hA [0] [1, 2, 3, 4, 5, 6, 7, 8, 9, 10, 11, 12, 13, 14, 15, 16, 17, 18, 19, 20, 21] [21, 0, 1, 2, 3, 4, 5, 6, 7, 8, 9, 10, 11, 12, 13, 14, 15, 16, 17, 18, 19, 20] rfl rfl (by decide) (by decide) rfl (by decide) (fun H locs hP hD hS => ?_)
        exact RET _ _ H _ ls 86 hf hP hD hS dX10_unbeaten_86
      · rw [if_neg c_2] at hf
        refine lv_iconst (v := (0 : Int32)) hx hb dX10_unbeaten_22 (by decide) ?_
        refine lv_istore_n (lv' := [(3, .int (0 : Int32)), (0, .ref (t 0)), (1, .int v1), (2, .int v2)]) hx hb dX10_unbeaten_23 rfl hl (by decide) rfl (fun ls hl => ?_)
        refine lv_iconst (v := (0 : Int32)) hx hb dX10_unbeaten_24 (by decide) ?_
        refine lv_istore (lv' := [(4, .int (0 : Int32)), (3, .int (0 : Int32)), (0, .ref (t 0)), (1, .int v1), (2, .int v2)]) hx hb dX10_unbeaten_25 hl (by decide) rfl (fun ls hl => ?_)
        exact B_27 (f_X10_unbeaten_b17 pl n) ih 4096 _ _ _ _ _ _ _ _ hf hP hD hS (lv_sub hl [2, 3, 4, 1, 0] rfl)
  have E0 : ∀ (H : Heap) (locs : List Loc), va_P D vwCl (w_Top dA t g0 (pa 0) g2 g3 g4 g5 g6 g7 g8 tp ++ (w_Plan dA pa pl)) H → va_D A (w_Top dA t g0 (pa 0) g2 g3 g4 g5 g6 g7 g8 tp ++ (w_Plan dA pa pl)) → va_S A s.heap H locs → W p l e ({ frames := 5, cells := 0, slots := 0, locals := 114 } : Room) s m ([.ref (t 0)] : List Value).toArray below meth c H locs 0 0 Q (F0 m 0 ls []) := by
    intro H locs hP hD hS
    rw [f_X10_unbeaten] at hf
    refine lv_aload_n hx hb dX10_unbeaten_0 rfl (lv_at hl 0 rfl) ?_
    refine va_get (D := D) (ci := 10) (v := .int (tp_hasBus tp)) (C := RX10) (T := TX10) (N := 12) hx hb hts kb_inX10 hown hK.1 hP 0 rfl rfl 3 (by decide) (hK.2.w ww_2_155 rfl _) (fun _ h9 => h9) rfl dX10_unbeaten_1 ?_
    refine lv_if_ne (tgt := 13) hx hb dX10_unbeaten_4 (by decide) (fun c_1 => ?_) (fun c_1 => ?_)
    · rw [if_neg c_1] at hf
      refine lv_iconst (v := (0 : Int32)) hx hb dX10_unbeaten_13 (by decide) ?_
      refine lv_istore_n (lv' := [(1, .int (0 : Int32)), (0, .ref (t 0))]) hx hb dX10_unbeaten_14 rfl hl (by decide) rfl (fun ls hl => ?_)
      refine lv_iconst (v := (0 : Int32)) hx hb dX10_unbeaten_15 (by decide) ?_
      refine lv_istore_n (lv' := [(2, .int (0 : Int32)), (1, .int (0 : Int32)), (0, .ref (t 0))]) hx hb dX10_unbeaten_16 rfl hl (by decide) rfl (fun ls hl => ?_)
      exact B_17 4096 _ _ _ _ _ _ hf hP hD hS (lv_sub hl [2, 1, 0] rfl)
    · rw [if_pos c_1] at hf
      refine lv_aload_n hx hb dX10_unbeaten_7 rfl (lv_at hl 0 rfl) ?_
      refine lv_iconst (v := (1 : Int32)) hx hb dX10_unbeaten_8 (by decide) ?_
      obtain ⟨r9, hc9, hf⟩ := kb_bind hf
      refine kb_ci (ws2 := (w_Top dA t g0 (pa 0) g2 g3 g4 g5 g6 g7 g8 r9.2 ++ (w_Plan dA pa pl))) (kb_rV (n := 1) (As := [.int (1 : Int32)]) (rest := []) hx hb hml hown hK (c_X10_refused l D dA H.size t g0 (pa 0) g2 g3 g4 g5 g6 g7 g8 tp (1 : Int32) r9.1 r9.2 hc9) ⟨ww_2_204, ww_2_201, ww_2_203, ws_0, ww_1_1, rfl, by decide, by decide⟩ rfl rfl (by decide +kernel) ⟨Nat.le_of_ble_eq_true rfl, Nat.le_of_ble_eq_true rfl⟩ hP hD hS hA hE [0] rfl (by decide) 0 rfl rfl rfl hl.1 rfl (Nat.le_of_ble_eq_true rfl) dX10_unbeaten_9 ⟨Nat.le_of_ble_eq_true rfl, Nat.le_of_ble_eq_true rfl⟩) hP hD hS hA [0] [1, 2, 3, 4, 5, 6, 7, 8, 9, 10, 11, 12, 13, 14, 15, 16, 17, 18, 19, 20, 21] [21, 0, 1, 2, 3, 4, 5, 6, 7, 8, 9, 10, 11, 12, 13, 14, 15, 16, 17, 18, 19, 20] rfl rfl (by decide) (by decide) rfl (by decide) (fun H locs hP hD hS => ?_)
      exact RET _ _ H _ ls 12 hf hP hD hS dX10_unbeaten_12
  exact E0 _ _ hP hD hS

noncomputable def f_X10_seat_b36 (pl : PlanT) (z0 : TopT) : Option (Int32 × TopT) := (f_X10_refused z0 (1 : Int32)).bind fun r2 => some (r2.1, r2.2)
noncomputable def f_X10_seat_b130 (pl : PlanT) (s0 : Int32) (z0 : TopT) : Option (Int32 × TopT) := (f_X10_answered z0 s0).bind fun r16 => some (r16.1, r16.2)
noncomputable def f_X10_seat_b96 (pl : PlanT) (s0 : Int32) (z0 : TopT) : Option (Int32 × TopT) := (f_X10_answered z0 s0).bind fun r19 => some (r19.1, r19.2)
noncomputable def f_X10_seat_b62 (pl : PlanT) (s0 : Int32) (z0 : TopT) : Option (Int32 × TopT) := (f_X10_answered z0 s0).bind fun r22 => some (r22.1, r22.2)
noncomputable def f_X10_seat (tp : TopT) (pl : PlanT) (x0 : Int32) (x1 : Int32) : Option (Int32 × TopT) := (if (tp_hasBus tp) = 0 then f_X10_seat_b36 pl tp else (if x0 < 0 then f_X10_seat_b36 pl tp else (if ((4 : Int32) * (cb_rows (pl_cab pl))) ≤ x0 then f_X10_seat_b36 pl tp else (if x1 < 0 then f_X10_seat_b36 pl tp else (if x1 ≤ (3 : Int32) then (f_X10_isSeat tp pl x0).bind fun r7 => (if x1 = 0 then (if r7 = 0 then f_X10_seat_b62 pl (0 : Int32) tp else f_X10_seat_b62 pl (1 : Int32) tp) else (if r7 = 0 then (f_X10_refused tp (1 : Int32)).bind fun r20 => some (r20.1, r20.2) else (if x1 = (1 : Int32) then (f_X0_isWindow (x0 - x0 / (4 : Int32) * (4 : Int32))).bind fun r17 => (if r17 = 0 then f_X10_seat_b96 pl (0 : Int32) tp else f_X10_seat_b96 pl (1 : Int32) tp) else (if x1 = (2 : Int32) then (f_X0_isAisle (cb_form (pl_cab pl)) (x0 - x0 / (4 : Int32) * (4 : Int32))).bind fun r14 => (if r14 = 0 then f_X10_seat_b130 pl (0 : Int32) tp else f_X10_seat_b130 pl (1 : Int32) tp) else if kb_in? x0 20 then (f_X10_answered tp ((cb_beside (pl_cab pl)) (x0).toNatClampNeg)).bind fun r13 => some (r13.1, r13.2) else none)))) else f_X10_seat_b36 pl tp)))))
set_option maxHeartbeats 4000000 in
set_option maxRecDepth 100000 in
theorem c_X10_seat (l : Launch) (D : va_G) (dA : Nat → ClassId) (sz : Nat) (t : Nat → Nat) (pa : Nat → Nat) (g0 : Nat) (g2 : Nat) (g3 : Nat) (g4 : Nat) (g5 : Nat) (g6 : Nat) (g7 : Nat) (g8 : Nat) (tp : TopT) (pl : PlanT) (x0 : Int32) (x1 : Int32) (rv : Int32) (u0 : TopT) (hf : f_X10_seat tp pl x0 x1 = some (rv, u0)) : kb_Mi l yX10_seat cX10_seat 4 (some .int) ({ frames := 2, cells := 0, slots := 0, locals := 42 } : Room) D dA [.ref (t 0), .int x0, .int x1] sz (w_Top dA t g0 (pa 0) g2 g3 g4 g5 g6 g7 g8 tp ++ (w_Plan dA pa pl)) 0 0 rv (w_Top dA t g0 (pa 0) g2 g3 g4 g5 g6 g7 g8 u0 ++ (w_Plan dA pa pl)) := by
  refine Met.ofW (cc := cX10_seat) (maxL := 4) (ret := (some .int)) (by decide) rfl ?_
  intro p e s m args below meth c s₁ B hml hv
  obtain ⟨rfl, hsz, hP, hK, hD0, hE⟩ := hv
  have hx := B.exec
  have hb := B.bytes
  have hr := B.returns
  have hown : s.vm.findClass RX10 = some m.cls := findClass_of_methodNamed B.named
  have hlocks := B.notSynchronized
  have hts : ∀ w ∈ kb_gw, w.before ([.ref (t 0), .int x0, .int x1] : List Value).toArray s = true := fun w hw => hK.2.1 w hw _
  subst hsz
  have hD := hD0.self (sz := s.heap.size)
  generalize hAe : va_A (w_Top dA t g0 (pa 0) g2 g3 g4 g5 g6 g7 g8 tp ++ (w_Plan dA pa pl)) s.heap.size = A at hD hE ⊢
  have hA : ∀ q : Nat, s.heap.size ≤ q → A q := fun q h => by rw [← hAe]; exact Or.inr h
  have hS : va_S A s.heap s.heap [] := va_S.rf
  have hl := lv_entry ([.ref (t 0), .int x0, .int x1]) (n := 4) (Nat.le_of_ble_eq_true rfl)
  rw [lg_entry_eq]
  generalize (lg_sl ([.ref (t 0), .int x0, .int x1]) ++ List.replicate (4 - (lg_sl ([.ref (t 0), .int x0, .int x1])).length) Slot.unset).toArray = ls at hl ⊢
  have hl : lv_has ls 4 [(0, .ref (t 0)), (1, .int x0), (2, .int x1)] := hl
  generalize hQ : MQ below (va_Qi (fun r (_ : Unit) => r = rv) (kb_B D A (w_Top dA t g0 (pa 0) g2 g3 g4 g5 g6 g7 g8 u0 ++ (w_Plan dA pa pl))) A) ([.ref (t 0), .int x0, .int x1] : List Value).toArray s 0 0 A = Q
  show W p l e ({ frames := 2, cells := 0, slots := 0, locals := 42 } : Room) s m ([.ref (t 0), .int x0, .int x1] : List Value).toArray below meth c s.heap [] 0 0 Q (F0 m 0 ls [])
  have RET : ∀ (r2 : Int32) (w0 : TopT) (H : Heap) (locs : List Loc) (ls : Array Slot) (pc : Nat), some (r2, w0) = some (rv, u0) → va_P D vwCl (w_Top dA t g0 (pa 0) g2 g3 g4 g5 g6 g7 g8 w0 ++ (w_Plan dA pa pl)) H → va_D A (w_Top dA t g0 (pa 0) g2 g3 g4 g5 g6 g7 g8 w0 ++ (w_Plan dA pa pl)) → va_S A s.heap H locs → decode cX10_seat pc = .ok (.ireturn, 1) → W p l e ({ frames := 2, cells := 0, slots := 0, locals := 42 } : Room) s m ([.ref (t 0), .int x0, .int x1] : List Value).toArray below meth c H locs 0 0 Q (F0 m pc ls [.int r2]) := by
    intro r2 w0 H locs ls pc hq hP hD hS hd
    cases hq
    rw [← hQ]
    exact W.iret hx hb hr (fun t ht hW => ⟨⟨_, (), rfl, rfl, by rw [ht]; exact hP, hD⟩, hS.F ht⟩) hS.2.2 hd
  have B_36 : ∀ (z0 : TopT) (H : Heap) (locs : List Loc) (ls : Array Slot), f_X10_seat_b36 pl z0 = some (rv, u0) → va_P D vwCl (w_Top dA t g0 (pa 0) g2 g3 g4 g5 g6 g7 g8 z0 ++ (w_Plan dA pa pl)) H → va_D A (w_Top dA t g0 (pa 0) g2 g3 g4 g5 g6 g7 g8 z0 ++ (w_Plan dA pa pl)) → va_S A s.heap H locs → lv_has ls 4 [(0, .ref (t 0))] → W p l e ({ frames := 2, cells := 0, slots := 0, locals := 42 } : Room) s m ([.ref (t 0), .int x0, .int x1] : List Value).toArray below meth c H locs 0 0 Q (F0 m 36 ls []) := by
    intro z0 H locs ls hf hP hD hS hl
    rw [f_X10_seat_b36] at hf
    refine lv_aload_n hx hb dX10_seat_36 rfl (lv_at hl 0 rfl) ?_
    refine lv_iconst (v := (1 : Int32)) hx hb dX10_seat_37 (by decide) ?_
    obtain ⟨r2, hc2, hf⟩ := kb_bind hf
    refine kb_ci (ws2 := (w_Top dA t g0 (pa 0) g2 g3 g4 g5 g6 g7 g8 r2.2 ++ (w_Plan dA pa pl))) (kb_rV (n := 1) (As := [.int (1 : Int32)]) (rest := []) hx hb hml hown hK (c_X10_refused l D dA H.size t g0 (pa 0) g2 g3 g4 g5 g6 g7 g8 z0 (1 : Int32) r2.1 r2.2 hc2) ⟨ww_2_204, ww_2_201, ww_2_203, ws_0, ww_1_1, rfl, by decide, by decide⟩ rfl rfl (by decide +kernel) ⟨Nat.le_of_ble_eq_true rfl, Nat.le_of_ble_eq_true rfl⟩ hP hD hS hA hE [0] rfl (by decide) 0 rfl rfl rfl hl.1 rfl (Nat.le_of_ble_eq_true rfl) dX10_seat_38 ⟨Nat.le_of_ble_eq_true rfl, Nat.le_of_ble_eq_true rfl⟩) hP hD hS hA [0] [1, 2, 3, 4, 5, 6, 7, 8, 9, 10, 11, 12, 13, 14, 15, 16, 17, 18, 19, 20, 21] [21, 0, 1, 2, 3, 4, 5, 6, 7, 8, 9, 10, 11, 12, 13, 14, 15, 16, 17, 18, 19, 20] rfl rfl (by decide) (by decide) rfl (by decide) (fun H locs hP hD hS => ?_)
    exact RET _ _ H _ ls 41 hf hP hD hS dX10_seat_41
  have B_130 : ∀ (s0 : Int32) (z0 : TopT) (H : Heap) (locs : List Loc) (ls : Array Slot), f_X10_seat_b130 pl s0 z0 = some (rv, u0) → va_P D vwCl (w_Top dA t g0 (pa 0) g2 g3 g4 g5 g6 g7 g8 z0 ++ (w_Plan dA pa pl)) H → va_D A (w_Top dA t g0 (pa 0) g2 g3 g4 g5 g6 g7 g8 z0 ++ (w_Plan dA pa pl)) → va_S A s.heap H locs → lv_has ls 4 [] → W p l e ({ frames := 2, cells := 0, slots := 0, locals := 42 } : Room) s m ([.ref (t 0), .int x0, .int x1] : List Value).toArray below meth c H locs 0 0 Q (F0 m 130 ls [.int s0, .ref (t 0)]) := by
    intro s0 z0 H locs ls hf hP hD hS hl
    rw [f_X10_seat_b130] at hf
    obtain ⟨r16, hc16, hf⟩ := kb_bind hf
    refine kb_ci (ws2 := (w_Top dA t g0 (pa 0) g2 g3 g4 g5 g6 g7 g8 r16.2 ++ (w_Plan dA pa pl))) (kb_rV (n := 1) (As := [.int s0]) (rest := []) hx hb hml hown hK (c_X10_answered l D dA H.size t g0 (pa 0) g2 g3 g4 g5 g6 g7 g8 z0 s0 r16.1 r16.2 hc16) ⟨ww_3_184, ww_3_181, ww_3_183, ws_22, ww_1_1, rfl, by decide, by decide⟩ rfl rfl (by decide +kernel) ⟨Nat.le_of_ble_eq_true rfl, Nat.le_of_ble_eq_true rfl⟩ hP hD hS hA hE [0] rfl (by decide) 0 rfl rfl rfl hl.1 rfl (Nat.le_of_ble_eq_true rfl) dX10_seat_130 ⟨Nat.le_of_ble_eq_true rfl, Nat.le_of_ble_eq_true rfl⟩) hP hD hS hA [0] [1, 2, 3, 4, 5, 6, 7, 8, 9, 10, 11, 12, 13, 14, 15, 16, 17, 18, 19, 20, 21] [21, 0, 1, 2, 3, 4, 5, 6, 7, 8, 9, 10, 11, 12, 13, 14, 15, 16, 17, 18, 19, 20] rfl rfl (by decide) (by decide) rfl (by decide) (fun H locs hP hD hS => ?_)
    exact RET _ _ H _ ls 133 hf hP hD hS dX10_seat_133
  have B_96 : ∀ (s0 : Int32) (z0 : TopT) (H : Heap) (locs : List Loc) (ls : Array Slot), f_X10_seat_b96 pl s0 z0 = some (rv, u0) → va_P D vwCl (w_Top dA t g0 (pa 0) g2 g3 g4 g5 g6 g7 g8 z0 ++ (w_Plan dA pa pl)) H → va_D A (w_Top dA t g0 (pa 0) g2 g3 g4 g5 g6 g7 g8 z0 ++ (w_Plan dA pa pl)) → va_S A s.heap H locs → lv_has ls 4 [] → W p l e ({ frames := 2, cells := 0, slots := 0, locals := 42 } : Room) s m ([.ref (t 0), .int x0, .int x1] : List Value).toArray below meth c H locs 0 0 Q (F0 m 96 ls [.int s0, .ref (t 0)]) := by
    intro s0 z0 H locs ls hf hP hD hS hl
    rw [f_X10_seat_b96] at hf
    obtain ⟨r19, hc19, hf⟩ := kb_bind hf
    refine kb_ci (ws2 := (w_Top dA t g0 (pa 0) g2 g3 g4 g5 g6 g7 g8 r19.2 ++ (w_Plan dA pa pl))) (kb_rV (n := 1) (As := [.int s0]) (rest := []) hx hb hml hown hK (c_X10_answered l D dA H.size t g0 (pa 0) g2 g3 g4 g5 g6 g7 g8 z0 s0 r19.1 r19.2 hc19) ⟨ww_3_184, ww_3_181, ww_3_183, ws_22, ww_1_1, rfl, by decide, by decide⟩ rfl rfl (by decide +kernel) ⟨Nat.le_of_ble_eq_true rfl, Nat.le_of_ble_eq_true rfl⟩ hP hD hS hA hE [0] rfl (by decide) 0 rfl rfl rfl hl.1 rfl (Nat.le_of_ble_eq_true rfl) dX10_seat_96 ⟨Nat.le_of_ble_eq_true rfl, Nat.le_of_ble_eq_true rfl⟩) hP hD hS hA [0] [1, 2, 3, 4, 5, 6, 7, 8, 9, 10, 11, 12, 13, 14, 15, 16, 17, 18, 19, 20, 21] [21, 0, 1, 2, 3, 4, 5, 6, 7, 8, 9, 10, 11, 12, 13, 14, 15, 16, 17, 18, 19, 20] rfl rfl (by decide) (by decide) rfl (by decide) (fun H locs hP hD hS => ?_)
    exact RET _ _ H _ ls 99 hf hP hD hS dX10_seat_99
  have B_62 : ∀ (s0 : Int32) (z0 : TopT) (H : Heap) (locs : List Loc) (ls : Array Slot), f_X10_seat_b62 pl s0 z0 = some (rv, u0) → va_P D vwCl (w_Top dA t g0 (pa 0) g2 g3 g4 g5 g6 g7 g8 z0 ++ (w_Plan dA pa pl)) H → va_D A (w_Top dA t g0 (pa 0) g2 g3 g4 g5 g6 g7 g8 z0 ++ (w_Plan dA pa pl)) → va_S A s.heap H locs → lv_has ls 4 [] → W p l e ({ frames := 2, cells := 0, slots := 0, locals := 42 } : Room) s m ([.ref (t 0), .int x0, .int x1] : List Value).toArray below meth c H locs 0 0 Q (F0 m 62 ls [.int s0, .ref (t 0)]) := by
    intro s0 z0 H locs ls hf hP hD hS hl
    rw [f_X10_seat_b62] at hf
    obtain ⟨r22, hc22, hf⟩ := kb_bind hf
    refine kb_ci (ws2 := (w_Top dA t g0 (pa 0) g2 g3 g4 g5 g6 g7 g8 r22.2 ++ (w_Plan dA pa pl))) (kb_rV (n := 1) (As := [.int s0]) (rest := []) hx hb hml hown hK (c_X10_answered l D dA H.size t g0 (pa 0) g2 g3 g4 g5 g6 g7 g8 z0 s0 r22.1 r22.2 hc22) ⟨ww_3_184, ww_3_181, ww_3_183, ws_22, ww_1_1, rfl, by decide, by decide⟩ rfl rfl (by decide +kernel) ⟨Nat.le_of_ble_eq_true rfl, Nat.le_of_ble_eq_true rfl⟩ hP hD hS hA hE [0] rfl (by decide) 0 rfl rfl rfl hl.1 rfl (Nat.le_of_ble_eq_true rfl) dX10_seat_62 ⟨Nat.le_of_ble_eq_true rfl, Nat.le_of_ble_eq_true rfl⟩) hP hD hS hA [0] [1, 2, 3, 4, 5, 6, 7, 8, 9, 10, 11, 12, 13, 14, 15, 16, 17, 18, 19, 20, 21] [21, 0, 1, 2, 3, 4, 5, 6, 7, 8, 9, 10, 11, 12, 13, 14, 15, 16, 17, 18, 19, 20] rfl rfl (by decide) (by decide) rfl (by decide) (fun H locs hP hD hS => ?_)
    exact RET _ _ H _ ls 65 hf hP hD hS dX10_seat_65
  have E0 : ∀ (H : Heap) (locs : List Loc), va_P D vwCl (w_Top dA t g0 (pa 0) g2 g3 g4 g5 g6 g7 g8 tp ++ (w_Plan dA pa pl)) H → va_D A (w_Top dA t g0 (pa 0) g2 g3 g4 g5 g6 g7 g8 tp ++ (w_Plan dA pa pl)) → va_S A s.heap H locs → W p l e ({ frames := 2, cells := 0, slots := 0, locals := 42 } : Room) s m ([.ref (t 0), .int x0, .int x1] : List Value).toArray below meth c H locs 0 0 Q (F0 m 0 ls []) := by
    intro H locs hP hD hS
    rw [f_X10_seat] at hf
    refine lv_aload_n hx hb dX10_seat_0 rfl (lv_at hl 0 rfl) ?_
    refine va_get (D := D) (ci := 10) (v := .int (tp_hasBus tp)) (C := RX10) (T := TX10) (N := 12) hx hb hts kb_inX10 hown hK.1 hP 0 rfl rfl 3 (by decide) (hK.2.w ww_2_155 rfl _) (fun _ h9 => h9) rfl dX10_seat_1 ?_
    refine lv_if_eq (tgt := 36) hx hb dX10_seat_4 (by decide) (fun c_1 => ?_) (fun c_1 => ?_)
    · rw [if_pos c_1] at hf
      exact B_36 _ _ _ _ hf hP hD hS (lv_sub hl [0] rfl)
    · rw [if_neg c_1] at hf
      refine lv_iload_n hx hb dX10_seat_7 rfl (lv_at hl 1 rfl) ?_
      refine lv_if_lt (tgt := 36) hx hb dX10_seat_8 (by decide) (fun c_3 => ?_) (fun c_3 => ?_)
      · rw [if_pos c_3] at hf
        exact B_36 _ _ _ _ hf hP hD hS (lv_sub hl [0] rfl)
      · rw [if_neg c_3] at hf
        refine lv_iload_n hx hb dX10_seat_11 rfl (lv_at hl 1 rfl) ?_
        refine lv_iconst (v := (4 : Int32)) hx hb dX10_seat_12 (by decide) ?_
        refine lv_aload_n hx hb dX10_seat_13 rfl (lv_at hl 0 rfl) ?_
        refine va_get (D := D) (ci := 10) (v := .ref (pa 0)) (C := RX10) (T := TX10) (N := 12) hx hb hts kb_inX10 hown hK.1 hP 0 rfl rfl 1 (by decide) (hK.2.w ww_2_153 rfl _) (fun _ h9 => h9) rfl dX10_seat_14 ?_
        refine va_get (D := D) (ci := 5) (v := .ref (pa 1)) (C := RX5) (T := TX5) (N := 8) hx hb hts kb_inX5 hown hK.1 hP 1 rfl rfl 0 (by decide) (hK.2.w ww_1_215 rfl _) (fun _ h9 => h9) rfl dX10_seat_17 ?_
        refine va_get (D := D) (ci := 0) (v := .int (cb_rows (pl_cab pl))) (C := RX0) (T := TX0) (N := 8) hx hb hts kb_inX0 hown hK.1 hP 2 rfl rfl 0 (by decide) (hK.2.w ww_1_88 rfl _) (fun _ h9 => h9) rfl dX10_seat_20 ?_
        refine lv_imul hx hb dX10_seat_23 ?_
        refine lv_icmp_ge (tgt := 36) hx hb dX10_seat_24 (by decide) (fun c_4 => ?_) (fun c_4 => ?_)
        · rw [if_pos c_4] at hf
          exact B_36 _ _ _ _ hf hP hD hS (lv_sub hl [0] rfl)
        · rw [if_neg c_4] at hf
          refine lv_iload_n hx hb dX10_seat_27 rfl (lv_at hl 2 rfl) ?_
          refine lv_if_lt (tgt := 36) hx hb dX10_seat_28 (by decide) (fun c_5 => ?_) (fun c_5 => ?_)
          · rw [if_pos c_5] at hf
            exact B_36 _ _ _ _ hf hP hD hS (lv_sub hl [0] rfl)
          · rw [if_neg c_5] at hf
            refine lv_iload_n hx hb dX10_seat_31 rfl (lv_at hl 2 rfl) ?_
            refine lv_iconst (v := (3 : Int32)) hx hb dX10_seat_32 (by decide) ?_
            refine lv_icmp_le (tgt := 42) hx hb dX10_seat_33 (by decide) (fun c_6 => ?_) (fun c_6 => ?_)
            · rw [if_pos c_6] at hf
              refine lv_aload_n hx hb dX10_seat_42 rfl (lv_at hl 0 rfl) ?_
              refine lv_iload_n hx hb dX10_seat_43 rfl (lv_at hl 1 rfl) ?_
              obtain ⟨r7, hc7, hf⟩ := kb_bind hf
              refine kb_ci (ws2 := (w_Top dA t g0 (pa 0) g2 g3 g4 g5 g6 g7 g8 tp ++ (w_Plan dA pa pl))) (kb_rV (n := 1) (As := [.int x0]) (rest := []) hx hb hml hown hK (c_X10_isSeat l D dA H.size t pa g0 g2 g3 g4 g5 g6 g7 g8 tp pl x0 r7 hc7) ⟨ww_4_83, ww_4_80, ww_4_82, ws_34, ww_1_1, rfl, by decide, by decide⟩ rfl rfl (by decide +kernel) ⟨Nat.le_of_ble_eq_true rfl, Nat.le_of_ble_eq_true rfl⟩ hP hD hS hA hE [0, 1, 2, 3, 4, 5, 6, 7, 8, 9, 10, 11, 12, 13, 14, 15, 16, 17, 18, 19, 20, 21] rfl (by decide) 0 rfl rfl rfl hl.1 rfl (Nat.le_of_ble_eq_true rfl) dX10_seat_44 ⟨Nat.le_of_ble_eq_true rfl, Nat.le_of_ble_eq_true rfl⟩) hP hD hS hA [0, 1, 2, 3, 4, 5, 6, 7, 8, 9, 10, 11, 12, 13, 14, 15, 16, 17, 18, 19, 20, 21] [] [0, 1, 2, 3, 4, 5, 6, 7, 8, 9, 10, 11, 12, 13, 14, 15, 16, 17, 18, 19, 20, 21] rfl rfl (by decide) (by decide) rfl (by decide) (fun H locs hP hD hS => ?_)
              refine lv_istore_n (lv' := [(3, .int r7), (0, .ref (t 0)), (1, .int x0), (2, .int x1)]) hx hb dX10_seat_47 rfl hl (by decide) rfl (fun ls hl => ?_)
              refine lv_iload_n hx hb dX10_seat_48 rfl (lv_at hl 3 rfl) ?_
              refine lv_if_ne (tgt := 66) hx hb dX10_seat_49 (by decide) (fun c_8 => ?_) (fun c_8 => ?_)
              · rw [if_neg c_8] at hf
                refine lv_iload_n hx hb dX10_seat_66 rfl (lv_at hl 0 rfl) ?_
                refine lv_if_ne (tgt := 76) hx hb dX10_seat_67 (by decide) (fun c_9 => ?_) (fun c_9 => ?_)
                · rw [if_neg c_9] at hf
                  refine lv_iload_n hx hb dX10_seat_76 rfl (lv_at hl 3 rfl) ?_
                  refine lv_iconst (v := (1 : Int32)) hx hb dX10_seat_77 (by decide) ?_
                  refine lv_icmp_ne (tgt := 100) hx hb dX10_seat_78 (by decide) (fun c_10 => ?_) (fun c_10 => ?_)
                  · rw [if_neg c_10] at hf
                    refine lv_iload_n hx hb dX10_seat_100 rfl (lv_at hl 3 rfl) ?_
                    refine lv_iconst (v := (2 : Int32)) hx hb dX10_seat_101 (by decide) ?_
                    refine lv_icmp_ne (tgt := 134) hx hb dX10_seat_102 (by decide) (fun c_11 => ?_) (fun c_11 => ?_)
                    · rw [if_neg c_11] at hf
                      refine lv_aload_n hx hb dX10_seat_134 rfl (lv_at hl 1 rfl) ?_
                      refine lv_aload_n hx hb dX10_seat_135 rfl (lv_at hl 1 rfl) ?_
                      refine va_get (D := D) (ci := 10) (v := .ref (pa 0)) (C := RX10) (T := TX10) (N := 12) hx hb hts kb_inX10 hown hK.1 hP 0 rfl rfl 1 (by decide) (hK.2.w ww_2_153 rfl _) (fun _ h9 => h9) rfl dX10_seat_136 ?_
                      refine va_get (D := D) (ci := 5) (v := .ref (pa 1)) (C := RX5) (T := TX5) (N := 8) hx hb hts kb_inX5 hown hK.1 hP 1 rfl rfl 0 (by decide) (hK.2.w ww_1_215 rfl _) (fun _ h9 => h9) rfl dX10_seat_139 ?_
                      refine va_get (D := D) (ci := 0) (v := .ref (pa 2)) (C := RX0) (T := TX0) (N := 8) hx hb hts kb_inX0 hown hK.1 hP 2 rfl rfl 7 (by decide) (hK.2.w ww_1_111 rfl _) (fun _ h9 => h9) rfl dX10_seat_142 ?_
                      refine lv_iload_n hx hb dX10_seat_145 rfl (lv_at hl 2 rfl) ?_
                      obtain ⟨h_12, hf⟩ := kb_if hf
                      refine va_iald (D := D) hx hb hK.1 hP 3 0 rfl rfl h_12 dX10_seat_146 ?_
                      obtain ⟨r13, hc13, hf⟩ := kb_bind hf
                      refine kb_ci (ws2 := (w_Top dA t g0 (pa 0) g2 g3 g4 g5 g6 g7 g8 r13.2 ++ (w_Plan dA pa pl))) (kb_rV (n := 1) (As := [.int ((cb_beside (pl_cab pl)) (x0).toNatClampNeg)]) (rest := []) hx hb hml hown hK (c_X10_answered l D dA H.size t g0 (pa 0) g2 g3 g4 g5 g6 g7 g8 tp ((cb_beside (pl_cab pl)) (x0).toNatClampNeg) r13.1 r13.2 hc13) ⟨ww_3_184, ww_3_181, ww_3_183, ws_22, ww_1_1, rfl, by decide, by decide⟩ rfl rfl (by decide +kernel) ⟨Nat.le_of_ble_eq_true rfl, Nat.le_of_ble_eq_true rfl⟩ hP hD hS hA hE [0] rfl (by decide) 0 rfl rfl rfl hl.1 rfl (Nat.le_of_ble_eq_true rfl) dX10_seat_147 ⟨Nat.le_of_ble_eq_true rfl, Nat.le_of_ble_eq_true rfl⟩) hP hD hS hA [0] [1, 2, 3, 4, 5, 6, 7, 8, 9, 10, 11, 12, 13, 14, 15, 16, 17, 18, 19, 20, 21] [21, 0, 1, 2, 3, 4, 5, 6, 7, 8, 9, 10, 11, 12, 13, 14, 15, 16, 17, 18, 19, 20] rfl rfl (by decide) (by decide) rfl (by decide) (fun H locs hP hD hS => ?_)
                      exact RET _ _ H _ ls 150 hf hP hD hS dX10_seat_150
                    · rw [if_pos c_11] at hf
                      refine lv_aload_n hx hb dX10_seat_105 rfl (lv_at hl 1 rfl) ?_
                      refine lv_aload_n hx hb dX10_seat_106 rfl (lv_at hl 1 rfl) ?_
                      refine va_get (D := D) (ci := 10) (v := .ref (pa 0)) (C := RX10) (T := TX10) (N := 12) hx hb hts kb_inX10 hown hK.1 hP 0 rfl rfl 1 (by decide) (hK.2.w ww_2_153 rfl _) (fun _ h9 => h9) rfl dX10_seat_107 ?_
                      refine va_get (D := D) (ci := 5) (v := .ref (pa 1)) (C := RX5) (T := TX5) (N := 8) hx hb hts kb_inX5 hown hK.1 hP 1 rfl rfl 0 (by decide) (hK.2.w ww_1_215 rfl _) (fun _ h9 => h9) rfl dX10_seat_110 ?_
                      refine va_get (D := D) (ci := 0) (v := .int (cb_form (pl_cab pl))) (C := RX0) (T := TX0) (N := 8) hx hb hts kb_inX0 hown hK.1 hP 2 rfl rfl 1 (by decide) (hK.2.w ww_1_92 rfl _) (fun _ h9 => h9) rfl dX10_seat_113 ?_
                      refine lv_iload_n hx hb dX10_seat_116 rfl (lv_at hl 2 rfl) ?_
                      refine lv_iconst (v := (4 : Int32)) hx hb dX10_seat_117 (by decide) ?_
                      refine lv_irem hx hb dX10_seat_118 (by decide) ?_
                      obtain ⟨r14, hc14, hf⟩ := kb_bind hf
                      refine kb_ci (ws2 := (w_Top dA t g0 (pa 0) g2 g3 g4 g5 g6 g7 g8 tp ++ (w_Plan dA pa pl))) (kb_rS (n := 2) (As := [.int (cb_form (pl_cab pl)), .int (x0 - x0 / (4 : Int32) * (4 : Int32))]) (rest := [.ref (t 0)]) hx hb hml hown hK (c_X0_isAisle l D dA H.size (cb_form (pl_cab pl)) (x0 - x0 / (4 : Int32) * (4 : Int32)) r14 hc14) ⟨ww_3_229, ww_5_100, ww_3_228, ww_1_4, by decide, by decide⟩ rfl rfl (by decide +kernel) ⟨Nat.le_of_ble_eq_true rfl, Nat.le_of_ble_eq_true rfl⟩ hP hD hS hA hE [] rfl (by decide) rfl hl.1 rfl (Nat.le_of_ble_eq_true rfl) dX10_seat_119 ⟨Nat.le_of_ble_eq_true rfl, Nat.le_of_ble_eq_true rfl⟩) hP hD hS hA [] [0, 1, 2, 3, 4, 5, 6, 7, 8, 9, 10, 11, 12, 13, 14, 15, 16, 17, 18, 19, 20, 21] [0, 1, 2, 3, 4, 5, 6, 7, 8, 9, 10, 11, 12, 13, 14, 15, 16, 17, 18, 19, 20, 21] rfl rfl (by decide) (by decide) rfl (by decide) (fun H locs hP hD hS => ?_)
                      refine lv_if_eq (tgt := 129) hx hb dX10_seat_122 (by decide) (fun c_15 => ?_) (fun c_15 => ?_)
                      · rw [if_pos c_15] at hf
                        refine lv_iconst (v := (0 : Int32)) hx hb dX10_seat_129 (by decide) ?_
                        exact B_130 _ _ _ _ _ hf hP hD hS (lv_sub hl [] rfl)
                      · rw [if_neg c_15] at hf
                        refine lv_iconst (v := (1 : Int32)) hx hb dX10_seat_125 (by decide) ?_
                        refine lv_goto (tgt := 130) hx hb dX10_seat_126 (by decide) ?_
                        exact B_130 _ _ _ _ _ hf hP hD hS (lv_sub hl [] rfl)
                  · rw [if_pos c_10] at hf
                    refine lv_aload_n hx hb dX10_seat_81 rfl (lv_at hl 1 rfl) ?_
                    refine lv_iload_n hx hb dX10_seat_82 rfl (lv_at hl 2 rfl) ?_
                    refine lv_iconst (v := (4 : Int32)) hx hb dX10_seat_83 (by decide) ?_
                    refine lv_irem hx hb dX10_seat_84 (by decide) ?_
                    obtain ⟨r17, hc17, hf⟩ := kb_bind hf
                    refine kb_ci (ws2 := (w_Top dA t g0 (pa 0) g2 g3 g4 g5 g6 g7 g8 tp ++ (w_Plan dA pa pl))) (kb_rS (n := 1) (As := [.int (x0 - x0 / (4 : Int32) * (4 : Int32))]) (rest := [.ref (t 0)]) hx hb hml hown hK (c_X0_isWindow l D dA H.size (x0 - x0 / (4 : Int32) * (4 : Int32)) r17 hc17) ⟨ww_3_226, ww_5_99, ww_3_225, ww_1_4, by decide, by decide⟩ rfl rfl (by decide +kernel) ⟨Nat.le_of_ble_eq_true rfl, Nat.le_of_ble_eq_true rfl⟩ hP hD hS hA hE [] rfl (by decide) rfl hl.1 rfl (Nat.le_of_ble_eq_true rfl) dX10_seat_85 ⟨Nat.le_of_ble_eq_true rfl, Nat.le_of_ble_eq_true rfl⟩) hP hD hS hA [] [0, 1, 2, 3, 4, 5, 6, 7, 8, 9, 10, 11, 12, 13, 14, 15, 16, 17, 18, 19, 20, 21] [0, 1, 2, 3, 4, 5, 6, 7, 8, 9, 10, 11, 12, 13, 14, 15, 16, 17, 18, 19, 20, 21] rfl rfl (by decide) (by decide) rfl (by decide) (fun H locs hP hD hS => ?_)
                    refine lv_if_eq (tgt := 95) hx hb dX10_seat_88 (by decide) (fun c_18 => ?_) (fun c_18 => ?_)
                    · rw [if_pos c_18] at hf
                      refine lv_iconst (v := (0 : Int32)) hx hb dX10_seat_95 (by decide) ?_
                      exact B_96 _ _ _ _ _ hf hP hD hS (lv_sub hl [] rfl)
                    · rw [if_neg c_18] at hf
                      refine lv_iconst (v := (1 : Int32)) hx hb dX10_seat_91 (by decide) ?_
                      refine lv_goto (tgt := 96) hx hb dX10_seat_92 (by decide) ?_
                      exact B_96 _ _ _ _ _ hf hP hD hS (lv_sub hl [] rfl)
                · rw [if_pos c_9] at hf
                  refine lv_aload_n hx hb dX10_seat_70 rfl (lv_at hl 1 rfl) ?_
                  refine lv_iconst (v := (1 : Int32)) hx hb dX10_seat_71 (by decide) ?_
                  obtain ⟨r20, hc20, hf⟩ := kb_bind hf
                  refine kb_ci (ws2 := (w_Top dA t g0 (pa 0) g2 g3 g4 g5 g6 g7 g8 r20.2 ++ (w_Plan dA pa pl))) (kb_rV (n := 1) (As := [.int (1 : Int32)]) (rest := []) hx hb hml hown hK (c_X10_refused l D dA H.size t g0 (pa 0) g2 g3 g4 g5 g6 g7 g8 tp (1 : Int32) r20.1 r20.2 hc20) ⟨ww_2_204, ww_2_201, ww_2_203, ws_0, ww_1_1, rfl, by decide, by decide⟩ rfl rfl (by decide +kernel) ⟨Nat.le_of_ble_eq_true rfl, Nat.le_of_ble_eq_true rfl⟩ hP hD hS hA hE [0] rfl (by decide) 0 rfl rfl rfl hl.1 rfl (Nat.le_of_ble_eq_true rfl) dX10_seat_72 ⟨Nat.le_of_ble_eq_true rfl, Nat.le_of_ble_eq_true rfl⟩) hP hD hS hA [0] [1, 2, 3, 4, 5, 6, 7, 8, 9, 10, 11, 12, 13, 14, 15, 16, 17, 18, 19, 20, 21] [21, 0, 1, 2, 3, 4, 5, 6, 7, 8, 9, 10, 11, 12, 13, 14, 15, 16, 17, 18, 19, 20] rfl rfl (by decide) (by decide) rfl (by decide) (fun H locs hP hD hS => ?_)
                  exact RET _ _ H _ ls 75 hf hP hD hS dX10_seat_75
              · rw [if_pos c_8] at hf
                refine lv_aload_n hx hb dX10_seat_52 rfl (lv_at hl 1 rfl) ?_
                refine lv_iload_n hx hb dX10_seat_53 rfl (lv_at hl 0 rfl) ?_
                refine lv_if_eq (tgt := 61) hx hb dX10_seat_54 (by decide) (fun c_21 => ?_) (fun c_21 => ?_)
                · rw [if_pos c_21] at hf
                  refine lv_iconst (v := (0 : Int32)) hx hb dX10_seat_61 (by decide) ?_
                  exact B_62 _ _ _ _ _ hf hP hD hS (lv_sub hl [] rfl)
                · rw [if_neg c_21] at hf
                  refine lv_iconst (v := (1 : Int32)) hx hb dX10_seat_57 (by decide) ?_
                  refine lv_goto (tgt := 62) hx hb dX10_seat_58 (by decide) ?_
                  exact B_62 _ _ _ _ _ hf hP hD hS (lv_sub hl [] rfl)
            · rw [if_neg c_6] at hf
              exact B_36 _ _ _ _ hf hP hD hS (lv_sub hl [0] rfl)
  exact E0 _ _ hP hD hS

noncomputable def f_X10_rider (tp : TopT) (pl : PlanT) (x0 : Int32) (x1 : Int32) : Option (Int32) := (f_X10_isRider tp pl x0).bind fun r1 => (if r1 = 0 then some ((-1 : Int32)) else if kb_in? x0 8 then (if x1 = (0 : Int32) then some (((qr_on (pl_riders pl)) (x0).toNatClampNeg)) else (if x1 = (1 : Int32) then some (((qr_off (pl_riders pl)) (x0).toNatClampNeg)) else (if x1 = (2 : Int32) then some (((qr_rule (pl_riders pl)) (x0).toNatClampNeg)) else (if x1 = (3 : Int32) then some (((qr_looks (pl_riders pl)) (x0).toNatClampNeg)) else (if x1 = (4 : Int32) then some (((qr_age (pl_riders pl)) (x0).toNatClampNeg)) else (if x1 = (5 : Int32) then (if ((qr_hasBag (pl_riders pl)) (x0).toNatClampNeg) = 0 then some ((0 : Int32)) else some ((1 : Int32))) else (if x1 = (6 : Int32) then (if ((qr_isProud (pl_riders pl)) (x0).toNatClampNeg) = 0 then some ((0 : Int32)) else some ((1 : Int32))) else (if x1 = (7 : Int32) then some (((qr_held (pl_riders pl)) (x0).toNatClampNeg)) else some ((-1 : Int32)))))))))) else none)
set_option maxHeartbeats 4000000 in
set_option maxRecDepth 100000 in
theorem c_X10_rider (l : Launch) (D : va_G) (dA : Nat → ClassId) (sz : Nat) (t : Nat → Nat) (pa : Nat → Nat) (g0 : Nat) (g2 : Nat) (g3 : Nat) (g4 : Nat) (g5 : Nat) (g6 : Nat) (g7 : Nat) (g8 : Nat) (tp : TopT) (pl : PlanT) (x0 : Int32) (x1 : Int32) (rv : Int32) (hf : f_X10_rider tp pl x0 x1 = some (rv)) : kb_Mi l yX10_rider cX10_rider 4 (some .int) ({ frames := 1, cells := 0, slots := 0, locals := 21 } : Room) D dA [.ref (t 0), .int x0, .int x1] sz (w_Top dA t g0 (pa 0) g2 g3 g4 g5 g6 g7 g8 tp ++ (w_Plan dA pa pl)) 0 0 rv (w_Top dA t g0 (pa 0) g2 g3 g4 g5 g6 g7 g8 tp ++ (w_Plan dA pa pl)) := by
  refine Met.ofW (cc := cX10_rider) (maxL := 4) (ret := (some .int)) (by decide) rfl ?_
  intro p e s m args below meth c s₁ B hml hv
  obtain ⟨rfl, hsz, hP, hK, hD0, hE⟩ := hv
  have hx := B.exec
  have hb := B.bytes
  have hr := B.returns
  have hown : s.vm.findClass RX10 = some m.cls := findClass_of_methodNamed B.named
  have hlocks := B.notSynchronized
  have hts : ∀ w ∈ kb_gw, w.before ([.ref (t 0), .int x0, .int x1] : List Value).toArray s = true := fun w hw => hK.2.1 w hw _
  subst hsz
  have hD := hD0.self (sz := s.heap.size)
  generalize hAe : va_A (w_Top dA t g0 (pa 0) g2 g3 g4 g5 g6 g7 g8 tp ++ (w_Plan dA pa pl)) s.heap.size = A at hD hE ⊢
  have hA : ∀ q : Nat, s.heap.size ≤ q → A q := fun q h => by rw [← hAe]; exact Or.inr h
  have hS : va_S A s.heap s.heap [] := va_S.rf
  have hl := lv_entry ([.ref (t 0), .int x0, .int x1]) (n := 4) (Nat.le_of_ble_eq_true rfl)
  rw [lg_entry_eq]
  generalize (lg_sl ([.ref (t 0), .int x0, .int x1]) ++ List.replicate (4 - (lg_sl ([.ref (t 0), .int x0, .int x1])).length) Slot.unset).toArray = ls at hl ⊢
  have hl : lv_has ls 4 [(0, .ref (t 0)), (1, .int x0), (2, .int x1)] := hl
  generalize hQ : MQ below (va_Qi (fun r (_ : Unit) => r = rv) (kb_B D A (w_Top dA t g0 (pa 0) g2 g3 g4 g5 g6 g7 g8 tp ++ (w_Plan dA pa pl))) A) ([.ref (t 0), .int x0, .int x1] : List Value).toArray s 0 0 A = Q
  show W p l e ({ frames := 1, cells := 0, slots := 0, locals := 21 } : Room) s m ([.ref (t 0), .int x0, .int x1] : List Value).toArray below meth c s.heap [] 0 0 Q (F0 m 0 ls [])
  have RET : ∀ (r2 : Int32) (H : Heap) (locs : List Loc) (ls : Array Slot) (pc : Nat), some (r2) = some (rv) → va_P D vwCl (w_Top dA t g0 (pa 0) g2 g3 g4 g5 g6 g7 g8 tp ++ (w_Plan dA pa pl)) H → va_D A (w_Top dA t g0 (pa 0) g2 g3 g4 g5 g6 g7 g8 tp ++ (w_Plan dA pa pl)) → va_S A s.heap H locs → decode cX10_rider pc = .ok (.ireturn, 1) → W p l e ({ frames := 1, cells := 0, slots := 0, locals := 21 } : Room) s m ([.ref (t 0), .int x0, .int x1] : List Value).toArray below meth c H locs 0 0 Q (F0 m pc ls [.int r2]) := by
    intro r2 H locs ls pc hq hP hD hS hd
    cases hq
    rw [← hQ]
    exact W.iret hx hb hr (fun t ht hW => ⟨⟨_, (), rfl, rfl, by rw [ht]; exact hP, hD⟩, hS.F ht⟩) hS.2.2 hd
  have E0 : ∀ (H : Heap) (locs : List Loc), va_P D vwCl (w_Top dA t g0 (pa 0) g2 g3 g4 g5 g6 g7 g8 tp ++ (w_Plan dA pa pl)) H → va_D A (w_Top dA t g0 (pa 0) g2 g3 g4 g5 g6 g7 g8 tp ++ (w_Plan dA pa pl)) → va_S A s.heap H locs → W p l e ({ frames := 1, cells := 0, slots := 0, locals := 21 } : Room) s m ([.ref (t 0), .int x0, .int x1] : List Value).toArray below meth c H locs 0 0 Q (F0 m 0 ls []) := by
    intro H locs hP hD hS
    rw [f_X10_rider] at hf
    refine lv_aload_n hx hb dX10_rider_0 rfl (lv_at hl 0 rfl) ?_
    refine lv_iload_n hx hb dX10_rider_1 rfl (lv_at hl 1 rfl) ?_
    obtain ⟨r1, hc1, hf⟩ := kb_bind hf
    refine kb_ci (ws2 := (w_Top dA t g0 (pa 0) g2 g3 g4 g5 g6 g7 g8 tp ++ (w_Plan dA pa pl))) (kb_rV (n := 1) (As := [.int x0]) (rest := []) hx hb hml hown hK (c_X10_isRider l D dA H.size t pa g0 g2 g3 g4 g5 g6 g7 g8 tp pl x0 r1 hc1) ⟨ww_4_75, ww_4_72, ww_4_74, ws_33, ww_1_1, rfl, by decide, by decide⟩ rfl rfl (by decide +kernel) ⟨Nat.le_of_ble_eq_true rfl, Nat.le_of_ble_eq_true rfl⟩ hP hD hS hA hE [0, 1, 2, 3, 4, 5, 6, 7, 8, 9, 10, 11, 12, 13, 14, 15, 16, 17, 18, 19, 20, 21] rfl (by decide) 0 rfl rfl rfl hl.1 rfl (Nat.le_of_ble_eq_true rfl) dX10_rider_2 ⟨Nat.le_of_ble_eq_true rfl, Nat.le_of_ble_eq_true rfl⟩) hP hD hS hA [0, 1, 2, 3, 4, 5, 6, 7, 8, 9, 10, 11, 12, 13, 14, 15, 16, 17, 18, 19, 20, 21] [] [0, 1, 2, 3, 4, 5, 6, 7, 8, 9, 10, 11, 12, 13, 14, 15, 16, 17, 18, 19, 20, 21] rfl rfl (by decide) (by decide) rfl (by decide) (fun H locs hP hD hS => ?_)
    refine lv_if_ne (tgt := 10) hx hb dX10_rider_5 (by decide) (fun c_2 => ?_) (fun c_2 => ?_)
    · rw [if_neg c_2] at hf
      refine lv_aload_n hx hb dX10_rider_10 rfl (lv_at hl 0 rfl) ?_
      refine va_get (D := D) (ci := 10) (v := .ref (pa 0)) (C := RX10) (T := TX10) (N := 12) hx hb hts kb_inX10 hown hK.1 hP 0 rfl rfl 1 (by decide) (hK.2.w ww_2_153 rfl _) (fun _ h9 => h9) rfl dX10_rider_11 ?_
      refine va_get (D := D) (ci := 5) (v := .ref (pa 12)) (C := RX5) (T := TX5) (N := 8) hx hb hts kb_inX5 hown hK.1 hP 1 rfl rfl 2 (by decide) (hK.2.w ww_1_226 rfl _) (fun _ h9 => h9) rfl dX10_rider_14 ?_
      refine lv_iload_n hx hb dX10_rider_17 rfl (lv_at hl 1 rfl) ?_
      obtain ⟨h_3, hf⟩ := kb_if hf
      refine va_aldq (D := D) hx hb hK.1 hP 13 5 rfl rfl h_3 dX10_rider_18 ?_
      show W p l e ({ frames := 1, cells := 0, slots := 0, locals := 21 } : Room) s m ([.ref (t 0), .int x0, .int x1] : List Value).toArray below meth c _ _ 0 0 Q (F0 m 19 _ [.ref (pa (13 + (x0).toNatClampNeg))])
      refine lv_astore_n (lv' := [(3, .ref (pa (13 + (x0).toNatClampNeg))), (0, .ref (t 0)), (1, .int x0), (2, .int x1)]) hx hb dX10_rider_19 rfl hl (by decide) rfl (fun ls hl => ?_)
      refine lv_iload_n hx hb dX10_rider_20 rfl (lv_at hl 3 rfl) ?_
      by_cases c_4 : x1 = (0 : Int32)
      · rw [if_pos c_4] at hf
        refine lv_tableIn (tgt := 68) hx hb dX10_rider_21 (by rw [c_4]; decide) (by rw [c_4]; decide) (by rw [c_4]; rfl) (by decide) ?_
        refine lv_aload_n hx hb dX10_rider_68 rfl (lv_at hl 0 rfl) ?_
        refine va_get (D := D) (ci := 7) (v := .int ((qr_on (pl_riders pl)) (x0).toNatClampNeg)) (C := RX7) (T := TX7) (N := 10) hx hb hts kb_inX7 hown hK.1 hP (1 + (13 + (x0).toNatClampNeg)) (kb_at rfl (at_Plan_13 dA pa pl (x0).toNatClampNeg (kb_inlt h_3))) rfl 1 (by decide) (hK.2.w ww_1_166 rfl _) (fun _ h9 => h9) rfl dX10_rider_69 ?_
        exact RET _ H _ ls 72 hf hP hD hS dX10_rider_72
      · rw [if_neg c_4] at hf
        by_cases c_5 : x1 = (1 : Int32)
        · rw [if_pos c_5] at hf
          refine lv_tableIn (tgt := 73) hx hb dX10_rider_21 (by rw [c_5]; decide) (by rw [c_5]; decide) (by rw [c_5]; rfl) (by decide) ?_
          refine lv_aload_n hx hb dX10_rider_73 rfl (lv_at hl 0 rfl) ?_
          refine va_get (D := D) (ci := 7) (v := .int ((qr_off (pl_riders pl)) (x0).toNatClampNeg)) (C := RX7) (T := TX7) (N := 10) hx hb hts kb_inX7 hown hK.1 hP (1 + (13 + (x0).toNatClampNeg)) (kb_at rfl (at_Plan_13 dA pa pl (x0).toNatClampNeg (kb_inlt h_3))) rfl 2 (by decide) (hK.2.w ww_1_169 rfl _) (fun _ h9 => h9) rfl dX10_rider_74 ?_
          exact RET _ H _ ls 77 hf hP hD hS dX10_rider_77
        · rw [if_neg c_5] at hf
          by_cases c_6 : x1 = (2 : Int32)
          · rw [if_pos c_6] at hf
            refine lv_tableIn (tgt := 78) hx hb dX10_rider_21 (by rw [c_6]; decide) (by rw [c_6]; decide) (by rw [c_6]; rfl) (by decide) ?_
            refine lv_aload_n hx hb dX10_rider_78 rfl (lv_at hl 0 rfl) ?_
            refine va_get (D := D) (ci := 7) (v := .int ((qr_rule (pl_riders pl)) (x0).toNatClampNeg)) (C := RX7) (T := TX7) (N := 10) hx hb hts kb_inX7 hown hK.1 hP (1 + (13 + (x0).toNatClampNeg)) (kb_at rfl (at_Plan_13 dA pa pl (x0).toNatClampNeg (kb_inlt h_3))) rfl 3 (by decide) (hK.2.w ww_1_172 rfl _) (fun _ h9 => h9) rfl dX10_rider_79 ?_
            exact RET _ H _ ls 82 hf hP hD hS dX10_rider_82
          · rw [if_neg c_6] at hf
            by_cases c_7 : x1 = (3 : Int32)
            · rw [if_pos c_7] at hf
              refine lv_tableIn (tgt := 83) hx hb dX10_rider_21 (by rw [c_7]; decide) (by rw [c_7]; decide) (by rw [c_7]; rfl) (by decide) ?_
              refine lv_aload_n hx hb dX10_rider_83 rfl (lv_at hl 0 rfl) ?_
              refine va_get (D := D) (ci := 7) (v := .int ((qr_looks (pl_riders pl)) (x0).toNatClampNeg)) (C := RX7) (T := TX7) (N := 10) hx hb hts kb_inX7 hown hK.1 hP (1 + (13 + (x0).toNatClampNeg)) (kb_at rfl (at_Plan_13 dA pa pl (x0).toNatClampNeg (kb_inlt h_3))) rfl 4 (by decide) (hK.2.w ww_1_176 rfl _) (fun _ h9 => h9) rfl dX10_rider_84 ?_
              exact RET _ H _ ls 87 hf hP hD hS dX10_rider_87
            · rw [if_neg c_7] at hf
              by_cases c_8 : x1 = (4 : Int32)
              · rw [if_pos c_8] at hf
                refine lv_tableIn (tgt := 88) hx hb dX10_rider_21 (by rw [c_8]; decide) (by rw [c_8]; decide) (by rw [c_8]; rfl) (by decide) ?_
                refine lv_aload_n hx hb dX10_rider_88 rfl (lv_at hl 0 rfl) ?_
                refine va_get (D := D) (ci := 7) (v := .int ((qr_age (pl_riders pl)) (x0).toNatClampNeg)) (C := RX7) (T := TX7) (N := 10) hx hb hts kb_inX7 hown hK.1 hP (1 + (13 + (x0).toNatClampNeg)) (kb_at rfl (at_Plan_13 dA pa pl (x0).toNatClampNeg (kb_inlt h_3))) rfl 5 (by decide) (hK.2.w ww_1_179 rfl _) (fun _ h9 => h9) rfl dX10_rider_89 ?_
                exact RET _ H _ ls 92 hf hP hD hS dX10_rider_92
              · rw [if_neg c_8] at hf
                by_cases c_9 : x1 = (5 : Int32)
                · rw [if_pos c_9] at hf
                  refine lv_tableIn (tgt := 93) hx hb dX10_rider_21 (by rw [c_9]; decide) (by rw [c_9]; decide) (by rw [c_9]; rfl) (by decide) ?_
                  refine lv_aload_n hx hb dX10_rider_93 rfl (lv_at hl 0 rfl) ?_
                  refine va_get (D := D) (ci := 7) (v := .int ((qr_hasBag (pl_riders pl)) (x0).toNatClampNeg)) (C := RX7) (T := TX7) (N := 10) hx hb hts kb_inX7 hown hK.1 hP (1 + (13 + (x0).toNatClampNeg)) (kb_at rfl (at_Plan_13 dA pa pl (x0).toNatClampNeg (kb_inlt h_3))) rfl 6 (by decide) (hK.2.w ww_1_182 rfl _) (fun _ h9 => h9) rfl dX10_rider_94 ?_
                  refine lv_if_eq (tgt := 104) hx hb dX10_rider_97 (by decide) (fun c_10 => ?_) (fun c_10 => ?_)
                  · rw [if_pos c_10] at hf
                    refine lv_iconst (v := (0 : Int32)) hx hb dX10_rider_104 (by decide) ?_
                    exact RET _ H _ ls 105 hf hP hD hS dX10_rider_105
                  · rw [if_neg c_10] at hf
                    refine lv_iconst (v := (1 : Int32)) hx hb dX10_rider_100 (by decide) ?_
                    refine lv_goto (tgt := 105) hx hb dX10_rider_101 (by decide) ?_
                    exact RET _ H _ ls 105 hf hP hD hS dX10_rider_105
                · rw [if_neg c_9] at hf
                  by_cases c_11 : x1 = (6 : Int32)
                  · rw [if_pos c_11] at hf
                    refine lv_tableIn (tgt := 106) hx hb dX10_rider_21 (by rw [c_11]; decide) (by rw [c_11]; decide) (by rw [c_11]; rfl) (by decide) ?_
                    refine lv_aload_n hx hb dX10_rider_106 rfl (lv_at hl 0 rfl) ?_
                    refine va_get (D := D) (ci := 7) (v := .int ((qr_isProud (pl_riders pl)) (x0).toNatClampNeg)) (C := RX7) (T := TX7) (N := 10) hx hb hts kb_inX7 hown hK.1 hP (1 + (13 + (x0).toNatClampNeg)) (kb_at rfl (at_Plan_13 dA pa pl (x0).toNatClampNeg (kb_inlt h_3))) rfl 7 (by decide) (hK.2.w ww_1_185 rfl _) (fun _ h9 => h9) rfl dX10_rider_107 ?_
                    refine lv_if_eq (tgt := 117) hx hb dX10_rider_110 (by decide) (fun c_12 => ?_) (fun c_12 => ?_)
                    · rw [if_pos c_12] at hf
                      refine lv_iconst (v := (0 : Int32)) hx hb dX10_rider_117 (by decide) ?_
                      exact RET _ H _ ls 118 hf hP hD hS dX10_rider_118
                    · rw [if_neg c_12] at hf
                      refine lv_iconst (v := (1 : Int32)) hx hb dX10_rider_113 (by decide) ?_
                      refine lv_goto (tgt := 118) hx hb dX10_rider_114 (by decide) ?_
                      exact RET _ H _ ls 118 hf hP hD hS dX10_rider_118
                  · rw [if_neg c_11] at hf
                    by_cases c_13 : x1 = (7 : Int32)
                    · rw [if_pos c_13] at hf
                      refine lv_tableIn (tgt := 119) hx hb dX10_rider_21 (by rw [c_13]; decide) (by rw [c_13]; decide) (by rw [c_13]; rfl) (by decide) ?_
                      refine lv_aload_n hx hb dX10_rider_119 rfl (lv_at hl 0 rfl) ?_
                      refine va_get (D := D) (ci := 7) (v := .int ((qr_held (pl_riders pl)) (x0).toNatClampNeg)) (C := RX7) (T := TX7) (N := 10) hx hb hts kb_inX7 hown hK.1 hP (1 + (13 + (x0).toNatClampNeg)) (kb_at rfl (at_Plan_13 dA pa pl (x0).toNatClampNeg (kb_inlt h_3))) rfl 8 (by decide) (hK.2.w ww_1_188 rfl _) (fun _ h9 => h9) rfl dX10_rider_120 ?_
                      exact RET _ H _ ls 123 hf hP hD hS dX10_rider_123
                    · rw [if_neg c_13] at hf
                      refine lv_tableOut (tgt := 124) hx hb dX10_rider_21 (kb_sw 0 7 (fun k q1 q2 => by
                          rcases (show k = 0 ∨ k = 1 ∨ k = 2 ∨ k = 3 ∨ k = 4 ∨ k = 5 ∨ k = 6 ∨ k = 7 by omega) with rfl | rfl | rfl | rfl | rfl | rfl | rfl | rfl
                          · exact fun e => c_4 (e.trans (by decide))
                          · exact fun e => c_5 (e.trans (by decide))
                          · exact fun e => c_6 (e.trans (by decide))
                          · exact fun e => c_7 (e.trans (by decide))
                          · exact fun e => c_8 (e.trans (by decide))
                          · exact fun e => c_9 (e.trans (by decide))
                          · exact fun e => c_11 (e.trans (by decide))
                          · exact fun e => c_13 (e.trans (by decide)))) (by decide) ?_
                      refine lv_iconst (v := (-1 : Int32)) hx hb dX10_rider_124 (by decide) ?_
                      exact RET _ H _ ls 125 hf hP hD hS dX10_rider_125
    · rw [if_pos c_2] at hf
      refine lv_iconst (v := (-1 : Int32)) hx hb dX10_rider_8 (by decide) ?_
      exact RET _ H _ ls 9 hf hP hD hS dX10_rider_9
  exact E0 _ _ hP hD hS

noncomputable def f_X10_way_b32 (tp : TopT) (pl : PlanT)  : Option (Int32) := some ((-1 : Int32))
noncomputable def f_X10_way (tp : TopT) (pl : PlanT) (x0 : Int32) (x1 : Int32) : Option (Int32) := (f_X10_isRule tp pl x0).bind fun r1 => (if r1 = 0 then some ((-1 : Int32)) else if kb_in? x0 4 then (if x1 < 0 then f_X10_way_b32 tp pl  else (if x1 < ((ru_count (pl_rules pl)) (x0).toNatClampNeg) then if kb_in? x1 4 then some ((((ru_wanted (pl_rules pl)) (x0).toNatClampNeg) (x1).toNatClampNeg)) else none else f_X10_way_b32 tp pl )) else none)
set_option maxHeartbeats 4000000 in
set_option maxRecDepth 100000 in
theorem c_X10_way (l : Launch) (D : va_G) (dA : Nat → ClassId) (sz : Nat) (t : Nat → Nat) (pa : Nat → Nat) (g0 : Nat) (g2 : Nat) (g3 : Nat) (g4 : Nat) (g5 : Nat) (g6 : Nat) (g7 : Nat) (g8 : Nat) (tp : TopT) (pl : PlanT) (x0 : Int32) (x1 : Int32) (rv : Int32) (hf : f_X10_way tp pl x0 x1 = some (rv)) : kb_Mi l yX10_way cX10_way 4 (some .int) ({ frames := 1, cells := 0, slots := 0, locals := 21 } : Room) D dA [.ref (t 0), .int x0, .int x1] sz (w_Top dA t g0 (pa 0) g2 g3 g4 g5 g6 g7 g8 tp ++ (w_Plan dA pa pl)) 0 0 rv (w_Top dA t g0 (pa 0) g2 g3 g4 g5 g6 g7 g8 tp ++ (w_Plan dA pa pl)) := by
  refine Met.ofW (cc := cX10_way) (maxL := 4) (ret := (some .int)) (by decide) rfl ?_
  intro p e s m args below meth c s₁ B hml hv
  obtain ⟨rfl, hsz, hP, hK, hD0, hE⟩ := hv
  have hx := B.exec
  have hb := B.bytes
  have hr := B.returns
  have hown : s.vm.findClass RX10 = some m.cls := findClass_of_methodNamed B.named
  have hlocks := B.notSynchronized
  have hts : ∀ w ∈ kb_gw, w.before ([.ref (t 0), .int x0, .int x1] : List Value).toArray s = true := fun w hw => hK.2.1 w hw _
  subst hsz
  have hD := hD0.self (sz := s.heap.size)
  generalize hAe : va_A (w_Top dA t g0 (pa 0) g2 g3 g4 g5 g6 g7 g8 tp ++ (w_Plan dA pa pl)) s.heap.size = A at hD hE ⊢
  have hA : ∀ q : Nat, s.heap.size ≤ q → A q := fun q h => by rw [← hAe]; exact Or.inr h
  have hS : va_S A s.heap s.heap [] := va_S.rf
  have hl := lv_entry ([.ref (t 0), .int x0, .int x1]) (n := 4) (Nat.le_of_ble_eq_true rfl)
  rw [lg_entry_eq]
  generalize (lg_sl ([.ref (t 0), .int x0, .int x1]) ++ List.replicate (4 - (lg_sl ([.ref (t 0), .int x0, .int x1])).length) Slot.unset).toArray = ls at hl ⊢
  have hl : lv_has ls 4 [(0, .ref (t 0)), (1, .int x0), (2, .int x1)] := hl
  generalize hQ : MQ below (va_Qi (fun r (_ : Unit) => r = rv) (kb_B D A (w_Top dA t g0 (pa 0) g2 g3 g4 g5 g6 g7 g8 tp ++ (w_Plan dA pa pl))) A) ([.ref (t 0), .int x0, .int x1] : List Value).toArray s 0 0 A = Q
  show W p l e ({ frames := 1, cells := 0, slots := 0, locals := 21 } : Room) s m ([.ref (t 0), .int x0, .int x1] : List Value).toArray below meth c s.heap [] 0 0 Q (F0 m 0 ls [])
  have RET : ∀ (r2 : Int32) (H : Heap) (locs : List Loc) (ls : Array Slot) (pc : Nat), some (r2) = some (rv) → va_P D vwCl (w_Top dA t g0 (pa 0) g2 g3 g4 g5 g6 g7 g8 tp ++ (w_Plan dA pa pl)) H → va_D A (w_Top dA t g0 (pa 0) g2 g3 g4 g5 g6 g7 g8 tp ++ (w_Plan dA pa pl)) → va_S A s.heap H locs → decode cX10_way pc = .ok (.ireturn, 1) → W p l e ({ frames := 1, cells := 0, slots := 0, locals := 21 } : Room) s m ([.ref (t 0), .int x0, .int x1] : List Value).toArray below meth c H locs 0 0 Q (F0 m pc ls [.int r2]) := by
    intro r2 H locs ls pc hq hP hD hS hd
    cases hq
    rw [← hQ]
    exact W.iret hx hb hr (fun t ht hW => ⟨⟨_, (), rfl, rfl, by rw [ht]; exact hP, hD⟩, hS.F ht⟩) hS.2.2 hd
  have B_32 : ∀  (H : Heap) (locs : List Loc) (ls : Array Slot), f_X10_way_b32 tp pl  = some (rv) → va_P D vwCl (w_Top dA t g0 (pa 0) g2 g3 g4 g5 g6 g7 g8 tp ++ (w_Plan dA pa pl)) H → va_D A (w_Top dA t g0 (pa 0) g2 g3 g4 g5 g6 g7 g8 tp ++ (w_Plan dA pa pl)) → va_S A s.heap H locs → lv_has ls 4 [] → W p l e ({ frames := 1, cells := 0, slots := 0, locals := 21 } : Room) s m ([.ref (t 0), .int x0, .int x1] : List Value).toArray below meth c H locs 0 0 Q (F0 m 32 ls []) := by
    intro  H locs ls hf hP hD hS hl
    rw [f_X10_way_b32] at hf
    refine lv_iconst (v := (-1 : Int32)) hx hb dX10_way_32 (by decide) ?_
    refine lv_goto (tgt := 42) hx hb dX10_way_33 (by decide) ?_
    exact RET _ H _ ls 42 hf hP hD hS dX10_way_42
  have E0 : ∀ (H : Heap) (locs : List Loc), va_P D vwCl (w_Top dA t g0 (pa 0) g2 g3 g4 g5 g6 g7 g8 tp ++ (w_Plan dA pa pl)) H → va_D A (w_Top dA t g0 (pa 0) g2 g3 g4 g5 g6 g7 g8 tp ++ (w_Plan dA pa pl)) → va_S A s.heap H locs → W p l e ({ frames := 1, cells := 0, slots := 0, locals := 21 } : Room) s m ([.ref (t 0), .int x0, .int x1] : List Value).toArray below meth c H locs 0 0 Q (F0 m 0 ls []) := by
    intro H locs hP hD hS
    rw [f_X10_way] at hf
    refine lv_aload_n hx hb dX10_way_0 rfl (lv_at hl 0 rfl) ?_
    refine lv_iload_n hx hb dX10_way_1 rfl (lv_at hl 1 rfl) ?_
    obtain ⟨r1, hc1, hf⟩ := kb_bind hf
    refine kb_ci (ws2 := (w_Top dA t g0 (pa 0) g2 g3 g4 g5 g6 g7 g8 tp ++ (w_Plan dA pa pl))) (kb_rV (n := 1) (As := [.int x0]) (rest := []) hx hb hml hown hK (c_X10_isRule l D dA H.size t pa g0 g2 g3 g4 g5 g6 g7 g8 tp pl x0 r1 hc1) ⟨ww_5_3, ww_5_0, ww_5_2, ws_40, ww_1_1, rfl, by decide, by decide⟩ rfl rfl (by decide +kernel) ⟨Nat.le_of_ble_eq_true rfl, Nat.le_of_ble_eq_true rfl⟩ hP hD hS hA hE [0, 1, 2, 3, 4, 5, 6, 7, 8, 9, 10, 11, 12, 13, 14, 15, 16, 17, 18, 19, 20, 21] rfl (by decide) 0 rfl rfl rfl hl.1 rfl (Nat.le_of_ble_eq_true rfl) dX10_way_2 ⟨Nat.le_of_ble_eq_true rfl, Nat.le_of_ble_eq_true rfl⟩) hP hD hS hA [0, 1, 2, 3, 4, 5, 6, 7, 8, 9, 10, 11, 12, 13, 14, 15, 16, 17, 18, 19, 20, 21] [] [0, 1, 2, 3, 4, 5, 6, 7, 8, 9, 10, 11, 12, 13, 14, 15, 16, 17, 18, 19, 20, 21] rfl rfl (by decide) (by decide) rfl (by decide) (fun H locs hP hD hS => ?_)
    refine lv_if_ne (tgt := 10) hx hb dX10_way_5 (by decide) (fun c_2 => ?_) (fun c_2 => ?_)
    · rw [if_neg c_2] at hf
      refine lv_aload_n hx hb dX10_way_10 rfl (lv_at hl 0 rfl) ?_
      refine va_get (D := D) (ci := 10) (v := .ref (pa 0)) (C := RX10) (T := TX10) (N := 12) hx hb hts kb_inX10 hown hK.1 hP 0 rfl rfl 1 (by decide) (hK.2.w ww_2_153 rfl _) (fun _ h9 => h9) rfl dX10_way_11 ?_
      refine va_get (D := D) (ci := 5) (v := .ref (pa 3)) (C := RX5) (T := TX5) (N := 8) hx hb hts kb_inX5 hown hK.1 hP 1 rfl rfl 1 (by decide) (hK.2.w ww_1_220 rfl _) (fun _ h9 => h9) rfl dX10_way_14 ?_
      refine lv_iload_n hx hb dX10_way_17 rfl (lv_at hl 1 rfl) ?_
      obtain ⟨h_3, hf⟩ := kb_if hf
      refine va_aldq (D := D) hx hb hK.1 hP 4 6 rfl rfl h_3 dX10_way_18 ?_
      show W p l e ({ frames := 1, cells := 0, slots := 0, locals := 21 } : Room) s m ([.ref (t 0), .int x0, .int x1] : List Value).toArray below meth c _ _ 0 0 Q (F0 m 19 _ [.ref (pa (4 + (x0).toNatClampNeg))])
      refine lv_astore_n (lv' := [(3, .ref (pa (4 + (x0).toNatClampNeg))), (0, .ref (t 0)), (1, .int x0), (2, .int x1)]) hx hb dX10_way_19 rfl hl (by decide) rfl (fun ls hl => ?_)
      refine lv_iload_n hx hb dX10_way_20 rfl (lv_at hl 3 rfl) ?_
      refine lv_if_lt (tgt := 32) hx hb dX10_way_21 (by decide) (fun c_4 => ?_) (fun c_4 => ?_)
      · rw [if_pos c_4] at hf
        exact B_32 _ _ _ hf hP hD hS (lv_sub hl [] rfl)
      · rw [if_neg c_4] at hf
        refine lv_iload_n hx hb dX10_way_24 rfl (lv_at hl 3 rfl) ?_
        refine lv_aload_n hx hb dX10_way_25 rfl (lv_at hl 0 rfl) ?_
        refine va_get (D := D) (ci := 8) (v := .int ((ru_count (pl_rules pl)) (x0).toNatClampNeg)) (C := RX8) (T := TX8) (N := 3) hx hb hts kb_inX8 hown hK.1 hP (1 + (4 + (x0).toNatClampNeg)) (kb_at rfl (at_Plan_4 dA pa pl (x0).toNatClampNeg (kb_inlt h_3))) rfl 1 (by decide) (hK.2.w ww_1_144 rfl _) (fun _ h9 => h9) rfl dX10_way_26 ?_
        refine lv_icmp_lt (tgt := 36) hx hb dX10_way_29 (by decide) (fun c_5 => ?_) (fun c_5 => ?_)
        · rw [if_pos c_5] at hf
          refine lv_aload_n hx hb dX10_way_36 rfl (lv_at hl 0 rfl) ?_
          refine va_get (D := D) (ci := 8) (v := .ref (pa (8 + (x0).toNatClampNeg))) (C := RX8) (T := TX8) (N := 3) hx hb hts kb_inX8 hown hK.1 hP (1 + (4 + (x0).toNatClampNeg)) (kb_at rfl (at_Plan_4 dA pa pl (x0).toNatClampNeg (kb_inlt h_3))) rfl 2 (by decide) (hK.2.w ww_1_148 rfl _) (fun _ h9 => h9) rfl dX10_way_37 ?_
          refine lv_iload_n hx hb dX10_way_40 rfl (lv_at hl 3 rfl) ?_
          obtain ⟨h_6, hf⟩ := kb_if hf
          refine va_iald (D := D) hx hb hK.1 hP (1 + (8 + (x0).toNatClampNeg)) 0 (kb_at rfl (at_Plan_8 dA pa pl (x0).toNatClampNeg (kb_inlt h_3))) rfl h_6 dX10_way_41 ?_
          exact RET _ H _ ls 42 hf hP hD hS dX10_way_42
        · rw [if_neg c_5] at hf
          exact B_32 _ _ _ hf hP hD hS (lv_sub hl [] rfl)
    · rw [if_pos c_2] at hf
      refine lv_iconst (v := (-1 : Int32)) hx hb dX10_way_8 (by decide) ?_
      exact RET _ H _ ls 9 hf hP hD hS dX10_way_9
  exact E0 _ _ hP hD hS

noncomputable def f_X10_trouble (tp : TopT) : Option (Int32) := some ((tp_latestTrouble tp))
set_option maxHeartbeats 4000000 in
set_option maxRecDepth 100000 in
theorem c_X10_trouble (l : Launch) (D : va_G) (dA : Nat → ClassId) (sz : Nat) (t : Nat → Nat) (g0 : Nat) (g1 : Nat) (g2 : Nat) (g3 : Nat) (g4 : Nat) (g5 : Nat) (g6 : Nat) (g7 : Nat) (g8 : Nat) (tp : TopT) (rv : Int32) (hf : f_X10_trouble tp = some (rv)) : kb_Mi l yX10_trouble cX10_trouble 1 (some .int) ({ frames := 0, cells := 0, slots := 0, locals := 0 } : Room) D dA [.ref (t 0)] sz (w_Top dA t g0 g1 g2 g3 g4 g5 g6 g7 g8 tp) 0 0 rv (w_Top dA t g0 g1 g2 g3 g4 g5 g6 g7 g8 tp) := by
  refine Met.ofW (cc := cX10_trouble) (maxL := 1) (ret := (some .int)) (by decide) rfl ?_
  intro p e s m args below meth c s₁ B hml hv
  obtain ⟨rfl, hsz, hP, hK, hD0, hE⟩ := hv
  have hx := B.exec
  have hb := B.bytes
  have hr := B.returns
  have hown : s.vm.findClass RX10 = some m.cls := findClass_of_methodNamed B.named
  have hlocks := B.notSynchronized
  have hts : ∀ w ∈ kb_gw, w.before ([.ref (t 0)] : List Value).toArray s = true := fun w hw => hK.2.1 w hw _
  subst hsz
  have hD := hD0.self (sz := s.heap.size)
  generalize hAe : va_A (w_Top dA t g0 g1 g2 g3 g4 g5 g6 g7 g8 tp) s.heap.size = A at hD hE ⊢
  have hA : ∀ q : Nat, s.heap.size ≤ q → A q := fun q h => by rw [← hAe]; exact Or.inr h
  have hS : va_S A s.heap s.heap [] := va_S.rf
  have hl := lv_entry ([.ref (t 0)]) (n := 1) (Nat.le_of_ble_eq_true rfl)
  rw [lg_entry_eq]
  generalize (lg_sl ([.ref (t 0)]) ++ List.replicate (1 - (lg_sl ([.ref (t 0)])).length) Slot.unset).toArray = ls at hl ⊢
  have hl : lv_has ls 1 [(0, .ref (t 0))] := hl
  generalize hQ : MQ below (va_Qi (fun r (_ : Unit) => r = rv) (kb_B D A (w_Top dA t g0 g1 g2 g3 g4 g5 g6 g7 g8 tp)) A) ([.ref (t 0)] : List Value).toArray s 0 0 A = Q
  show W p l e ({ frames := 0, cells := 0, slots := 0, locals := 0 } : Room) s m ([.ref (t 0)] : List Value).toArray below meth c s.heap [] 0 0 Q (F0 m 0 ls [])
  have RET : ∀ (r2 : Int32) (H : Heap) (locs : List Loc) (ls : Array Slot) (pc : Nat), some (r2) = some (rv) → va_P D vwCl (w_Top dA t g0 g1 g2 g3 g4 g5 g6 g7 g8 tp) H → va_D A (w_Top dA t g0 g1 g2 g3 g4 g5 g6 g7 g8 tp) → va_S A s.heap H locs → decode cX10_trouble pc = .ok (.ireturn, 1) → W p l e ({ frames := 0, cells := 0, slots := 0, locals := 0 } : Room) s m ([.ref (t 0)] : List Value).toArray below meth c H locs 0 0 Q (F0 m pc ls [.int r2]) := by
    intro r2 H locs ls pc hq hP hD hS hd
    cases hq
    rw [← hQ]
    exact W.iret hx hb hr (fun t ht hW => ⟨⟨_, (), rfl, rfl, by rw [ht]; exact hP, hD⟩, hS.F ht⟩) hS.2.2 hd
  have E0 : ∀ (H : Heap) (locs : List Loc), va_P D vwCl (w_Top dA t g0 g1 g2 g3 g4 g5 g6 g7 g8 tp) H → va_D A (w_Top dA t g0 g1 g2 g3 g4 g5 g6 g7 g8 tp) → va_S A s.heap H locs → W p l e ({ frames := 0, cells := 0, slots := 0, locals := 0 } : Room) s m ([.ref (t 0)] : List Value).toArray below meth c H locs 0 0 Q (F0 m 0 ls []) := by
    intro H locs hP hD hS
    rw [f_X10_trouble] at hf
    refine lv_aload_n hx hb dX10_trouble_0 rfl (lv_at hl 0 rfl) ?_
    refine va_get (D := D) (ci := 10) (v := .int (tp_latestTrouble tp)) (C := RX10) (T := TX10) (N := 12) hx hb hts kb_inX10 hown hK.1 hP 0 rfl rfl 11 (by decide) (hK.2.w ww_2_163 rfl _) (fun _ h9 => h9) rfl dX10_trouble_1 ?_
    exact RET _ H _ ls 4 hf hP hD hS dX10_trouble_4
  exact E0 _ _ hP hD hS

noncomputable def f_X10_deals (tp : TopT) (pl : PlanT) : Option (Int32 × TopT) := (if (tp_hasBus tp) = 0 then (f_X10_refused tp (1 : Int32)).bind fun r6 => some (r6.1, r6.2) else (if (pl_riderCount pl) ≤ (6 : Int32) then (f_X1_howMany (pl_riderCount pl)).bind fun r3 => (f_X10_answered tp r3).bind fun r4 => some (r4.1, r4.2) else (f_X10_refused tp (3 : Int32)).bind fun r5 => some (r5.1, r5.2)))
set_option maxHeartbeats 4000000 in
set_option maxRecDepth 100000 in
theorem c_X10_deals (l : Launch) (D : va_G) (dA : Nat → ClassId) (sz : Nat) (t : Nat → Nat) (pa : Nat → Nat) (g0 : Nat) (g2 : Nat) (g3 : Nat) (g4 : Nat) (g5 : Nat) (g6 : Nat) (g7 : Nat) (g8 : Nat) (tp : TopT) (pl : PlanT) (rv : Int32) (u0 : TopT) (hf : f_X10_deals tp pl = some (rv, u0)) : kb_Mi l yX10_deals cX10_deals 1 (some .int) ({ frames := 1, cells := 0, slots := 0, locals := 22 } : Room) D dA [.ref (t 0)] sz (w_Top dA t g0 (pa 0) g2 g3 g4 g5 g6 g7 g8 tp ++ (w_Plan dA pa pl)) 0 0 rv (w_Top dA t g0 (pa 0) g2 g3 g4 g5 g6 g7 g8 u0 ++ (w_Plan dA pa pl)) := by
  refine Met.ofW (cc := cX10_deals) (maxL := 1) (ret := (some .int)) (by decide) rfl ?_
  intro p e s m args below meth c s₁ B hml hv
  obtain ⟨rfl, hsz, hP, hK, hD0, hE⟩ := hv
  have hx := B.exec
  have hb := B.bytes
  have hr := B.returns
  have hown : s.vm.findClass RX10 = some m.cls := findClass_of_methodNamed B.named
  have hlocks := B.notSynchronized
  have hts : ∀ w ∈ kb_gw, w.before ([.ref (t 0)] : List Value).toArray s = true := fun w hw => hK.2.1 w hw _
  subst hsz
  have hD := hD0.self (sz := s.heap.size)
  generalize hAe : va_A (w_Top dA t g0 (pa 0) g2 g3 g4 g5 g6 g7 g8 tp ++ (w_Plan dA pa pl)) s.heap.size = A at hD hE ⊢
  have hA : ∀ q : Nat, s.heap.size ≤ q → A q := fun q h => by rw [← hAe]; exact Or.inr h
  have hS : va_S A s.heap s.heap [] := va_S.rf
  have hl := lv_entry ([.ref (t 0)]) (n := 1) (Nat.le_of_ble_eq_true rfl)
  rw [lg_entry_eq]
  generalize (lg_sl ([.ref (t 0)]) ++ List.replicate (1 - (lg_sl ([.ref (t 0)])).length) Slot.unset).toArray = ls at hl ⊢
  have hl : lv_has ls 1 [(0, .ref (t 0))] := hl
  generalize hQ : MQ below (va_Qi (fun r (_ : Unit) => r = rv) (kb_B D A (w_Top dA t g0 (pa 0) g2 g3 g4 g5 g6 g7 g8 u0 ++ (w_Plan dA pa pl))) A) ([.ref (t 0)] : List Value).toArray s 0 0 A = Q
  show W p l e ({ frames := 1, cells := 0, slots := 0, locals := 22 } : Room) s m ([.ref (t 0)] : List Value).toArray below meth c s.heap [] 0 0 Q (F0 m 0 ls [])
  have RET : ∀ (r2 : Int32) (w0 : TopT) (H : Heap) (locs : List Loc) (ls : Array Slot) (pc : Nat), some (r2, w0) = some (rv, u0) → va_P D vwCl (w_Top dA t g0 (pa 0) g2 g3 g4 g5 g6 g7 g8 w0 ++ (w_Plan dA pa pl)) H → va_D A (w_Top dA t g0 (pa 0) g2 g3 g4 g5 g6 g7 g8 w0 ++ (w_Plan dA pa pl)) → va_S A s.heap H locs → decode cX10_deals pc = .ok (.ireturn, 1) → W p l e ({ frames := 1, cells := 0, slots := 0, locals := 22 } : Room) s m ([.ref (t 0)] : List Value).toArray below meth c H locs 0 0 Q (F0 m pc ls [.int r2]) := by
    intro r2 w0 H locs ls pc hq hP hD hS hd
    cases hq
    rw [← hQ]
    exact W.iret hx hb hr (fun t ht hW => ⟨⟨_, (), rfl, rfl, by rw [ht]; exact hP, hD⟩, hS.F ht⟩) hS.2.2 hd
  have E0 : ∀ (H : Heap) (locs : List Loc), va_P D vwCl (w_Top dA t g0 (pa 0) g2 g3 g4 g5 g6 g7 g8 tp ++ (w_Plan dA pa pl)) H → va_D A (w_Top dA t g0 (pa 0) g2 g3 g4 g5 g6 g7 g8 tp ++ (w_Plan dA pa pl)) → va_S A s.heap H locs → W p l e ({ frames := 1, cells := 0, slots := 0, locals := 22 } : Room) s m ([.ref (t 0)] : List Value).toArray below meth c H locs 0 0 Q (F0 m 0 ls []) := by
    intro H locs hP hD hS
    rw [f_X10_deals] at hf
    refine lv_aload_n hx hb dX10_deals_0 rfl (lv_at hl 0 rfl) ?_
    refine va_get (D := D) (ci := 10) (v := .int (tp_hasBus tp)) (C := RX10) (T := TX10) (N := 12) hx hb hts kb_inX10 hown hK.1 hP 0 rfl rfl 3 (by decide) (hK.2.w ww_2_155 rfl _) (fun _ h9 => h9) rfl dX10_deals_1 ?_
    refine lv_if_ne (tgt := 13) hx hb dX10_deals_4 (by decide) (fun c_1 => ?_) (fun c_1 => ?_)
    · rw [if_neg c_1] at hf
      refine lv_aload_n hx hb dX10_deals_13 rfl (lv_at hl 0 rfl) ?_
      refine va_get (D := D) (ci := 10) (v := .ref (pa 0)) (C := RX10) (T := TX10) (N := 12) hx hb hts kb_inX10 hown hK.1 hP 0 rfl rfl 1 (by decide) (hK.2.w ww_2_153 rfl _) (fun _ h9 => h9) rfl dX10_deals_14 ?_
      refine va_get (D := D) (ci := 5) (v := .int (pl_riderCount pl)) (C := RX5) (T := TX5) (N := 8) hx hb hts kb_inX5 hown hK.1 hP 1 rfl rfl 5 (by decide) (hK.2.w ww_1_236 rfl _) (fun _ h9 => h9) rfl dX10_deals_17 ?_
      refine lv_bipush (v := (6 : Int32)) hx hb dX10_deals_20 (by decide) ?_
      refine lv_icmp_le (tgt := 31) hx hb dX10_deals_22 (by decide) (fun c_2 => ?_) (fun c_2 => ?_)
      · rw [if_pos c_2] at hf
        refine lv_aload_n hx hb dX10_deals_31 rfl (lv_at hl 0 rfl) ?_
        refine lv_aload_n hx hb dX10_deals_32 rfl (lv_at hl 0 rfl) ?_
        refine va_get (D := D) (ci := 10) (v := .ref (pa 0)) (C := RX10) (T := TX10) (N := 12) hx hb hts kb_inX10 hown hK.1 hP 0 rfl rfl 1 (by decide) (hK.2.w ww_2_153 rfl _) (fun _ h9 => h9) rfl dX10_deals_33 ?_
        refine va_get (D := D) (ci := 5) (v := .int (pl_riderCount pl)) (C := RX5) (T := TX5) (N := 8) hx hb hts kb_inX5 hown hK.1 hP 1 rfl rfl 5 (by decide) (hK.2.w ww_1_236 rfl _) (fun _ h9 => h9) rfl dX10_deals_36 ?_
        obtain ⟨r3, hc3, hf⟩ := kb_bind hf
        refine kb_ci (ws2 := (w_Top dA t g0 (pa 0) g2 g3 g4 g5 g6 g7 g8 tp ++ (w_Plan dA pa pl))) (kb_rS (n := 1) (As := [.int (pl_riderCount pl)]) (rest := [.ref (t 0)]) hx hb hml hown hK (c_X1_howMany l D dA H.size (pl_riderCount pl) r3 hc3) ⟨ww_5_26, ww_5_47, ww_5_25, ww_1_11, by decide, by decide⟩ rfl rfl (by decide +kernel) ⟨Nat.le_of_ble_eq_true rfl, Nat.le_of_ble_eq_true rfl⟩ hP hD hS hA hE [] rfl (by decide) rfl hl.1 rfl (Nat.le_of_ble_eq_true rfl) dX10_deals_39 ⟨Nat.le_of_ble_eq_true rfl, Nat.le_of_ble_eq_true rfl⟩) hP hD hS hA [] [0, 1, 2, 3, 4, 5, 6, 7, 8, 9, 10, 11, 12, 13, 14, 15, 16, 17, 18, 19, 20, 21] [0, 1, 2, 3, 4, 5, 6, 7, 8, 9, 10, 11, 12, 13, 14, 15, 16, 17, 18, 19, 20, 21] rfl rfl (by decide) (by decide) rfl (by decide) (fun H locs hP hD hS => ?_)
        obtain ⟨r4, hc4, hf⟩ := kb_bind hf
        refine kb_ci (ws2 := (w_Top dA t g0 (pa 0) g2 g3 g4 g5 g6 g7 g8 r4.2 ++ (w_Plan dA pa pl))) (kb_rV (n := 1) (As := [.int r3]) (rest := []) hx hb hml hown hK (c_X10_answered l D dA H.size t g0 (pa 0) g2 g3 g4 g5 g6 g7 g8 tp r3 r4.1 r4.2 hc4) ⟨ww_3_184, ww_3_181, ww_3_183, ws_22, ww_1_1, rfl, by decide, by decide⟩ rfl rfl (by decide +kernel) ⟨Nat.le_of_ble_eq_true rfl, Nat.le_of_ble_eq_true rfl⟩ hP hD hS hA hE [0] rfl (by decide) 0 rfl rfl rfl hl.1 rfl (Nat.le_of_ble_eq_true rfl) dX10_deals_42 ⟨Nat.le_of_ble_eq_true rfl, Nat.le_of_ble_eq_true rfl⟩) hP hD hS hA [0] [1, 2, 3, 4, 5, 6, 7, 8, 9, 10, 11, 12, 13, 14, 15, 16, 17, 18, 19, 20, 21] [21, 0, 1, 2, 3, 4, 5, 6, 7, 8, 9, 10, 11, 12, 13, 14, 15, 16, 17, 18, 19, 20] rfl rfl (by decide) (by decide) rfl (by decide) (fun H locs hP hD hS => ?_)
        exact RET _ _ H _ ls 45 hf hP hD hS dX10_deals_45
      · rw [if_neg c_2] at hf
        refine lv_aload_n hx hb dX10_deals_25 rfl (lv_at hl 0 rfl) ?_
        refine lv_iconst (v := (3 : Int32)) hx hb dX10_deals_26 (by decide) ?_
        obtain ⟨r5, hc5, hf⟩ := kb_bind hf
        refine kb_ci (ws2 := (w_Top dA t g0 (pa 0) g2 g3 g4 g5 g6 g7 g8 r5.2 ++ (w_Plan dA pa pl))) (kb_rV (n := 1) (As := [.int (3 : Int32)]) (rest := []) hx hb hml hown hK (c_X10_refused l D dA H.size t g0 (pa 0) g2 g3 g4 g5 g6 g7 g8 tp (3 : Int32) r5.1 r5.2 hc5) ⟨ww_2_204, ww_2_201, ww_2_203, ws_0, ww_1_1, rfl, by decide, by decide⟩ rfl rfl (by decide +kernel) ⟨Nat.le_of_ble_eq_true rfl, Nat.le_of_ble_eq_true rfl⟩ hP hD hS hA hE [0] rfl (by decide) 0 rfl rfl rfl hl.1 rfl (Nat.le_of_ble_eq_true rfl) dX10_deals_27 ⟨Nat.le_of_ble_eq_true rfl, Nat.le_of_ble_eq_true rfl⟩) hP hD hS hA [0] [1, 2, 3, 4, 5, 6, 7, 8, 9, 10, 11, 12, 13, 14, 15, 16, 17, 18, 19, 20, 21] [21, 0, 1, 2, 3, 4, 5, 6, 7, 8, 9, 10, 11, 12, 13, 14, 15, 16, 17, 18, 19, 20] rfl rfl (by decide) (by decide) rfl (by decide) (fun H locs hP hD hS => ?_)
        exact RET _ _ H _ ls 30 hf hP hD hS dX10_deals_30
    · rw [if_pos c_1] at hf
      refine lv_aload_n hx hb dX10_deals_7 rfl (lv_at hl 0 rfl) ?_
      refine lv_iconst (v := (1 : Int32)) hx hb dX10_deals_8 (by decide) ?_
      obtain ⟨r6, hc6, hf⟩ := kb_bind hf
      refine kb_ci (ws2 := (w_Top dA t g0 (pa 0) g2 g3 g4 g5 g6 g7 g8 r6.2 ++ (w_Plan dA pa pl))) (kb_rV (n := 1) (As := [.int (1 : Int32)]) (rest := []) hx hb hml hown hK (c_X10_refused l D dA H.size t g0 (pa 0) g2 g3 g4 g5 g6 g7 g8 tp (1 : Int32) r6.1 r6.2 hc6) ⟨ww_2_204, ww_2_201, ww_2_203, ws_0, ww_1_1, rfl, by decide, by decide⟩ rfl rfl (by decide +kernel) ⟨Nat.le_of_ble_eq_true rfl, Nat.le_of_ble_eq_true rfl⟩ hP hD hS hA hE [0] rfl (by decide) 0 rfl rfl rfl hl.1 rfl (Nat.le_of_ble_eq_true rfl) dX10_deals_9 ⟨Nat.le_of_ble_eq_true rfl, Nat.le_of_ble_eq_true rfl⟩) hP hD hS hA [0] [1, 2, 3, 4, 5, 6, 7, 8, 9, 10, 11, 12, 13, 14, 15, 16, 17, 18, 19, 20, 21] [21, 0, 1, 2, 3, 4, 5, 6, 7, 8, 9, 10, 11, 12, 13, 14, 15, 16, 17, 18, 19, 20] rfl rfl (by decide) (by decide) rfl (by decide) (fun H locs hP hD hS => ?_)
      exact RET _ _ H _ ls 12 hf hP hD hS dX10_deals_12
  exact E0 _ _ hP hD hS
