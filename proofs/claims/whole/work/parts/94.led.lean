noncomputable def f_X10_led_b19 (tp : TopT) (rd : RideT) (pl : PlanT) (s0 : Int32) : Option (Int32) := (if s0 = (-1 : Int32) then none else some (s0))
noncomputable def f_X10_led (tp : TopT) (rd : RideT) (pl : PlanT) (x0 : Int32) : Option (Int32) := (if (tp_hasBus tp) = 0 then f_X10_led_b19 tp rd pl (-1 : Int32) else (f_X6_standerAt rd pl x0).bind fun r3 => f_X10_led_b19 tp rd pl r3)
set_option maxHeartbeats 4000000 in
set_option maxRecDepth 100000 in
theorem c_X10_led (l : Launch) (D : va_G) (dA : Nat → ClassId) (sz : Nat) (t : Nat → Nat) (a : Nat → Nat) (pa : Nat → Nat) (g0 : Nat) (g2 : Nat) (g4 : Nat) (g5 : Nat) (g6 : Nat) (g7 : Nat) (g8 : Nat) (tp : TopT) (rd : RideT) (pl : PlanT) (x0 : Int32) (rv : Int32) (hf : f_X10_led tp rd pl x0 = some (rv)) : kb_Mi l yX10_led cX10_led 3 (some .int) ({ frames := 1, cells := 0, slots := 0, locals := 23 } : Room) D dA [.ref (t 0), .int x0] sz (w_Top dA t g0 (pa 0) g2 (a 0) g4 g5 g6 g7 g8 tp ++ (w_Ride dA a (pa 0) (pa 1) rd ++ (w_Plan dA pa pl))) 0 0 rv (w_Top dA t g0 (pa 0) g2 (a 0) g4 g5 g6 g7 g8 tp ++ (w_Ride dA a (pa 0) (pa 1) rd ++ (w_Plan dA pa pl))) := by
  refine Met.ofW (cc := cX10_led) (maxL := 3) (ret := (some .int)) (by decide) rfl ?_
  intro p e s m args below meth c s₁ B hml hv
  obtain ⟨rfl, hsz, hP, hK, hD0, hE⟩ := hv
  have hx := B.exec
  have hb := B.bytes
  have hr := B.returns
  have hown : s.vm.findClass RX10 = some m.cls := findClass_of_methodNamed B.named
  have hlocks := B.notSynchronized
  have hts : ∀ w ∈ kb_gw, w.before ([.ref (t 0), .int x0] : List Value).toArray s = true := fun w hw => hK.2.1 w hw _
  subst hsz
  have hD := hD0.self (sz := s.heap.size)
  generalize hAe : va_A (w_Top dA t g0 (pa 0) g2 (a 0) g4 g5 g6 g7 g8 tp ++ (w_Ride dA a (pa 0) (pa 1) rd ++ (w_Plan dA pa pl))) s.heap.size = A at hD hE ⊢
  have hA : ∀ q : Nat, s.heap.size ≤ q → A q := fun q h => by rw [← hAe]; exact Or.inr h
  have hS : va_S A s.heap s.heap [] := va_S.rf
  have hl := lv_entry ([.ref (t 0), .int x0]) (n := 3) (Nat.le_of_ble_eq_true rfl)
  rw [lg_entry_eq]
  generalize (lg_sl ([.ref (t 0), .int x0]) ++ List.replicate (3 - (lg_sl ([.ref (t 0), .int x0])).length) Slot.unset).toArray = ls at hl ⊢
  have hl : lv_has ls 3 [(0, .ref (t 0)), (1, .int x0)] := hl
  generalize hQ : MQ below (va_Qi (fun r (_ : Unit) => r = rv) (kb_B D A (w_Top dA t g0 (pa 0) g2 (a 0) g4 g5 g6 g7 g8 tp ++ (w_Ride dA a (pa 0) (pa 1) rd ++ (w_Plan dA pa pl)))) A) ([.ref (t 0), .int x0] : List Value).toArray s 0 0 A = Q
  show W p l e ({ frames := 1, cells := 0, slots := 0, locals := 23 } : Room) s m ([.ref (t 0), .int x0] : List Value).toArray below meth c s.heap [] 0 0 Q (F0 m 0 ls [])
  have RET : ∀ (r2 : Int32) (H : Heap) (locs : List Loc) (ls : Array Slot) (pc : Nat), some (r2) = some (rv) → va_P D vwCl (w_Top dA t g0 (pa 0) g2 (a 0) g4 g5 g6 g7 g8 tp ++ (w_Ride dA a (pa 0) (pa 1) rd ++ (w_Plan dA pa pl))) H → va_D A (w_Top dA t g0 (pa 0) g2 (a 0) g4 g5 g6 g7 g8 tp ++ (w_Ride dA a (pa 0) (pa 1) rd ++ (w_Plan dA pa pl))) → va_S A s.heap H locs → decode cX10_led pc = .ok (.ireturn, 1) → W p l e ({ frames := 1, cells := 0, slots := 0, locals := 23 } : Room) s m ([.ref (t 0), .int x0] : List Value).toArray below meth c H locs 0 0 Q (F0 m pc ls [.int r2]) := by
    intro r2 H locs ls pc hq hP hD hS hd
    cases hq
    rw [← hQ]
    exact W.iret hx hb hr (fun t ht hW => ⟨⟨_, (), rfl, rfl, by rw [ht]; exact hP, hD⟩, hS.F ht⟩) hS.2.2 hd
  have B_19 : ∀ (s0 : Int32) (H : Heap) (locs : List Loc) (ls : Array Slot), f_X10_led_b19 tp rd pl s0 = some (rv) → va_P D vwCl (w_Top dA t g0 (pa 0) g2 (a 0) g4 g5 g6 g7 g8 tp ++ (w_Ride dA a (pa 0) (pa 1) rd ++ (w_Plan dA pa pl))) H → va_D A (w_Top dA t g0 (pa 0) g2 (a 0) g4 g5 g6 g7 g8 tp ++ (w_Ride dA a (pa 0) (pa 1) rd ++ (w_Plan dA pa pl))) → va_S A s.heap H locs → lv_has ls 3 [] → W p l e ({ frames := 1, cells := 0, slots := 0, locals := 23 } : Room) s m ([.ref (t 0), .int x0] : List Value).toArray below meth c H locs 0 0 Q (F0 m 19 ls [.int s0]) := by
    intro s0 H locs ls hf hP hD hS hl
    rw [f_X10_led_b19] at hf
    refine lv_istore_n (lv' := [(2, .int s0)]) hx hb dX10_led_19 rfl hl (by decide) rfl (fun ls hl => ?_)
    refine lv_iload_n hx hb dX10_led_20 rfl (lv_at hl 0 rfl) ?_
    refine lv_iconst (v := (-1 : Int32)) hx hb dX10_led_21 (by decide) ?_
    refine lv_icmp_ne (tgt := 36) hx hb dX10_led_22 (by decide) (fun c_2 => ?_) (fun c_2 => ?_)
    · rw [if_neg c_2] at hf
      refine lv_iload_n hx hb dX10_led_36 rfl (lv_at hl 0 rfl) ?_
      exact RET _ H _ ls 37 hf hP hD hS dX10_led_37
    · rw [if_pos c_2] at hf
      cases hf
  have E0 : ∀ (H : Heap) (locs : List Loc), va_P D vwCl (w_Top dA t g0 (pa 0) g2 (a 0) g4 g5 g6 g7 g8 tp ++ (w_Ride dA a (pa 0) (pa 1) rd ++ (w_Plan dA pa pl))) H → va_D A (w_Top dA t g0 (pa 0) g2 (a 0) g4 g5 g6 g7 g8 tp ++ (w_Ride dA a (pa 0) (pa 1) rd ++ (w_Plan dA pa pl))) → va_S A s.heap H locs → W p l e ({ frames := 1, cells := 0, slots := 0, locals := 23 } : Room) s m ([.ref (t 0), .int x0] : List Value).toArray below meth c H locs 0 0 Q (F0 m 0 ls []) := by
    intro H locs hP hD hS
    rw [f_X10_led] at hf
    refine lv_aload_n hx hb dX10_led_0 rfl (lv_at hl 0 rfl) ?_
    refine va_get (D := D) (ci := 10) (v := .int (tp_hasBus tp)) (C := RX10) (T := TX10) (N := 12) hx hb hts kb_inX10 hown hK.1 hP 0 rfl rfl 3 (by decide) (hK.2.w ww_2_155 rfl _) (fun _ h9 => h9) rfl dX10_led_1 ?_
    refine lv_if_eq (tgt := 18) hx hb dX10_led_4 (by decide) (fun c_1 => ?_) (fun c_1 => ?_)
    · rw [if_pos c_1] at hf
      refine lv_iconst (v := (-1 : Int32)) hx hb dX10_led_18 (by decide) ?_
      exact B_19 _ _ _ _ hf hP hD hS (lv_sub hl [] rfl)
    · rw [if_neg c_1] at hf
      refine lv_aload_n hx hb dX10_led_7 rfl (lv_at hl 0 rfl) ?_
      refine va_get (D := D) (ci := 10) (v := .ref (a 0)) (C := RX10) (T := TX10) (N := 12) hx hb hts kb_inX10 hown hK.1 hP 0 rfl rfl 4 (by decide) (hK.2.w ww_2_156 rfl _) (fun _ h9 => h9) rfl dX10_led_8 ?_
      refine lv_iload_n hx hb dX10_led_11 rfl (lv_at hl 1 rfl) ?_
      obtain ⟨r3, hc3, hf⟩ := kb_bind hf
      refine kb_ci (ws2 := (w_Top dA t g0 (pa 0) g2 (a 0) g4 g5 g6 g7 g8 tp ++ (w_Ride dA a (pa 0) (pa 1) rd ++ (w_Plan dA pa pl)))) (kb_rV (n := 1) (As := [.int x0]) (rest := []) hx hb hml hown hK (c_X6_standerAt l D dA H.size a pa rd pl x0 r3 hc3) ⟨ww_5_128, ww_5_125, ww_5_126, ww_5_127, ww_1_8, rfl, by decide, by decide⟩ rfl rfl (by decide +kernel) ⟨Nat.le_of_ble_eq_true rfl, Nat.le_of_ble_eq_true rfl⟩ hP hD hS hA hE [1, 2, 3, 4, 5, 6, 7, 8, 9, 10, 11, 12, 13, 14, 15, 16, 17, 18, 19, 20, 21, 22, 23, 24, 25, 26, 27, 28, 29, 30] rfl (by decide) 0 rfl rfl rfl hl.1 rfl (Nat.le_of_ble_eq_true rfl) dX10_led_12 ⟨Nat.le_of_ble_eq_true rfl, Nat.le_of_ble_eq_true rfl⟩) hP hD hS hA [1, 2, 3, 4, 5, 6, 7, 8, 9, 10, 11, 12, 13, 14, 15, 16, 17, 18, 19, 20, 21, 22, 23, 24, 25, 26, 27, 28, 29, 30] [0] [0, 1, 2, 3, 4, 5, 6, 7, 8, 9, 10, 11, 12, 13, 14, 15, 16, 17, 18, 19, 20, 21, 22, 23, 24, 25, 26, 27, 28, 29, 30] rfl rfl (by decide) (by decide) rfl (by decide) (fun H locs hP hD hS => ?_)
      refine lv_goto (tgt := 19) hx hb dX10_led_15 (by decide) ?_
      exact B_19 _ _ _ _ hf hP hD hS (lv_sub hl [] rfl)
  exact E0 _ _ hP hD hS
