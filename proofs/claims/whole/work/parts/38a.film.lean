noncomputable def f_X10_film_b39 (pl : PlanT) (z0 : TopT) (z2 : FilmsT) : Option (Int32 × TopT × FilmsT) := (f_X10_refused z0 (2 : Int32)).bind fun r4 => some (r4.1, r4.2, z2)
noncomputable def f_X10_film_b72 (pl : PlanT) (z0 : TopT) (z2 : FilmsT) : Option (Int32 × TopT × FilmsT) := (f_X10_answered z0 (fm_count z2)).bind fun r9 => some (r9.1, r9.2, z2)
noncomputable def f_X10_film (tp : TopT) (pl : PlanT) (fm : FilmsT) (x0 : Int32) (x1 : Int32) : Option (Int32 × TopT × FilmsT) := (f_X10_isSeat tp pl x1).bind fun r1 => (if r1 = 0 then (f_X10_refused tp (1 : Int32)).bind fun r11 => some (r11.1, r11.2, fm) else (if (x0 &&& ((cb_seats (pl_cab pl)) ^^^ (-1 : Int32))) = 0 then (f_X10_holdsBit x0 x1).bind fun r5 => (if r5 = 0 then (if (fm_count fm) < (12 : Int32) then (f_X2_add fm x0 x1).bind fun r8 => f_X10_film_b72 pl tp r8 else (f_X10_refused tp (3 : Int32)).bind fun r10 => some (r10.1, r10.2, fm)) else f_X10_film_b39 pl tp fm) else f_X10_film_b39 pl tp fm))
set_option maxHeartbeats 4000000 in
set_option maxRecDepth 100000 in
theorem c_X10_film (l : Launch) (D : va_G) (dA : Nat → ClassId) (sz : Nat) (t : Nat → Nat) (pa : Nat → Nat) (fa : Nat → Nat) (g0 : Nat) (g2 : Nat) (g3 : Nat) (g4 : Nat) (g6 : Nat) (g7 : Nat) (g8 : Nat) (tp : TopT) (pl : PlanT) (fm : FilmsT) (x0 : Int32) (x1 : Int32) (rv : Int32) (u0 : TopT) (u2 : FilmsT) (hf : f_X10_film tp pl fm x0 x1 = some (rv, u0, u2)) : kb_Mi l yX10_film cX10_film 3 (some .int) ({ frames := 2, cells := 0, slots := 0, locals := 42 } : Room) D dA [.ref (t 0), .int x0, .int x1] sz (w_Top dA t g0 (pa 0) g2 g3 g4 (fa 0) g6 g7 g8 tp ++ (w_Plan dA pa pl ++ (w_Films dA fa fm))) 0 0 rv (w_Top dA t g0 (pa 0) g2 g3 g4 (fa 0) g6 g7 g8 u0 ++ (w_Plan dA pa pl ++ (w_Films dA fa u2))) := by
  refine Met.ofW (cc := cX10_film) (maxL := 3) (ret := (some .int)) (by decide) rfl ?_
  intro p e s m args below meth c s₁ B hml hv
  obtain ⟨rfl, hsz, hP, hK, hD0, hE⟩ := hv
  have hx := B.exec
  have hb := B.bytes
  have hr := B.returns
  have hown : s.vm.findClass RX10 = some m.cls := findClass_of_methodNamed B.named
  have hlocks := B.notSynchronized
  have hts : ∀ w ∈ kb_gw, w.before ([.ref (t 0), .int x0, .int x1] : List Value).toArray s = true := fun w hw => hK.2.1 w hw _
  subst hsz
  have hD := hD0.self (sz := s.heap.size)
  generalize hAe : va_A (w_Top dA t g0 (pa 0) g2 g3 g4 (fa 0) g6 g7 g8 tp ++ (w_Plan dA pa pl ++ (w_Films dA fa fm))) s.heap.size = A at hD hE ⊢
  have hA : ∀ q : Nat, s.heap.size ≤ q → A q := fun q h => by rw [← hAe]; exact Or.inr h
  have hS : va_S A s.heap s.heap [] := va_S.rf
  have hl := lv_entry ([.ref (t 0), .int x0, .int x1]) (n := 3) (Nat.le_of_ble_eq_true rfl)
  rw [lg_entry_eq]
  generalize (lg_sl ([.ref (t 0), .int x0, .int x1]) ++ List.replicate (3 - (lg_sl ([.ref (t 0), .int x0, .int x1])).length) Slot.unset).toArray = ls at hl ⊢
  have hl : lv_has ls 3 [(0, .ref (t 0)), (1, .int x0), (2, .int x1)] := hl
  generalize hQ : MQ below (va_Qi (fun r (_ : Unit) => r = rv) (kb_B D A (w_Top dA t g0 (pa 0) g2 g3 g4 (fa 0) g6 g7 g8 u0 ++ (w_Plan dA pa pl ++ (w_Films dA fa u2)))) A) ([.ref (t 0), .int x0, .int x1] : List Value).toArray s 0 0 A = Q
  show W p l e ({ frames := 2, cells := 0, slots := 0, locals := 42 } : Room) s m ([.ref (t 0), .int x0, .int x1] : List Value).toArray below meth c s.heap [] 0 0 Q (F0 m 0 ls [])
  have RET : ∀ (r2 : Int32) (w0 : TopT) (w2 : FilmsT) (H : Heap) (locs : List Loc) (ls : Array Slot) (pc : Nat), some (r2, w0, w2) = some (rv, u0, u2) → va_P D vwCl (w_Top dA t g0 (pa 0) g2 g3 g4 (fa 0) g6 g7 g8 w0 ++ (w_Plan dA pa pl ++ (w_Films dA fa w2))) H → va_D A (w_Top dA t g0 (pa 0) g2 g3 g4 (fa 0) g6 g7 g8 w0 ++ (w_Plan dA pa pl ++ (w_Films dA fa w2))) → va_S A s.heap H locs → decode cX10_film pc = .ok (.ireturn, 1) → W p l e ({ frames := 2, cells := 0, slots := 0, locals := 42 } : Room) s m ([.ref (t 0), .int x0, .int x1] : List Value).toArray below meth c H locs 0 0 Q (F0 m pc ls [.int r2]) := by
    intro r2 w0 w2 H locs ls pc hq hP hD hS hd
    cases hq
    rw [← hQ]
    exact W.iret hx hb hr (fun t ht hW => ⟨⟨_, (), rfl, rfl, by rw [ht]; exact hP, hD⟩, hS.F ht⟩) hS.2.2 hd
  have B_39 : ∀ (z0 : TopT) (z2 : FilmsT) (H : Heap) (locs : List Loc) (ls : Array Slot), f_X10_film_b39 pl z0 z2 = some (rv, u0, u2) → va_P D vwCl (w_Top dA t g0 (pa 0) g2 g3 g4 (fa 0) g6 g7 g8 z0 ++ (w_Plan dA pa pl ++ (w_Films dA fa z2))) H → va_D A (w_Top dA t g0 (pa 0) g2 g3 g4 (fa 0) g6 g7 g8 z0 ++ (w_Plan dA pa pl ++ (w_Films dA fa z2))) → va_S A s.heap H locs → lv_has ls 3 [(0, .ref (t 0))] → W p l e ({ frames := 2, cells := 0, slots := 0, locals := 42 } : Room) s m ([.ref (t 0), .int x0, .int x1] : List Value).toArray below meth c H locs 0 0 Q (F0 m 39 ls []) := by
    intro z0 z2 H locs ls hf hP hD hS hl
    rw [f_X10_film_b39] at hf
    refine lv_aload_n hx hb dX10_film_39 rfl (lv_at hl 0 rfl) ?_
    refine lv_iconst (v := (2 : Int32)) hx hb dX10_film_40 (by decide) ?_
    obtain ⟨r4, hc4, hf⟩ := kb_bind hf
    refine kb_ci (ws2 := (w_Top dA t g0 (pa 0) g2 g3 g4 (fa 0) g6 g7 g8 r4.2 ++ (w_Plan dA pa pl ++ (w_Films dA fa z2)))) (kb_rV (n := 1) (As := [.int (2 : Int32)]) (rest := []) hx hb hml hown hK (c_X10_refused l D dA H.size t g0 (pa 0) g2 g3 g4 (fa 0) g6 g7 g8 z0 (2 : Int32) r4.1 r4.2 hc4) ⟨ww_2_204, ww_2_201, ww_2_203, ws_0, ww_1_1, rfl, by decide, by decide⟩ rfl rfl (by decide +kernel) ⟨Nat.le_of_ble_eq_true rfl, Nat.le_of_ble_eq_true rfl⟩ hP hD hS hA hE [0] rfl (by decide) 0 rfl rfl rfl hl.1 rfl (Nat.le_of_ble_eq_true rfl) dX10_film_41 ⟨Nat.le_of_ble_eq_true rfl, Nat.le_of_ble_eq_true rfl⟩) hP hD hS hA [0] [1, 2, 3, 4, 5, 6, 7, 8, 9, 10, 11, 12, 13, 14, 15, 16, 17, 18, 19, 20, 21, 22, 23, 24] [24, 0, 1, 2, 3, 4, 5, 6, 7, 8, 9, 10, 11, 12, 13, 14, 15, 16, 17, 18, 19, 20, 21, 22, 23] rfl rfl (by decide) (by decide) rfl (by decide) (fun H locs hP hD hS => ?_)
    exact RET _ _ _ H _ ls 44 hf hP hD hS dX10_film_44
  have B_72 : ∀ (z0 : TopT) (z2 : FilmsT) (H : Heap) (locs : List Loc) (ls : Array Slot), f_X10_film_b72 pl z0 z2 = some (rv, u0, u2) → va_P D vwCl (w_Top dA t g0 (pa 0) g2 g3 g4 (fa 0) g6 g7 g8 z0 ++ (w_Plan dA pa pl ++ (w_Films dA fa z2))) H → va_D A (w_Top dA t g0 (pa 0) g2 g3 g4 (fa 0) g6 g7 g8 z0 ++ (w_Plan dA pa pl ++ (w_Films dA fa z2))) → va_S A s.heap H locs → lv_has ls 3 [(0, .ref (t 0))] → W p l e ({ frames := 2, cells := 0, slots := 0, locals := 42 } : Room) s m ([.ref (t 0), .int x0, .int x1] : List Value).toArray below meth c H locs 0 0 Q (F0 m 72 ls []) := by
    intro z0 z2 H locs ls hf hP hD hS hl
    rw [f_X10_film_b72] at hf
    refine lv_aload_n hx hb dX10_film_72 rfl (lv_at hl 0 rfl) ?_
    refine lv_aload_n hx hb dX10_film_73 rfl (lv_at hl 0 rfl) ?_
    refine va_get (D := D) (ci := 10) (v := .ref (fa 0)) (C := RX10) (T := TX10) (N := 12) hx hb hts kb_inX10 hown hK.1 hP 0 rfl rfl 7 (by decide) (hK.2.w ww_2_159 rfl _) (fun _ h9 => h9) rfl dX10_film_74 ?_
    refine va_get (D := D) (ci := 2) (v := .int (fm_count z2)) (C := RX2) (T := TX2) (N := 3) hx hb hts kb_inX2 hown hK.1 hP 22 rfl rfl 2 (by decide) (hK.2.w ww_2_32 rfl _) (fun _ h9 => h9) rfl dX10_film_77 ?_
    obtain ⟨r9, hc9, hf⟩ := kb_bind hf
    refine kb_ci (ws2 := (w_Top dA t g0 (pa 0) g2 g3 g4 (fa 0) g6 g7 g8 r9.2 ++ (w_Plan dA pa pl ++ (w_Films dA fa z2)))) (kb_rV (n := 1) (As := [.int (fm_count z2)]) (rest := []) hx hb hml hown hK (c_X10_answered l D dA H.size t g0 (pa 0) g2 g3 g4 (fa 0) g6 g7 g8 z0 (fm_count z2) r9.1 r9.2 hc9) ⟨ww_3_184, ww_3_181, ww_3_183, ws_22, ww_1_1, rfl, by decide, by decide⟩ rfl rfl (by decide +kernel) ⟨Nat.le_of_ble_eq_true rfl, Nat.le_of_ble_eq_true rfl⟩ hP hD hS hA hE [0] rfl (by decide) 0 rfl rfl rfl hl.1 rfl (Nat.le_of_ble_eq_true rfl) dX10_film_80 ⟨Nat.le_of_ble_eq_true rfl, Nat.le_of_ble_eq_true rfl⟩) hP hD hS hA [0] [1, 2, 3, 4, 5, 6, 7, 8, 9, 10, 11, 12, 13, 14, 15, 16, 17, 18, 19, 20, 21, 22, 23, 24] [24, 0, 1, 2, 3, 4, 5, 6, 7, 8, 9, 10, 11, 12, 13, 14, 15, 16, 17, 18, 19, 20, 21, 22, 23] rfl rfl (by decide) (by decide) rfl (by decide) (fun H locs hP hD hS => ?_)
    exact RET _ _ _ H _ ls 83 hf hP hD hS dX10_film_83
  have E0 : ∀ (H : Heap) (locs : List Loc), va_P D vwCl (w_Top dA t g0 (pa 0) g2 g3 g4 (fa 0) g6 g7 g8 tp ++ (w_Plan dA pa pl ++ (w_Films dA fa fm))) H → va_D A (w_Top dA t g0 (pa 0) g2 g3 g4 (fa 0) g6 g7 g8 tp ++ (w_Plan dA pa pl ++ (w_Films dA fa fm))) → va_S A s.heap H locs → W p l e ({ frames := 2, cells := 0, slots := 0, locals := 42 } : Room) s m ([.ref (t 0), .int x0, .int x1] : List Value).toArray below meth c H locs 0 0 Q (F0 m 0 ls []) := by
    intro H locs hP hD hS
    rw [f_X10_film] at hf
    refine lv_aload_n hx hb dX10_film_0 rfl (lv_at hl 0 rfl) ?_
    refine lv_iload_n hx hb dX10_film_1 rfl (lv_at hl 2 rfl) ?_
    obtain ⟨r1, hc1, hf⟩ := kb_bind hf
    refine kb_ci (ws2 := (w_Top dA t g0 (pa 0) g2 g3 g4 (fa 0) g6 g7 g8 tp ++ (w_Plan dA pa pl ++ (w_Films dA fa fm)))) (kb_rV (n := 1) (As := [.int x1]) (rest := []) hx hb hml hown hK (c_X10_isSeat l D dA H.size t pa g0 g2 g3 g4 (fa 0) g6 g7 g8 tp pl x1 r1 hc1) ⟨ww_4_83, ww_4_80, ww_4_82, ws_34, ww_1_1, rfl, by decide, by decide⟩ rfl rfl (by decide +kernel) ⟨Nat.le_of_ble_eq_true rfl, Nat.le_of_ble_eq_true rfl⟩ hP hD hS hA hE [0, 1, 2, 3, 4, 5, 6, 7, 8, 9, 10, 11, 12, 13, 14, 15, 16, 17, 18, 19, 20, 21] rfl (by decide) 0 rfl rfl rfl hl.1 rfl (Nat.le_of_ble_eq_true rfl) dX10_film_2 ⟨Nat.le_of_ble_eq_true rfl, Nat.le_of_ble_eq_true rfl⟩) hP hD hS hA [0, 1, 2, 3, 4, 5, 6, 7, 8, 9, 10, 11, 12, 13, 14, 15, 16, 17, 18, 19, 20, 21] [22, 23, 24] [3, 4, 5, 6, 7, 8, 9, 10, 11, 12, 13, 14, 15, 16, 17, 18, 19, 20, 21, 22, 23, 24, 0, 1, 2] rfl rfl (by decide) (by decide) rfl (by decide) (fun H locs hP hD hS => ?_)
    refine lv_if_ne (tgt := 14) hx hb dX10_film_5 (by decide) (fun c_2 => ?_) (fun c_2 => ?_)
    · rw [if_neg c_2] at hf
      refine lv_iload_n hx hb dX10_film_14 rfl (lv_at hl 1 rfl) ?_
      refine lv_aload_n hx hb dX10_film_15 rfl (lv_at hl 0 rfl) ?_
      refine va_get (D := D) (ci := 10) (v := .ref (pa 0)) (C := RX10) (T := TX10) (N := 12) hx hb hts kb_inX10 hown hK.1 hP 0 rfl rfl 1 (by decide) (hK.2.w ww_2_153 rfl _) (fun _ h9 => h9) rfl dX10_film_16 ?_
      refine va_get (D := D) (ci := 5) (v := .ref (pa 1)) (C := RX5) (T := TX5) (N := 8) hx hb hts kb_inX5 hown hK.1 hP 1 rfl rfl 0 (by decide) (hK.2.w ww_1_215 rfl _) (fun _ h9 => h9) rfl dX10_film_19 ?_
      refine va_get (D := D) (ci := 0) (v := .int (cb_seats (pl_cab pl))) (C := RX0) (T := TX0) (N := 8) hx hb hts kb_inX0 hown hK.1 hP 2 rfl rfl 6 (by decide) (hK.2.w ww_1_107 rfl _) (fun _ h9 => h9) rfl dX10_film_22 ?_
      refine lv_iconst (v := (-1 : Int32)) hx hb dX10_film_25 (by decide) ?_
      refine lv_ixor hx hb dX10_film_26 ?_
      refine lv_iand hx hb dX10_film_27 ?_
      refine lv_if_ne (tgt := 39) hx hb dX10_film_28 (by decide) (fun c_3 => ?_) (fun c_3 => ?_)
      · rw [if_neg c_3] at hf
        exact B_39 _ _ _ _ _ hf hP hD hS (lv_sub hl [0] rfl)
      · rw [if_pos c_3] at hf
        refine lv_iload_n hx hb dX10_film_31 rfl (lv_at hl 1 rfl) ?_
        refine lv_iload_n hx hb dX10_film_32 rfl (lv_at hl 2 rfl) ?_
        obtain ⟨r5, hc5, hf⟩ := kb_bind hf
        refine kb_ci (ws2 := (w_Top dA t g0 (pa 0) g2 g3 g4 (fa 0) g6 g7 g8 tp ++ (w_Plan dA pa pl ++ (w_Films dA fa fm)))) (kb_rS (n := 2) (As := [.int x0, .int x1]) (rest := []) hx hb hml hown hK (c_X10_holdsBit l D dA H.size x0 x1 r5 hc5) ⟨ww_3_158, ww_4_55, ww_3_157, ww_1_1, by decide, by decide⟩ rfl rfl (by decide +kernel) ⟨Nat.le_of_ble_eq_true rfl, Nat.le_of_ble_eq_true rfl⟩ hP hD hS hA hE [] rfl (by decide) rfl hl.1 rfl (Nat.le_of_ble_eq_true rfl) dX10_film_33 ⟨Nat.le_of_ble_eq_true rfl, Nat.le_of_ble_eq_true rfl⟩) hP hD hS hA [] [0, 1, 2, 3, 4, 5, 6, 7, 8, 9, 10, 11, 12, 13, 14, 15, 16, 17, 18, 19, 20, 21, 22, 23, 24] [0, 1, 2, 3, 4, 5, 6, 7, 8, 9, 10, 11, 12, 13, 14, 15, 16, 17, 18, 19, 20, 21, 22, 23, 24] rfl rfl (by decide) (by decide) rfl (by decide) (fun H locs hP hD hS => ?_)
        refine lv_if_eq (tgt := 45) hx hb dX10_film_36 (by decide) (fun c_6 => ?_) (fun c_6 => ?_)
        · rw [if_pos c_6] at hf
          refine lv_aload_n hx hb dX10_film_45 rfl (lv_at hl 0 rfl) ?_
          refine va_get (D := D) (ci := 10) (v := .ref (fa 0)) (C := RX10) (T := TX10) (N := 12) hx hb hts kb_inX10 hown hK.1 hP 0 rfl rfl 7 (by decide) (hK.2.w ww_2_159 rfl _) (fun _ h9 => h9) rfl dX10_film_46 ?_
          refine va_get (D := D) (ci := 2) (v := .int (fm_count fm)) (C := RX2) (T := TX2) (N := 3) hx hb hts kb_inX2 hown hK.1 hP 22 rfl rfl 2 (by decide) (hK.2.w ww_2_32 rfl _) (fun _ h9 => h9) rfl dX10_film_49 ?_
          refine lv_bipush (v := (12 : Int32)) hx hb dX10_film_52 (by decide) ?_
          refine lv_icmp_lt (tgt := 63) hx hb dX10_film_54 (by decide) (fun c_7 => ?_) (fun c_7 => ?_)
          · rw [if_pos c_7] at hf
            refine lv_aload_n hx hb dX10_film_63 rfl (lv_at hl 0 rfl) ?_
            refine va_get (D := D) (ci := 10) (v := .ref (fa 0)) (C := RX10) (T := TX10) (N := 12) hx hb hts kb_inX10 hown hK.1 hP 0 rfl rfl 7 (by decide) (hK.2.w ww_2_159 rfl _) (fun _ h9 => h9) rfl dX10_film_64 ?_
            refine lv_iload_n hx hb dX10_film_67 rfl (lv_at hl 1 rfl) ?_
            refine lv_iload_n hx hb dX10_film_68 rfl (lv_at hl 2 rfl) ?_
            obtain ⟨r8, hc8, hf⟩ := kb_bind hf
            refine kb_cv (ws2 := (w_Top dA t g0 (pa 0) g2 g3 g4 (fa 0) g6 g7 g8 tp ++ (w_Plan dA pa pl ++ (w_Films dA fa r8)))) (kb_rV (n := 2) (As := [.int x0, .int x1]) (rest := []) hx hb hml hown hK (c_X2_add l D dA H.size fa fm x0 x1 r8 hc8) ⟨ww_4_235, ww_4_232, ww_4_233, ww_4_234, ww_1_7, rfl, by decide, by decide⟩ rfl rfl (by decide +kernel) ⟨Nat.le_of_ble_eq_true rfl, Nat.le_of_ble_eq_true rfl⟩ hP hD hS hA hE [22, 23, 24] rfl (by decide) 0 rfl rfl rfl hl.1 rfl (Nat.le_of_ble_eq_true rfl) dX10_film_69 ⟨Nat.le_of_ble_eq_true rfl, Nat.le_of_ble_eq_true rfl⟩) hP hD hS hA [22, 23, 24] [0, 1, 2, 3, 4, 5, 6, 7, 8, 9, 10, 11, 12, 13, 14, 15, 16, 17, 18, 19, 20, 21] [0, 1, 2, 3, 4, 5, 6, 7, 8, 9, 10, 11, 12, 13, 14, 15, 16, 17, 18, 19, 20, 21, 22, 23, 24] rfl rfl (by decide) (by decide) rfl (by decide) (fun H locs hP hD hS => ?_)
            exact B_72 _ _ _ _ _ hf hP hD hS (lv_sub hl [0] rfl)
          · rw [if_neg c_7] at hf
            refine lv_aload_n hx hb dX10_film_57 rfl (lv_at hl 0 rfl) ?_
            refine lv_iconst (v := (3 : Int32)) hx hb dX10_film_58 (by decide) ?_
            obtain ⟨r10, hc10, hf⟩ := kb_bind hf
            refine kb_ci (ws2 := (w_Top dA t g0 (pa 0) g2 g3 g4 (fa 0) g6 g7 g8 r10.2 ++ (w_Plan dA pa pl ++ (w_Films dA fa fm)))) (kb_rV (n := 1) (As := [.int (3 : Int32)]) (rest := []) hx hb hml hown hK (c_X10_refused l D dA H.size t g0 (pa 0) g2 g3 g4 (fa 0) g6 g7 g8 tp (3 : Int32) r10.1 r10.2 hc10) ⟨ww_2_204, ww_2_201, ww_2_203, ws_0, ww_1_1, rfl, by decide, by decide⟩ rfl rfl (by decide +kernel) ⟨Nat.le_of_ble_eq_true rfl, Nat.le_of_ble_eq_true rfl⟩ hP hD hS hA hE [0] rfl (by decide) 0 rfl rfl rfl hl.1 rfl (Nat.le_of_ble_eq_true rfl) dX10_film_59 ⟨Nat.le_of_ble_eq_true rfl, Nat.le_of_ble_eq_true rfl⟩) hP hD hS hA [0] [1, 2, 3, 4, 5, 6, 7, 8, 9, 10, 11, 12, 13, 14, 15, 16, 17, 18, 19, 20, 21, 22, 23, 24] [24, 0, 1, 2, 3, 4, 5, 6, 7, 8, 9, 10, 11, 12, 13, 14, 15, 16, 17, 18, 19, 20, 21, 22, 23] rfl rfl (by decide) (by decide) rfl (by decide) (fun H locs hP hD hS => ?_)
            exact RET _ _ _ H _ ls 62 hf hP hD hS dX10_film_62
        · rw [if_neg c_6] at hf
          exact B_39 _ _ _ _ _ hf hP hD hS (lv_sub hl [0] rfl)
    · rw [if_pos c_2] at hf
      refine lv_aload_n hx hb dX10_film_8 rfl (lv_at hl 0 rfl) ?_
      refine lv_iconst (v := (1 : Int32)) hx hb dX10_film_9 (by decide) ?_
      obtain ⟨r11, hc11, hf⟩ := kb_bind hf
      refine kb_ci (ws2 := (w_Top dA t g0 (pa 0) g2 g3 g4 (fa 0) g6 g7 g8 r11.2 ++ (w_Plan dA pa pl ++ (w_Films dA fa fm)))) (kb_rV (n := 1) (As := [.int (1 : Int32)]) (rest := []) hx hb hml hown hK (c_X10_refused l D dA H.size t g0 (pa 0) g2 g3 g4 (fa 0) g6 g7 g8 tp (1 : Int32) r11.1 r11.2 hc11) ⟨ww_2_204, ww_2_201, ww_2_203, ws_0, ww_1_1, rfl, by decide, by decide⟩ rfl rfl (by decide +kernel) ⟨Nat.le_of_ble_eq_true rfl, Nat.le_of_ble_eq_true rfl⟩ hP hD hS hA hE [0] rfl (by decide) 0 rfl rfl rfl hl.1 rfl (Nat.le_of_ble_eq_true rfl) dX10_film_10 ⟨Nat.le_of_ble_eq_true rfl, Nat.le_of_ble_eq_true rfl⟩) hP hD hS hA [0] [1, 2, 3, 4, 5, 6, 7, 8, 9, 10, 11, 12, 13, 14, 15, 16, 17, 18, 19, 20, 21, 22, 23, 24] [24, 0, 1, 2, 3, 4, 5, 6, 7, 8, 9, 10, 11, 12, 13, 14, 15, 16, 17, 18, 19, 20, 21, 22, 23] rfl rfl (by decide) (by decide) rfl (by decide) (fun H locs hP hD hS => ?_)
      exact RET _ _ _ H _ ls 13 hf hP hD hS dX10_film_13
  exact E0 _ _ hP hD hS

noncomputable def f_X10_agrees (tp : TopT) (pl : PlanT) (fm : FilmsT) (sn : SceneT) (x0 : Int32) : Option (Int32 × TopT × SceneT) := (f_X10_isRule tp pl x0).bind fun r1 => (if r1 = 0 then (f_X10_refused tp (1 : Int32)).bind fun r6 => some (r6.1, r6.2, sn) else if kb_in? x0 4 then (f_X2_agreeing fm (pl_cab pl) (pl_rules pl) sn ((x0).toNatClampNeg)).bind fun r4 => (f_X10_answered tp r4.1).bind fun r5 => some (r5.1, r5.2, r4.2) else none)
set_option maxHeartbeats 4000000 in
set_option maxRecDepth 100000 in
theorem c_X10_agrees (l : Launch) (D : va_G) (dA : Nat → ClassId) (sz : Nat) (t : Nat → Nat) (pa : Nat → Nat) (fa : Nat → Nat) (sa : Nat → Nat) (g0 : Nat) (g2 : Nat) (g3 : Nat) (g4 : Nat) (g7 : Nat) (g8 : Nat) (ph : Nat → Nat) (tp : TopT) (pl : PlanT) (fm : FilmsT) (sn : SceneT) (x0 : Int32) (rv : Int32) (u0 : TopT) (u3 : SceneT) (hf : f_X10_agrees tp pl fm sn x0 = some (rv, u0, u3)) : kb_FMi l yX10_agrees cX10_agrees 2 (some .int) ({ frames := 4, cells := 0, slots := 0, locals := 107 } : Room) D dA [.ref (t 0), .int x0] sz (w_Top dA t g0 (pa 0) g2 g3 g4 (fa 0) (sa 0) g7 g8 tp ++ (w_Plan dA pa pl ++ (w_Films dA fa fm ++ (w_Scene dA sa (ph 0) sn)))) 0 0 rv (fun (ph2 : Nat → Nat) => (w_Top dA t g0 (pa 0) g2 g3 g4 (fa 0) (sa 0) g7 g8 u0 ++ (w_Plan dA pa pl ++ (w_Films dA fa fm ++ (w_Scene dA sa (ph2 0) u3))))) := by
  refine Met.ofW (cc := cX10_agrees) (maxL := 2) (ret := (some .int)) (by decide) rfl ?_
  intro p e s m args below meth c s₁ B hml hv
  obtain ⟨rfl, hsz, hP, hK, hD0, hE⟩ := hv
  have hx := B.exec
  have hb := B.bytes
  have hr := B.returns
  have hown : s.vm.findClass RX10 = some m.cls := findClass_of_methodNamed B.named
  have hlocks := B.notSynchronized
  have hts : ∀ w ∈ kb_gw, w.before ([.ref (t 0), .int x0] : List Value).toArray s = true := fun w hw => hK.2.1 w hw _
  subst hsz
  have hD := hD0.self (sz := s.heap.size)
  generalize hAe : va_A (w_Top dA t g0 (pa 0) g2 g3 g4 (fa 0) (sa 0) g7 g8 tp ++ (w_Plan dA pa pl ++ (w_Films dA fa fm ++ (w_Scene dA sa (ph 0) sn)))) s.heap.size = A at hD hE ⊢
  have hA : ∀ q : Nat, s.heap.size ≤ q → A q := fun q h => by rw [← hAe]; exact Or.inr h
  have hS : va_S A s.heap s.heap [] := va_S.rf
  have hl := lv_entry ([.ref (t 0), .int x0]) (n := 2) (Nat.le_of_ble_eq_true rfl)
  rw [lg_entry_eq]
  generalize (lg_sl ([.ref (t 0), .int x0]) ++ List.replicate (2 - (lg_sl ([.ref (t 0), .int x0])).length) Slot.unset).toArray = ls at hl ⊢
  have hl : lv_has ls 2 [(0, .ref (t 0)), (1, .int x0)] := hl
  generalize hQ : MQ below (va_Qi (fun r (_ : Nat → Nat) => r = rv) (fun ph2 => kb_B D A (w_Top dA t g0 (pa 0) g2 g3 g4 (fa 0) (sa 0) g7 g8 u0 ++ (w_Plan dA pa pl ++ (w_Films dA fa fm ++ (w_Scene dA sa (ph2 0) u3)))) ()) A) ([.ref (t 0), .int x0] : List Value).toArray s 0 0 A = Q
  show W p l e ({ frames := 4, cells := 0, slots := 0, locals := 107 } : Room) s m ([.ref (t 0), .int x0] : List Value).toArray below meth c s.heap [] 0 0 Q (F0 m 0 ls [])
  have RET : ∀ (ph2 : Nat → Nat) (r2 : Int32) (w0 : TopT) (w3 : SceneT) (H : Heap) (locs : List Loc) (ls : Array Slot) (pc : Nat), some (r2, w0, w3) = some (rv, u0, u3) → va_P D vwCl (w_Top dA t g0 (pa 0) g2 g3 g4 (fa 0) (sa 0) g7 g8 w0 ++ (w_Plan dA pa pl ++ (w_Films dA fa fm ++ (w_Scene dA sa (ph2 0) w3)))) H → va_D A (w_Top dA t g0 (pa 0) g2 g3 g4 (fa 0) (sa 0) g7 g8 w0 ++ (w_Plan dA pa pl ++ (w_Films dA fa fm ++ (w_Scene dA sa (ph2 0) w3)))) → va_S A s.heap H locs → decode cX10_agrees pc = .ok (.ireturn, 1) → W p l e ({ frames := 4, cells := 0, slots := 0, locals := 107 } : Room) s m ([.ref (t 0), .int x0] : List Value).toArray below meth c H locs 0 0 Q (F0 m pc ls [.int r2]) := by
    intro ph2 r2 w0 w3 H locs ls pc hq hP hD hS hd
    cases hq
    rw [← hQ]
    exact W.iret hx hb hr (fun t ht hW => ⟨⟨_, ph2, rfl, rfl, by rw [ht]; exact hP, hD⟩, hS.F ht⟩) hS.2.2 hd
  have E0 : ∀ (H : Heap) (locs : List Loc), va_P D vwCl (w_Top dA t g0 (pa 0) g2 g3 g4 (fa 0) (sa 0) g7 g8 tp ++ (w_Plan dA pa pl ++ (w_Films dA fa fm ++ (w_Scene dA sa (ph 0) sn)))) H → va_D A (w_Top dA t g0 (pa 0) g2 g3 g4 (fa 0) (sa 0) g7 g8 tp ++ (w_Plan dA pa pl ++ (w_Films dA fa fm ++ (w_Scene dA sa (ph 0) sn)))) → va_S A s.heap H locs → W p l e ({ frames := 4, cells := 0, slots := 0, locals := 107 } : Room) s m ([.ref (t 0), .int x0] : List Value).toArray below meth c H locs 0 0 Q (F0 m 0 ls []) := by
    intro H locs hP hD hS
    rw [f_X10_agrees] at hf
    refine lv_aload_n hx hb dX10_agrees_0 rfl (lv_at hl 0 rfl) ?_
    refine lv_iload_n hx hb dX10_agrees_1 rfl (lv_at hl 1 rfl) ?_
    obtain ⟨r1, hc1, hf⟩ := kb_bind hf
    refine kb_ci (ws2 := (w_Top dA t g0 (pa 0) g2 g3 g4 (fa 0) (sa 0) g7 g8 tp ++ (w_Plan dA pa pl ++ (w_Films dA fa fm ++ (w_Scene dA sa (ph 0) sn))))) (kb_rV (n := 1) (As := [.int x0]) (rest := []) hx hb hml hown hK (c_X10_isRule l D dA H.size t pa g0 g2 g3 g4 (fa 0) (sa 0) g7 g8 tp pl x0 r1 hc1) ⟨ww_5_3, ww_5_0, ww_5_2, ws_40, ww_1_1, rfl, by decide, by decide⟩ rfl rfl (by decide +kernel) ⟨Nat.le_of_ble_eq_true rfl, Nat.le_of_ble_eq_true rfl⟩ hP hD hS hA hE [0, 1, 2, 3, 4, 5, 6, 7, 8, 9, 10, 11, 12, 13, 14, 15, 16, 17, 18, 19, 20, 21] rfl (by decide) 0 rfl rfl rfl hl.1 rfl (Nat.le_of_ble_eq_true rfl) dX10_agrees_2 ⟨Nat.le_of_ble_eq_true rfl, Nat.le_of_ble_eq_true rfl⟩) hP hD hS hA [0, 1, 2, 3, 4, 5, 6, 7, 8, 9, 10, 11, 12, 13, 14, 15, 16, 17, 18, 19, 20, 21] [22, 23, 24, 25, 26, 27] [6, 7, 8, 9, 10, 11, 12, 13, 14, 15, 16, 17, 18, 19, 20, 21, 22, 23, 24, 25, 26, 27, 0, 1, 2, 3, 4, 5] rfl rfl (by decide) (by decide) rfl (by decide) (fun H locs hP hD hS => ?_)
    refine lv_if_ne (tgt := 14) hx hb dX10_agrees_5 (by decide) (fun c_2 => ?_) (fun c_2 => ?_)
    · rw [if_neg c_2] at hf
      refine lv_aload_n hx hb dX10_agrees_14 rfl (lv_at hl 0 rfl) ?_
      refine lv_aload_n hx hb dX10_agrees_15 rfl (lv_at hl 0 rfl) ?_
      refine va_get (D := D) (ci := 10) (v := .ref (fa 0)) (C := RX10) (T := TX10) (N := 12) hx hb hts kb_inX10 hown hK.1 hP 0 rfl rfl 7 (by decide) (hK.2.w ww_2_159 rfl _) (fun _ h9 => h9) rfl dX10_agrees_16 ?_
      refine lv_aload_n hx hb dX10_agrees_19 rfl (lv_at hl 0 rfl) ?_
      refine va_get (D := D) (ci := 10) (v := .ref (pa 0)) (C := RX10) (T := TX10) (N := 12) hx hb hts kb_inX10 hown hK.1 hP 0 rfl rfl 1 (by decide) (hK.2.w ww_2_153 rfl _) (fun _ h9 => h9) rfl dX10_agrees_20 ?_
      refine va_get (D := D) (ci := 5) (v := .ref (pa 1)) (C := RX5) (T := TX5) (N := 8) hx hb hts kb_inX5 hown hK.1 hP 1 rfl rfl 0 (by decide) (hK.2.w ww_1_215 rfl _) (fun _ h9 => h9) rfl dX10_agrees_23 ?_
      refine lv_aload_n hx hb dX10_agrees_26 rfl (lv_at hl 0 rfl) ?_
      refine va_get (D := D) (ci := 10) (v := .ref (pa 0)) (C := RX10) (T := TX10) (N := 12) hx hb hts kb_inX10 hown hK.1 hP 0 rfl rfl 1 (by decide) (hK.2.w ww_2_153 rfl _) (fun _ h9 => h9) rfl dX10_agrees_27 ?_
      refine va_get (D := D) (ci := 5) (v := .ref (pa 3)) (C := RX5) (T := TX5) (N := 8) hx hb hts kb_inX5 hown hK.1 hP 1 rfl rfl 1 (by decide) (hK.2.w ww_1_220 rfl _) (fun _ h9 => h9) rfl dX10_agrees_30 ?_
      refine lv_iload_n hx hb dX10_agrees_33 rfl (lv_at hl 1 rfl) ?_
      obtain ⟨h_3, hf⟩ := kb_if hf
      refine va_aldq (D := D) hx hb hK.1 hP 4 6 rfl rfl h_3 dX10_agrees_34 ?_
      show W p l e ({ frames := 4, cells := 0, slots := 0, locals := 107 } : Room) s m ([.ref (t 0), .int x0] : List Value).toArray below meth c _ _ 0 0 Q (F0 m 35 _ [.ref (pa (4 + (x0).toNatClampNeg)), .ref (pa 1), .ref (fa 0), .ref (t 0)])
      refine lv_aload_n hx hb dX10_agrees_35 rfl (lv_at hl 0 rfl) ?_
      refine va_get (D := D) (ci := 10) (v := .ref (sa 0)) (C := RX10) (T := TX10) (N := 12) hx hb hts kb_inX10 hown hK.1 hP 0 rfl rfl 8 (by decide) (hK.2.w ww_2_160 rfl _) (fun _ h9 => h9) rfl dX10_agrees_36 ?_
      obtain ⟨r4, hc4, hf⟩ := kb_bind hf
      refine kb_Fci (ws2 := fun ph4 => (w_Top dA t g0 (pa 0) g2 g3 g4 (fa 0) (sa 0) g7 g8 tp ++ (w_Plan dA pa pl ++ (w_Films dA fa fm ++ (w_Scene dA sa (ph4 0) r4.2))))) (kb_rV (n := 3) (As := [.ref (pa 1), .ref (pa (4 + (x0).toNatClampNeg)), .ref (sa 0)]) (rest := [.ref (t 0)]) hx hb hml hown hK (c_X2_agreeing l D dA H.size fa (fun k => pa (1 + k)) (fun k => pa (4 + k)) sa (kb_ph [(ph 0)]) fm (pl_cab pl) (pl_rules pl) sn (x0).toNatClampNeg (kb_inlt h_3) r4.1 r4.2 hc4) ⟨ww_5_7, ww_5_4, ww_5_5, ww_5_6, ww_1_7, rfl, by decide, by decide⟩ rfl rfl (by decide +kernel) ⟨Nat.le_of_ble_eq_true rfl, Nat.le_of_ble_eq_true rfl⟩ hP hD hS hA hE [22, 23, 24, 2, 3, 5, 6, 7, 8, 9, 10, 11, 12, 25, 26, 27] rfl (by decide) 0 rfl rfl rfl hl.1 rfl (Nat.le_of_ble_eq_true rfl) dX10_agrees_39 ⟨Nat.le_of_ble_eq_true rfl, Nat.le_of_ble_eq_true rfl⟩) hP hD hS hA [22, 23, 24, 2, 3, 5, 6, 7, 8, 9, 10, 11, 12, 25, 26, 27] [0, 1, 4, 13, 14, 15, 16, 17, 18, 19, 20, 21] [0, 1, 15, 16, 2, 17, 18, 19, 20, 21, 22, 23, 24, 3, 4, 5, 6, 7, 8, 9, 10, 11, 12, 13, 14, 25, 26, 27] rfl rfl (by decide) (by decide) (fun _ => rfl) (by decide) (fun ph4 H locs hP hD hS => ?_)
      obtain ⟨r5, hc5, hf⟩ := kb_bind hf
      refine kb_ci (ws2 := (w_Top dA t g0 (pa 0) g2 g3 g4 (fa 0) (sa 0) g7 g8 r5.2 ++ (w_Plan dA pa pl ++ (w_Films dA fa fm ++ (w_Scene dA sa (ph4 0) r4.2))))) (kb_rV (n := 1) (As := [.int r4.1]) (rest := []) hx hb hml hown hK (c_X10_answered l D dA H.size t g0 (pa 0) g2 g3 g4 (fa 0) (sa 0) g7 g8 tp r4.1 r5.1 r5.2 hc5) ⟨ww_3_184, ww_3_181, ww_3_183, ws_22, ww_1_1, rfl, by decide, by decide⟩ rfl rfl (by decide +kernel) ⟨Nat.le_of_ble_eq_true rfl, Nat.le_of_ble_eq_true rfl⟩ hP hD hS hA hE [0] rfl (by decide) 0 rfl rfl rfl hl.1 rfl (Nat.le_of_ble_eq_true rfl) dX10_agrees_42 ⟨Nat.le_of_ble_eq_true rfl, Nat.le_of_ble_eq_true rfl⟩) hP hD hS hA [0] [1, 2, 3, 4, 5, 6, 7, 8, 9, 10, 11, 12, 13, 14, 15, 16, 17, 18, 19, 20, 21, 22, 23, 24, 25, 26, 27] [27, 0, 1, 2, 3, 4, 5, 6, 7, 8, 9, 10, 11, 12, 13, 14, 15, 16, 17, 18, 19, 20, 21, 22, 23, 24, 25, 26] rfl rfl (by decide) (by decide) rfl (by decide) (fun H locs hP hD hS => ?_)
      exact RET (kb_ph [(ph4 0)]) _ _ _ H _ ls 45 hf hP hD hS dX10_agrees_45
    · rw [if_pos c_2] at hf
      refine lv_aload_n hx hb dX10_agrees_8 rfl (lv_at hl 0 rfl) ?_
      refine lv_iconst (v := (1 : Int32)) hx hb dX10_agrees_9 (by decide) ?_
      obtain ⟨r6, hc6, hf⟩ := kb_bind hf
      refine kb_ci (ws2 := (w_Top dA t g0 (pa 0) g2 g3 g4 (fa 0) (sa 0) g7 g8 r6.2 ++ (w_Plan dA pa pl ++ (w_Films dA fa fm ++ (w_Scene dA sa (ph 0) sn))))) (kb_rV (n := 1) (As := [.int (1 : Int32)]) (rest := []) hx hb hml hown hK (c_X10_refused l D dA H.size t g0 (pa 0) g2 g3 g4 (fa 0) (sa 0) g7 g8 tp (1 : Int32) r6.1 r6.2 hc6) ⟨ww_2_204, ww_2_201, ww_2_203, ws_0, ww_1_1, rfl, by decide, by decide⟩ rfl rfl (by decide +kernel) ⟨Nat.le_of_ble_eq_true rfl, Nat.le_of_ble_eq_true rfl⟩ hP hD hS hA hE [0] rfl (by decide) 0 rfl rfl rfl hl.1 rfl (Nat.le_of_ble_eq_true rfl) dX10_agrees_10 ⟨Nat.le_of_ble_eq_true rfl, Nat.le_of_ble_eq_true rfl⟩) hP hD hS hA [0] [1, 2, 3, 4, 5, 6, 7, 8, 9, 10, 11, 12, 13, 14, 15, 16, 17, 18, 19, 20, 21, 22, 23, 24, 25, 26, 27] [27, 0, 1, 2, 3, 4, 5, 6, 7, 8, 9, 10, 11, 12, 13, 14, 15, 16, 17, 18, 19, 20, 21, 22, 23, 24, 25, 26] rfl rfl (by decide) (by decide) rfl (by decide) (fun H locs hP hD hS => ?_)
      exact RET (kb_ph [(ph 0)]) _ _ _ H _ ls 13 hf hP hD hS dX10_agrees_13
  exact E0 _ _ hP hD hS

noncomputable def f_X10_likely_b36 (pl : PlanT) (fm : FilmsT) : Nat → Int32 → Int32 → Int32 → TopT → SceneT → Option (Int32 × TopT × SceneT)
  | 0, _, _, _, _, _ => none
  | n + 1, v1, v2, v3, z0, z3 => (if (pl_ruleCount pl) ≤ v3 then (f_X10_answered z0 v1).bind fun r4 => some (r4.1, r4.2, z3) else if kb_in? v3 4 then (f_X2_agreeing fm (pl_cab pl) (pl_rules pl) z3 ((v3).toNatClampNeg)).bind fun r6 => (if r6.1 ≤ v2 then f_X10_likely_b36 pl fm n v1 v2 (v3 + (1 : Int32)) z0 r6.2 else f_X10_likely_b36 pl fm n v3 r6.1 (v3 + (1 : Int32)) z0 r6.2) else none)
noncomputable def f_X10_likely (tp : TopT) (pl : PlanT) (fm : FilmsT) (sn : SceneT) : Option (Int32 × TopT × SceneT) := (if (tp_hasBus tp) = 0 then (f_X10_refused tp (1 : Int32)).bind fun r9 => some (r9.1, r9.2, sn) else (if (fm_count fm) = 0 then (f_X10_refused tp (6 : Int32)).bind fun r8 => some (r8.1, r8.2, sn) else f_X10_likely_b36 pl fm 4096 (-1 : Int32) (-1 : Int32) (0 : Int32) tp sn))
set_option maxHeartbeats 4000000 in
set_option maxRecDepth 100000 in
theorem c_X10_likely (l : Launch) (D : va_G) (dA : Nat → ClassId) (sz : Nat) (t : Nat → Nat) (pa : Nat → Nat) (fa : Nat → Nat) (sa : Nat → Nat) (g0 : Nat) (g2 : Nat) (g3 : Nat) (g4 : Nat) (g7 : Nat) (g8 : Nat) (ph : Nat → Nat) (tp : TopT) (pl : PlanT) (fm : FilmsT) (sn : SceneT) (rv : Int32) (u0 : TopT) (u3 : SceneT) (hf : f_X10_likely tp pl fm sn = some (rv, u0, u3)) : kb_FMi l yX10_likely cX10_likely 5 (some .int) ({ frames := 4, cells := 0, slots := 0, locals := 107 } : Room) D dA [.ref (t 0)] sz (w_Top dA t g0 (pa 0) g2 g3 g4 (fa 0) (sa 0) g7 g8 tp ++ (w_Plan dA pa pl ++ (w_Films dA fa fm ++ (w_Scene dA sa (ph 0) sn)))) 0 0 rv (fun (ph2 : Nat → Nat) => (w_Top dA t g0 (pa 0) g2 g3 g4 (fa 0) (sa 0) g7 g8 u0 ++ (w_Plan dA pa pl ++ (w_Films dA fa fm ++ (w_Scene dA sa (ph2 0) u3))))) := by
  refine Met.ofW (cc := cX10_likely) (maxL := 5) (ret := (some .int)) (by decide) rfl ?_
  intro p e s m args below meth c s₁ B hml hv
  obtain ⟨rfl, hsz, hP, hK, hD0, hE⟩ := hv
  have hx := B.exec
  have hb := B.bytes
  have hr := B.returns
  have hown : s.vm.findClass RX10 = some m.cls := findClass_of_methodNamed B.named
  have hlocks := B.notSynchronized
  have hts : ∀ w ∈ kb_gw, w.before ([.ref (t 0)] : List Value).toArray s = true := fun w hw => hK.2.1 w hw _
  subst hsz
  have hD := hD0.self (sz := s.heap.size)
  generalize hAe : va_A (w_Top dA t g0 (pa 0) g2 g3 g4 (fa 0) (sa 0) g7 g8 tp ++ (w_Plan dA pa pl ++ (w_Films dA fa fm ++ (w_Scene dA sa (ph 0) sn)))) s.heap.size = A at hD hE ⊢
  have hA : ∀ q : Nat, s.heap.size ≤ q → A q := fun q h => by rw [← hAe]; exact Or.inr h
  have hS : va_S A s.heap s.heap [] := va_S.rf
  have hl := lv_entry ([.ref (t 0)]) (n := 5) (Nat.le_of_ble_eq_true rfl)
  rw [lg_entry_eq]
  generalize (lg_sl ([.ref (t 0)]) ++ List.replicate (5 - (lg_sl ([.ref (t 0)])).length) Slot.unset).toArray = ls at hl ⊢
  have hl : lv_has ls 5 [(0, .ref (t 0))] := hl
  generalize hQ : MQ below (va_Qi (fun r (_ : Nat → Nat) => r = rv) (fun ph2 => kb_B D A (w_Top dA t g0 (pa 0) g2 g3 g4 (fa 0) (sa 0) g7 g8 u0 ++ (w_Plan dA pa pl ++ (w_Films dA fa fm ++ (w_Scene dA sa (ph2 0) u3)))) ()) A) ([.ref (t 0)] : List Value).toArray s 0 0 A = Q
  show W p l e ({ frames := 4, cells := 0, slots := 0, locals := 107 } : Room) s m ([.ref (t 0)] : List Value).toArray below meth c s.heap [] 0 0 Q (F0 m 0 ls [])
  have RET : ∀ (ph2 : Nat → Nat) (r2 : Int32) (w0 : TopT) (w3 : SceneT) (H : Heap) (locs : List Loc) (ls : Array Slot) (pc : Nat), some (r2, w0, w3) = some (rv, u0, u3) → va_P D vwCl (w_Top dA t g0 (pa 0) g2 g3 g4 (fa 0) (sa 0) g7 g8 w0 ++ (w_Plan dA pa pl ++ (w_Films dA fa fm ++ (w_Scene dA sa (ph2 0) w3)))) H → va_D A (w_Top dA t g0 (pa 0) g2 g3 g4 (fa 0) (sa 0) g7 g8 w0 ++ (w_Plan dA pa pl ++ (w_Films dA fa fm ++ (w_Scene dA sa (ph2 0) w3)))) → va_S A s.heap H locs → decode cX10_likely pc = .ok (.ireturn, 1) → W p l e ({ frames := 4, cells := 0, slots := 0, locals := 107 } : Room) s m ([.ref (t 0)] : List Value).toArray below meth c H locs 0 0 Q (F0 m pc ls [.int r2]) := by
    intro ph2 r2 w0 w3 H locs ls pc hq hP hD hS hd
    cases hq
    rw [← hQ]
    exact W.iret hx hb hr (fun t ht hW => ⟨⟨_, ph2, rfl, rfl, by rw [ht]; exact hP, hD⟩, hS.F ht⟩) hS.2.2 hd
  have B_36 : ∀ (n : Nat) (ph : Nat → Nat) (v1 : Int32) (v2 : Int32) (v3 : Int32) (z0 : TopT) (z3 : SceneT) (H : Heap) (locs : List Loc) (ls : Array Slot), f_X10_likely_b36 pl fm n v1 v2 v3 z0 z3 = some (rv, u0, u3) → va_P D vwCl (w_Top dA t g0 (pa 0) g2 g3 g4 (fa 0) (sa 0) g7 g8 z0 ++ (w_Plan dA pa pl ++ (w_Films dA fa fm ++ (w_Scene dA sa (ph 0) z3)))) H → va_D A (w_Top dA t g0 (pa 0) g2 g3 g4 (fa 0) (sa 0) g7 g8 z0 ++ (w_Plan dA pa pl ++ (w_Films dA fa fm ++ (w_Scene dA sa (ph 0) z3)))) → va_S A s.heap H locs → lv_has ls 5 [(0, .ref (t 0)), (1, .int v1), (2, .int v2), (3, .int v3)] → W p l e ({ frames := 4, cells := 0, slots := 0, locals := 107 } : Room) s m ([.ref (t 0)] : List Value).toArray below meth c H locs 0 0 Q (F0 m 36 ls []) := by
    intro n
    induction n with
    | zero =>
      intro ph v1 v2 v3 z0 z3 H locs ls hf
      exact absurd hf (by simp [f_X10_likely_b36])
    | succ n ih =>
      intro ph v1 v2 v3 z0 z3 H locs ls hf hP hD hS hl
      rw [f_X10_likely_b36] at hf
      refine lv_iload_n hx hb dX10_likely_36 rfl (lv_at hl 3 rfl) ?_
      refine lv_aload_n hx hb dX10_likely_37 rfl (lv_at hl 0 rfl) ?_
      refine va_get (D := D) (ci := 10) (v := .ref (pa 0)) (C := RX10) (T := TX10) (N := 12) hx hb hts kb_inX10 hown hK.1 hP 0 rfl rfl 1 (by decide) (hK.2.w ww_2_153 rfl _) (fun _ h9 => h9) rfl dX10_likely_38 ?_
      refine va_get (D := D) (ci := 5) (v := .int (pl_ruleCount pl)) (C := RX5) (T := TX5) (N := 8) hx hb hts kb_inX5 hown hK.1 hP 1 rfl rfl 4 (by decide) (hK.2.w ww_1_231 rfl _) (fun _ h9 => h9) rfl dX10_likely_41 ?_
      refine lv_icmp_ge (tgt := 93) hx hb dX10_likely_44 (by decide) (fun c_3 => ?_) (fun c_3 => ?_)
      · rw [if_pos c_3] at hf
        refine lv_aload_n hx hb dX10_likely_93 rfl (lv_at hl 0 rfl) ?_
        refine lv_iload_n hx hb dX10_likely_94 rfl (lv_at hl 1 rfl) ?_
        obtain ⟨r4, hc4, hf⟩ := kb_bind hf
        refine kb_ci (ws2 := (w_Top dA t g0 (pa 0) g2 g3 g4 (fa 0) (sa 0) g7 g8 r4.2 ++ (w_Plan dA pa pl ++ (w_Films dA fa fm ++ (w_Scene dA sa (ph 0) z3))))) (kb_rV (n := 1) (As := [.int v1]) (rest := []) hx hb hml hown hK (c_X10_answered l D dA H.size t g0 (pa 0) g2 g3 g4 (fa 0) (sa 0) g7 g8 z0 v1 r4.1 r4.2 hc4) ⟨ww_3_184, ww_3_181, ww_3_183, ws_22, ww_1_1, rfl, by decide, by decide⟩ rfl rfl (by decide +kernel) ⟨Nat.le_of_ble_eq_true rfl, Nat.le_of_ble_eq_true rfl⟩ hP hD hS hA hE [0] rfl (by decide) 0 rfl rfl rfl hl.1 rfl (Nat.le_of_ble_eq_true rfl) dX10_likely_95 ⟨Nat.le_of_ble_eq_true rfl, Nat.le_of_ble_eq_true rfl⟩) hP hD hS hA [0] [1, 2, 3, 4, 5, 6, 7, 8, 9, 10, 11, 12, 13, 14, 15, 16, 17, 18, 19, 20, 21, 22, 23, 24, 25, 26, 27] [27, 0, 1, 2, 3, 4, 5, 6, 7, 8, 9, 10, 11, 12, 13, 14, 15, 16, 17, 18, 19, 20, 21, 22, 23, 24, 25, 26] rfl rfl (by decide) (by decide) rfl (by decide) (fun H locs hP hD hS => ?_)
        exact RET (kb_ph [(ph 0)]) _ _ _ H _ ls 98 hf hP hD hS dX10_likely_98
      · rw [if_neg c_3] at hf
        refine lv_aload_n hx hb dX10_likely_47 rfl (lv_at hl 0 rfl) ?_
        refine va_get (D := D) (ci := 10) (v := .ref (fa 0)) (C := RX10) (T := TX10) (N := 12) hx hb hts kb_inX10 hown hK.1 hP 0 rfl rfl 7 (by decide) (hK.2.w ww_2_159 rfl _) (fun _ h9 => h9) rfl dX10_likely_48 ?_
        refine lv_aload_n hx hb dX10_likely_51 rfl (lv_at hl 0 rfl) ?_
        refine va_get (D := D) (ci := 10) (v := .ref (pa 0)) (C := RX10) (T := TX10) (N := 12) hx hb hts kb_inX10 hown hK.1 hP 0 rfl rfl 1 (by decide) (hK.2.w ww_2_153 rfl _) (fun _ h9 => h9) rfl dX10_likely_52 ?_
        refine va_get (D := D) (ci := 5) (v := .ref (pa 1)) (C := RX5) (T := TX5) (N := 8) hx hb hts kb_inX5 hown hK.1 hP 1 rfl rfl 0 (by decide) (hK.2.w ww_1_215 rfl _) (fun _ h9 => h9) rfl dX10_likely_55 ?_
        refine lv_aload_n hx hb dX10_likely_58 rfl (lv_at hl 0 rfl) ?_
        refine va_get (D := D) (ci := 10) (v := .ref (pa 0)) (C := RX10) (T := TX10) (N := 12) hx hb hts kb_inX10 hown hK.1 hP 0 rfl rfl 1 (by decide) (hK.2.w ww_2_153 rfl _) (fun _ h9 => h9) rfl dX10_likely_59 ?_
        refine va_get (D := D) (ci := 5) (v := .ref (pa 3)) (C := RX5) (T := TX5) (N := 8) hx hb hts kb_inX5 hown hK.1 hP 1 rfl rfl 1 (by decide) (hK.2.w ww_1_220 rfl _) (fun _ h9 => h9) rfl dX10_likely_62 ?_
        refine lv_iload_n hx hb dX10_likely_65 rfl (lv_at hl 3 rfl) ?_
        obtain ⟨h_5, hf⟩ := kb_if hf
        refine va_aldq (D := D) hx hb hK.1 hP 4 6 rfl rfl h_5 dX10_likely_66 ?_
        show W p l e ({ frames := 4, cells := 0, slots := 0, locals := 107 } : Room) s m ([.ref (t 0)] : List Value).toArray below meth c _ _ 0 0 Q (F0 m 67 _ [.ref (pa (4 + (v3).toNatClampNeg)), .ref (pa 1), .ref (fa 0)])
        refine lv_aload_n hx hb dX10_likely_67 rfl (lv_at hl 0 rfl) ?_
        refine va_get (D := D) (ci := 10) (v := .ref (sa 0)) (C := RX10) (T := TX10) (N := 12) hx hb hts kb_inX10 hown hK.1 hP 0 rfl rfl 8 (by decide) (hK.2.w ww_2_160 rfl _) (fun _ h9 => h9) rfl dX10_likely_68 ?_
        obtain ⟨r6, hc6, hf⟩ := kb_bind hf
        refine kb_Fci (ws2 := fun ph6 => (w_Top dA t g0 (pa 0) g2 g3 g4 (fa 0) (sa 0) g7 g8 z0 ++ (w_Plan dA pa pl ++ (w_Films dA fa fm ++ (w_Scene dA sa (ph6 0) r6.2))))) (kb_rV (n := 3) (As := [.ref (pa 1), .ref (pa (4 + (v3).toNatClampNeg)), .ref (sa 0)]) (rest := []) hx hb hml hown hK (c_X2_agreeing l D dA H.size fa (fun k => pa (1 + k)) (fun k => pa (4 + k)) sa (kb_ph [(ph 0)]) fm (pl_cab pl) (pl_rules pl) z3 (v3).toNatClampNeg (kb_inlt h_5) r6.1 r6.2 hc6) ⟨ww_5_7, ww_5_4, ww_5_5, ww_5_6, ww_1_7, rfl, by decide, by decide⟩ rfl rfl (by decide +kernel) ⟨Nat.le_of_ble_eq_true rfl, Nat.le_of_ble_eq_true rfl⟩ hP hD hS hA hE [22, 23, 24, 2, 3, 5, 6, 7, 8, 9, 10, 11, 12, 25, 26, 27] rfl (by decide) 0 rfl rfl rfl hl.1 rfl (Nat.le_of_ble_eq_true rfl) dX10_likely_71 ⟨Nat.le_of_ble_eq_true rfl, Nat.le_of_ble_eq_true rfl⟩) hP hD hS hA [22, 23, 24, 2, 3, 5, 6, 7, 8, 9, 10, 11, 12, 25, 26, 27] [0, 1, 4, 13, 14, 15, 16, 17, 18, 19, 20, 21] [0, 1, 15, 16, 2, 17, 18, 19, 20, 21, 22, 23, 24, 3, 4, 5, 6, 7, 8, 9, 10, 11, 12, 13, 14, 25, 26, 27] rfl rfl (by decide) (by decide) (fun _ => rfl) (by decide) (fun ph6 H locs hP hD hS => ?_)
        refine lv_istore (lv' := [(4, .int r6.1), (0, .ref (t 0)), (1, .int v1), (2, .int v2), (3, .int v3)]) hx hb dX10_likely_74 hl (by decide) rfl (fun ls hl => ?_)
        refine lv_iload hx hb dX10_likely_76 (lv_at hl 0 rfl) ?_
        refine lv_iload_n hx hb dX10_likely_78 rfl (lv_at hl 3 rfl) ?_
        refine lv_icmp_le (tgt := 87) hx hb dX10_likely_79 (by decide) (fun c_7 => ?_) (fun c_7 => ?_)
        · rw [if_pos c_7] at hf
          refine lv_iinc (v := (v3 + (1 : Int32))) (lv' := [(3, .int (v3 + (1 : Int32))), (4, .int r6.1), (0, .ref (t 0)), (1, .int v1), (2, .int v2)]) hx hb dX10_likely_87 hl (k := 4) rfl (by rfl) (by decide) rfl (fun ls hl => ?_)
          refine lv_goto (tgt := 36) hx hb dX10_likely_90 (by decide) ?_
          exact ih (kb_ph [(ph6 0)]) _ _ _ _ _ _ _ _ hf hP hD hS (lv_sub hl [2, 3, 4, 0] rfl)
        · rw [if_neg c_7] at hf
          refine lv_iload hx hb dX10_likely_82 (lv_at hl 0 rfl) ?_
          refine lv_istore_n (lv' := [(2, .int r6.1), (4, .int r6.1), (0, .ref (t 0)), (1, .int v1), (3, .int v3)]) hx hb dX10_likely_84 rfl hl (by decide) rfl (fun ls hl => ?_)
          refine lv_iload_n hx hb dX10_likely_85 rfl (lv_at hl 4 rfl) ?_
          refine lv_istore_n (lv' := [(1, .int v3), (2, .int r6.1), (4, .int r6.1), (0, .ref (t 0)), (3, .int v3)]) hx hb dX10_likely_86 rfl hl (by decide) rfl (fun ls hl => ?_)
          refine lv_iinc (v := (v3 + (1 : Int32))) (lv' := [(3, .int (v3 + (1 : Int32))), (1, .int v3), (2, .int r6.1), (4, .int r6.1), (0, .ref (t 0))]) hx hb dX10_likely_87 hl (k := 4) rfl (by rfl) (by decide) rfl (fun ls hl => ?_)
          refine lv_goto (tgt := 36) hx hb dX10_likely_90 (by decide) ?_
          exact ih (kb_ph [(ph6 0)]) _ _ _ _ _ _ _ _ hf hP hD hS (lv_sub hl [4, 1, 2, 0] rfl)
  have E0 : ∀ (H : Heap) (locs : List Loc), va_P D vwCl (w_Top dA t g0 (pa 0) g2 g3 g4 (fa 0) (sa 0) g7 g8 tp ++ (w_Plan dA pa pl ++ (w_Films dA fa fm ++ (w_Scene dA sa (ph 0) sn)))) H → va_D A (w_Top dA t g0 (pa 0) g2 g3 g4 (fa 0) (sa 0) g7 g8 tp ++ (w_Plan dA pa pl ++ (w_Films dA fa fm ++ (w_Scene dA sa (ph 0) sn)))) → va_S A s.heap H locs → W p l e ({ frames := 4, cells := 0, slots := 0, locals := 107 } : Room) s m ([.ref (t 0)] : List Value).toArray below meth c H locs 0 0 Q (F0 m 0 ls []) := by
    intro H locs hP hD hS
    rw [f_X10_likely] at hf
    refine lv_aload_n hx hb dX10_likely_0 rfl (lv_at hl 0 rfl) ?_
    refine va_get (D := D) (ci := 10) (v := .int (tp_hasBus tp)) (C := RX10) (T := TX10) (N := 12) hx hb hts kb_inX10 hown hK.1 hP 0 rfl rfl 3 (by decide) (hK.2.w ww_2_155 rfl _) (fun _ h9 => h9) rfl dX10_likely_1 ?_
    refine lv_if_ne (tgt := 13) hx hb dX10_likely_4 (by decide) (fun c_1 => ?_) (fun c_1 => ?_)
    · rw [if_neg c_1] at hf
      refine lv_aload_n hx hb dX10_likely_13 rfl (lv_at hl 0 rfl) ?_
      refine va_get (D := D) (ci := 10) (v := .ref (fa 0)) (C := RX10) (T := TX10) (N := 12) hx hb hts kb_inX10 hown hK.1 hP 0 rfl rfl 7 (by decide) (hK.2.w ww_2_159 rfl _) (fun _ h9 => h9) rfl dX10_likely_14 ?_
      refine va_get (D := D) (ci := 2) (v := .int (fm_count fm)) (C := RX2) (T := TX2) (N := 3) hx hb hts kb_inX2 hown hK.1 hP 22 rfl rfl 2 (by decide) (hK.2.w ww_2_32 rfl _) (fun _ h9 => h9) rfl dX10_likely_17 ?_
      refine lv_if_ne (tgt := 30) hx hb dX10_likely_20 (by decide) (fun c_2 => ?_) (fun c_2 => ?_)
      · rw [if_neg c_2] at hf
        refine lv_iconst (v := (-1 : Int32)) hx hb dX10_likely_30 (by decide) ?_
        refine lv_istore_n (lv' := [(1, .int (-1 : Int32)), (0, .ref (t 0))]) hx hb dX10_likely_31 rfl hl (by decide) rfl (fun ls hl => ?_)
        refine lv_iconst (v := (-1 : Int32)) hx hb dX10_likely_32 (by decide) ?_
        refine lv_istore_n (lv' := [(2, .int (-1 : Int32)), (1, .int (-1 : Int32)), (0, .ref (t 0))]) hx hb dX10_likely_33 rfl hl (by decide) rfl (fun ls hl => ?_)
        refine lv_iconst (v := (0 : Int32)) hx hb dX10_likely_34 (by decide) ?_
        refine lv_istore_n (lv' := [(3, .int (0 : Int32)), (2, .int (-1 : Int32)), (1, .int (-1 : Int32)), (0, .ref (t 0))]) hx hb dX10_likely_35 rfl hl (by decide) rfl (fun ls hl => ?_)
        exact B_36 4096 (kb_ph [(ph 0)]) _ _ _ _ _ _ _ _ hf hP hD hS (lv_sub hl [3, 2, 1, 0] rfl)
      · rw [if_pos c_2] at hf
        refine lv_aload_n hx hb dX10_likely_23 rfl (lv_at hl 0 rfl) ?_
        refine lv_bipush (v := (6 : Int32)) hx hb dX10_likely_24 (by decide) ?_
        obtain ⟨r8, hc8, hf⟩ := kb_bind hf
        refine kb_ci (ws2 := (w_Top dA t g0 (pa 0) g2 g3 g4 (fa 0) (sa 0) g7 g8 r8.2 ++ (w_Plan dA pa pl ++ (w_Films dA fa fm ++ (w_Scene dA sa (ph 0) sn))))) (kb_rV (n := 1) (As := [.int (6 : Int32)]) (rest := []) hx hb hml hown hK (c_X10_refused l D dA H.size t g0 (pa 0) g2 g3 g4 (fa 0) (sa 0) g7 g8 tp (6 : Int32) r8.1 r8.2 hc8) ⟨ww_2_204, ww_2_201, ww_2_203, ws_0, ww_1_1, rfl, by decide, by decide⟩ rfl rfl (by decide +kernel) ⟨Nat.le_of_ble_eq_true rfl, Nat.le_of_ble_eq_true rfl⟩ hP hD hS hA hE [0] rfl (by decide) 0 rfl rfl rfl hl.1 rfl (Nat.le_of_ble_eq_true rfl) dX10_likely_26 ⟨Nat.le_of_ble_eq_true rfl, Nat.le_of_ble_eq_true rfl⟩) hP hD hS hA [0] [1, 2, 3, 4, 5, 6, 7, 8, 9, 10, 11, 12, 13, 14, 15, 16, 17, 18, 19, 20, 21, 22, 23, 24, 25, 26, 27] [27, 0, 1, 2, 3, 4, 5, 6, 7, 8, 9, 10, 11, 12, 13, 14, 15, 16, 17, 18, 19, 20, 21, 22, 23, 24, 25, 26] rfl rfl (by decide) (by decide) rfl (by decide) (fun H locs hP hD hS => ?_)
        exact RET (kb_ph [(ph 0)]) _ _ _ H _ ls 29 hf hP hD hS dX10_likely_29
    · rw [if_pos c_1] at hf
      refine lv_aload_n hx hb dX10_likely_7 rfl (lv_at hl 0 rfl) ?_
      refine lv_iconst (v := (1 : Int32)) hx hb dX10_likely_8 (by decide) ?_
      obtain ⟨r9, hc9, hf⟩ := kb_bind hf
      refine kb_ci (ws2 := (w_Top dA t g0 (pa 0) g2 g3 g4 (fa 0) (sa 0) g7 g8 r9.2 ++ (w_Plan dA pa pl ++ (w_Films dA fa fm ++ (w_Scene dA sa (ph 0) sn))))) (kb_rV (n := 1) (As := [.int (1 : Int32)]) (rest := []) hx hb hml hown hK (c_X10_refused l D dA H.size t g0 (pa 0) g2 g3 g4 (fa 0) (sa 0) g7 g8 tp (1 : Int32) r9.1 r9.2 hc9) ⟨ww_2_204, ww_2_201, ww_2_203, ws_0, ww_1_1, rfl, by decide, by decide⟩ rfl rfl (by decide +kernel) ⟨Nat.le_of_ble_eq_true rfl, Nat.le_of_ble_eq_true rfl⟩ hP hD hS hA hE [0] rfl (by decide) 0 rfl rfl rfl hl.1 rfl (Nat.le_of_ble_eq_true rfl) dX10_likely_9 ⟨Nat.le_of_ble_eq_true rfl, Nat.le_of_ble_eq_true rfl⟩) hP hD hS hA [0] [1, 2, 3, 4, 5, 6, 7, 8, 9, 10, 11, 12, 13, 14, 15, 16, 17, 18, 19, 20, 21, 22, 23, 24, 25, 26, 27] [27, 0, 1, 2, 3, 4, 5, 6, 7, 8, 9, 10, 11, 12, 13, 14, 15, 16, 17, 18, 19, 20, 21, 22, 23, 24, 25, 26] rfl rfl (by decide) (by decide) rfl (by decide) (fun H locs hP hD hS => ?_)
      exact RET (kb_ph [(ph 0)]) _ _ _ H _ ls 12 hf hP hD hS dX10_likely_12
  exact E0 _ _ hP hD hS

noncomputable def f_X10_drivenFrom_b67 (tp : TopT) (rd : RideT) (pl : PlanT) (k37 : Int32 → Int32 → Int32 → Int32 → Int32 → SceneT → Option (Int32 × SceneT)) (v2 : Int32) (v4 : Int32) (v5 : Int32) (v6 : Int32) (v7 : Int32) (z3 : SceneT) : Option (Int32 × SceneT) := (if v7 < 0 then some (v5, z3) else (if v7 < (pl_riderCount pl) then if kb_in? v7 8 then if kb_in? ((qr_rule (pl_riders pl)) (v7).toNatClampNeg) 4 then (f_X9_best z3 (pl_cab pl) (pl_rules pl) ((((qr_rule (pl_riders pl)) (v7).toNatClampNeg)).toNatClampNeg) ((qr_looks (pl_riders pl)) (v7).toNatClampNeg) ((qr_friends (pl_riders pl)) (v7).toNatClampNeg) (v2 &&& (((1 : Int32) <<< (v4 &&& 31)) ^^^ (-1 : Int32)))).bind fun r9 => (if r9 = 0 then some ((v5 + (1 : Int32)), z3) else (f_X10_lowestBit r9).bind fun r11 => k37 (v2 &&& (((1 : Int32) <<< (v4 &&& 31)) ^^^ (-1 : Int32))) v7 r11 (v5 + (1 : Int32)) (v6 + (1 : Int32)) z3) else none else none else some (v5, z3)))
noncomputable def f_X10_drivenFrom_b37 (tp : TopT) (rd : RideT) (pl : PlanT) : Nat → Int32 → Int32 → Int32 → Int32 → Int32 → SceneT → Option (Int32 × SceneT)
  | 0, _, _, _, _, _, _ => none
  | n + 1, v2, v3, v4, v5, v6, z3 => (if (8 : Int32) < v6 then some (v5, z3) else if kb_in? v4 20 then if kb_in? v4 20 then f_X10_drivenFrom_b67 tp rd pl (f_X10_drivenFrom_b37 tp rd pl n) v2 v4 v5 v6 ((sc_sitter z3) (v4).toNatClampNeg) (sc_set_sitter z3 (upd (sc_sitter z3) (v4).toNatClampNeg v3)) else none else none)
noncomputable def f_X10_drivenFrom_b14 (tp : TopT) (rd : RideT) (pl : PlanT) (v1 : Int32) (z3 : SceneT) : Option (Int32 × SceneT) := f_X10_drivenFrom_b37 tp rd pl 4096 (cb_seats (pl_cab pl)) (8 : Int32) v1 (0 : Int32) (0 : Int32) z3
noncomputable def f_X10_drivenFrom (tp : TopT) (rd : RideT) (pl : PlanT) (sn : SceneT) (x0 : Int32) : Option (Int32 × SceneT) := (f_X9_copyFrom sn (rd_scene rd)).bind fun r1 => f_X10_drivenFrom_b14 tp rd pl x0 r1
set_option maxHeartbeats 4000000 in
set_option maxRecDepth 100000 in
theorem c_X10_drivenFrom (l : Launch) (D : va_G) (dA : Nat → ClassId) (sz : Nat) (t : Nat → Nat) (a : Nat → Nat) (pa : Nat → Nat) (sa : Nat → Nat) (g0 : Nat) (g2 : Nat) (g4 : Nat) (g5 : Nat) (g7 : Nat) (g8 : Nat) (ph : Nat → Nat) (tp : TopT) (rd : RideT) (pl : PlanT) (sn : SceneT) (x0 : Int32) (rv : Int32) (u3 : SceneT) (hf : f_X10_drivenFrom tp rd pl sn x0 = some (rv, u3)) : kb_FMi l yX10_drivenFrom cX10_drivenFrom 10 (some .int) ({ frames := 3, cells := 0, slots := 0, locals := 85 } : Room) D dA [.ref (t 0), .int x0] sz (w_Top dA t g0 (pa 0) g2 (a 0) g4 g5 (sa 0) g7 g8 tp ++ (w_Ride dA a (pa 0) (pa 1) rd ++ (w_Plan dA pa pl ++ (w_Scene dA sa (ph 0) sn)))) 0 0 rv (fun (ph2 : Nat → Nat) => (w_Top dA t g0 (pa 0) g2 (a 0) g4 g5 (sa 0) g7 g8 tp ++ (w_Ride dA a (pa 0) (pa 1) rd ++ (w_Plan dA pa pl ++ (w_Scene dA sa (ph2 0) u3))))) := by
  refine Met.ofW (cc := cX10_drivenFrom) (maxL := 10) (ret := (some .int)) (by decide) rfl ?_
  intro p e s m args below meth c s₁ B hml hv
  obtain ⟨rfl, hsz, hP, hK, hD0, hE⟩ := hv
  have hx := B.exec
  have hb := B.bytes
  have hr := B.returns
  have hown : s.vm.findClass RX10 = some m.cls := findClass_of_methodNamed B.named
  have hlocks := B.notSynchronized
  have hts : ∀ w ∈ kb_gw, w.before ([.ref (t 0), .int x0] : List Value).toArray s = true := fun w hw => hK.2.1 w hw _
  subst hsz
  have hD := hD0.self (sz := s.heap.size)
  generalize hAe : va_A (w_Top dA t g0 (pa 0) g2 (a 0) g4 g5 (sa 0) g7 g8 tp ++ (w_Ride dA a (pa 0) (pa 1) rd ++ (w_Plan dA pa pl ++ (w_Scene dA sa (ph 0) sn)))) s.heap.size = A at hD hE ⊢
  have hA : ∀ q : Nat, s.heap.size ≤ q → A q := fun q h => by rw [← hAe]; exact Or.inr h
  have hS : va_S A s.heap s.heap [] := va_S.rf
  have hl := lv_entry ([.ref (t 0), .int x0]) (n := 10) (Nat.le_of_ble_eq_true rfl)
  rw [lg_entry_eq]
  generalize (lg_sl ([.ref (t 0), .int x0]) ++ List.replicate (10 - (lg_sl ([.ref (t 0), .int x0])).length) Slot.unset).toArray = ls at hl ⊢
  have hl : lv_has ls 10 [(0, .ref (t 0)), (1, .int x0)] := hl
  generalize hQ : MQ below (va_Qi (fun r (_ : Nat → Nat) => r = rv) (fun ph2 => kb_B D A (w_Top dA t g0 (pa 0) g2 (a 0) g4 g5 (sa 0) g7 g8 tp ++ (w_Ride dA a (pa 0) (pa 1) rd ++ (w_Plan dA pa pl ++ (w_Scene dA sa (ph2 0) u3)))) ()) A) ([.ref (t 0), .int x0] : List Value).toArray s 0 0 A = Q
  show W p l e ({ frames := 3, cells := 0, slots := 0, locals := 85 } : Room) s m ([.ref (t 0), .int x0] : List Value).toArray below meth c s.heap [] 0 0 Q (F0 m 0 ls [])
  have RET : ∀ (ph2 : Nat → Nat) (r2 : Int32) (w3 : SceneT) (H : Heap) (locs : List Loc) (ls : Array Slot) (pc : Nat), some (r2, w3) = some (rv, u3) → va_P D vwCl (w_Top dA t g0 (pa 0) g2 (a 0) g4 g5 (sa 0) g7 g8 tp ++ (w_Ride dA a (pa 0) (pa 1) rd ++ (w_Plan dA pa pl ++ (w_Scene dA sa (ph2 0) w3)))) H → va_D A (w_Top dA t g0 (pa 0) g2 (a 0) g4 g5 (sa 0) g7 g8 tp ++ (w_Ride dA a (pa 0) (pa 1) rd ++ (w_Plan dA pa pl ++ (w_Scene dA sa (ph2 0) w3)))) → va_S A s.heap H locs → decode cX10_drivenFrom pc = .ok (.ireturn, 1) → W p l e ({ frames := 3, cells := 0, slots := 0, locals := 85 } : Room) s m ([.ref (t 0), .int x0] : List Value).toArray below meth c H locs 0 0 Q (F0 m pc ls [.int r2]) := by
    intro ph2 r2 w3 H locs ls pc hq hP hD hS hd
    cases hq
    rw [← hQ]
    exact W.iret hx hb hr (fun t ht hW => ⟨⟨_, ph2, rfl, rfl, by rw [ht]; exact hP, hD⟩, hS.F ht⟩) hS.2.2 hd
  have B_67 : ∀ (k37 : Int32 → Int32 → Int32 → Int32 → Int32 → SceneT → Option (Int32 × SceneT)) (hk37 : ∀ (ph : Nat → Nat) (v2 : Int32) (v3 : Int32) (v4 : Int32) (v5 : Int32) (v6 : Int32) (z3 : SceneT) (H : Heap) (locs : List Loc) (ls : Array Slot), k37 v2 v3 v4 v5 v6 z3 = some (rv, u3) → va_P D vwCl (w_Top dA t g0 (pa 0) g2 (a 0) g4 g5 (sa 0) g7 g8 tp ++ (w_Ride dA a (pa 0) (pa 1) rd ++ (w_Plan dA pa pl ++ (w_Scene dA sa (pa 1) z3)))) H → va_D A (w_Top dA t g0 (pa 0) g2 (a 0) g4 g5 (sa 0) g7 g8 tp ++ (w_Ride dA a (pa 0) (pa 1) rd ++ (w_Plan dA pa pl ++ (w_Scene dA sa (pa 1) z3)))) → va_S A s.heap H locs → lv_has ls 10 [(0, .ref (t 0)), (2, .int v2), (3, .int v3), (4, .int v4), (5, .int v5), (6, .int v6)] → W p l e ({ frames := 3, cells := 0, slots := 0, locals := 85 } : Room) s m ([.ref (t 0), .int x0] : List Value).toArray below meth c H locs 0 0 Q (F0 m 37 ls [])) (ph : Nat → Nat) (v2 : Int32) (v4 : Int32) (v5 : Int32) (v6 : Int32) (v7 : Int32) (z3 : SceneT) (H : Heap) (locs : List Loc) (ls : Array Slot), f_X10_drivenFrom_b67 tp rd pl k37 v2 v4 v5 v6 v7 z3 = some (rv, u3) → va_P D vwCl (w_Top dA t g0 (pa 0) g2 (a 0) g4 g5 (sa 0) g7 g8 tp ++ (w_Ride dA a (pa 0) (pa 1) rd ++ (w_Plan dA pa pl ++ (w_Scene dA sa (pa 1) z3)))) H → va_D A (w_Top dA t g0 (pa 0) g2 (a 0) g4 g5 (sa 0) g7 g8 tp ++ (w_Ride dA a (pa 0) (pa 1) rd ++ (w_Plan dA pa pl ++ (w_Scene dA sa (pa 1) z3)))) → va_S A s.heap H locs → lv_has ls 10 [(0, .ref (t 0)), (2, .int v2), (4, .int v4), (5, .int v5), (6, .int v6), (7, .int v7)] → W p l e ({ frames := 3, cells := 0, slots := 0, locals := 85 } : Room) s m ([.ref (t 0), .int x0] : List Value).toArray below meth c H locs 0 0 Q (F0 m 67 ls []) := by
    intro k37 hk37 ph v2 v4 v5 v6 v7 z3 H locs ls hf hP hD hS hl
    rw [f_X10_drivenFrom_b67] at hf
    refine lv_iload_n hx hb dX10_drivenFrom_67 rfl (lv_at hl 1 rfl) ?_
    refine lv_iconst (v := (1 : Int32)) hx hb dX10_drivenFrom_68 (by decide) ?_
    refine lv_iload hx hb dX10_drivenFrom_69 (lv_at hl 2 rfl) ?_
    refine lv_ishl hx hb dX10_drivenFrom_71 ?_
    refine lv_iconst (v := (-1 : Int32)) hx hb dX10_drivenFrom_72 (by decide) ?_
    refine lv_ixor hx hb dX10_drivenFrom_73 ?_
    refine lv_iand hx hb dX10_drivenFrom_74 ?_
    refine lv_istore_n (lv' := [(2, .int (v2 &&& (((1 : Int32) <<< (v4 &&& 31)) ^^^ (-1 : Int32)))), (0, .ref (t 0)), (4, .int v4), (5, .int v5), (6, .int v6), (7, .int v7)]) hx hb dX10_drivenFrom_75 rfl hl (by decide) rfl (fun ls hl => ?_)
    refine lv_iload hx hb dX10_drivenFrom_76 (lv_at hl 5 rfl) ?_
    refine lv_if_lt (tgt := 93) hx hb dX10_drivenFrom_78 (by decide) (fun c_5 => ?_) (fun c_5 => ?_)
    · rw [if_pos c_5] at hf
      refine lv_iload hx hb dX10_drivenFrom_93 (lv_at hl 3 rfl) ?_
      exact RET (kb_ph [(pa 1)]) _ _ H _ ls 95 hf hP hD hS dX10_drivenFrom_95
    · rw [if_neg c_5] at hf
      refine lv_iload hx hb dX10_drivenFrom_81 (lv_at hl 5 rfl) ?_
      refine lv_aload_n hx hb dX10_drivenFrom_83 rfl (lv_at hl 1 rfl) ?_
      refine va_get (D := D) (ci := 10) (v := .ref (pa 0)) (C := RX10) (T := TX10) (N := 12) hx hb hts kb_inX10 hown hK.1 hP 0 rfl rfl 1 (by decide) (hK.2.w ww_2_153 rfl _) (fun _ h9 => h9) rfl dX10_drivenFrom_84 ?_
      refine va_get (D := D) (ci := 5) (v := .int (pl_riderCount pl)) (C := RX5) (T := TX5) (N := 8) hx hb hts kb_inX5 hown hK.1 hP 10 rfl rfl 5 (by decide) (hK.2.w ww_1_236 rfl _) (fun _ h9 => h9) rfl dX10_drivenFrom_87 ?_
      refine lv_icmp_lt (tgt := 96) hx hb dX10_drivenFrom_90 (by decide) (fun c_6 => ?_) (fun c_6 => ?_)
      · rw [if_pos c_6] at hf
        refine lv_iinc (v := (v5 + (1 : Int32))) (lv' := [(5, .int (v5 + (1 : Int32))), (2, .int (v2 &&& (((1 : Int32) <<< (v4 &&& 31)) ^^^ (-1 : Int32)))), (0, .ref (t 0)), (4, .int v4), (6, .int v6), (7, .int v7)]) hx hb dX10_drivenFrom_96 hl (k := 3) rfl (by rfl) (by decide) rfl (fun ls hl => ?_)
        refine lv_aload_n hx hb dX10_drivenFrom_99 rfl (lv_at hl 2 rfl) ?_
        refine va_get (D := D) (ci := 10) (v := .ref (pa 0)) (C := RX10) (T := TX10) (N := 12) hx hb hts kb_inX10 hown hK.1 hP 0 rfl rfl 1 (by decide) (hK.2.w ww_2_153 rfl _) (fun _ h9 => h9) rfl dX10_drivenFrom_100 ?_
        refine va_get (D := D) (ci := 5) (v := .ref (pa 12)) (C := RX5) (T := TX5) (N := 8) hx hb hts kb_inX5 hown hK.1 hP 10 rfl rfl 2 (by decide) (hK.2.w ww_1_226 rfl _) (fun _ h9 => h9) rfl dX10_drivenFrom_103 ?_
        refine lv_iload hx hb dX10_drivenFrom_106 (lv_at hl 5 rfl) ?_
        obtain ⟨h_7, hf⟩ := kb_if hf
        refine va_aldq (D := D) hx hb hK.1 hP 22 5 rfl rfl h_7 dX10_drivenFrom_108 ?_
        show W p l e ({ frames := 3, cells := 0, slots := 0, locals := 85 } : Room) s m ([.ref (t 0), .int x0] : List Value).toArray below meth c _ _ 0 0 Q (F0 m 109 _ [.ref (pa (13 + (v7).toNatClampNeg))])
        refine lv_astore (lv' := [(8, .ref (pa (13 + (v7).toNatClampNeg))), (5, .int (v5 + (1 : Int32))), (2, .int (v2 &&& (((1 : Int32) <<< (v4 &&& 31)) ^^^ (-1 : Int32)))), (0, .ref (t 0)), (4, .int v4), (6, .int v6), (7, .int v7)]) hx hb dX10_drivenFrom_109 hl (by decide) rfl (fun ls hl => ?_)
        refine lv_aload_n hx hb dX10_drivenFrom_111 rfl (lv_at hl 3 rfl) ?_
        refine va_get (D := D) (ci := 10) (v := .ref (sa 0)) (C := RX10) (T := TX10) (N := 12) hx hb hts kb_inX10 hown hK.1 hP 0 rfl rfl 8 (by decide) (hK.2.w ww_2_160 rfl _) (fun _ h9 => h9) rfl dX10_drivenFrom_112 ?_
        refine lv_aload_n hx hb dX10_drivenFrom_115 rfl (lv_at hl 3 rfl) ?_
        refine va_get (D := D) (ci := 10) (v := .ref (pa 0)) (C := RX10) (T := TX10) (N := 12) hx hb hts kb_inX10 hown hK.1 hP 0 rfl rfl 1 (by decide) (hK.2.w ww_2_153 rfl _) (fun _ h9 => h9) rfl dX10_drivenFrom_116 ?_
        refine va_get (D := D) (ci := 5) (v := .ref (pa 3)) (C := RX5) (T := TX5) (N := 8) hx hb hts kb_inX5 hown hK.1 hP 10 rfl rfl 1 (by decide) (hK.2.w ww_1_220 rfl _) (fun _ h9 => h9) rfl dX10_drivenFrom_119 ?_
        refine lv_aload hx hb dX10_drivenFrom_122 (lv_at hl 0 rfl) ?_
        refine va_get (D := D) (ci := 7) (v := .int ((qr_rule (pl_riders pl)) (v7).toNatClampNeg)) (C := RX7) (T := TX7) (N := 10) hx hb hts kb_inX7 hown hK.1 hP (1 + (9 + (13 + (v7).toNatClampNeg))) (kb_at rfl (kb_at rfl (kb_lf (at_Plan_13 dA pa pl (v7).toNatClampNeg (kb_inlt h_7))))) rfl 3 (by decide) (hK.2.w ww_1_172 rfl _) (fun _ h9 => h9) rfl dX10_drivenFrom_124 ?_
        obtain ⟨h_8, hf⟩ := kb_if hf
        refine va_aldq (D := D) hx hb hK.1 hP 13 6 rfl rfl h_8 dX10_drivenFrom_127 ?_
        show W p l e ({ frames := 3, cells := 0, slots := 0, locals := 85 } : Room) s m ([.ref (t 0), .int x0] : List Value).toArray below meth c _ _ 0 0 Q (F0 m 128 _ [.ref (pa (4 + (((qr_rule (pl_riders pl)) (v7).toNatClampNeg)).toNatClampNeg)), .ref (sa 0)])
        refine lv_aload hx hb dX10_drivenFrom_128 (lv_at hl 0 rfl) ?_
        refine va_get (D := D) (ci := 7) (v := .int ((qr_looks (pl_riders pl)) (v7).toNatClampNeg)) (C := RX7) (T := TX7) (N := 10) hx hb hts kb_inX7 hown hK.1 hP (1 + (9 + (13 + (v7).toNatClampNeg))) (kb_at rfl (kb_at rfl (kb_lf (at_Plan_13 dA pa pl (v7).toNatClampNeg (kb_inlt h_7))))) rfl 4 (by decide) (hK.2.w ww_1_176 rfl _) (fun _ h9 => h9) rfl dX10_drivenFrom_130 ?_
        refine lv_aload hx hb dX10_drivenFrom_133 (lv_at hl 0 rfl) ?_
        refine va_get (D := D) (ci := 7) (v := .int ((qr_friends (pl_riders pl)) (v7).toNatClampNeg)) (C := RX7) (T := TX7) (N := 10) hx hb hts kb_inX7 hown hK.1 hP (1 + (9 + (13 + (v7).toNatClampNeg))) (kb_at rfl (kb_at rfl (kb_lf (at_Plan_13 dA pa pl (v7).toNatClampNeg (kb_inlt h_7))))) rfl 9 (by decide) (hK.2.w ww_1_191 rfl _) (fun _ h9 => h9) rfl dX10_drivenFrom_135 ?_
        refine lv_iload_n hx hb dX10_drivenFrom_138 rfl (lv_at hl 2 rfl) ?_
        obtain ⟨r9, hc9, hf⟩ := kb_bind hf
        refine kb_ci (ws2 := (w_Top dA t g0 (pa 0) g2 (a 0) g4 g5 (sa 0) g7 g8 tp ++ (w_Ride dA a (pa 0) (pa 1) rd ++ (w_Plan dA pa pl ++ (w_Scene dA sa (pa 1) z3))))) (kb_rV (n := 4) (As := [.ref (pa (4 + (((qr_rule (pl_riders pl)) (v7).toNatClampNeg)).toNatClampNeg)), .int ((qr_looks (pl_riders pl)) (v7).toNatClampNeg), .int ((qr_friends (pl_riders pl)) (v7).toNatClampNeg), .int (v2 &&& (((1 : Int32) <<< (v4 &&& 31)) ^^^ (-1 : Int32)))]) (rest := []) hx hb hml hown hK (c_X9_best l D dA H.size sa (fun k => pa (1 + k)) (fun k => pa (4 + k)) z3 (pl_cab pl) (pl_rules pl) ((((qr_rule (pl_riders pl)) (v7).toNatClampNeg)).toNatClampNeg) (kb_inlt h_8) ((qr_looks (pl_riders pl)) (v7).toNatClampNeg) ((qr_friends (pl_riders pl)) (v7).toNatClampNeg) (v2 &&& (((1 : Int32) <<< (v4 &&& 31)) ^^^ (-1 : Int32))) r9 hc9) ⟨ww_4_30, ww_4_214, ww_4_28, ww_4_29, ww_1_9, rfl, by decide, by decide⟩ rfl rfl (by decide +kernel) ⟨Nat.le_of_ble_eq_true rfl, Nat.le_of_ble_eq_true rfl⟩ hP hD hS hA hE [31, 32, 33, 11, 12, 14, 15, 16, 17, 18, 19, 20, 21] rfl (by decide) 0 rfl rfl rfl hl.1 rfl (Nat.le_of_ble_eq_true rfl) dX10_drivenFrom_139 ⟨Nat.le_of_ble_eq_true rfl, Nat.le_of_ble_eq_true rfl⟩) hP hD hS hA [31, 32, 33, 11, 12, 14, 15, 16, 17, 18, 19, 20, 21] [0, 1, 2, 3, 4, 5, 6, 7, 8, 9, 10, 13, 22, 23, 24, 25, 26, 27, 28, 29, 30] [0, 1, 2, 3, 4, 5, 6, 7, 8, 9, 10, 24, 25, 11, 26, 27, 28, 29, 30, 31, 32, 33, 12, 13, 14, 15, 16, 17, 18, 19, 20, 21, 22, 23] rfl rfl (by decide) (by decide) rfl (by decide) (fun H locs hP hD hS => ?_)
        refine lv_istore (lv' := [(9, .int r9), (8, .ref (pa (13 + (v7).toNatClampNeg))), (5, .int (v5 + (1 : Int32))), (2, .int (v2 &&& (((1 : Int32) <<< (v4 &&& 31)) ^^^ (-1 : Int32)))), (0, .ref (t 0)), (4, .int v4), (6, .int v6), (7, .int v7)]) hx hb dX10_drivenFrom_142 hl (by decide) rfl (fun ls hl => ?_)
        refine lv_iload hx hb dX10_drivenFrom_144 (lv_at hl 0 rfl) ?_
        refine lv_if_ne (tgt := 152) hx hb dX10_drivenFrom_146 (by decide) (fun c_10 => ?_) (fun c_10 => ?_)
        · rw [if_neg c_10] at hf
          refine lv_iload hx hb dX10_drivenFrom_152 (lv_at hl 0 rfl) ?_
          obtain ⟨r11, hc11, hf⟩ := kb_bind hf
          refine kb_ci (ws2 := (w_Top dA t g0 (pa 0) g2 (a 0) g4 g5 (sa 0) g7 g8 tp ++ (w_Ride dA a (pa 0) (pa 1) rd ++ (w_Plan dA pa pl ++ (w_Scene dA sa (pa 1) z3))))) (kb_rS (n := 1) (As := [.int r9]) (rest := []) hx hb hml hown hK (c_X10_lowestBit l D dA H.size r9 r11 hc11) ⟨ww_4_54, ww_4_215, ww_4_53, ww_1_1, by decide, by decide⟩ rfl rfl (by decide +kernel) ⟨Nat.le_of_ble_eq_true rfl, Nat.le_of_ble_eq_true rfl⟩ hP hD hS hA hE [] rfl (by decide) rfl hl.1 rfl (Nat.le_of_ble_eq_true rfl) dX10_drivenFrom_154 ⟨Nat.le_of_ble_eq_true rfl, Nat.le_of_ble_eq_true rfl⟩) hP hD hS hA [] [0, 1, 2, 3, 4, 5, 6, 7, 8, 9, 10, 11, 12, 13, 14, 15, 16, 17, 18, 19, 20, 21, 22, 23, 24, 25, 26, 27, 28, 29, 30, 31, 32, 33] [0, 1, 2, 3, 4, 5, 6, 7, 8, 9, 10, 11, 12, 13, 14, 15, 16, 17, 18, 19, 20, 21, 22, 23, 24, 25, 26, 27, 28, 29, 30, 31, 32, 33] rfl rfl (by decide) (by decide) rfl (by decide) (fun H locs hP hD hS => ?_)
          refine lv_istore (lv' := [(4, .int r11), (9, .int r9), (8, .ref (pa (13 + (v7).toNatClampNeg))), (5, .int (v5 + (1 : Int32))), (2, .int (v2 &&& (((1 : Int32) <<< (v4 &&& 31)) ^^^ (-1 : Int32)))), (0, .ref (t 0)), (6, .int v6), (7, .int v7)]) hx hb dX10_drivenFrom_157 hl (by decide) rfl (fun ls hl => ?_)
          refine lv_iload hx hb dX10_drivenFrom_159 (lv_at hl 7 rfl) ?_
          refine lv_istore_n (lv' := [(3, .int v7), (4, .int r11), (9, .int r9), (8, .ref (pa (13 + (v7).toNatClampNeg))), (5, .int (v5 + (1 : Int32))), (2, .int (v2 &&& (((1 : Int32) <<< (v4 &&& 31)) ^^^ (-1 : Int32)))), (0, .ref (t 0)), (6, .int v6), (7, .int v7)]) hx hb dX10_drivenFrom_161 rfl hl (by decide) rfl (fun ls hl => ?_)
          refine lv_iinc (v := (v6 + (1 : Int32))) (lv' := [(6, .int (v6 + (1 : Int32))), (3, .int v7), (4, .int r11), (9, .int r9), (8, .ref (pa (13 + (v7).toNatClampNeg))), (5, .int (v5 + (1 : Int32))), (2, .int (v2 &&& (((1 : Int32) <<< (v4 &&& 31)) ^^^ (-1 : Int32)))), (0, .ref (t 0)), (7, .int v7)]) hx hb dX10_drivenFrom_162 hl (k := 7) rfl (by rfl) (by decide) rfl (fun ls hl => ?_)
          refine lv_goto (tgt := 37) hx hb dX10_drivenFrom_165 (by decide) ?_
          exact hk37 (kb_ph [(pa 1)]) _ _ _ _ _ _ _ _ _ hf hP hD hS (lv_sub hl [7, 6, 1, 2, 5, 0] rfl)
        · rw [if_pos c_10] at hf
          refine lv_iload hx hb dX10_drivenFrom_149 (lv_at hl 2 rfl) ?_
          exact RET (kb_ph [(pa 1)]) _ _ H _ ls 151 hf hP hD hS dX10_drivenFrom_151
      · rw [if_neg c_6] at hf
        refine lv_iload hx hb dX10_drivenFrom_93 (lv_at hl 3 rfl) ?_
        exact RET (kb_ph [(pa 1)]) _ _ H _ ls 95 hf hP hD hS dX10_drivenFrom_95
  have B_37 : ∀ (n : Nat) (ph : Nat → Nat) (v2 : Int32) (v3 : Int32) (v4 : Int32) (v5 : Int32) (v6 : Int32) (z3 : SceneT) (H : Heap) (locs : List Loc) (ls : Array Slot), f_X10_drivenFrom_b37 tp rd pl n v2 v3 v4 v5 v6 z3 = some (rv, u3) → va_P D vwCl (w_Top dA t g0 (pa 0) g2 (a 0) g4 g5 (sa 0) g7 g8 tp ++ (w_Ride dA a (pa 0) (pa 1) rd ++ (w_Plan dA pa pl ++ (w_Scene dA sa (pa 1) z3)))) H → va_D A (w_Top dA t g0 (pa 0) g2 (a 0) g4 g5 (sa 0) g7 g8 tp ++ (w_Ride dA a (pa 0) (pa 1) rd ++ (w_Plan dA pa pl ++ (w_Scene dA sa (pa 1) z3)))) → va_S A s.heap H locs → lv_has ls 10 [(0, .ref (t 0)), (2, .int v2), (3, .int v3), (4, .int v4), (5, .int v5), (6, .int v6)] → W p l e ({ frames := 3, cells := 0, slots := 0, locals := 85 } : Room) s m ([.ref (t 0), .int x0] : List Value).toArray below meth c H locs 0 0 Q (F0 m 37 ls []) := by
    intro n
    induction n with
    | zero =>
      intro ph v2 v3 v4 v5 v6 z3 H locs ls hf
      exact absurd hf (by simp [f_X10_drivenFrom_b37])
    | succ n ih =>
      intro ph v2 v3 v4 v5 v6 z3 H locs ls hf hP hD hS hl
      rw [f_X10_drivenFrom_b37] at hf
      refine lv_iload hx hb dX10_drivenFrom_37 (lv_at hl 5 rfl) ?_
      refine lv_bipush (v := (8 : Int32)) hx hb dX10_drivenFrom_39 (by decide) ?_
      refine lv_icmp_gt (tgt := 168) hx hb dX10_drivenFrom_41 (by decide) (fun c_2 => ?_) (fun c_2 => ?_)
      · rw [if_pos c_2] at hf
        refine lv_iload hx hb dX10_drivenFrom_168 (lv_at hl 4 rfl) ?_
        exact RET (kb_ph [(pa 1)]) _ _ H _ ls 170 hf hP hD hS dX10_drivenFrom_170
      · rw [if_neg c_2] at hf
        refine lv_aload_n hx hb dX10_drivenFrom_44 rfl (lv_at hl 0 rfl) ?_
        refine va_get (D := D) (ci := 10) (v := .ref (sa 0)) (C := RX10) (T := TX10) (N := 12) hx hb hts kb_inX10 hown hK.1 hP 0 rfl rfl 8 (by decide) (hK.2.w ww_2_160 rfl _) (fun _ h9 => h9) rfl dX10_drivenFrom_45 ?_
        refine va_get (D := D) (ci := 9) (v := .ref (sa 1)) (C := RX9) (T := TX9) (N := 3) hx hb hts kb_inX9 hown hK.1 hP 31 rfl rfl 0 (by decide) (hK.2.w ww_2_53 rfl _) (fun _ h9 => h9) rfl dX10_drivenFrom_48 ?_
        refine lv_iload hx hb dX10_drivenFrom_51 (lv_at hl 3 rfl) ?_
        obtain ⟨h_3, hf⟩ := kb_if hf
        refine va_iald (D := D) hx hb hK.1 hP 32 0 rfl rfl h_3 dX10_drivenFrom_53 ?_
        refine lv_istore (lv' := [(7, .int ((sc_sitter z3) (v4).toNatClampNeg)), (0, .ref (t 0)), (2, .int v2), (3, .int v3), (4, .int v4), (5, .int v5), (6, .int v6)]) hx hb dX10_drivenFrom_54 hl (by decide) rfl (fun ls hl => ?_)
        refine lv_aload_n hx hb dX10_drivenFrom_56 rfl (lv_at hl 1 rfl) ?_
        refine va_get (D := D) (ci := 10) (v := .ref (sa 0)) (C := RX10) (T := TX10) (N := 12) hx hb hts kb_inX10 hown hK.1 hP 0 rfl rfl 8 (by decide) (hK.2.w ww_2_160 rfl _) (fun _ h9 => h9) rfl dX10_drivenFrom_57 ?_
        refine va_get (D := D) (ci := 9) (v := .ref (sa 1)) (C := RX9) (T := TX9) (N := 3) hx hb hts kb_inX9 hown hK.1 hP 31 rfl rfl 0 (by decide) (hK.2.w ww_2_53 rfl _) (fun _ h9 => h9) rfl dX10_drivenFrom_60 ?_
        refine lv_iload hx hb dX10_drivenFrom_63 (lv_at hl 4 rfl) ?_
        refine lv_iload_n hx hb dX10_drivenFrom_65 rfl (lv_at hl 3 rfl) ?_
        obtain ⟨h_4, hf⟩ := kb_if hf
        refine va_iast (D := D) hx hb hK.1 hP hD hS 32 0 rfl rfl h_4 dX10_drivenFrom_66 (fun H locs hP hD hS => ?_)
        have hP : va_P D vwCl (w_Top dA t g0 (pa 0) g2 (a 0) g4 g5 (sa 0) g7 g8 tp ++ (w_Ride dA a (pa 0) (pa 1) rd ++ (w_Plan dA pa pl ++ (w_Scene dA sa (pa 1) (sc_set_sitter z3 (upd (sc_sitter z3) (v4).toNatClampNeg v3)))))) H := hP
        have hD : va_D A (w_Top dA t g0 (pa 0) g2 (a 0) g4 g5 (sa 0) g7 g8 tp ++ (w_Ride dA a (pa 0) (pa 1) rd ++ (w_Plan dA pa pl ++ (w_Scene dA sa (pa 1) (sc_set_sitter z3 (upd (sc_sitter z3) (v4).toNatClampNeg v3)))))) := hD
        exact B_67 (f_X10_drivenFrom_b37 tp rd pl n) ih (kb_ph [(pa 1)]) _ _ _ _ _ _ _ _ _ hf hP hD hS (lv_sub hl [1, 2, 4, 5, 6, 0] rfl)
  have B_14 : ∀ (ph : Nat → Nat) (v1 : Int32) (z3 : SceneT) (H : Heap) (locs : List Loc) (ls : Array Slot), f_X10_drivenFrom_b14 tp rd pl v1 z3 = some (rv, u3) → va_P D vwCl (w_Top dA t g0 (pa 0) g2 (a 0) g4 g5 (sa 0) g7 g8 tp ++ (w_Ride dA a (pa 0) (pa 1) rd ++ (w_Plan dA pa pl ++ (w_Scene dA sa (pa 1) z3)))) H → va_D A (w_Top dA t g0 (pa 0) g2 (a 0) g4 g5 (sa 0) g7 g8 tp ++ (w_Ride dA a (pa 0) (pa 1) rd ++ (w_Plan dA pa pl ++ (w_Scene dA sa (pa 1) z3)))) → va_S A s.heap H locs → lv_has ls 10 [(0, .ref (t 0)), (1, .int v1)] → W p l e ({ frames := 3, cells := 0, slots := 0, locals := 85 } : Room) s m ([.ref (t 0), .int x0] : List Value).toArray below meth c H locs 0 0 Q (F0 m 14 ls []) := by
    intro ph v1 z3 H locs ls hf hP hD hS hl
    rw [f_X10_drivenFrom_b14] at hf
    refine lv_aload_n hx hb dX10_drivenFrom_14 rfl (lv_at hl 0 rfl) ?_
    refine va_get (D := D) (ci := 10) (v := .ref (pa 0)) (C := RX10) (T := TX10) (N := 12) hx hb hts kb_inX10 hown hK.1 hP 0 rfl rfl 1 (by decide) (hK.2.w ww_2_153 rfl _) (fun _ h9 => h9) rfl dX10_drivenFrom_15 ?_
    refine va_get (D := D) (ci := 5) (v := .ref (pa 1)) (C := RX5) (T := TX5) (N := 8) hx hb hts kb_inX5 hown hK.1 hP 10 rfl rfl 0 (by decide) (hK.2.w ww_1_215 rfl _) (fun _ h9 => h9) rfl dX10_drivenFrom_18 ?_
    refine va_get (D := D) (ci := 0) (v := .int (cb_seats (pl_cab pl))) (C := RX0) (T := TX0) (N := 8) hx hb hts kb_inX0 hown hK.1 hP 11 rfl rfl 6 (by decide) (hK.2.w ww_1_107 rfl _) (fun _ h9 => h9) rfl dX10_drivenFrom_21 ?_
    refine lv_istore_n (lv' := [(2, .int (cb_seats (pl_cab pl))), (0, .ref (t 0)), (1, .int v1)]) hx hb dX10_drivenFrom_24 rfl hl (by decide) rfl (fun ls hl => ?_)
    refine lv_bipush (v := (8 : Int32)) hx hb dX10_drivenFrom_25 (by decide) ?_
    refine lv_istore_n (lv' := [(3, .int (8 : Int32)), (2, .int (cb_seats (pl_cab pl))), (0, .ref (t 0)), (1, .int v1)]) hx hb dX10_drivenFrom_27 rfl hl (by decide) rfl (fun ls hl => ?_)
    refine lv_iload_n hx hb dX10_drivenFrom_28 rfl (lv_at hl 3 rfl) ?_
    refine lv_istore (lv' := [(4, .int v1), (3, .int (8 : Int32)), (2, .int (cb_seats (pl_cab pl))), (0, .ref (t 0)), (1, .int v1)]) hx hb dX10_drivenFrom_29 hl (by decide) rfl (fun ls hl => ?_)
    refine lv_iconst (v := (0 : Int32)) hx hb dX10_drivenFrom_31 (by decide) ?_
    refine lv_istore (lv' := [(5, .int (0 : Int32)), (4, .int v1), (3, .int (8 : Int32)), (2, .int (cb_seats (pl_cab pl))), (0, .ref (t 0)), (1, .int v1)]) hx hb dX10_drivenFrom_32 hl (by decide) rfl (fun ls hl => ?_)
    refine lv_iconst (v := (0 : Int32)) hx hb dX10_drivenFrom_34 (by decide) ?_
    refine lv_istore (lv' := [(6, .int (0 : Int32)), (5, .int (0 : Int32)), (4, .int v1), (3, .int (8 : Int32)), (2, .int (cb_seats (pl_cab pl))), (0, .ref (t 0)), (1, .int v1)]) hx hb dX10_drivenFrom_35 hl (by decide) rfl (fun ls hl => ?_)
    exact B_37 4096 (kb_ph [(pa 1)]) _ _ _ _ _ _ _ _ _ hf hP hD hS (lv_sub hl [5, 4, 3, 2, 1, 0] rfl)
  have E0 : ∀ (H : Heap) (locs : List Loc), va_P D vwCl (w_Top dA t g0 (pa 0) g2 (a 0) g4 g5 (sa 0) g7 g8 tp ++ (w_Ride dA a (pa 0) (pa 1) rd ++ (w_Plan dA pa pl ++ (w_Scene dA sa (ph 0) sn)))) H → va_D A (w_Top dA t g0 (pa 0) g2 (a 0) g4 g5 (sa 0) g7 g8 tp ++ (w_Ride dA a (pa 0) (pa 1) rd ++ (w_Plan dA pa pl ++ (w_Scene dA sa (ph 0) sn)))) → va_S A s.heap H locs → W p l e ({ frames := 3, cells := 0, slots := 0, locals := 85 } : Room) s m ([.ref (t 0), .int x0] : List Value).toArray below meth c H locs 0 0 Q (F0 m 0 ls []) := by
    intro H locs hP hD hS
    rw [f_X10_drivenFrom] at hf
    refine lv_aload_n hx hb dX10_drivenFrom_0 rfl (lv_at hl 0 rfl) ?_
    refine va_get (D := D) (ci := 10) (v := .ref (sa 0)) (C := RX10) (T := TX10) (N := 12) hx hb hts kb_inX10 hown hK.1 hP 0 rfl rfl 8 (by decide) (hK.2.w ww_2_160 rfl _) (fun _ h9 => h9) rfl dX10_drivenFrom_1 ?_
    refine lv_aload_n hx hb dX10_drivenFrom_4 rfl (lv_at hl 0 rfl) ?_
    refine va_get (D := D) (ci := 10) (v := .ref (a 0)) (C := RX10) (T := TX10) (N := 12) hx hb hts kb_inX10 hown hK.1 hP 0 rfl rfl 4 (by decide) (hK.2.w ww_2_156 rfl _) (fun _ h9 => h9) rfl dX10_drivenFrom_5 ?_
    refine va_get (D := D) (ci := 6) (v := .ref (a 1)) (C := RX6) (T := TX6) (N := 11) hx hb hts kb_inX6 hown hK.1 hP 1 rfl rfl 1 (by decide) (hK.2.w ww_2_69 rfl _) (fun _ h9 => h9) rfl dX10_drivenFrom_8 ?_
    obtain ⟨r1, hc1, hf⟩ := kb_bind hf
    refine kb_cv (ws2 := (w_Top dA t g0 (pa 0) g2 (a 0) g4 g5 (sa 0) g7 g8 tp ++ (w_Ride dA a (pa 0) (pa 1) rd ++ (w_Plan dA pa pl ++ (w_Scene dA sa (pa 1) r1))))) (kb_rV (n := 1) (As := [.ref (a 1)]) (rest := []) hx hb hml hown hK (c_X9_copyFrom l D dA H.size sa (fun k => a (1 + k)) (ph 0) (pa 1) sn (rd_scene rd) r1 hc1) ⟨ww_4_137, ww_4_213, ww_4_135, ww_4_136, ww_1_9, rfl, by decide, by decide⟩ rfl rfl (by decide +kernel) ⟨Nat.le_of_ble_eq_true rfl, Nat.le_of_ble_eq_true rfl⟩ hP hD hS hA hE [31, 32, 33, 2, 3, 4] rfl (by decide) 0 rfl rfl rfl hl.1 rfl (Nat.le_of_ble_eq_true rfl) dX10_drivenFrom_11 ⟨Nat.le_of_ble_eq_true rfl, Nat.le_of_ble_eq_true rfl⟩) hP hD hS hA [31, 32, 33, 2, 3, 4] [0, 1, 5, 6, 7, 8, 9, 10, 11, 12, 13, 14, 15, 16, 17, 18, 19, 20, 21, 22, 23, 24, 25, 26, 27, 28, 29, 30] [0, 1, 31, 32, 33, 2, 3, 4, 5, 6, 7, 8, 9, 10, 11, 12, 13, 14, 15, 16, 17, 18, 19, 20, 21, 22, 23, 24, 25, 26, 27, 28, 29, 30] rfl rfl (by decide) (by decide) rfl (by decide) (fun H locs hP hD hS => ?_)
    exact B_14 (kb_ph [(pa 1)]) _ _ _ _ _ hf hP hD hS (lv_sub hl [0, 1] rfl)
  exact E0 _ _ hP hD hS

noncomputable def f_X10_monday (tp : TopT) (rd : RideT) (pl : PlanT) (sn : SceneT) (x0 : Int32) : Option (Int32 × TopT × SceneT) := (f_X10_isSeat tp pl x0).bind fun r1 => (if r1 = 0 then (f_X10_refused tp (1 : Int32)).bind fun r5 => some (r5.1, r5.2, sn) else (f_X10_drivenFrom tp rd pl sn x0).bind fun r3 => (f_X10_answered tp r3.1).bind fun r4 => some (r4.1, r4.2, r3.2))
set_option maxHeartbeats 4000000 in
set_option maxRecDepth 100000 in
theorem c_X10_monday (l : Launch) (D : va_G) (dA : Nat → ClassId) (sz : Nat) (t : Nat → Nat) (a : Nat → Nat) (pa : Nat → Nat) (sa : Nat → Nat) (g0 : Nat) (g2 : Nat) (g4 : Nat) (g5 : Nat) (g7 : Nat) (g8 : Nat) (ph : Nat → Nat) (tp : TopT) (rd : RideT) (pl : PlanT) (sn : SceneT) (x0 : Int32) (rv : Int32) (u0 : TopT) (u3 : SceneT) (hf : f_X10_monday tp rd pl sn x0 = some (rv, u0, u3)) : kb_FMi l yX10_monday cX10_monday 2 (some .int) ({ frames := 4, cells := 0, slots := 0, locals := 114 } : Room) D dA [.ref (t 0), .int x0] sz (w_Top dA t g0 (pa 0) g2 (a 0) g4 g5 (sa 0) g7 g8 tp ++ (w_Ride dA a (pa 0) (pa 1) rd ++ (w_Plan dA pa pl ++ (w_Scene dA sa (ph 0) sn)))) 0 0 rv (fun (ph2 : Nat → Nat) => (w_Top dA t g0 (pa 0) g2 (a 0) g4 g5 (sa 0) g7 g8 u0 ++ (w_Ride dA a (pa 0) (pa 1) rd ++ (w_Plan dA pa pl ++ (w_Scene dA sa (ph2 0) u3))))) := by
  refine Met.ofW (cc := cX10_monday) (maxL := 2) (ret := (some .int)) (by decide) rfl ?_
  intro p e s m args below meth c s₁ B hml hv
  obtain ⟨rfl, hsz, hP, hK, hD0, hE⟩ := hv
  have hx := B.exec
  have hb := B.bytes
  have hr := B.returns
  have hown : s.vm.findClass RX10 = some m.cls := findClass_of_methodNamed B.named
  have hlocks := B.notSynchronized
  have hts : ∀ w ∈ kb_gw, w.before ([.ref (t 0), .int x0] : List Value).toArray s = true := fun w hw => hK.2.1 w hw _
  subst hsz
  have hD := hD0.self (sz := s.heap.size)
  generalize hAe : va_A (w_Top dA t g0 (pa 0) g2 (a 0) g4 g5 (sa 0) g7 g8 tp ++ (w_Ride dA a (pa 0) (pa 1) rd ++ (w_Plan dA pa pl ++ (w_Scene dA sa (ph 0) sn)))) s.heap.size = A at hD hE ⊢
  have hA : ∀ q : Nat, s.heap.size ≤ q → A q := fun q h => by rw [← hAe]; exact Or.inr h
  have hS : va_S A s.heap s.heap [] := va_S.rf
  have hl := lv_entry ([.ref (t 0), .int x0]) (n := 2) (Nat.le_of_ble_eq_true rfl)
  rw [lg_entry_eq]
  generalize (lg_sl ([.ref (t 0), .int x0]) ++ List.replicate (2 - (lg_sl ([.ref (t 0), .int x0])).length) Slot.unset).toArray = ls at hl ⊢
  have hl : lv_has ls 2 [(0, .ref (t 0)), (1, .int x0)] := hl
  generalize hQ : MQ below (va_Qi (fun r (_ : Nat → Nat) => r = rv) (fun ph2 => kb_B D A (w_Top dA t g0 (pa 0) g2 (a 0) g4 g5 (sa 0) g7 g8 u0 ++ (w_Ride dA a (pa 0) (pa 1) rd ++ (w_Plan dA pa pl ++ (w_Scene dA sa (ph2 0) u3)))) ()) A) ([.ref (t 0), .int x0] : List Value).toArray s 0 0 A = Q
  show W p l e ({ frames := 4, cells := 0, slots := 0, locals := 114 } : Room) s m ([.ref (t 0), .int x0] : List Value).toArray below meth c s.heap [] 0 0 Q (F0 m 0 ls [])
  have RET : ∀ (ph2 : Nat → Nat) (r2 : Int32) (w0 : TopT) (w3 : SceneT) (H : Heap) (locs : List Loc) (ls : Array Slot) (pc : Nat), some (r2, w0, w3) = some (rv, u0, u3) → va_P D vwCl (w_Top dA t g0 (pa 0) g2 (a 0) g4 g5 (sa 0) g7 g8 w0 ++ (w_Ride dA a (pa 0) (pa 1) rd ++ (w_Plan dA pa pl ++ (w_Scene dA sa (ph2 0) w3)))) H → va_D A (w_Top dA t g0 (pa 0) g2 (a 0) g4 g5 (sa 0) g7 g8 w0 ++ (w_Ride dA a (pa 0) (pa 1) rd ++ (w_Plan dA pa pl ++ (w_Scene dA sa (ph2 0) w3)))) → va_S A s.heap H locs → decode cX10_monday pc = .ok (.ireturn, 1) → W p l e ({ frames := 4, cells := 0, slots := 0, locals := 114 } : Room) s m ([.ref (t 0), .int x0] : List Value).toArray below meth c H locs 0 0 Q (F0 m pc ls [.int r2]) := by
    intro ph2 r2 w0 w3 H locs ls pc hq hP hD hS hd
    cases hq
    rw [← hQ]
    exact W.iret hx hb hr (fun t ht hW => ⟨⟨_, ph2, rfl, rfl, by rw [ht]; exact hP, hD⟩, hS.F ht⟩) hS.2.2 hd
  have E0 : ∀ (H : Heap) (locs : List Loc), va_P D vwCl (w_Top dA t g0 (pa 0) g2 (a 0) g4 g5 (sa 0) g7 g8 tp ++ (w_Ride dA a (pa 0) (pa 1) rd ++ (w_Plan dA pa pl ++ (w_Scene dA sa (ph 0) sn)))) H → va_D A (w_Top dA t g0 (pa 0) g2 (a 0) g4 g5 (sa 0) g7 g8 tp ++ (w_Ride dA a (pa 0) (pa 1) rd ++ (w_Plan dA pa pl ++ (w_Scene dA sa (ph 0) sn)))) → va_S A s.heap H locs → W p l e ({ frames := 4, cells := 0, slots := 0, locals := 114 } : Room) s m ([.ref (t 0), .int x0] : List Value).toArray below meth c H locs 0 0 Q (F0 m 0 ls []) := by
    intro H locs hP hD hS
    rw [f_X10_monday] at hf
    refine lv_aload_n hx hb dX10_monday_0 rfl (lv_at hl 0 rfl) ?_
    refine lv_iload_n hx hb dX10_monday_1 rfl (lv_at hl 1 rfl) ?_
    obtain ⟨r1, hc1, hf⟩ := kb_bind hf
    refine kb_ci (ws2 := (w_Top dA t g0 (pa 0) g2 (a 0) g4 g5 (sa 0) g7 g8 tp ++ (w_Ride dA a (pa 0) (pa 1) rd ++ (w_Plan dA pa pl ++ (w_Scene dA sa (ph 0) sn))))) (kb_rV (n := 1) (As := [.int x0]) (rest := []) hx hb hml hown hK (c_X10_isSeat l D dA H.size t pa g0 g2 (a 0) g4 g5 (sa 0) g7 g8 tp pl x0 r1 hc1) ⟨ww_4_83, ww_4_80, ww_4_82, ws_34, ww_1_1, rfl, by decide, by decide⟩ rfl rfl (by decide +kernel) ⟨Nat.le_of_ble_eq_true rfl, Nat.le_of_ble_eq_true rfl⟩ hP hD hS hA hE [0, 10, 11, 12, 13, 14, 15, 16, 17, 18, 19, 20, 21, 22, 23, 24, 25, 26, 27, 28, 29, 30] rfl (by decide) 0 rfl rfl rfl hl.1 rfl (Nat.le_of_ble_eq_true rfl) dX10_monday_2 ⟨Nat.le_of_ble_eq_true rfl, Nat.le_of_ble_eq_true rfl⟩) hP hD hS hA [0, 10, 11, 12, 13, 14, 15, 16, 17, 18, 19, 20, 21, 22, 23, 24, 25, 26, 27, 28, 29, 30] [1, 2, 3, 4, 5, 6, 7, 8, 9, 31, 32, 33] [12, 0, 1, 2, 3, 4, 5, 6, 7, 8, 13, 14, 15, 16, 17, 18, 19, 20, 21, 22, 23, 24, 25, 26, 27, 28, 29, 30, 31, 32, 33, 9, 10, 11] rfl rfl (by decide) (by decide) rfl (by decide) (fun H locs hP hD hS => ?_)
    refine lv_if_ne (tgt := 14) hx hb dX10_monday_5 (by decide) (fun c_2 => ?_) (fun c_2 => ?_)
    · rw [if_neg c_2] at hf
      refine lv_aload_n hx hb dX10_monday_14 rfl (lv_at hl 0 rfl) ?_
      refine lv_aload_n hx hb dX10_monday_15 rfl (lv_at hl 0 rfl) ?_
      refine lv_iload_n hx hb dX10_monday_16 rfl (lv_at hl 1 rfl) ?_
      obtain ⟨r3, hc3, hf⟩ := kb_bind hf
      refine kb_Fci (ws2 := fun ph3 => (w_Top dA t g0 (pa 0) g2 (a 0) g4 g5 (sa 0) g7 g8 tp ++ (w_Ride dA a (pa 0) (pa 1) rd ++ (w_Plan dA pa pl ++ (w_Scene dA sa (ph3 0) r3.2))))) (kb_rV (n := 1) (As := [.int x0]) (rest := [.ref (t 0)]) hx hb hml hown hK (c_X10_drivenFrom l D dA H.size t a pa sa g0 g2 g4 g5 g7 g8 (kb_ph [(ph 0)]) tp rd pl sn x0 r3.1 r3.2 hc3) ⟨ww_4_212, ww_4_209, ww_4_211, ws_37, ww_1_1, rfl, by decide, by decide⟩ rfl rfl (by decide +kernel) ⟨Nat.le_of_ble_eq_true rfl, Nat.le_of_ble_eq_true rfl⟩ hP hD hS hA hE [0, 1, 2, 3, 4, 5, 6, 7, 8, 9, 10, 11, 12, 13, 14, 15, 16, 17, 18, 19, 20, 21, 22, 23, 24, 25, 26, 27, 28, 29, 30, 31, 32, 33] rfl (by decide) 0 rfl rfl rfl hl.1 rfl (Nat.le_of_ble_eq_true rfl) dX10_monday_17 ⟨Nat.le_of_ble_eq_true rfl, Nat.le_of_ble_eq_true rfl⟩) hP hD hS hA [0, 1, 2, 3, 4, 5, 6, 7, 8, 9, 10, 11, 12, 13, 14, 15, 16, 17, 18, 19, 20, 21, 22, 23, 24, 25, 26, 27, 28, 29, 30, 31, 32, 33] [] [0, 1, 2, 3, 4, 5, 6, 7, 8, 9, 10, 11, 12, 13, 14, 15, 16, 17, 18, 19, 20, 21, 22, 23, 24, 25, 26, 27, 28, 29, 30, 31, 32, 33] rfl rfl (by decide) (by decide) (fun _ => rfl) (by decide) (fun ph3 H locs hP hD hS => ?_)
      obtain ⟨r4, hc4, hf⟩ := kb_bind hf
      refine kb_ci (ws2 := (w_Top dA t g0 (pa 0) g2 (a 0) g4 g5 (sa 0) g7 g8 r4.2 ++ (w_Ride dA a (pa 0) (pa 1) rd ++ (w_Plan dA pa pl ++ (w_Scene dA sa (ph3 0) r3.2))))) (kb_rV (n := 1) (As := [.int r3.1]) (rest := []) hx hb hml hown hK (c_X10_answered l D dA H.size t g0 (pa 0) g2 (a 0) g4 g5 (sa 0) g7 g8 tp r3.1 r4.1 r4.2 hc4) ⟨ww_3_184, ww_3_181, ww_3_183, ws_22, ww_1_1, rfl, by decide, by decide⟩ rfl rfl (by decide +kernel) ⟨Nat.le_of_ble_eq_true rfl, Nat.le_of_ble_eq_true rfl⟩ hP hD hS hA hE [0] rfl (by decide) 0 rfl rfl rfl hl.1 rfl (Nat.le_of_ble_eq_true rfl) dX10_monday_20 ⟨Nat.le_of_ble_eq_true rfl, Nat.le_of_ble_eq_true rfl⟩) hP hD hS hA [0] [1, 2, 3, 4, 5, 6, 7, 8, 9, 10, 11, 12, 13, 14, 15, 16, 17, 18, 19, 20, 21, 22, 23, 24, 25, 26, 27, 28, 29, 30, 31, 32, 33] [33, 0, 1, 2, 3, 4, 5, 6, 7, 8, 9, 10, 11, 12, 13, 14, 15, 16, 17, 18, 19, 20, 21, 22, 23, 24, 25, 26, 27, 28, 29, 30, 31, 32] rfl rfl (by decide) (by decide) rfl (by decide) (fun H locs hP hD hS => ?_)
      exact RET (kb_ph [(ph3 0)]) _ _ _ H _ ls 23 hf hP hD hS dX10_monday_23
    · rw [if_pos c_2] at hf
      refine lv_aload_n hx hb dX10_monday_8 rfl (lv_at hl 0 rfl) ?_
      refine lv_iconst (v := (1 : Int32)) hx hb dX10_monday_9 (by decide) ?_
      obtain ⟨r5, hc5, hf⟩ := kb_bind hf
      refine kb_ci (ws2 := (w_Top dA t g0 (pa 0) g2 (a 0) g4 g5 (sa 0) g7 g8 r5.2 ++ (w_Ride dA a (pa 0) (pa 1) rd ++ (w_Plan dA pa pl ++ (w_Scene dA sa (ph 0) sn))))) (kb_rV (n := 1) (As := [.int (1 : Int32)]) (rest := []) hx hb hml hown hK (c_X10_refused l D dA H.size t g0 (pa 0) g2 (a 0) g4 g5 (sa 0) g7 g8 tp (1 : Int32) r5.1 r5.2 hc5) ⟨ww_2_204, ww_2_201, ww_2_203, ws_0, ww_1_1, rfl, by decide, by decide⟩ rfl rfl (by decide +kernel) ⟨Nat.le_of_ble_eq_true rfl, Nat.le_of_ble_eq_true rfl⟩ hP hD hS hA hE [0] rfl (by decide) 0 rfl rfl rfl hl.1 rfl (Nat.le_of_ble_eq_true rfl) dX10_monday_10 ⟨Nat.le_of_ble_eq_true rfl, Nat.le_of_ble_eq_true rfl⟩) hP hD hS hA [0] [1, 2, 3, 4, 5, 6, 7, 8, 9, 10, 11, 12, 13, 14, 15, 16, 17, 18, 19, 20, 21, 22, 23, 24, 25, 26, 27, 28, 29, 30, 31, 32, 33] [33, 0, 1, 2, 3, 4, 5, 6, 7, 8, 9, 10, 11, 12, 13, 14, 15, 16, 17, 18, 19, 20, 21, 22, 23, 24, 25, 26, 27, 28, 29, 30, 31, 32] rfl rfl (by decide) (by decide) rfl (by decide) (fun H locs hP hD hS => ?_)
      exact RET (kb_ph [(ph 0)]) _ _ _ H _ ls 13 hf hP hD hS dX10_monday_13
  exact E0 _ _ hP hD hS
