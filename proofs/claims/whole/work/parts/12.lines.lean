noncomputable def f_X4_readBus_b152 (z0 : ParserT) (z1 : PlanT) : Option (Int32 × ParserT × PlanT) := some ((1 : Int32), z0, z1)
noncomputable def f_X4_readBus_b117 (z0 : ParserT) (z1 : PlanT) : Option (Int32 × ParserT × PlanT) := (if (ps_fault z0) = 0 then (f_X4_skipWord z0 6).bind fun r9 => (if r9.1 = 0 then some ((0 : Int32), r9.2, z1) else (f_X4_readSide r9.2 (pl_cab z1)).bind fun r11 => (if r11.1 = 0 then some ((0 : Int32), r11.2.1, (pl_set_cab z1 r11.2.2)) else (f_X0_placeSeats (pl_cab (pl_set_cab z1 r11.2.2))).bind fun r13 => f_X4_readBus_b152 r11.2.1 (pl_set_hasCabin (pl_set_cab (pl_set_cab z1 r11.2.2) r13) (1 : Int32)))) else some ((0 : Int32), z0, z1))
noncomputable def f_X4_readBus_b97 (z0 : ParserT) (z1 : PlanT) : Option (Int32 × ParserT × PlanT) := (if (ps_fault z0) = 0 then (f_X4_numberBehind z0 5 (0 : Int32) (9 : Int32)).bind fun r14 => f_X4_readBus_b117 r14.2 (pl_set_cab z1 (cb_set_rise (pl_cab z1) r14.1)) else f_X4_readBus_b117 z0 z1)
noncomputable def f_X4_readBus_b77 (z0 : ParserT) (z1 : PlanT) : Option (Int32 × ParserT × PlanT) := (if (ps_fault z0) = 0 then (f_X4_numberBehind z0 4 (1 : Int32) (9 : Int32)).bind fun r15 => f_X4_readBus_b97 r15.2 (pl_set_cab z1 (cb_set_pace (pl_cab z1) r15.1)) else f_X4_readBus_b97 z0 z1)
noncomputable def f_X4_readBus_b53 (z0 : ParserT) (z1 : PlanT) : Option (Int32 × ParserT × PlanT) := (if (ps_fault z0) = 0 then (f_X4_numberBehind z0 3 (0 : Int32) ((cb_rows (pl_cab z1)) - (1 : Int32))).bind fun r16 => f_X4_readBus_b77 r16.2 (pl_set_cab z1 (cb_set_door (pl_cab z1) r16.1)) else f_X4_readBus_b77 z0 z1)
noncomputable def f_X4_readBus_b34 (z0 : ParserT) (z1 : PlanT) : Option (Int32 × ParserT × PlanT) := (if (ps_fault z0) = 0 then (f_X4_numberBehind z0 2 (0 : Int32) (2 : Int32)).bind fun r17 => f_X4_readBus_b53 r17.2 (pl_set_cab z1 (cb_set_form (pl_cab z1) r17.1)) else f_X4_readBus_b53 z0 z1)
noncomputable def f_X4_readBus (ps : ParserT) (pl : PlanT) : Option (Int32 × ParserT × PlanT) := (if (pl_hasCabin pl) = 0 then (f_X4_advance ps).bind fun r2 => (f_X4_numberBehind r2 1 (1 : Int32) (5 : Int32)).bind fun r3 => f_X4_readBus_b34 r3.2 (pl_set_cab pl (cb_set_rows (pl_cab pl) r3.1)) else (f_X4_failed ps (3 : Int32)).bind fun r18 => if kb_01 r18.1 then some (r18.1, r18.2, pl) else none)
set_option maxHeartbeats 4000000 in
set_option maxRecDepth 100000 in
theorem c_X4_readBus (l : Launch) (D : va_G) (dA : Nat → ClassId) (sz : Nat) (a : Nat → Nat) (pa : Nat → Nat) (ps : ParserT) (pl : PlanT) (rv : Int32) (u0 : ParserT) (u1 : PlanT) (hf : f_X4_readBus ps pl = some (rv, u0, u1)) : kb_Mi l yX4_readBus cX4_readBus 3 (some .boolean) ({ frames := 7, cells := 0, slots := 0, locals := 149 } : Room) D dA [.ref (a 0), .ref (pa 0)] sz (w_Parser dA a ps ++ (w_Plan dA pa pl)) 0 0 rv (w_Parser dA a u0 ++ (w_Plan dA pa u1)) := by
  refine Met.ofW (cc := cX4_readBus) (maxL := 3) (ret := (some .boolean)) (by decide) rfl ?_
  intro p e s m args below meth c s₁ B hml hv
  obtain ⟨rfl, hsz, hP, hK, hD0, hE⟩ := hv
  have hx := B.exec
  have hb := B.bytes
  have hr := B.returns
  have hown : s.vm.findClass RX4 = some m.cls := findClass_of_methodNamed B.named
  have hlocks := B.notSynchronized
  have hts : ∀ w ∈ kb_gw, w.before ([.ref (a 0), .ref (pa 0)] : List Value).toArray s = true := fun w hw => hK.2.1 w hw _
  subst hsz
  have hD := hD0.self (sz := s.heap.size)
  generalize hAe : va_A (w_Parser dA a ps ++ (w_Plan dA pa pl)) s.heap.size = A at hD hE ⊢
  have hA : ∀ q : Nat, s.heap.size ≤ q → A q := fun q h => by rw [← hAe]; exact Or.inr h
  have hS : va_S A s.heap s.heap [] := va_S.rf
  have hl := lv_entry ([.ref (a 0), .ref (pa 0)]) (n := 3) (Nat.le_of_ble_eq_true rfl)
  rw [lg_entry_eq]
  generalize (lg_sl ([.ref (a 0), .ref (pa 0)]) ++ List.replicate (3 - (lg_sl ([.ref (a 0), .ref (pa 0)])).length) Slot.unset).toArray = ls at hl ⊢
  have hl : lv_has ls 3 [(0, .ref (a 0)), (1, .ref (pa 0))] := hl
  generalize hQ : MQ below (va_Qi (fun r (_ : Unit) => r = rv) (kb_B D A (w_Parser dA a u0 ++ (w_Plan dA pa u1))) A) ([.ref (a 0), .ref (pa 0)] : List Value).toArray s 0 0 A = Q
  show W p l e ({ frames := 7, cells := 0, slots := 0, locals := 149 } : Room) s m ([.ref (a 0), .ref (pa 0)] : List Value).toArray below meth c s.heap [] 0 0 Q (F0 m 0 ls [])
  have RET : ∀ (r2 : Int32) (w0 : ParserT) (w1 : PlanT) (H : Heap) (locs : List Loc) (ls : Array Slot) (pc : Nat), some (r2, w0, w1) = some (rv, u0, u1) → va_P D vwCl (w_Parser dA a w0 ++ (w_Plan dA pa w1)) H → va_D A (w_Parser dA a w0 ++ (w_Plan dA pa w1)) → va_S A s.heap H locs → kb_01 r2 → decode cX4_readBus pc = .ok (.ireturn, 1) → W p l e ({ frames := 7, cells := 0, slots := 0, locals := 149 } : Room) s m ([.ref (a 0), .ref (pa 0)] : List Value).toArray below meth c H locs 0 0 Q (F0 m pc ls [.int r2]) := by
    intro r2 w0 w1 H locs ls pc hq hP hD hS h01 hd
    cases hq
    rw [← hQ]
    exact W.zret (ty := .boolean) hx hb hr (kb_nz h01) (fun t ht hW => ⟨⟨_, (), rfl, rfl, by rw [ht]; exact hP, hD⟩, hS.F ht⟩) hS.2.2 hd
  have B_152 : ∀ (z0 : ParserT) (z1 : PlanT) (H : Heap) (locs : List Loc) (ls : Array Slot), f_X4_readBus_b152 z0 z1 = some (rv, u0, u1) → va_P D vwCl (w_Parser dA a z0 ++ (w_Plan dA pa z1)) H → va_D A (w_Parser dA a z0 ++ (w_Plan dA pa z1)) → va_S A s.heap H locs → lv_has ls 3 [] → W p l e ({ frames := 7, cells := 0, slots := 0, locals := 149 } : Room) s m ([.ref (a 0), .ref (pa 0)] : List Value).toArray below meth c H locs 0 0 Q (F0 m 152 ls []) := by
    intro z0 z1 H locs ls hf hP hD hS hl
    rw [f_X4_readBus_b152] at hf
    refine lv_iconst (v := (1 : Int32)) hx hb dX4_readBus_152 (by decide) ?_
    exact RET _ _ _ H _ ls 153 hf hP hD hS (by decide) dX4_readBus_153
  have B_117 : ∀ (z0 : ParserT) (z1 : PlanT) (H : Heap) (locs : List Loc) (ls : Array Slot), f_X4_readBus_b117 z0 z1 = some (rv, u0, u1) → va_P D vwCl (w_Parser dA a z0 ++ (w_Plan dA pa z1)) H → va_D A (w_Parser dA a z0 ++ (w_Plan dA pa z1)) → va_S A s.heap H locs → lv_has ls 3 [(0, .ref (a 0)), (1, .ref (pa 0)), (2, .ref (pa 1))] → W p l e ({ frames := 7, cells := 0, slots := 0, locals := 149 } : Room) s m ([.ref (a 0), .ref (pa 0)] : List Value).toArray below meth c H locs 0 0 Q (F0 m 117 ls []) := by
    intro z0 z1 H locs ls hf hP hD hS hl
    rw [f_X4_readBus_b117] at hf
    refine lv_aload_n hx hb dX4_readBus_117 rfl (lv_at hl 0 rfl) ?_
    refine va_get (D := D) (ci := 4) (v := .int (ps_fault z0)) (C := RX4) (T := TX4) (N := 10) hx hb hts kb_inX4 hown hK.1 hP 0 rfl rfl 1 (by decide) (hK.2.w ww_1_41 rfl _) (fun _ h9 => h9) rfl dX4_readBus_118 ?_
    refine lv_if_ne (tgt := 141) hx hb dX4_readBus_121 (by decide) (fun c_8 => ?_) (fun c_8 => ?_)
    · rw [if_neg c_8] at hf
      refine lv_iconst (v := (0 : Int32)) hx hb dX4_readBus_141 (by decide) ?_
      exact RET _ _ _ H _ ls 142 hf hP hD hS (by decide) dX4_readBus_142
    · rw [if_pos c_8] at hf
      refine lv_aload_n hx hb dX4_readBus_124 rfl (lv_at hl 0 rfl) ?_
      refine va_ldcS (tx := "sun") (q := dA (100 + 6)) hx hb hown (hE.2.2.2 ("BusSeats$Parser", 123, "sun", 6) (by decide)) dX4_readBus_125 ?_
      obtain ⟨r9, hc9, hf⟩ := kb_bind hf
      refine kb_ci (ws2 := (w_Parser dA a r9.2 ++ (w_Plan dA pa z1))) (kb_rV (n := 1) (As := [.ref (dA (100 + 6))]) (rest := []) hx hb hml hown hK (c_X4_skipWord l D dA H.size a z0 6 (by decide) r9.1 r9.2 hc9) ⟨ww_3_63, ww_3_60, ww_3_62, ws_8, ww_1_2, rfl, by decide, by decide⟩ rfl rfl (by decide +kernel) ⟨Nat.le_of_ble_eq_true rfl, Nat.le_of_ble_eq_true rfl⟩ hP hD hS hA hE [0, 1] rfl (by decide) 0 rfl rfl rfl hl.1 rfl (Nat.le_of_ble_eq_true rfl) dX4_readBus_127 ⟨Nat.le_of_ble_eq_true rfl, Nat.le_of_ble_eq_true rfl⟩) hP hD hS hA [0, 1] [2, 3, 4, 5, 6, 7, 8, 9, 10, 11, 12, 13, 14, 15, 16, 17, 18, 19, 20, 21, 22] [21, 22, 0, 1, 2, 3, 4, 5, 6, 7, 8, 9, 10, 11, 12, 13, 14, 15, 16, 17, 18, 19, 20] rfl rfl (by decide) (by decide) rfl (by decide) (fun H locs hP hD hS => ?_)
      refine lv_if_eq (tgt := 141) hx hb dX4_readBus_130 (by decide) (fun c_10 => ?_) (fun c_10 => ?_)
      · rw [if_pos c_10] at hf
        refine lv_iconst (v := (0 : Int32)) hx hb dX4_readBus_141 (by decide) ?_
        exact RET _ _ _ H _ ls 142 hf hP hD hS (by decide) dX4_readBus_142
      · rw [if_neg c_10] at hf
        refine lv_aload_n hx hb dX4_readBus_133 rfl (lv_at hl 0 rfl) ?_
        refine lv_aload_n hx hb dX4_readBus_134 rfl (lv_at hl 2 rfl) ?_
        obtain ⟨r11, hc11, hf⟩ := kb_bind hf
        refine kb_ci (ws2 := (w_Parser dA a r11.2.1 ++ (w_Plan dA pa (pl_set_cab z1 r11.2.2)))) (kb_rV (n := 1) (As := [.ref (pa 1)]) (rest := []) hx hb hml hown hK (c_X4_readSide l D dA H.size a (fun k => pa (1 + k)) r9.2 (pl_cab z1) r11.1 r11.2.1 r11.2.2 hc11) ⟨ww_3_71, ww_3_68, ww_3_70, ws_10, ww_1_2, rfl, by decide, by decide⟩ rfl rfl (by decide +kernel) ⟨Nat.le_of_ble_eq_true rfl, Nat.le_of_ble_eq_true rfl⟩ hP hD hS hA hE [0, 1, 3, 4] rfl (by decide) 0 rfl rfl rfl hl.1 rfl (Nat.le_of_ble_eq_true rfl) dX4_readBus_135 ⟨Nat.le_of_ble_eq_true rfl, Nat.le_of_ble_eq_true rfl⟩) hP hD hS hA [0, 1, 3, 4] [2, 5, 6, 7, 8, 9, 10, 11, 12, 13, 14, 15, 16, 17, 18, 19, 20, 21, 22] [19, 20, 0, 21, 22, 1, 2, 3, 4, 5, 6, 7, 8, 9, 10, 11, 12, 13, 14, 15, 16, 17, 18] rfl rfl (by decide) (by decide) rfl (by decide) (fun H locs hP hD hS => ?_)
        refine lv_if_ne (tgt := 143) hx hb dX4_readBus_138 (by decide) (fun c_12 => ?_) (fun c_12 => ?_)
        · rw [if_neg c_12] at hf
          refine lv_aload_n hx hb dX4_readBus_143 rfl (lv_at hl 2 rfl) ?_
          obtain ⟨r13, hc13, hf⟩ := kb_bind hf
          refine kb_cv (ws2 := (w_Parser dA a r11.2.1 ++ (w_Plan dA pa (pl_set_cab (pl_set_cab z1 r11.2.2) r13)))) (kb_rV (n := 0) (As := []) (rest := []) hx hb hml hown hK (c_X0_placeSeats l D dA H.size (fun k => pa (1 + k)) (pl_cab (pl_set_cab z1 r11.2.2)) r13 hc13) ⟨ww_3_78, ww_3_75, ww_3_76, ww_3_77, ww_1_4, rfl, by decide, by decide⟩ rfl rfl (by decide +kernel) ⟨Nat.le_of_ble_eq_true rfl, Nat.le_of_ble_eq_true rfl⟩ hP hD hS hA hE [3, 4] rfl (by decide) 0 rfl rfl rfl hl.1 rfl (Nat.le_of_ble_eq_true rfl) dX4_readBus_144 ⟨Nat.le_of_ble_eq_true rfl, Nat.le_of_ble_eq_true rfl⟩) hP hD hS hA [3, 4] [0, 1, 2, 5, 6, 7, 8, 9, 10, 11, 12, 13, 14, 15, 16, 17, 18, 19, 20, 21, 22] [0, 1, 2, 21, 22, 3, 4, 5, 6, 7, 8, 9, 10, 11, 12, 13, 14, 15, 16, 17, 18, 19, 20] rfl rfl (by decide) (by decide) rfl (by decide) (fun H locs hP hD hS => ?_)
          refine lv_aload_n hx hb dX4_readBus_147 rfl (lv_at hl 1 rfl) ?_
          refine lv_iconst (v := (1 : Int32)) hx hb dX4_readBus_148 (by decide) ?_
          refine va_put (D := D) (ci := 5) (v := .int (1 : Int32)) (ty := .boolean) (C := RX5) (T := TX5) (N := 8) hx hb hts kb_inX5 tyX5 tyX5_ok nmX5 hown hK.1 hP hD hS 2 rfl rfl 3 (by decide) (hK.2.w ww_1_228 rfl _) (fun _ h9 => h9) rfl (by decide +kernel) rfl rfl (Nat.le_of_ble_eq_true rfl) dX4_readBus_149 (fun H locs hP hD hS => ?_)
          have hP : va_P D vwCl (w_Parser dA a r11.2.1 ++ (w_Plan dA pa (pl_set_hasCabin (pl_set_cab (pl_set_cab z1 r11.2.2) r13) (1 : Int32)))) H := hP
          have hD : va_D A (w_Parser dA a r11.2.1 ++ (w_Plan dA pa (pl_set_hasCabin (pl_set_cab (pl_set_cab z1 r11.2.2) r13) (1 : Int32)))) := hD
          exact B_152 _ _ _ _ _ hf hP hD hS (lv_sub hl [] rfl)
        · rw [if_pos c_12] at hf
          refine lv_iconst (v := (0 : Int32)) hx hb dX4_readBus_141 (by decide) ?_
          exact RET _ _ _ H _ ls 142 hf hP hD hS (by decide) dX4_readBus_142
  have B_97 : ∀ (z0 : ParserT) (z1 : PlanT) (H : Heap) (locs : List Loc) (ls : Array Slot), f_X4_readBus_b97 z0 z1 = some (rv, u0, u1) → va_P D vwCl (w_Parser dA a z0 ++ (w_Plan dA pa z1)) H → va_D A (w_Parser dA a z0 ++ (w_Plan dA pa z1)) → va_S A s.heap H locs → lv_has ls 3 [(0, .ref (a 0)), (1, .ref (pa 0)), (2, .ref (pa 1))] → W p l e ({ frames := 7, cells := 0, slots := 0, locals := 149 } : Room) s m ([.ref (a 0), .ref (pa 0)] : List Value).toArray below meth c H locs 0 0 Q (F0 m 97 ls []) := by
    intro z0 z1 H locs ls hf hP hD hS hl
    rw [f_X4_readBus_b97] at hf
    refine lv_aload_n hx hb dX4_readBus_97 rfl (lv_at hl 0 rfl) ?_
    refine va_get (D := D) (ci := 4) (v := .int (ps_fault z0)) (C := RX4) (T := TX4) (N := 10) hx hb hts kb_inX4 hown hK.1 hP 0 rfl rfl 1 (by decide) (hK.2.w ww_1_41 rfl _) (fun _ h9 => h9) rfl dX4_readBus_98 ?_
    refine lv_if_ne (tgt := 117) hx hb dX4_readBus_101 (by decide) (fun c_7 => ?_) (fun c_7 => ?_)
    · rw [if_neg c_7] at hf
      exact B_117 _ _ _ _ _ hf hP hD hS (lv_sub hl [0, 1, 2] rfl)
    · rw [if_pos c_7] at hf
      refine lv_aload_n hx hb dX4_readBus_104 rfl (lv_at hl 2 rfl) ?_
      refine lv_aload_n hx hb dX4_readBus_105 rfl (lv_at hl 0 rfl) ?_
      refine va_ldcS (tx := "rise") (q := dA (100 + 5)) hx hb hown (hE.2.2.2 ("BusSeats$Parser", 119, "rise", 5) (by decide)) dX4_readBus_106 ?_
      refine lv_iconst (v := (0 : Int32)) hx hb dX4_readBus_108 (by decide) ?_
      refine lv_bipush (v := (9 : Int32)) hx hb dX4_readBus_109 (by decide) ?_
      obtain ⟨r14, hc14, hf⟩ := kb_bind hf
      refine kb_ci (ws2 := (w_Parser dA a r14.2 ++ (w_Plan dA pa z1))) (kb_rV (n := 3) (As := [.ref (dA (100 + 5)), .int (0 : Int32), .int (9 : Int32)]) (rest := [.ref (pa 1)]) hx hb hml hown hK (c_X4_numberBehind l D dA H.size a z0 5 (by decide) (0 : Int32) (9 : Int32) r14.1 r14.2 hc14) ⟨ww_3_54, ww_3_51, ww_3_53, ws_7, ww_1_2, rfl, by decide, by decide⟩ rfl rfl (by decide +kernel) ⟨Nat.le_of_ble_eq_true rfl, Nat.le_of_ble_eq_true rfl⟩ hP hD hS hA hE [0, 1] rfl (by decide) 0 rfl rfl rfl hl.1 rfl (Nat.le_of_ble_eq_true rfl) dX4_readBus_111 ⟨Nat.le_of_ble_eq_true rfl, Nat.le_of_ble_eq_true rfl⟩) hP hD hS hA [0, 1] [2, 3, 4, 5, 6, 7, 8, 9, 10, 11, 12, 13, 14, 15, 16, 17, 18, 19, 20, 21, 22] [21, 22, 0, 1, 2, 3, 4, 5, 6, 7, 8, 9, 10, 11, 12, 13, 14, 15, 16, 17, 18, 19, 20] rfl rfl (by decide) (by decide) rfl (by decide) (fun H locs hP hD hS => ?_)
      refine va_put (D := D) (ci := 0) (v := .int r14.1) (ty := .int) (C := RX0) (T := TX0) (N := 8) hx hb hts kb_inX0 tyX0 tyX0_ok nmX0 hown hK.1 hP hD hS 3 rfl rfl 4 (by decide) (hK.2.w ww_1_99 rfl _) (fun _ h9 => h9) rfl (by decide +kernel) rfl rfl (Nat.le_of_ble_eq_true rfl) dX4_readBus_114 (fun H locs hP hD hS => ?_)
      have hP : va_P D vwCl (w_Parser dA a r14.2 ++ (w_Plan dA pa (pl_set_cab z1 (cb_set_rise (pl_cab z1) r14.1)))) H := hP
      have hD : va_D A (w_Parser dA a r14.2 ++ (w_Plan dA pa (pl_set_cab z1 (cb_set_rise (pl_cab z1) r14.1)))) := hD
      exact B_117 _ _ _ _ _ hf hP hD hS (lv_sub hl [0, 1, 2] rfl)
  have B_77 : ∀ (z0 : ParserT) (z1 : PlanT) (H : Heap) (locs : List Loc) (ls : Array Slot), f_X4_readBus_b77 z0 z1 = some (rv, u0, u1) → va_P D vwCl (w_Parser dA a z0 ++ (w_Plan dA pa z1)) H → va_D A (w_Parser dA a z0 ++ (w_Plan dA pa z1)) → va_S A s.heap H locs → lv_has ls 3 [(0, .ref (a 0)), (1, .ref (pa 0)), (2, .ref (pa 1))] → W p l e ({ frames := 7, cells := 0, slots := 0, locals := 149 } : Room) s m ([.ref (a 0), .ref (pa 0)] : List Value).toArray below meth c H locs 0 0 Q (F0 m 77 ls []) := by
    intro z0 z1 H locs ls hf hP hD hS hl
    rw [f_X4_readBus_b77] at hf
    refine lv_aload_n hx hb dX4_readBus_77 rfl (lv_at hl 0 rfl) ?_
    refine va_get (D := D) (ci := 4) (v := .int (ps_fault z0)) (C := RX4) (T := TX4) (N := 10) hx hb hts kb_inX4 hown hK.1 hP 0 rfl rfl 1 (by decide) (hK.2.w ww_1_41 rfl _) (fun _ h9 => h9) rfl dX4_readBus_78 ?_
    refine lv_if_ne (tgt := 97) hx hb dX4_readBus_81 (by decide) (fun c_6 => ?_) (fun c_6 => ?_)
    · rw [if_neg c_6] at hf
      exact B_97 _ _ _ _ _ hf hP hD hS (lv_sub hl [0, 1, 2] rfl)
    · rw [if_pos c_6] at hf
      refine lv_aload_n hx hb dX4_readBus_84 rfl (lv_at hl 2 rfl) ?_
      refine lv_aload_n hx hb dX4_readBus_85 rfl (lv_at hl 0 rfl) ?_
      refine va_ldcS (tx := "pace") (q := dA (100 + 4)) hx hb hown (hE.2.2.2 ("BusSeats$Parser", 115, "pace", 4) (by decide)) dX4_readBus_86 ?_
      refine lv_iconst (v := (1 : Int32)) hx hb dX4_readBus_88 (by decide) ?_
      refine lv_bipush (v := (9 : Int32)) hx hb dX4_readBus_89 (by decide) ?_
      obtain ⟨r15, hc15, hf⟩ := kb_bind hf
      refine kb_ci (ws2 := (w_Parser dA a r15.2 ++ (w_Plan dA pa z1))) (kb_rV (n := 3) (As := [.ref (dA (100 + 4)), .int (1 : Int32), .int (9 : Int32)]) (rest := [.ref (pa 1)]) hx hb hml hown hK (c_X4_numberBehind l D dA H.size a z0 4 (by decide) (1 : Int32) (9 : Int32) r15.1 r15.2 hc15) ⟨ww_3_54, ww_3_51, ww_3_53, ws_7, ww_1_2, rfl, by decide, by decide⟩ rfl rfl (by decide +kernel) ⟨Nat.le_of_ble_eq_true rfl, Nat.le_of_ble_eq_true rfl⟩ hP hD hS hA hE [0, 1] rfl (by decide) 0 rfl rfl rfl hl.1 rfl (Nat.le_of_ble_eq_true rfl) dX4_readBus_91 ⟨Nat.le_of_ble_eq_true rfl, Nat.le_of_ble_eq_true rfl⟩) hP hD hS hA [0, 1] [2, 3, 4, 5, 6, 7, 8, 9, 10, 11, 12, 13, 14, 15, 16, 17, 18, 19, 20, 21, 22] [21, 22, 0, 1, 2, 3, 4, 5, 6, 7, 8, 9, 10, 11, 12, 13, 14, 15, 16, 17, 18, 19, 20] rfl rfl (by decide) (by decide) rfl (by decide) (fun H locs hP hD hS => ?_)
      refine va_put (D := D) (ci := 0) (v := .int r15.1) (ty := .int) (C := RX0) (T := TX0) (N := 8) hx hb hts kb_inX0 tyX0 tyX0_ok nmX0 hown hK.1 hP hD hS 3 rfl rfl 3 (by decide) (hK.2.w ww_1_95 rfl _) (fun _ h9 => h9) rfl (by decide +kernel) rfl rfl (Nat.le_of_ble_eq_true rfl) dX4_readBus_94 (fun H locs hP hD hS => ?_)
      have hP : va_P D vwCl (w_Parser dA a r15.2 ++ (w_Plan dA pa (pl_set_cab z1 (cb_set_pace (pl_cab z1) r15.1)))) H := hP
      have hD : va_D A (w_Parser dA a r15.2 ++ (w_Plan dA pa (pl_set_cab z1 (cb_set_pace (pl_cab z1) r15.1)))) := hD
      exact B_97 _ _ _ _ _ hf hP hD hS (lv_sub hl [0, 1, 2] rfl)
  have B_53 : ∀ (z0 : ParserT) (z1 : PlanT) (H : Heap) (locs : List Loc) (ls : Array Slot), f_X4_readBus_b53 z0 z1 = some (rv, u0, u1) → va_P D vwCl (w_Parser dA a z0 ++ (w_Plan dA pa z1)) H → va_D A (w_Parser dA a z0 ++ (w_Plan dA pa z1)) → va_S A s.heap H locs → lv_has ls 3 [(0, .ref (a 0)), (1, .ref (pa 0)), (2, .ref (pa 1))] → W p l e ({ frames := 7, cells := 0, slots := 0, locals := 149 } : Room) s m ([.ref (a 0), .ref (pa 0)] : List Value).toArray below meth c H locs 0 0 Q (F0 m 53 ls []) := by
    intro z0 z1 H locs ls hf hP hD hS hl
    rw [f_X4_readBus_b53] at hf
    refine lv_aload_n hx hb dX4_readBus_53 rfl (lv_at hl 0 rfl) ?_
    refine va_get (D := D) (ci := 4) (v := .int (ps_fault z0)) (C := RX4) (T := TX4) (N := 10) hx hb hts kb_inX4 hown hK.1 hP 0 rfl rfl 1 (by decide) (hK.2.w ww_1_41 rfl _) (fun _ h9 => h9) rfl dX4_readBus_54 ?_
    refine lv_if_ne (tgt := 77) hx hb dX4_readBus_57 (by decide) (fun c_5 => ?_) (fun c_5 => ?_)
    · rw [if_neg c_5] at hf
      exact B_77 _ _ _ _ _ hf hP hD hS (lv_sub hl [0, 1, 2] rfl)
    · rw [if_pos c_5] at hf
      refine lv_aload_n hx hb dX4_readBus_60 rfl (lv_at hl 2 rfl) ?_
      refine lv_aload_n hx hb dX4_readBus_61 rfl (lv_at hl 0 rfl) ?_
      refine va_ldcS (tx := "door") (q := dA (100 + 3)) hx hb hown (hE.2.2.2 ("BusSeats$Parser", 111, "door", 3) (by decide)) dX4_readBus_62 ?_
      refine lv_iconst (v := (0 : Int32)) hx hb dX4_readBus_64 (by decide) ?_
      refine lv_aload_n hx hb dX4_readBus_65 rfl (lv_at hl 2 rfl) ?_
      refine va_get (D := D) (ci := 0) (v := .int (cb_rows (pl_cab z1))) (C := RX0) (T := TX0) (N := 8) hx hb hts kb_inX0 hown hK.1 hP 3 rfl rfl 0 (by decide) (hK.2.w ww_1_86 rfl _) (fun _ h9 => h9) rfl dX4_readBus_66 ?_
      refine lv_iconst (v := (1 : Int32)) hx hb dX4_readBus_69 (by decide) ?_
      refine lv_isub hx hb dX4_readBus_70 ?_
      obtain ⟨r16, hc16, hf⟩ := kb_bind hf
      refine kb_ci (ws2 := (w_Parser dA a r16.2 ++ (w_Plan dA pa z1))) (kb_rV (n := 3) (As := [.ref (dA (100 + 3)), .int (0 : Int32), .int ((cb_rows (pl_cab z1)) - (1 : Int32))]) (rest := [.ref (pa 1)]) hx hb hml hown hK (c_X4_numberBehind l D dA H.size a z0 3 (by decide) (0 : Int32) ((cb_rows (pl_cab z1)) - (1 : Int32)) r16.1 r16.2 hc16) ⟨ww_3_54, ww_3_51, ww_3_53, ws_7, ww_1_2, rfl, by decide, by decide⟩ rfl rfl (by decide +kernel) ⟨Nat.le_of_ble_eq_true rfl, Nat.le_of_ble_eq_true rfl⟩ hP hD hS hA hE [0, 1] rfl (by decide) 0 rfl rfl rfl hl.1 rfl (Nat.le_of_ble_eq_true rfl) dX4_readBus_71 ⟨Nat.le_of_ble_eq_true rfl, Nat.le_of_ble_eq_true rfl⟩) hP hD hS hA [0, 1] [2, 3, 4, 5, 6, 7, 8, 9, 10, 11, 12, 13, 14, 15, 16, 17, 18, 19, 20, 21, 22] [21, 22, 0, 1, 2, 3, 4, 5, 6, 7, 8, 9, 10, 11, 12, 13, 14, 15, 16, 17, 18, 19, 20] rfl rfl (by decide) (by decide) rfl (by decide) (fun H locs hP hD hS => ?_)
      refine va_put (D := D) (ci := 0) (v := .int r16.1) (ty := .int) (C := RX0) (T := TX0) (N := 8) hx hb hts kb_inX0 tyX0 tyX0_ok nmX0 hown hK.1 hP hD hS 3 rfl rfl 2 (by decide) (hK.2.w ww_1_93 rfl _) (fun _ h9 => h9) rfl (by decide +kernel) rfl rfl (Nat.le_of_ble_eq_true rfl) dX4_readBus_74 (fun H locs hP hD hS => ?_)
      have hP : va_P D vwCl (w_Parser dA a r16.2 ++ (w_Plan dA pa (pl_set_cab z1 (cb_set_door (pl_cab z1) r16.1)))) H := hP
      have hD : va_D A (w_Parser dA a r16.2 ++ (w_Plan dA pa (pl_set_cab z1 (cb_set_door (pl_cab z1) r16.1)))) := hD
      exact B_77 _ _ _ _ _ hf hP hD hS (lv_sub hl [0, 1, 2] rfl)
  have B_34 : ∀ (z0 : ParserT) (z1 : PlanT) (H : Heap) (locs : List Loc) (ls : Array Slot), f_X4_readBus_b34 z0 z1 = some (rv, u0, u1) → va_P D vwCl (w_Parser dA a z0 ++ (w_Plan dA pa z1)) H → va_D A (w_Parser dA a z0 ++ (w_Plan dA pa z1)) → va_S A s.heap H locs → lv_has ls 3 [(0, .ref (a 0)), (1, .ref (pa 0)), (2, .ref (pa 1))] → W p l e ({ frames := 7, cells := 0, slots := 0, locals := 149 } : Room) s m ([.ref (a 0), .ref (pa 0)] : List Value).toArray below meth c H locs 0 0 Q (F0 m 34 ls []) := by
    intro z0 z1 H locs ls hf hP hD hS hl
    rw [f_X4_readBus_b34] at hf
    refine lv_aload_n hx hb dX4_readBus_34 rfl (lv_at hl 0 rfl) ?_
    refine va_get (D := D) (ci := 4) (v := .int (ps_fault z0)) (C := RX4) (T := TX4) (N := 10) hx hb hts kb_inX4 hown hK.1 hP 0 rfl rfl 1 (by decide) (hK.2.w ww_1_41 rfl _) (fun _ h9 => h9) rfl dX4_readBus_35 ?_
    refine lv_if_ne (tgt := 53) hx hb dX4_readBus_38 (by decide) (fun c_4 => ?_) (fun c_4 => ?_)
    · rw [if_neg c_4] at hf
      exact B_53 _ _ _ _ _ hf hP hD hS (lv_sub hl [0, 1, 2] rfl)
    · rw [if_pos c_4] at hf
      refine lv_aload_n hx hb dX4_readBus_41 rfl (lv_at hl 2 rfl) ?_
      refine lv_aload_n hx hb dX4_readBus_42 rfl (lv_at hl 0 rfl) ?_
      refine va_ldcS (tx := "form") (q := dA (100 + 2)) hx hb hown (hE.2.2.2 ("BusSeats$Parser", 107, "form", 2) (by decide)) dX4_readBus_43 ?_
      refine lv_iconst (v := (0 : Int32)) hx hb dX4_readBus_45 (by decide) ?_
      refine lv_iconst (v := (2 : Int32)) hx hb dX4_readBus_46 (by decide) ?_
      obtain ⟨r17, hc17, hf⟩ := kb_bind hf
      refine kb_ci (ws2 := (w_Parser dA a r17.2 ++ (w_Plan dA pa z1))) (kb_rV (n := 3) (As := [.ref (dA (100 + 2)), .int (0 : Int32), .int (2 : Int32)]) (rest := [.ref (pa 1)]) hx hb hml hown hK (c_X4_numberBehind l D dA H.size a z0 2 (by decide) (0 : Int32) (2 : Int32) r17.1 r17.2 hc17) ⟨ww_3_54, ww_3_51, ww_3_53, ws_7, ww_1_2, rfl, by decide, by decide⟩ rfl rfl (by decide +kernel) ⟨Nat.le_of_ble_eq_true rfl, Nat.le_of_ble_eq_true rfl⟩ hP hD hS hA hE [0, 1] rfl (by decide) 0 rfl rfl rfl hl.1 rfl (Nat.le_of_ble_eq_true rfl) dX4_readBus_47 ⟨Nat.le_of_ble_eq_true rfl, Nat.le_of_ble_eq_true rfl⟩) hP hD hS hA [0, 1] [2, 3, 4, 5, 6, 7, 8, 9, 10, 11, 12, 13, 14, 15, 16, 17, 18, 19, 20, 21, 22] [21, 22, 0, 1, 2, 3, 4, 5, 6, 7, 8, 9, 10, 11, 12, 13, 14, 15, 16, 17, 18, 19, 20] rfl rfl (by decide) (by decide) rfl (by decide) (fun H locs hP hD hS => ?_)
      refine va_put (D := D) (ci := 0) (v := .int r17.1) (ty := .int) (C := RX0) (T := TX0) (N := 8) hx hb hts kb_inX0 tyX0 tyX0_ok nmX0 hown hK.1 hP hD hS 3 rfl rfl 1 (by decide) (hK.2.w ww_1_89 rfl _) (fun _ h9 => h9) rfl (by decide +kernel) rfl rfl (Nat.le_of_ble_eq_true rfl) dX4_readBus_50 (fun H locs hP hD hS => ?_)
      have hP : va_P D vwCl (w_Parser dA a r17.2 ++ (w_Plan dA pa (pl_set_cab z1 (cb_set_form (pl_cab z1) r17.1)))) H := hP
      have hD : va_D A (w_Parser dA a r17.2 ++ (w_Plan dA pa (pl_set_cab z1 (cb_set_form (pl_cab z1) r17.1)))) := hD
      exact B_53 _ _ _ _ _ hf hP hD hS (lv_sub hl [0, 1, 2] rfl)
  have E0 : ∀ (H : Heap) (locs : List Loc), va_P D vwCl (w_Parser dA a ps ++ (w_Plan dA pa pl)) H → va_D A (w_Parser dA a ps ++ (w_Plan dA pa pl)) → va_S A s.heap H locs → W p l e ({ frames := 7, cells := 0, slots := 0, locals := 149 } : Room) s m ([.ref (a 0), .ref (pa 0)] : List Value).toArray below meth c H locs 0 0 Q (F0 m 0 ls []) := by
    intro H locs hP hD hS
    rw [f_X4_readBus] at hf
    refine lv_aload_n hx hb dX4_readBus_0 rfl (lv_at hl 1 rfl) ?_
    refine va_get (D := D) (ci := 5) (v := .int (pl_hasCabin pl)) (C := RX5) (T := TX5) (N := 8) hx hb hts kb_inX5 hown hK.1 hP 2 rfl rfl 3 (by decide) (hK.2.w ww_1_228 rfl _) (fun _ h9 => h9) rfl dX4_readBus_1 ?_
    refine lv_if_eq (tgt := 13) hx hb dX4_readBus_4 (by decide) (fun c_1 => ?_) (fun c_1 => ?_)
    · rw [if_pos c_1] at hf
      refine lv_aload_n hx hb dX4_readBus_13 rfl (lv_at hl 0 rfl) ?_
      obtain ⟨r2, hc2, hf⟩ := kb_bind hf
      refine kb_cv (ws2 := (w_Parser dA a r2 ++ (w_Plan dA pa pl))) (kb_rV (n := 0) (As := []) (rest := []) hx hb hml hown hK (c_X4_advance l D dA H.size a ps r2 hc2) ⟨ww_2_219, ww_2_216, ww_2_218, ws_1, ww_1_2, rfl, by decide, by decide⟩ rfl rfl (by decide +kernel) ⟨Nat.le_of_ble_eq_true rfl, Nat.le_of_ble_eq_true rfl⟩ hP hD hS hA hE [0, 1] rfl (by decide) 0 rfl rfl rfl hl.1 rfl (Nat.le_of_ble_eq_true rfl) dX4_readBus_14 ⟨Nat.le_of_ble_eq_true rfl, Nat.le_of_ble_eq_true rfl⟩) hP hD hS hA [0, 1] [2, 3, 4, 5, 6, 7, 8, 9, 10, 11, 12, 13, 14, 15, 16, 17, 18, 19, 20, 21, 22] [21, 22, 0, 1, 2, 3, 4, 5, 6, 7, 8, 9, 10, 11, 12, 13, 14, 15, 16, 17, 18, 19, 20] rfl rfl (by decide) (by decide) rfl (by decide) (fun H locs hP hD hS => ?_)
      refine lv_aload_n hx hb dX4_readBus_17 rfl (lv_at hl 1 rfl) ?_
      refine va_get (D := D) (ci := 5) (v := .ref (pa 1)) (C := RX5) (T := TX5) (N := 8) hx hb hts kb_inX5 hown hK.1 hP 2 rfl rfl 0 (by decide) (hK.2.w ww_1_216 rfl _) (fun _ h9 => h9) rfl dX4_readBus_18 ?_
      refine lv_astore_n (lv' := [(2, .ref (pa 1)), (0, .ref (a 0)), (1, .ref (pa 0))]) hx hb dX4_readBus_21 rfl hl (by decide) rfl (fun ls hl => ?_)
      refine lv_aload_n hx hb dX4_readBus_22 rfl (lv_at hl 0 rfl) ?_
      refine lv_aload_n hx hb dX4_readBus_23 rfl (lv_at hl 1 rfl) ?_
      refine va_ldcS (tx := "rows") (q := dA (100 + 1)) hx hb hown (hE.2.2.2 ("BusSeats$Parser", 97, "rows", 1) (by decide)) dX4_readBus_24 ?_
      refine lv_iconst (v := (1 : Int32)) hx hb dX4_readBus_26 (by decide) ?_
      refine lv_iconst (v := (5 : Int32)) hx hb dX4_readBus_27 (by decide) ?_
      obtain ⟨r3, hc3, hf⟩ := kb_bind hf
      refine kb_ci (ws2 := (w_Parser dA a r3.2 ++ (w_Plan dA pa pl))) (kb_rV (n := 3) (As := [.ref (dA (100 + 1)), .int (1 : Int32), .int (5 : Int32)]) (rest := [.ref (pa 1)]) hx hb hml hown hK (c_X4_numberBehind l D dA H.size a r2 1 (by decide) (1 : Int32) (5 : Int32) r3.1 r3.2 hc3) ⟨ww_3_54, ww_3_51, ww_3_53, ws_7, ww_1_2, rfl, by decide, by decide⟩ rfl rfl (by decide +kernel) ⟨Nat.le_of_ble_eq_true rfl, Nat.le_of_ble_eq_true rfl⟩ hP hD hS hA hE [0, 1] rfl (by decide) 0 rfl rfl rfl hl.1 rfl (Nat.le_of_ble_eq_true rfl) dX4_readBus_28 ⟨Nat.le_of_ble_eq_true rfl, Nat.le_of_ble_eq_true rfl⟩) hP hD hS hA [0, 1] [2, 3, 4, 5, 6, 7, 8, 9, 10, 11, 12, 13, 14, 15, 16, 17, 18, 19, 20, 21, 22] [21, 22, 0, 1, 2, 3, 4, 5, 6, 7, 8, 9, 10, 11, 12, 13, 14, 15, 16, 17, 18, 19, 20] rfl rfl (by decide) (by decide) rfl (by decide) (fun H locs hP hD hS => ?_)
      refine va_put (D := D) (ci := 0) (v := .int r3.1) (ty := .int) (C := RX0) (T := TX0) (N := 8) hx hb hts kb_inX0 tyX0 tyX0_ok nmX0 hown hK.1 hP hD hS 3 rfl rfl 0 (by decide) (hK.2.w ww_1_86 rfl _) (fun _ h9 => h9) rfl (by decide +kernel) rfl rfl (Nat.le_of_ble_eq_true rfl) dX4_readBus_31 (fun H locs hP hD hS => ?_)
      have hP : va_P D vwCl (w_Parser dA a r3.2 ++ (w_Plan dA pa (pl_set_cab pl (cb_set_rows (pl_cab pl) r3.1)))) H := hP
      have hD : va_D A (w_Parser dA a r3.2 ++ (w_Plan dA pa (pl_set_cab pl (cb_set_rows (pl_cab pl) r3.1)))) := hD
      exact B_34 _ _ _ _ _ hf hP hD hS (lv_sub hl [1, 2, 0] rfl)
    · rw [if_neg c_1] at hf
      refine lv_aload_n hx hb dX4_readBus_7 rfl (lv_at hl 0 rfl) ?_
      refine lv_iconst (v := (3 : Int32)) hx hb dX4_readBus_8 (by decide) ?_
      obtain ⟨r18, hc18, hf⟩ := kb_bind hf
      refine kb_ci (ws2 := (w_Parser dA a r18.2 ++ (w_Plan dA pa pl))) (kb_rV (n := 1) (As := [.int (3 : Int32)]) (rest := []) hx hb hml hown hK (c_X4_failed l D dA H.size a ps (3 : Int32) r18.1 r18.2 hc18) ⟨ww_3_49, ww_3_46, ww_3_48, ws_6, ww_1_2, rfl, by decide, by decide⟩ rfl rfl (by decide +kernel) ⟨Nat.le_of_ble_eq_true rfl, Nat.le_of_ble_eq_true rfl⟩ hP hD hS hA hE [0, 1] rfl (by decide) 0 rfl rfl rfl hl.1 rfl (Nat.le_of_ble_eq_true rfl) dX4_readBus_9 ⟨Nat.le_of_ble_eq_true rfl, Nat.le_of_ble_eq_true rfl⟩) hP hD hS hA [0, 1] [2, 3, 4, 5, 6, 7, 8, 9, 10, 11, 12, 13, 14, 15, 16, 17, 18, 19, 20, 21, 22] [21, 22, 0, 1, 2, 3, 4, 5, 6, 7, 8, 9, 10, 11, 12, 13, 14, 15, 16, 17, 18, 19, 20] rfl rfl (by decide) (by decide) rfl (by decide) (fun H locs hP hD hS => ?_)
      obtain ⟨h_19, hf⟩ := kb_if hf
      exact RET _ _ _ H _ ls 12 hf hP hD hS h_19 dX4_readBus_12
  exact E0 _ _ hP hD hS

noncomputable def f_X4_readRule_b89 (z0 : ParserT) (z1 : PlanT) : Option (Int32 × ParserT × PlanT) := some ((1 : Int32), z0, (pl_set_ruleCount z1 ((pl_ruleCount z1) + (1 : Int32))))
noncomputable def f_X4_readRule_b53 : Nat → Nat → Int32 → ParserT → PlanT → Option (Int32 × ParserT × PlanT)
  | 0, _, _, _, _ => none
  | n + 1, i2, v3, z0, z1 => (if (4 : Int32) < v3 then f_X4_readRule_b89 z0 z1 else (f_X4_advance z0).bind fun r7 => (f_X4_readWay r7 (pl_rules z1) (i2)).bind fun r8 => (if r8.1 = 0 then some ((0 : Int32), r8.2.1, (pl_set_rules z1 r8.2.2)) else (if (ps_kind r8.2.1) = (4 : Int32) then f_X4_readRule_b53 n i2 (v3 + (1 : Int32)) r8.2.1 (pl_set_rules z1 r8.2.2) else f_X4_readRule_b89 r8.2.1 (pl_set_rules z1 r8.2.2))))
noncomputable def f_X4_readRule_b51 (i2 : Nat) (z0 : ParserT) (z1 : PlanT) : Option (Int32 × ParserT × PlanT) := f_X4_readRule_b53 4096 i2 (0 : Int32) z0 z1
noncomputable def f_X4_readRule (ps : ParserT) (pl : PlanT) : Option (Int32 × ParserT × PlanT) := (if (pl_ruleCount pl) < (4 : Int32) then (f_X4_advance ps).bind fun r2 => (f_X4_isFresh r2 pl).bind fun r3 => (if r3.1 = 0 then some ((0 : Int32), r3.2, pl) else if kb_in? (pl_ruleCount pl) 4 then f_X4_readRule_b51 ((pl_ruleCount pl)).toNatClampNeg r3.2 (pl_set_rules (pl_set_rules pl (ru_set_name (pl_rules pl) (vp_updL (ru_name (pl_rules pl)) (((pl_ruleCount pl)).toNatClampNeg) (ps_word r3.2)))) (ru_set_count (pl_rules (pl_set_rules pl (ru_set_name (pl_rules pl) (vp_updL (ru_name (pl_rules pl)) (((pl_ruleCount pl)).toNatClampNeg) (ps_word r3.2))))) (upd (ru_count (pl_rules (pl_set_rules pl (ru_set_name (pl_rules pl) (vp_updL (ru_name (pl_rules pl)) (((pl_ruleCount pl)).toNatClampNeg) (ps_word r3.2)))))) (((pl_ruleCount pl)).toNatClampNeg) (0 : Int32)))) else none) else (f_X4_failed ps (5 : Int32)).bind fun r11 => if kb_01 r11.1 then some (r11.1, r11.2, pl) else none)
set_option maxHeartbeats 4000000 in
set_option maxRecDepth 100000 in
theorem c_X4_readRule (l : Launch) (D : va_G) (dA : Nat → ClassId) (sz : Nat) (a : Nat → Nat) (pa : Nat → Nat) (ps : ParserT) (pl : PlanT) (rv : Int32) (u0 : ParserT) (u1 : PlanT) (hf : f_X4_readRule ps pl = some (rv, u0, u1)) : kb_Mi l yX4_readRule cX4_readRule 4 (some .boolean) ({ frames := 8, cells := 0, slots := 0, locals := 169 } : Room) D dA [.ref (a 0), .ref (pa 0)] sz (w_Parser dA a ps ++ (w_Plan dA pa pl)) 0 0 rv (w_Parser dA a u0 ++ (w_Plan dA pa u1)) := by
  refine Met.ofW (cc := cX4_readRule) (maxL := 4) (ret := (some .boolean)) (by decide) rfl ?_
  intro p e s m args below meth c s₁ B hml hv
  obtain ⟨rfl, hsz, hP, hK, hD0, hE⟩ := hv
  have hx := B.exec
  have hb := B.bytes
  have hr := B.returns
  have hown : s.vm.findClass RX4 = some m.cls := findClass_of_methodNamed B.named
  have hlocks := B.notSynchronized
  have hts : ∀ w ∈ kb_gw, w.before ([.ref (a 0), .ref (pa 0)] : List Value).toArray s = true := fun w hw => hK.2.1 w hw _
  subst hsz
  have hD := hD0.self (sz := s.heap.size)
  generalize hAe : va_A (w_Parser dA a ps ++ (w_Plan dA pa pl)) s.heap.size = A at hD hE ⊢
  have hA : ∀ q : Nat, s.heap.size ≤ q → A q := fun q h => by rw [← hAe]; exact Or.inr h
  have hS : va_S A s.heap s.heap [] := va_S.rf
  have hl := lv_entry ([.ref (a 0), .ref (pa 0)]) (n := 4) (Nat.le_of_ble_eq_true rfl)
  rw [lg_entry_eq]
  generalize (lg_sl ([.ref (a 0), .ref (pa 0)]) ++ List.replicate (4 - (lg_sl ([.ref (a 0), .ref (pa 0)])).length) Slot.unset).toArray = ls at hl ⊢
  have hl : lv_has ls 4 [(0, .ref (a 0)), (1, .ref (pa 0))] := hl
  generalize hQ : MQ below (va_Qi (fun r (_ : Unit) => r = rv) (kb_B D A (w_Parser dA a u0 ++ (w_Plan dA pa u1))) A) ([.ref (a 0), .ref (pa 0)] : List Value).toArray s 0 0 A = Q
  show W p l e ({ frames := 8, cells := 0, slots := 0, locals := 169 } : Room) s m ([.ref (a 0), .ref (pa 0)] : List Value).toArray below meth c s.heap [] 0 0 Q (F0 m 0 ls [])
  have RET : ∀ (r2 : Int32) (w0 : ParserT) (w1 : PlanT) (H : Heap) (locs : List Loc) (ls : Array Slot) (pc : Nat), some (r2, w0, w1) = some (rv, u0, u1) → va_P D vwCl (w_Parser dA a w0 ++ (w_Plan dA pa w1)) H → va_D A (w_Parser dA a w0 ++ (w_Plan dA pa w1)) → va_S A s.heap H locs → kb_01 r2 → decode cX4_readRule pc = .ok (.ireturn, 1) → W p l e ({ frames := 8, cells := 0, slots := 0, locals := 169 } : Room) s m ([.ref (a 0), .ref (pa 0)] : List Value).toArray below meth c H locs 0 0 Q (F0 m pc ls [.int r2]) := by
    intro r2 w0 w1 H locs ls pc hq hP hD hS h01 hd
    cases hq
    rw [← hQ]
    exact W.zret (ty := .boolean) hx hb hr (kb_nz h01) (fun t ht hW => ⟨⟨_, (), rfl, rfl, by rw [ht]; exact hP, hD⟩, hS.F ht⟩) hS.2.2 hd
  have B_89 : ∀ (z0 : ParserT) (z1 : PlanT) (H : Heap) (locs : List Loc) (ls : Array Slot), f_X4_readRule_b89 z0 z1 = some (rv, u0, u1) → va_P D vwCl (w_Parser dA a z0 ++ (w_Plan dA pa z1)) H → va_D A (w_Parser dA a z0 ++ (w_Plan dA pa z1)) → va_S A s.heap H locs → lv_has ls 4 [(1, .ref (pa 0))] → W p l e ({ frames := 8, cells := 0, slots := 0, locals := 169 } : Room) s m ([.ref (a 0), .ref (pa 0)] : List Value).toArray below meth c H locs 0 0 Q (F0 m 89 ls []) := by
    intro z0 z1 H locs ls hf hP hD hS hl
    rw [f_X4_readRule_b89] at hf
    refine lv_aload_n hx hb dX4_readRule_89 rfl (lv_at hl 0 rfl) ?_
    refine lv_dup hx hb dX4_readRule_90 rfl ?_
    refine va_get (D := D) (ci := 5) (v := .int (pl_ruleCount z1)) (C := RX5) (T := TX5) (N := 8) hx hb hts kb_inX5 hown hK.1 hP 2 rfl rfl 4 (by decide) (hK.2.w ww_1_230 rfl _) (fun _ h9 => h9) rfl dX4_readRule_91 ?_
    refine lv_iconst (v := (1 : Int32)) hx hb dX4_readRule_94 (by decide) ?_
    refine lv_iadd hx hb dX4_readRule_95 ?_
    refine va_put (D := D) (ci := 5) (v := .int ((pl_ruleCount z1) + (1 : Int32))) (ty := .int) (C := RX5) (T := TX5) (N := 8) hx hb hts kb_inX5 tyX5 tyX5_ok nmX5 hown hK.1 hP hD hS 2 rfl rfl 4 (by decide) (hK.2.w ww_1_230 rfl _) (fun _ h9 => h9) rfl (by decide +kernel) rfl rfl (Nat.le_of_ble_eq_true rfl) dX4_readRule_96 (fun H locs hP hD hS => ?_)
    have hP : va_P D vwCl (w_Parser dA a z0 ++ (w_Plan dA pa (pl_set_ruleCount z1 ((pl_ruleCount z1) + (1 : Int32))))) H := hP
    have hD : va_D A (w_Parser dA a z0 ++ (w_Plan dA pa (pl_set_ruleCount z1 ((pl_ruleCount z1) + (1 : Int32))))) := hD
    refine lv_iconst (v := (1 : Int32)) hx hb dX4_readRule_99 (by decide) ?_
    exact RET _ _ _ H _ ls 100 hf hP hD hS (by decide) dX4_readRule_100
  have B_53 : ∀ (n : Nat) (i2 : Nat) (v3 : Int32) (z0 : ParserT) (z1 : PlanT) (H : Heap) (locs : List Loc) (ls : Array Slot), i2 < 4 → f_X4_readRule_b53 n i2 v3 z0 z1 = some (rv, u0, u1) → va_P D vwCl (w_Parser dA a z0 ++ (w_Plan dA pa z1)) H → va_D A (w_Parser dA a z0 ++ (w_Plan dA pa z1)) → va_S A s.heap H locs → lv_has ls 4 [(0, .ref (a 0)), (1, .ref (pa 0)), (2, .ref (pa (4 + i2))), (3, .int v3)] → W p l e ({ frames := 8, cells := 0, slots := 0, locals := 169 } : Room) s m ([.ref (a 0), .ref (pa 0)] : List Value).toArray below meth c H locs 0 0 Q (F0 m 53 ls []) := by
    intro n
    induction n with
    | zero =>
      intro i2 v3 z0 z1 H locs ls hi2 hf
      exact absurd hf (by simp [f_X4_readRule_b53])
    | succ n ih =>
      intro i2 v3 z0 z1 H locs ls hi2 hf hP hD hS hl
      rw [f_X4_readRule_b53] at hf
      refine lv_iload_n hx hb dX4_readRule_53 rfl (lv_at hl 3 rfl) ?_
      refine lv_iconst (v := (4 : Int32)) hx hb dX4_readRule_54 (by decide) ?_
      refine lv_icmp_gt (tgt := 89) hx hb dX4_readRule_55 (by decide) (fun c_6 => ?_) (fun c_6 => ?_)
      · rw [if_pos c_6] at hf
        exact B_89 _ _ _ _ _ hf hP hD hS (lv_sub hl [1] rfl)
      · rw [if_neg c_6] at hf
        refine lv_aload_n hx hb dX4_readRule_58 rfl (lv_at hl 0 rfl) ?_
        obtain ⟨r7, hc7, hf⟩ := kb_bind hf
        refine kb_cv (ws2 := (w_Parser dA a r7 ++ (w_Plan dA pa z1))) (kb_rV (n := 0) (As := []) (rest := []) hx hb hml hown hK (c_X4_advance l D dA H.size a z0 r7 hc7) ⟨ww_2_219, ww_2_216, ww_2_218, ws_1, ww_1_2, rfl, by decide, by decide⟩ rfl rfl (by decide +kernel) ⟨Nat.le_of_ble_eq_true rfl, Nat.le_of_ble_eq_true rfl⟩ hP hD hS hA hE [0, 1] rfl (by decide) 0 rfl rfl rfl hl.1 rfl (Nat.le_of_ble_eq_true rfl) dX4_readRule_59 ⟨Nat.le_of_ble_eq_true rfl, Nat.le_of_ble_eq_true rfl⟩) hP hD hS hA [0, 1] [2, 3, 4, 5, 6, 7, 8, 9, 10, 11, 12, 13, 14, 15, 16, 17, 18, 19, 20, 21, 22] [21, 22, 0, 1, 2, 3, 4, 5, 6, 7, 8, 9, 10, 11, 12, 13, 14, 15, 16, 17, 18, 19, 20] rfl rfl (by decide) (by decide) rfl (by decide) (fun H locs hP hD hS => ?_)
        refine lv_aload_n hx hb dX4_readRule_62 rfl (lv_at hl 0 rfl) ?_
        refine lv_aload_n hx hb dX4_readRule_63 rfl (lv_at hl 2 rfl) ?_
        obtain ⟨r8, hc8, hf⟩ := kb_bind hf
        refine kb_ci (ws2 := (w_Parser dA a r8.2.1 ++ (w_Plan dA pa (pl_set_rules z1 r8.2.2)))) (kb_rV (n := 1) (As := [.ref (pa (4 + i2))]) (rest := []) hx hb hml hown hK (c_X4_readWay l D dA H.size a (fun k => pa (4 + k)) r7 (pl_rules z1) i2 hi2 r8.1 r8.2.1 r8.2.2 hc8) ⟨ww_3_130, ww_3_127, ww_3_129, ws_15, ww_1_2, rfl, by decide, by decide⟩ rfl rfl (by decide +kernel) ⟨Nat.le_of_ble_eq_true rfl, Nat.le_of_ble_eq_true rfl⟩ hP hD hS hA hE [0, 1, 6, 7, 8, 9, 10, 11, 12, 13] rfl (by decide) 0 rfl rfl rfl hl.1 rfl (Nat.le_of_ble_eq_true rfl) dX4_readRule_64 ⟨Nat.le_of_ble_eq_true rfl, Nat.le_of_ble_eq_true rfl⟩) hP hD hS hA [0, 1, 6, 7, 8, 9, 10, 11, 12, 13] [2, 3, 4, 5, 14, 15, 16, 17, 18, 19, 20, 21, 22] [13, 14, 0, 1, 2, 3, 15, 16, 17, 18, 19, 20, 21, 22, 4, 5, 6, 7, 8, 9, 10, 11, 12] rfl rfl (by decide) (by decide) rfl (by decide) (fun H locs hP hD hS => ?_)
        refine lv_if_ne (tgt := 72) hx hb dX4_readRule_67 (by decide) (fun c_9 => ?_) (fun c_9 => ?_)
        · rw [if_neg c_9] at hf
          refine lv_aload_n hx hb dX4_readRule_72 rfl (lv_at hl 0 rfl) ?_
          refine va_get (D := D) (ci := 4) (v := .int (ps_kind r8.2.1)) (C := RX4) (T := TX4) (N := 10) hx hb hts kb_inX4 hown hK.1 hP 0 rfl rfl 6 (by decide) (hK.2.w ww_1_48 rfl _) (fun _ h9 => h9) rfl dX4_readRule_73 ?_
          refine lv_iconst (v := (4 : Int32)) hx hb dX4_readRule_76 (by decide) ?_
          refine lv_icmp_eq (tgt := 83) hx hb dX4_readRule_77 (by decide) (fun c_10 => ?_) (fun c_10 => ?_)
          · rw [if_pos c_10] at hf
            refine lv_iinc (v := (v3 + (1 : Int32))) (lv' := [(3, .int (v3 + (1 : Int32))), (0, .ref (a 0)), (1, .ref (pa 0)), (2, .ref (pa (4 + i2)))]) hx hb dX4_readRule_83 hl (k := 3) rfl (by rfl) (by decide) rfl (fun ls hl => ?_)
            refine lv_goto (tgt := 53) hx hb dX4_readRule_86 (by decide) ?_
            exact ih _ _ _ _ _ _ _ hi2 hf hP hD hS (lv_sub hl [1, 2, 3, 0] rfl)
          · rw [if_neg c_10] at hf
            refine lv_goto (tgt := 89) hx hb dX4_readRule_80 (by decide) ?_
            exact B_89 _ _ _ _ _ hf hP hD hS (lv_sub hl [1] rfl)
        · rw [if_pos c_9] at hf
          refine lv_iconst (v := (0 : Int32)) hx hb dX4_readRule_70 (by decide) ?_
          exact RET _ _ _ H _ ls 71 hf hP hD hS (by decide) dX4_readRule_71
  have B_51 : ∀ (i2 : Nat) (z0 : ParserT) (z1 : PlanT) (H : Heap) (locs : List Loc) (ls : Array Slot), i2 < 4 → f_X4_readRule_b51 i2 z0 z1 = some (rv, u0, u1) → va_P D vwCl (w_Parser dA a z0 ++ (w_Plan dA pa z1)) H → va_D A (w_Parser dA a z0 ++ (w_Plan dA pa z1)) → va_S A s.heap H locs → lv_has ls 4 [(0, .ref (a 0)), (1, .ref (pa 0)), (2, .ref (pa (4 + i2)))] → W p l e ({ frames := 8, cells := 0, slots := 0, locals := 169 } : Room) s m ([.ref (a 0), .ref (pa 0)] : List Value).toArray below meth c H locs 0 0 Q (F0 m 51 ls []) := by
    intro i2 z0 z1 H locs ls hi2 hf hP hD hS hl
    rw [f_X4_readRule_b51] at hf
    refine lv_iconst (v := (0 : Int32)) hx hb dX4_readRule_51 (by decide) ?_
    refine lv_istore_n (lv' := [(3, .int (0 : Int32)), (0, .ref (a 0)), (1, .ref (pa 0)), (2, .ref (pa (4 + i2)))]) hx hb dX4_readRule_52 rfl hl (by decide) rfl (fun ls hl => ?_)
    exact B_53 4096 _ _ _ _ _ _ _ hi2 hf hP hD hS (lv_sub hl [1, 2, 3, 0] rfl)
  have E0 : ∀ (H : Heap) (locs : List Loc), va_P D vwCl (w_Parser dA a ps ++ (w_Plan dA pa pl)) H → va_D A (w_Parser dA a ps ++ (w_Plan dA pa pl)) → va_S A s.heap H locs → W p l e ({ frames := 8, cells := 0, slots := 0, locals := 169 } : Room) s m ([.ref (a 0), .ref (pa 0)] : List Value).toArray below meth c H locs 0 0 Q (F0 m 0 ls []) := by
    intro H locs hP hD hS
    rw [f_X4_readRule] at hf
    refine lv_aload_n hx hb dX4_readRule_0 rfl (lv_at hl 1 rfl) ?_
    refine va_get (D := D) (ci := 5) (v := .int (pl_ruleCount pl)) (C := RX5) (T := TX5) (N := 8) hx hb hts kb_inX5 hown hK.1 hP 2 rfl rfl 4 (by decide) (hK.2.w ww_1_230 rfl _) (fun _ h9 => h9) rfl dX4_readRule_1 ?_
    refine lv_iconst (v := (4 : Int32)) hx hb dX4_readRule_4 (by decide) ?_
    refine lv_icmp_lt (tgt := 14) hx hb dX4_readRule_5 (by decide) (fun c_1 => ?_) (fun c_1 => ?_)
    · rw [if_pos c_1] at hf
      refine lv_aload_n hx hb dX4_readRule_14 rfl (lv_at hl 0 rfl) ?_
      obtain ⟨r2, hc2, hf⟩ := kb_bind hf
      refine kb_cv (ws2 := (w_Parser dA a r2 ++ (w_Plan dA pa pl))) (kb_rV (n := 0) (As := []) (rest := []) hx hb hml hown hK (c_X4_advance l D dA H.size a ps r2 hc2) ⟨ww_2_219, ww_2_216, ww_2_218, ws_1, ww_1_2, rfl, by decide, by decide⟩ rfl rfl (by decide +kernel) ⟨Nat.le_of_ble_eq_true rfl, Nat.le_of_ble_eq_true rfl⟩ hP hD hS hA hE [0, 1] rfl (by decide) 0 rfl rfl rfl hl.1 rfl (Nat.le_of_ble_eq_true rfl) dX4_readRule_15 ⟨Nat.le_of_ble_eq_true rfl, Nat.le_of_ble_eq_true rfl⟩) hP hD hS hA [0, 1] [2, 3, 4, 5, 6, 7, 8, 9, 10, 11, 12, 13, 14, 15, 16, 17, 18, 19, 20, 21, 22] [21, 22, 0, 1, 2, 3, 4, 5, 6, 7, 8, 9, 10, 11, 12, 13, 14, 15, 16, 17, 18, 19, 20] rfl rfl (by decide) (by decide) rfl (by decide) (fun H locs hP hD hS => ?_)
      refine lv_aload_n hx hb dX4_readRule_18 rfl (lv_at hl 0 rfl) ?_
      refine lv_aload_n hx hb dX4_readRule_19 rfl (lv_at hl 1 rfl) ?_
      obtain ⟨r3, hc3, hf⟩ := kb_bind hf
      refine kb_ci (ws2 := (w_Parser dA a r3.2 ++ (w_Plan dA pa pl))) (kb_rV (n := 1) (As := [.ref (pa 0)]) (rest := []) hx hb hml hown hK (c_X4_isFresh l D dA H.size a pa r2 pl r3.1 r3.2 hc3) ⟨ww_3_93, ww_3_90, ww_3_92, ws_12, ww_1_2, rfl, by decide, by decide⟩ rfl rfl (by decide +kernel) ⟨Nat.le_of_ble_eq_true rfl, Nat.le_of_ble_eq_true rfl⟩ hP hD hS hA hE [0, 1, 2, 3, 4, 5, 6, 7, 8, 9, 10, 11, 12, 13, 14, 15, 16, 17, 18, 19, 20, 21, 22] rfl (by decide) 0 rfl rfl rfl hl.1 rfl (Nat.le_of_ble_eq_true rfl) dX4_readRule_20 ⟨Nat.le_of_ble_eq_true rfl, Nat.le_of_ble_eq_true rfl⟩) hP hD hS hA [0, 1, 2, 3, 4, 5, 6, 7, 8, 9, 10, 11, 12, 13, 14, 15, 16, 17, 18, 19, 20, 21, 22] [] [0, 1, 2, 3, 4, 5, 6, 7, 8, 9, 10, 11, 12, 13, 14, 15, 16, 17, 18, 19, 20, 21, 22] rfl rfl (by decide) (by decide) rfl (by decide) (fun H locs hP hD hS => ?_)
      refine lv_if_ne (tgt := 28) hx hb dX4_readRule_23 (by decide) (fun c_4 => ?_) (fun c_4 => ?_)
      · rw [if_neg c_4] at hf
        refine lv_aload_n hx hb dX4_readRule_28 rfl (lv_at hl 1 rfl) ?_
        refine va_get (D := D) (ci := 5) (v := .ref (pa 3)) (C := RX5) (T := TX5) (N := 8) hx hb hts kb_inX5 hown hK.1 hP 2 rfl rfl 1 (by decide) (hK.2.w ww_1_218 rfl _) (fun _ h9 => h9) rfl dX4_readRule_29 ?_
        refine lv_aload_n hx hb dX4_readRule_32 rfl (lv_at hl 1 rfl) ?_
        refine va_get (D := D) (ci := 5) (v := .int (pl_ruleCount pl)) (C := RX5) (T := TX5) (N := 8) hx hb hts kb_inX5 hown hK.1 hP 2 rfl rfl 4 (by decide) (hK.2.w ww_1_230 rfl _) (fun _ h9 => h9) rfl dX4_readRule_33 ?_
        obtain ⟨h_5, hf⟩ := kb_if hf
        refine va_aldq (D := D) hx hb hK.1 hP 5 6 rfl rfl h_5 dX4_readRule_36 ?_
        show W p l e ({ frames := 8, cells := 0, slots := 0, locals := 169 } : Room) s m ([.ref (a 0), .ref (pa 0)] : List Value).toArray below meth c _ _ 0 0 Q (F0 m 37 _ [.ref (pa (4 + ((pl_ruleCount pl)).toNatClampNeg))])
        refine lv_astore_n (lv' := [(2, .ref (pa (4 + ((pl_ruleCount pl)).toNatClampNeg))), (0, .ref (a 0)), (1, .ref (pa 0))]) hx hb dX4_readRule_37 rfl hl (by decide) rfl (fun ls hl => ?_)
        refine lv_aload_n hx hb dX4_readRule_38 rfl (lv_at hl 0 rfl) ?_
        refine lv_aload_n hx hb dX4_readRule_39 rfl (lv_at hl 1 rfl) ?_
        refine va_get (D := D) (ci := 4) (v := .long (ps_word r3.2)) (C := RX4) (T := TX4) (N := 10) hx hb hts kb_inX4 hown hK.1 hP 0 rfl rfl 9 (by decide) (hK.2.w ww_1_51 rfl _) (fun _ h9 => h9) rfl dX4_readRule_40 ?_
        refine va_put (D := D) (ci := 8) (v := .long (ps_word r3.2)) (ty := .long) (C := RX8) (T := TX8) (N := 3) hx hb hts kb_inX8 tyX8 tyX8_ok nmX8 hown hK.1 hP hD hS (2 + (4 + ((pl_ruleCount pl)).toNatClampNeg)) (kb_at rfl (at_Plan_4 dA pa pl ((pl_ruleCount pl)).toNatClampNeg (kb_inlt h_5))) rfl 0 (by decide) (hK.2.w ww_1_140 rfl _) (fun _ h9 => h9) rfl (by decide +kernel) rfl rfl (Nat.le_of_ble_eq_true rfl) dX4_readRule_43 (fun H locs hP hD hS => ?_)
        have hP : va_P D vwCl (w_Parser dA a r3.2 ++ (w_Plan dA pa (pl_set_rules pl (ru_set_name (pl_rules pl) (vp_updL (ru_name (pl_rules pl)) (((pl_ruleCount pl)).toNatClampNeg) (ps_word r3.2)))))) H := Eq.mp (congrArg (fun w => va_P D vwCl w H) (kb_sat rfl (st_Plan_4_0 dA pa pl (ps_word r3.2) (((pl_ruleCount pl)).toNatClampNeg) (kb_inlt h_5)))) hP
        have hD : va_D A (w_Parser dA a r3.2 ++ (w_Plan dA pa (pl_set_rules pl (ru_set_name (pl_rules pl) (vp_updL (ru_name (pl_rules pl)) (((pl_ruleCount pl)).toNatClampNeg) (ps_word r3.2)))))) := Eq.mp (congrArg (fun w => va_D A w) (kb_sat rfl (st_Plan_4_0 dA pa pl (ps_word r3.2) (((pl_ruleCount pl)).toNatClampNeg) (kb_inlt h_5)))) hD
        refine lv_aload_n hx hb dX4_readRule_46 rfl (lv_at hl 0 rfl) ?_
        refine lv_iconst (v := (0 : Int32)) hx hb dX4_readRule_47 (by decide) ?_
        refine va_put (D := D) (ci := 8) (v := .int (0 : Int32)) (ty := .int) (C := RX8) (T := TX8) (N := 3) hx hb hts kb_inX8 tyX8 tyX8_ok nmX8 hown hK.1 hP hD hS (2 + (4 + ((pl_ruleCount pl)).toNatClampNeg)) (kb_at rfl (at_Plan_4 dA pa (pl_set_rules pl (ru_set_name (pl_rules pl) (vp_updL (ru_name (pl_rules pl)) (((pl_ruleCount pl)).toNatClampNeg) (ps_word r3.2)))) ((pl_ruleCount pl)).toNatClampNeg (kb_inlt h_5))) rfl 1 (by decide) (hK.2.w ww_1_143 rfl _) (fun _ h9 => h9) rfl (by decide +kernel) rfl rfl (Nat.le_of_ble_eq_true rfl) dX4_readRule_48 (fun H locs hP hD hS => ?_)
        have hP : va_P D vwCl (w_Parser dA a r3.2 ++ (w_Plan dA pa (pl_set_rules (pl_set_rules pl (ru_set_name (pl_rules pl) (vp_updL (ru_name (pl_rules pl)) (((pl_ruleCount pl)).toNatClampNeg) (ps_word r3.2)))) (ru_set_count (pl_rules (pl_set_rules pl (ru_set_name (pl_rules pl) (vp_updL (ru_name (pl_rules pl)) (((pl_ruleCount pl)).toNatClampNeg) (ps_word r3.2))))) (upd (ru_count (pl_rules (pl_set_rules pl (ru_set_name (pl_rules pl) (vp_updL (ru_name (pl_rules pl)) (((pl_ruleCount pl)).toNatClampNeg) (ps_word r3.2)))))) (((pl_ruleCount pl)).toNatClampNeg) (0 : Int32)))))) H := Eq.mp (congrArg (fun w => va_P D vwCl w H) (kb_sat rfl (st_Plan_4_1 dA pa (pl_set_rules pl (ru_set_name (pl_rules pl) (vp_updL (ru_name (pl_rules pl)) (((pl_ruleCount pl)).toNatClampNeg) (ps_word r3.2)))) (0 : Int32) (((pl_ruleCount pl)).toNatClampNeg) (kb_inlt h_5)))) hP
        have hD : va_D A (w_Parser dA a r3.2 ++ (w_Plan dA pa (pl_set_rules (pl_set_rules pl (ru_set_name (pl_rules pl) (vp_updL (ru_name (pl_rules pl)) (((pl_ruleCount pl)).toNatClampNeg) (ps_word r3.2)))) (ru_set_count (pl_rules (pl_set_rules pl (ru_set_name (pl_rules pl) (vp_updL (ru_name (pl_rules pl)) (((pl_ruleCount pl)).toNatClampNeg) (ps_word r3.2))))) (upd (ru_count (pl_rules (pl_set_rules pl (ru_set_name (pl_rules pl) (vp_updL (ru_name (pl_rules pl)) (((pl_ruleCount pl)).toNatClampNeg) (ps_word r3.2)))))) (((pl_ruleCount pl)).toNatClampNeg) (0 : Int32)))))) := Eq.mp (congrArg (fun w => va_D A w) (kb_sat rfl (st_Plan_4_1 dA pa (pl_set_rules pl (ru_set_name (pl_rules pl) (vp_updL (ru_name (pl_rules pl)) (((pl_ruleCount pl)).toNatClampNeg) (ps_word r3.2)))) (0 : Int32) (((pl_ruleCount pl)).toNatClampNeg) (kb_inlt h_5)))) hD
        exact B_51 _ _ _ _ _ _ (kb_inlt h_5) hf hP hD hS (lv_sub hl [1, 2, 0] rfl)
      · rw [if_pos c_4] at hf
        refine lv_iconst (v := (0 : Int32)) hx hb dX4_readRule_26 (by decide) ?_
        exact RET _ _ _ H _ ls 27 hf hP hD hS (by decide) dX4_readRule_27
    · rw [if_neg c_1] at hf
      refine lv_aload_n hx hb dX4_readRule_8 rfl (lv_at hl 0 rfl) ?_
      refine lv_iconst (v := (5 : Int32)) hx hb dX4_readRule_9 (by decide) ?_
      obtain ⟨r11, hc11, hf⟩ := kb_bind hf
      refine kb_ci (ws2 := (w_Parser dA a r11.2 ++ (w_Plan dA pa pl))) (kb_rV (n := 1) (As := [.int (5 : Int32)]) (rest := []) hx hb hml hown hK (c_X4_failed l D dA H.size a ps (5 : Int32) r11.1 r11.2 hc11) ⟨ww_3_49, ww_3_46, ww_3_48, ws_6, ww_1_2, rfl, by decide, by decide⟩ rfl rfl (by decide +kernel) ⟨Nat.le_of_ble_eq_true rfl, Nat.le_of_ble_eq_true rfl⟩ hP hD hS hA hE [0, 1] rfl (by decide) 0 rfl rfl rfl hl.1 rfl (Nat.le_of_ble_eq_true rfl) dX4_readRule_10 ⟨Nat.le_of_ble_eq_true rfl, Nat.le_of_ble_eq_true rfl⟩) hP hD hS hA [0, 1] [2, 3, 4, 5, 6, 7, 8, 9, 10, 11, 12, 13, 14, 15, 16, 17, 18, 19, 20, 21, 22] [21, 22, 0, 1, 2, 3, 4, 5, 6, 7, 8, 9, 10, 11, 12, 13, 14, 15, 16, 17, 18, 19, 20] rfl rfl (by decide) (by decide) rfl (by decide) (fun H locs hP hD hS => ?_)
      obtain ⟨h_12, hf⟩ := kb_if hf
      exact RET _ _ _ H _ ls 13 hf hP hD hS h_12 dX4_readRule_13
  exact E0 _ _ hP hD hS

noncomputable def f_X4_readRuleOf (ps : ParserT) (pl : PlanT) (ix0 : Nat) : Option (Int32 × ParserT × PlanT) := (f_X4_isName ps).bind fun r1 => (if r1 = 0 then (f_X4_failed ps (1 : Int32)).bind fun r8 => if kb_01 r8.1 then some (r8.1, r8.2, pl) else none else (f_X5_ruleNamed pl (ps_word ps)).bind fun r3 => (if ((qr_rule (pl_riders (pl_set_riders pl (qr_set_rule (pl_riders pl) (upd (qr_rule (pl_riders pl)) (ix0) r3))))) ix0) = (-1 : Int32) then (f_X4_failed ps (2 : Int32)).bind fun r6 => if kb_01 r6.1 then some (r6.1, r6.2, (pl_set_riders pl (qr_set_rule (pl_riders pl) (upd (qr_rule (pl_riders pl)) (ix0) r3)))) else none else (f_X4_advance ps).bind fun r5 => some ((1 : Int32), r5, (pl_set_riders pl (qr_set_rule (pl_riders pl) (upd (qr_rule (pl_riders pl)) (ix0) r3))))))
set_option maxHeartbeats 4000000 in
set_option maxRecDepth 100000 in
theorem c_X4_readRuleOf (l : Launch) (D : va_G) (dA : Nat → ClassId) (sz : Nat) (a : Nat → Nat) (pa : Nat → Nat) (ps : ParserT) (pl : PlanT) (ix0 : Nat) (hix0 : ix0 < 8) (rv : Int32) (u0 : ParserT) (u1 : PlanT) (hf : f_X4_readRuleOf ps pl ix0 = some (rv, u0, u1)) : kb_Mi l yX4_readRuleOf cX4_readRuleOf 3 (some .boolean) ({ frames := 7, cells := 0, slots := 0, locals := 148 } : Room) D dA [.ref (a 0), .ref (pa (13 + ix0)), .ref (pa 0)] sz (w_Parser dA a ps ++ (w_Plan dA pa pl)) 0 0 rv (w_Parser dA a u0 ++ (w_Plan dA pa u1)) := by
  refine Met.ofW (cc := cX4_readRuleOf) (maxL := 3) (ret := (some .boolean)) (by decide) rfl ?_
  intro p e s m args below meth c s₁ B hml hv
  obtain ⟨rfl, hsz, hP, hK, hD0, hE⟩ := hv
  have hx := B.exec
  have hb := B.bytes
  have hr := B.returns
  have hown : s.vm.findClass RX4 = some m.cls := findClass_of_methodNamed B.named
  have hlocks := B.notSynchronized
  have hts : ∀ w ∈ kb_gw, w.before ([.ref (a 0), .ref (pa (13 + ix0)), .ref (pa 0)] : List Value).toArray s = true := fun w hw => hK.2.1 w hw _
  subst hsz
  have hD := hD0.self (sz := s.heap.size)
  generalize hAe : va_A (w_Parser dA a ps ++ (w_Plan dA pa pl)) s.heap.size = A at hD hE ⊢
  have hA : ∀ q : Nat, s.heap.size ≤ q → A q := fun q h => by rw [← hAe]; exact Or.inr h
  have hS : va_S A s.heap s.heap [] := va_S.rf
  have hl := lv_entry ([.ref (a 0), .ref (pa (13 + ix0)), .ref (pa 0)]) (n := 3) (Nat.le_of_ble_eq_true rfl)
  rw [lg_entry_eq]
  generalize (lg_sl ([.ref (a 0), .ref (pa (13 + ix0)), .ref (pa 0)]) ++ List.replicate (3 - (lg_sl ([.ref (a 0), .ref (pa (13 + ix0)), .ref (pa 0)])).length) Slot.unset).toArray = ls at hl ⊢
  have hl : lv_has ls 3 [(0, .ref (a 0)), (1, .ref (pa (13 + ix0))), (2, .ref (pa 0))] := hl
  generalize hQ : MQ below (va_Qi (fun r (_ : Unit) => r = rv) (kb_B D A (w_Parser dA a u0 ++ (w_Plan dA pa u1))) A) ([.ref (a 0), .ref (pa (13 + ix0)), .ref (pa 0)] : List Value).toArray s 0 0 A = Q
  show W p l e ({ frames := 7, cells := 0, slots := 0, locals := 148 } : Room) s m ([.ref (a 0), .ref (pa (13 + ix0)), .ref (pa 0)] : List Value).toArray below meth c s.heap [] 0 0 Q (F0 m 0 ls [])
  have RET : ∀ (r2 : Int32) (w0 : ParserT) (w1 : PlanT) (H : Heap) (locs : List Loc) (ls : Array Slot) (pc : Nat), some (r2, w0, w1) = some (rv, u0, u1) → va_P D vwCl (w_Parser dA a w0 ++ (w_Plan dA pa w1)) H → va_D A (w_Parser dA a w0 ++ (w_Plan dA pa w1)) → va_S A s.heap H locs → kb_01 r2 → decode cX4_readRuleOf pc = .ok (.ireturn, 1) → W p l e ({ frames := 7, cells := 0, slots := 0, locals := 148 } : Room) s m ([.ref (a 0), .ref (pa (13 + ix0)), .ref (pa 0)] : List Value).toArray below meth c H locs 0 0 Q (F0 m pc ls [.int r2]) := by
    intro r2 w0 w1 H locs ls pc hq hP hD hS h01 hd
    cases hq
    rw [← hQ]
    exact W.zret (ty := .boolean) hx hb hr (kb_nz h01) (fun t ht hW => ⟨⟨_, (), rfl, rfl, by rw [ht]; exact hP, hD⟩, hS.F ht⟩) hS.2.2 hd
  have E0 : ∀ (H : Heap) (locs : List Loc), va_P D vwCl (w_Parser dA a ps ++ (w_Plan dA pa pl)) H → va_D A (w_Parser dA a ps ++ (w_Plan dA pa pl)) → va_S A s.heap H locs → W p l e ({ frames := 7, cells := 0, slots := 0, locals := 148 } : Room) s m ([.ref (a 0), .ref (pa (13 + ix0)), .ref (pa 0)] : List Value).toArray below meth c H locs 0 0 Q (F0 m 0 ls []) := by
    intro H locs hP hD hS
    rw [f_X4_readRuleOf] at hf
    refine lv_aload_n hx hb dX4_readRuleOf_0 rfl (lv_at hl 0 rfl) ?_
    obtain ⟨r1, hc1, hf⟩ := kb_bind hf
    refine kb_ci (ws2 := (w_Parser dA a ps ++ (w_Plan dA pa pl))) (kb_rV (n := 0) (As := []) (rest := []) hx hb hml hown hK (c_X4_isName l D dA H.size a ps r1 hc1) ⟨ww_3_97, ww_3_94, ww_3_96, ws_13, ww_1_2, rfl, by decide, by decide⟩ rfl rfl (by decide +kernel) ⟨Nat.le_of_ble_eq_true rfl, Nat.le_of_ble_eq_true rfl⟩ hP hD hS hA hE [0, 1] rfl (by decide) 0 rfl rfl rfl hl.1 rfl (Nat.le_of_ble_eq_true rfl) dX4_readRuleOf_1 ⟨Nat.le_of_ble_eq_true rfl, Nat.le_of_ble_eq_true rfl⟩) hP hD hS hA [0, 1] [2, 3, 4, 5, 6, 7, 8, 9, 10, 11, 12, 13, 14, 15, 16, 17, 18, 19, 20, 21, 22] [21, 22, 0, 1, 2, 3, 4, 5, 6, 7, 8, 9, 10, 11, 12, 13, 14, 15, 16, 17, 18, 19, 20] rfl rfl (by decide) (by decide) rfl (by decide) (fun H locs hP hD hS => ?_)
    refine lv_if_ne (tgt := 13) hx hb dX4_readRuleOf_4 (by decide) (fun c_2 => ?_) (fun c_2 => ?_)
    · rw [if_neg c_2] at hf
      refine lv_aload_n hx hb dX4_readRuleOf_13 rfl (lv_at hl 1 rfl) ?_
      refine lv_aload_n hx hb dX4_readRuleOf_14 rfl (lv_at hl 2 rfl) ?_
      refine lv_aload_n hx hb dX4_readRuleOf_15 rfl (lv_at hl 0 rfl) ?_
      refine va_get (D := D) (ci := 4) (v := .long (ps_word ps)) (C := RX4) (T := TX4) (N := 10) hx hb hts kb_inX4 hown hK.1 hP 0 rfl rfl 9 (by decide) (hK.2.w ww_1_51 rfl _) (fun _ h9 => h9) rfl dX4_readRuleOf_16 ?_
      obtain ⟨r3, hc3, hf⟩ := kb_bind hf
      refine kb_ci (ws2 := (w_Parser dA a ps ++ (w_Plan dA pa pl))) (kb_rV (n := 1) (As := [.long (ps_word ps)]) (rest := [.ref (pa (13 + ix0))]) hx hb hml hown hK (c_X5_ruleNamed l D dA H.size pa pl (ps_word ps) r3 hc3) ⟨ww_3_122, ww_3_119, ww_3_120, ww_3_121, ww_1_3, rfl, by decide, by decide⟩ rfl rfl (by decide +kernel) ⟨Nat.le_of_ble_eq_true rfl, Nat.le_of_ble_eq_true rfl⟩ hP hD hS hA hE [2, 3, 4, 5, 6, 7, 8, 9, 10, 11, 12, 13, 14, 15, 16, 17, 18, 19, 20, 21, 22] rfl (by decide) 0 rfl rfl rfl hl.1 rfl (Nat.le_of_ble_eq_true rfl) dX4_readRuleOf_19 ⟨Nat.le_of_ble_eq_true rfl, Nat.le_of_ble_eq_true rfl⟩) hP hD hS hA [2, 3, 4, 5, 6, 7, 8, 9, 10, 11, 12, 13, 14, 15, 16, 17, 18, 19, 20, 21, 22] [0, 1] [0, 1, 2, 3, 4, 5, 6, 7, 8, 9, 10, 11, 12, 13, 14, 15, 16, 17, 18, 19, 20, 21, 22] rfl rfl (by decide) (by decide) rfl (by decide) (fun H locs hP hD hS => ?_)
      refine va_put (D := D) (ci := 7) (v := .int r3) (ty := .int) (C := RX7) (T := TX7) (N := 10) hx hb hts kb_inX7 tyX7 tyX7_ok nmX7 hown hK.1 hP hD hS (2 + (13 + ix0)) (kb_at rfl (at_Plan_13 dA pa pl ix0 hix0)) rfl 3 (by decide) (hK.2.w ww_1_170 rfl _) (fun _ h9 => h9) rfl (by decide +kernel) rfl rfl (Nat.le_of_ble_eq_true rfl) dX4_readRuleOf_22 (fun H locs hP hD hS => ?_)
      have hP : va_P D vwCl (w_Parser dA a ps ++ (w_Plan dA pa (pl_set_riders pl (qr_set_rule (pl_riders pl) (upd (qr_rule (pl_riders pl)) (ix0) r3))))) H := Eq.mp (congrArg (fun w => va_P D vwCl w H) (kb_sat rfl (st_Plan_13_3 dA pa pl r3 (ix0) hix0))) hP
      have hD : va_D A (w_Parser dA a ps ++ (w_Plan dA pa (pl_set_riders pl (qr_set_rule (pl_riders pl) (upd (qr_rule (pl_riders pl)) (ix0) r3))))) := Eq.mp (congrArg (fun w => va_D A w) (kb_sat rfl (st_Plan_13_3 dA pa pl r3 (ix0) hix0))) hD
      refine lv_aload_n hx hb dX4_readRuleOf_25 rfl (lv_at hl 1 rfl) ?_
      refine va_get (D := D) (ci := 7) (v := .int ((qr_rule (pl_riders (pl_set_riders pl (qr_set_rule (pl_riders pl) (upd (qr_rule (pl_riders pl)) (ix0) r3))))) ix0)) (C := RX7) (T := TX7) (N := 10) hx hb hts kb_inX7 hown hK.1 hP (2 + (13 + ix0)) (kb_at rfl (at_Plan_13 dA pa (pl_set_riders pl (qr_set_rule (pl_riders pl) (upd (qr_rule (pl_riders pl)) (ix0) r3))) ix0 hix0)) rfl 3 (by decide) (hK.2.w ww_1_170 rfl _) (fun _ h9 => h9) rfl dX4_readRuleOf_26 ?_
      refine lv_iconst (v := (-1 : Int32)) hx hb dX4_readRuleOf_29 (by decide) ?_
      refine lv_icmp_ne (tgt := 39) hx hb dX4_readRuleOf_30 (by decide) (fun c_4 => ?_) (fun c_4 => ?_)
      · rw [if_neg c_4] at hf
        refine lv_aload_n hx hb dX4_readRuleOf_39 rfl (lv_at hl 0 rfl) ?_
        obtain ⟨r5, hc5, hf⟩ := kb_bind hf
        refine kb_cv (ws2 := (w_Parser dA a r5 ++ (w_Plan dA pa (pl_set_riders pl (qr_set_rule (pl_riders pl) (upd (qr_rule (pl_riders pl)) (ix0) r3)))))) (kb_rV (n := 0) (As := []) (rest := []) hx hb hml hown hK (c_X4_advance l D dA H.size a ps r5 hc5) ⟨ww_2_219, ww_2_216, ww_2_218, ws_1, ww_1_2, rfl, by decide, by decide⟩ rfl rfl (by decide +kernel) ⟨Nat.le_of_ble_eq_true rfl, Nat.le_of_ble_eq_true rfl⟩ hP hD hS hA hE [0, 1] rfl (by decide) 0 rfl rfl rfl hl.1 rfl (Nat.le_of_ble_eq_true rfl) dX4_readRuleOf_40 ⟨Nat.le_of_ble_eq_true rfl, Nat.le_of_ble_eq_true rfl⟩) hP hD hS hA [0, 1] [2, 3, 4, 5, 6, 7, 8, 9, 10, 11, 12, 13, 14, 15, 16, 17, 18, 19, 20, 21, 22] [21, 22, 0, 1, 2, 3, 4, 5, 6, 7, 8, 9, 10, 11, 12, 13, 14, 15, 16, 17, 18, 19, 20] rfl rfl (by decide) (by decide) rfl (by decide) (fun H locs hP hD hS => ?_)
        refine lv_iconst (v := (1 : Int32)) hx hb dX4_readRuleOf_43 (by decide) ?_
        exact RET _ _ _ H _ ls 44 hf hP hD hS (by decide) dX4_readRuleOf_44
      · rw [if_pos c_4] at hf
        refine lv_aload_n hx hb dX4_readRuleOf_33 rfl (lv_at hl 0 rfl) ?_
        refine lv_iconst (v := (2 : Int32)) hx hb dX4_readRuleOf_34 (by decide) ?_
        obtain ⟨r6, hc6, hf⟩ := kb_bind hf
        refine kb_ci (ws2 := (w_Parser dA a r6.2 ++ (w_Plan dA pa (pl_set_riders pl (qr_set_rule (pl_riders pl) (upd (qr_rule (pl_riders pl)) (ix0) r3)))))) (kb_rV (n := 1) (As := [.int (2 : Int32)]) (rest := []) hx hb hml hown hK (c_X4_failed l D dA H.size a ps (2 : Int32) r6.1 r6.2 hc6) ⟨ww_3_49, ww_3_46, ww_3_48, ws_6, ww_1_2, rfl, by decide, by decide⟩ rfl rfl (by decide +kernel) ⟨Nat.le_of_ble_eq_true rfl, Nat.le_of_ble_eq_true rfl⟩ hP hD hS hA hE [0, 1] rfl (by decide) 0 rfl rfl rfl hl.1 rfl (Nat.le_of_ble_eq_true rfl) dX4_readRuleOf_35 ⟨Nat.le_of_ble_eq_true rfl, Nat.le_of_ble_eq_true rfl⟩) hP hD hS hA [0, 1] [2, 3, 4, 5, 6, 7, 8, 9, 10, 11, 12, 13, 14, 15, 16, 17, 18, 19, 20, 21, 22] [21, 22, 0, 1, 2, 3, 4, 5, 6, 7, 8, 9, 10, 11, 12, 13, 14, 15, 16, 17, 18, 19, 20] rfl rfl (by decide) (by decide) rfl (by decide) (fun H locs hP hD hS => ?_)
        obtain ⟨h_7, hf⟩ := kb_if hf
        exact RET _ _ _ H _ ls 38 hf hP hD hS h_7 dX4_readRuleOf_38
    · rw [if_pos c_2] at hf
      refine lv_aload_n hx hb dX4_readRuleOf_7 rfl (lv_at hl 0 rfl) ?_
      refine lv_iconst (v := (1 : Int32)) hx hb dX4_readRuleOf_8 (by decide) ?_
      obtain ⟨r8, hc8, hf⟩ := kb_bind hf
      refine kb_ci (ws2 := (w_Parser dA a r8.2 ++ (w_Plan dA pa pl))) (kb_rV (n := 1) (As := [.int (1 : Int32)]) (rest := []) hx hb hml hown hK (c_X4_failed l D dA H.size a ps (1 : Int32) r8.1 r8.2 hc8) ⟨ww_3_49, ww_3_46, ww_3_48, ws_6, ww_1_2, rfl, by decide, by decide⟩ rfl rfl (by decide +kernel) ⟨Nat.le_of_ble_eq_true rfl, Nat.le_of_ble_eq_true rfl⟩ hP hD hS hA hE [0, 1] rfl (by decide) 0 rfl rfl rfl hl.1 rfl (Nat.le_of_ble_eq_true rfl) dX4_readRuleOf_9 ⟨Nat.le_of_ble_eq_true rfl, Nat.le_of_ble_eq_true rfl⟩) hP hD hS hA [0, 1] [2, 3, 4, 5, 6, 7, 8, 9, 10, 11, 12, 13, 14, 15, 16, 17, 18, 19, 20, 21, 22] [21, 22, 0, 1, 2, 3, 4, 5, 6, 7, 8, 9, 10, 11, 12, 13, 14, 15, 16, 17, 18, 19, 20] rfl rfl (by decide) (by decide) rfl (by decide) (fun H locs hP hD hS => ?_)
      obtain ⟨h_9, hf⟩ := kb_if hf
      exact RET _ _ _ H _ ls 12 hf hP hD hS h_9 dX4_readRuleOf_12
  exact E0 _ _ hP hD hS

noncomputable def f_X4_readRider_b189 (z0 : ParserT) (z1 : PlanT) : Option (Int32 × ParserT × PlanT) := some ((1 : Int32), z0, (pl_set_riderCount z1 ((pl_riderCount z1) + (1 : Int32))))
noncomputable def f_X4_readRider_b179 (i2 : Nat) (z0 : ParserT) (z1 : PlanT) : Option (Int32 × ParserT × PlanT) := (f_X4_skipIfWord z0 24).bind fun r19 => if kb_01 r19.1 then f_X4_readRider_b189 r19.2 (pl_set_riders z1 (qr_set_isProud (pl_riders z1) (upd (qr_isProud (pl_riders z1)) (i2) r19.1))) else none
noncomputable def f_X4_readRider_b160 (i2 : Nat) (z0 : ParserT) (z1 : PlanT) : Option (Int32 × ParserT × PlanT) := (if (ps_fault z0) = 0 then (f_X4_skipIfWord z0 23).bind fun r17 => if kb_01 r17.1 then f_X4_readRider_b179 i2 r17.2 (pl_set_riders z1 (qr_set_hasBag (pl_riders z1) (upd (qr_hasBag (pl_riders z1)) (i2) r17.1))) else none else some ((0 : Int32), z0, z1))
noncomputable def f_X4_readRider_b140 (i2 : Nat) (z0 : ParserT) (z1 : PlanT) : Option (Int32 × ParserT × PlanT) := (if (ps_fault z0) = 0 then (f_X4_numberBehind z0 29 (0 : Int32) (99 : Int32)).bind fun r21 => f_X4_readRider_b160 i2 r21.2 (pl_set_riders z1 (qr_set_age (pl_riders z1) (upd (qr_age (pl_riders z1)) (i2) r21.1))) else f_X4_readRider_b160 i2 z0 z1)
noncomputable def f_X4_readRider_b100 (i2 : Nat) (z0 : ParserT) (z1 : PlanT) : Option (Int32 × ParserT × PlanT) := (if (ps_fault z0) = 0 then (f_X4_skipWord z0 27).bind fun r10 => (if r10.1 = 0 then some ((0 : Int32), r10.2, z1) else (f_X4_readRuleOf r10.2 z1 (i2)).bind fun r12 => (if r12.1 = 0 then some ((0 : Int32), r12.2.1, r12.2.2) else (f_X4_numberBehind r12.2.1 28 (0 : Int32) (9 : Int32)).bind fun r14 => f_X4_readRider_b140 i2 r14.2 (pl_set_riders r12.2.2 (qr_set_looks (pl_riders r12.2.2) (upd (qr_looks (pl_riders r12.2.2)) (i2) r14.1))))) else some ((0 : Int32), z0, z1))
noncomputable def f_X4_readRider_b75 (i2 : Nat) (z0 : ParserT) (z1 : PlanT) : Option (Int32 × ParserT × PlanT) := (if (ps_fault z0) = 0 then (f_X4_numberBehind z0 26 (((qr_on (pl_riders z1)) i2) + (1 : Int32)) (11 : Int32)).bind fun r22 => f_X4_readRider_b100 i2 r22.2 (pl_set_riders z1 (qr_set_off (pl_riders z1) (upd (qr_off (pl_riders z1)) (i2) r22.1))) else f_X4_readRider_b100 i2 z0 z1)
noncomputable def f_X4_readRider_b62 (i2 : Nat) (z0 : ParserT) (z1 : PlanT) : Option (Int32 × ParserT × PlanT) := (f_X4_numberBehind z0 25 (0 : Int32) (10 : Int32)).bind fun r7 => f_X4_readRider_b75 i2 r7.2 (pl_set_riders z1 (qr_set_on (pl_riders z1) (upd (qr_on (pl_riders z1)) (i2) r7.1)))
noncomputable def f_X4_readRider_b53 (i2 : Nat) (z0 : ParserT) (z1 : PlanT) : Option (Int32 × ParserT × PlanT) := (f_X4_advance z0).bind fun r6 => f_X4_readRider_b62 i2 r6 (pl_set_riders z1 (qr_set_friends (pl_riders z1) (upd (qr_friends (pl_riders z1)) (i2) (0 : Int32))))
noncomputable def f_X4_readRider (ps : ParserT) (pl : PlanT) : Option (Int32 × ParserT × PlanT) := (if (pl_riderCount pl) < (8 : Int32) then (f_X4_advance ps).bind fun r2 => (f_X4_isFresh r2 pl).bind fun r3 => (if r3.1 = 0 then some ((0 : Int32), r3.2, pl) else if kb_in? (pl_riderCount pl) 8 then f_X4_readRider_b53 ((pl_riderCount pl)).toNatClampNeg r3.2 (pl_set_riders (pl_set_riders pl (qr_set_name (pl_riders pl) (vp_updL (qr_name (pl_riders pl)) (((pl_riderCount pl)).toNatClampNeg) (ps_word r3.2)))) (qr_set_held (pl_riders (pl_set_riders pl (qr_set_name (pl_riders pl) (vp_updL (qr_name (pl_riders pl)) (((pl_riderCount pl)).toNatClampNeg) (ps_word r3.2))))) (upd (qr_held (pl_riders (pl_set_riders pl (qr_set_name (pl_riders pl) (vp_updL (qr_name (pl_riders pl)) (((pl_riderCount pl)).toNatClampNeg) (ps_word r3.2)))))) (((pl_riderCount pl)).toNatClampNeg) (-2 : Int32)))) else none) else (f_X4_failed ps (5 : Int32)).bind fun r23 => if kb_01 r23.1 then some (r23.1, r23.2, pl) else none)
set_option maxHeartbeats 4000000 in
set_option maxRecDepth 100000 in
theorem c_X4_readRider (l : Launch) (D : va_G) (dA : Nat → ClassId) (sz : Nat) (a : Nat → Nat) (pa : Nat → Nat) (ps : ParserT) (pl : PlanT) (rv : Int32) (u0 : ParserT) (u1 : PlanT) (hf : f_X4_readRider ps pl = some (rv, u0, u1)) : kb_Mi l yX4_readRider cX4_readRider 3 (some .boolean) ({ frames := 8, cells := 0, slots := 0, locals := 170 } : Room) D dA [.ref (a 0), .ref (pa 0)] sz (w_Parser dA a ps ++ (w_Plan dA pa pl)) 0 0 rv (w_Parser dA a u0 ++ (w_Plan dA pa u1)) := by
  refine Met.ofW (cc := cX4_readRider) (maxL := 3) (ret := (some .boolean)) (by decide) rfl ?_
  intro p e s m args below meth c s₁ B hml hv
  obtain ⟨rfl, hsz, hP, hK, hD0, hE⟩ := hv
  have hx := B.exec
  have hb := B.bytes
  have hr := B.returns
  have hown : s.vm.findClass RX4 = some m.cls := findClass_of_methodNamed B.named
  have hlocks := B.notSynchronized
  have hts : ∀ w ∈ kb_gw, w.before ([.ref (a 0), .ref (pa 0)] : List Value).toArray s = true := fun w hw => hK.2.1 w hw _
  subst hsz
  have hD := hD0.self (sz := s.heap.size)
  generalize hAe : va_A (w_Parser dA a ps ++ (w_Plan dA pa pl)) s.heap.size = A at hD hE ⊢
  have hA : ∀ q : Nat, s.heap.size ≤ q → A q := fun q h => by rw [← hAe]; exact Or.inr h
  have hS : va_S A s.heap s.heap [] := va_S.rf
  have hl := lv_entry ([.ref (a 0), .ref (pa 0)]) (n := 3) (Nat.le_of_ble_eq_true rfl)
  rw [lg_entry_eq]
  generalize (lg_sl ([.ref (a 0), .ref (pa 0)]) ++ List.replicate (3 - (lg_sl ([.ref (a 0), .ref (pa 0)])).length) Slot.unset).toArray = ls at hl ⊢
  have hl : lv_has ls 3 [(0, .ref (a 0)), (1, .ref (pa 0))] := hl
  generalize hQ : MQ below (va_Qi (fun r (_ : Unit) => r = rv) (kb_B D A (w_Parser dA a u0 ++ (w_Plan dA pa u1))) A) ([.ref (a 0), .ref (pa 0)] : List Value).toArray s 0 0 A = Q
  show W p l e ({ frames := 8, cells := 0, slots := 0, locals := 170 } : Room) s m ([.ref (a 0), .ref (pa 0)] : List Value).toArray below meth c s.heap [] 0 0 Q (F0 m 0 ls [])
  have RET : ∀ (r2 : Int32) (w0 : ParserT) (w1 : PlanT) (H : Heap) (locs : List Loc) (ls : Array Slot) (pc : Nat), some (r2, w0, w1) = some (rv, u0, u1) → va_P D vwCl (w_Parser dA a w0 ++ (w_Plan dA pa w1)) H → va_D A (w_Parser dA a w0 ++ (w_Plan dA pa w1)) → va_S A s.heap H locs → kb_01 r2 → decode cX4_readRider pc = .ok (.ireturn, 1) → W p l e ({ frames := 8, cells := 0, slots := 0, locals := 170 } : Room) s m ([.ref (a 0), .ref (pa 0)] : List Value).toArray below meth c H locs 0 0 Q (F0 m pc ls [.int r2]) := by
    intro r2 w0 w1 H locs ls pc hq hP hD hS h01 hd
    cases hq
    rw [← hQ]
    exact W.zret (ty := .boolean) hx hb hr (kb_nz h01) (fun t ht hW => ⟨⟨_, (), rfl, rfl, by rw [ht]; exact hP, hD⟩, hS.F ht⟩) hS.2.2 hd
  have B_189 : ∀ (z0 : ParserT) (z1 : PlanT) (H : Heap) (locs : List Loc) (ls : Array Slot), f_X4_readRider_b189 z0 z1 = some (rv, u0, u1) → va_P D vwCl (w_Parser dA a z0 ++ (w_Plan dA pa z1)) H → va_D A (w_Parser dA a z0 ++ (w_Plan dA pa z1)) → va_S A s.heap H locs → lv_has ls 3 [(1, .ref (pa 0))] → W p l e ({ frames := 8, cells := 0, slots := 0, locals := 170 } : Room) s m ([.ref (a 0), .ref (pa 0)] : List Value).toArray below meth c H locs 0 0 Q (F0 m 189 ls []) := by
    intro z0 z1 H locs ls hf hP hD hS hl
    rw [f_X4_readRider_b189] at hf
    refine lv_aload_n hx hb dX4_readRider_189 rfl (lv_at hl 0 rfl) ?_
    refine lv_dup hx hb dX4_readRider_190 rfl ?_
    refine va_get (D := D) (ci := 5) (v := .int (pl_riderCount z1)) (C := RX5) (T := TX5) (N := 8) hx hb hts kb_inX5 hown hK.1 hP 2 rfl rfl 5 (by decide) (hK.2.w ww_1_237 rfl _) (fun _ h9 => h9) rfl dX4_readRider_191 ?_
    refine lv_iconst (v := (1 : Int32)) hx hb dX4_readRider_194 (by decide) ?_
    refine lv_iadd hx hb dX4_readRider_195 ?_
    refine va_put (D := D) (ci := 5) (v := .int ((pl_riderCount z1) + (1 : Int32))) (ty := .int) (C := RX5) (T := TX5) (N := 8) hx hb hts kb_inX5 tyX5 tyX5_ok nmX5 hown hK.1 hP hD hS 2 rfl rfl 5 (by decide) (hK.2.w ww_1_237 rfl _) (fun _ h9 => h9) rfl (by decide +kernel) rfl rfl (Nat.le_of_ble_eq_true rfl) dX4_readRider_196 (fun H locs hP hD hS => ?_)
    have hP : va_P D vwCl (w_Parser dA a z0 ++ (w_Plan dA pa (pl_set_riderCount z1 ((pl_riderCount z1) + (1 : Int32))))) H := hP
    have hD : va_D A (w_Parser dA a z0 ++ (w_Plan dA pa (pl_set_riderCount z1 ((pl_riderCount z1) + (1 : Int32))))) := hD
    refine lv_iconst (v := (1 : Int32)) hx hb dX4_readRider_199 (by decide) ?_
    exact RET _ _ _ H _ ls 200 hf hP hD hS (by decide) dX4_readRider_200
  have B_179 : ∀ (i2 : Nat) (z0 : ParserT) (z1 : PlanT) (H : Heap) (locs : List Loc) (ls : Array Slot), i2 < 8 → f_X4_readRider_b179 i2 z0 z1 = some (rv, u0, u1) → va_P D vwCl (w_Parser dA a z0 ++ (w_Plan dA pa z1)) H → va_D A (w_Parser dA a z0 ++ (w_Plan dA pa z1)) → va_S A s.heap H locs → lv_has ls 3 [(0, .ref (a 0)), (1, .ref (pa 0)), (2, .ref (pa (13 + i2)))] → W p l e ({ frames := 8, cells := 0, slots := 0, locals := 170 } : Room) s m ([.ref (a 0), .ref (pa 0)] : List Value).toArray below meth c H locs 0 0 Q (F0 m 179 ls []) := by
    intro i2 z0 z1 H locs ls hi2 hf hP hD hS hl
    rw [f_X4_readRider_b179] at hf
    refine lv_aload_n hx hb dX4_readRider_179 rfl (lv_at hl 2 rfl) ?_
    refine lv_aload_n hx hb dX4_readRider_180 rfl (lv_at hl 0 rfl) ?_
    refine va_ldcS (tx := "proud") (q := dA (100 + 24)) hx hb hown (hE.2.2.2 ("BusSeats$Parser", 225, "proud", 24) (by decide)) dX4_readRider_181 ?_
    obtain ⟨r19, hc19, hf⟩ := kb_bind hf
    refine kb_ci (ws2 := (w_Parser dA a r19.2 ++ (w_Plan dA pa z1))) (kb_rV (n := 1) (As := [.ref (dA (100 + 24))]) (rest := [.ref (pa (13 + i2))]) hx hb hml hown hK (c_X4_skipIfWord l D dA H.size a z0 24 (by decide) r19.1 r19.2 hc19) ⟨ww_3_67, ww_3_64, ww_3_66, ws_9, ww_1_2, rfl, by decide, by decide⟩ rfl rfl (by decide +kernel) ⟨Nat.le_of_ble_eq_true rfl, Nat.le_of_ble_eq_true rfl⟩ hP hD hS hA hE [0, 1] rfl (by decide) 0 rfl rfl rfl hl.1 rfl (Nat.le_of_ble_eq_true rfl) dX4_readRider_183 ⟨Nat.le_of_ble_eq_true rfl, Nat.le_of_ble_eq_true rfl⟩) hP hD hS hA [0, 1] [2, 3, 4, 5, 6, 7, 8, 9, 10, 11, 12, 13, 14, 15, 16, 17, 18, 19, 20, 21, 22] [21, 22, 0, 1, 2, 3, 4, 5, 6, 7, 8, 9, 10, 11, 12, 13, 14, 15, 16, 17, 18, 19, 20] rfl rfl (by decide) (by decide) rfl (by decide) (fun H locs hP hD hS => ?_)
    obtain ⟨h_20, hf⟩ := kb_if hf
    refine va_put (D := D) (ci := 7) (v := .int r19.1) (ty := .boolean) (C := RX7) (T := TX7) (N := 10) hx hb hts kb_inX7 tyX7 tyX7_ok nmX7 hown hK.1 hP hD hS (2 + (13 + i2)) (kb_at rfl (at_Plan_13 dA pa z1 i2 hi2)) rfl 7 (by decide) (hK.2.w ww_1_183 rfl _) (fun _ h9 => h9) rfl (by decide +kernel) (kb_nz h_20) (kb_fz h_20) (Nat.le_of_ble_eq_true rfl) dX4_readRider_186 (fun H locs hP hD hS => ?_)
    have hP : va_P D vwCl (w_Parser dA a r19.2 ++ (w_Plan dA pa (pl_set_riders z1 (qr_set_isProud (pl_riders z1) (upd (qr_isProud (pl_riders z1)) (i2) r19.1))))) H := Eq.mp (congrArg (fun w => va_P D vwCl w H) (kb_sat rfl (st_Plan_13_7 dA pa z1 r19.1 (i2) hi2))) hP
    have hD : va_D A (w_Parser dA a r19.2 ++ (w_Plan dA pa (pl_set_riders z1 (qr_set_isProud (pl_riders z1) (upd (qr_isProud (pl_riders z1)) (i2) r19.1))))) := Eq.mp (congrArg (fun w => va_D A w) (kb_sat rfl (st_Plan_13_7 dA pa z1 r19.1 (i2) hi2))) hD
    exact B_189 _ _ _ _ _ hf hP hD hS (lv_sub hl [1] rfl)
  have B_160 : ∀ (i2 : Nat) (z0 : ParserT) (z1 : PlanT) (H : Heap) (locs : List Loc) (ls : Array Slot), i2 < 8 → f_X4_readRider_b160 i2 z0 z1 = some (rv, u0, u1) → va_P D vwCl (w_Parser dA a z0 ++ (w_Plan dA pa z1)) H → va_D A (w_Parser dA a z0 ++ (w_Plan dA pa z1)) → va_S A s.heap H locs → lv_has ls 3 [(0, .ref (a 0)), (1, .ref (pa 0)), (2, .ref (pa (13 + i2)))] → W p l e ({ frames := 8, cells := 0, slots := 0, locals := 170 } : Room) s m ([.ref (a 0), .ref (pa 0)] : List Value).toArray below meth c H locs 0 0 Q (F0 m 160 ls []) := by
    intro i2 z0 z1 H locs ls hi2 hf hP hD hS hl
    rw [f_X4_readRider_b160] at hf
    refine lv_aload_n hx hb dX4_readRider_160 rfl (lv_at hl 0 rfl) ?_
    refine va_get (D := D) (ci := 4) (v := .int (ps_fault z0)) (C := RX4) (T := TX4) (N := 10) hx hb hts kb_inX4 hown hK.1 hP 0 rfl rfl 1 (by decide) (hK.2.w ww_1_41 rfl _) (fun _ h9 => h9) rfl dX4_readRider_161 ?_
    refine lv_if_eq (tgt := 169) hx hb dX4_readRider_164 (by decide) (fun c_16 => ?_) (fun c_16 => ?_)
    · rw [if_pos c_16] at hf
      refine lv_aload_n hx hb dX4_readRider_169 rfl (lv_at hl 2 rfl) ?_
      refine lv_aload_n hx hb dX4_readRider_170 rfl (lv_at hl 0 rfl) ?_
      refine va_ldcS (tx := "bag") (q := dA (100 + 23)) hx hb hown (hE.2.2.2 ("BusSeats$Parser", 217, "bag", 23) (by decide)) dX4_readRider_171 ?_
      obtain ⟨r17, hc17, hf⟩ := kb_bind hf
      refine kb_ci (ws2 := (w_Parser dA a r17.2 ++ (w_Plan dA pa z1))) (kb_rV (n := 1) (As := [.ref (dA (100 + 23))]) (rest := [.ref (pa (13 + i2))]) hx hb hml hown hK (c_X4_skipIfWord l D dA H.size a z0 23 (by decide) r17.1 r17.2 hc17) ⟨ww_3_67, ww_3_64, ww_3_66, ws_9, ww_1_2, rfl, by decide, by decide⟩ rfl rfl (by decide +kernel) ⟨Nat.le_of_ble_eq_true rfl, Nat.le_of_ble_eq_true rfl⟩ hP hD hS hA hE [0, 1] rfl (by decide) 0 rfl rfl rfl hl.1 rfl (Nat.le_of_ble_eq_true rfl) dX4_readRider_173 ⟨Nat.le_of_ble_eq_true rfl, Nat.le_of_ble_eq_true rfl⟩) hP hD hS hA [0, 1] [2, 3, 4, 5, 6, 7, 8, 9, 10, 11, 12, 13, 14, 15, 16, 17, 18, 19, 20, 21, 22] [21, 22, 0, 1, 2, 3, 4, 5, 6, 7, 8, 9, 10, 11, 12, 13, 14, 15, 16, 17, 18, 19, 20] rfl rfl (by decide) (by decide) rfl (by decide) (fun H locs hP hD hS => ?_)
      obtain ⟨h_18, hf⟩ := kb_if hf
      refine va_put (D := D) (ci := 7) (v := .int r17.1) (ty := .boolean) (C := RX7) (T := TX7) (N := 10) hx hb hts kb_inX7 tyX7 tyX7_ok nmX7 hown hK.1 hP hD hS (2 + (13 + i2)) (kb_at rfl (at_Plan_13 dA pa z1 i2 hi2)) rfl 6 (by decide) (hK.2.w ww_1_180 rfl _) (fun _ h9 => h9) rfl (by decide +kernel) (kb_nz h_18) (kb_fz h_18) (Nat.le_of_ble_eq_true rfl) dX4_readRider_176 (fun H locs hP hD hS => ?_)
      have hP : va_P D vwCl (w_Parser dA a r17.2 ++ (w_Plan dA pa (pl_set_riders z1 (qr_set_hasBag (pl_riders z1) (upd (qr_hasBag (pl_riders z1)) (i2) r17.1))))) H := Eq.mp (congrArg (fun w => va_P D vwCl w H) (kb_sat rfl (st_Plan_13_6 dA pa z1 r17.1 (i2) hi2))) hP
      have hD : va_D A (w_Parser dA a r17.2 ++ (w_Plan dA pa (pl_set_riders z1 (qr_set_hasBag (pl_riders z1) (upd (qr_hasBag (pl_riders z1)) (i2) r17.1))))) := Eq.mp (congrArg (fun w => va_D A w) (kb_sat rfl (st_Plan_13_6 dA pa z1 r17.1 (i2) hi2))) hD
      exact B_179 _ _ _ _ _ _ hi2 hf hP hD hS (lv_sub hl [0, 1, 2] rfl)
    · rw [if_neg c_16] at hf
      refine lv_iconst (v := (0 : Int32)) hx hb dX4_readRider_167 (by decide) ?_
      exact RET _ _ _ H _ ls 168 hf hP hD hS (by decide) dX4_readRider_168
  have B_140 : ∀ (i2 : Nat) (z0 : ParserT) (z1 : PlanT) (H : Heap) (locs : List Loc) (ls : Array Slot), i2 < 8 → f_X4_readRider_b140 i2 z0 z1 = some (rv, u0, u1) → va_P D vwCl (w_Parser dA a z0 ++ (w_Plan dA pa z1)) H → va_D A (w_Parser dA a z0 ++ (w_Plan dA pa z1)) → va_S A s.heap H locs → lv_has ls 3 [(0, .ref (a 0)), (1, .ref (pa 0)), (2, .ref (pa (13 + i2)))] → W p l e ({ frames := 8, cells := 0, slots := 0, locals := 170 } : Room) s m ([.ref (a 0), .ref (pa 0)] : List Value).toArray below meth c H locs 0 0 Q (F0 m 140 ls []) := by
    intro i2 z0 z1 H locs ls hi2 hf hP hD hS hl
    rw [f_X4_readRider_b140] at hf
    refine lv_aload_n hx hb dX4_readRider_140 rfl (lv_at hl 0 rfl) ?_
    refine va_get (D := D) (ci := 4) (v := .int (ps_fault z0)) (C := RX4) (T := TX4) (N := 10) hx hb hts kb_inX4 hown hK.1 hP 0 rfl rfl 1 (by decide) (hK.2.w ww_1_41 rfl _) (fun _ h9 => h9) rfl dX4_readRider_141 ?_
    refine lv_if_ne (tgt := 160) hx hb dX4_readRider_144 (by decide) (fun c_15 => ?_) (fun c_15 => ?_)
    · rw [if_neg c_15] at hf
      exact B_160 _ _ _ _ _ _ hi2 hf hP hD hS (lv_sub hl [0, 1, 2] rfl)
    · rw [if_pos c_15] at hf
      refine lv_aload_n hx hb dX4_readRider_147 rfl (lv_at hl 2 rfl) ?_
      refine lv_aload_n hx hb dX4_readRider_148 rfl (lv_at hl 0 rfl) ?_
      refine va_ldcS (tx := "age") (q := dA (100 + 29)) hx hb hown (hE.2.2.2 ("BusSeats$Parser", 213, "age", 29) (by decide)) dX4_readRider_149 ?_
      refine lv_iconst (v := (0 : Int32)) hx hb dX4_readRider_151 (by decide) ?_
      refine lv_bipush (v := (99 : Int32)) hx hb dX4_readRider_152 (by decide) ?_
      obtain ⟨r21, hc21, hf⟩ := kb_bind hf
      refine kb_ci (ws2 := (w_Parser dA a r21.2 ++ (w_Plan dA pa z1))) (kb_rV (n := 3) (As := [.ref (dA (100 + 29)), .int (0 : Int32), .int (99 : Int32)]) (rest := [.ref (pa (13 + i2))]) hx hb hml hown hK (c_X4_numberBehind l D dA H.size a z0 29 (by decide) (0 : Int32) (99 : Int32) r21.1 r21.2 hc21) ⟨ww_3_54, ww_3_51, ww_3_53, ws_7, ww_1_2, rfl, by decide, by decide⟩ rfl rfl (by decide +kernel) ⟨Nat.le_of_ble_eq_true rfl, Nat.le_of_ble_eq_true rfl⟩ hP hD hS hA hE [0, 1] rfl (by decide) 0 rfl rfl rfl hl.1 rfl (Nat.le_of_ble_eq_true rfl) dX4_readRider_154 ⟨Nat.le_of_ble_eq_true rfl, Nat.le_of_ble_eq_true rfl⟩) hP hD hS hA [0, 1] [2, 3, 4, 5, 6, 7, 8, 9, 10, 11, 12, 13, 14, 15, 16, 17, 18, 19, 20, 21, 22] [21, 22, 0, 1, 2, 3, 4, 5, 6, 7, 8, 9, 10, 11, 12, 13, 14, 15, 16, 17, 18, 19, 20] rfl rfl (by decide) (by decide) rfl (by decide) (fun H locs hP hD hS => ?_)
      refine va_put (D := D) (ci := 7) (v := .int r21.1) (ty := .int) (C := RX7) (T := TX7) (N := 10) hx hb hts kb_inX7 tyX7 tyX7_ok nmX7 hown hK.1 hP hD hS (2 + (13 + i2)) (kb_at rfl (at_Plan_13 dA pa z1 i2 hi2)) rfl 5 (by decide) (hK.2.w ww_1_178 rfl _) (fun _ h9 => h9) rfl (by decide +kernel) rfl rfl (Nat.le_of_ble_eq_true rfl) dX4_readRider_157 (fun H locs hP hD hS => ?_)
      have hP : va_P D vwCl (w_Parser dA a r21.2 ++ (w_Plan dA pa (pl_set_riders z1 (qr_set_age (pl_riders z1) (upd (qr_age (pl_riders z1)) (i2) r21.1))))) H := Eq.mp (congrArg (fun w => va_P D vwCl w H) (kb_sat rfl (st_Plan_13_5 dA pa z1 r21.1 (i2) hi2))) hP
      have hD : va_D A (w_Parser dA a r21.2 ++ (w_Plan dA pa (pl_set_riders z1 (qr_set_age (pl_riders z1) (upd (qr_age (pl_riders z1)) (i2) r21.1))))) := Eq.mp (congrArg (fun w => va_D A w) (kb_sat rfl (st_Plan_13_5 dA pa z1 r21.1 (i2) hi2))) hD
      exact B_160 _ _ _ _ _ _ hi2 hf hP hD hS (lv_sub hl [0, 1, 2] rfl)
  have B_100 : ∀ (i2 : Nat) (z0 : ParserT) (z1 : PlanT) (H : Heap) (locs : List Loc) (ls : Array Slot), i2 < 8 → f_X4_readRider_b100 i2 z0 z1 = some (rv, u0, u1) → va_P D vwCl (w_Parser dA a z0 ++ (w_Plan dA pa z1)) H → va_D A (w_Parser dA a z0 ++ (w_Plan dA pa z1)) → va_S A s.heap H locs → lv_has ls 3 [(0, .ref (a 0)), (1, .ref (pa 0)), (2, .ref (pa (13 + i2)))] → W p l e ({ frames := 8, cells := 0, slots := 0, locals := 170 } : Room) s m ([.ref (a 0), .ref (pa 0)] : List Value).toArray below meth c H locs 0 0 Q (F0 m 100 ls []) := by
    intro i2 z0 z1 H locs ls hi2 hf hP hD hS hl
    rw [f_X4_readRider_b100] at hf
    refine lv_aload_n hx hb dX4_readRider_100 rfl (lv_at hl 0 rfl) ?_
    refine va_get (D := D) (ci := 4) (v := .int (ps_fault z0)) (C := RX4) (T := TX4) (N := 10) hx hb hts kb_inX4 hown hK.1 hP 0 rfl rfl 1 (by decide) (hK.2.w ww_1_41 rfl _) (fun _ h9 => h9) rfl dX4_readRider_101 ?_
    refine lv_if_ne (tgt := 125) hx hb dX4_readRider_104 (by decide) (fun c_9 => ?_) (fun c_9 => ?_)
    · rw [if_neg c_9] at hf
      refine lv_iconst (v := (0 : Int32)) hx hb dX4_readRider_125 (by decide) ?_
      exact RET _ _ _ H _ ls 126 hf hP hD hS (by decide) dX4_readRider_126
    · rw [if_pos c_9] at hf
      refine lv_aload_n hx hb dX4_readRider_107 rfl (lv_at hl 0 rfl) ?_
      refine va_ldcS (tx := "by") (q := dA (100 + 27)) hx hb hown (hE.2.2.2 ("BusSeats$Parser", 203, "by", 27) (by decide)) dX4_readRider_108 ?_
      obtain ⟨r10, hc10, hf⟩ := kb_bind hf
      refine kb_ci (ws2 := (w_Parser dA a r10.2 ++ (w_Plan dA pa z1))) (kb_rV (n := 1) (As := [.ref (dA (100 + 27))]) (rest := []) hx hb hml hown hK (c_X4_skipWord l D dA H.size a z0 27 (by decide) r10.1 r10.2 hc10) ⟨ww_3_63, ww_3_60, ww_3_62, ws_8, ww_1_2, rfl, by decide, by decide⟩ rfl rfl (by decide +kernel) ⟨Nat.le_of_ble_eq_true rfl, Nat.le_of_ble_eq_true rfl⟩ hP hD hS hA hE [0, 1] rfl (by decide) 0 rfl rfl rfl hl.1 rfl (Nat.le_of_ble_eq_true rfl) dX4_readRider_110 ⟨Nat.le_of_ble_eq_true rfl, Nat.le_of_ble_eq_true rfl⟩) hP hD hS hA [0, 1] [2, 3, 4, 5, 6, 7, 8, 9, 10, 11, 12, 13, 14, 15, 16, 17, 18, 19, 20, 21, 22] [21, 22, 0, 1, 2, 3, 4, 5, 6, 7, 8, 9, 10, 11, 12, 13, 14, 15, 16, 17, 18, 19, 20] rfl rfl (by decide) (by decide) rfl (by decide) (fun H locs hP hD hS => ?_)
      refine lv_if_eq (tgt := 125) hx hb dX4_readRider_113 (by decide) (fun c_11 => ?_) (fun c_11 => ?_)
      · rw [if_pos c_11] at hf
        refine lv_iconst (v := (0 : Int32)) hx hb dX4_readRider_125 (by decide) ?_
        exact RET _ _ _ H _ ls 126 hf hP hD hS (by decide) dX4_readRider_126
      · rw [if_neg c_11] at hf
        refine lv_aload_n hx hb dX4_readRider_116 rfl (lv_at hl 0 rfl) ?_
        refine lv_aload_n hx hb dX4_readRider_117 rfl (lv_at hl 2 rfl) ?_
        refine lv_aload_n hx hb dX4_readRider_118 rfl (lv_at hl 1 rfl) ?_
        obtain ⟨r12, hc12, hf⟩ := kb_bind hf
        refine kb_ci (ws2 := (w_Parser dA a r12.2.1 ++ (w_Plan dA pa r12.2.2))) (kb_rV (n := 2) (As := [.ref (pa (13 + i2)), .ref (pa 0)]) (rest := []) hx hb hml hown hK (c_X4_readRuleOf l D dA H.size a pa r10.2 z1 i2 hi2 r12.1 r12.2.1 r12.2.2 hc12) ⟨ww_3_145, ww_3_142, ww_3_144, ws_17, ww_1_2, rfl, by decide, by decide⟩ rfl rfl (by decide +kernel) ⟨Nat.le_of_ble_eq_true rfl, Nat.le_of_ble_eq_true rfl⟩ hP hD hS hA hE [0, 1, 2, 3, 4, 5, 6, 7, 8, 9, 10, 11, 12, 13, 14, 15, 16, 17, 18, 19, 20, 21, 22] rfl (by decide) 0 rfl rfl rfl hl.1 rfl (Nat.le_of_ble_eq_true rfl) dX4_readRider_119 ⟨Nat.le_of_ble_eq_true rfl, Nat.le_of_ble_eq_true rfl⟩) hP hD hS hA [0, 1, 2, 3, 4, 5, 6, 7, 8, 9, 10, 11, 12, 13, 14, 15, 16, 17, 18, 19, 20, 21, 22] [] [0, 1, 2, 3, 4, 5, 6, 7, 8, 9, 10, 11, 12, 13, 14, 15, 16, 17, 18, 19, 20, 21, 22] rfl rfl (by decide) (by decide) rfl (by decide) (fun H locs hP hD hS => ?_)
        refine lv_if_ne (tgt := 127) hx hb dX4_readRider_122 (by decide) (fun c_13 => ?_) (fun c_13 => ?_)
        · rw [if_neg c_13] at hf
          refine lv_aload_n hx hb dX4_readRider_127 rfl (lv_at hl 2 rfl) ?_
          refine lv_aload_n hx hb dX4_readRider_128 rfl (lv_at hl 0 rfl) ?_
          refine va_ldcS (tx := "looks") (q := dA (100 + 28)) hx hb hown (hE.2.2.2 ("BusSeats$Parser", 209, "looks", 28) (by decide)) dX4_readRider_129 ?_
          refine lv_iconst (v := (0 : Int32)) hx hb dX4_readRider_131 (by decide) ?_
          refine lv_bipush (v := (9 : Int32)) hx hb dX4_readRider_132 (by decide) ?_
          obtain ⟨r14, hc14, hf⟩ := kb_bind hf
          refine kb_ci (ws2 := (w_Parser dA a r14.2 ++ (w_Plan dA pa r12.2.2))) (kb_rV (n := 3) (As := [.ref (dA (100 + 28)), .int (0 : Int32), .int (9 : Int32)]) (rest := [.ref (pa (13 + i2))]) hx hb hml hown hK (c_X4_numberBehind l D dA H.size a r12.2.1 28 (by decide) (0 : Int32) (9 : Int32) r14.1 r14.2 hc14) ⟨ww_3_54, ww_3_51, ww_3_53, ws_7, ww_1_2, rfl, by decide, by decide⟩ rfl rfl (by decide +kernel) ⟨Nat.le_of_ble_eq_true rfl, Nat.le_of_ble_eq_true rfl⟩ hP hD hS hA hE [0, 1] rfl (by decide) 0 rfl rfl rfl hl.1 rfl (Nat.le_of_ble_eq_true rfl) dX4_readRider_134 ⟨Nat.le_of_ble_eq_true rfl, Nat.le_of_ble_eq_true rfl⟩) hP hD hS hA [0, 1] [2, 3, 4, 5, 6, 7, 8, 9, 10, 11, 12, 13, 14, 15, 16, 17, 18, 19, 20, 21, 22] [21, 22, 0, 1, 2, 3, 4, 5, 6, 7, 8, 9, 10, 11, 12, 13, 14, 15, 16, 17, 18, 19, 20] rfl rfl (by decide) (by decide) rfl (by decide) (fun H locs hP hD hS => ?_)
          refine va_put (D := D) (ci := 7) (v := .int r14.1) (ty := .int) (C := RX7) (T := TX7) (N := 10) hx hb hts kb_inX7 tyX7 tyX7_ok nmX7 hown hK.1 hP hD hS (2 + (13 + i2)) (kb_at rfl (at_Plan_13 dA pa r12.2.2 i2 hi2)) rfl 4 (by decide) (hK.2.w ww_1_175 rfl _) (fun _ h9 => h9) rfl (by decide +kernel) rfl rfl (Nat.le_of_ble_eq_true rfl) dX4_readRider_137 (fun H locs hP hD hS => ?_)
          have hP : va_P D vwCl (w_Parser dA a r14.2 ++ (w_Plan dA pa (pl_set_riders r12.2.2 (qr_set_looks (pl_riders r12.2.2) (upd (qr_looks (pl_riders r12.2.2)) (i2) r14.1))))) H := Eq.mp (congrArg (fun w => va_P D vwCl w H) (kb_sat rfl (st_Plan_13_4 dA pa r12.2.2 r14.1 (i2) hi2))) hP
          have hD : va_D A (w_Parser dA a r14.2 ++ (w_Plan dA pa (pl_set_riders r12.2.2 (qr_set_looks (pl_riders r12.2.2) (upd (qr_looks (pl_riders r12.2.2)) (i2) r14.1))))) := Eq.mp (congrArg (fun w => va_D A w) (kb_sat rfl (st_Plan_13_4 dA pa r12.2.2 r14.1 (i2) hi2))) hD
          exact B_140 _ _ _ _ _ _ hi2 hf hP hD hS (lv_sub hl [0, 1, 2] rfl)
        · rw [if_pos c_13] at hf
          refine lv_iconst (v := (0 : Int32)) hx hb dX4_readRider_125 (by decide) ?_
          exact RET _ _ _ H _ ls 126 hf hP hD hS (by decide) dX4_readRider_126
  have B_75 : ∀ (i2 : Nat) (z0 : ParserT) (z1 : PlanT) (H : Heap) (locs : List Loc) (ls : Array Slot), i2 < 8 → f_X4_readRider_b75 i2 z0 z1 = some (rv, u0, u1) → va_P D vwCl (w_Parser dA a z0 ++ (w_Plan dA pa z1)) H → va_D A (w_Parser dA a z0 ++ (w_Plan dA pa z1)) → va_S A s.heap H locs → lv_has ls 3 [(0, .ref (a 0)), (1, .ref (pa 0)), (2, .ref (pa (13 + i2)))] → W p l e ({ frames := 8, cells := 0, slots := 0, locals := 170 } : Room) s m ([.ref (a 0), .ref (pa 0)] : List Value).toArray below meth c H locs 0 0 Q (F0 m 75 ls []) := by
    intro i2 z0 z1 H locs ls hi2 hf hP hD hS hl
    rw [f_X4_readRider_b75] at hf
    refine lv_aload_n hx hb dX4_readRider_75 rfl (lv_at hl 0 rfl) ?_
    refine va_get (D := D) (ci := 4) (v := .int (ps_fault z0)) (C := RX4) (T := TX4) (N := 10) hx hb hts kb_inX4 hown hK.1 hP 0 rfl rfl 1 (by decide) (hK.2.w ww_1_41 rfl _) (fun _ h9 => h9) rfl dX4_readRider_76 ?_
    refine lv_if_ne (tgt := 100) hx hb dX4_readRider_79 (by decide) (fun c_8 => ?_) (fun c_8 => ?_)
    · rw [if_neg c_8] at hf
      exact B_100 _ _ _ _ _ _ hi2 hf hP hD hS (lv_sub hl [0, 1, 2] rfl)
    · rw [if_pos c_8] at hf
      refine lv_aload_n hx hb dX4_readRider_82 rfl (lv_at hl 2 rfl) ?_
      refine lv_aload_n hx hb dX4_readRider_83 rfl (lv_at hl 0 rfl) ?_
      refine va_ldcS (tx := "off") (q := dA (100 + 26)) hx hb hown (hE.2.2.2 ("BusSeats$Parser", 199, "off", 26) (by decide)) dX4_readRider_84 ?_
      refine lv_aload_n hx hb dX4_readRider_86 rfl (lv_at hl 2 rfl) ?_
      refine va_get (D := D) (ci := 7) (v := .int ((qr_on (pl_riders z1)) i2)) (C := RX7) (T := TX7) (N := 10) hx hb hts kb_inX7 hown hK.1 hP (2 + (13 + i2)) (kb_at rfl (at_Plan_13 dA pa z1 i2 hi2)) rfl 1 (by decide) (hK.2.w ww_1_165 rfl _) (fun _ h9 => h9) rfl dX4_readRider_87 ?_
      refine lv_iconst (v := (1 : Int32)) hx hb dX4_readRider_90 (by decide) ?_
      refine lv_iadd hx hb dX4_readRider_91 ?_
      refine lv_bipush (v := (11 : Int32)) hx hb dX4_readRider_92 (by decide) ?_
      obtain ⟨r22, hc22, hf⟩ := kb_bind hf
      refine kb_ci (ws2 := (w_Parser dA a r22.2 ++ (w_Plan dA pa z1))) (kb_rV (n := 3) (As := [.ref (dA (100 + 26)), .int (((qr_on (pl_riders z1)) i2) + (1 : Int32)), .int (11 : Int32)]) (rest := [.ref (pa (13 + i2))]) hx hb hml hown hK (c_X4_numberBehind l D dA H.size a z0 26 (by decide) (((qr_on (pl_riders z1)) i2) + (1 : Int32)) (11 : Int32) r22.1 r22.2 hc22) ⟨ww_3_54, ww_3_51, ww_3_53, ws_7, ww_1_2, rfl, by decide, by decide⟩ rfl rfl (by decide +kernel) ⟨Nat.le_of_ble_eq_true rfl, Nat.le_of_ble_eq_true rfl⟩ hP hD hS hA hE [0, 1] rfl (by decide) 0 rfl rfl rfl hl.1 rfl (Nat.le_of_ble_eq_true rfl) dX4_readRider_94 ⟨Nat.le_of_ble_eq_true rfl, Nat.le_of_ble_eq_true rfl⟩) hP hD hS hA [0, 1] [2, 3, 4, 5, 6, 7, 8, 9, 10, 11, 12, 13, 14, 15, 16, 17, 18, 19, 20, 21, 22] [21, 22, 0, 1, 2, 3, 4, 5, 6, 7, 8, 9, 10, 11, 12, 13, 14, 15, 16, 17, 18, 19, 20] rfl rfl (by decide) (by decide) rfl (by decide) (fun H locs hP hD hS => ?_)
      refine va_put (D := D) (ci := 7) (v := .int r22.1) (ty := .int) (C := RX7) (T := TX7) (N := 10) hx hb hts kb_inX7 tyX7 tyX7_ok nmX7 hown hK.1 hP hD hS (2 + (13 + i2)) (kb_at rfl (at_Plan_13 dA pa z1 i2 hi2)) rfl 2 (by decide) (hK.2.w ww_1_168 rfl _) (fun _ h9 => h9) rfl (by decide +kernel) rfl rfl (Nat.le_of_ble_eq_true rfl) dX4_readRider_97 (fun H locs hP hD hS => ?_)
      have hP : va_P D vwCl (w_Parser dA a r22.2 ++ (w_Plan dA pa (pl_set_riders z1 (qr_set_off (pl_riders z1) (upd (qr_off (pl_riders z1)) (i2) r22.1))))) H := Eq.mp (congrArg (fun w => va_P D vwCl w H) (kb_sat rfl (st_Plan_13_2 dA pa z1 r22.1 (i2) hi2))) hP
      have hD : va_D A (w_Parser dA a r22.2 ++ (w_Plan dA pa (pl_set_riders z1 (qr_set_off (pl_riders z1) (upd (qr_off (pl_riders z1)) (i2) r22.1))))) := Eq.mp (congrArg (fun w => va_D A w) (kb_sat rfl (st_Plan_13_2 dA pa z1 r22.1 (i2) hi2))) hD
      exact B_100 _ _ _ _ _ _ hi2 hf hP hD hS (lv_sub hl [0, 1, 2] rfl)
  have B_62 : ∀ (i2 : Nat) (z0 : ParserT) (z1 : PlanT) (H : Heap) (locs : List Loc) (ls : Array Slot), i2 < 8 → f_X4_readRider_b62 i2 z0 z1 = some (rv, u0, u1) → va_P D vwCl (w_Parser dA a z0 ++ (w_Plan dA pa z1)) H → va_D A (w_Parser dA a z0 ++ (w_Plan dA pa z1)) → va_S A s.heap H locs → lv_has ls 3 [(0, .ref (a 0)), (1, .ref (pa 0)), (2, .ref (pa (13 + i2)))] → W p l e ({ frames := 8, cells := 0, slots := 0, locals := 170 } : Room) s m ([.ref (a 0), .ref (pa 0)] : List Value).toArray below meth c H locs 0 0 Q (F0 m 62 ls []) := by
    intro i2 z0 z1 H locs ls hi2 hf hP hD hS hl
    rw [f_X4_readRider_b62] at hf
    refine lv_aload_n hx hb dX4_readRider_62 rfl (lv_at hl 2 rfl) ?_
    refine lv_aload_n hx hb dX4_readRider_63 rfl (lv_at hl 0 rfl) ?_
    refine va_ldcS (tx := "on") (q := dA (100 + 25)) hx hb hown (hE.2.2.2 ("BusSeats$Parser", 195, "on", 25) (by decide)) dX4_readRider_64 ?_
    refine lv_iconst (v := (0 : Int32)) hx hb dX4_readRider_66 (by decide) ?_
    refine lv_bipush (v := (10 : Int32)) hx hb dX4_readRider_67 (by decide) ?_
    obtain ⟨r7, hc7, hf⟩ := kb_bind hf
    refine kb_ci (ws2 := (w_Parser dA a r7.2 ++ (w_Plan dA pa z1))) (kb_rV (n := 3) (As := [.ref (dA (100 + 25)), .int (0 : Int32), .int (10 : Int32)]) (rest := [.ref (pa (13 + i2))]) hx hb hml hown hK (c_X4_numberBehind l D dA H.size a z0 25 (by decide) (0 : Int32) (10 : Int32) r7.1 r7.2 hc7) ⟨ww_3_54, ww_3_51, ww_3_53, ws_7, ww_1_2, rfl, by decide, by decide⟩ rfl rfl (by decide +kernel) ⟨Nat.le_of_ble_eq_true rfl, Nat.le_of_ble_eq_true rfl⟩ hP hD hS hA hE [0, 1] rfl (by decide) 0 rfl rfl rfl hl.1 rfl (Nat.le_of_ble_eq_true rfl) dX4_readRider_69 ⟨Nat.le_of_ble_eq_true rfl, Nat.le_of_ble_eq_true rfl⟩) hP hD hS hA [0, 1] [2, 3, 4, 5, 6, 7, 8, 9, 10, 11, 12, 13, 14, 15, 16, 17, 18, 19, 20, 21, 22] [21, 22, 0, 1, 2, 3, 4, 5, 6, 7, 8, 9, 10, 11, 12, 13, 14, 15, 16, 17, 18, 19, 20] rfl rfl (by decide) (by decide) rfl (by decide) (fun H locs hP hD hS => ?_)
    refine va_put (D := D) (ci := 7) (v := .int r7.1) (ty := .int) (C := RX7) (T := TX7) (N := 10) hx hb hts kb_inX7 tyX7 tyX7_ok nmX7 hown hK.1 hP hD hS (2 + (13 + i2)) (kb_at rfl (at_Plan_13 dA pa z1 i2 hi2)) rfl 1 (by decide) (hK.2.w ww_1_165 rfl _) (fun _ h9 => h9) rfl (by decide +kernel) rfl rfl (Nat.le_of_ble_eq_true rfl) dX4_readRider_72 (fun H locs hP hD hS => ?_)
    have hP : va_P D vwCl (w_Parser dA a r7.2 ++ (w_Plan dA pa (pl_set_riders z1 (qr_set_on (pl_riders z1) (upd (qr_on (pl_riders z1)) (i2) r7.1))))) H := Eq.mp (congrArg (fun w => va_P D vwCl w H) (kb_sat rfl (st_Plan_13_1 dA pa z1 r7.1 (i2) hi2))) hP
    have hD : va_D A (w_Parser dA a r7.2 ++ (w_Plan dA pa (pl_set_riders z1 (qr_set_on (pl_riders z1) (upd (qr_on (pl_riders z1)) (i2) r7.1))))) := Eq.mp (congrArg (fun w => va_D A w) (kb_sat rfl (st_Plan_13_1 dA pa z1 r7.1 (i2) hi2))) hD
    exact B_75 _ _ _ _ _ _ hi2 hf hP hD hS (lv_sub hl [0, 1, 2] rfl)
  have B_53 : ∀ (i2 : Nat) (z0 : ParserT) (z1 : PlanT) (H : Heap) (locs : List Loc) (ls : Array Slot), i2 < 8 → f_X4_readRider_b53 i2 z0 z1 = some (rv, u0, u1) → va_P D vwCl (w_Parser dA a z0 ++ (w_Plan dA pa z1)) H → va_D A (w_Parser dA a z0 ++ (w_Plan dA pa z1)) → va_S A s.heap H locs → lv_has ls 3 [(0, .ref (a 0)), (1, .ref (pa 0)), (2, .ref (pa (13 + i2)))] → W p l e ({ frames := 8, cells := 0, slots := 0, locals := 170 } : Room) s m ([.ref (a 0), .ref (pa 0)] : List Value).toArray below meth c H locs 0 0 Q (F0 m 53 ls []) := by
    intro i2 z0 z1 H locs ls hi2 hf hP hD hS hl
    rw [f_X4_readRider_b53] at hf
    refine lv_aload_n hx hb dX4_readRider_53 rfl (lv_at hl 2 rfl) ?_
    refine lv_iconst (v := (0 : Int32)) hx hb dX4_readRider_54 (by decide) ?_
    refine va_put (D := D) (ci := 7) (v := .int (0 : Int32)) (ty := .int) (C := RX7) (T := TX7) (N := 10) hx hb hts kb_inX7 tyX7 tyX7_ok nmX7 hown hK.1 hP hD hS (2 + (13 + i2)) (kb_at rfl (at_Plan_13 dA pa z1 i2 hi2)) rfl 9 (by decide) (hK.2.w ww_1_189 rfl _) (fun _ h9 => h9) rfl (by decide +kernel) rfl rfl (Nat.le_of_ble_eq_true rfl) dX4_readRider_55 (fun H locs hP hD hS => ?_)
    have hP : va_P D vwCl (w_Parser dA a z0 ++ (w_Plan dA pa (pl_set_riders z1 (qr_set_friends (pl_riders z1) (upd (qr_friends (pl_riders z1)) (i2) (0 : Int32)))))) H := Eq.mp (congrArg (fun w => va_P D vwCl w H) (kb_sat rfl (st_Plan_13_9 dA pa z1 (0 : Int32) (i2) hi2))) hP
    have hD : va_D A (w_Parser dA a z0 ++ (w_Plan dA pa (pl_set_riders z1 (qr_set_friends (pl_riders z1) (upd (qr_friends (pl_riders z1)) (i2) (0 : Int32)))))) := Eq.mp (congrArg (fun w => va_D A w) (kb_sat rfl (st_Plan_13_9 dA pa z1 (0 : Int32) (i2) hi2))) hD
    refine lv_aload_n hx hb dX4_readRider_58 rfl (lv_at hl 0 rfl) ?_
    obtain ⟨r6, hc6, hf⟩ := kb_bind hf
    refine kb_cv (ws2 := (w_Parser dA a r6 ++ (w_Plan dA pa (pl_set_riders z1 (qr_set_friends (pl_riders z1) (upd (qr_friends (pl_riders z1)) (i2) (0 : Int32))))))) (kb_rV (n := 0) (As := []) (rest := []) hx hb hml hown hK (c_X4_advance l D dA H.size a z0 r6 hc6) ⟨ww_2_219, ww_2_216, ww_2_218, ws_1, ww_1_2, rfl, by decide, by decide⟩ rfl rfl (by decide +kernel) ⟨Nat.le_of_ble_eq_true rfl, Nat.le_of_ble_eq_true rfl⟩ hP hD hS hA hE [0, 1] rfl (by decide) 0 rfl rfl rfl hl.1 rfl (Nat.le_of_ble_eq_true rfl) dX4_readRider_59 ⟨Nat.le_of_ble_eq_true rfl, Nat.le_of_ble_eq_true rfl⟩) hP hD hS hA [0, 1] [2, 3, 4, 5, 6, 7, 8, 9, 10, 11, 12, 13, 14, 15, 16, 17, 18, 19, 20, 21, 22] [21, 22, 0, 1, 2, 3, 4, 5, 6, 7, 8, 9, 10, 11, 12, 13, 14, 15, 16, 17, 18, 19, 20] rfl rfl (by decide) (by decide) rfl (by decide) (fun H locs hP hD hS => ?_)
    exact B_62 _ _ _ _ _ _ hi2 hf hP hD hS (lv_sub hl [0, 1, 2] rfl)
  have E0 : ∀ (H : Heap) (locs : List Loc), va_P D vwCl (w_Parser dA a ps ++ (w_Plan dA pa pl)) H → va_D A (w_Parser dA a ps ++ (w_Plan dA pa pl)) → va_S A s.heap H locs → W p l e ({ frames := 8, cells := 0, slots := 0, locals := 170 } : Room) s m ([.ref (a 0), .ref (pa 0)] : List Value).toArray below meth c H locs 0 0 Q (F0 m 0 ls []) := by
    intro H locs hP hD hS
    rw [f_X4_readRider] at hf
    refine lv_aload_n hx hb dX4_readRider_0 rfl (lv_at hl 1 rfl) ?_
    refine va_get (D := D) (ci := 5) (v := .int (pl_riderCount pl)) (C := RX5) (T := TX5) (N := 8) hx hb hts kb_inX5 hown hK.1 hP 2 rfl rfl 5 (by decide) (hK.2.w ww_1_237 rfl _) (fun _ h9 => h9) rfl dX4_readRider_1 ?_
    refine lv_bipush (v := (8 : Int32)) hx hb dX4_readRider_4 (by decide) ?_
    refine lv_icmp_lt (tgt := 15) hx hb dX4_readRider_6 (by decide) (fun c_1 => ?_) (fun c_1 => ?_)
    · rw [if_pos c_1] at hf
      refine lv_aload_n hx hb dX4_readRider_15 rfl (lv_at hl 0 rfl) ?_
      obtain ⟨r2, hc2, hf⟩ := kb_bind hf
      refine kb_cv (ws2 := (w_Parser dA a r2 ++ (w_Plan dA pa pl))) (kb_rV (n := 0) (As := []) (rest := []) hx hb hml hown hK (c_X4_advance l D dA H.size a ps r2 hc2) ⟨ww_2_219, ww_2_216, ww_2_218, ws_1, ww_1_2, rfl, by decide, by decide⟩ rfl rfl (by decide +kernel) ⟨Nat.le_of_ble_eq_true rfl, Nat.le_of_ble_eq_true rfl⟩ hP hD hS hA hE [0, 1] rfl (by decide) 0 rfl rfl rfl hl.1 rfl (Nat.le_of_ble_eq_true rfl) dX4_readRider_16 ⟨Nat.le_of_ble_eq_true rfl, Nat.le_of_ble_eq_true rfl⟩) hP hD hS hA [0, 1] [2, 3, 4, 5, 6, 7, 8, 9, 10, 11, 12, 13, 14, 15, 16, 17, 18, 19, 20, 21, 22] [21, 22, 0, 1, 2, 3, 4, 5, 6, 7, 8, 9, 10, 11, 12, 13, 14, 15, 16, 17, 18, 19, 20] rfl rfl (by decide) (by decide) rfl (by decide) (fun H locs hP hD hS => ?_)
      refine lv_aload_n hx hb dX4_readRider_19 rfl (lv_at hl 0 rfl) ?_
      refine lv_aload_n hx hb dX4_readRider_20 rfl (lv_at hl 1 rfl) ?_
      obtain ⟨r3, hc3, hf⟩ := kb_bind hf
      refine kb_ci (ws2 := (w_Parser dA a r3.2 ++ (w_Plan dA pa pl))) (kb_rV (n := 1) (As := [.ref (pa 0)]) (rest := []) hx hb hml hown hK (c_X4_isFresh l D dA H.size a pa r2 pl r3.1 r3.2 hc3) ⟨ww_3_93, ww_3_90, ww_3_92, ws_12, ww_1_2, rfl, by decide, by decide⟩ rfl rfl (by decide +kernel) ⟨Nat.le_of_ble_eq_true rfl, Nat.le_of_ble_eq_true rfl⟩ hP hD hS hA hE [0, 1, 2, 3, 4, 5, 6, 7, 8, 9, 10, 11, 12, 13, 14, 15, 16, 17, 18, 19, 20, 21, 22] rfl (by decide) 0 rfl rfl rfl hl.1 rfl (Nat.le_of_ble_eq_true rfl) dX4_readRider_21 ⟨Nat.le_of_ble_eq_true rfl, Nat.le_of_ble_eq_true rfl⟩) hP hD hS hA [0, 1, 2, 3, 4, 5, 6, 7, 8, 9, 10, 11, 12, 13, 14, 15, 16, 17, 18, 19, 20, 21, 22] [] [0, 1, 2, 3, 4, 5, 6, 7, 8, 9, 10, 11, 12, 13, 14, 15, 16, 17, 18, 19, 20, 21, 22] rfl rfl (by decide) (by decide) rfl (by decide) (fun H locs hP hD hS => ?_)
      refine lv_if_ne (tgt := 29) hx hb dX4_readRider_24 (by decide) (fun c_4 => ?_) (fun c_4 => ?_)
      · rw [if_neg c_4] at hf
        refine lv_aload_n hx hb dX4_readRider_29 rfl (lv_at hl 1 rfl) ?_
        refine va_get (D := D) (ci := 5) (v := .ref (pa 12)) (C := RX5) (T := TX5) (N := 8) hx hb hts kb_inX5 hown hK.1 hP 2 rfl rfl 2 (by decide) (hK.2.w ww_1_225 rfl _) (fun _ h9 => h9) rfl dX4_readRider_30 ?_
        refine lv_aload_n hx hb dX4_readRider_33 rfl (lv_at hl 1 rfl) ?_
        refine va_get (D := D) (ci := 5) (v := .int (pl_riderCount pl)) (C := RX5) (T := TX5) (N := 8) hx hb hts kb_inX5 hown hK.1 hP 2 rfl rfl 5 (by decide) (hK.2.w ww_1_237 rfl _) (fun _ h9 => h9) rfl dX4_readRider_34 ?_
        obtain ⟨h_5, hf⟩ := kb_if hf
        refine va_aldq (D := D) hx hb hK.1 hP 14 5 rfl rfl h_5 dX4_readRider_37 ?_
        show W p l e ({ frames := 8, cells := 0, slots := 0, locals := 170 } : Room) s m ([.ref (a 0), .ref (pa 0)] : List Value).toArray below meth c _ _ 0 0 Q (F0 m 38 _ [.ref (pa (13 + ((pl_riderCount pl)).toNatClampNeg))])
        refine lv_astore_n (lv' := [(2, .ref (pa (13 + ((pl_riderCount pl)).toNatClampNeg))), (0, .ref (a 0)), (1, .ref (pa 0))]) hx hb dX4_readRider_38 rfl hl (by decide) rfl (fun ls hl => ?_)
        refine lv_aload_n hx hb dX4_readRider_39 rfl (lv_at hl 0 rfl) ?_
        refine lv_aload_n hx hb dX4_readRider_40 rfl (lv_at hl 1 rfl) ?_
        refine va_get (D := D) (ci := 4) (v := .long (ps_word r3.2)) (C := RX4) (T := TX4) (N := 10) hx hb hts kb_inX4 hown hK.1 hP 0 rfl rfl 9 (by decide) (hK.2.w ww_1_51 rfl _) (fun _ h9 => h9) rfl dX4_readRider_41 ?_
        refine va_put (D := D) (ci := 7) (v := .long (ps_word r3.2)) (ty := .long) (C := RX7) (T := TX7) (N := 10) hx hb hts kb_inX7 tyX7 tyX7_ok nmX7 hown hK.1 hP hD hS (2 + (13 + ((pl_riderCount pl)).toNatClampNeg)) (kb_at rfl (at_Plan_13 dA pa pl ((pl_riderCount pl)).toNatClampNeg (kb_inlt h_5))) rfl 0 (by decide) (hK.2.w ww_1_162 rfl _) (fun _ h9 => h9) rfl (by decide +kernel) rfl rfl (Nat.le_of_ble_eq_true rfl) dX4_readRider_44 (fun H locs hP hD hS => ?_)
        have hP : va_P D vwCl (w_Parser dA a r3.2 ++ (w_Plan dA pa (pl_set_riders pl (qr_set_name (pl_riders pl) (vp_updL (qr_name (pl_riders pl)) (((pl_riderCount pl)).toNatClampNeg) (ps_word r3.2)))))) H := Eq.mp (congrArg (fun w => va_P D vwCl w H) (kb_sat rfl (st_Plan_13_0 dA pa pl (ps_word r3.2) (((pl_riderCount pl)).toNatClampNeg) (kb_inlt h_5)))) hP
        have hD : va_D A (w_Parser dA a r3.2 ++ (w_Plan dA pa (pl_set_riders pl (qr_set_name (pl_riders pl) (vp_updL (qr_name (pl_riders pl)) (((pl_riderCount pl)).toNatClampNeg) (ps_word r3.2)))))) := Eq.mp (congrArg (fun w => va_D A w) (kb_sat rfl (st_Plan_13_0 dA pa pl (ps_word r3.2) (((pl_riderCount pl)).toNatClampNeg) (kb_inlt h_5)))) hD
        refine lv_aload_n hx hb dX4_readRider_47 rfl (lv_at hl 0 rfl) ?_
        refine lv_bipush (v := (-2 : Int32)) hx hb dX4_readRider_48 (by decide) ?_
        refine va_put (D := D) (ci := 7) (v := .int (-2 : Int32)) (ty := .int) (C := RX7) (T := TX7) (N := 10) hx hb hts kb_inX7 tyX7 tyX7_ok nmX7 hown hK.1 hP hD hS (2 + (13 + ((pl_riderCount pl)).toNatClampNeg)) (kb_at rfl (at_Plan_13 dA pa (pl_set_riders pl (qr_set_name (pl_riders pl) (vp_updL (qr_name (pl_riders pl)) (((pl_riderCount pl)).toNatClampNeg) (ps_word r3.2)))) ((pl_riderCount pl)).toNatClampNeg (kb_inlt h_5))) rfl 8 (by decide) (hK.2.w ww_1_186 rfl _) (fun _ h9 => h9) rfl (by decide +kernel) rfl rfl (Nat.le_of_ble_eq_true rfl) dX4_readRider_50 (fun H locs hP hD hS => ?_)
        have hP : va_P D vwCl (w_Parser dA a r3.2 ++ (w_Plan dA pa (pl_set_riders (pl_set_riders pl (qr_set_name (pl_riders pl) (vp_updL (qr_name (pl_riders pl)) (((pl_riderCount pl)).toNatClampNeg) (ps_word r3.2)))) (qr_set_held (pl_riders (pl_set_riders pl (qr_set_name (pl_riders pl) (vp_updL (qr_name (pl_riders pl)) (((pl_riderCount pl)).toNatClampNeg) (ps_word r3.2))))) (upd (qr_held (pl_riders (pl_set_riders pl (qr_set_name (pl_riders pl) (vp_updL (qr_name (pl_riders pl)) (((pl_riderCount pl)).toNatClampNeg) (ps_word r3.2)))))) (((pl_riderCount pl)).toNatClampNeg) (-2 : Int32)))))) H := Eq.mp (congrArg (fun w => va_P D vwCl w H) (kb_sat rfl (st_Plan_13_8 dA pa (pl_set_riders pl (qr_set_name (pl_riders pl) (vp_updL (qr_name (pl_riders pl)) (((pl_riderCount pl)).toNatClampNeg) (ps_word r3.2)))) (-2 : Int32) (((pl_riderCount pl)).toNatClampNeg) (kb_inlt h_5)))) hP
        have hD : va_D A (w_Parser dA a r3.2 ++ (w_Plan dA pa (pl_set_riders (pl_set_riders pl (qr_set_name (pl_riders pl) (vp_updL (qr_name (pl_riders pl)) (((pl_riderCount pl)).toNatClampNeg) (ps_word r3.2)))) (qr_set_held (pl_riders (pl_set_riders pl (qr_set_name (pl_riders pl) (vp_updL (qr_name (pl_riders pl)) (((pl_riderCount pl)).toNatClampNeg) (ps_word r3.2))))) (upd (qr_held (pl_riders (pl_set_riders pl (qr_set_name (pl_riders pl) (vp_updL (qr_name (pl_riders pl)) (((pl_riderCount pl)).toNatClampNeg) (ps_word r3.2)))))) (((pl_riderCount pl)).toNatClampNeg) (-2 : Int32)))))) := Eq.mp (congrArg (fun w => va_D A w) (kb_sat rfl (st_Plan_13_8 dA pa (pl_set_riders pl (qr_set_name (pl_riders pl) (vp_updL (qr_name (pl_riders pl)) (((pl_riderCount pl)).toNatClampNeg) (ps_word r3.2)))) (-2 : Int32) (((pl_riderCount pl)).toNatClampNeg) (kb_inlt h_5)))) hD
        exact B_53 _ _ _ _ _ _ (kb_inlt h_5) hf hP hD hS (lv_sub hl [1, 2, 0] rfl)
      · rw [if_pos c_4] at hf
        refine lv_iconst (v := (0 : Int32)) hx hb dX4_readRider_27 (by decide) ?_
        exact RET _ _ _ H _ ls 28 hf hP hD hS (by decide) dX4_readRider_28
    · rw [if_neg c_1] at hf
      refine lv_aload_n hx hb dX4_readRider_9 rfl (lv_at hl 0 rfl) ?_
      refine lv_iconst (v := (5 : Int32)) hx hb dX4_readRider_10 (by decide) ?_
      obtain ⟨r23, hc23, hf⟩ := kb_bind hf
      refine kb_ci (ws2 := (w_Parser dA a r23.2 ++ (w_Plan dA pa pl))) (kb_rV (n := 1) (As := [.int (5 : Int32)]) (rest := []) hx hb hml hown hK (c_X4_failed l D dA H.size a ps (5 : Int32) r23.1 r23.2 hc23) ⟨ww_3_49, ww_3_46, ww_3_48, ws_6, ww_1_2, rfl, by decide, by decide⟩ rfl rfl (by decide +kernel) ⟨Nat.le_of_ble_eq_true rfl, Nat.le_of_ble_eq_true rfl⟩ hP hD hS hA hE [0, 1] rfl (by decide) 0 rfl rfl rfl hl.1 rfl (Nat.le_of_ble_eq_true rfl) dX4_readRider_11 ⟨Nat.le_of_ble_eq_true rfl, Nat.le_of_ble_eq_true rfl⟩) hP hD hS hA [0, 1] [2, 3, 4, 5, 6, 7, 8, 9, 10, 11, 12, 13, 14, 15, 16, 17, 18, 19, 20, 21, 22] [21, 22, 0, 1, 2, 3, 4, 5, 6, 7, 8, 9, 10, 11, 12, 13, 14, 15, 16, 17, 18, 19, 20] rfl rfl (by decide) (by decide) rfl (by decide) (fun H locs hP hD hS => ?_)
      obtain ⟨h_24, hf⟩ := kb_if hf
      exact RET _ _ _ H _ ls 14 hf hP hD hS h_24 dX4_readRider_14
  exact E0 _ _ hP hD hS

noncomputable def f_X4_readFriends_b87 (z0 : ParserT) (z1 : PlanT) : Option (Int32 × ParserT × PlanT) := (f_X4_failed z0 (3 : Int32)).bind fun r11 => if kb_01 r11.1 then some (r11.1, r11.2, z1) else none
noncomputable def f_X4_readFriends_b141 (z0 : ParserT) (z1 : PlanT) : Option (Int32 × ParserT × PlanT) := some ((1 : Int32), z0, z1)
noncomputable def f_X4_readFriends_b127 (z0 : ParserT) (z1 : PlanT) : Option (Int32 × ParserT × PlanT) := (f_X4_advance z0).bind fun r18 => f_X4_readFriends_b141 r18 (pl_set_friendCount z1 ((pl_friendCount z1) + (1 : Int32)))
noncomputable def f_X4_readFriends_b59 (v2 : Int32) (v3 : Int32) (z0 : ParserT) (z1 : PlanT) : Option (Int32 × ParserT × PlanT) := (if v3 = (-1 : Int32) then some ((0 : Int32), z0, z1) else (if v2 = v3 then f_X4_readFriends_b87 z0 z1 else if kb_in? v2 8 then (f_X10_holdsBit ((qr_friends (pl_riders z1)) (v2).toNatClampNeg) v3).bind fun r14 => (if r14 = 0 then if kb_in? v2 8 then if kb_in? v3 8 then f_X4_readFriends_b127 z0 (pl_set_riders (pl_set_riders z1 (qr_set_friends (pl_riders z1) (upd (qr_friends (pl_riders z1)) ((v2).toNatClampNeg) (((qr_friends (pl_riders z1)) (v2).toNatClampNeg) ||| ((1 : Int32) <<< (v3 &&& 31)))))) (qr_set_friends (pl_riders (pl_set_riders z1 (qr_set_friends (pl_riders z1) (upd (qr_friends (pl_riders z1)) ((v2).toNatClampNeg) (((qr_friends (pl_riders z1)) (v2).toNatClampNeg) ||| ((1 : Int32) <<< (v3 &&& 31))))))) (upd (qr_friends (pl_riders (pl_set_riders z1 (qr_set_friends (pl_riders z1) (upd (qr_friends (pl_riders z1)) ((v2).toNatClampNeg) (((qr_friends (pl_riders z1)) (v2).toNatClampNeg) ||| ((1 : Int32) <<< (v3 &&& 31)))))))) ((v3).toNatClampNeg) (((qr_friends (pl_riders (pl_set_riders z1 (qr_set_friends (pl_riders z1) (upd (qr_friends (pl_riders z1)) ((v2).toNatClampNeg) (((qr_friends (pl_riders z1)) (v2).toNatClampNeg) ||| ((1 : Int32) <<< (v3 &&& 31)))))))) (v3).toNatClampNeg) ||| ((1 : Int32) <<< (v2 &&& 31)))))) else none else none else f_X4_readFriends_b87 z0 z1) else none))
noncomputable def f_X4_readFriends_b24 (v2 : Int32) (z0 : ParserT) (z1 : PlanT) : Option (Int32 × ParserT × PlanT) := (if v2 = (-1 : Int32) then some ((0 : Int32), z0, z1) else (f_X4_advance z0).bind fun r5 => (if (ps_kind r5) = (4 : Int32) then (f_X4_advance r5).bind fun r7 => (f_X4_knownRider r7 z1).bind fun r8 => f_X4_readFriends_b59 v2 r8.1 r8.2 z1 else (f_X4_failed r5 (1 : Int32)).bind fun r19 => if kb_01 r19.1 then some (r19.1, r19.2, z1) else none))
noncomputable def f_X4_readFriends (ps : ParserT) (pl : PlanT) : Option (Int32 × ParserT × PlanT) := (if (pl_friendCount pl) < (3 : Int32) then (f_X4_advance ps).bind fun r2 => (f_X4_knownRider r2 pl).bind fun r3 => f_X4_readFriends_b24 r3.1 r3.2 pl else (f_X4_failed ps (5 : Int32)).bind fun r21 => if kb_01 r21.1 then some (r21.1, r21.2, pl) else none)
set_option maxHeartbeats 4000000 in
set_option maxRecDepth 100000 in
theorem c_X4_readFriends (l : Launch) (D : va_G) (dA : Nat → ClassId) (sz : Nat) (a : Nat → Nat) (pa : Nat → Nat) (ps : ParserT) (pl : PlanT) (rv : Int32) (u0 : ParserT) (u1 : PlanT) (hf : f_X4_readFriends ps pl = some (rv, u0, u1)) : kb_Mi l yX4_readFriends cX4_readFriends 4 (some .boolean) ({ frames := 8, cells := 0, slots := 0, locals := 170 } : Room) D dA [.ref (a 0), .ref (pa 0)] sz (w_Parser dA a ps ++ (w_Plan dA pa pl)) 0 0 rv (w_Parser dA a u0 ++ (w_Plan dA pa u1)) := by
  refine Met.ofW (cc := cX4_readFriends) (maxL := 4) (ret := (some .boolean)) (by decide) rfl ?_
  intro p e s m args below meth c s₁ B hml hv
  obtain ⟨rfl, hsz, hP, hK, hD0, hE⟩ := hv
  have hx := B.exec
  have hb := B.bytes
  have hr := B.returns
  have hown : s.vm.findClass RX4 = some m.cls := findClass_of_methodNamed B.named
  have hlocks := B.notSynchronized
  have hts : ∀ w ∈ kb_gw, w.before ([.ref (a 0), .ref (pa 0)] : List Value).toArray s = true := fun w hw => hK.2.1 w hw _
  subst hsz
  have hD := hD0.self (sz := s.heap.size)
  generalize hAe : va_A (w_Parser dA a ps ++ (w_Plan dA pa pl)) s.heap.size = A at hD hE ⊢
  have hA : ∀ q : Nat, s.heap.size ≤ q → A q := fun q h => by rw [← hAe]; exact Or.inr h
  have hS : va_S A s.heap s.heap [] := va_S.rf
  have hl := lv_entry ([.ref (a 0), .ref (pa 0)]) (n := 4) (Nat.le_of_ble_eq_true rfl)
  rw [lg_entry_eq]
  generalize (lg_sl ([.ref (a 0), .ref (pa 0)]) ++ List.replicate (4 - (lg_sl ([.ref (a 0), .ref (pa 0)])).length) Slot.unset).toArray = ls at hl ⊢
  have hl : lv_has ls 4 [(0, .ref (a 0)), (1, .ref (pa 0))] := hl
  generalize hQ : MQ below (va_Qi (fun r (_ : Unit) => r = rv) (kb_B D A (w_Parser dA a u0 ++ (w_Plan dA pa u1))) A) ([.ref (a 0), .ref (pa 0)] : List Value).toArray s 0 0 A = Q
  show W p l e ({ frames := 8, cells := 0, slots := 0, locals := 170 } : Room) s m ([.ref (a 0), .ref (pa 0)] : List Value).toArray below meth c s.heap [] 0 0 Q (F0 m 0 ls [])
  have RET : ∀ (r2 : Int32) (w0 : ParserT) (w1 : PlanT) (H : Heap) (locs : List Loc) (ls : Array Slot) (pc : Nat), some (r2, w0, w1) = some (rv, u0, u1) → va_P D vwCl (w_Parser dA a w0 ++ (w_Plan dA pa w1)) H → va_D A (w_Parser dA a w0 ++ (w_Plan dA pa w1)) → va_S A s.heap H locs → kb_01 r2 → decode cX4_readFriends pc = .ok (.ireturn, 1) → W p l e ({ frames := 8, cells := 0, slots := 0, locals := 170 } : Room) s m ([.ref (a 0), .ref (pa 0)] : List Value).toArray below meth c H locs 0 0 Q (F0 m pc ls [.int r2]) := by
    intro r2 w0 w1 H locs ls pc hq hP hD hS h01 hd
    cases hq
    rw [← hQ]
    exact W.zret (ty := .boolean) hx hb hr (kb_nz h01) (fun t ht hW => ⟨⟨_, (), rfl, rfl, by rw [ht]; exact hP, hD⟩, hS.F ht⟩) hS.2.2 hd
  have B_87 : ∀ (z0 : ParserT) (z1 : PlanT) (H : Heap) (locs : List Loc) (ls : Array Slot), f_X4_readFriends_b87 z0 z1 = some (rv, u0, u1) → va_P D vwCl (w_Parser dA a z0 ++ (w_Plan dA pa z1)) H → va_D A (w_Parser dA a z0 ++ (w_Plan dA pa z1)) → va_S A s.heap H locs → lv_has ls 4 [(0, .ref (a 0))] → W p l e ({ frames := 8, cells := 0, slots := 0, locals := 170 } : Room) s m ([.ref (a 0), .ref (pa 0)] : List Value).toArray below meth c H locs 0 0 Q (F0 m 87 ls []) := by
    intro z0 z1 H locs ls hf hP hD hS hl
    rw [f_X4_readFriends_b87] at hf
    refine lv_aload_n hx hb dX4_readFriends_87 rfl (lv_at hl 0 rfl) ?_
    refine lv_iconst (v := (3 : Int32)) hx hb dX4_readFriends_88 (by decide) ?_
    obtain ⟨r11, hc11, hf⟩ := kb_bind hf
    refine kb_ci (ws2 := (w_Parser dA a r11.2 ++ (w_Plan dA pa z1))) (kb_rV (n := 1) (As := [.int (3 : Int32)]) (rest := []) hx hb hml hown hK (c_X4_failed l D dA H.size a z0 (3 : Int32) r11.1 r11.2 hc11) ⟨ww_3_49, ww_3_46, ww_3_48, ws_6, ww_1_2, rfl, by decide, by decide⟩ rfl rfl (by decide +kernel) ⟨Nat.le_of_ble_eq_true rfl, Nat.le_of_ble_eq_true rfl⟩ hP hD hS hA hE [0, 1] rfl (by decide) 0 rfl rfl rfl hl.1 rfl (Nat.le_of_ble_eq_true rfl) dX4_readFriends_89 ⟨Nat.le_of_ble_eq_true rfl, Nat.le_of_ble_eq_true rfl⟩) hP hD hS hA [0, 1] [2, 3, 4, 5, 6, 7, 8, 9, 10, 11, 12, 13, 14, 15, 16, 17, 18, 19, 20, 21, 22] [21, 22, 0, 1, 2, 3, 4, 5, 6, 7, 8, 9, 10, 11, 12, 13, 14, 15, 16, 17, 18, 19, 20] rfl rfl (by decide) (by decide) rfl (by decide) (fun H locs hP hD hS => ?_)
    obtain ⟨h_12, hf⟩ := kb_if hf
    exact RET _ _ _ H _ ls 92 hf hP hD hS h_12 dX4_readFriends_92
  have B_141 : ∀ (z0 : ParserT) (z1 : PlanT) (H : Heap) (locs : List Loc) (ls : Array Slot), f_X4_readFriends_b141 z0 z1 = some (rv, u0, u1) → va_P D vwCl (w_Parser dA a z0 ++ (w_Plan dA pa z1)) H → va_D A (w_Parser dA a z0 ++ (w_Plan dA pa z1)) → va_S A s.heap H locs → lv_has ls 4 [] → W p l e ({ frames := 8, cells := 0, slots := 0, locals := 170 } : Room) s m ([.ref (a 0), .ref (pa 0)] : List Value).toArray below meth c H locs 0 0 Q (F0 m 141 ls []) := by
    intro z0 z1 H locs ls hf hP hD hS hl
    rw [f_X4_readFriends_b141] at hf
    refine lv_iconst (v := (1 : Int32)) hx hb dX4_readFriends_141 (by decide) ?_
    exact RET _ _ _ H _ ls 142 hf hP hD hS (by decide) dX4_readFriends_142
  have B_127 : ∀ (z0 : ParserT) (z1 : PlanT) (H : Heap) (locs : List Loc) (ls : Array Slot), f_X4_readFriends_b127 z0 z1 = some (rv, u0, u1) → va_P D vwCl (w_Parser dA a z0 ++ (w_Plan dA pa z1)) H → va_D A (w_Parser dA a z0 ++ (w_Plan dA pa z1)) → va_S A s.heap H locs → lv_has ls 4 [(0, .ref (a 0)), (1, .ref (pa 0))] → W p l e ({ frames := 8, cells := 0, slots := 0, locals := 170 } : Room) s m ([.ref (a 0), .ref (pa 0)] : List Value).toArray below meth c H locs 0 0 Q (F0 m 127 ls []) := by
    intro z0 z1 H locs ls hf hP hD hS hl
    rw [f_X4_readFriends_b127] at hf
    refine lv_aload_n hx hb dX4_readFriends_127 rfl (lv_at hl 1 rfl) ?_
    refine lv_dup hx hb dX4_readFriends_128 rfl ?_
    refine va_get (D := D) (ci := 5) (v := .int (pl_friendCount z1)) (C := RX5) (T := TX5) (N := 8) hx hb hts kb_inX5 hown hK.1 hP 2 rfl rfl 6 (by decide) (hK.2.w ww_1_239 rfl _) (fun _ h9 => h9) rfl dX4_readFriends_129 ?_
    refine lv_iconst (v := (1 : Int32)) hx hb dX4_readFriends_132 (by decide) ?_
    refine lv_iadd hx hb dX4_readFriends_133 ?_
    refine va_put (D := D) (ci := 5) (v := .int ((pl_friendCount z1) + (1 : Int32))) (ty := .int) (C := RX5) (T := TX5) (N := 8) hx hb hts kb_inX5 tyX5 tyX5_ok nmX5 hown hK.1 hP hD hS 2 rfl rfl 6 (by decide) (hK.2.w ww_1_239 rfl _) (fun _ h9 => h9) rfl (by decide +kernel) rfl rfl (Nat.le_of_ble_eq_true rfl) dX4_readFriends_134 (fun H locs hP hD hS => ?_)
    have hP : va_P D vwCl (w_Parser dA a z0 ++ (w_Plan dA pa (pl_set_friendCount z1 ((pl_friendCount z1) + (1 : Int32))))) H := hP
    have hD : va_D A (w_Parser dA a z0 ++ (w_Plan dA pa (pl_set_friendCount z1 ((pl_friendCount z1) + (1 : Int32))))) := hD
    refine lv_aload_n hx hb dX4_readFriends_137 rfl (lv_at hl 0 rfl) ?_
    obtain ⟨r18, hc18, hf⟩ := kb_bind hf
    refine kb_cv (ws2 := (w_Parser dA a r18 ++ (w_Plan dA pa (pl_set_friendCount z1 ((pl_friendCount z1) + (1 : Int32)))))) (kb_rV (n := 0) (As := []) (rest := []) hx hb hml hown hK (c_X4_advance l D dA H.size a z0 r18 hc18) ⟨ww_2_219, ww_2_216, ww_2_218, ws_1, ww_1_2, rfl, by decide, by decide⟩ rfl rfl (by decide +kernel) ⟨Nat.le_of_ble_eq_true rfl, Nat.le_of_ble_eq_true rfl⟩ hP hD hS hA hE [0, 1] rfl (by decide) 0 rfl rfl rfl hl.1 rfl (Nat.le_of_ble_eq_true rfl) dX4_readFriends_138 ⟨Nat.le_of_ble_eq_true rfl, Nat.le_of_ble_eq_true rfl⟩) hP hD hS hA [0, 1] [2, 3, 4, 5, 6, 7, 8, 9, 10, 11, 12, 13, 14, 15, 16, 17, 18, 19, 20, 21, 22] [21, 22, 0, 1, 2, 3, 4, 5, 6, 7, 8, 9, 10, 11, 12, 13, 14, 15, 16, 17, 18, 19, 20] rfl rfl (by decide) (by decide) rfl (by decide) (fun H locs hP hD hS => ?_)
    exact B_141 _ _ _ _ _ hf hP hD hS (lv_sub hl [] rfl)
  have B_59 : ∀ (v2 : Int32) (v3 : Int32) (z0 : ParserT) (z1 : PlanT) (H : Heap) (locs : List Loc) (ls : Array Slot), f_X4_readFriends_b59 v2 v3 z0 z1 = some (rv, u0, u1) → va_P D vwCl (w_Parser dA a z0 ++ (w_Plan dA pa z1)) H → va_D A (w_Parser dA a z0 ++ (w_Plan dA pa z1)) → va_S A s.heap H locs → lv_has ls 4 [(0, .ref (a 0)), (1, .ref (pa 0)), (2, .int v2), (3, .int v3)] → W p l e ({ frames := 8, cells := 0, slots := 0, locals := 170 } : Room) s m ([.ref (a 0), .ref (pa 0)] : List Value).toArray below meth c H locs 0 0 Q (F0 m 59 ls []) := by
    intro v2 v3 z0 z1 H locs ls hf hP hD hS hl
    rw [f_X4_readFriends_b59] at hf
    refine lv_iload_n hx hb dX4_readFriends_59 rfl (lv_at hl 3 rfl) ?_
    refine lv_iconst (v := (-1 : Int32)) hx hb dX4_readFriends_60 (by decide) ?_
    refine lv_icmp_ne (tgt := 66) hx hb dX4_readFriends_61 (by decide) (fun c_9 => ?_) (fun c_9 => ?_)
    · rw [if_neg c_9] at hf
      refine lv_iload_n hx hb dX4_readFriends_66 rfl (lv_at hl 2 rfl) ?_
      refine lv_iload_n hx hb dX4_readFriends_67 rfl (lv_at hl 3 rfl) ?_
      refine lv_icmp_eq (tgt := 87) hx hb dX4_readFriends_68 (by decide) (fun c_10 => ?_) (fun c_10 => ?_)
      · rw [if_pos c_10] at hf
        exact B_87 _ _ _ _ _ hf hP hD hS (lv_sub hl [0] rfl)
      · rw [if_neg c_10] at hf
        refine lv_aload_n hx hb dX4_readFriends_71 rfl (lv_at hl 1 rfl) ?_
        refine va_get (D := D) (ci := 5) (v := .ref (pa 12)) (C := RX5) (T := TX5) (N := 8) hx hb hts kb_inX5 hown hK.1 hP 2 rfl rfl 2 (by decide) (hK.2.w ww_1_225 rfl _) (fun _ h9 => h9) rfl dX4_readFriends_72 ?_
        refine lv_iload_n hx hb dX4_readFriends_75 rfl (lv_at hl 2 rfl) ?_
        obtain ⟨h_13, hf⟩ := kb_if hf
        refine va_aldq (D := D) hx hb hK.1 hP 14 5 rfl rfl h_13 dX4_readFriends_76 ?_
        show W p l e ({ frames := 8, cells := 0, slots := 0, locals := 170 } : Room) s m ([.ref (a 0), .ref (pa 0)] : List Value).toArray below meth c _ _ 0 0 Q (F0 m 77 _ [.ref (pa (13 + (v2).toNatClampNeg))])
        refine va_get (D := D) (ci := 7) (v := .int ((qr_friends (pl_riders z1)) (v2).toNatClampNeg)) (C := RX7) (T := TX7) (N := 10) hx hb hts kb_inX7 hown hK.1 hP (2 + (13 + (v2).toNatClampNeg)) (kb_at rfl (at_Plan_13 dA pa z1 (v2).toNatClampNeg (kb_inlt h_13))) rfl 9 (by decide) (hK.2.w ww_1_189 rfl _) (fun _ h9 => h9) rfl dX4_readFriends_77 ?_
        refine lv_iload_n hx hb dX4_readFriends_80 rfl (lv_at hl 3 rfl) ?_
        obtain ⟨r14, hc14, hf⟩ := kb_bind hf
        refine kb_ci (ws2 := (w_Parser dA a z0 ++ (w_Plan dA pa z1))) (kb_rSN (n := 2) (As := [.int ((qr_friends (pl_riders z1)) (v2).toNatClampNeg), .int v3]) (rest := []) hx hb hml hown hK (c_X10_holdsBit l D dA H.size ((qr_friends (pl_riders z1)) (v2).toNatClampNeg) v3 r14 hc14) ⟨ww_3_158, ww_3_156, ww_3_157, ww_1_1, by decide, by decide⟩ rfl rfl (by decide +kernel) ⟨Nat.le_of_ble_eq_true rfl, Nat.le_of_ble_eq_true rfl⟩ hP hD hS hA hE [] rfl (by decide) rfl hl.1 rfl (Nat.le_of_ble_eq_true rfl) dX4_readFriends_81 ⟨Nat.le_of_ble_eq_true rfl, Nat.le_of_ble_eq_true rfl⟩) hP hD hS hA [] [0, 1, 2, 3, 4, 5, 6, 7, 8, 9, 10, 11, 12, 13, 14, 15, 16, 17, 18, 19, 20, 21, 22] [0, 1, 2, 3, 4, 5, 6, 7, 8, 9, 10, 11, 12, 13, 14, 15, 16, 17, 18, 19, 20, 21, 22] rfl rfl (by decide) (by decide) rfl (by decide) (fun H locs hP hD hS => ?_)
        refine lv_if_eq (tgt := 93) hx hb dX4_readFriends_84 (by decide) (fun c_15 => ?_) (fun c_15 => ?_)
        · rw [if_pos c_15] at hf
          refine lv_aload_n hx hb dX4_readFriends_93 rfl (lv_at hl 1 rfl) ?_
          refine va_get (D := D) (ci := 5) (v := .ref (pa 12)) (C := RX5) (T := TX5) (N := 8) hx hb hts kb_inX5 hown hK.1 hP 2 rfl rfl 2 (by decide) (hK.2.w ww_1_225 rfl _) (fun _ h9 => h9) rfl dX4_readFriends_94 ?_
          refine lv_iload_n hx hb dX4_readFriends_97 rfl (lv_at hl 2 rfl) ?_
          obtain ⟨h_16, hf⟩ := kb_if hf
          refine va_aldq (D := D) hx hb hK.1 hP 14 5 rfl rfl h_16 dX4_readFriends_98 ?_
          show W p l e ({ frames := 8, cells := 0, slots := 0, locals := 170 } : Room) s m ([.ref (a 0), .ref (pa 0)] : List Value).toArray below meth c _ _ 0 0 Q (F0 m 99 _ [.ref (pa (13 + (v2).toNatClampNeg))])
          refine lv_dup hx hb dX4_readFriends_99 rfl ?_
          refine va_get (D := D) (ci := 7) (v := .int ((qr_friends (pl_riders z1)) (v2).toNatClampNeg)) (C := RX7) (T := TX7) (N := 10) hx hb hts kb_inX7 hown hK.1 hP (2 + (13 + (v2).toNatClampNeg)) (kb_at rfl (at_Plan_13 dA pa z1 (v2).toNatClampNeg (kb_inlt h_16))) rfl 9 (by decide) (hK.2.w ww_1_189 rfl _) (fun _ h9 => h9) rfl dX4_readFriends_100 ?_
          refine lv_iconst (v := (1 : Int32)) hx hb dX4_readFriends_103 (by decide) ?_
          refine lv_iload_n hx hb dX4_readFriends_104 rfl (lv_at hl 3 rfl) ?_
          refine lv_ishl hx hb dX4_readFriends_105 ?_
          refine lv_ior hx hb dX4_readFriends_106 ?_
          refine va_put (D := D) (ci := 7) (v := .int (((qr_friends (pl_riders z1)) (v2).toNatClampNeg) ||| ((1 : Int32) <<< (v3 &&& 31)))) (ty := .int) (C := RX7) (T := TX7) (N := 10) hx hb hts kb_inX7 tyX7 tyX7_ok nmX7 hown hK.1 hP hD hS (2 + (13 + (v2).toNatClampNeg)) (kb_at rfl (at_Plan_13 dA pa z1 (v2).toNatClampNeg (kb_inlt h_16))) rfl 9 (by decide) (hK.2.w ww_1_189 rfl _) (fun _ h9 => h9) rfl (by decide +kernel) rfl rfl (Nat.le_of_ble_eq_true rfl) dX4_readFriends_107 (fun H locs hP hD hS => ?_)
          have hP : va_P D vwCl (w_Parser dA a z0 ++ (w_Plan dA pa (pl_set_riders z1 (qr_set_friends (pl_riders z1) (upd (qr_friends (pl_riders z1)) ((v2).toNatClampNeg) (((qr_friends (pl_riders z1)) (v2).toNatClampNeg) ||| ((1 : Int32) <<< (v3 &&& 31)))))))) H := Eq.mp (congrArg (fun w => va_P D vwCl w H) (kb_sat rfl (st_Plan_13_9 dA pa z1 (((qr_friends (pl_riders z1)) (v2).toNatClampNeg) ||| ((1 : Int32) <<< (v3 &&& 31))) ((v2).toNatClampNeg) (kb_inlt h_16)))) hP
          have hD : va_D A (w_Parser dA a z0 ++ (w_Plan dA pa (pl_set_riders z1 (qr_set_friends (pl_riders z1) (upd (qr_friends (pl_riders z1)) ((v2).toNatClampNeg) (((qr_friends (pl_riders z1)) (v2).toNatClampNeg) ||| ((1 : Int32) <<< (v3 &&& 31)))))))) := Eq.mp (congrArg (fun w => va_D A w) (kb_sat rfl (st_Plan_13_9 dA pa z1 (((qr_friends (pl_riders z1)) (v2).toNatClampNeg) ||| ((1 : Int32) <<< (v3 &&& 31))) ((v2).toNatClampNeg) (kb_inlt h_16)))) hD
          refine lv_aload_n hx hb dX4_readFriends_110 rfl (lv_at hl 1 rfl) ?_
          refine va_get (D := D) (ci := 5) (v := .ref (pa 12)) (C := RX5) (T := TX5) (N := 8) hx hb hts kb_inX5 hown hK.1 hP 2 rfl rfl 2 (by decide) (hK.2.w ww_1_225 rfl _) (fun _ h9 => h9) rfl dX4_readFriends_111 ?_
          refine lv_iload_n hx hb dX4_readFriends_114 rfl (lv_at hl 3 rfl) ?_
          obtain ⟨h_17, hf⟩ := kb_if hf
          refine va_aldq (D := D) hx hb hK.1 hP 14 5 rfl rfl h_17 dX4_readFriends_115 ?_
          show W p l e ({ frames := 8, cells := 0, slots := 0, locals := 170 } : Room) s m ([.ref (a 0), .ref (pa 0)] : List Value).toArray below meth c _ _ 0 0 Q (F0 m 116 _ [.ref (pa (13 + (v3).toNatClampNeg))])
          refine lv_dup hx hb dX4_readFriends_116 rfl ?_
          refine va_get (D := D) (ci := 7) (v := .int ((qr_friends (pl_riders (pl_set_riders z1 (qr_set_friends (pl_riders z1) (upd (qr_friends (pl_riders z1)) ((v2).toNatClampNeg) (((qr_friends (pl_riders z1)) (v2).toNatClampNeg) ||| ((1 : Int32) <<< (v3 &&& 31)))))))) (v3).toNatClampNeg)) (C := RX7) (T := TX7) (N := 10) hx hb hts kb_inX7 hown hK.1 hP (2 + (13 + (v3).toNatClampNeg)) (kb_at rfl (at_Plan_13 dA pa (pl_set_riders z1 (qr_set_friends (pl_riders z1) (upd (qr_friends (pl_riders z1)) ((v2).toNatClampNeg) (((qr_friends (pl_riders z1)) (v2).toNatClampNeg) ||| ((1 : Int32) <<< (v3 &&& 31)))))) (v3).toNatClampNeg (kb_inlt h_17))) rfl 9 (by decide) (hK.2.w ww_1_189 rfl _) (fun _ h9 => h9) rfl dX4_readFriends_117 ?_
          refine lv_iconst (v := (1 : Int32)) hx hb dX4_readFriends_120 (by decide) ?_
          refine lv_iload_n hx hb dX4_readFriends_121 rfl (lv_at hl 2 rfl) ?_
          refine lv_ishl hx hb dX4_readFriends_122 ?_
          refine lv_ior hx hb dX4_readFriends_123 ?_
          refine va_put (D := D) (ci := 7) (v := .int (((qr_friends (pl_riders (pl_set_riders z1 (qr_set_friends (pl_riders z1) (upd (qr_friends (pl_riders z1)) ((v2).toNatClampNeg) (((qr_friends (pl_riders z1)) (v2).toNatClampNeg) ||| ((1 : Int32) <<< (v3 &&& 31)))))))) (v3).toNatClampNeg) ||| ((1 : Int32) <<< (v2 &&& 31)))) (ty := .int) (C := RX7) (T := TX7) (N := 10) hx hb hts kb_inX7 tyX7 tyX7_ok nmX7 hown hK.1 hP hD hS (2 + (13 + (v3).toNatClampNeg)) (kb_at rfl (at_Plan_13 dA pa (pl_set_riders z1 (qr_set_friends (pl_riders z1) (upd (qr_friends (pl_riders z1)) ((v2).toNatClampNeg) (((qr_friends (pl_riders z1)) (v2).toNatClampNeg) ||| ((1 : Int32) <<< (v3 &&& 31)))))) (v3).toNatClampNeg (kb_inlt h_17))) rfl 9 (by decide) (hK.2.w ww_1_189 rfl _) (fun _ h9 => h9) rfl (by decide +kernel) rfl rfl (Nat.le_of_ble_eq_true rfl) dX4_readFriends_124 (fun H locs hP hD hS => ?_)
          have hP : va_P D vwCl (w_Parser dA a z0 ++ (w_Plan dA pa (pl_set_riders (pl_set_riders z1 (qr_set_friends (pl_riders z1) (upd (qr_friends (pl_riders z1)) ((v2).toNatClampNeg) (((qr_friends (pl_riders z1)) (v2).toNatClampNeg) ||| ((1 : Int32) <<< (v3 &&& 31)))))) (qr_set_friends (pl_riders (pl_set_riders z1 (qr_set_friends (pl_riders z1) (upd (qr_friends (pl_riders z1)) ((v2).toNatClampNeg) (((qr_friends (pl_riders z1)) (v2).toNatClampNeg) ||| ((1 : Int32) <<< (v3 &&& 31))))))) (upd (qr_friends (pl_riders (pl_set_riders z1 (qr_set_friends (pl_riders z1) (upd (qr_friends (pl_riders z1)) ((v2).toNatClampNeg) (((qr_friends (pl_riders z1)) (v2).toNatClampNeg) ||| ((1 : Int32) <<< (v3 &&& 31)))))))) ((v3).toNatClampNeg) (((qr_friends (pl_riders (pl_set_riders z1 (qr_set_friends (pl_riders z1) (upd (qr_friends (pl_riders z1)) ((v2).toNatClampNeg) (((qr_friends (pl_riders z1)) (v2).toNatClampNeg) ||| ((1 : Int32) <<< (v3 &&& 31)))))))) (v3).toNatClampNeg) ||| ((1 : Int32) <<< (v2 &&& 31)))))))) H := Eq.mp (congrArg (fun w => va_P D vwCl w H) (kb_sat rfl (st_Plan_13_9 dA pa (pl_set_riders z1 (qr_set_friends (pl_riders z1) (upd (qr_friends (pl_riders z1)) ((v2).toNatClampNeg) (((qr_friends (pl_riders z1)) (v2).toNatClampNeg) ||| ((1 : Int32) <<< (v3 &&& 31)))))) (((qr_friends (pl_riders (pl_set_riders z1 (qr_set_friends (pl_riders z1) (upd (qr_friends (pl_riders z1)) ((v2).toNatClampNeg) (((qr_friends (pl_riders z1)) (v2).toNatClampNeg) ||| ((1 : Int32) <<< (v3 &&& 31)))))))) (v3).toNatClampNeg) ||| ((1 : Int32) <<< (v2 &&& 31))) ((v3).toNatClampNeg) (kb_inlt h_17)))) hP
          have hD : va_D A (w_Parser dA a z0 ++ (w_Plan dA pa (pl_set_riders (pl_set_riders z1 (qr_set_friends (pl_riders z1) (upd (qr_friends (pl_riders z1)) ((v2).toNatClampNeg) (((qr_friends (pl_riders z1)) (v2).toNatClampNeg) ||| ((1 : Int32) <<< (v3 &&& 31)))))) (qr_set_friends (pl_riders (pl_set_riders z1 (qr_set_friends (pl_riders z1) (upd (qr_friends (pl_riders z1)) ((v2).toNatClampNeg) (((qr_friends (pl_riders z1)) (v2).toNatClampNeg) ||| ((1 : Int32) <<< (v3 &&& 31))))))) (upd (qr_friends (pl_riders (pl_set_riders z1 (qr_set_friends (pl_riders z1) (upd (qr_friends (pl_riders z1)) ((v2).toNatClampNeg) (((qr_friends (pl_riders z1)) (v2).toNatClampNeg) ||| ((1 : Int32) <<< (v3 &&& 31)))))))) ((v3).toNatClampNeg) (((qr_friends (pl_riders (pl_set_riders z1 (qr_set_friends (pl_riders z1) (upd (qr_friends (pl_riders z1)) ((v2).toNatClampNeg) (((qr_friends (pl_riders z1)) (v2).toNatClampNeg) ||| ((1 : Int32) <<< (v3 &&& 31)))))))) (v3).toNatClampNeg) ||| ((1 : Int32) <<< (v2 &&& 31)))))))) := Eq.mp (congrArg (fun w => va_D A w) (kb_sat rfl (st_Plan_13_9 dA pa (pl_set_riders z1 (qr_set_friends (pl_riders z1) (upd (qr_friends (pl_riders z1)) ((v2).toNatClampNeg) (((qr_friends (pl_riders z1)) (v2).toNatClampNeg) ||| ((1 : Int32) <<< (v3 &&& 31)))))) (((qr_friends (pl_riders (pl_set_riders z1 (qr_set_friends (pl_riders z1) (upd (qr_friends (pl_riders z1)) ((v2).toNatClampNeg) (((qr_friends (pl_riders z1)) (v2).toNatClampNeg) ||| ((1 : Int32) <<< (v3 &&& 31)))))))) (v3).toNatClampNeg) ||| ((1 : Int32) <<< (v2 &&& 31))) ((v3).toNatClampNeg) (kb_inlt h_17)))) hD
          exact B_127 _ _ _ _ _ hf hP hD hS (lv_sub hl [0, 1] rfl)
        · rw [if_neg c_15] at hf
          exact B_87 _ _ _ _ _ hf hP hD hS (lv_sub hl [0] rfl)
    · rw [if_pos c_9] at hf
      refine lv_iconst (v := (0 : Int32)) hx hb dX4_readFriends_64 (by decide) ?_
      exact RET _ _ _ H _ ls 65 hf hP hD hS (by decide) dX4_readFriends_65
  have B_24 : ∀ (v2 : Int32) (z0 : ParserT) (z1 : PlanT) (H : Heap) (locs : List Loc) (ls : Array Slot), f_X4_readFriends_b24 v2 z0 z1 = some (rv, u0, u1) → va_P D vwCl (w_Parser dA a z0 ++ (w_Plan dA pa z1)) H → va_D A (w_Parser dA a z0 ++ (w_Plan dA pa z1)) → va_S A s.heap H locs → lv_has ls 4 [(0, .ref (a 0)), (1, .ref (pa 0)), (2, .int v2)] → W p l e ({ frames := 8, cells := 0, slots := 0, locals := 170 } : Room) s m ([.ref (a 0), .ref (pa 0)] : List Value).toArray below meth c H locs 0 0 Q (F0 m 24 ls []) := by
    intro v2 z0 z1 H locs ls hf hP hD hS hl
    rw [f_X4_readFriends_b24] at hf
    refine lv_iload_n hx hb dX4_readFriends_24 rfl (lv_at hl 2 rfl) ?_
    refine lv_iconst (v := (-1 : Int32)) hx hb dX4_readFriends_25 (by decide) ?_
    refine lv_icmp_ne (tgt := 31) hx hb dX4_readFriends_26 (by decide) (fun c_4 => ?_) (fun c_4 => ?_)
    · rw [if_neg c_4] at hf
      refine lv_aload_n hx hb dX4_readFriends_31 rfl (lv_at hl 0 rfl) ?_
      obtain ⟨r5, hc5, hf⟩ := kb_bind hf
      refine kb_cv (ws2 := (w_Parser dA a r5 ++ (w_Plan dA pa z1))) (kb_rV (n := 0) (As := []) (rest := []) hx hb hml hown hK (c_X4_advance l D dA H.size a z0 r5 hc5) ⟨ww_2_219, ww_2_216, ww_2_218, ws_1, ww_1_2, rfl, by decide, by decide⟩ rfl rfl (by decide +kernel) ⟨Nat.le_of_ble_eq_true rfl, Nat.le_of_ble_eq_true rfl⟩ hP hD hS hA hE [0, 1] rfl (by decide) 0 rfl rfl rfl hl.1 rfl (Nat.le_of_ble_eq_true rfl) dX4_readFriends_32 ⟨Nat.le_of_ble_eq_true rfl, Nat.le_of_ble_eq_true rfl⟩) hP hD hS hA [0, 1] [2, 3, 4, 5, 6, 7, 8, 9, 10, 11, 12, 13, 14, 15, 16, 17, 18, 19, 20, 21, 22] [21, 22, 0, 1, 2, 3, 4, 5, 6, 7, 8, 9, 10, 11, 12, 13, 14, 15, 16, 17, 18, 19, 20] rfl rfl (by decide) (by decide) rfl (by decide) (fun H locs hP hD hS => ?_)
      refine lv_aload_n hx hb dX4_readFriends_35 rfl (lv_at hl 0 rfl) ?_
      refine va_get (D := D) (ci := 4) (v := .int (ps_kind r5)) (C := RX4) (T := TX4) (N := 10) hx hb hts kb_inX4 hown hK.1 hP 0 rfl rfl 6 (by decide) (hK.2.w ww_1_48 rfl _) (fun _ h9 => h9) rfl dX4_readFriends_36 ?_
      refine lv_iconst (v := (4 : Int32)) hx hb dX4_readFriends_39 (by decide) ?_
      refine lv_icmp_eq (tgt := 49) hx hb dX4_readFriends_40 (by decide) (fun c_6 => ?_) (fun c_6 => ?_)
      · rw [if_pos c_6] at hf
        refine lv_aload_n hx hb dX4_readFriends_49 rfl (lv_at hl 0 rfl) ?_
        obtain ⟨r7, hc7, hf⟩ := kb_bind hf
        refine kb_cv (ws2 := (w_Parser dA a r7 ++ (w_Plan dA pa z1))) (kb_rV (n := 0) (As := []) (rest := []) hx hb hml hown hK (c_X4_advance l D dA H.size a r5 r7 hc7) ⟨ww_2_219, ww_2_216, ww_2_218, ws_1, ww_1_2, rfl, by decide, by decide⟩ rfl rfl (by decide +kernel) ⟨Nat.le_of_ble_eq_true rfl, Nat.le_of_ble_eq_true rfl⟩ hP hD hS hA hE [0, 1] rfl (by decide) 0 rfl rfl rfl hl.1 rfl (Nat.le_of_ble_eq_true rfl) dX4_readFriends_50 ⟨Nat.le_of_ble_eq_true rfl, Nat.le_of_ble_eq_true rfl⟩) hP hD hS hA [0, 1] [2, 3, 4, 5, 6, 7, 8, 9, 10, 11, 12, 13, 14, 15, 16, 17, 18, 19, 20, 21, 22] [21, 22, 0, 1, 2, 3, 4, 5, 6, 7, 8, 9, 10, 11, 12, 13, 14, 15, 16, 17, 18, 19, 20] rfl rfl (by decide) (by decide) rfl (by decide) (fun H locs hP hD hS => ?_)
        refine lv_aload_n hx hb dX4_readFriends_53 rfl (lv_at hl 0 rfl) ?_
        refine lv_aload_n hx hb dX4_readFriends_54 rfl (lv_at hl 1 rfl) ?_
        obtain ⟨r8, hc8, hf⟩ := kb_bind hf
        refine kb_ci (ws2 := (w_Parser dA a r8.2 ++ (w_Plan dA pa z1))) (kb_rV (n := 1) (As := [.ref (pa 0)]) (rest := []) hx hb hml hown hK (c_X4_knownRider l D dA H.size a pa r7 z1 r8.1 r8.2 hc8) ⟨ww_3_155, ww_3_152, ww_3_154, ws_19, ww_1_2, rfl, by decide, by decide⟩ rfl rfl (by decide +kernel) ⟨Nat.le_of_ble_eq_true rfl, Nat.le_of_ble_eq_true rfl⟩ hP hD hS hA hE [0, 1, 2, 3, 4, 5, 6, 7, 8, 9, 10, 11, 12, 13, 14, 15, 16, 17, 18, 19, 20, 21, 22] rfl (by decide) 0 rfl rfl rfl hl.1 rfl (Nat.le_of_ble_eq_true rfl) dX4_readFriends_55 ⟨Nat.le_of_ble_eq_true rfl, Nat.le_of_ble_eq_true rfl⟩) hP hD hS hA [0, 1, 2, 3, 4, 5, 6, 7, 8, 9, 10, 11, 12, 13, 14, 15, 16, 17, 18, 19, 20, 21, 22] [] [0, 1, 2, 3, 4, 5, 6, 7, 8, 9, 10, 11, 12, 13, 14, 15, 16, 17, 18, 19, 20, 21, 22] rfl rfl (by decide) (by decide) rfl (by decide) (fun H locs hP hD hS => ?_)
        refine lv_istore_n (lv' := [(3, .int r8.1), (0, .ref (a 0)), (1, .ref (pa 0)), (2, .int v2)]) hx hb dX4_readFriends_58 rfl hl (by decide) rfl (fun ls hl => ?_)
        exact B_59 _ _ _ _ _ _ _ hf hP hD hS (lv_sub hl [1, 2, 3, 0] rfl)
      · rw [if_neg c_6] at hf
        refine lv_aload_n hx hb dX4_readFriends_43 rfl (lv_at hl 0 rfl) ?_
        refine lv_iconst (v := (1 : Int32)) hx hb dX4_readFriends_44 (by decide) ?_
        obtain ⟨r19, hc19, hf⟩ := kb_bind hf
        refine kb_ci (ws2 := (w_Parser dA a r19.2 ++ (w_Plan dA pa z1))) (kb_rV (n := 1) (As := [.int (1 : Int32)]) (rest := []) hx hb hml hown hK (c_X4_failed l D dA H.size a r5 (1 : Int32) r19.1 r19.2 hc19) ⟨ww_3_49, ww_3_46, ww_3_48, ws_6, ww_1_2, rfl, by decide, by decide⟩ rfl rfl (by decide +kernel) ⟨Nat.le_of_ble_eq_true rfl, Nat.le_of_ble_eq_true rfl⟩ hP hD hS hA hE [0, 1] rfl (by decide) 0 rfl rfl rfl hl.1 rfl (Nat.le_of_ble_eq_true rfl) dX4_readFriends_45 ⟨Nat.le_of_ble_eq_true rfl, Nat.le_of_ble_eq_true rfl⟩) hP hD hS hA [0, 1] [2, 3, 4, 5, 6, 7, 8, 9, 10, 11, 12, 13, 14, 15, 16, 17, 18, 19, 20, 21, 22] [21, 22, 0, 1, 2, 3, 4, 5, 6, 7, 8, 9, 10, 11, 12, 13, 14, 15, 16, 17, 18, 19, 20] rfl rfl (by decide) (by decide) rfl (by decide) (fun H locs hP hD hS => ?_)
        obtain ⟨h_20, hf⟩ := kb_if hf
        exact RET _ _ _ H _ ls 48 hf hP hD hS h_20 dX4_readFriends_48
    · rw [if_pos c_4] at hf
      refine lv_iconst (v := (0 : Int32)) hx hb dX4_readFriends_29 (by decide) ?_
      exact RET _ _ _ H _ ls 30 hf hP hD hS (by decide) dX4_readFriends_30
  have E0 : ∀ (H : Heap) (locs : List Loc), va_P D vwCl (w_Parser dA a ps ++ (w_Plan dA pa pl)) H → va_D A (w_Parser dA a ps ++ (w_Plan dA pa pl)) → va_S A s.heap H locs → W p l e ({ frames := 8, cells := 0, slots := 0, locals := 170 } : Room) s m ([.ref (a 0), .ref (pa 0)] : List Value).toArray below meth c H locs 0 0 Q (F0 m 0 ls []) := by
    intro H locs hP hD hS
    rw [f_X4_readFriends] at hf
    refine lv_aload_n hx hb dX4_readFriends_0 rfl (lv_at hl 1 rfl) ?_
    refine va_get (D := D) (ci := 5) (v := .int (pl_friendCount pl)) (C := RX5) (T := TX5) (N := 8) hx hb hts kb_inX5 hown hK.1 hP 2 rfl rfl 6 (by decide) (hK.2.w ww_1_239 rfl _) (fun _ h9 => h9) rfl dX4_readFriends_1 ?_
    refine lv_iconst (v := (3 : Int32)) hx hb dX4_readFriends_4 (by decide) ?_
    refine lv_icmp_lt (tgt := 14) hx hb dX4_readFriends_5 (by decide) (fun c_1 => ?_) (fun c_1 => ?_)
    · rw [if_pos c_1] at hf
      refine lv_aload_n hx hb dX4_readFriends_14 rfl (lv_at hl 0 rfl) ?_
      obtain ⟨r2, hc2, hf⟩ := kb_bind hf
      refine kb_cv (ws2 := (w_Parser dA a r2 ++ (w_Plan dA pa pl))) (kb_rV (n := 0) (As := []) (rest := []) hx hb hml hown hK (c_X4_advance l D dA H.size a ps r2 hc2) ⟨ww_2_219, ww_2_216, ww_2_218, ws_1, ww_1_2, rfl, by decide, by decide⟩ rfl rfl (by decide +kernel) ⟨Nat.le_of_ble_eq_true rfl, Nat.le_of_ble_eq_true rfl⟩ hP hD hS hA hE [0, 1] rfl (by decide) 0 rfl rfl rfl hl.1 rfl (Nat.le_of_ble_eq_true rfl) dX4_readFriends_15 ⟨Nat.le_of_ble_eq_true rfl, Nat.le_of_ble_eq_true rfl⟩) hP hD hS hA [0, 1] [2, 3, 4, 5, 6, 7, 8, 9, 10, 11, 12, 13, 14, 15, 16, 17, 18, 19, 20, 21, 22] [21, 22, 0, 1, 2, 3, 4, 5, 6, 7, 8, 9, 10, 11, 12, 13, 14, 15, 16, 17, 18, 19, 20] rfl rfl (by decide) (by decide) rfl (by decide) (fun H locs hP hD hS => ?_)
      refine lv_aload_n hx hb dX4_readFriends_18 rfl (lv_at hl 0 rfl) ?_
      refine lv_aload_n hx hb dX4_readFriends_19 rfl (lv_at hl 1 rfl) ?_
      obtain ⟨r3, hc3, hf⟩ := kb_bind hf
      refine kb_ci (ws2 := (w_Parser dA a r3.2 ++ (w_Plan dA pa pl))) (kb_rV (n := 1) (As := [.ref (pa 0)]) (rest := []) hx hb hml hown hK (c_X4_knownRider l D dA H.size a pa r2 pl r3.1 r3.2 hc3) ⟨ww_3_155, ww_3_152, ww_3_154, ws_19, ww_1_2, rfl, by decide, by decide⟩ rfl rfl (by decide +kernel) ⟨Nat.le_of_ble_eq_true rfl, Nat.le_of_ble_eq_true rfl⟩ hP hD hS hA hE [0, 1, 2, 3, 4, 5, 6, 7, 8, 9, 10, 11, 12, 13, 14, 15, 16, 17, 18, 19, 20, 21, 22] rfl (by decide) 0 rfl rfl rfl hl.1 rfl (Nat.le_of_ble_eq_true rfl) dX4_readFriends_20 ⟨Nat.le_of_ble_eq_true rfl, Nat.le_of_ble_eq_true rfl⟩) hP hD hS hA [0, 1, 2, 3, 4, 5, 6, 7, 8, 9, 10, 11, 12, 13, 14, 15, 16, 17, 18, 19, 20, 21, 22] [] [0, 1, 2, 3, 4, 5, 6, 7, 8, 9, 10, 11, 12, 13, 14, 15, 16, 17, 18, 19, 20, 21, 22] rfl rfl (by decide) (by decide) rfl (by decide) (fun H locs hP hD hS => ?_)
      refine lv_istore_n (lv' := [(2, .int r3.1), (0, .ref (a 0)), (1, .ref (pa 0))]) hx hb dX4_readFriends_23 rfl hl (by decide) rfl (fun ls hl => ?_)
      exact B_24 _ _ _ _ _ _ hf hP hD hS (lv_sub hl [1, 2, 0] rfl)
    · rw [if_neg c_1] at hf
      refine lv_aload_n hx hb dX4_readFriends_8 rfl (lv_at hl 0 rfl) ?_
      refine lv_iconst (v := (5 : Int32)) hx hb dX4_readFriends_9 (by decide) ?_
      obtain ⟨r21, hc21, hf⟩ := kb_bind hf
      refine kb_ci (ws2 := (w_Parser dA a r21.2 ++ (w_Plan dA pa pl))) (kb_rV (n := 1) (As := [.int (5 : Int32)]) (rest := []) hx hb hml hown hK (c_X4_failed l D dA H.size a ps (5 : Int32) r21.1 r21.2 hc21) ⟨ww_3_49, ww_3_46, ww_3_48, ws_6, ww_1_2, rfl, by decide, by decide⟩ rfl rfl (by decide +kernel) ⟨Nat.le_of_ble_eq_true rfl, Nat.le_of_ble_eq_true rfl⟩ hP hD hS hA hE [0, 1] rfl (by decide) 0 rfl rfl rfl hl.1 rfl (Nat.le_of_ble_eq_true rfl) dX4_readFriends_10 ⟨Nat.le_of_ble_eq_true rfl, Nat.le_of_ble_eq_true rfl⟩) hP hD hS hA [0, 1] [2, 3, 4, 5, 6, 7, 8, 9, 10, 11, 12, 13, 14, 15, 16, 17, 18, 19, 20, 21, 22] [21, 22, 0, 1, 2, 3, 4, 5, 6, 7, 8, 9, 10, 11, 12, 13, 14, 15, 16, 17, 18, 19, 20] rfl rfl (by decide) (by decide) rfl (by decide) (fun H locs hP hD hS => ?_)
      obtain ⟨h_22, hf⟩ := kb_if hf
      exact RET _ _ _ H _ ls 13 hf hP hD hS h_22 dX4_readFriends_13
  exact E0 _ _ hP hD hS

noncomputable def f_X4_readHolder_b119 (z0 : ParserT) (z1 : PlanT) : Option (Int32 × ParserT × PlanT) := some ((1 : Int32), z0, z1)
noncomputable def f_X4_readHolder_b83 (v2 : Int32) (v3 : Int32) (s0 : Int32) (z0 : ParserT) (z1 : PlanT) : Option (Int32 × ParserT × PlanT) := (if (ps_fault z0) = 0 then if kb_in? v2 8 then f_X4_readHolder_b119 z0 (pl_set_holderCount (pl_set_riders z1 (qr_set_held (pl_riders z1) (upd (qr_held (pl_riders z1)) ((v2).toNatClampNeg) (((4 : Int32) * v3) + s0)))) ((pl_holderCount (pl_set_riders z1 (qr_set_held (pl_riders z1) (upd (qr_held (pl_riders z1)) ((v2).toNatClampNeg) (((4 : Int32) * v3) + s0))))) + (1 : Int32))) else none else some ((0 : Int32), z0, z1))
noncomputable def f_X4_readHolder_b64 (v2 : Int32) (v3 : Int32) (z0 : ParserT) (z1 : PlanT) : Option (Int32 × ParserT × PlanT) := (if (ps_fault z0) = 0 then (f_X4_numberBehind z0 31 (0 : Int32) (3 : Int32)).bind fun r12 => f_X4_readHolder_b83 v2 v3 r12.1 r12.2 z1 else f_X4_readHolder_b83 v2 v3 (-1 : Int32) z0 z1)
noncomputable def f_X4_readHolder_b24 (v2 : Int32) (z0 : ParserT) (z1 : PlanT) : Option (Int32 × ParserT × PlanT) := (if v2 = (-1 : Int32) then some ((0 : Int32), z0, z1) else if kb_in? v2 8 then (if ((qr_held (pl_riders z1)) (v2).toNatClampNeg) = (-2 : Int32) then (f_X4_advance z0).bind fun r7 => (f_X4_numberBehind r7 30 (0 : Int32) (4 : Int32)).bind fun r8 => f_X4_readHolder_b64 v2 r8.1 r8.2 z1 else (f_X4_failed z0 (3 : Int32)).bind fun r13 => if kb_01 r13.1 then some (r13.1, r13.2, z1) else none) else none)
noncomputable def f_X4_readHolder (ps : ParserT) (pl : PlanT) : Option (Int32 × ParserT × PlanT) := (if (pl_holderCount pl) < (4 : Int32) then (f_X4_advance ps).bind fun r2 => (f_X4_knownRider r2 pl).bind fun r3 => f_X4_readHolder_b24 r3.1 r3.2 pl else (f_X4_failed ps (5 : Int32)).bind fun r15 => if kb_01 r15.1 then some (r15.1, r15.2, pl) else none)
set_option maxHeartbeats 4000000 in
set_option maxRecDepth 100000 in
theorem c_X4_readHolder (l : Launch) (D : va_G) (dA : Nat → ClassId) (sz : Nat) (a : Nat → Nat) (pa : Nat → Nat) (ps : ParserT) (pl : PlanT) (rv : Int32) (u0 : ParserT) (u1 : PlanT) (hf : f_X4_readHolder ps pl = some (rv, u0, u1)) : kb_Mi l yX4_readHolder cX4_readHolder 5 (some .boolean) ({ frames := 8, cells := 0, slots := 0, locals := 170 } : Room) D dA [.ref (a 0), .ref (pa 0)] sz (w_Parser dA a ps ++ (w_Plan dA pa pl)) 0 0 rv (w_Parser dA a u0 ++ (w_Plan dA pa u1)) := by
  refine Met.ofW (cc := cX4_readHolder) (maxL := 5) (ret := (some .boolean)) (by decide) rfl ?_
  intro p e s m args below meth c s₁ B hml hv
  obtain ⟨rfl, hsz, hP, hK, hD0, hE⟩ := hv
  have hx := B.exec
  have hb := B.bytes
  have hr := B.returns
  have hown : s.vm.findClass RX4 = some m.cls := findClass_of_methodNamed B.named
  have hlocks := B.notSynchronized
  have hts : ∀ w ∈ kb_gw, w.before ([.ref (a 0), .ref (pa 0)] : List Value).toArray s = true := fun w hw => hK.2.1 w hw _
  subst hsz
  have hD := hD0.self (sz := s.heap.size)
  generalize hAe : va_A (w_Parser dA a ps ++ (w_Plan dA pa pl)) s.heap.size = A at hD hE ⊢
  have hA : ∀ q : Nat, s.heap.size ≤ q → A q := fun q h => by rw [← hAe]; exact Or.inr h
  have hS : va_S A s.heap s.heap [] := va_S.rf
  have hl := lv_entry ([.ref (a 0), .ref (pa 0)]) (n := 5) (Nat.le_of_ble_eq_true rfl)
  rw [lg_entry_eq]
  generalize (lg_sl ([.ref (a 0), .ref (pa 0)]) ++ List.replicate (5 - (lg_sl ([.ref (a 0), .ref (pa 0)])).length) Slot.unset).toArray = ls at hl ⊢
  have hl : lv_has ls 5 [(0, .ref (a 0)), (1, .ref (pa 0))] := hl
  generalize hQ : MQ below (va_Qi (fun r (_ : Unit) => r = rv) (kb_B D A (w_Parser dA a u0 ++ (w_Plan dA pa u1))) A) ([.ref (a 0), .ref (pa 0)] : List Value).toArray s 0 0 A = Q
  show W p l e ({ frames := 8, cells := 0, slots := 0, locals := 170 } : Room) s m ([.ref (a 0), .ref (pa 0)] : List Value).toArray below meth c s.heap [] 0 0 Q (F0 m 0 ls [])
  have RET : ∀ (r2 : Int32) (w0 : ParserT) (w1 : PlanT) (H : Heap) (locs : List Loc) (ls : Array Slot) (pc : Nat), some (r2, w0, w1) = some (rv, u0, u1) → va_P D vwCl (w_Parser dA a w0 ++ (w_Plan dA pa w1)) H → va_D A (w_Parser dA a w0 ++ (w_Plan dA pa w1)) → va_S A s.heap H locs → kb_01 r2 → decode cX4_readHolder pc = .ok (.ireturn, 1) → W p l e ({ frames := 8, cells := 0, slots := 0, locals := 170 } : Room) s m ([.ref (a 0), .ref (pa 0)] : List Value).toArray below meth c H locs 0 0 Q (F0 m pc ls [.int r2]) := by
    intro r2 w0 w1 H locs ls pc hq hP hD hS h01 hd
    cases hq
    rw [← hQ]
    exact W.zret (ty := .boolean) hx hb hr (kb_nz h01) (fun t ht hW => ⟨⟨_, (), rfl, rfl, by rw [ht]; exact hP, hD⟩, hS.F ht⟩) hS.2.2 hd
  have B_119 : ∀ (z0 : ParserT) (z1 : PlanT) (H : Heap) (locs : List Loc) (ls : Array Slot), f_X4_readHolder_b119 z0 z1 = some (rv, u0, u1) → va_P D vwCl (w_Parser dA a z0 ++ (w_Plan dA pa z1)) H → va_D A (w_Parser dA a z0 ++ (w_Plan dA pa z1)) → va_S A s.heap H locs → lv_has ls 5 [] → W p l e ({ frames := 8, cells := 0, slots := 0, locals := 170 } : Room) s m ([.ref (a 0), .ref (pa 0)] : List Value).toArray below meth c H locs 0 0 Q (F0 m 119 ls []) := by
    intro z0 z1 H locs ls hf hP hD hS hl
    rw [f_X4_readHolder_b119] at hf
    refine lv_iconst (v := (1 : Int32)) hx hb dX4_readHolder_119 (by decide) ?_
    exact RET _ _ _ H _ ls 120 hf hP hD hS (by decide) dX4_readHolder_120
  have B_83 : ∀ (v2 : Int32) (v3 : Int32) (s0 : Int32) (z0 : ParserT) (z1 : PlanT) (H : Heap) (locs : List Loc) (ls : Array Slot), f_X4_readHolder_b83 v2 v3 s0 z0 z1 = some (rv, u0, u1) → va_P D vwCl (w_Parser dA a z0 ++ (w_Plan dA pa z1)) H → va_D A (w_Parser dA a z0 ++ (w_Plan dA pa z1)) → va_S A s.heap H locs → lv_has ls 5 [(0, .ref (a 0)), (1, .ref (pa 0)), (2, .int v2), (3, .int v3)] → W p l e ({ frames := 8, cells := 0, slots := 0, locals := 170 } : Room) s m ([.ref (a 0), .ref (pa 0)] : List Value).toArray below meth c H locs 0 0 Q (F0 m 83 ls [.int s0]) := by
    intro v2 v3 s0 z0 z1 H locs ls hf hP hD hS hl
    rw [f_X4_readHolder_b83] at hf
    refine lv_istore (lv' := [(4, .int s0), (0, .ref (a 0)), (1, .ref (pa 0)), (2, .int v2), (3, .int v3)]) hx hb dX4_readHolder_83 hl (by decide) rfl (fun ls hl => ?_)
    refine lv_aload_n hx hb dX4_readHolder_85 rfl (lv_at hl 1 rfl) ?_
    refine va_get (D := D) (ci := 4) (v := .int (ps_fault z0)) (C := RX4) (T := TX4) (N := 10) hx hb hts kb_inX4 hown hK.1 hP 0 rfl rfl 1 (by decide) (hK.2.w ww_1_41 rfl _) (fun _ h9 => h9) rfl dX4_readHolder_86 ?_
    refine lv_if_eq (tgt := 94) hx hb dX4_readHolder_89 (by decide) (fun c_10 => ?_) (fun c_10 => ?_)
    · rw [if_pos c_10] at hf
      refine lv_aload_n hx hb dX4_readHolder_94 rfl (lv_at hl 2 rfl) ?_
      refine va_get (D := D) (ci := 5) (v := .ref (pa 12)) (C := RX5) (T := TX5) (N := 8) hx hb hts kb_inX5 hown hK.1 hP 2 rfl rfl 2 (by decide) (hK.2.w ww_1_225 rfl _) (fun _ h9 => h9) rfl dX4_readHolder_95 ?_
      refine lv_iload_n hx hb dX4_readHolder_98 rfl (lv_at hl 3 rfl) ?_
      obtain ⟨h_11, hf⟩ := kb_if hf
      refine va_aldq (D := D) hx hb hK.1 hP 14 5 rfl rfl h_11 dX4_readHolder_99 ?_
      show W p l e ({ frames := 8, cells := 0, slots := 0, locals := 170 } : Room) s m ([.ref (a 0), .ref (pa 0)] : List Value).toArray below meth c _ _ 0 0 Q (F0 m 100 _ [.ref (pa (13 + (v2).toNatClampNeg))])
      refine lv_iconst (v := (4 : Int32)) hx hb dX4_readHolder_100 (by decide) ?_
      refine lv_iload_n hx hb dX4_readHolder_101 rfl (lv_at hl 4 rfl) ?_
      refine lv_imul hx hb dX4_readHolder_102 ?_
      refine lv_iload hx hb dX4_readHolder_103 (lv_at hl 0 rfl) ?_
      refine lv_iadd hx hb dX4_readHolder_105 ?_
      refine va_put (D := D) (ci := 7) (v := .int (((4 : Int32) * v3) + s0)) (ty := .int) (C := RX7) (T := TX7) (N := 10) hx hb hts kb_inX7 tyX7 tyX7_ok nmX7 hown hK.1 hP hD hS (2 + (13 + (v2).toNatClampNeg)) (kb_at rfl (at_Plan_13 dA pa z1 (v2).toNatClampNeg (kb_inlt h_11))) rfl 8 (by decide) (hK.2.w ww_1_186 rfl _) (fun _ h9 => h9) rfl (by decide +kernel) rfl rfl (Nat.le_of_ble_eq_true rfl) dX4_readHolder_106 (fun H locs hP hD hS => ?_)
      have hP : va_P D vwCl (w_Parser dA a z0 ++ (w_Plan dA pa (pl_set_riders z1 (qr_set_held (pl_riders z1) (upd (qr_held (pl_riders z1)) ((v2).toNatClampNeg) (((4 : Int32) * v3) + s0)))))) H := Eq.mp (congrArg (fun w => va_P D vwCl w H) (kb_sat rfl (st_Plan_13_8 dA pa z1 (((4 : Int32) * v3) + s0) ((v2).toNatClampNeg) (kb_inlt h_11)))) hP
      have hD : va_D A (w_Parser dA a z0 ++ (w_Plan dA pa (pl_set_riders z1 (qr_set_held (pl_riders z1) (upd (qr_held (pl_riders z1)) ((v2).toNatClampNeg) (((4 : Int32) * v3) + s0)))))) := Eq.mp (congrArg (fun w => va_D A w) (kb_sat rfl (st_Plan_13_8 dA pa z1 (((4 : Int32) * v3) + s0) ((v2).toNatClampNeg) (kb_inlt h_11)))) hD
      refine lv_aload_n hx hb dX4_readHolder_109 rfl (lv_at hl 2 rfl) ?_
      refine lv_dup hx hb dX4_readHolder_110 rfl ?_
      refine va_get (D := D) (ci := 5) (v := .int (pl_holderCount (pl_set_riders z1 (qr_set_held (pl_riders z1) (upd (qr_held (pl_riders z1)) ((v2).toNatClampNeg) (((4 : Int32) * v3) + s0)))))) (C := RX5) (T := TX5) (N := 8) hx hb hts kb_inX5 hown hK.1 hP 2 rfl rfl 7 (by decide) (hK.2.w ww_2_2 rfl _) (fun _ h9 => h9) rfl dX4_readHolder_111 ?_
      refine lv_iconst (v := (1 : Int32)) hx hb dX4_readHolder_114 (by decide) ?_
      refine lv_iadd hx hb dX4_readHolder_115 ?_
      refine va_put (D := D) (ci := 5) (v := .int ((pl_holderCount (pl_set_riders z1 (qr_set_held (pl_riders z1) (upd (qr_held (pl_riders z1)) ((v2).toNatClampNeg) (((4 : Int32) * v3) + s0))))) + (1 : Int32))) (ty := .int) (C := RX5) (T := TX5) (N := 8) hx hb hts kb_inX5 tyX5 tyX5_ok nmX5 hown hK.1 hP hD hS 2 rfl rfl 7 (by decide) (hK.2.w ww_2_2 rfl _) (fun _ h9 => h9) rfl (by decide +kernel) rfl rfl (Nat.le_of_ble_eq_true rfl) dX4_readHolder_116 (fun H locs hP hD hS => ?_)
      have hP : va_P D vwCl (w_Parser dA a z0 ++ (w_Plan dA pa (pl_set_holderCount (pl_set_riders z1 (qr_set_held (pl_riders z1) (upd (qr_held (pl_riders z1)) ((v2).toNatClampNeg) (((4 : Int32) * v3) + s0)))) ((pl_holderCount (pl_set_riders z1 (qr_set_held (pl_riders z1) (upd (qr_held (pl_riders z1)) ((v2).toNatClampNeg) (((4 : Int32) * v3) + s0))))) + (1 : Int32))))) H := hP
      have hD : va_D A (w_Parser dA a z0 ++ (w_Plan dA pa (pl_set_holderCount (pl_set_riders z1 (qr_set_held (pl_riders z1) (upd (qr_held (pl_riders z1)) ((v2).toNatClampNeg) (((4 : Int32) * v3) + s0)))) ((pl_holderCount (pl_set_riders z1 (qr_set_held (pl_riders z1) (upd (qr_held (pl_riders z1)) ((v2).toNatClampNeg) (((4 : Int32) * v3) + s0))))) + (1 : Int32))))) := hD
      exact B_119 _ _ _ _ _ hf hP hD hS (lv_sub hl [] rfl)
    · rw [if_neg c_10] at hf
      refine lv_iconst (v := (0 : Int32)) hx hb dX4_readHolder_92 (by decide) ?_
      exact RET _ _ _ H _ ls 93 hf hP hD hS (by decide) dX4_readHolder_93
  have B_64 : ∀ (v2 : Int32) (v3 : Int32) (z0 : ParserT) (z1 : PlanT) (H : Heap) (locs : List Loc) (ls : Array Slot), f_X4_readHolder_b64 v2 v3 z0 z1 = some (rv, u0, u1) → va_P D vwCl (w_Parser dA a z0 ++ (w_Plan dA pa z1)) H → va_D A (w_Parser dA a z0 ++ (w_Plan dA pa z1)) → va_S A s.heap H locs → lv_has ls 5 [(0, .ref (a 0)), (1, .ref (pa 0)), (2, .int v2), (3, .int v3)] → W p l e ({ frames := 8, cells := 0, slots := 0, locals := 170 } : Room) s m ([.ref (a 0), .ref (pa 0)] : List Value).toArray below meth c H locs 0 0 Q (F0 m 64 ls []) := by
    intro v2 v3 z0 z1 H locs ls hf hP hD hS hl
    rw [f_X4_readHolder_b64] at hf
    refine lv_aload_n hx hb dX4_readHolder_64 rfl (lv_at hl 0 rfl) ?_
    refine va_get (D := D) (ci := 4) (v := .int (ps_fault z0)) (C := RX4) (T := TX4) (N := 10) hx hb hts kb_inX4 hown hK.1 hP 0 rfl rfl 1 (by decide) (hK.2.w ww_1_41 rfl _) (fun _ h9 => h9) rfl dX4_readHolder_65 ?_
    refine lv_if_ne (tgt := 82) hx hb dX4_readHolder_68 (by decide) (fun c_9 => ?_) (fun c_9 => ?_)
    · rw [if_neg c_9] at hf
      refine lv_iconst (v := (-1 : Int32)) hx hb dX4_readHolder_82 (by decide) ?_
      exact B_83 _ _ _ _ _ _ _ _ hf hP hD hS (lv_sub hl [0, 1, 2, 3] rfl)
    · rw [if_pos c_9] at hf
      refine lv_aload_n hx hb dX4_readHolder_71 rfl (lv_at hl 0 rfl) ?_
      refine va_ldcS (tx := "seat") (q := dA (100 + 31)) hx hb hown (hE.2.2.2 ("BusSeats$Parser", 255, "seat", 31) (by decide)) dX4_readHolder_72 ?_
      refine lv_iconst (v := (0 : Int32)) hx hb dX4_readHolder_74 (by decide) ?_
      refine lv_iconst (v := (3 : Int32)) hx hb dX4_readHolder_75 (by decide) ?_
      obtain ⟨r12, hc12, hf⟩ := kb_bind hf
      refine kb_ci (ws2 := (w_Parser dA a r12.2 ++ (w_Plan dA pa z1))) (kb_rV (n := 3) (As := [.ref (dA (100 + 31)), .int (0 : Int32), .int (3 : Int32)]) (rest := []) hx hb hml hown hK (c_X4_numberBehind l D dA H.size a z0 31 (by decide) (0 : Int32) (3 : Int32) r12.1 r12.2 hc12) ⟨ww_3_54, ww_3_51, ww_3_53, ws_7, ww_1_2, rfl, by decide, by decide⟩ rfl rfl (by decide +kernel) ⟨Nat.le_of_ble_eq_true rfl, Nat.le_of_ble_eq_true rfl⟩ hP hD hS hA hE [0, 1] rfl (by decide) 0 rfl rfl rfl hl.1 rfl (Nat.le_of_ble_eq_true rfl) dX4_readHolder_76 ⟨Nat.le_of_ble_eq_true rfl, Nat.le_of_ble_eq_true rfl⟩) hP hD hS hA [0, 1] [2, 3, 4, 5, 6, 7, 8, 9, 10, 11, 12, 13, 14, 15, 16, 17, 18, 19, 20, 21, 22] [21, 22, 0, 1, 2, 3, 4, 5, 6, 7, 8, 9, 10, 11, 12, 13, 14, 15, 16, 17, 18, 19, 20] rfl rfl (by decide) (by decide) rfl (by decide) (fun H locs hP hD hS => ?_)
      refine lv_goto (tgt := 83) hx hb dX4_readHolder_79 (by decide) ?_
      exact B_83 _ _ _ _ _ _ _ _ hf hP hD hS (lv_sub hl [0, 1, 2, 3] rfl)
  have B_24 : ∀ (v2 : Int32) (z0 : ParserT) (z1 : PlanT) (H : Heap) (locs : List Loc) (ls : Array Slot), f_X4_readHolder_b24 v2 z0 z1 = some (rv, u0, u1) → va_P D vwCl (w_Parser dA a z0 ++ (w_Plan dA pa z1)) H → va_D A (w_Parser dA a z0 ++ (w_Plan dA pa z1)) → va_S A s.heap H locs → lv_has ls 5 [(0, .ref (a 0)), (1, .ref (pa 0)), (2, .int v2)] → W p l e ({ frames := 8, cells := 0, slots := 0, locals := 170 } : Room) s m ([.ref (a 0), .ref (pa 0)] : List Value).toArray below meth c H locs 0 0 Q (F0 m 24 ls []) := by
    intro v2 z0 z1 H locs ls hf hP hD hS hl
    rw [f_X4_readHolder_b24] at hf
    refine lv_iload_n hx hb dX4_readHolder_24 rfl (lv_at hl 2 rfl) ?_
    refine lv_iconst (v := (-1 : Int32)) hx hb dX4_readHolder_25 (by decide) ?_
    refine lv_icmp_ne (tgt := 31) hx hb dX4_readHolder_26 (by decide) (fun c_4 => ?_) (fun c_4 => ?_)
    · rw [if_neg c_4] at hf
      refine lv_aload_n hx hb dX4_readHolder_31 rfl (lv_at hl 1 rfl) ?_
      refine va_get (D := D) (ci := 5) (v := .ref (pa 12)) (C := RX5) (T := TX5) (N := 8) hx hb hts kb_inX5 hown hK.1 hP 2 rfl rfl 2 (by decide) (hK.2.w ww_1_225 rfl _) (fun _ h9 => h9) rfl dX4_readHolder_32 ?_
      refine lv_iload_n hx hb dX4_readHolder_35 rfl (lv_at hl 2 rfl) ?_
      obtain ⟨h_5, hf⟩ := kb_if hf
      refine va_aldq (D := D) hx hb hK.1 hP 14 5 rfl rfl h_5 dX4_readHolder_36 ?_
      show W p l e ({ frames := 8, cells := 0, slots := 0, locals := 170 } : Room) s m ([.ref (a 0), .ref (pa 0)] : List Value).toArray below meth c _ _ 0 0 Q (F0 m 37 _ [.ref (pa (13 + (v2).toNatClampNeg))])
      refine va_get (D := D) (ci := 7) (v := .int ((qr_held (pl_riders z1)) (v2).toNatClampNeg)) (C := RX7) (T := TX7) (N := 10) hx hb hts kb_inX7 hown hK.1 hP (2 + (13 + (v2).toNatClampNeg)) (kb_at rfl (at_Plan_13 dA pa z1 (v2).toNatClampNeg (kb_inlt h_5))) rfl 8 (by decide) (hK.2.w ww_1_186 rfl _) (fun _ h9 => h9) rfl dX4_readHolder_37 ?_
      refine lv_bipush (v := (-2 : Int32)) hx hb dX4_readHolder_40 (by decide) ?_
      refine lv_icmp_eq (tgt := 51) hx hb dX4_readHolder_42 (by decide) (fun c_6 => ?_) (fun c_6 => ?_)
      · rw [if_pos c_6] at hf
        refine lv_aload_n hx hb dX4_readHolder_51 rfl (lv_at hl 0 rfl) ?_
        obtain ⟨r7, hc7, hf⟩ := kb_bind hf
        refine kb_cv (ws2 := (w_Parser dA a r7 ++ (w_Plan dA pa z1))) (kb_rV (n := 0) (As := []) (rest := []) hx hb hml hown hK (c_X4_advance l D dA H.size a z0 r7 hc7) ⟨ww_2_219, ww_2_216, ww_2_218, ws_1, ww_1_2, rfl, by decide, by decide⟩ rfl rfl (by decide +kernel) ⟨Nat.le_of_ble_eq_true rfl, Nat.le_of_ble_eq_true rfl⟩ hP hD hS hA hE [0, 1] rfl (by decide) 0 rfl rfl rfl hl.1 rfl (Nat.le_of_ble_eq_true rfl) dX4_readHolder_52 ⟨Nat.le_of_ble_eq_true rfl, Nat.le_of_ble_eq_true rfl⟩) hP hD hS hA [0, 1] [2, 3, 4, 5, 6, 7, 8, 9, 10, 11, 12, 13, 14, 15, 16, 17, 18, 19, 20, 21, 22] [21, 22, 0, 1, 2, 3, 4, 5, 6, 7, 8, 9, 10, 11, 12, 13, 14, 15, 16, 17, 18, 19, 20] rfl rfl (by decide) (by decide) rfl (by decide) (fun H locs hP hD hS => ?_)
        refine lv_aload_n hx hb dX4_readHolder_55 rfl (lv_at hl 0 rfl) ?_
        refine va_ldcS (tx := "row") (q := dA (100 + 30)) hx hb hown (hE.2.2.2 ("BusSeats$Parser", 253, "row", 30) (by decide)) dX4_readHolder_56 ?_
        refine lv_iconst (v := (0 : Int32)) hx hb dX4_readHolder_58 (by decide) ?_
        refine lv_iconst (v := (4 : Int32)) hx hb dX4_readHolder_59 (by decide) ?_
        obtain ⟨r8, hc8, hf⟩ := kb_bind hf
        refine kb_ci (ws2 := (w_Parser dA a r8.2 ++ (w_Plan dA pa z1))) (kb_rV (n := 3) (As := [.ref (dA (100 + 30)), .int (0 : Int32), .int (4 : Int32)]) (rest := []) hx hb hml hown hK (c_X4_numberBehind l D dA H.size a r7 30 (by decide) (0 : Int32) (4 : Int32) r8.1 r8.2 hc8) ⟨ww_3_54, ww_3_51, ww_3_53, ws_7, ww_1_2, rfl, by decide, by decide⟩ rfl rfl (by decide +kernel) ⟨Nat.le_of_ble_eq_true rfl, Nat.le_of_ble_eq_true rfl⟩ hP hD hS hA hE [0, 1] rfl (by decide) 0 rfl rfl rfl hl.1 rfl (Nat.le_of_ble_eq_true rfl) dX4_readHolder_60 ⟨Nat.le_of_ble_eq_true rfl, Nat.le_of_ble_eq_true rfl⟩) hP hD hS hA [0, 1] [2, 3, 4, 5, 6, 7, 8, 9, 10, 11, 12, 13, 14, 15, 16, 17, 18, 19, 20, 21, 22] [21, 22, 0, 1, 2, 3, 4, 5, 6, 7, 8, 9, 10, 11, 12, 13, 14, 15, 16, 17, 18, 19, 20] rfl rfl (by decide) (by decide) rfl (by decide) (fun H locs hP hD hS => ?_)
        refine lv_istore_n (lv' := [(3, .int r8.1), (0, .ref (a 0)), (1, .ref (pa 0)), (2, .int v2)]) hx hb dX4_readHolder_63 rfl hl (by decide) rfl (fun ls hl => ?_)
        exact B_64 _ _ _ _ _ _ _ hf hP hD hS (lv_sub hl [1, 2, 3, 0] rfl)
      · rw [if_neg c_6] at hf
        refine lv_aload_n hx hb dX4_readHolder_45 rfl (lv_at hl 0 rfl) ?_
        refine lv_iconst (v := (3 : Int32)) hx hb dX4_readHolder_46 (by decide) ?_
        obtain ⟨r13, hc13, hf⟩ := kb_bind hf
        refine kb_ci (ws2 := (w_Parser dA a r13.2 ++ (w_Plan dA pa z1))) (kb_rV (n := 1) (As := [.int (3 : Int32)]) (rest := []) hx hb hml hown hK (c_X4_failed l D dA H.size a z0 (3 : Int32) r13.1 r13.2 hc13) ⟨ww_3_49, ww_3_46, ww_3_48, ws_6, ww_1_2, rfl, by decide, by decide⟩ rfl rfl (by decide +kernel) ⟨Nat.le_of_ble_eq_true rfl, Nat.le_of_ble_eq_true rfl⟩ hP hD hS hA hE [0, 1] rfl (by decide) 0 rfl rfl rfl hl.1 rfl (Nat.le_of_ble_eq_true rfl) dX4_readHolder_47 ⟨Nat.le_of_ble_eq_true rfl, Nat.le_of_ble_eq_true rfl⟩) hP hD hS hA [0, 1] [2, 3, 4, 5, 6, 7, 8, 9, 10, 11, 12, 13, 14, 15, 16, 17, 18, 19, 20, 21, 22] [21, 22, 0, 1, 2, 3, 4, 5, 6, 7, 8, 9, 10, 11, 12, 13, 14, 15, 16, 17, 18, 19, 20] rfl rfl (by decide) (by decide) rfl (by decide) (fun H locs hP hD hS => ?_)
        obtain ⟨h_14, hf⟩ := kb_if hf
        exact RET _ _ _ H _ ls 50 hf hP hD hS h_14 dX4_readHolder_50
    · rw [if_pos c_4] at hf
      refine lv_iconst (v := (0 : Int32)) hx hb dX4_readHolder_29 (by decide) ?_
      exact RET _ _ _ H _ ls 30 hf hP hD hS (by decide) dX4_readHolder_30
  have E0 : ∀ (H : Heap) (locs : List Loc), va_P D vwCl (w_Parser dA a ps ++ (w_Plan dA pa pl)) H → va_D A (w_Parser dA a ps ++ (w_Plan dA pa pl)) → va_S A s.heap H locs → W p l e ({ frames := 8, cells := 0, slots := 0, locals := 170 } : Room) s m ([.ref (a 0), .ref (pa 0)] : List Value).toArray below meth c H locs 0 0 Q (F0 m 0 ls []) := by
    intro H locs hP hD hS
    rw [f_X4_readHolder] at hf
    refine lv_aload_n hx hb dX4_readHolder_0 rfl (lv_at hl 1 rfl) ?_
    refine va_get (D := D) (ci := 5) (v := .int (pl_holderCount pl)) (C := RX5) (T := TX5) (N := 8) hx hb hts kb_inX5 hown hK.1 hP 2 rfl rfl 7 (by decide) (hK.2.w ww_2_2 rfl _) (fun _ h9 => h9) rfl dX4_readHolder_1 ?_
    refine lv_iconst (v := (4 : Int32)) hx hb dX4_readHolder_4 (by decide) ?_
    refine lv_icmp_lt (tgt := 14) hx hb dX4_readHolder_5 (by decide) (fun c_1 => ?_) (fun c_1 => ?_)
    · rw [if_pos c_1] at hf
      refine lv_aload_n hx hb dX4_readHolder_14 rfl (lv_at hl 0 rfl) ?_
      obtain ⟨r2, hc2, hf⟩ := kb_bind hf
      refine kb_cv (ws2 := (w_Parser dA a r2 ++ (w_Plan dA pa pl))) (kb_rV (n := 0) (As := []) (rest := []) hx hb hml hown hK (c_X4_advance l D dA H.size a ps r2 hc2) ⟨ww_2_219, ww_2_216, ww_2_218, ws_1, ww_1_2, rfl, by decide, by decide⟩ rfl rfl (by decide +kernel) ⟨Nat.le_of_ble_eq_true rfl, Nat.le_of_ble_eq_true rfl⟩ hP hD hS hA hE [0, 1] rfl (by decide) 0 rfl rfl rfl hl.1 rfl (Nat.le_of_ble_eq_true rfl) dX4_readHolder_15 ⟨Nat.le_of_ble_eq_true rfl, Nat.le_of_ble_eq_true rfl⟩) hP hD hS hA [0, 1] [2, 3, 4, 5, 6, 7, 8, 9, 10, 11, 12, 13, 14, 15, 16, 17, 18, 19, 20, 21, 22] [21, 22, 0, 1, 2, 3, 4, 5, 6, 7, 8, 9, 10, 11, 12, 13, 14, 15, 16, 17, 18, 19, 20] rfl rfl (by decide) (by decide) rfl (by decide) (fun H locs hP hD hS => ?_)
      refine lv_aload_n hx hb dX4_readHolder_18 rfl (lv_at hl 0 rfl) ?_
      refine lv_aload_n hx hb dX4_readHolder_19 rfl (lv_at hl 1 rfl) ?_
      obtain ⟨r3, hc3, hf⟩ := kb_bind hf
      refine kb_ci (ws2 := (w_Parser dA a r3.2 ++ (w_Plan dA pa pl))) (kb_rV (n := 1) (As := [.ref (pa 0)]) (rest := []) hx hb hml hown hK (c_X4_knownRider l D dA H.size a pa r2 pl r3.1 r3.2 hc3) ⟨ww_3_155, ww_3_152, ww_3_154, ws_19, ww_1_2, rfl, by decide, by decide⟩ rfl rfl (by decide +kernel) ⟨Nat.le_of_ble_eq_true rfl, Nat.le_of_ble_eq_true rfl⟩ hP hD hS hA hE [0, 1, 2, 3, 4, 5, 6, 7, 8, 9, 10, 11, 12, 13, 14, 15, 16, 17, 18, 19, 20, 21, 22] rfl (by decide) 0 rfl rfl rfl hl.1 rfl (Nat.le_of_ble_eq_true rfl) dX4_readHolder_20 ⟨Nat.le_of_ble_eq_true rfl, Nat.le_of_ble_eq_true rfl⟩) hP hD hS hA [0, 1, 2, 3, 4, 5, 6, 7, 8, 9, 10, 11, 12, 13, 14, 15, 16, 17, 18, 19, 20, 21, 22] [] [0, 1, 2, 3, 4, 5, 6, 7, 8, 9, 10, 11, 12, 13, 14, 15, 16, 17, 18, 19, 20, 21, 22] rfl rfl (by decide) (by decide) rfl (by decide) (fun H locs hP hD hS => ?_)
      refine lv_istore_n (lv' := [(2, .int r3.1), (0, .ref (a 0)), (1, .ref (pa 0))]) hx hb dX4_readHolder_23 rfl hl (by decide) rfl (fun ls hl => ?_)
      exact B_24 _ _ _ _ _ _ hf hP hD hS (lv_sub hl [1, 2, 0] rfl)
    · rw [if_neg c_1] at hf
      refine lv_aload_n hx hb dX4_readHolder_8 rfl (lv_at hl 0 rfl) ?_
      refine lv_iconst (v := (5 : Int32)) hx hb dX4_readHolder_9 (by decide) ?_
      obtain ⟨r15, hc15, hf⟩ := kb_bind hf
      refine kb_ci (ws2 := (w_Parser dA a r15.2 ++ (w_Plan dA pa pl))) (kb_rV (n := 1) (As := [.int (5 : Int32)]) (rest := []) hx hb hml hown hK (c_X4_failed l D dA H.size a ps (5 : Int32) r15.1 r15.2 hc15) ⟨ww_3_49, ww_3_46, ww_3_48, ws_6, ww_1_2, rfl, by decide, by decide⟩ rfl rfl (by decide +kernel) ⟨Nat.le_of_ble_eq_true rfl, Nat.le_of_ble_eq_true rfl⟩ hP hD hS hA hE [0, 1] rfl (by decide) 0 rfl rfl rfl hl.1 rfl (Nat.le_of_ble_eq_true rfl) dX4_readHolder_10 ⟨Nat.le_of_ble_eq_true rfl, Nat.le_of_ble_eq_true rfl⟩) hP hD hS hA [0, 1] [2, 3, 4, 5, 6, 7, 8, 9, 10, 11, 12, 13, 14, 15, 16, 17, 18, 19, 20, 21, 22] [21, 22, 0, 1, 2, 3, 4, 5, 6, 7, 8, 9, 10, 11, 12, 13, 14, 15, 16, 17, 18, 19, 20] rfl rfl (by decide) (by decide) rfl (by decide) (fun H locs hP hD hS => ?_)
      obtain ⟨h_16, hf⟩ := kb_if hf
      exact RET _ _ _ H _ ls 13 hf hP hD hS h_16 dX4_readHolder_13
  exact E0 _ _ hP hD hS

noncomputable def f_X4_read_b167 (z0 : ParserT) (z1 : PlanT) : Option (Int32 × ParserT × PlanT) := some ((1 : Int32), z0, z1)
noncomputable def f_X4_read_b135 (k37 : Int32 → ParserT → PlanT → Option (Int32 × ParserT × PlanT)) (v3 : Int32) (s0 : Int32) (z0 : ParserT) (z1 : PlanT) : Option (Int32 × ParserT × PlanT) := (if s0 = 0 then some ((0 : Int32), z0, z1) else (if (ps_kind z0) = 0 then (f_X5_lacksSome z1).bind fun r23 => (if r23 = 0 then f_X4_read_b167 z0 z1 else (f_X4_failed z0 (6 : Int32)).bind fun r25 => (if r25.1 = 0 then some ((0 : Int32), r25.2, z1) else f_X4_read_b167 r25.2 z1)) else (if (ps_kind z0) = (3 : Int32) then (f_X4_advance z0).bind fun r20 => k37 (v3 + (1 : Int32)) r20 z1 else (f_X4_failed z0 (1 : Int32)).bind fun r21 => if kb_01 r21.1 then some (r21.1, r21.2, z1) else none)))
noncomputable def f_X4_read_b37 : Nat → Int32 → ParserT → PlanT → Option (Int32 × ParserT × PlanT)
  | 0, _, _, _ => none
  | n + 1, v3, z0, z1 => (if (ps_end z0) < v3 then (f_X4_failed z0 (1 : Int32)).bind fun r4 => if kb_01 r4.1 then some (r4.1, r4.2, z1) else none else (f_X4_isWord z0 0).bind fun r6 => (if r6 = 0 then (f_X4_isWord z0 10).bind fun r8 => (if r8 = 0 then (f_X4_isWord z0 20).bind fun r10 => (if r10 = 0 then (f_X4_isWord z0 21).bind fun r12 => (if r12 = 0 then (f_X4_isWord z0 22).bind fun r14 => (if r14 = 0 then (f_X4_failed z0 (1 : Int32)).bind fun r16 => f_X4_read_b135 (f_X4_read_b37 n) v3 r16.1 r16.2 z1 else (f_X4_readHolder z0 z1).bind fun r27 => f_X4_read_b135 (f_X4_read_b37 n) v3 r27.1 r27.2.1 r27.2.2) else (f_X4_readFriends z0 z1).bind fun r28 => f_X4_read_b135 (f_X4_read_b37 n) v3 r28.1 r28.2.1 r28.2.2) else (f_X4_readRider z0 z1).bind fun r29 => f_X4_read_b135 (f_X4_read_b37 n) v3 r29.1 r29.2.1 r29.2.2) else (f_X4_readRule z0 z1).bind fun r30 => f_X4_read_b135 (f_X4_read_b37 n) v3 r30.1 r30.2.1 r30.2.2) else (f_X4_readBus z0 z1).bind fun r31 => f_X4_read_b135 (f_X4_read_b37 n) v3 r31.1 r31.2.1 r31.2.2))
noncomputable def f_X4_read_b35 (z0 : ParserT) (z1 : PlanT) : Option (Int32 × ParserT × PlanT) := f_X4_read_b37 4096 (0 : Int32) z0 z1
noncomputable def f_X4_read_b26 (z0 : ParserT) (z1 : PlanT) : Option (Int32 × ParserT × PlanT) := (f_X4_advance (ps_set_fault z0 (0 : Int32))).bind fun r2 => f_X4_read_b35 r2 z1
noncomputable def f_X4_read_b16 (z0 : ParserT) (z1 : PlanT) : Option (Int32 × ParserT × PlanT) := f_X4_read_b26 (ps_set_next (ps_set_length z0 (0 : Int32)) (0 : Int32)) z1
noncomputable def f_X4_read (ps : ParserT) (pl : PlanT) (x1 : Int32) : Option (Int32 × ParserT × PlanT) := (f_X5_clear pl).bind fun r1 => f_X4_read_b16 (ps_set_end ps (if (ps_length ps) < x1 then (ps_length ps) else x1)) r1
set_option maxHeartbeats 4000000 in
set_option maxRecDepth 100000 in
theorem c_X4_read (l : Launch) (D : va_G) (dA : Nat → ClassId) (sz : Nat) (a : Nat → Nat) (pa : Nat → Nat) (ps : ParserT) (pl : PlanT) (x1 : Int32) (rv : Int32) (u0 : ParserT) (u1 : PlanT) (hf : f_X4_read ps pl x1 = some (rv, u0, u1)) : kb_Mi l yX4_read cX4_read 5 (some .boolean) ({ frames := 9, cells := 0, slots := 0, locals := 194 } : Room) D dA [.ref (a 0), .ref (pa 0), .int x1] sz (w_Parser dA a ps ++ (w_Plan dA pa pl)) 0 0 rv (w_Parser dA a u0 ++ (w_Plan dA pa u1)) := by
  refine Met.ofW (cc := cX4_read) (maxL := 5) (ret := (some .boolean)) (by decide) rfl ?_
  intro p e s m args below meth c s₁ B hml hv
  obtain ⟨rfl, hsz, hP, hK, hD0, hE⟩ := hv
  have hx := B.exec
  have hb := B.bytes
  have hr := B.returns
  have hown : s.vm.findClass RX4 = some m.cls := findClass_of_methodNamed B.named
  have hlocks := B.notSynchronized
  have hts : ∀ w ∈ kb_gw, w.before ([.ref (a 0), .ref (pa 0), .int x1] : List Value).toArray s = true := fun w hw => hK.2.1 w hw _
  subst hsz
  have hD := hD0.self (sz := s.heap.size)
  generalize hAe : va_A (w_Parser dA a ps ++ (w_Plan dA pa pl)) s.heap.size = A at hD hE ⊢
  have hA : ∀ q : Nat, s.heap.size ≤ q → A q := fun q h => by rw [← hAe]; exact Or.inr h
  have hS : va_S A s.heap s.heap [] := va_S.rf
  have hl := lv_entry ([.ref (a 0), .ref (pa 0), .int x1]) (n := 5) (Nat.le_of_ble_eq_true rfl)
  rw [lg_entry_eq]
  generalize (lg_sl ([.ref (a 0), .ref (pa 0), .int x1]) ++ List.replicate (5 - (lg_sl ([.ref (a 0), .ref (pa 0), .int x1])).length) Slot.unset).toArray = ls at hl ⊢
  have hl : lv_has ls 5 [(0, .ref (a 0)), (1, .ref (pa 0)), (2, .int x1)] := hl
  generalize hQ : MQ below (va_Qi (fun r (_ : Unit) => r = rv) (kb_B D A (w_Parser dA a u0 ++ (w_Plan dA pa u1))) A) ([.ref (a 0), .ref (pa 0), .int x1] : List Value).toArray s 0 0 A = Q
  show W p l e ({ frames := 9, cells := 0, slots := 0, locals := 194 } : Room) s m ([.ref (a 0), .ref (pa 0), .int x1] : List Value).toArray below meth c s.heap [] 0 0 Q (F0 m 0 ls [])
  have RET : ∀ (r2 : Int32) (w0 : ParserT) (w1 : PlanT) (H : Heap) (locs : List Loc) (ls : Array Slot) (pc : Nat), some (r2, w0, w1) = some (rv, u0, u1) → va_P D vwCl (w_Parser dA a w0 ++ (w_Plan dA pa w1)) H → va_D A (w_Parser dA a w0 ++ (w_Plan dA pa w1)) → va_S A s.heap H locs → kb_01 r2 → decode cX4_read pc = .ok (.ireturn, 1) → W p l e ({ frames := 9, cells := 0, slots := 0, locals := 194 } : Room) s m ([.ref (a 0), .ref (pa 0), .int x1] : List Value).toArray below meth c H locs 0 0 Q (F0 m pc ls [.int r2]) := by
    intro r2 w0 w1 H locs ls pc hq hP hD hS h01 hd
    cases hq
    rw [← hQ]
    exact W.zret (ty := .boolean) hx hb hr (kb_nz h01) (fun t ht hW => ⟨⟨_, (), rfl, rfl, by rw [ht]; exact hP, hD⟩, hS.F ht⟩) hS.2.2 hd
  have B_167 : ∀ (z0 : ParserT) (z1 : PlanT) (H : Heap) (locs : List Loc) (ls : Array Slot), f_X4_read_b167 z0 z1 = some (rv, u0, u1) → va_P D vwCl (w_Parser dA a z0 ++ (w_Plan dA pa z1)) H → va_D A (w_Parser dA a z0 ++ (w_Plan dA pa z1)) → va_S A s.heap H locs → lv_has ls 5 [] → W p l e ({ frames := 9, cells := 0, slots := 0, locals := 194 } : Room) s m ([.ref (a 0), .ref (pa 0), .int x1] : List Value).toArray below meth c H locs 0 0 Q (F0 m 167 ls []) := by
    intro z0 z1 H locs ls hf hP hD hS hl
    rw [f_X4_read_b167] at hf
    refine lv_iconst (v := (1 : Int32)) hx hb dX4_read_167 (by decide) ?_
    refine lv_goto (tgt := 172) hx hb dX4_read_168 (by decide) ?_
    exact RET _ _ _ H _ ls 172 hf hP hD hS (by decide) dX4_read_172
  have B_135 : ∀ (k37 : Int32 → ParserT → PlanT → Option (Int32 × ParserT × PlanT)) (hk37 : ∀ (v3 : Int32) (z0 : ParserT) (z1 : PlanT) (H : Heap) (locs : List Loc) (ls : Array Slot), k37 v3 z0 z1 = some (rv, u0, u1) → va_P D vwCl (w_Parser dA a z0 ++ (w_Plan dA pa z1)) H → va_D A (w_Parser dA a z0 ++ (w_Plan dA pa z1)) → va_S A s.heap H locs → lv_has ls 5 [(0, .ref (a 0)), (1, .ref (pa 0)), (3, .int v3)] → W p l e ({ frames := 9, cells := 0, slots := 0, locals := 194 } : Room) s m ([.ref (a 0), .ref (pa 0), .int x1] : List Value).toArray below meth c H locs 0 0 Q (F0 m 37 ls [])) (v3 : Int32) (s0 : Int32) (z0 : ParserT) (z1 : PlanT) (H : Heap) (locs : List Loc) (ls : Array Slot), f_X4_read_b135 k37 v3 s0 z0 z1 = some (rv, u0, u1) → va_P D vwCl (w_Parser dA a z0 ++ (w_Plan dA pa z1)) H → va_D A (w_Parser dA a z0 ++ (w_Plan dA pa z1)) → va_S A s.heap H locs → lv_has ls 5 [(0, .ref (a 0)), (1, .ref (pa 0)), (3, .int v3)] → W p l e ({ frames := 9, cells := 0, slots := 0, locals := 194 } : Room) s m ([.ref (a 0), .ref (pa 0), .int x1] : List Value).toArray below meth c H locs 0 0 Q (F0 m 135 ls [.int s0]) := by
    intro k37 hk37 v3 s0 z0 z1 H locs ls hf hP hD hS hl
    rw [f_X4_read_b135] at hf
    refine lv_istore (lv' := [(4, .int s0), (0, .ref (a 0)), (1, .ref (pa 0)), (3, .int v3)]) hx hb dX4_read_135 hl (by decide) rfl (fun ls hl => ?_)
    refine lv_iload hx hb dX4_read_137 (lv_at hl 0 rfl) ?_
    refine lv_if_ne (tgt := 144) hx hb dX4_read_139 (by decide) (fun c_17 => ?_) (fun c_17 => ?_)
    · rw [if_neg c_17] at hf
      refine lv_aload_n hx hb dX4_read_144 rfl (lv_at hl 1 rfl) ?_
      refine va_get (D := D) (ci := 4) (v := .int (ps_kind z0)) (C := RX4) (T := TX4) (N := 10) hx hb hts kb_inX4 hown hK.1 hP 0 rfl rfl 6 (by decide) (hK.2.w ww_1_48 rfl _) (fun _ h9 => h9) rfl dX4_read_145 ?_
      refine lv_if_ne (tgt := 173) hx hb dX4_read_148 (by decide) (fun c_18 => ?_) (fun c_18 => ?_)
      · rw [if_neg c_18] at hf
        refine lv_aload_n hx hb dX4_read_173 rfl (lv_at hl 1 rfl) ?_
        refine va_get (D := D) (ci := 4) (v := .int (ps_kind z0)) (C := RX4) (T := TX4) (N := 10) hx hb hts kb_inX4 hown hK.1 hP 0 rfl rfl 6 (by decide) (hK.2.w ww_1_48 rfl _) (fun _ h9 => h9) rfl dX4_read_174 ?_
        refine lv_iconst (v := (3 : Int32)) hx hb dX4_read_177 (by decide) ?_
        refine lv_icmp_eq (tgt := 187) hx hb dX4_read_178 (by decide) (fun c_19 => ?_) (fun c_19 => ?_)
        · rw [if_pos c_19] at hf
          refine lv_aload_n hx hb dX4_read_187 rfl (lv_at hl 1 rfl) ?_
          obtain ⟨r20, hc20, hf⟩ := kb_bind hf
          refine kb_cv (ws2 := (w_Parser dA a r20 ++ (w_Plan dA pa z1))) (kb_rV (n := 0) (As := []) (rest := []) hx hb hml hown hK (c_X4_advance l D dA H.size a z0 r20 hc20) ⟨ww_2_219, ww_2_216, ww_2_218, ws_1, ww_1_2, rfl, by decide, by decide⟩ rfl rfl (by decide +kernel) ⟨Nat.le_of_ble_eq_true rfl, Nat.le_of_ble_eq_true rfl⟩ hP hD hS hA hE [0, 1] rfl (by decide) 0 rfl rfl rfl hl.1 rfl (Nat.le_of_ble_eq_true rfl) dX4_read_188 ⟨Nat.le_of_ble_eq_true rfl, Nat.le_of_ble_eq_true rfl⟩) hP hD hS hA [0, 1] [2, 3, 4, 5, 6, 7, 8, 9, 10, 11, 12, 13, 14, 15, 16, 17, 18, 19, 20, 21, 22] [21, 22, 0, 1, 2, 3, 4, 5, 6, 7, 8, 9, 10, 11, 12, 13, 14, 15, 16, 17, 18, 19, 20] rfl rfl (by decide) (by decide) rfl (by decide) (fun H locs hP hD hS => ?_)
          refine lv_iinc (v := (v3 + (1 : Int32))) (lv' := [(3, .int (v3 + (1 : Int32))), (4, .int s0), (0, .ref (a 0)), (1, .ref (pa 0))]) hx hb dX4_read_191 hl (k := 3) rfl (by rfl) (by decide) rfl (fun ls hl => ?_)
          refine lv_goto (tgt := 37) hx hb dX4_read_194 (by decide) ?_
          exact hk37 _ _ _ _ _ _ hf hP hD hS (lv_sub hl [2, 3, 0] rfl)
        · rw [if_neg c_19] at hf
          refine lv_aload_n hx hb dX4_read_181 rfl (lv_at hl 1 rfl) ?_
          refine lv_iconst (v := (1 : Int32)) hx hb dX4_read_182 (by decide) ?_
          obtain ⟨r21, hc21, hf⟩ := kb_bind hf
          refine kb_ci (ws2 := (w_Parser dA a r21.2 ++ (w_Plan dA pa z1))) (kb_rV (n := 1) (As := [.int (1 : Int32)]) (rest := []) hx hb hml hown hK (c_X4_failed l D dA H.size a z0 (1 : Int32) r21.1 r21.2 hc21) ⟨ww_3_49, ww_3_46, ww_3_48, ws_6, ww_1_2, rfl, by decide, by decide⟩ rfl rfl (by decide +kernel) ⟨Nat.le_of_ble_eq_true rfl, Nat.le_of_ble_eq_true rfl⟩ hP hD hS hA hE [0, 1] rfl (by decide) 0 rfl rfl rfl hl.1 rfl (Nat.le_of_ble_eq_true rfl) dX4_read_183 ⟨Nat.le_of_ble_eq_true rfl, Nat.le_of_ble_eq_true rfl⟩) hP hD hS hA [0, 1] [2, 3, 4, 5, 6, 7, 8, 9, 10, 11, 12, 13, 14, 15, 16, 17, 18, 19, 20, 21, 22] [21, 22, 0, 1, 2, 3, 4, 5, 6, 7, 8, 9, 10, 11, 12, 13, 14, 15, 16, 17, 18, 19, 20] rfl rfl (by decide) (by decide) rfl (by decide) (fun H locs hP hD hS => ?_)
          obtain ⟨h_22, hf⟩ := kb_if hf
          exact RET _ _ _ H _ ls 186 hf hP hD hS h_22 dX4_read_186
      · rw [if_pos c_18] at hf
        refine lv_aload_n hx hb dX4_read_151 rfl (lv_at hl 2 rfl) ?_
        obtain ⟨r23, hc23, hf⟩ := kb_bind hf
        refine kb_ci (ws2 := (w_Parser dA a z0 ++ (w_Plan dA pa z1))) (kb_rV (n := 0) (As := []) (rest := []) hx hb hml hown hK (c_X5_lacksSome l D dA H.size pa z1 r23 hc23) ⟨ww_3_168, ww_3_165, ww_3_166, ww_3_167, ww_1_3, rfl, by decide, by decide⟩ rfl rfl (by decide +kernel) ⟨Nat.le_of_ble_eq_true rfl, Nat.le_of_ble_eq_true rfl⟩ hP hD hS hA hE [2, 3, 4, 5, 6, 7, 8, 9, 10, 11, 12, 13, 14, 15, 16, 17, 18, 19, 20, 21, 22] rfl (by decide) 0 rfl rfl rfl hl.1 rfl (Nat.le_of_ble_eq_true rfl) dX4_read_152 ⟨Nat.le_of_ble_eq_true rfl, Nat.le_of_ble_eq_true rfl⟩) hP hD hS hA [2, 3, 4, 5, 6, 7, 8, 9, 10, 11, 12, 13, 14, 15, 16, 17, 18, 19, 20, 21, 22] [0, 1] [0, 1, 2, 3, 4, 5, 6, 7, 8, 9, 10, 11, 12, 13, 14, 15, 16, 17, 18, 19, 20, 21, 22] rfl rfl (by decide) (by decide) rfl (by decide) (fun H locs hP hD hS => ?_)
        refine lv_if_eq (tgt := 167) hx hb dX4_read_155 (by decide) (fun c_24 => ?_) (fun c_24 => ?_)
        · rw [if_pos c_24] at hf
          exact B_167 _ _ _ _ _ hf hP hD hS (lv_sub hl [] rfl)
        · rw [if_neg c_24] at hf
          refine lv_aload_n hx hb dX4_read_158 rfl (lv_at hl 1 rfl) ?_
          refine lv_bipush (v := (6 : Int32)) hx hb dX4_read_159 (by decide) ?_
          obtain ⟨r25, hc25, hf⟩ := kb_bind hf
          refine kb_ci (ws2 := (w_Parser dA a r25.2 ++ (w_Plan dA pa z1))) (kb_rV (n := 1) (As := [.int (6 : Int32)]) (rest := []) hx hb hml hown hK (c_X4_failed l D dA H.size a z0 (6 : Int32) r25.1 r25.2 hc25) ⟨ww_3_49, ww_3_46, ww_3_48, ws_6, ww_1_2, rfl, by decide, by decide⟩ rfl rfl (by decide +kernel) ⟨Nat.le_of_ble_eq_true rfl, Nat.le_of_ble_eq_true rfl⟩ hP hD hS hA hE [0, 1] rfl (by decide) 0 rfl rfl rfl hl.1 rfl (Nat.le_of_ble_eq_true rfl) dX4_read_161 ⟨Nat.le_of_ble_eq_true rfl, Nat.le_of_ble_eq_true rfl⟩) hP hD hS hA [0, 1] [2, 3, 4, 5, 6, 7, 8, 9, 10, 11, 12, 13, 14, 15, 16, 17, 18, 19, 20, 21, 22] [21, 22, 0, 1, 2, 3, 4, 5, 6, 7, 8, 9, 10, 11, 12, 13, 14, 15, 16, 17, 18, 19, 20] rfl rfl (by decide) (by decide) rfl (by decide) (fun H locs hP hD hS => ?_)
          refine lv_if_eq (tgt := 171) hx hb dX4_read_164 (by decide) (fun c_26 => ?_) (fun c_26 => ?_)
          · rw [if_pos c_26] at hf
            refine lv_iconst (v := (0 : Int32)) hx hb dX4_read_171 (by decide) ?_
            exact RET _ _ _ H _ ls 172 hf hP hD hS (by decide) dX4_read_172
          · rw [if_neg c_26] at hf
            exact B_167 _ _ _ _ _ hf hP hD hS (lv_sub hl [] rfl)
    · rw [if_pos c_17] at hf
      refine lv_iconst (v := (0 : Int32)) hx hb dX4_read_142 (by decide) ?_
      exact RET _ _ _ H _ ls 143 hf hP hD hS (by decide) dX4_read_143
  have B_37 : ∀ (n : Nat) (v3 : Int32) (z0 : ParserT) (z1 : PlanT) (H : Heap) (locs : List Loc) (ls : Array Slot), f_X4_read_b37 n v3 z0 z1 = some (rv, u0, u1) → va_P D vwCl (w_Parser dA a z0 ++ (w_Plan dA pa z1)) H → va_D A (w_Parser dA a z0 ++ (w_Plan dA pa z1)) → va_S A s.heap H locs → lv_has ls 5 [(0, .ref (a 0)), (1, .ref (pa 0)), (3, .int v3)] → W p l e ({ frames := 9, cells := 0, slots := 0, locals := 194 } : Room) s m ([.ref (a 0), .ref (pa 0), .int x1] : List Value).toArray below meth c H locs 0 0 Q (F0 m 37 ls []) := by
    intro n
    induction n with
    | zero =>
      intro v3 z0 z1 H locs ls hf
      exact absurd hf (by simp [f_X4_read_b37])
    | succ n ih =>
      intro v3 z0 z1 H locs ls hf hP hD hS hl
      rw [f_X4_read_b37] at hf
      refine lv_iload_n hx hb dX4_read_37 rfl (lv_at hl 2 rfl) ?_
      refine lv_aload_n hx hb dX4_read_38 rfl (lv_at hl 0 rfl) ?_
      refine va_get (D := D) (ci := 4) (v := .int (ps_end z0)) (C := RX4) (T := TX4) (N := 10) hx hb hts kb_inX4 hown hK.1 hP 0 rfl rfl 4 (by decide) (hK.2.w ww_1_46 rfl _) (fun _ h9 => h9) rfl dX4_read_39 ?_
      refine lv_icmp_gt (tgt := 197) hx hb dX4_read_42 (by decide) (fun c_3 => ?_) (fun c_3 => ?_)
      · rw [if_pos c_3] at hf
        refine lv_aload_n hx hb dX4_read_197 rfl (lv_at hl 0 rfl) ?_
        refine lv_iconst (v := (1 : Int32)) hx hb dX4_read_198 (by decide) ?_
        obtain ⟨r4, hc4, hf⟩ := kb_bind hf
        refine kb_ci (ws2 := (w_Parser dA a r4.2 ++ (w_Plan dA pa z1))) (kb_rV (n := 1) (As := [.int (1 : Int32)]) (rest := []) hx hb hml hown hK (c_X4_failed l D dA H.size a z0 (1 : Int32) r4.1 r4.2 hc4) ⟨ww_3_49, ww_3_46, ww_3_48, ws_6, ww_1_2, rfl, by decide, by decide⟩ rfl rfl (by decide +kernel) ⟨Nat.le_of_ble_eq_true rfl, Nat.le_of_ble_eq_true rfl⟩ hP hD hS hA hE [0, 1] rfl (by decide) 0 rfl rfl rfl hl.1 rfl (Nat.le_of_ble_eq_true rfl) dX4_read_199 ⟨Nat.le_of_ble_eq_true rfl, Nat.le_of_ble_eq_true rfl⟩) hP hD hS hA [0, 1] [2, 3, 4, 5, 6, 7, 8, 9, 10, 11, 12, 13, 14, 15, 16, 17, 18, 19, 20, 21, 22] [21, 22, 0, 1, 2, 3, 4, 5, 6, 7, 8, 9, 10, 11, 12, 13, 14, 15, 16, 17, 18, 19, 20] rfl rfl (by decide) (by decide) rfl (by decide) (fun H locs hP hD hS => ?_)
        obtain ⟨h_5, hf⟩ := kb_if hf
        exact RET _ _ _ H _ ls 202 hf hP hD hS h_5 dX4_read_202
      · rw [if_neg c_3] at hf
        refine lv_aload_n hx hb dX4_read_45 rfl (lv_at hl 0 rfl) ?_
        refine va_ldcS (tx := "bus") (q := dA (100 + 0)) hx hb hown (hE.2.2.2 ("BusSeats$Parser", 42, "bus", 0) (by decide)) dX4_read_46 ?_
        obtain ⟨r6, hc6, hf⟩ := kb_bind hf
        refine kb_ci (ws2 := (w_Parser dA a z0 ++ (w_Plan dA pa z1))) (kb_rV (n := 1) (As := [.ref (dA (100 + 0))]) (rest := []) hx hb hml hown hK (c_X4_isWord l D dA H.size a z0 0 (by decide) r6 hc6) ⟨ww_2_233, ww_2_230, ww_2_232, ws_4, ww_1_2, rfl, by decide, by decide⟩ rfl rfl (by decide +kernel) ⟨Nat.le_of_ble_eq_true rfl, Nat.le_of_ble_eq_true rfl⟩ hP hD hS hA hE [0, 1] rfl (by decide) 0 rfl rfl rfl hl.1 rfl (Nat.le_of_ble_eq_true rfl) dX4_read_48 ⟨Nat.le_of_ble_eq_true rfl, Nat.le_of_ble_eq_true rfl⟩) hP hD hS hA [0, 1] [2, 3, 4, 5, 6, 7, 8, 9, 10, 11, 12, 13, 14, 15, 16, 17, 18, 19, 20, 21, 22] [21, 22, 0, 1, 2, 3, 4, 5, 6, 7, 8, 9, 10, 11, 12, 13, 14, 15, 16, 17, 18, 19, 20] rfl rfl (by decide) (by decide) rfl (by decide) (fun H locs hP hD hS => ?_)
        refine lv_if_eq (tgt := 62) hx hb dX4_read_51 (by decide) (fun c_7 => ?_) (fun c_7 => ?_)
        · rw [if_pos c_7] at hf
          refine lv_aload_n hx hb dX4_read_62 rfl (lv_at hl 0 rfl) ?_
          refine va_ldcS (tx := "rule") (q := dA (100 + 10)) hx hb hown (hE.2.2.2 ("BusSeats$Parser", 52, "rule", 10) (by decide)) dX4_read_63 ?_
          obtain ⟨r8, hc8, hf⟩ := kb_bind hf
          refine kb_ci (ws2 := (w_Parser dA a z0 ++ (w_Plan dA pa z1))) (kb_rV (n := 1) (As := [.ref (dA (100 + 10))]) (rest := []) hx hb hml hown hK (c_X4_isWord l D dA H.size a z0 10 (by decide) r8 hc8) ⟨ww_2_233, ww_2_230, ww_2_232, ws_4, ww_1_2, rfl, by decide, by decide⟩ rfl rfl (by decide +kernel) ⟨Nat.le_of_ble_eq_true rfl, Nat.le_of_ble_eq_true rfl⟩ hP hD hS hA hE [0, 1] rfl (by decide) 0 rfl rfl rfl hl.1 rfl (Nat.le_of_ble_eq_true rfl) dX4_read_65 ⟨Nat.le_of_ble_eq_true rfl, Nat.le_of_ble_eq_true rfl⟩) hP hD hS hA [0, 1] [2, 3, 4, 5, 6, 7, 8, 9, 10, 11, 12, 13, 14, 15, 16, 17, 18, 19, 20, 21, 22] [21, 22, 0, 1, 2, 3, 4, 5, 6, 7, 8, 9, 10, 11, 12, 13, 14, 15, 16, 17, 18, 19, 20] rfl rfl (by decide) (by decide) rfl (by decide) (fun H locs hP hD hS => ?_)
          refine lv_if_eq (tgt := 79) hx hb dX4_read_68 (by decide) (fun c_9 => ?_) (fun c_9 => ?_)
          · rw [if_pos c_9] at hf
            refine lv_aload_n hx hb dX4_read_79 rfl (lv_at hl 0 rfl) ?_
            refine va_ldcS (tx := "rider") (q := dA (100 + 20)) hx hb hown (hE.2.2.2 ("BusSeats$Parser", 57, "rider", 20) (by decide)) dX4_read_80 ?_
            obtain ⟨r10, hc10, hf⟩ := kb_bind hf
            refine kb_ci (ws2 := (w_Parser dA a z0 ++ (w_Plan dA pa z1))) (kb_rV (n := 1) (As := [.ref (dA (100 + 20))]) (rest := []) hx hb hml hown hK (c_X4_isWord l D dA H.size a z0 20 (by decide) r10 hc10) ⟨ww_2_233, ww_2_230, ww_2_232, ws_4, ww_1_2, rfl, by decide, by decide⟩ rfl rfl (by decide +kernel) ⟨Nat.le_of_ble_eq_true rfl, Nat.le_of_ble_eq_true rfl⟩ hP hD hS hA hE [0, 1] rfl (by decide) 0 rfl rfl rfl hl.1 rfl (Nat.le_of_ble_eq_true rfl) dX4_read_82 ⟨Nat.le_of_ble_eq_true rfl, Nat.le_of_ble_eq_true rfl⟩) hP hD hS hA [0, 1] [2, 3, 4, 5, 6, 7, 8, 9, 10, 11, 12, 13, 14, 15, 16, 17, 18, 19, 20, 21, 22] [21, 22, 0, 1, 2, 3, 4, 5, 6, 7, 8, 9, 10, 11, 12, 13, 14, 15, 16, 17, 18, 19, 20] rfl rfl (by decide) (by decide) rfl (by decide) (fun H locs hP hD hS => ?_)
            refine lv_if_eq (tgt := 96) hx hb dX4_read_85 (by decide) (fun c_11 => ?_) (fun c_11 => ?_)
            · rw [if_pos c_11] at hf
              refine lv_aload_n hx hb dX4_read_96 rfl (lv_at hl 0 rfl) ?_
              refine va_ldcS (tx := "friends") (q := dA (100 + 21)) hx hb hown (hE.2.2.2 ("BusSeats$Parser", 62, "friends", 21) (by decide)) dX4_read_97 ?_
              obtain ⟨r12, hc12, hf⟩ := kb_bind hf
              refine kb_ci (ws2 := (w_Parser dA a z0 ++ (w_Plan dA pa z1))) (kb_rV (n := 1) (As := [.ref (dA (100 + 21))]) (rest := []) hx hb hml hown hK (c_X4_isWord l D dA H.size a z0 21 (by decide) r12 hc12) ⟨ww_2_233, ww_2_230, ww_2_232, ws_4, ww_1_2, rfl, by decide, by decide⟩ rfl rfl (by decide +kernel) ⟨Nat.le_of_ble_eq_true rfl, Nat.le_of_ble_eq_true rfl⟩ hP hD hS hA hE [0, 1] rfl (by decide) 0 rfl rfl rfl hl.1 rfl (Nat.le_of_ble_eq_true rfl) dX4_read_99 ⟨Nat.le_of_ble_eq_true rfl, Nat.le_of_ble_eq_true rfl⟩) hP hD hS hA [0, 1] [2, 3, 4, 5, 6, 7, 8, 9, 10, 11, 12, 13, 14, 15, 16, 17, 18, 19, 20, 21, 22] [21, 22, 0, 1, 2, 3, 4, 5, 6, 7, 8, 9, 10, 11, 12, 13, 14, 15, 16, 17, 18, 19, 20] rfl rfl (by decide) (by decide) rfl (by decide) (fun H locs hP hD hS => ?_)
              refine lv_if_eq (tgt := 113) hx hb dX4_read_102 (by decide) (fun c_13 => ?_) (fun c_13 => ?_)
              · rw [if_pos c_13] at hf
                refine lv_aload_n hx hb dX4_read_113 rfl (lv_at hl 0 rfl) ?_
                refine va_ldcS (tx := "holds") (q := dA (100 + 22)) hx hb hown (hE.2.2.2 ("BusSeats$Parser", 67, "holds", 22) (by decide)) dX4_read_114 ?_
                obtain ⟨r14, hc14, hf⟩ := kb_bind hf
                refine kb_ci (ws2 := (w_Parser dA a z0 ++ (w_Plan dA pa z1))) (kb_rV (n := 1) (As := [.ref (dA (100 + 22))]) (rest := []) hx hb hml hown hK (c_X4_isWord l D dA H.size a z0 22 (by decide) r14 hc14) ⟨ww_2_233, ww_2_230, ww_2_232, ws_4, ww_1_2, rfl, by decide, by decide⟩ rfl rfl (by decide +kernel) ⟨Nat.le_of_ble_eq_true rfl, Nat.le_of_ble_eq_true rfl⟩ hP hD hS hA hE [0, 1] rfl (by decide) 0 rfl rfl rfl hl.1 rfl (Nat.le_of_ble_eq_true rfl) dX4_read_116 ⟨Nat.le_of_ble_eq_true rfl, Nat.le_of_ble_eq_true rfl⟩) hP hD hS hA [0, 1] [2, 3, 4, 5, 6, 7, 8, 9, 10, 11, 12, 13, 14, 15, 16, 17, 18, 19, 20, 21, 22] [21, 22, 0, 1, 2, 3, 4, 5, 6, 7, 8, 9, 10, 11, 12, 13, 14, 15, 16, 17, 18, 19, 20] rfl rfl (by decide) (by decide) rfl (by decide) (fun H locs hP hD hS => ?_)
                refine lv_if_eq (tgt := 130) hx hb dX4_read_119 (by decide) (fun c_15 => ?_) (fun c_15 => ?_)
                · rw [if_pos c_15] at hf
                  refine lv_aload_n hx hb dX4_read_130 rfl (lv_at hl 0 rfl) ?_
                  refine lv_iconst (v := (1 : Int32)) hx hb dX4_read_131 (by decide) ?_
                  obtain ⟨r16, hc16, hf⟩ := kb_bind hf
                  refine kb_ci (ws2 := (w_Parser dA a r16.2 ++ (w_Plan dA pa z1))) (kb_rV (n := 1) (As := [.int (1 : Int32)]) (rest := []) hx hb hml hown hK (c_X4_failed l D dA H.size a z0 (1 : Int32) r16.1 r16.2 hc16) ⟨ww_3_49, ww_3_46, ww_3_48, ws_6, ww_1_2, rfl, by decide, by decide⟩ rfl rfl (by decide +kernel) ⟨Nat.le_of_ble_eq_true rfl, Nat.le_of_ble_eq_true rfl⟩ hP hD hS hA hE [0, 1] rfl (by decide) 0 rfl rfl rfl hl.1 rfl (Nat.le_of_ble_eq_true rfl) dX4_read_132 ⟨Nat.le_of_ble_eq_true rfl, Nat.le_of_ble_eq_true rfl⟩) hP hD hS hA [0, 1] [2, 3, 4, 5, 6, 7, 8, 9, 10, 11, 12, 13, 14, 15, 16, 17, 18, 19, 20, 21, 22] [21, 22, 0, 1, 2, 3, 4, 5, 6, 7, 8, 9, 10, 11, 12, 13, 14, 15, 16, 17, 18, 19, 20] rfl rfl (by decide) (by decide) rfl (by decide) (fun H locs hP hD hS => ?_)
                  exact B_135 (f_X4_read_b37 n) ih _ _ _ _ _ _ _ hf hP hD hS (lv_sub hl [0, 1, 2] rfl)
                · rw [if_neg c_15] at hf
                  refine lv_aload_n hx hb dX4_read_122 rfl (lv_at hl 0 rfl) ?_
                  refine lv_aload_n hx hb dX4_read_123 rfl (lv_at hl 1 rfl) ?_
                  obtain ⟨r27, hc27, hf⟩ := kb_bind hf
                  refine kb_ci (ws2 := (w_Parser dA a r27.2.1 ++ (w_Plan dA pa r27.2.2))) (kb_rV (n := 1) (As := [.ref (pa 0)]) (rest := []) hx hb hml hown hK (c_X4_readHolder l D dA H.size a pa z0 z1 r27.1 r27.2.1 r27.2.2 hc27) ⟨ww_3_162, ww_3_159, ww_3_161, ws_20, ww_1_2, rfl, by decide, by decide⟩ rfl rfl (by decide +kernel) ⟨Nat.le_of_ble_eq_true rfl, Nat.le_of_ble_eq_true rfl⟩ hP hD hS hA hE [0, 1, 2, 3, 4, 5, 6, 7, 8, 9, 10, 11, 12, 13, 14, 15, 16, 17, 18, 19, 20, 21, 22] rfl (by decide) 0 rfl rfl rfl hl.1 rfl (Nat.le_of_ble_eq_true rfl) dX4_read_124 ⟨Nat.le_of_ble_eq_true rfl, Nat.le_of_ble_eq_true rfl⟩) hP hD hS hA [0, 1, 2, 3, 4, 5, 6, 7, 8, 9, 10, 11, 12, 13, 14, 15, 16, 17, 18, 19, 20, 21, 22] [] [0, 1, 2, 3, 4, 5, 6, 7, 8, 9, 10, 11, 12, 13, 14, 15, 16, 17, 18, 19, 20, 21, 22] rfl rfl (by decide) (by decide) rfl (by decide) (fun H locs hP hD hS => ?_)
                  refine lv_goto (tgt := 135) hx hb dX4_read_127 (by decide) ?_
                  exact B_135 (f_X4_read_b37 n) ih _ _ _ _ _ _ _ hf hP hD hS (lv_sub hl [0, 1, 2] rfl)
              · rw [if_neg c_13] at hf
                refine lv_aload_n hx hb dX4_read_105 rfl (lv_at hl 0 rfl) ?_
                refine lv_aload_n hx hb dX4_read_106 rfl (lv_at hl 1 rfl) ?_
                obtain ⟨r28, hc28, hf⟩ := kb_bind hf
                refine kb_ci (ws2 := (w_Parser dA a r28.2.1 ++ (w_Plan dA pa r28.2.2))) (kb_rV (n := 1) (As := [.ref (pa 0)]) (rest := []) hx hb hml hown hK (c_X4_readFriends l D dA H.size a pa z0 z1 r28.1 r28.2.1 r28.2.2 hc28) ⟨ww_3_151, ww_3_148, ww_3_150, ws_18, ww_1_2, rfl, by decide, by decide⟩ rfl rfl (by decide +kernel) ⟨Nat.le_of_ble_eq_true rfl, Nat.le_of_ble_eq_true rfl⟩ hP hD hS hA hE [0, 1, 2, 3, 4, 5, 6, 7, 8, 9, 10, 11, 12, 13, 14, 15, 16, 17, 18, 19, 20, 21, 22] rfl (by decide) 0 rfl rfl rfl hl.1 rfl (Nat.le_of_ble_eq_true rfl) dX4_read_107 ⟨Nat.le_of_ble_eq_true rfl, Nat.le_of_ble_eq_true rfl⟩) hP hD hS hA [0, 1, 2, 3, 4, 5, 6, 7, 8, 9, 10, 11, 12, 13, 14, 15, 16, 17, 18, 19, 20, 21, 22] [] [0, 1, 2, 3, 4, 5, 6, 7, 8, 9, 10, 11, 12, 13, 14, 15, 16, 17, 18, 19, 20, 21, 22] rfl rfl (by decide) (by decide) rfl (by decide) (fun H locs hP hD hS => ?_)
                refine lv_goto (tgt := 135) hx hb dX4_read_110 (by decide) ?_
                exact B_135 (f_X4_read_b37 n) ih _ _ _ _ _ _ _ hf hP hD hS (lv_sub hl [0, 1, 2] rfl)
            · rw [if_neg c_11] at hf
              refine lv_aload_n hx hb dX4_read_88 rfl (lv_at hl 0 rfl) ?_
              refine lv_aload_n hx hb dX4_read_89 rfl (lv_at hl 1 rfl) ?_
              obtain ⟨r29, hc29, hf⟩ := kb_bind hf
              refine kb_ci (ws2 := (w_Parser dA a r29.2.1 ++ (w_Plan dA pa r29.2.2))) (kb_rV (n := 1) (As := [.ref (pa 0)]) (rest := []) hx hb hml hown hK (c_X4_readRider l D dA H.size a pa z0 z1 r29.1 r29.2.1 r29.2.2 hc29) ⟨ww_3_138, ww_3_135, ww_3_137, ws_16, ww_1_2, rfl, by decide, by decide⟩ rfl rfl (by decide +kernel) ⟨Nat.le_of_ble_eq_true rfl, Nat.le_of_ble_eq_true rfl⟩ hP hD hS hA hE [0, 1, 2, 3, 4, 5, 6, 7, 8, 9, 10, 11, 12, 13, 14, 15, 16, 17, 18, 19, 20, 21, 22] rfl (by decide) 0 rfl rfl rfl hl.1 rfl (Nat.le_of_ble_eq_true rfl) dX4_read_90 ⟨Nat.le_of_ble_eq_true rfl, Nat.le_of_ble_eq_true rfl⟩) hP hD hS hA [0, 1, 2, 3, 4, 5, 6, 7, 8, 9, 10, 11, 12, 13, 14, 15, 16, 17, 18, 19, 20, 21, 22] [] [0, 1, 2, 3, 4, 5, 6, 7, 8, 9, 10, 11, 12, 13, 14, 15, 16, 17, 18, 19, 20, 21, 22] rfl rfl (by decide) (by decide) rfl (by decide) (fun H locs hP hD hS => ?_)
              refine lv_goto (tgt := 135) hx hb dX4_read_93 (by decide) ?_
              exact B_135 (f_X4_read_b37 n) ih _ _ _ _ _ _ _ hf hP hD hS (lv_sub hl [0, 1, 2] rfl)
          · rw [if_neg c_9] at hf
            refine lv_aload_n hx hb dX4_read_71 rfl (lv_at hl 0 rfl) ?_
            refine lv_aload_n hx hb dX4_read_72 rfl (lv_at hl 1 rfl) ?_
            obtain ⟨r30, hc30, hf⟩ := kb_bind hf
            refine kb_ci (ws2 := (w_Parser dA a r30.2.1 ++ (w_Plan dA pa r30.2.2))) (kb_rV (n := 1) (As := [.ref (pa 0)]) (rest := []) hx hb hml hown hK (c_X4_readRule l D dA H.size a pa z0 z1 r30.1 r30.2.1 r30.2.2 hc30) ⟨ww_3_89, ww_3_86, ww_3_88, ws_11, ww_1_2, rfl, by decide, by decide⟩ rfl rfl (by decide +kernel) ⟨Nat.le_of_ble_eq_true rfl, Nat.le_of_ble_eq_true rfl⟩ hP hD hS hA hE [0, 1, 2, 3, 4, 5, 6, 7, 8, 9, 10, 11, 12, 13, 14, 15, 16, 17, 18, 19, 20, 21, 22] rfl (by decide) 0 rfl rfl rfl hl.1 rfl (Nat.le_of_ble_eq_true rfl) dX4_read_73 ⟨Nat.le_of_ble_eq_true rfl, Nat.le_of_ble_eq_true rfl⟩) hP hD hS hA [0, 1, 2, 3, 4, 5, 6, 7, 8, 9, 10, 11, 12, 13, 14, 15, 16, 17, 18, 19, 20, 21, 22] [] [0, 1, 2, 3, 4, 5, 6, 7, 8, 9, 10, 11, 12, 13, 14, 15, 16, 17, 18, 19, 20, 21, 22] rfl rfl (by decide) (by decide) rfl (by decide) (fun H locs hP hD hS => ?_)
            refine lv_goto (tgt := 135) hx hb dX4_read_76 (by decide) ?_
            exact B_135 (f_X4_read_b37 n) ih _ _ _ _ _ _ _ hf hP hD hS (lv_sub hl [0, 1, 2] rfl)
        · rw [if_neg c_7] at hf
          refine lv_aload_n hx hb dX4_read_54 rfl (lv_at hl 0 rfl) ?_
          refine lv_aload_n hx hb dX4_read_55 rfl (lv_at hl 1 rfl) ?_
          obtain ⟨r31, hc31, hf⟩ := kb_bind hf
          refine kb_ci (ws2 := (w_Parser dA a r31.2.1 ++ (w_Plan dA pa r31.2.2))) (kb_rV (n := 1) (As := [.ref (pa 0)]) (rest := []) hx hb hml hown hK (c_X4_readBus l D dA H.size a pa z0 z1 r31.1 r31.2.1 r31.2.2 hc31) ⟨ww_3_45, ww_3_42, ww_3_44, ws_5, ww_1_2, rfl, by decide, by decide⟩ rfl rfl (by decide +kernel) ⟨Nat.le_of_ble_eq_true rfl, Nat.le_of_ble_eq_true rfl⟩ hP hD hS hA hE [0, 1, 2, 3, 4, 5, 6, 7, 8, 9, 10, 11, 12, 13, 14, 15, 16, 17, 18, 19, 20, 21, 22] rfl (by decide) 0 rfl rfl rfl hl.1 rfl (Nat.le_of_ble_eq_true rfl) dX4_read_56 ⟨Nat.le_of_ble_eq_true rfl, Nat.le_of_ble_eq_true rfl⟩) hP hD hS hA [0, 1, 2, 3, 4, 5, 6, 7, 8, 9, 10, 11, 12, 13, 14, 15, 16, 17, 18, 19, 20, 21, 22] [] [0, 1, 2, 3, 4, 5, 6, 7, 8, 9, 10, 11, 12, 13, 14, 15, 16, 17, 18, 19, 20, 21, 22] rfl rfl (by decide) (by decide) rfl (by decide) (fun H locs hP hD hS => ?_)
          refine lv_goto (tgt := 135) hx hb dX4_read_59 (by decide) ?_
          exact B_135 (f_X4_read_b37 n) ih _ _ _ _ _ _ _ hf hP hD hS (lv_sub hl [0, 1, 2] rfl)
  have B_35 : ∀ (z0 : ParserT) (z1 : PlanT) (H : Heap) (locs : List Loc) (ls : Array Slot), f_X4_read_b35 z0 z1 = some (rv, u0, u1) → va_P D vwCl (w_Parser dA a z0 ++ (w_Plan dA pa z1)) H → va_D A (w_Parser dA a z0 ++ (w_Plan dA pa z1)) → va_S A s.heap H locs → lv_has ls 5 [(0, .ref (a 0)), (1, .ref (pa 0))] → W p l e ({ frames := 9, cells := 0, slots := 0, locals := 194 } : Room) s m ([.ref (a 0), .ref (pa 0), .int x1] : List Value).toArray below meth c H locs 0 0 Q (F0 m 35 ls []) := by
    intro z0 z1 H locs ls hf hP hD hS hl
    rw [f_X4_read_b35] at hf
    refine lv_iconst (v := (0 : Int32)) hx hb dX4_read_35 (by decide) ?_
    refine lv_istore_n (lv' := [(3, .int (0 : Int32)), (0, .ref (a 0)), (1, .ref (pa 0))]) hx hb dX4_read_36 rfl hl (by decide) rfl (fun ls hl => ?_)
    exact B_37 4096 _ _ _ _ _ _ hf hP hD hS (lv_sub hl [1, 2, 0] rfl)
  have B_26 : ∀ (z0 : ParserT) (z1 : PlanT) (H : Heap) (locs : List Loc) (ls : Array Slot), f_X4_read_b26 z0 z1 = some (rv, u0, u1) → va_P D vwCl (w_Parser dA a z0 ++ (w_Plan dA pa z1)) H → va_D A (w_Parser dA a z0 ++ (w_Plan dA pa z1)) → va_S A s.heap H locs → lv_has ls 5 [(0, .ref (a 0)), (1, .ref (pa 0))] → W p l e ({ frames := 9, cells := 0, slots := 0, locals := 194 } : Room) s m ([.ref (a 0), .ref (pa 0), .int x1] : List Value).toArray below meth c H locs 0 0 Q (F0 m 26 ls []) := by
    intro z0 z1 H locs ls hf hP hD hS hl
    rw [f_X4_read_b26] at hf
    refine lv_aload_n hx hb dX4_read_26 rfl (lv_at hl 0 rfl) ?_
    refine lv_iconst (v := (0 : Int32)) hx hb dX4_read_27 (by decide) ?_
    refine va_put (D := D) (ci := 4) (v := .int (0 : Int32)) (ty := .int) (C := RX4) (T := TX4) (N := 10) hx hb hts kb_inX4 tyX4 tyX4_ok nmX4 hown hK.1 hP hD hS 0 rfl rfl 1 (by decide) (hK.2.w ww_1_41 rfl _) (fun _ h9 => h9) rfl (by decide +kernel) rfl rfl (Nat.le_of_ble_eq_true rfl) dX4_read_28 (fun H locs hP hD hS => ?_)
    have hP : va_P D vwCl (w_Parser dA a (ps_set_fault z0 (0 : Int32)) ++ (w_Plan dA pa z1)) H := hP
    have hD : va_D A (w_Parser dA a (ps_set_fault z0 (0 : Int32)) ++ (w_Plan dA pa z1)) := hD
    refine lv_aload_n hx hb dX4_read_31 rfl (lv_at hl 0 rfl) ?_
    obtain ⟨r2, hc2, hf⟩ := kb_bind hf
    refine kb_cv (ws2 := (w_Parser dA a r2 ++ (w_Plan dA pa z1))) (kb_rV (n := 0) (As := []) (rest := []) hx hb hml hown hK (c_X4_advance l D dA H.size a (ps_set_fault z0 (0 : Int32)) r2 hc2) ⟨ww_2_219, ww_2_216, ww_2_218, ws_1, ww_1_2, rfl, by decide, by decide⟩ rfl rfl (by decide +kernel) ⟨Nat.le_of_ble_eq_true rfl, Nat.le_of_ble_eq_true rfl⟩ hP hD hS hA hE [0, 1] rfl (by decide) 0 rfl rfl rfl hl.1 rfl (Nat.le_of_ble_eq_true rfl) dX4_read_32 ⟨Nat.le_of_ble_eq_true rfl, Nat.le_of_ble_eq_true rfl⟩) hP hD hS hA [0, 1] [2, 3, 4, 5, 6, 7, 8, 9, 10, 11, 12, 13, 14, 15, 16, 17, 18, 19, 20, 21, 22] [21, 22, 0, 1, 2, 3, 4, 5, 6, 7, 8, 9, 10, 11, 12, 13, 14, 15, 16, 17, 18, 19, 20] rfl rfl (by decide) (by decide) rfl (by decide) (fun H locs hP hD hS => ?_)
    exact B_35 _ _ _ _ _ hf hP hD hS (lv_sub hl [0, 1] rfl)
  have B_16 : ∀ (z0 : ParserT) (z1 : PlanT) (H : Heap) (locs : List Loc) (ls : Array Slot), f_X4_read_b16 z0 z1 = some (rv, u0, u1) → va_P D vwCl (w_Parser dA a z0 ++ (w_Plan dA pa z1)) H → va_D A (w_Parser dA a z0 ++ (w_Plan dA pa z1)) → va_S A s.heap H locs → lv_has ls 5 [(0, .ref (a 0)), (1, .ref (pa 0))] → W p l e ({ frames := 9, cells := 0, slots := 0, locals := 194 } : Room) s m ([.ref (a 0), .ref (pa 0), .int x1] : List Value).toArray below meth c H locs 0 0 Q (F0 m 16 ls []) := by
    intro z0 z1 H locs ls hf hP hD hS hl
    rw [f_X4_read_b16] at hf
    refine lv_aload_n hx hb dX4_read_16 rfl (lv_at hl 0 rfl) ?_
    refine lv_iconst (v := (0 : Int32)) hx hb dX4_read_17 (by decide) ?_
    refine va_put (D := D) (ci := 4) (v := .int (0 : Int32)) (ty := .int) (C := RX4) (T := TX4) (N := 10) hx hb hts kb_inX4 tyX4 tyX4_ok nmX4 hown hK.1 hP hD hS 0 rfl rfl 0 (by decide) (hK.2.w ww_1_40 rfl _) (fun _ h9 => h9) rfl (by decide +kernel) rfl rfl (Nat.le_of_ble_eq_true rfl) dX4_read_18 (fun H locs hP hD hS => ?_)
    have hP : va_P D vwCl (w_Parser dA a (ps_set_length z0 (0 : Int32)) ++ (w_Plan dA pa z1)) H := hP
    have hD : va_D A (w_Parser dA a (ps_set_length z0 (0 : Int32)) ++ (w_Plan dA pa z1)) := hD
    refine lv_aload_n hx hb dX4_read_21 rfl (lv_at hl 0 rfl) ?_
    refine lv_iconst (v := (0 : Int32)) hx hb dX4_read_22 (by decide) ?_
    refine va_put (D := D) (ci := 4) (v := .int (0 : Int32)) (ty := .int) (C := RX4) (T := TX4) (N := 10) hx hb hts kb_inX4 tyX4 tyX4_ok nmX4 hown hK.1 hP hD hS 0 rfl rfl 5 (by decide) (hK.2.w ww_1_47 rfl _) (fun _ h9 => h9) rfl (by decide +kernel) rfl rfl (Nat.le_of_ble_eq_true rfl) dX4_read_23 (fun H locs hP hD hS => ?_)
    have hP : va_P D vwCl (w_Parser dA a (ps_set_next (ps_set_length z0 (0 : Int32)) (0 : Int32)) ++ (w_Plan dA pa z1)) H := hP
    have hD : va_D A (w_Parser dA a (ps_set_next (ps_set_length z0 (0 : Int32)) (0 : Int32)) ++ (w_Plan dA pa z1)) := hD
    exact B_26 _ _ _ _ _ hf hP hD hS (lv_sub hl [0, 1] rfl)
  have E0 : ∀ (H : Heap) (locs : List Loc), va_P D vwCl (w_Parser dA a ps ++ (w_Plan dA pa pl)) H → va_D A (w_Parser dA a ps ++ (w_Plan dA pa pl)) → va_S A s.heap H locs → W p l e ({ frames := 9, cells := 0, slots := 0, locals := 194 } : Room) s m ([.ref (a 0), .ref (pa 0), .int x1] : List Value).toArray below meth c H locs 0 0 Q (F0 m 0 ls []) := by
    intro H locs hP hD hS
    rw [f_X4_read] at hf
    refine lv_aload_n hx hb dX4_read_0 rfl (lv_at hl 1 rfl) ?_
    obtain ⟨r1, hc1, hf⟩ := kb_bind hf
    refine kb_cv (ws2 := (w_Parser dA a ps ++ (w_Plan dA pa r1))) (kb_rV (n := 0) (As := []) (rest := []) hx hb hml hown hK (c_X5_clear l D dA H.size pa pl r1 hc1) ⟨ww_2_212, ww_2_209, ww_2_210, ww_2_211, ww_1_3, rfl, by decide, by decide⟩ rfl rfl (by decide +kernel) ⟨Nat.le_of_ble_eq_true rfl, Nat.le_of_ble_eq_true rfl⟩ hP hD hS hA hE [2, 3, 4, 5, 6, 7, 8, 9, 10, 11, 12, 13, 14, 15, 16, 17, 18, 19, 20, 21, 22] rfl (by decide) 0 rfl rfl rfl hl.1 rfl (Nat.le_of_ble_eq_true rfl) dX4_read_1 ⟨Nat.le_of_ble_eq_true rfl, Nat.le_of_ble_eq_true rfl⟩) hP hD hS hA [2, 3, 4, 5, 6, 7, 8, 9, 10, 11, 12, 13, 14, 15, 16, 17, 18, 19, 20, 21, 22] [0, 1] [0, 1, 2, 3, 4, 5, 6, 7, 8, 9, 10, 11, 12, 13, 14, 15, 16, 17, 18, 19, 20, 21, 22] rfl rfl (by decide) (by decide) rfl (by decide) (fun H locs hP hD hS => ?_)
    refine lv_aload_n hx hb dX4_read_4 rfl (lv_at hl 0 rfl) ?_
    refine lv_iload_n hx hb dX4_read_5 rfl (lv_at hl 2 rfl) ?_
    refine lv_aload_n hx hb dX4_read_6 rfl (lv_at hl 0 rfl) ?_
    refine va_get (D := D) (ci := 4) (v := .int (ps_length ps)) (C := RX4) (T := TX4) (N := 10) hx hb hts kb_inX4 hown hK.1 hP 0 rfl rfl 0 (by decide) (hK.2.w ww_1_40 rfl _) (fun _ h9 => h9) rfl dX4_read_7 ?_
    refine va_mmin hx hb (hml.trans hl.1.symm) hown (hK.2.w ww_2_213 rfl _) (hK.2.w ww_2_214 rfl _) (hK.2.w ww_1_13 rfl _) (hK.2.w ww_2_215 rfl _) (Nat.le_of_ble_eq_true rfl) (Nat.le_of_ble_eq_true rfl) (Nat.le_of_ble_eq_true rfl) (Nat.le_of_ble_eq_true rfl) dX4_read_10 ?_
    refine va_put (D := D) (ci := 4) (v := .int (if (ps_length ps) < x1 then (ps_length ps) else x1)) (ty := .int) (C := RX4) (T := TX4) (N := 10) hx hb hts kb_inX4 tyX4 tyX4_ok nmX4 hown hK.1 hP hD hS 0 rfl rfl 4 (by decide) (hK.2.w ww_1_46 rfl _) (fun _ h9 => h9) rfl (by decide +kernel) rfl rfl (Nat.le_of_ble_eq_true rfl) dX4_read_13 (fun H locs hP hD hS => ?_)
    have hP : va_P D vwCl (w_Parser dA a (ps_set_end ps (if (ps_length ps) < x1 then (ps_length ps) else x1)) ++ (w_Plan dA pa r1)) H := hP
    have hD : va_D A (w_Parser dA a (ps_set_end ps (if (ps_length ps) < x1 then (ps_length ps) else x1)) ++ (w_Plan dA pa r1)) := hD
    exact B_16 _ _ _ _ _ hf hP hD hS (lv_sub hl [0, 1] rfl)
  exact E0 _ _ hP hD hS
