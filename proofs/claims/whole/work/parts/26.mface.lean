noncomputable def f_X12_stop_b41 (y_looks : LooksT) (bu : BusT) (z0 : MOT) (z1 : WT) (z3 : WhoT) (z4 : LookT) : Option (Int32 × MOT × WT × WhoT × LookT) := if kb_in? (52 : Int32) 56 then if kb_in? (((40 : Int32) + ((yW_r z1) ((52 : Int32)).toNatClampNeg)) - (1 : Int32)) 56 then (f_X12_done z0 ((yW_r z1) ((((40 : Int32) + ((yW_r z1) ((52 : Int32)).toNatClampNeg)) - (1 : Int32))).toNatClampNeg)).bind fun r6 => some (r6.1, r6.2, z1, z3, z4) else none else none
noncomputable def f_X12_stop_b5 (y_looks : LooksT) (bu : BusT) (z0 : MOT) (z1 : WT) (z3 : WhoT) (z4 : LookT) : Option (Int32 × MOT × WT × WhoT × LookT) := if kb_in? (52 : Int32) 56 then (if ((yW_r z1) ((52 : Int32)).toNatClampNeg) = (12 : Int32) then (f_X12_refused z0 (6 : Int32)).bind fun r7 => some (r7.1, r7.2, z1, z3, z4) else (f_X12_passes z0 z1 y_looks z3 z4 bu).bind fun r3 => f_X12_stop_b41 y_looks bu z0 r3.1 r3.2.1 r3.2.2) else none
noncomputable def f_X12_stop (mo : MOT) (y_w : WT) (y_looks : LooksT) (y_who : WhoT) (y_look : LookT) (bu : BusT) : Option (Int32 × MOT × WT × WhoT × LookT) := f_X12_stop_b5 y_looks bu (mo_set_thrown mo (0 : Int32)) y_w y_who y_look
set_option maxHeartbeats 4000000 in
set_option maxRecDepth 100000 in
theorem c_X12_stop (l : Launch) (D : va_G) (dA : Nat → ClassId) (sz : Nat) (a : Nat → Nat) (wa : Nat → Nat) (la : Nat → Nat) (ha : Nat → Nat) (ca : Nat → Nat) (ba : Nat → Nat) (q1 : Option Nat) (g2 : Nat) (g3 : Nat) (g4 : Nat) (g5 : Nat) (g10 : Nat) (g11 : Nat) (g12 : Nat) (g13 : Nat) (g14 : Nat) (g15 : Nat) (g16 : Nat) (g17 : Nat) (g18 : Nat) (mo : MOT) (y_w : WT) (y_looks : LooksT) (y_who : WhoT) (y_look : LookT) (bu : BusT) (rv : Int32) (u0 : MOT) (u1 : WT) (u3 : WhoT) (u4 : LookT) (hf : f_X12_stop mo y_w y_looks y_who y_look bu = some (rv, u0, u1, u3, u4)) : kb_Mi l yX12_stop cX12_stop 1 (some .int) ({ frames := 11, cells := 0, slots := 0, locals := 253 } : Room) D dA [.ref (a 0)] sz (w_MO dA a (some (ba 0)) q1 g2 g3 g4 g5 (wa 0) (la 0) (ha 0) (ca 0) g10 g11 g12 g13 g14 g15 g16 g17 g18 mo ++ (w_W dA wa y_w ++ (w_Looks dA la y_looks ++ (w_Who dA ha y_who ++ (w_Look dA ca y_look ++ (w_Bus dA ba bu)))))) 0 0 rv (w_MO dA a (some (ba 0)) q1 g2 g3 g4 g5 (wa 0) (la 0) (ha 0) (ca 0) g10 g11 g12 g13 g14 g15 g16 g17 g18 u0 ++ (w_W dA wa u1 ++ (w_Looks dA la y_looks ++ (w_Who dA ha u3 ++ (w_Look dA ca u4 ++ (w_Bus dA ba bu)))))) := by
  refine Met.ofW (cc := cX12_stop) (maxL := 1) (ret := (some .int)) (by decide) rfl ?_
  intro p e s m args below meth c s₁ B hml hv
  obtain ⟨rfl, hsz, hP, hK, hD0, hE⟩ := hv
  have hx := B.exec
  have hb := B.bytes
  have hr := B.returns
  have hown : s.vm.findClass RX12 = some m.cls := findClass_of_methodNamed B.named
  have hlocks := B.notSynchronized
  have hts : ∀ w ∈ kb_gw, w.before ([.ref (a 0)] : List Value).toArray s = true := fun w hw => hK.2.1 w hw _
  subst hsz
  have hD := hD0.self (sz := s.heap.size)
  generalize hAe : va_A (w_MO dA a (some (ba 0)) q1 g2 g3 g4 g5 (wa 0) (la 0) (ha 0) (ca 0) g10 g11 g12 g13 g14 g15 g16 g17 g18 mo ++ (w_W dA wa y_w ++ (w_Looks dA la y_looks ++ (w_Who dA ha y_who ++ (w_Look dA ca y_look ++ (w_Bus dA ba bu)))))) s.heap.size = A at hD hE ⊢
  have hA : ∀ q : Nat, s.heap.size ≤ q → A q := fun q h => by rw [← hAe]; exact Or.inr h
  have hS : va_S A s.heap s.heap [] := va_S.rf
  have hl := lv_entry ([.ref (a 0)]) (n := 1) (Nat.le_of_ble_eq_true rfl)
  rw [lg_entry_eq]
  generalize (lg_sl ([.ref (a 0)]) ++ List.replicate (1 - (lg_sl ([.ref (a 0)])).length) Slot.unset).toArray = ls at hl ⊢
  have hl : lv_has ls 1 [(0, .ref (a 0))] := hl
  generalize hQ : MQ below (va_Qi (fun r (_ : Unit) => r = rv) (kb_B D A (w_MO dA a (some (ba 0)) q1 g2 g3 g4 g5 (wa 0) (la 0) (ha 0) (ca 0) g10 g11 g12 g13 g14 g15 g16 g17 g18 u0 ++ (w_W dA wa u1 ++ (w_Looks dA la y_looks ++ (w_Who dA ha u3 ++ (w_Look dA ca u4 ++ (w_Bus dA ba bu))))))) A) ([.ref (a 0)] : List Value).toArray s 0 0 A = Q
  show W p l e ({ frames := 11, cells := 0, slots := 0, locals := 253 } : Room) s m ([.ref (a 0)] : List Value).toArray below meth c s.heap [] 0 0 Q (F0 m 0 ls [])
  have RET : ∀ (r2 : Int32) (w0 : MOT) (w1 : WT) (w3 : WhoT) (w4 : LookT) (H : Heap) (locs : List Loc) (ls : Array Slot) (pc : Nat), some (r2, w0, w1, w3, w4) = some (rv, u0, u1, u3, u4) → va_P D vwCl (w_MO dA a (some (ba 0)) q1 g2 g3 g4 g5 (wa 0) (la 0) (ha 0) (ca 0) g10 g11 g12 g13 g14 g15 g16 g17 g18 w0 ++ (w_W dA wa w1 ++ (w_Looks dA la y_looks ++ (w_Who dA ha w3 ++ (w_Look dA ca w4 ++ (w_Bus dA ba bu)))))) H → va_D A (w_MO dA a (some (ba 0)) q1 g2 g3 g4 g5 (wa 0) (la 0) (ha 0) (ca 0) g10 g11 g12 g13 g14 g15 g16 g17 g18 w0 ++ (w_W dA wa w1 ++ (w_Looks dA la y_looks ++ (w_Who dA ha w3 ++ (w_Look dA ca w4 ++ (w_Bus dA ba bu)))))) → va_S A s.heap H locs → decode cX12_stop pc = .ok (.ireturn, 1) → W p l e ({ frames := 11, cells := 0, slots := 0, locals := 253 } : Room) s m ([.ref (a 0)] : List Value).toArray below meth c H locs 0 0 Q (F0 m pc ls [.int r2]) := by
    intro r2 w0 w1 w3 w4 H locs ls pc hq hP hD hS hd
    cases hq
    rw [← hQ]
    exact W.iret hx hb hr (fun t ht hW => ⟨⟨_, (), rfl, rfl, by rw [ht]; exact hP, hD⟩, hS.F ht⟩) hS.2.2 hd
  have B_41 : ∀ (z0 : MOT) (z1 : WT) (z3 : WhoT) (z4 : LookT) (H : Heap) (locs : List Loc) (ls : Array Slot), f_X12_stop_b41 y_looks bu z0 z1 z3 z4 = some (rv, u0, u1, u3, u4) → va_P D vwCl (w_MO dA a (some (ba 0)) q1 g2 g3 g4 g5 (wa 0) (la 0) (ha 0) (ca 0) g10 g11 g12 g13 g14 g15 g16 g17 g18 z0 ++ (w_W dA wa z1 ++ (w_Looks dA la y_looks ++ (w_Who dA ha z3 ++ (w_Look dA ca z4 ++ (w_Bus dA ba bu)))))) H → va_D A (w_MO dA a (some (ba 0)) q1 g2 g3 g4 g5 (wa 0) (la 0) (ha 0) (ca 0) g10 g11 g12 g13 g14 g15 g16 g17 g18 z0 ++ (w_W dA wa z1 ++ (w_Looks dA la y_looks ++ (w_Who dA ha z3 ++ (w_Look dA ca z4 ++ (w_Bus dA ba bu)))))) → va_S A s.heap H locs → lv_has ls 1 [(0, .ref (a 0))] → W p l e ({ frames := 11, cells := 0, slots := 0, locals := 253 } : Room) s m ([.ref (a 0)] : List Value).toArray below meth c H locs 0 0 Q (F0 m 41 ls []) := by
    intro z0 z1 z3 z4 H locs ls hf hP hD hS hl
    rw [f_X12_stop_b41] at hf
    refine lv_aload_n hx hb dX12_stop_41 rfl (lv_at hl 0 rfl) ?_
    refine lv_aload_n hx hb dX12_stop_42 rfl (lv_at hl 0 rfl) ?_
    refine va_get (D := D) (ci := 12) (v := .ref (wa 0)) (C := RX12) (T := TX12) (N := 35) hx hb hts kb_inX12 hown hK.1 hP 0 rfl rfl 19 (by decide) (hK.2.w ww_5_219 rfl _) (fun _ h9 => h9) rfl dX12_stop_43 ?_
    refine lv_bipush (v := (40 : Int32)) hx hb dX12_stop_46 (by decide) ?_
    refine lv_aload_n hx hb dX12_stop_48 rfl (lv_at hl 0 rfl) ?_
    refine va_get (D := D) (ci := 12) (v := .ref (wa 0)) (C := RX12) (T := TX12) (N := 35) hx hb hts kb_inX12 hown hK.1 hP 0 rfl rfl 19 (by decide) (hK.2.w ww_5_219 rfl _) (fun _ h9 => h9) rfl dX12_stop_49 ?_
    refine lv_bipush (v := (52 : Int32)) hx hb dX12_stop_52 (by decide) ?_
    obtain ⟨h_4, hf⟩ := kb_if hf
    refine va_iald (D := D) hx hb hK.1 hP 1 0 rfl rfl h_4 dX12_stop_54 ?_
    refine lv_iadd hx hb dX12_stop_55 ?_
    refine lv_iconst (v := (1 : Int32)) hx hb dX12_stop_56 (by decide) ?_
    refine lv_isub hx hb dX12_stop_57 ?_
    obtain ⟨h_5, hf⟩ := kb_if hf
    refine va_iald (D := D) hx hb hK.1 hP 1 0 rfl rfl h_5 dX12_stop_58 ?_
    obtain ⟨r6, hc6, hf⟩ := kb_bind hf
    refine kb_ci (ws2 := (w_MO dA a (some (ba 0)) q1 g2 g3 g4 g5 (wa 0) (la 0) (ha 0) (ca 0) g10 g11 g12 g13 g14 g15 g16 g17 g18 r6.2 ++ (w_W dA wa z1 ++ (w_Looks dA la y_looks ++ (w_Who dA ha z3 ++ (w_Look dA ca z4 ++ (w_Bus dA ba bu))))))) (kb_rV (n := 1) (As := [.int ((yW_r z1) ((((40 : Int32) + ((yW_r z1) ((52 : Int32)).toNatClampNeg)) - (1 : Int32))).toNatClampNeg)]) (rest := []) hx hb hml hown hK (c_X12_done l D dA H.size a (some (ba 0)) q1 g2 g3 g4 g5 (wa 0) (la 0) (ha 0) (ca 0) g10 g11 g12 g13 g14 g15 g16 g17 g18 z0 ((yW_r z1) ((((40 : Int32) + ((yW_r z1) ((52 : Int32)).toNatClampNeg)) - (1 : Int32))).toNatClampNeg) r6.1 r6.2 hc6) ⟨ww_7_100, ww_7_97, ww_7_99, ws_71, ww_1_12, rfl, by decide, by decide⟩ rfl rfl (by decide +kernel) ⟨Nat.le_of_ble_eq_true rfl, Nat.le_of_ble_eq_true rfl⟩ hP hD hS hA hE [0] rfl (by decide) 0 rfl rfl rfl hl.1 rfl (Nat.le_of_ble_eq_true rfl) dX12_stop_59 ⟨Nat.le_of_ble_eq_true rfl, Nat.le_of_ble_eq_true rfl⟩) hP hD hS hA [0] [1, 2, 3, 4, 5, 6, 7, 8, 9, 10, 11, 12, 13, 14, 15, 16, 17, 18, 19, 20] [20, 0, 1, 2, 3, 4, 5, 6, 7, 8, 9, 10, 11, 12, 13, 14, 15, 16, 17, 18, 19] rfl rfl (by decide) (by decide) rfl (by decide) (fun H locs hP hD hS => ?_)
    exact RET _ _ _ _ _ H _ ls 62 hf hP hD hS dX12_stop_62
  have B_5 : ∀ (z0 : MOT) (z1 : WT) (z3 : WhoT) (z4 : LookT) (H : Heap) (locs : List Loc) (ls : Array Slot), f_X12_stop_b5 y_looks bu z0 z1 z3 z4 = some (rv, u0, u1, u3, u4) → va_P D vwCl (w_MO dA a (some (ba 0)) q1 g2 g3 g4 g5 (wa 0) (la 0) (ha 0) (ca 0) g10 g11 g12 g13 g14 g15 g16 g17 g18 z0 ++ (w_W dA wa z1 ++ (w_Looks dA la y_looks ++ (w_Who dA ha z3 ++ (w_Look dA ca z4 ++ (w_Bus dA ba bu)))))) H → va_D A (w_MO dA a (some (ba 0)) q1 g2 g3 g4 g5 (wa 0) (la 0) (ha 0) (ca 0) g10 g11 g12 g13 g14 g15 g16 g17 g18 z0 ++ (w_W dA wa z1 ++ (w_Looks dA la y_looks ++ (w_Who dA ha z3 ++ (w_Look dA ca z4 ++ (w_Bus dA ba bu)))))) → va_S A s.heap H locs → lv_has ls 1 [(0, .ref (a 0))] → W p l e ({ frames := 11, cells := 0, slots := 0, locals := 253 } : Room) s m ([.ref (a 0)] : List Value).toArray below meth c H locs 0 0 Q (F0 m 5 ls []) := by
    intro z0 z1 z3 z4 H locs ls hf hP hD hS hl
    rw [f_X12_stop_b5] at hf
    refine lv_aload_n hx hb dX12_stop_5 rfl (lv_at hl 0 rfl) ?_
    refine va_get (D := D) (ci := 12) (v := .ref (ba 0)) (C := RX12) (T := TX12) (N := 35) hx hb hts kb_inX12 hown hK.1 hP 0 rfl rfl 3 (by decide) (hK.2.w ww_5_203 rfl _) (fun _ h9 => h9) rfl dX12_stop_6 ?_
    refine lv_ifnonnull (tgt := 18) hx hb dX12_stop_9 (by decide) ?_
    refine lv_aload_n hx hb dX12_stop_18 rfl (lv_at hl 0 rfl) ?_
    refine va_get (D := D) (ci := 12) (v := .ref (wa 0)) (C := RX12) (T := TX12) (N := 35) hx hb hts kb_inX12 hown hK.1 hP 0 rfl rfl 19 (by decide) (hK.2.w ww_5_219 rfl _) (fun _ h9 => h9) rfl dX12_stop_19 ?_
    refine lv_bipush (v := (52 : Int32)) hx hb dX12_stop_22 (by decide) ?_
    obtain ⟨h_1, hf⟩ := kb_if hf
    refine va_iald (D := D) hx hb hK.1 hP 1 0 rfl rfl h_1 dX12_stop_24 ?_
    refine lv_bipush (v := (12 : Int32)) hx hb dX12_stop_25 (by decide) ?_
    refine lv_icmp_ne (tgt := 37) hx hb dX12_stop_27 (by decide) (fun c_2 => ?_) (fun c_2 => ?_)
    · rw [if_neg c_2] at hf
      refine lv_aload_n hx hb dX12_stop_37 rfl (lv_at hl 0 rfl) ?_
      obtain ⟨r3, hc3, hf⟩ := kb_bind hf
      refine kb_cv (ws2 := (w_MO dA a (some (ba 0)) q1 g2 g3 g4 g5 (wa 0) (la 0) (ha 0) (ca 0) g10 g11 g12 g13 g14 g15 g16 g17 g18 z0 ++ (w_W dA wa r3.1 ++ (w_Looks dA la y_looks ++ (w_Who dA ha r3.2.1 ++ (w_Look dA ca r3.2.2 ++ (w_Bus dA ba bu))))))) (kb_rV (n := 0) (As := []) (rest := []) hx hb hml hown hK (c_X12_passes l D dA H.size a wa la ha ca ba q1 g2 g3 g4 g5 g10 g11 g12 g13 g14 g15 g16 g17 g18 z0 z1 y_looks z3 z4 bu r3.1 r3.2.1 r3.2.2 hc3) ⟨ww_7_116, ww_7_113, ww_7_115, ws_72, ww_1_12, rfl, by decide, by decide⟩ rfl rfl (by decide +kernel) ⟨Nat.le_of_ble_eq_true rfl, Nat.le_of_ble_eq_true rfl⟩ hP hD hS hA hE [0, 1, 2, 3, 4, 5, 6, 7, 8, 9, 10, 11, 12, 13, 14, 15, 16, 17, 18, 19, 20] rfl (by decide) 0 rfl rfl rfl hl.1 rfl (Nat.le_of_ble_eq_true rfl) dX12_stop_38 ⟨Nat.le_of_ble_eq_true rfl, Nat.le_of_ble_eq_true rfl⟩) hP hD hS hA [0, 1, 2, 3, 4, 5, 6, 7, 8, 9, 10, 11, 12, 13, 14, 15, 16, 17, 18, 19, 20] [] [0, 1, 2, 3, 4, 5, 6, 7, 8, 9, 10, 11, 12, 13, 14, 15, 16, 17, 18, 19, 20] rfl rfl (by decide) (by decide) rfl (by decide) (fun H locs hP hD hS => ?_)
      exact B_41 _ _ _ _ _ _ _ hf hP hD hS (lv_sub hl [0] rfl)
    · rw [if_pos c_2] at hf
      refine lv_aload_n hx hb dX12_stop_30 rfl (lv_at hl 0 rfl) ?_
      refine lv_bipush (v := (6 : Int32)) hx hb dX12_stop_31 (by decide) ?_
      obtain ⟨r7, hc7, hf⟩ := kb_bind hf
      refine kb_ci (ws2 := (w_MO dA a (some (ba 0)) q1 g2 g3 g4 g5 (wa 0) (la 0) (ha 0) (ca 0) g10 g11 g12 g13 g14 g15 g16 g17 g18 r7.2 ++ (w_W dA wa z1 ++ (w_Looks dA la y_looks ++ (w_Who dA ha z3 ++ (w_Look dA ca z4 ++ (w_Bus dA ba bu))))))) (kb_rV (n := 1) (As := [.int (6 : Int32)]) (rest := []) hx hb hml hown hK (c_X12_refused l D dA H.size a (some (ba 0)) q1 g2 g3 g4 g5 (wa 0) (la 0) (ha 0) (ca 0) g10 g11 g12 g13 g14 g15 g16 g17 g18 z0 (6 : Int32) r7.1 r7.2 hc7) ⟨ww_6_82, ww_6_79, ww_6_81, ws_46, ww_1_12, rfl, by decide, by decide⟩ rfl rfl (by decide +kernel) ⟨Nat.le_of_ble_eq_true rfl, Nat.le_of_ble_eq_true rfl⟩ hP hD hS hA hE [0] rfl (by decide) 0 rfl rfl rfl hl.1 rfl (Nat.le_of_ble_eq_true rfl) dX12_stop_33 ⟨Nat.le_of_ble_eq_true rfl, Nat.le_of_ble_eq_true rfl⟩) hP hD hS hA [0] [1, 2, 3, 4, 5, 6, 7, 8, 9, 10, 11, 12, 13, 14, 15, 16, 17, 18, 19, 20] [20, 0, 1, 2, 3, 4, 5, 6, 7, 8, 9, 10, 11, 12, 13, 14, 15, 16, 17, 18, 19] rfl rfl (by decide) (by decide) rfl (by decide) (fun H locs hP hD hS => ?_)
      exact RET _ _ _ _ _ H _ ls 36 hf hP hD hS dX12_stop_36
  have E0 : ∀ (H : Heap) (locs : List Loc), va_P D vwCl (w_MO dA a (some (ba 0)) q1 g2 g3 g4 g5 (wa 0) (la 0) (ha 0) (ca 0) g10 g11 g12 g13 g14 g15 g16 g17 g18 mo ++ (w_W dA wa y_w ++ (w_Looks dA la y_looks ++ (w_Who dA ha y_who ++ (w_Look dA ca y_look ++ (w_Bus dA ba bu)))))) H → va_D A (w_MO dA a (some (ba 0)) q1 g2 g3 g4 g5 (wa 0) (la 0) (ha 0) (ca 0) g10 g11 g12 g13 g14 g15 g16 g17 g18 mo ++ (w_W dA wa y_w ++ (w_Looks dA la y_looks ++ (w_Who dA ha y_who ++ (w_Look dA ca y_look ++ (w_Bus dA ba bu)))))) → va_S A s.heap H locs → W p l e ({ frames := 11, cells := 0, slots := 0, locals := 253 } : Room) s m ([.ref (a 0)] : List Value).toArray below meth c H locs 0 0 Q (F0 m 0 ls []) := by
    intro H locs hP hD hS
    rw [f_X12_stop] at hf
    refine lv_aload_n hx hb dX12_stop_0 rfl (lv_at hl 0 rfl) ?_
    refine lv_iconst (v := (0 : Int32)) hx hb dX12_stop_1 (by decide) ?_
    refine va_put (D := D) (ci := 12) (v := .int (0 : Int32)) (ty := .int) (C := RX12) (T := TX12) (N := 35) hx hb hts kb_inX12 tyX12 tyX12_ok nmX12 hown hK.1 hP hD hS 0 rfl rfl 0 (by decide) (hK.2.w ww_5_200 rfl _) (fun _ h9 => h9) rfl (by decide +kernel) rfl rfl (Nat.le_of_ble_eq_true rfl) dX12_stop_2 (fun H locs hP hD hS => ?_)
    have hP : va_P D vwCl (w_MO dA a (some (ba 0)) q1 g2 g3 g4 g5 (wa 0) (la 0) (ha 0) (ca 0) g10 g11 g12 g13 g14 g15 g16 g17 g18 (mo_set_thrown mo (0 : Int32)) ++ (w_W dA wa y_w ++ (w_Looks dA la y_looks ++ (w_Who dA ha y_who ++ (w_Look dA ca y_look ++ (w_Bus dA ba bu)))))) H := hP
    have hD : va_D A (w_MO dA a (some (ba 0)) q1 g2 g3 g4 g5 (wa 0) (la 0) (ha 0) (ca 0) g10 g11 g12 g13 g14 g15 g16 g17 g18 (mo_set_thrown mo (0 : Int32)) ++ (w_W dA wa y_w ++ (w_Looks dA la y_looks ++ (w_Who dA ha y_who ++ (w_Look dA ca y_look ++ (w_Bus dA ba bu)))))) := hD
    exact B_5 _ _ _ _ _ _ _ hf hP hD hS (lv_sub hl [0] rfl)
  exact E0 _ _ hP hD hS

noncomputable def f_X12_run_b5 (y_looks : LooksT) (bu : BusT) (z0 : MOT) (z1 : WT) (z3 : WhoT) (z4 : LookT) : Option (Int32 × MOT × WT × WhoT × LookT) := (f_X12_runs z0 z1 y_looks z3 z4 bu).bind fun r1 => (f_X12_done z0 r1.1).bind fun r2 => some (r2.1, r2.2, r1.2.1, r1.2.2.1, r1.2.2.2)
noncomputable def f_X12_run (mo : MOT) (y_w : WT) (y_looks : LooksT) (y_who : WhoT) (y_look : LookT) (bu : BusT) : Option (Int32 × MOT × WT × WhoT × LookT) := f_X12_run_b5 y_looks bu (mo_set_thrown mo (0 : Int32)) y_w y_who y_look
set_option maxHeartbeats 4000000 in
set_option maxRecDepth 100000 in
theorem c_X12_run (l : Launch) (D : va_G) (dA : Nat → ClassId) (sz : Nat) (a : Nat → Nat) (wa : Nat → Nat) (la : Nat → Nat) (ha : Nat → Nat) (ca : Nat → Nat) (ba : Nat → Nat) (q1 : Option Nat) (g2 : Nat) (g3 : Nat) (g4 : Nat) (g5 : Nat) (g10 : Nat) (g11 : Nat) (g12 : Nat) (g13 : Nat) (g14 : Nat) (g15 : Nat) (g16 : Nat) (g17 : Nat) (g18 : Nat) (mo : MOT) (y_w : WT) (y_looks : LooksT) (y_who : WhoT) (y_look : LookT) (bu : BusT) (rv : Int32) (u0 : MOT) (u1 : WT) (u3 : WhoT) (u4 : LookT) (hf : f_X12_run mo y_w y_looks y_who y_look bu = some (rv, u0, u1, u3, u4)) : kb_Mi l yX12_run cX12_run 1 (some .int) ({ frames := 12, cells := 0, slots := 0, locals := 274 } : Room) D dA [.ref (a 0)] sz (w_MO dA a (some (ba 0)) q1 g2 g3 g4 g5 (wa 0) (la 0) (ha 0) (ca 0) g10 g11 g12 g13 g14 g15 g16 g17 g18 mo ++ (w_W dA wa y_w ++ (w_Looks dA la y_looks ++ (w_Who dA ha y_who ++ (w_Look dA ca y_look ++ (w_Bus dA ba bu)))))) 0 0 rv (w_MO dA a (some (ba 0)) q1 g2 g3 g4 g5 (wa 0) (la 0) (ha 0) (ca 0) g10 g11 g12 g13 g14 g15 g16 g17 g18 u0 ++ (w_W dA wa u1 ++ (w_Looks dA la y_looks ++ (w_Who dA ha u3 ++ (w_Look dA ca u4 ++ (w_Bus dA ba bu)))))) := by
  refine Met.ofW (cc := cX12_run) (maxL := 1) (ret := (some .int)) (by decide) rfl ?_
  intro p e s m args below meth c s₁ B hml hv
  obtain ⟨rfl, hsz, hP, hK, hD0, hE⟩ := hv
  have hx := B.exec
  have hb := B.bytes
  have hr := B.returns
  have hown : s.vm.findClass RX12 = some m.cls := findClass_of_methodNamed B.named
  have hlocks := B.notSynchronized
  have hts : ∀ w ∈ kb_gw, w.before ([.ref (a 0)] : List Value).toArray s = true := fun w hw => hK.2.1 w hw _
  subst hsz
  have hD := hD0.self (sz := s.heap.size)
  generalize hAe : va_A (w_MO dA a (some (ba 0)) q1 g2 g3 g4 g5 (wa 0) (la 0) (ha 0) (ca 0) g10 g11 g12 g13 g14 g15 g16 g17 g18 mo ++ (w_W dA wa y_w ++ (w_Looks dA la y_looks ++ (w_Who dA ha y_who ++ (w_Look dA ca y_look ++ (w_Bus dA ba bu)))))) s.heap.size = A at hD hE ⊢
  have hA : ∀ q : Nat, s.heap.size ≤ q → A q := fun q h => by rw [← hAe]; exact Or.inr h
  have hS : va_S A s.heap s.heap [] := va_S.rf
  have hl := lv_entry ([.ref (a 0)]) (n := 1) (Nat.le_of_ble_eq_true rfl)
  rw [lg_entry_eq]
  generalize (lg_sl ([.ref (a 0)]) ++ List.replicate (1 - (lg_sl ([.ref (a 0)])).length) Slot.unset).toArray = ls at hl ⊢
  have hl : lv_has ls 1 [(0, .ref (a 0))] := hl
  generalize hQ : MQ below (va_Qi (fun r (_ : Unit) => r = rv) (kb_B D A (w_MO dA a (some (ba 0)) q1 g2 g3 g4 g5 (wa 0) (la 0) (ha 0) (ca 0) g10 g11 g12 g13 g14 g15 g16 g17 g18 u0 ++ (w_W dA wa u1 ++ (w_Looks dA la y_looks ++ (w_Who dA ha u3 ++ (w_Look dA ca u4 ++ (w_Bus dA ba bu))))))) A) ([.ref (a 0)] : List Value).toArray s 0 0 A = Q
  show W p l e ({ frames := 12, cells := 0, slots := 0, locals := 274 } : Room) s m ([.ref (a 0)] : List Value).toArray below meth c s.heap [] 0 0 Q (F0 m 0 ls [])
  have RET : ∀ (r2 : Int32) (w0 : MOT) (w1 : WT) (w3 : WhoT) (w4 : LookT) (H : Heap) (locs : List Loc) (ls : Array Slot) (pc : Nat), some (r2, w0, w1, w3, w4) = some (rv, u0, u1, u3, u4) → va_P D vwCl (w_MO dA a (some (ba 0)) q1 g2 g3 g4 g5 (wa 0) (la 0) (ha 0) (ca 0) g10 g11 g12 g13 g14 g15 g16 g17 g18 w0 ++ (w_W dA wa w1 ++ (w_Looks dA la y_looks ++ (w_Who dA ha w3 ++ (w_Look dA ca w4 ++ (w_Bus dA ba bu)))))) H → va_D A (w_MO dA a (some (ba 0)) q1 g2 g3 g4 g5 (wa 0) (la 0) (ha 0) (ca 0) g10 g11 g12 g13 g14 g15 g16 g17 g18 w0 ++ (w_W dA wa w1 ++ (w_Looks dA la y_looks ++ (w_Who dA ha w3 ++ (w_Look dA ca w4 ++ (w_Bus dA ba bu)))))) → va_S A s.heap H locs → decode cX12_run pc = .ok (.ireturn, 1) → W p l e ({ frames := 12, cells := 0, slots := 0, locals := 274 } : Room) s m ([.ref (a 0)] : List Value).toArray below meth c H locs 0 0 Q (F0 m pc ls [.int r2]) := by
    intro r2 w0 w1 w3 w4 H locs ls pc hq hP hD hS hd
    cases hq
    rw [← hQ]
    exact W.iret hx hb hr (fun t ht hW => ⟨⟨_, (), rfl, rfl, by rw [ht]; exact hP, hD⟩, hS.F ht⟩) hS.2.2 hd
  have B_5 : ∀ (z0 : MOT) (z1 : WT) (z3 : WhoT) (z4 : LookT) (H : Heap) (locs : List Loc) (ls : Array Slot), f_X12_run_b5 y_looks bu z0 z1 z3 z4 = some (rv, u0, u1, u3, u4) → va_P D vwCl (w_MO dA a (some (ba 0)) q1 g2 g3 g4 g5 (wa 0) (la 0) (ha 0) (ca 0) g10 g11 g12 g13 g14 g15 g16 g17 g18 z0 ++ (w_W dA wa z1 ++ (w_Looks dA la y_looks ++ (w_Who dA ha z3 ++ (w_Look dA ca z4 ++ (w_Bus dA ba bu)))))) H → va_D A (w_MO dA a (some (ba 0)) q1 g2 g3 g4 g5 (wa 0) (la 0) (ha 0) (ca 0) g10 g11 g12 g13 g14 g15 g16 g17 g18 z0 ++ (w_W dA wa z1 ++ (w_Looks dA la y_looks ++ (w_Who dA ha z3 ++ (w_Look dA ca z4 ++ (w_Bus dA ba bu)))))) → va_S A s.heap H locs → lv_has ls 1 [(0, .ref (a 0))] → W p l e ({ frames := 12, cells := 0, slots := 0, locals := 274 } : Room) s m ([.ref (a 0)] : List Value).toArray below meth c H locs 0 0 Q (F0 m 5 ls []) := by
    intro z0 z1 z3 z4 H locs ls hf hP hD hS hl
    rw [f_X12_run_b5] at hf
    refine lv_aload_n hx hb dX12_run_5 rfl (lv_at hl 0 rfl) ?_
    refine va_get (D := D) (ci := 12) (v := .ref (ba 0)) (C := RX12) (T := TX12) (N := 35) hx hb hts kb_inX12 hown hK.1 hP 0 rfl rfl 3 (by decide) (hK.2.w ww_5_203 rfl _) (fun _ h9 => h9) rfl dX12_run_6 ?_
    refine lv_ifnonnull (tgt := 20) hx hb dX12_run_9 (by decide) ?_
    refine lv_aload_n hx hb dX12_run_20 rfl (lv_at hl 0 rfl) ?_
    refine lv_aload_n hx hb dX12_run_21 rfl (lv_at hl 0 rfl) ?_
    obtain ⟨r1, hc1, hf⟩ := kb_bind hf
    refine kb_ci (ws2 := (w_MO dA a (some (ba 0)) q1 g2 g3 g4 g5 (wa 0) (la 0) (ha 0) (ca 0) g10 g11 g12 g13 g14 g15 g16 g17 g18 z0 ++ (w_W dA wa r1.2.1 ++ (w_Looks dA la y_looks ++ (w_Who dA ha r1.2.2.1 ++ (w_Look dA ca r1.2.2.2 ++ (w_Bus dA ba bu))))))) (kb_rV (n := 0) (As := []) (rest := [.ref (a 0)]) hx hb hml hown hK (c_X12_runs l D dA H.size a wa la ha ca ba q1 g2 g3 g4 g5 g10 g11 g12 g13 g14 g15 g16 g17 g18 z0 z1 y_looks z3 z4 bu r1.1 r1.2.1 r1.2.2.1 r1.2.2.2 hc1) ⟨ww_7_233, ww_7_230, ww_7_232, ws_94, ww_1_12, rfl, by decide, by decide⟩ rfl rfl (by decide +kernel) ⟨Nat.le_of_ble_eq_true rfl, Nat.le_of_ble_eq_true rfl⟩ hP hD hS hA hE [0, 1, 2, 3, 4, 5, 6, 7, 8, 9, 10, 11, 12, 13, 14, 15, 16, 17, 18, 19, 20] rfl (by decide) 0 rfl rfl rfl hl.1 rfl (Nat.le_of_ble_eq_true rfl) dX12_run_22 ⟨Nat.le_of_ble_eq_true rfl, Nat.le_of_ble_eq_true rfl⟩) hP hD hS hA [0, 1, 2, 3, 4, 5, 6, 7, 8, 9, 10, 11, 12, 13, 14, 15, 16, 17, 18, 19, 20] [] [0, 1, 2, 3, 4, 5, 6, 7, 8, 9, 10, 11, 12, 13, 14, 15, 16, 17, 18, 19, 20] rfl rfl (by decide) (by decide) rfl (by decide) (fun H locs hP hD hS => ?_)
    obtain ⟨r2, hc2, hf⟩ := kb_bind hf
    refine kb_ci (ws2 := (w_MO dA a (some (ba 0)) q1 g2 g3 g4 g5 (wa 0) (la 0) (ha 0) (ca 0) g10 g11 g12 g13 g14 g15 g16 g17 g18 r2.2 ++ (w_W dA wa r1.2.1 ++ (w_Looks dA la y_looks ++ (w_Who dA ha r1.2.2.1 ++ (w_Look dA ca r1.2.2.2 ++ (w_Bus dA ba bu))))))) (kb_rV (n := 1) (As := [.int r1.1]) (rest := []) hx hb hml hown hK (c_X12_done l D dA H.size a (some (ba 0)) q1 g2 g3 g4 g5 (wa 0) (la 0) (ha 0) (ca 0) g10 g11 g12 g13 g14 g15 g16 g17 g18 z0 r1.1 r2.1 r2.2 hc2) ⟨ww_7_100, ww_7_97, ww_7_99, ws_71, ww_1_12, rfl, by decide, by decide⟩ rfl rfl (by decide +kernel) ⟨Nat.le_of_ble_eq_true rfl, Nat.le_of_ble_eq_true rfl⟩ hP hD hS hA hE [0] rfl (by decide) 0 rfl rfl rfl hl.1 rfl (Nat.le_of_ble_eq_true rfl) dX12_run_25 ⟨Nat.le_of_ble_eq_true rfl, Nat.le_of_ble_eq_true rfl⟩) hP hD hS hA [0] [1, 2, 3, 4, 5, 6, 7, 8, 9, 10, 11, 12, 13, 14, 15, 16, 17, 18, 19, 20] [20, 0, 1, 2, 3, 4, 5, 6, 7, 8, 9, 10, 11, 12, 13, 14, 15, 16, 17, 18, 19] rfl rfl (by decide) (by decide) rfl (by decide) (fun H locs hP hD hS => ?_)
    exact RET _ _ _ _ _ H _ ls 28 hf hP hD hS dX12_run_28
  have E0 : ∀ (H : Heap) (locs : List Loc), va_P D vwCl (w_MO dA a (some (ba 0)) q1 g2 g3 g4 g5 (wa 0) (la 0) (ha 0) (ca 0) g10 g11 g12 g13 g14 g15 g16 g17 g18 mo ++ (w_W dA wa y_w ++ (w_Looks dA la y_looks ++ (w_Who dA ha y_who ++ (w_Look dA ca y_look ++ (w_Bus dA ba bu)))))) H → va_D A (w_MO dA a (some (ba 0)) q1 g2 g3 g4 g5 (wa 0) (la 0) (ha 0) (ca 0) g10 g11 g12 g13 g14 g15 g16 g17 g18 mo ++ (w_W dA wa y_w ++ (w_Looks dA la y_looks ++ (w_Who dA ha y_who ++ (w_Look dA ca y_look ++ (w_Bus dA ba bu)))))) → va_S A s.heap H locs → W p l e ({ frames := 12, cells := 0, slots := 0, locals := 274 } : Room) s m ([.ref (a 0)] : List Value).toArray below meth c H locs 0 0 Q (F0 m 0 ls []) := by
    intro H locs hP hD hS
    rw [f_X12_run] at hf
    refine lv_aload_n hx hb dX12_run_0 rfl (lv_at hl 0 rfl) ?_
    refine lv_iconst (v := (0 : Int32)) hx hb dX12_run_1 (by decide) ?_
    refine va_put (D := D) (ci := 12) (v := .int (0 : Int32)) (ty := .int) (C := RX12) (T := TX12) (N := 35) hx hb hts kb_inX12 tyX12 tyX12_ok nmX12 hown hK.1 hP hD hS 0 rfl rfl 0 (by decide) (hK.2.w ww_5_200 rfl _) (fun _ h9 => h9) rfl (by decide +kernel) rfl rfl (Nat.le_of_ble_eq_true rfl) dX12_run_2 (fun H locs hP hD hS => ?_)
    have hP : va_P D vwCl (w_MO dA a (some (ba 0)) q1 g2 g3 g4 g5 (wa 0) (la 0) (ha 0) (ca 0) g10 g11 g12 g13 g14 g15 g16 g17 g18 (mo_set_thrown mo (0 : Int32)) ++ (w_W dA wa y_w ++ (w_Looks dA la y_looks ++ (w_Who dA ha y_who ++ (w_Look dA ca y_look ++ (w_Bus dA ba bu)))))) H := hP
    have hD : va_D A (w_MO dA a (some (ba 0)) q1 g2 g3 g4 g5 (wa 0) (la 0) (ha 0) (ca 0) g10 g11 g12 g13 g14 g15 g16 g17 g18 (mo_set_thrown mo (0 : Int32)) ++ (w_W dA wa y_w ++ (w_Looks dA la y_looks ++ (w_Who dA ha y_who ++ (w_Look dA ca y_look ++ (w_Bus dA ba bu)))))) := hD
    exact B_5 _ _ _ _ _ _ _ hf hP hD hS (lv_sub hl [0] rfl)
  exact E0 _ _ hP hD hS

noncomputable def f_X12_seconds_b43 (y_w : WT) (z0 : MOT) : Option (Int32 × MOT) := (f_X12_refused z0 (1 : Int32)).bind fun r2 => some (r2.1, r2.2)
noncomputable def f_X12_seconds_b5 (y_w : WT) (v1 : Int32) (z0 : MOT) : Option (Int32 × MOT) := (if v1 < 0 then f_X12_seconds_b43 y_w z0 else if kb_in? (52 : Int32) 56 then (if ((yW_r y_w) ((52 : Int32)).toNatClampNeg) ≤ v1 then f_X12_seconds_b43 y_w z0 else if kb_in? ((40 : Int32) + v1) 56 then (f_X12_done z0 ((yW_r y_w) (((40 : Int32) + v1)).toNatClampNeg)).bind fun r6 => some (r6.1, r6.2) else none) else none)
noncomputable def f_X12_seconds (mo : MOT) (y_w : WT) (x0 : Int32) : Option (Int32 × MOT) := f_X12_seconds_b5 y_w x0 (mo_set_thrown mo (0 : Int32))
set_option maxHeartbeats 4000000 in
set_option maxRecDepth 100000 in
theorem c_X12_seconds (l : Launch) (D : va_G) (dA : Nat → ClassId) (sz : Nat) (a : Nat → Nat) (wa : Nat → Nat) (g0 : Nat) (q1 : Option Nat) (g2 : Nat) (g3 : Nat) (g4 : Nat) (g5 : Nat) (g7 : Nat) (g8 : Nat) (g9 : Nat) (g10 : Nat) (g11 : Nat) (g12 : Nat) (g13 : Nat) (g14 : Nat) (g15 : Nat) (g16 : Nat) (g17 : Nat) (g18 : Nat) (mo : MOT) (y_w : WT) (x0 : Int32) (rv : Int32) (u0 : MOT) (hf : f_X12_seconds mo y_w x0 = some (rv, u0)) : kb_Mi l yX12_seconds cX12_seconds 2 (some .int) ({ frames := 1, cells := 0, slots := 0, locals := 21 } : Room) D dA [.ref (a 0), .int x0] sz (w_MO dA a (some g0) q1 g2 g3 g4 g5 (wa 0) g7 g8 g9 g10 g11 g12 g13 g14 g15 g16 g17 g18 mo ++ (w_W dA wa y_w)) 0 0 rv (w_MO dA a (some g0) q1 g2 g3 g4 g5 (wa 0) g7 g8 g9 g10 g11 g12 g13 g14 g15 g16 g17 g18 u0 ++ (w_W dA wa y_w)) := by
  refine Met.ofW (cc := cX12_seconds) (maxL := 2) (ret := (some .int)) (by decide) rfl ?_
  intro p e s m args below meth c s₁ B hml hv
  obtain ⟨rfl, hsz, hP, hK, hD0, hE⟩ := hv
  have hx := B.exec
  have hb := B.bytes
  have hr := B.returns
  have hown : s.vm.findClass RX12 = some m.cls := findClass_of_methodNamed B.named
  have hlocks := B.notSynchronized
  have hts : ∀ w ∈ kb_gw, w.before ([.ref (a 0), .int x0] : List Value).toArray s = true := fun w hw => hK.2.1 w hw _
  subst hsz
  have hD := hD0.self (sz := s.heap.size)
  generalize hAe : va_A (w_MO dA a (some g0) q1 g2 g3 g4 g5 (wa 0) g7 g8 g9 g10 g11 g12 g13 g14 g15 g16 g17 g18 mo ++ (w_W dA wa y_w)) s.heap.size = A at hD hE ⊢
  have hA : ∀ q : Nat, s.heap.size ≤ q → A q := fun q h => by rw [← hAe]; exact Or.inr h
  have hS : va_S A s.heap s.heap [] := va_S.rf
  have hl := lv_entry ([.ref (a 0), .int x0]) (n := 2) (Nat.le_of_ble_eq_true rfl)
  rw [lg_entry_eq]
  generalize (lg_sl ([.ref (a 0), .int x0]) ++ List.replicate (2 - (lg_sl ([.ref (a 0), .int x0])).length) Slot.unset).toArray = ls at hl ⊢
  have hl : lv_has ls 2 [(0, .ref (a 0)), (1, .int x0)] := hl
  generalize hQ : MQ below (va_Qi (fun r (_ : Unit) => r = rv) (kb_B D A (w_MO dA a (some g0) q1 g2 g3 g4 g5 (wa 0) g7 g8 g9 g10 g11 g12 g13 g14 g15 g16 g17 g18 u0 ++ (w_W dA wa y_w))) A) ([.ref (a 0), .int x0] : List Value).toArray s 0 0 A = Q
  show W p l e ({ frames := 1, cells := 0, slots := 0, locals := 21 } : Room) s m ([.ref (a 0), .int x0] : List Value).toArray below meth c s.heap [] 0 0 Q (F0 m 0 ls [])
  have RET : ∀ (r2 : Int32) (w0 : MOT) (H : Heap) (locs : List Loc) (ls : Array Slot) (pc : Nat), some (r2, w0) = some (rv, u0) → va_P D vwCl (w_MO dA a (some g0) q1 g2 g3 g4 g5 (wa 0) g7 g8 g9 g10 g11 g12 g13 g14 g15 g16 g17 g18 w0 ++ (w_W dA wa y_w)) H → va_D A (w_MO dA a (some g0) q1 g2 g3 g4 g5 (wa 0) g7 g8 g9 g10 g11 g12 g13 g14 g15 g16 g17 g18 w0 ++ (w_W dA wa y_w)) → va_S A s.heap H locs → decode cX12_seconds pc = .ok (.ireturn, 1) → W p l e ({ frames := 1, cells := 0, slots := 0, locals := 21 } : Room) s m ([.ref (a 0), .int x0] : List Value).toArray below meth c H locs 0 0 Q (F0 m pc ls [.int r2]) := by
    intro r2 w0 H locs ls pc hq hP hD hS hd
    cases hq
    rw [← hQ]
    exact W.iret hx hb hr (fun t ht hW => ⟨⟨_, (), rfl, rfl, by rw [ht]; exact hP, hD⟩, hS.F ht⟩) hS.2.2 hd
  have B_43 : ∀ (z0 : MOT) (H : Heap) (locs : List Loc) (ls : Array Slot), f_X12_seconds_b43 y_w z0 = some (rv, u0) → va_P D vwCl (w_MO dA a (some g0) q1 g2 g3 g4 g5 (wa 0) g7 g8 g9 g10 g11 g12 g13 g14 g15 g16 g17 g18 z0 ++ (w_W dA wa y_w)) H → va_D A (w_MO dA a (some g0) q1 g2 g3 g4 g5 (wa 0) g7 g8 g9 g10 g11 g12 g13 g14 g15 g16 g17 g18 z0 ++ (w_W dA wa y_w)) → va_S A s.heap H locs → lv_has ls 2 [(0, .ref (a 0))] → W p l e ({ frames := 1, cells := 0, slots := 0, locals := 21 } : Room) s m ([.ref (a 0), .int x0] : List Value).toArray below meth c H locs 0 0 Q (F0 m 43 ls []) := by
    intro z0 H locs ls hf hP hD hS hl
    rw [f_X12_seconds_b43] at hf
    refine lv_aload_n hx hb dX12_seconds_43 rfl (lv_at hl 0 rfl) ?_
    refine lv_iconst (v := (1 : Int32)) hx hb dX12_seconds_44 (by decide) ?_
    obtain ⟨r2, hc2, hf⟩ := kb_bind hf
    refine kb_ci (ws2 := (w_MO dA a (some g0) q1 g2 g3 g4 g5 (wa 0) g7 g8 g9 g10 g11 g12 g13 g14 g15 g16 g17 g18 r2.2 ++ (w_W dA wa y_w))) (kb_rV (n := 1) (As := [.int (1 : Int32)]) (rest := []) hx hb hml hown hK (c_X12_refused l D dA H.size a (some g0) q1 g2 g3 g4 g5 (wa 0) g7 g8 g9 g10 g11 g12 g13 g14 g15 g16 g17 g18 z0 (1 : Int32) r2.1 r2.2 hc2) ⟨ww_6_82, ww_6_79, ww_6_81, ws_46, ww_1_12, rfl, by decide, by decide⟩ rfl rfl (by decide +kernel) ⟨Nat.le_of_ble_eq_true rfl, Nat.le_of_ble_eq_true rfl⟩ hP hD hS hA hE [0] rfl (by decide) 0 rfl rfl rfl hl.1 rfl (Nat.le_of_ble_eq_true rfl) dX12_seconds_45 ⟨Nat.le_of_ble_eq_true rfl, Nat.le_of_ble_eq_true rfl⟩) hP hD hS hA [0] [1] [1, 0] rfl rfl (by decide) (by decide) rfl (by decide) (fun H locs hP hD hS => ?_)
    exact RET _ _ H _ ls 48 hf hP hD hS dX12_seconds_48
  have B_5 : ∀ (v1 : Int32) (z0 : MOT) (H : Heap) (locs : List Loc) (ls : Array Slot), f_X12_seconds_b5 y_w v1 z0 = some (rv, u0) → va_P D vwCl (w_MO dA a (some g0) q1 g2 g3 g4 g5 (wa 0) g7 g8 g9 g10 g11 g12 g13 g14 g15 g16 g17 g18 z0 ++ (w_W dA wa y_w)) H → va_D A (w_MO dA a (some g0) q1 g2 g3 g4 g5 (wa 0) g7 g8 g9 g10 g11 g12 g13 g14 g15 g16 g17 g18 z0 ++ (w_W dA wa y_w)) → va_S A s.heap H locs → lv_has ls 2 [(0, .ref (a 0)), (1, .int v1)] → W p l e ({ frames := 1, cells := 0, slots := 0, locals := 21 } : Room) s m ([.ref (a 0), .int x0] : List Value).toArray below meth c H locs 0 0 Q (F0 m 5 ls []) := by
    intro v1 z0 H locs ls hf hP hD hS hl
    rw [f_X12_seconds_b5] at hf
    refine lv_aload_n hx hb dX12_seconds_5 rfl (lv_at hl 0 rfl) ?_
    refine va_get (D := D) (ci := 12) (v := .ref g0) (C := RX12) (T := TX12) (N := 35) hx hb hts kb_inX12 hown hK.1 hP 0 rfl rfl 3 (by decide) (hK.2.w ww_5_203 rfl _) (fun _ h9 => h9) rfl dX12_seconds_6 ?_
    refine lv_ifnull hx hb dX12_seconds_9 ?_
    refine lv_iload_n hx hb dX12_seconds_12 rfl (lv_at hl 1 rfl) ?_
    refine lv_if_lt (tgt := 43) hx hb dX12_seconds_13 (by decide) (fun c_1 => ?_) (fun c_1 => ?_)
    · rw [if_pos c_1] at hf
      exact B_43 _ _ _ _ hf hP hD hS (lv_sub hl [0] rfl)
    · rw [if_neg c_1] at hf
      refine lv_iload_n hx hb dX12_seconds_16 rfl (lv_at hl 1 rfl) ?_
      refine lv_aload_n hx hb dX12_seconds_17 rfl (lv_at hl 0 rfl) ?_
      refine va_get (D := D) (ci := 12) (v := .ref (wa 0)) (C := RX12) (T := TX12) (N := 35) hx hb hts kb_inX12 hown hK.1 hP 0 rfl rfl 19 (by decide) (hK.2.w ww_5_219 rfl _) (fun _ h9 => h9) rfl dX12_seconds_18 ?_
      refine lv_bipush (v := (52 : Int32)) hx hb dX12_seconds_21 (by decide) ?_
      obtain ⟨h_3, hf⟩ := kb_if hf
      refine va_iald (D := D) hx hb hK.1 hP 1 0 rfl rfl h_3 dX12_seconds_23 ?_
      refine lv_icmp_ge (tgt := 43) hx hb dX12_seconds_24 (by decide) (fun c_4 => ?_) (fun c_4 => ?_)
      · rw [if_pos c_4] at hf
        exact B_43 _ _ _ _ hf hP hD hS (lv_sub hl [0] rfl)
      · rw [if_neg c_4] at hf
        refine lv_aload_n hx hb dX12_seconds_27 rfl (lv_at hl 0 rfl) ?_
        refine lv_aload_n hx hb dX12_seconds_28 rfl (lv_at hl 0 rfl) ?_
        refine va_get (D := D) (ci := 12) (v := .ref (wa 0)) (C := RX12) (T := TX12) (N := 35) hx hb hts kb_inX12 hown hK.1 hP 0 rfl rfl 19 (by decide) (hK.2.w ww_5_219 rfl _) (fun _ h9 => h9) rfl dX12_seconds_29 ?_
        refine lv_bipush (v := (40 : Int32)) hx hb dX12_seconds_32 (by decide) ?_
        refine lv_iload_n hx hb dX12_seconds_34 rfl (lv_at hl 1 rfl) ?_
        refine lv_iadd hx hb dX12_seconds_35 ?_
        obtain ⟨h_5, hf⟩ := kb_if hf
        refine va_iald (D := D) hx hb hK.1 hP 1 0 rfl rfl h_5 dX12_seconds_36 ?_
        obtain ⟨r6, hc6, hf⟩ := kb_bind hf
        refine kb_ci (ws2 := (w_MO dA a (some g0) q1 g2 g3 g4 g5 (wa 0) g7 g8 g9 g10 g11 g12 g13 g14 g15 g16 g17 g18 r6.2 ++ (w_W dA wa y_w))) (kb_rV (n := 1) (As := [.int ((yW_r y_w) (((40 : Int32) + v1)).toNatClampNeg)]) (rest := []) hx hb hml hown hK (c_X12_done l D dA H.size a (some g0) q1 g2 g3 g4 g5 (wa 0) g7 g8 g9 g10 g11 g12 g13 g14 g15 g16 g17 g18 z0 ((yW_r y_w) (((40 : Int32) + v1)).toNatClampNeg) r6.1 r6.2 hc6) ⟨ww_7_100, ww_7_97, ww_7_99, ws_71, ww_1_12, rfl, by decide, by decide⟩ rfl rfl (by decide +kernel) ⟨Nat.le_of_ble_eq_true rfl, Nat.le_of_ble_eq_true rfl⟩ hP hD hS hA hE [0] rfl (by decide) 0 rfl rfl rfl hl.1 rfl (Nat.le_of_ble_eq_true rfl) dX12_seconds_37 ⟨Nat.le_of_ble_eq_true rfl, Nat.le_of_ble_eq_true rfl⟩) hP hD hS hA [0] [1] [1, 0] rfl rfl (by decide) (by decide) rfl (by decide) (fun H locs hP hD hS => ?_)
        refine lv_goto (tgt := 48) hx hb dX12_seconds_40 (by decide) ?_
        exact RET _ _ H _ ls 48 hf hP hD hS dX12_seconds_48
  have E0 : ∀ (H : Heap) (locs : List Loc), va_P D vwCl (w_MO dA a (some g0) q1 g2 g3 g4 g5 (wa 0) g7 g8 g9 g10 g11 g12 g13 g14 g15 g16 g17 g18 mo ++ (w_W dA wa y_w)) H → va_D A (w_MO dA a (some g0) q1 g2 g3 g4 g5 (wa 0) g7 g8 g9 g10 g11 g12 g13 g14 g15 g16 g17 g18 mo ++ (w_W dA wa y_w)) → va_S A s.heap H locs → W p l e ({ frames := 1, cells := 0, slots := 0, locals := 21 } : Room) s m ([.ref (a 0), .int x0] : List Value).toArray below meth c H locs 0 0 Q (F0 m 0 ls []) := by
    intro H locs hP hD hS
    rw [f_X12_seconds] at hf
    refine lv_aload_n hx hb dX12_seconds_0 rfl (lv_at hl 0 rfl) ?_
    refine lv_iconst (v := (0 : Int32)) hx hb dX12_seconds_1 (by decide) ?_
    refine va_put (D := D) (ci := 12) (v := .int (0 : Int32)) (ty := .int) (C := RX12) (T := TX12) (N := 35) hx hb hts kb_inX12 tyX12 tyX12_ok nmX12 hown hK.1 hP hD hS 0 rfl rfl 0 (by decide) (hK.2.w ww_5_200 rfl _) (fun _ h9 => h9) rfl (by decide +kernel) rfl rfl (Nat.le_of_ble_eq_true rfl) dX12_seconds_2 (fun H locs hP hD hS => ?_)
    have hP : va_P D vwCl (w_MO dA a (some g0) q1 g2 g3 g4 g5 (wa 0) g7 g8 g9 g10 g11 g12 g13 g14 g15 g16 g17 g18 (mo_set_thrown mo (0 : Int32)) ++ (w_W dA wa y_w)) H := hP
    have hD : va_D A (w_MO dA a (some g0) q1 g2 g3 g4 g5 (wa 0) g7 g8 g9 g10 g11 g12 g13 g14 g15 g16 g17 g18 (mo_set_thrown mo (0 : Int32)) ++ (w_W dA wa y_w)) := hD
    exact B_5 _ _ _ _ _ hf hP hD hS (lv_sub hl [0, 1] rfl)
  exact E0 _ _ hP hD hS

noncomputable def f_X12_isRider_b26 (mo : MOT) (bu : BusT)  : Option (Int32) := some ((0 : Int32))
noncomputable def f_X12_isRider (mo : MOT) (bu : BusT) (x0 : Int32) : Option (Int32) := (if x0 < 0 then f_X12_isRider_b26 mo bu  else (if (bu_riders bu) ≤ x0 then f_X12_isRider_b26 mo bu  else some ((1 : Int32))))
set_option maxHeartbeats 4000000 in
set_option maxRecDepth 100000 in
theorem c_X12_isRider (l : Launch) (D : va_G) (dA : Nat → ClassId) (sz : Nat) (a : Nat → Nat) (ba : Nat → Nat) (q1 : Option Nat) (g2 : Nat) (g3 : Nat) (g4 : Nat) (g5 : Nat) (g6 : Nat) (g7 : Nat) (g8 : Nat) (g9 : Nat) (g10 : Nat) (g11 : Nat) (g12 : Nat) (g13 : Nat) (g14 : Nat) (g15 : Nat) (g16 : Nat) (g17 : Nat) (g18 : Nat) (mo : MOT) (bu : BusT) (x0 : Int32) (rv : Int32) (hf : f_X12_isRider mo bu x0 = some (rv)) : kb_Mi l yX12_isRider cX12_isRider 2 (some .boolean) ({ frames := 0, cells := 0, slots := 0, locals := 0 } : Room) D dA [.ref (a 0), .int x0] sz (w_MO dA a (some (ba 0)) q1 g2 g3 g4 g5 g6 g7 g8 g9 g10 g11 g12 g13 g14 g15 g16 g17 g18 mo ++ (w_Bus dA ba bu)) 0 0 rv (w_MO dA a (some (ba 0)) q1 g2 g3 g4 g5 g6 g7 g8 g9 g10 g11 g12 g13 g14 g15 g16 g17 g18 mo ++ (w_Bus dA ba bu)) := by
  refine Met.ofW (cc := cX12_isRider) (maxL := 2) (ret := (some .boolean)) (by decide) rfl ?_
  intro p e s m args below meth c s₁ B hml hv
  obtain ⟨rfl, hsz, hP, hK, hD0, hE⟩ := hv
  have hx := B.exec
  have hb := B.bytes
  have hr := B.returns
  have hown : s.vm.findClass RX12 = some m.cls := findClass_of_methodNamed B.named
  have hlocks := B.notSynchronized
  have hts : ∀ w ∈ kb_gw, w.before ([.ref (a 0), .int x0] : List Value).toArray s = true := fun w hw => hK.2.1 w hw _
  subst hsz
  have hD := hD0.self (sz := s.heap.size)
  generalize hAe : va_A (w_MO dA a (some (ba 0)) q1 g2 g3 g4 g5 g6 g7 g8 g9 g10 g11 g12 g13 g14 g15 g16 g17 g18 mo ++ (w_Bus dA ba bu)) s.heap.size = A at hD hE ⊢
  have hA : ∀ q : Nat, s.heap.size ≤ q → A q := fun q h => by rw [← hAe]; exact Or.inr h
  have hS : va_S A s.heap s.heap [] := va_S.rf
  have hl := lv_entry ([.ref (a 0), .int x0]) (n := 2) (Nat.le_of_ble_eq_true rfl)
  rw [lg_entry_eq]
  generalize (lg_sl ([.ref (a 0), .int x0]) ++ List.replicate (2 - (lg_sl ([.ref (a 0), .int x0])).length) Slot.unset).toArray = ls at hl ⊢
  have hl : lv_has ls 2 [(0, .ref (a 0)), (1, .int x0)] := hl
  generalize hQ : MQ below (va_Qi (fun r (_ : Unit) => r = rv) (kb_B D A (w_MO dA a (some (ba 0)) q1 g2 g3 g4 g5 g6 g7 g8 g9 g10 g11 g12 g13 g14 g15 g16 g17 g18 mo ++ (w_Bus dA ba bu))) A) ([.ref (a 0), .int x0] : List Value).toArray s 0 0 A = Q
  show W p l e ({ frames := 0, cells := 0, slots := 0, locals := 0 } : Room) s m ([.ref (a 0), .int x0] : List Value).toArray below meth c s.heap [] 0 0 Q (F0 m 0 ls [])
  have RET : ∀ (r2 : Int32) (H : Heap) (locs : List Loc) (ls : Array Slot) (pc : Nat), some (r2) = some (rv) → va_P D vwCl (w_MO dA a (some (ba 0)) q1 g2 g3 g4 g5 g6 g7 g8 g9 g10 g11 g12 g13 g14 g15 g16 g17 g18 mo ++ (w_Bus dA ba bu)) H → va_D A (w_MO dA a (some (ba 0)) q1 g2 g3 g4 g5 g6 g7 g8 g9 g10 g11 g12 g13 g14 g15 g16 g17 g18 mo ++ (w_Bus dA ba bu)) → va_S A s.heap H locs → kb_01 r2 → decode cX12_isRider pc = .ok (.ireturn, 1) → W p l e ({ frames := 0, cells := 0, slots := 0, locals := 0 } : Room) s m ([.ref (a 0), .int x0] : List Value).toArray below meth c H locs 0 0 Q (F0 m pc ls [.int r2]) := by
    intro r2 H locs ls pc hq hP hD hS h01 hd
    cases hq
    rw [← hQ]
    exact W.zret (ty := .boolean) hx hb hr (kb_nz h01) (fun t ht hW => ⟨⟨_, (), rfl, rfl, by rw [ht]; exact hP, hD⟩, hS.F ht⟩) hS.2.2 hd
  have B_26 : ∀  (H : Heap) (locs : List Loc) (ls : Array Slot), f_X12_isRider_b26 mo bu  = some (rv) → va_P D vwCl (w_MO dA a (some (ba 0)) q1 g2 g3 g4 g5 g6 g7 g8 g9 g10 g11 g12 g13 g14 g15 g16 g17 g18 mo ++ (w_Bus dA ba bu)) H → va_D A (w_MO dA a (some (ba 0)) q1 g2 g3 g4 g5 g6 g7 g8 g9 g10 g11 g12 g13 g14 g15 g16 g17 g18 mo ++ (w_Bus dA ba bu)) → va_S A s.heap H locs → lv_has ls 2 [] → W p l e ({ frames := 0, cells := 0, slots := 0, locals := 0 } : Room) s m ([.ref (a 0), .int x0] : List Value).toArray below meth c H locs 0 0 Q (F0 m 26 ls []) := by
    intro  H locs ls hf hP hD hS hl
    rw [f_X12_isRider_b26] at hf
    refine lv_iconst (v := (0 : Int32)) hx hb dX12_isRider_26 (by decide) ?_
    exact RET _ H _ ls 27 hf hP hD hS (by decide) dX12_isRider_27
  have E0 : ∀ (H : Heap) (locs : List Loc), va_P D vwCl (w_MO dA a (some (ba 0)) q1 g2 g3 g4 g5 g6 g7 g8 g9 g10 g11 g12 g13 g14 g15 g16 g17 g18 mo ++ (w_Bus dA ba bu)) H → va_D A (w_MO dA a (some (ba 0)) q1 g2 g3 g4 g5 g6 g7 g8 g9 g10 g11 g12 g13 g14 g15 g16 g17 g18 mo ++ (w_Bus dA ba bu)) → va_S A s.heap H locs → W p l e ({ frames := 0, cells := 0, slots := 0, locals := 0 } : Room) s m ([.ref (a 0), .int x0] : List Value).toArray below meth c H locs 0 0 Q (F0 m 0 ls []) := by
    intro H locs hP hD hS
    rw [f_X12_isRider] at hf
    refine lv_aload_n hx hb dX12_isRider_0 rfl (lv_at hl 0 rfl) ?_
    refine va_get (D := D) (ci := 12) (v := .ref (ba 0)) (C := RX12) (T := TX12) (N := 35) hx hb hts kb_inX12 hown hK.1 hP 0 rfl rfl 3 (by decide) (hK.2.w ww_5_203 rfl _) (fun _ h9 => h9) rfl dX12_isRider_1 ?_
    refine lv_ifnull hx hb dX12_isRider_4 ?_
    refine lv_iload_n hx hb dX12_isRider_7 rfl (lv_at hl 1 rfl) ?_
    refine lv_if_lt (tgt := 26) hx hb dX12_isRider_8 (by decide) (fun c_1 => ?_) (fun c_1 => ?_)
    · rw [if_pos c_1] at hf
      exact B_26 _ _ _ hf hP hD hS (lv_sub hl [] rfl)
    · rw [if_neg c_1] at hf
      refine lv_iload_n hx hb dX12_isRider_11 rfl (lv_at hl 1 rfl) ?_
      refine lv_aload_n hx hb dX12_isRider_12 rfl (lv_at hl 0 rfl) ?_
      refine va_get (D := D) (ci := 12) (v := .ref (ba 0)) (C := RX12) (T := TX12) (N := 35) hx hb hts kb_inX12 hown hK.1 hP 0 rfl rfl 3 (by decide) (hK.2.w ww_5_203 rfl _) (fun _ h9 => h9) rfl dX12_isRider_13 ?_
      refine va_getN (D := D) (ci := 11) (v := .int (bu_riders bu)) (C := RX11) (T := TX11) (N := 26) hx hb hts kb_inX11 hown hK.1 hP 1 rfl rfl 7 (by decide) (hK.2.nb ww_6_96 rfl rfl _) (fun _ h9 => h9) rfl dX12_isRider_16 ?_
      refine lv_icmp_ge (tgt := 26) hx hb dX12_isRider_19 (by decide) (fun c_2 => ?_) (fun c_2 => ?_)
      · rw [if_pos c_2] at hf
        exact B_26 _ _ _ hf hP hD hS (lv_sub hl [] rfl)
      · rw [if_neg c_2] at hf
        refine lv_iconst (v := (1 : Int32)) hx hb dX12_isRider_22 (by decide) ?_
        refine lv_goto (tgt := 27) hx hb dX12_isRider_23 (by decide) ?_
        exact RET _ H _ ls 27 hf hP hD hS (by decide) dX12_isRider_27
  exact E0 _ _ hP hD hS

noncomputable def f_X12_at_b5 (y_w : WT) (bu : BusT) (v1 : Int32) (z0 : MOT) : Option (Int32 × MOT) := (f_X12_isRider z0 bu v1).bind fun r1 => (if r1 = 0 then (f_X12_refused z0 (1 : Int32)).bind fun r3 => some (r3.1, r3.2) else if kb_in? ((0 : Int32) + v1) 56 then (f_X12_done z0 ((yW_r y_w) (((0 : Int32) + v1)).toNatClampNeg)).bind fun r5 => some (r5.1, r5.2) else none)
noncomputable def f_X12_at (mo : MOT) (y_w : WT) (bu : BusT) (x0 : Int32) : Option (Int32 × MOT) := f_X12_at_b5 y_w bu x0 (mo_set_thrown mo (0 : Int32))
set_option maxHeartbeats 4000000 in
set_option maxRecDepth 100000 in
theorem c_X12_at (l : Launch) (D : va_G) (dA : Nat → ClassId) (sz : Nat) (a : Nat → Nat) (wa : Nat → Nat) (ba : Nat → Nat) (q1 : Option Nat) (g2 : Nat) (g3 : Nat) (g4 : Nat) (g5 : Nat) (g7 : Nat) (g8 : Nat) (g9 : Nat) (g10 : Nat) (g11 : Nat) (g12 : Nat) (g13 : Nat) (g14 : Nat) (g15 : Nat) (g16 : Nat) (g17 : Nat) (g18 : Nat) (mo : MOT) (y_w : WT) (bu : BusT) (x0 : Int32) (rv : Int32) (u0 : MOT) (hf : f_X12_at mo y_w bu x0 = some (rv, u0)) : kb_Mi l yX12_at cX12_at 2 (some .int) ({ frames := 1, cells := 0, slots := 0, locals := 21 } : Room) D dA [.ref (a 0), .int x0] sz (w_MO dA a (some (ba 0)) q1 g2 g3 g4 g5 (wa 0) g7 g8 g9 g10 g11 g12 g13 g14 g15 g16 g17 g18 mo ++ (w_W dA wa y_w ++ (w_Bus dA ba bu))) 0 0 rv (w_MO dA a (some (ba 0)) q1 g2 g3 g4 g5 (wa 0) g7 g8 g9 g10 g11 g12 g13 g14 g15 g16 g17 g18 u0 ++ (w_W dA wa y_w ++ (w_Bus dA ba bu))) := by
  refine Met.ofW (cc := cX12_at) (maxL := 2) (ret := (some .int)) (by decide) rfl ?_
  intro p e s m args below meth c s₁ B hml hv
  obtain ⟨rfl, hsz, hP, hK, hD0, hE⟩ := hv
  have hx := B.exec
  have hb := B.bytes
  have hr := B.returns
  have hown : s.vm.findClass RX12 = some m.cls := findClass_of_methodNamed B.named
  have hlocks := B.notSynchronized
  have hts : ∀ w ∈ kb_gw, w.before ([.ref (a 0), .int x0] : List Value).toArray s = true := fun w hw => hK.2.1 w hw _
  subst hsz
  have hD := hD0.self (sz := s.heap.size)
  generalize hAe : va_A (w_MO dA a (some (ba 0)) q1 g2 g3 g4 g5 (wa 0) g7 g8 g9 g10 g11 g12 g13 g14 g15 g16 g17 g18 mo ++ (w_W dA wa y_w ++ (w_Bus dA ba bu))) s.heap.size = A at hD hE ⊢
  have hA : ∀ q : Nat, s.heap.size ≤ q → A q := fun q h => by rw [← hAe]; exact Or.inr h
  have hS : va_S A s.heap s.heap [] := va_S.rf
  have hl := lv_entry ([.ref (a 0), .int x0]) (n := 2) (Nat.le_of_ble_eq_true rfl)
  rw [lg_entry_eq]
  generalize (lg_sl ([.ref (a 0), .int x0]) ++ List.replicate (2 - (lg_sl ([.ref (a 0), .int x0])).length) Slot.unset).toArray = ls at hl ⊢
  have hl : lv_has ls 2 [(0, .ref (a 0)), (1, .int x0)] := hl
  generalize hQ : MQ below (va_Qi (fun r (_ : Unit) => r = rv) (kb_B D A (w_MO dA a (some (ba 0)) q1 g2 g3 g4 g5 (wa 0) g7 g8 g9 g10 g11 g12 g13 g14 g15 g16 g17 g18 u0 ++ (w_W dA wa y_w ++ (w_Bus dA ba bu)))) A) ([.ref (a 0), .int x0] : List Value).toArray s 0 0 A = Q
  show W p l e ({ frames := 1, cells := 0, slots := 0, locals := 21 } : Room) s m ([.ref (a 0), .int x0] : List Value).toArray below meth c s.heap [] 0 0 Q (F0 m 0 ls [])
  have RET : ∀ (r2 : Int32) (w0 : MOT) (H : Heap) (locs : List Loc) (ls : Array Slot) (pc : Nat), some (r2, w0) = some (rv, u0) → va_P D vwCl (w_MO dA a (some (ba 0)) q1 g2 g3 g4 g5 (wa 0) g7 g8 g9 g10 g11 g12 g13 g14 g15 g16 g17 g18 w0 ++ (w_W dA wa y_w ++ (w_Bus dA ba bu))) H → va_D A (w_MO dA a (some (ba 0)) q1 g2 g3 g4 g5 (wa 0) g7 g8 g9 g10 g11 g12 g13 g14 g15 g16 g17 g18 w0 ++ (w_W dA wa y_w ++ (w_Bus dA ba bu))) → va_S A s.heap H locs → decode cX12_at pc = .ok (.ireturn, 1) → W p l e ({ frames := 1, cells := 0, slots := 0, locals := 21 } : Room) s m ([.ref (a 0), .int x0] : List Value).toArray below meth c H locs 0 0 Q (F0 m pc ls [.int r2]) := by
    intro r2 w0 H locs ls pc hq hP hD hS hd
    cases hq
    rw [← hQ]
    exact W.iret hx hb hr (fun t ht hW => ⟨⟨_, (), rfl, rfl, by rw [ht]; exact hP, hD⟩, hS.F ht⟩) hS.2.2 hd
  have B_5 : ∀ (v1 : Int32) (z0 : MOT) (H : Heap) (locs : List Loc) (ls : Array Slot), f_X12_at_b5 y_w bu v1 z0 = some (rv, u0) → va_P D vwCl (w_MO dA a (some (ba 0)) q1 g2 g3 g4 g5 (wa 0) g7 g8 g9 g10 g11 g12 g13 g14 g15 g16 g17 g18 z0 ++ (w_W dA wa y_w ++ (w_Bus dA ba bu))) H → va_D A (w_MO dA a (some (ba 0)) q1 g2 g3 g4 g5 (wa 0) g7 g8 g9 g10 g11 g12 g13 g14 g15 g16 g17 g18 z0 ++ (w_W dA wa y_w ++ (w_Bus dA ba bu))) → va_S A s.heap H locs → lv_has ls 2 [(0, .ref (a 0)), (1, .int v1)] → W p l e ({ frames := 1, cells := 0, slots := 0, locals := 21 } : Room) s m ([.ref (a 0), .int x0] : List Value).toArray below meth c H locs 0 0 Q (F0 m 5 ls []) := by
    intro v1 z0 H locs ls hf hP hD hS hl
    rw [f_X12_at_b5] at hf
    refine lv_aload_n hx hb dX12_at_5 rfl (lv_at hl 0 rfl) ?_
    refine lv_iload_n hx hb dX12_at_6 rfl (lv_at hl 1 rfl) ?_
    obtain ⟨r1, hc1, hf⟩ := kb_bind hf
    refine kb_ci (ws2 := (w_MO dA a (some (ba 0)) q1 g2 g3 g4 g5 (wa 0) g7 g8 g9 g10 g11 g12 g13 g14 g15 g16 g17 g18 z0 ++ (w_W dA wa y_w ++ (w_Bus dA ba bu)))) (kb_rV (n := 1) (As := [.int v1]) (rest := []) hx hb hml hown hK (c_X12_isRider l D dA H.size a ba q1 g2 g3 g4 g5 (wa 0) g7 g8 g9 g10 g11 g12 g13 g14 g15 g16 g17 g18 z0 bu v1 r1 hc1) ⟨ww_8_5, ww_8_2, ww_8_4, ws_95, ww_1_12, rfl, by decide, by decide⟩ rfl rfl (by decide +kernel) ⟨Nat.le_of_ble_eq_true rfl, Nat.le_of_ble_eq_true rfl⟩ hP hD hS hA hE [0, 2, 3, 4, 5, 6, 7, 8, 9, 10, 11, 12, 13, 14, 15, 16, 17] rfl (by decide) 0 rfl rfl rfl hl.1 rfl (Nat.le_of_ble_eq_true rfl) dX12_at_7 ⟨Nat.le_of_ble_eq_true rfl, Nat.le_of_ble_eq_true rfl⟩) hP hD hS hA [0, 2, 3, 4, 5, 6, 7, 8, 9, 10, 11, 12, 13, 14, 15, 16, 17] [1] [1, 0, 2, 3, 4, 5, 6, 7, 8, 9, 10, 11, 12, 13, 14, 15, 16, 17] rfl rfl (by decide) (by decide) rfl (by decide) (fun H locs hP hD hS => ?_)
    refine lv_if_eq (tgt := 28) hx hb dX12_at_10 (by decide) (fun c_2 => ?_) (fun c_2 => ?_)
    · rw [if_pos c_2] at hf
      refine lv_aload_n hx hb dX12_at_28 rfl (lv_at hl 0 rfl) ?_
      refine lv_iconst (v := (1 : Int32)) hx hb dX12_at_29 (by decide) ?_
      obtain ⟨r3, hc3, hf⟩ := kb_bind hf
      refine kb_ci (ws2 := (w_MO dA a (some (ba 0)) q1 g2 g3 g4 g5 (wa 0) g7 g8 g9 g10 g11 g12 g13 g14 g15 g16 g17 g18 r3.2 ++ (w_W dA wa y_w ++ (w_Bus dA ba bu)))) (kb_rV (n := 1) (As := [.int (1 : Int32)]) (rest := []) hx hb hml hown hK (c_X12_refused l D dA H.size a (some (ba 0)) q1 g2 g3 g4 g5 (wa 0) g7 g8 g9 g10 g11 g12 g13 g14 g15 g16 g17 g18 z0 (1 : Int32) r3.1 r3.2 hc3) ⟨ww_6_82, ww_6_79, ww_6_81, ws_46, ww_1_12, rfl, by decide, by decide⟩ rfl rfl (by decide +kernel) ⟨Nat.le_of_ble_eq_true rfl, Nat.le_of_ble_eq_true rfl⟩ hP hD hS hA hE [0] rfl (by decide) 0 rfl rfl rfl hl.1 rfl (Nat.le_of_ble_eq_true rfl) dX12_at_30 ⟨Nat.le_of_ble_eq_true rfl, Nat.le_of_ble_eq_true rfl⟩) hP hD hS hA [0] [1, 2, 3, 4, 5, 6, 7, 8, 9, 10, 11, 12, 13, 14, 15, 16, 17] [17, 0, 1, 2, 3, 4, 5, 6, 7, 8, 9, 10, 11, 12, 13, 14, 15, 16] rfl rfl (by decide) (by decide) rfl (by decide) (fun H locs hP hD hS => ?_)
      exact RET _ _ H _ ls 33 hf hP hD hS dX12_at_33
    · rw [if_neg c_2] at hf
      refine lv_aload_n hx hb dX12_at_13 rfl (lv_at hl 0 rfl) ?_
      refine lv_aload_n hx hb dX12_at_14 rfl (lv_at hl 0 rfl) ?_
      refine va_get (D := D) (ci := 12) (v := .ref (wa 0)) (C := RX12) (T := TX12) (N := 35) hx hb hts kb_inX12 hown hK.1 hP 0 rfl rfl 19 (by decide) (hK.2.w ww_5_219 rfl _) (fun _ h9 => h9) rfl dX12_at_15 ?_
      refine lv_iconst (v := (0 : Int32)) hx hb dX12_at_18 (by decide) ?_
      refine lv_iload_n hx hb dX12_at_19 rfl (lv_at hl 1 rfl) ?_
      refine lv_iadd hx hb dX12_at_20 ?_
      obtain ⟨h_4, hf⟩ := kb_if hf
      refine va_iald (D := D) hx hb hK.1 hP 1 0 rfl rfl h_4 dX12_at_21 ?_
      obtain ⟨r5, hc5, hf⟩ := kb_bind hf
      refine kb_ci (ws2 := (w_MO dA a (some (ba 0)) q1 g2 g3 g4 g5 (wa 0) g7 g8 g9 g10 g11 g12 g13 g14 g15 g16 g17 g18 r5.2 ++ (w_W dA wa y_w ++ (w_Bus dA ba bu)))) (kb_rV (n := 1) (As := [.int ((yW_r y_w) (((0 : Int32) + v1)).toNatClampNeg)]) (rest := []) hx hb hml hown hK (c_X12_done l D dA H.size a (some (ba 0)) q1 g2 g3 g4 g5 (wa 0) g7 g8 g9 g10 g11 g12 g13 g14 g15 g16 g17 g18 z0 ((yW_r y_w) (((0 : Int32) + v1)).toNatClampNeg) r5.1 r5.2 hc5) ⟨ww_7_100, ww_7_97, ww_7_99, ws_71, ww_1_12, rfl, by decide, by decide⟩ rfl rfl (by decide +kernel) ⟨Nat.le_of_ble_eq_true rfl, Nat.le_of_ble_eq_true rfl⟩ hP hD hS hA hE [0] rfl (by decide) 0 rfl rfl rfl hl.1 rfl (Nat.le_of_ble_eq_true rfl) dX12_at_22 ⟨Nat.le_of_ble_eq_true rfl, Nat.le_of_ble_eq_true rfl⟩) hP hD hS hA [0] [1, 2, 3, 4, 5, 6, 7, 8, 9, 10, 11, 12, 13, 14, 15, 16, 17] [17, 0, 1, 2, 3, 4, 5, 6, 7, 8, 9, 10, 11, 12, 13, 14, 15, 16] rfl rfl (by decide) (by decide) rfl (by decide) (fun H locs hP hD hS => ?_)
      refine lv_goto (tgt := 33) hx hb dX12_at_25 (by decide) ?_
      exact RET _ _ H _ ls 33 hf hP hD hS dX12_at_33
  have E0 : ∀ (H : Heap) (locs : List Loc), va_P D vwCl (w_MO dA a (some (ba 0)) q1 g2 g3 g4 g5 (wa 0) g7 g8 g9 g10 g11 g12 g13 g14 g15 g16 g17 g18 mo ++ (w_W dA wa y_w ++ (w_Bus dA ba bu))) H → va_D A (w_MO dA a (some (ba 0)) q1 g2 g3 g4 g5 (wa 0) g7 g8 g9 g10 g11 g12 g13 g14 g15 g16 g17 g18 mo ++ (w_W dA wa y_w ++ (w_Bus dA ba bu))) → va_S A s.heap H locs → W p l e ({ frames := 1, cells := 0, slots := 0, locals := 21 } : Room) s m ([.ref (a 0), .int x0] : List Value).toArray below meth c H locs 0 0 Q (F0 m 0 ls []) := by
    intro H locs hP hD hS
    rw [f_X12_at] at hf
    refine lv_aload_n hx hb dX12_at_0 rfl (lv_at hl 0 rfl) ?_
    refine lv_iconst (v := (0 : Int32)) hx hb dX12_at_1 (by decide) ?_
    refine va_put (D := D) (ci := 12) (v := .int (0 : Int32)) (ty := .int) (C := RX12) (T := TX12) (N := 35) hx hb hts kb_inX12 tyX12 tyX12_ok nmX12 hown hK.1 hP hD hS 0 rfl rfl 0 (by decide) (hK.2.w ww_5_200 rfl _) (fun _ h9 => h9) rfl (by decide +kernel) rfl rfl (Nat.le_of_ble_eq_true rfl) dX12_at_2 (fun H locs hP hD hS => ?_)
    have hP : va_P D vwCl (w_MO dA a (some (ba 0)) q1 g2 g3 g4 g5 (wa 0) g7 g8 g9 g10 g11 g12 g13 g14 g15 g16 g17 g18 (mo_set_thrown mo (0 : Int32)) ++ (w_W dA wa y_w ++ (w_Bus dA ba bu))) H := hP
    have hD : va_D A (w_MO dA a (some (ba 0)) q1 g2 g3 g4 g5 (wa 0) g7 g8 g9 g10 g11 g12 g13 g14 g15 g16 g17 g18 (mo_set_thrown mo (0 : Int32)) ++ (w_W dA wa y_w ++ (w_Bus dA ba bu))) := hD
    exact B_5 _ _ _ _ _ hf hP hD hS (lv_sub hl [0, 1] rfl)
  exact E0 _ _ hP hD hS

noncomputable def f_X12_sits_b5 (y_w : WT) (bu : BusT) (v1 : Int32) (z0 : MOT) : Option (Int32 × MOT) := (f_X12_isSeat z0 bu v1).bind fun r1 => (if r1 = 0 then (f_X12_refused z0 (1 : Int32)).bind fun r3 => some (r3.1, r3.2) else (f_X12_sitter z0 y_w bu v1).bind fun r4 => (f_X12_done z0 r4).bind fun r5 => some (r5.1, r5.2))
noncomputable def f_X12_sits (mo : MOT) (y_w : WT) (bu : BusT) (x0 : Int32) : Option (Int32 × MOT) := f_X12_sits_b5 y_w bu x0 (mo_set_thrown mo (0 : Int32))
set_option maxHeartbeats 4000000 in
set_option maxRecDepth 100000 in
theorem c_X12_sits (l : Launch) (D : va_G) (dA : Nat → ClassId) (sz : Nat) (a : Nat → Nat) (wa : Nat → Nat) (ba : Nat → Nat) (q1 : Option Nat) (g2 : Nat) (g3 : Nat) (g4 : Nat) (g5 : Nat) (g7 : Nat) (g8 : Nat) (g9 : Nat) (g10 : Nat) (g11 : Nat) (g12 : Nat) (g13 : Nat) (g14 : Nat) (g15 : Nat) (g16 : Nat) (g17 : Nat) (g18 : Nat) (mo : MOT) (y_w : WT) (bu : BusT) (x0 : Int32) (rv : Int32) (u0 : MOT) (hf : f_X12_sits mo y_w bu x0 = some (rv, u0)) : kb_Mi l yX12_sits cX12_sits 2 (some .int) ({ frames := 2, cells := 0, slots := 0, locals := 42 } : Room) D dA [.ref (a 0), .int x0] sz (w_MO dA a (some (ba 0)) q1 g2 g3 g4 g5 (wa 0) g7 g8 g9 g10 g11 g12 g13 g14 g15 g16 g17 g18 mo ++ (w_W dA wa y_w ++ (w_Bus dA ba bu))) 0 0 rv (w_MO dA a (some (ba 0)) q1 g2 g3 g4 g5 (wa 0) g7 g8 g9 g10 g11 g12 g13 g14 g15 g16 g17 g18 u0 ++ (w_W dA wa y_w ++ (w_Bus dA ba bu))) := by
  refine Met.ofW (cc := cX12_sits) (maxL := 2) (ret := (some .int)) (by decide) rfl ?_
  intro p e s m args below meth c s₁ B hml hv
  obtain ⟨rfl, hsz, hP, hK, hD0, hE⟩ := hv
  have hx := B.exec
  have hb := B.bytes
  have hr := B.returns
  have hown : s.vm.findClass RX12 = some m.cls := findClass_of_methodNamed B.named
  have hlocks := B.notSynchronized
  have hts : ∀ w ∈ kb_gw, w.before ([.ref (a 0), .int x0] : List Value).toArray s = true := fun w hw => hK.2.1 w hw _
  subst hsz
  have hD := hD0.self (sz := s.heap.size)
  generalize hAe : va_A (w_MO dA a (some (ba 0)) q1 g2 g3 g4 g5 (wa 0) g7 g8 g9 g10 g11 g12 g13 g14 g15 g16 g17 g18 mo ++ (w_W dA wa y_w ++ (w_Bus dA ba bu))) s.heap.size = A at hD hE ⊢
  have hA : ∀ q : Nat, s.heap.size ≤ q → A q := fun q h => by rw [← hAe]; exact Or.inr h
  have hS : va_S A s.heap s.heap [] := va_S.rf
  have hl := lv_entry ([.ref (a 0), .int x0]) (n := 2) (Nat.le_of_ble_eq_true rfl)
  rw [lg_entry_eq]
  generalize (lg_sl ([.ref (a 0), .int x0]) ++ List.replicate (2 - (lg_sl ([.ref (a 0), .int x0])).length) Slot.unset).toArray = ls at hl ⊢
  have hl : lv_has ls 2 [(0, .ref (a 0)), (1, .int x0)] := hl
  generalize hQ : MQ below (va_Qi (fun r (_ : Unit) => r = rv) (kb_B D A (w_MO dA a (some (ba 0)) q1 g2 g3 g4 g5 (wa 0) g7 g8 g9 g10 g11 g12 g13 g14 g15 g16 g17 g18 u0 ++ (w_W dA wa y_w ++ (w_Bus dA ba bu)))) A) ([.ref (a 0), .int x0] : List Value).toArray s 0 0 A = Q
  show W p l e ({ frames := 2, cells := 0, slots := 0, locals := 42 } : Room) s m ([.ref (a 0), .int x0] : List Value).toArray below meth c s.heap [] 0 0 Q (F0 m 0 ls [])
  have RET : ∀ (r2 : Int32) (w0 : MOT) (H : Heap) (locs : List Loc) (ls : Array Slot) (pc : Nat), some (r2, w0) = some (rv, u0) → va_P D vwCl (w_MO dA a (some (ba 0)) q1 g2 g3 g4 g5 (wa 0) g7 g8 g9 g10 g11 g12 g13 g14 g15 g16 g17 g18 w0 ++ (w_W dA wa y_w ++ (w_Bus dA ba bu))) H → va_D A (w_MO dA a (some (ba 0)) q1 g2 g3 g4 g5 (wa 0) g7 g8 g9 g10 g11 g12 g13 g14 g15 g16 g17 g18 w0 ++ (w_W dA wa y_w ++ (w_Bus dA ba bu))) → va_S A s.heap H locs → decode cX12_sits pc = .ok (.ireturn, 1) → W p l e ({ frames := 2, cells := 0, slots := 0, locals := 42 } : Room) s m ([.ref (a 0), .int x0] : List Value).toArray below meth c H locs 0 0 Q (F0 m pc ls [.int r2]) := by
    intro r2 w0 H locs ls pc hq hP hD hS hd
    cases hq
    rw [← hQ]
    exact W.iret hx hb hr (fun t ht hW => ⟨⟨_, (), rfl, rfl, by rw [ht]; exact hP, hD⟩, hS.F ht⟩) hS.2.2 hd
  have B_5 : ∀ (v1 : Int32) (z0 : MOT) (H : Heap) (locs : List Loc) (ls : Array Slot), f_X12_sits_b5 y_w bu v1 z0 = some (rv, u0) → va_P D vwCl (w_MO dA a (some (ba 0)) q1 g2 g3 g4 g5 (wa 0) g7 g8 g9 g10 g11 g12 g13 g14 g15 g16 g17 g18 z0 ++ (w_W dA wa y_w ++ (w_Bus dA ba bu))) H → va_D A (w_MO dA a (some (ba 0)) q1 g2 g3 g4 g5 (wa 0) g7 g8 g9 g10 g11 g12 g13 g14 g15 g16 g17 g18 z0 ++ (w_W dA wa y_w ++ (w_Bus dA ba bu))) → va_S A s.heap H locs → lv_has ls 2 [(0, .ref (a 0)), (1, .int v1)] → W p l e ({ frames := 2, cells := 0, slots := 0, locals := 42 } : Room) s m ([.ref (a 0), .int x0] : List Value).toArray below meth c H locs 0 0 Q (F0 m 5 ls []) := by
    intro v1 z0 H locs ls hf hP hD hS hl
    rw [f_X12_sits_b5] at hf
    refine lv_aload_n hx hb dX12_sits_5 rfl (lv_at hl 0 rfl) ?_
    refine lv_iload_n hx hb dX12_sits_6 rfl (lv_at hl 1 rfl) ?_
    obtain ⟨r1, hc1, hf⟩ := kb_bind hf
    refine kb_ci (ws2 := (w_MO dA a (some (ba 0)) q1 g2 g3 g4 g5 (wa 0) g7 g8 g9 g10 g11 g12 g13 g14 g15 g16 g17 g18 z0 ++ (w_W dA wa y_w ++ (w_Bus dA ba bu)))) (kb_rV (n := 1) (As := [.int v1]) (rest := []) hx hb hml hown hK (c_X12_isSeat l D dA H.size a ba q1 g2 g3 g4 g5 (wa 0) g7 g8 g9 g10 g11 g12 g13 g14 g15 g16 g17 g18 z0 bu v1 r1 hc1) ⟨ww_7_179, ww_7_176, ww_7_178, ws_84, ww_1_12, rfl, by decide, by decide⟩ rfl rfl (by decide +kernel) ⟨Nat.le_of_ble_eq_true rfl, Nat.le_of_ble_eq_true rfl⟩ hP hD hS hA hE [0, 2, 3, 4, 5, 6, 7, 8, 9, 10, 11, 12, 13, 14, 15, 16, 17] rfl (by decide) 0 rfl rfl rfl hl.1 rfl (Nat.le_of_ble_eq_true rfl) dX12_sits_7 ⟨Nat.le_of_ble_eq_true rfl, Nat.le_of_ble_eq_true rfl⟩) hP hD hS hA [0, 2, 3, 4, 5, 6, 7, 8, 9, 10, 11, 12, 13, 14, 15, 16, 17] [1] [1, 0, 2, 3, 4, 5, 6, 7, 8, 9, 10, 11, 12, 13, 14, 15, 16, 17] rfl rfl (by decide) (by decide) rfl (by decide) (fun H locs hP hD hS => ?_)
    refine lv_if_eq (tgt := 25) hx hb dX12_sits_10 (by decide) (fun c_2 => ?_) (fun c_2 => ?_)
    · rw [if_pos c_2] at hf
      refine lv_aload_n hx hb dX12_sits_25 rfl (lv_at hl 0 rfl) ?_
      refine lv_iconst (v := (1 : Int32)) hx hb dX12_sits_26 (by decide) ?_
      obtain ⟨r3, hc3, hf⟩ := kb_bind hf
      refine kb_ci (ws2 := (w_MO dA a (some (ba 0)) q1 g2 g3 g4 g5 (wa 0) g7 g8 g9 g10 g11 g12 g13 g14 g15 g16 g17 g18 r3.2 ++ (w_W dA wa y_w ++ (w_Bus dA ba bu)))) (kb_rV (n := 1) (As := [.int (1 : Int32)]) (rest := []) hx hb hml hown hK (c_X12_refused l D dA H.size a (some (ba 0)) q1 g2 g3 g4 g5 (wa 0) g7 g8 g9 g10 g11 g12 g13 g14 g15 g16 g17 g18 z0 (1 : Int32) r3.1 r3.2 hc3) ⟨ww_6_82, ww_6_79, ww_6_81, ws_46, ww_1_12, rfl, by decide, by decide⟩ rfl rfl (by decide +kernel) ⟨Nat.le_of_ble_eq_true rfl, Nat.le_of_ble_eq_true rfl⟩ hP hD hS hA hE [0] rfl (by decide) 0 rfl rfl rfl hl.1 rfl (Nat.le_of_ble_eq_true rfl) dX12_sits_27 ⟨Nat.le_of_ble_eq_true rfl, Nat.le_of_ble_eq_true rfl⟩) hP hD hS hA [0] [1, 2, 3, 4, 5, 6, 7, 8, 9, 10, 11, 12, 13, 14, 15, 16, 17] [17, 0, 1, 2, 3, 4, 5, 6, 7, 8, 9, 10, 11, 12, 13, 14, 15, 16] rfl rfl (by decide) (by decide) rfl (by decide) (fun H locs hP hD hS => ?_)
      exact RET _ _ H _ ls 30 hf hP hD hS dX12_sits_30
    · rw [if_neg c_2] at hf
      refine lv_aload_n hx hb dX12_sits_13 rfl (lv_at hl 0 rfl) ?_
      refine lv_aload_n hx hb dX12_sits_14 rfl (lv_at hl 0 rfl) ?_
      refine lv_iload_n hx hb dX12_sits_15 rfl (lv_at hl 1 rfl) ?_
      obtain ⟨r4, hc4, hf⟩ := kb_bind hf
      refine kb_ci (ws2 := (w_MO dA a (some (ba 0)) q1 g2 g3 g4 g5 (wa 0) g7 g8 g9 g10 g11 g12 g13 g14 g15 g16 g17 g18 z0 ++ (w_W dA wa y_w ++ (w_Bus dA ba bu)))) (kb_rV (n := 1) (As := [.int v1]) (rest := [.ref (a 0)]) hx hb hml hown hK (c_X12_sitter l D dA H.size a wa ba q1 g2 g3 g4 g5 g7 g8 g9 g10 g11 g12 g13 g14 g15 g16 g17 g18 z0 y_w bu v1 r4 hc4) ⟨ww_7_155, ww_7_152, ww_7_154, ws_78, ww_1_12, rfl, by decide, by decide⟩ rfl rfl (by decide +kernel) ⟨Nat.le_of_ble_eq_true rfl, Nat.le_of_ble_eq_true rfl⟩ hP hD hS hA hE [0, 1, 2, 3, 4, 5, 6, 7, 8, 9, 10, 11, 12, 13, 14, 15, 16, 17] rfl (by decide) 0 rfl rfl rfl hl.1 rfl (Nat.le_of_ble_eq_true rfl) dX12_sits_16 ⟨Nat.le_of_ble_eq_true rfl, Nat.le_of_ble_eq_true rfl⟩) hP hD hS hA [0, 1, 2, 3, 4, 5, 6, 7, 8, 9, 10, 11, 12, 13, 14, 15, 16, 17] [] [0, 1, 2, 3, 4, 5, 6, 7, 8, 9, 10, 11, 12, 13, 14, 15, 16, 17] rfl rfl (by decide) (by decide) rfl (by decide) (fun H locs hP hD hS => ?_)
      obtain ⟨r5, hc5, hf⟩ := kb_bind hf
      refine kb_ci (ws2 := (w_MO dA a (some (ba 0)) q1 g2 g3 g4 g5 (wa 0) g7 g8 g9 g10 g11 g12 g13 g14 g15 g16 g17 g18 r5.2 ++ (w_W dA wa y_w ++ (w_Bus dA ba bu)))) (kb_rV (n := 1) (As := [.int r4]) (rest := []) hx hb hml hown hK (c_X12_done l D dA H.size a (some (ba 0)) q1 g2 g3 g4 g5 (wa 0) g7 g8 g9 g10 g11 g12 g13 g14 g15 g16 g17 g18 z0 r4 r5.1 r5.2 hc5) ⟨ww_7_100, ww_7_97, ww_7_99, ws_71, ww_1_12, rfl, by decide, by decide⟩ rfl rfl (by decide +kernel) ⟨Nat.le_of_ble_eq_true rfl, Nat.le_of_ble_eq_true rfl⟩ hP hD hS hA hE [0] rfl (by decide) 0 rfl rfl rfl hl.1 rfl (Nat.le_of_ble_eq_true rfl) dX12_sits_19 ⟨Nat.le_of_ble_eq_true rfl, Nat.le_of_ble_eq_true rfl⟩) hP hD hS hA [0] [1, 2, 3, 4, 5, 6, 7, 8, 9, 10, 11, 12, 13, 14, 15, 16, 17] [17, 0, 1, 2, 3, 4, 5, 6, 7, 8, 9, 10, 11, 12, 13, 14, 15, 16] rfl rfl (by decide) (by decide) rfl (by decide) (fun H locs hP hD hS => ?_)
      refine lv_goto (tgt := 30) hx hb dX12_sits_22 (by decide) ?_
      exact RET _ _ H _ ls 30 hf hP hD hS dX12_sits_30
  have E0 : ∀ (H : Heap) (locs : List Loc), va_P D vwCl (w_MO dA a (some (ba 0)) q1 g2 g3 g4 g5 (wa 0) g7 g8 g9 g10 g11 g12 g13 g14 g15 g16 g17 g18 mo ++ (w_W dA wa y_w ++ (w_Bus dA ba bu))) H → va_D A (w_MO dA a (some (ba 0)) q1 g2 g3 g4 g5 (wa 0) g7 g8 g9 g10 g11 g12 g13 g14 g15 g16 g17 g18 mo ++ (w_W dA wa y_w ++ (w_Bus dA ba bu))) → va_S A s.heap H locs → W p l e ({ frames := 2, cells := 0, slots := 0, locals := 42 } : Room) s m ([.ref (a 0), .int x0] : List Value).toArray below meth c H locs 0 0 Q (F0 m 0 ls []) := by
    intro H locs hP hD hS
    rw [f_X12_sits] at hf
    refine lv_aload_n hx hb dX12_sits_0 rfl (lv_at hl 0 rfl) ?_
    refine lv_iconst (v := (0 : Int32)) hx hb dX12_sits_1 (by decide) ?_
    refine va_put (D := D) (ci := 12) (v := .int (0 : Int32)) (ty := .int) (C := RX12) (T := TX12) (N := 35) hx hb hts kb_inX12 tyX12 tyX12_ok nmX12 hown hK.1 hP hD hS 0 rfl rfl 0 (by decide) (hK.2.w ww_5_200 rfl _) (fun _ h9 => h9) rfl (by decide +kernel) rfl rfl (Nat.le_of_ble_eq_true rfl) dX12_sits_2 (fun H locs hP hD hS => ?_)
    have hP : va_P D vwCl (w_MO dA a (some (ba 0)) q1 g2 g3 g4 g5 (wa 0) g7 g8 g9 g10 g11 g12 g13 g14 g15 g16 g17 g18 (mo_set_thrown mo (0 : Int32)) ++ (w_W dA wa y_w ++ (w_Bus dA ba bu))) H := hP
    have hD : va_D A (w_MO dA a (some (ba 0)) q1 g2 g3 g4 g5 (wa 0) g7 g8 g9 g10 g11 g12 g13 g14 g15 g16 g17 g18 (mo_set_thrown mo (0 : Int32)) ++ (w_W dA wa y_w ++ (w_Bus dA ba bu))) := hD
    exact B_5 _ _ _ _ _ hf hP hD hS (lv_sub hl [0, 1] rfl)
  exact E0 _ _ hP hD hS

noncomputable def f_X12_bag_b5 (y_w : WT) (bu : BusT) (v1 : Int32) (z0 : MOT) : Option (Int32 × MOT) := (f_X12_isSeat z0 bu v1).bind fun r1 => (if r1 = 0 then (f_X12_refused z0 (1 : Int32)).bind fun r3 => some (r3.1, r3.2) else (f_X12_bagIn z0 y_w bu v1).bind fun r4 => (f_X12_done z0 r4).bind fun r5 => some (r5.1, r5.2))
noncomputable def f_X12_bag (mo : MOT) (y_w : WT) (bu : BusT) (x0 : Int32) : Option (Int32 × MOT) := f_X12_bag_b5 y_w bu x0 (mo_set_thrown mo (0 : Int32))
set_option maxHeartbeats 4000000 in
set_option maxRecDepth 100000 in
theorem c_X12_bag (l : Launch) (D : va_G) (dA : Nat → ClassId) (sz : Nat) (a : Nat → Nat) (wa : Nat → Nat) (ba : Nat → Nat) (q1 : Option Nat) (g2 : Nat) (g3 : Nat) (g4 : Nat) (g5 : Nat) (g7 : Nat) (g8 : Nat) (g9 : Nat) (g10 : Nat) (g11 : Nat) (g12 : Nat) (g13 : Nat) (g14 : Nat) (g15 : Nat) (g16 : Nat) (g17 : Nat) (g18 : Nat) (mo : MOT) (y_w : WT) (bu : BusT) (x0 : Int32) (rv : Int32) (u0 : MOT) (hf : f_X12_bag mo y_w bu x0 = some (rv, u0)) : kb_Mi l yX12_bag cX12_bag 2 (some .int) ({ frames := 2, cells := 0, slots := 0, locals := 42 } : Room) D dA [.ref (a 0), .int x0] sz (w_MO dA a (some (ba 0)) q1 g2 g3 g4 g5 (wa 0) g7 g8 g9 g10 g11 g12 g13 g14 g15 g16 g17 g18 mo ++ (w_W dA wa y_w ++ (w_Bus dA ba bu))) 0 0 rv (w_MO dA a (some (ba 0)) q1 g2 g3 g4 g5 (wa 0) g7 g8 g9 g10 g11 g12 g13 g14 g15 g16 g17 g18 u0 ++ (w_W dA wa y_w ++ (w_Bus dA ba bu))) := by
  refine Met.ofW (cc := cX12_bag) (maxL := 2) (ret := (some .int)) (by decide) rfl ?_
  intro p e s m args below meth c s₁ B hml hv
  obtain ⟨rfl, hsz, hP, hK, hD0, hE⟩ := hv
  have hx := B.exec
  have hb := B.bytes
  have hr := B.returns
  have hown : s.vm.findClass RX12 = some m.cls := findClass_of_methodNamed B.named
  have hlocks := B.notSynchronized
  have hts : ∀ w ∈ kb_gw, w.before ([.ref (a 0), .int x0] : List Value).toArray s = true := fun w hw => hK.2.1 w hw _
  subst hsz
  have hD := hD0.self (sz := s.heap.size)
  generalize hAe : va_A (w_MO dA a (some (ba 0)) q1 g2 g3 g4 g5 (wa 0) g7 g8 g9 g10 g11 g12 g13 g14 g15 g16 g17 g18 mo ++ (w_W dA wa y_w ++ (w_Bus dA ba bu))) s.heap.size = A at hD hE ⊢
  have hA : ∀ q : Nat, s.heap.size ≤ q → A q := fun q h => by rw [← hAe]; exact Or.inr h
  have hS : va_S A s.heap s.heap [] := va_S.rf
  have hl := lv_entry ([.ref (a 0), .int x0]) (n := 2) (Nat.le_of_ble_eq_true rfl)
  rw [lg_entry_eq]
  generalize (lg_sl ([.ref (a 0), .int x0]) ++ List.replicate (2 - (lg_sl ([.ref (a 0), .int x0])).length) Slot.unset).toArray = ls at hl ⊢
  have hl : lv_has ls 2 [(0, .ref (a 0)), (1, .int x0)] := hl
  generalize hQ : MQ below (va_Qi (fun r (_ : Unit) => r = rv) (kb_B D A (w_MO dA a (some (ba 0)) q1 g2 g3 g4 g5 (wa 0) g7 g8 g9 g10 g11 g12 g13 g14 g15 g16 g17 g18 u0 ++ (w_W dA wa y_w ++ (w_Bus dA ba bu)))) A) ([.ref (a 0), .int x0] : List Value).toArray s 0 0 A = Q
  show W p l e ({ frames := 2, cells := 0, slots := 0, locals := 42 } : Room) s m ([.ref (a 0), .int x0] : List Value).toArray below meth c s.heap [] 0 0 Q (F0 m 0 ls [])
  have RET : ∀ (r2 : Int32) (w0 : MOT) (H : Heap) (locs : List Loc) (ls : Array Slot) (pc : Nat), some (r2, w0) = some (rv, u0) → va_P D vwCl (w_MO dA a (some (ba 0)) q1 g2 g3 g4 g5 (wa 0) g7 g8 g9 g10 g11 g12 g13 g14 g15 g16 g17 g18 w0 ++ (w_W dA wa y_w ++ (w_Bus dA ba bu))) H → va_D A (w_MO dA a (some (ba 0)) q1 g2 g3 g4 g5 (wa 0) g7 g8 g9 g10 g11 g12 g13 g14 g15 g16 g17 g18 w0 ++ (w_W dA wa y_w ++ (w_Bus dA ba bu))) → va_S A s.heap H locs → decode cX12_bag pc = .ok (.ireturn, 1) → W p l e ({ frames := 2, cells := 0, slots := 0, locals := 42 } : Room) s m ([.ref (a 0), .int x0] : List Value).toArray below meth c H locs 0 0 Q (F0 m pc ls [.int r2]) := by
    intro r2 w0 H locs ls pc hq hP hD hS hd
    cases hq
    rw [← hQ]
    exact W.iret hx hb hr (fun t ht hW => ⟨⟨_, (), rfl, rfl, by rw [ht]; exact hP, hD⟩, hS.F ht⟩) hS.2.2 hd
  have B_5 : ∀ (v1 : Int32) (z0 : MOT) (H : Heap) (locs : List Loc) (ls : Array Slot), f_X12_bag_b5 y_w bu v1 z0 = some (rv, u0) → va_P D vwCl (w_MO dA a (some (ba 0)) q1 g2 g3 g4 g5 (wa 0) g7 g8 g9 g10 g11 g12 g13 g14 g15 g16 g17 g18 z0 ++ (w_W dA wa y_w ++ (w_Bus dA ba bu))) H → va_D A (w_MO dA a (some (ba 0)) q1 g2 g3 g4 g5 (wa 0) g7 g8 g9 g10 g11 g12 g13 g14 g15 g16 g17 g18 z0 ++ (w_W dA wa y_w ++ (w_Bus dA ba bu))) → va_S A s.heap H locs → lv_has ls 2 [(0, .ref (a 0)), (1, .int v1)] → W p l e ({ frames := 2, cells := 0, slots := 0, locals := 42 } : Room) s m ([.ref (a 0), .int x0] : List Value).toArray below meth c H locs 0 0 Q (F0 m 5 ls []) := by
    intro v1 z0 H locs ls hf hP hD hS hl
    rw [f_X12_bag_b5] at hf
    refine lv_aload_n hx hb dX12_bag_5 rfl (lv_at hl 0 rfl) ?_
    refine lv_iload_n hx hb dX12_bag_6 rfl (lv_at hl 1 rfl) ?_
    obtain ⟨r1, hc1, hf⟩ := kb_bind hf
    refine kb_ci (ws2 := (w_MO dA a (some (ba 0)) q1 g2 g3 g4 g5 (wa 0) g7 g8 g9 g10 g11 g12 g13 g14 g15 g16 g17 g18 z0 ++ (w_W dA wa y_w ++ (w_Bus dA ba bu)))) (kb_rV (n := 1) (As := [.int v1]) (rest := []) hx hb hml hown hK (c_X12_isSeat l D dA H.size a ba q1 g2 g3 g4 g5 (wa 0) g7 g8 g9 g10 g11 g12 g13 g14 g15 g16 g17 g18 z0 bu v1 r1 hc1) ⟨ww_7_179, ww_7_176, ww_7_178, ws_84, ww_1_12, rfl, by decide, by decide⟩ rfl rfl (by decide +kernel) ⟨Nat.le_of_ble_eq_true rfl, Nat.le_of_ble_eq_true rfl⟩ hP hD hS hA hE [0, 2, 3, 4, 5, 6, 7, 8, 9, 10, 11, 12, 13, 14, 15, 16, 17] rfl (by decide) 0 rfl rfl rfl hl.1 rfl (Nat.le_of_ble_eq_true rfl) dX12_bag_7 ⟨Nat.le_of_ble_eq_true rfl, Nat.le_of_ble_eq_true rfl⟩) hP hD hS hA [0, 2, 3, 4, 5, 6, 7, 8, 9, 10, 11, 12, 13, 14, 15, 16, 17] [1] [1, 0, 2, 3, 4, 5, 6, 7, 8, 9, 10, 11, 12, 13, 14, 15, 16, 17] rfl rfl (by decide) (by decide) rfl (by decide) (fun H locs hP hD hS => ?_)
    refine lv_if_eq (tgt := 25) hx hb dX12_bag_10 (by decide) (fun c_2 => ?_) (fun c_2 => ?_)
    · rw [if_pos c_2] at hf
      refine lv_aload_n hx hb dX12_bag_25 rfl (lv_at hl 0 rfl) ?_
      refine lv_iconst (v := (1 : Int32)) hx hb dX12_bag_26 (by decide) ?_
      obtain ⟨r3, hc3, hf⟩ := kb_bind hf
      refine kb_ci (ws2 := (w_MO dA a (some (ba 0)) q1 g2 g3 g4 g5 (wa 0) g7 g8 g9 g10 g11 g12 g13 g14 g15 g16 g17 g18 r3.2 ++ (w_W dA wa y_w ++ (w_Bus dA ba bu)))) (kb_rV (n := 1) (As := [.int (1 : Int32)]) (rest := []) hx hb hml hown hK (c_X12_refused l D dA H.size a (some (ba 0)) q1 g2 g3 g4 g5 (wa 0) g7 g8 g9 g10 g11 g12 g13 g14 g15 g16 g17 g18 z0 (1 : Int32) r3.1 r3.2 hc3) ⟨ww_6_82, ww_6_79, ww_6_81, ws_46, ww_1_12, rfl, by decide, by decide⟩ rfl rfl (by decide +kernel) ⟨Nat.le_of_ble_eq_true rfl, Nat.le_of_ble_eq_true rfl⟩ hP hD hS hA hE [0] rfl (by decide) 0 rfl rfl rfl hl.1 rfl (Nat.le_of_ble_eq_true rfl) dX12_bag_27 ⟨Nat.le_of_ble_eq_true rfl, Nat.le_of_ble_eq_true rfl⟩) hP hD hS hA [0] [1, 2, 3, 4, 5, 6, 7, 8, 9, 10, 11, 12, 13, 14, 15, 16, 17] [17, 0, 1, 2, 3, 4, 5, 6, 7, 8, 9, 10, 11, 12, 13, 14, 15, 16] rfl rfl (by decide) (by decide) rfl (by decide) (fun H locs hP hD hS => ?_)
      exact RET _ _ H _ ls 30 hf hP hD hS dX12_bag_30
    · rw [if_neg c_2] at hf
      refine lv_aload_n hx hb dX12_bag_13 rfl (lv_at hl 0 rfl) ?_
      refine lv_aload_n hx hb dX12_bag_14 rfl (lv_at hl 0 rfl) ?_
      refine lv_iload_n hx hb dX12_bag_15 rfl (lv_at hl 1 rfl) ?_
      obtain ⟨r4, hc4, hf⟩ := kb_bind hf
      refine kb_ci (ws2 := (w_MO dA a (some (ba 0)) q1 g2 g3 g4 g5 (wa 0) g7 g8 g9 g10 g11 g12 g13 g14 g15 g16 g17 g18 z0 ++ (w_W dA wa y_w ++ (w_Bus dA ba bu)))) (kb_rV (n := 1) (As := [.int v1]) (rest := [.ref (a 0)]) hx hb hml hown hK (c_X12_bagIn l D dA H.size a wa ba q1 g2 g3 g4 g5 g7 g8 g9 g10 g11 g12 g13 g14 g15 g16 g17 g18 z0 y_w bu v1 r4 hc4) ⟨ww_7_171, ww_7_168, ww_7_170, ws_82, ww_1_12, rfl, by decide, by decide⟩ rfl rfl (by decide +kernel) ⟨Nat.le_of_ble_eq_true rfl, Nat.le_of_ble_eq_true rfl⟩ hP hD hS hA hE [0, 1, 2, 3, 4, 5, 6, 7, 8, 9, 10, 11, 12, 13, 14, 15, 16, 17] rfl (by decide) 0 rfl rfl rfl hl.1 rfl (Nat.le_of_ble_eq_true rfl) dX12_bag_16 ⟨Nat.le_of_ble_eq_true rfl, Nat.le_of_ble_eq_true rfl⟩) hP hD hS hA [0, 1, 2, 3, 4, 5, 6, 7, 8, 9, 10, 11, 12, 13, 14, 15, 16, 17] [] [0, 1, 2, 3, 4, 5, 6, 7, 8, 9, 10, 11, 12, 13, 14, 15, 16, 17] rfl rfl (by decide) (by decide) rfl (by decide) (fun H locs hP hD hS => ?_)
      obtain ⟨r5, hc5, hf⟩ := kb_bind hf
      refine kb_ci (ws2 := (w_MO dA a (some (ba 0)) q1 g2 g3 g4 g5 (wa 0) g7 g8 g9 g10 g11 g12 g13 g14 g15 g16 g17 g18 r5.2 ++ (w_W dA wa y_w ++ (w_Bus dA ba bu)))) (kb_rV (n := 1) (As := [.int r4]) (rest := []) hx hb hml hown hK (c_X12_done l D dA H.size a (some (ba 0)) q1 g2 g3 g4 g5 (wa 0) g7 g8 g9 g10 g11 g12 g13 g14 g15 g16 g17 g18 z0 r4 r5.1 r5.2 hc5) ⟨ww_7_100, ww_7_97, ww_7_99, ws_71, ww_1_12, rfl, by decide, by decide⟩ rfl rfl (by decide +kernel) ⟨Nat.le_of_ble_eq_true rfl, Nat.le_of_ble_eq_true rfl⟩ hP hD hS hA hE [0] rfl (by decide) 0 rfl rfl rfl hl.1 rfl (Nat.le_of_ble_eq_true rfl) dX12_bag_19 ⟨Nat.le_of_ble_eq_true rfl, Nat.le_of_ble_eq_true rfl⟩) hP hD hS hA [0] [1, 2, 3, 4, 5, 6, 7, 8, 9, 10, 11, 12, 13, 14, 15, 16, 17] [17, 0, 1, 2, 3, 4, 5, 6, 7, 8, 9, 10, 11, 12, 13, 14, 15, 16] rfl rfl (by decide) (by decide) rfl (by decide) (fun H locs hP hD hS => ?_)
      refine lv_goto (tgt := 30) hx hb dX12_bag_22 (by decide) ?_
      exact RET _ _ H _ ls 30 hf hP hD hS dX12_bag_30
  have E0 : ∀ (H : Heap) (locs : List Loc), va_P D vwCl (w_MO dA a (some (ba 0)) q1 g2 g3 g4 g5 (wa 0) g7 g8 g9 g10 g11 g12 g13 g14 g15 g16 g17 g18 mo ++ (w_W dA wa y_w ++ (w_Bus dA ba bu))) H → va_D A (w_MO dA a (some (ba 0)) q1 g2 g3 g4 g5 (wa 0) g7 g8 g9 g10 g11 g12 g13 g14 g15 g16 g17 g18 mo ++ (w_W dA wa y_w ++ (w_Bus dA ba bu))) → va_S A s.heap H locs → W p l e ({ frames := 2, cells := 0, slots := 0, locals := 42 } : Room) s m ([.ref (a 0), .int x0] : List Value).toArray below meth c H locs 0 0 Q (F0 m 0 ls []) := by
    intro H locs hP hD hS
    rw [f_X12_bag] at hf
    refine lv_aload_n hx hb dX12_bag_0 rfl (lv_at hl 0 rfl) ?_
    refine lv_iconst (v := (0 : Int32)) hx hb dX12_bag_1 (by decide) ?_
    refine va_put (D := D) (ci := 12) (v := .int (0 : Int32)) (ty := .int) (C := RX12) (T := TX12) (N := 35) hx hb hts kb_inX12 tyX12 tyX12_ok nmX12 hown hK.1 hP hD hS 0 rfl rfl 0 (by decide) (hK.2.w ww_5_200 rfl _) (fun _ h9 => h9) rfl (by decide +kernel) rfl rfl (Nat.le_of_ble_eq_true rfl) dX12_bag_2 (fun H locs hP hD hS => ?_)
    have hP : va_P D vwCl (w_MO dA a (some (ba 0)) q1 g2 g3 g4 g5 (wa 0) g7 g8 g9 g10 g11 g12 g13 g14 g15 g16 g17 g18 (mo_set_thrown mo (0 : Int32)) ++ (w_W dA wa y_w ++ (w_Bus dA ba bu))) H := hP
    have hD : va_D A (w_MO dA a (some (ba 0)) q1 g2 g3 g4 g5 (wa 0) g7 g8 g9 g10 g11 g12 g13 g14 g15 g16 g17 g18 (mo_set_thrown mo (0 : Int32)) ++ (w_W dA wa y_w ++ (w_Bus dA ba bu))) := hD
    exact B_5 _ _ _ _ _ hf hP hD hS (lv_sub hl [0, 1] rfl)
  exact E0 _ _ hP hD hS

noncomputable def f_X12_standers_b4 (mo : MOT) (y_w : WT) (bu : BusT) : Nat → Int32 → Int32 → Option (Int32)
  | 0, _, _ => none
  | n + 1, v1, v2 => (if (bu_riders bu) ≤ v2 then some (v1) else if kb_in? ((0 : Int32) + v2) 56 then (if ((yW_r y_w) (((0 : Int32) + v2)).toNatClampNeg) = (101 : Int32) then f_X12_standers_b4 mo y_w bu n (v1 ||| ((1 : Int32) <<< (v2 &&& 31))) (v2 + (1 : Int32)) else f_X12_standers_b4 mo y_w bu n (v1 ||| (0 : Int32)) (v2 + (1 : Int32))) else none)
noncomputable def f_X12_standers (mo : MOT) (y_w : WT) (bu : BusT) : Option (Int32) := f_X12_standers_b4 mo y_w bu 4096 (0 : Int32) (0 : Int32)
set_option maxHeartbeats 4000000 in
set_option maxRecDepth 100000 in
theorem c_X12_standers (l : Launch) (D : va_G) (dA : Nat → ClassId) (sz : Nat) (a : Nat → Nat) (wa : Nat → Nat) (ba : Nat → Nat) (q1 : Option Nat) (g2 : Nat) (g3 : Nat) (g4 : Nat) (g5 : Nat) (g7 : Nat) (g8 : Nat) (g9 : Nat) (g10 : Nat) (g11 : Nat) (g12 : Nat) (g13 : Nat) (g14 : Nat) (g15 : Nat) (g16 : Nat) (g17 : Nat) (g18 : Nat) (mo : MOT) (y_w : WT) (bu : BusT) (rv : Int32) (hf : f_X12_standers mo y_w bu = some (rv)) : kb_Mi l yX12_standers cX12_standers 3 (some .int) ({ frames := 0, cells := 0, slots := 0, locals := 0 } : Room) D dA [.ref (a 0)] sz (w_MO dA a (some (ba 0)) q1 g2 g3 g4 g5 (wa 0) g7 g8 g9 g10 g11 g12 g13 g14 g15 g16 g17 g18 mo ++ (w_W dA wa y_w ++ (w_Bus dA ba bu))) 0 0 rv (w_MO dA a (some (ba 0)) q1 g2 g3 g4 g5 (wa 0) g7 g8 g9 g10 g11 g12 g13 g14 g15 g16 g17 g18 mo ++ (w_W dA wa y_w ++ (w_Bus dA ba bu))) := by
  refine Met.ofW (cc := cX12_standers) (maxL := 3) (ret := (some .int)) (by decide) rfl ?_
  intro p e s m args below meth c s₁ B hml hv
  obtain ⟨rfl, hsz, hP, hK, hD0, hE⟩ := hv
  have hx := B.exec
  have hb := B.bytes
  have hr := B.returns
  have hown : s.vm.findClass RX12 = some m.cls := findClass_of_methodNamed B.named
  have hlocks := B.notSynchronized
  have hts : ∀ w ∈ kb_gw, w.before ([.ref (a 0)] : List Value).toArray s = true := fun w hw => hK.2.1 w hw _
  subst hsz
  have hD := hD0.self (sz := s.heap.size)
  generalize hAe : va_A (w_MO dA a (some (ba 0)) q1 g2 g3 g4 g5 (wa 0) g7 g8 g9 g10 g11 g12 g13 g14 g15 g16 g17 g18 mo ++ (w_W dA wa y_w ++ (w_Bus dA ba bu))) s.heap.size = A at hD hE ⊢
  have hA : ∀ q : Nat, s.heap.size ≤ q → A q := fun q h => by rw [← hAe]; exact Or.inr h
  have hS : va_S A s.heap s.heap [] := va_S.rf
  have hl := lv_entry ([.ref (a 0)]) (n := 3) (Nat.le_of_ble_eq_true rfl)
  rw [lg_entry_eq]
  generalize (lg_sl ([.ref (a 0)]) ++ List.replicate (3 - (lg_sl ([.ref (a 0)])).length) Slot.unset).toArray = ls at hl ⊢
  have hl : lv_has ls 3 [(0, .ref (a 0))] := hl
  generalize hQ : MQ below (va_Qi (fun r (_ : Unit) => r = rv) (kb_B D A (w_MO dA a (some (ba 0)) q1 g2 g3 g4 g5 (wa 0) g7 g8 g9 g10 g11 g12 g13 g14 g15 g16 g17 g18 mo ++ (w_W dA wa y_w ++ (w_Bus dA ba bu)))) A) ([.ref (a 0)] : List Value).toArray s 0 0 A = Q
  show W p l e ({ frames := 0, cells := 0, slots := 0, locals := 0 } : Room) s m ([.ref (a 0)] : List Value).toArray below meth c s.heap [] 0 0 Q (F0 m 0 ls [])
  have RET : ∀ (r2 : Int32) (H : Heap) (locs : List Loc) (ls : Array Slot) (pc : Nat), some (r2) = some (rv) → va_P D vwCl (w_MO dA a (some (ba 0)) q1 g2 g3 g4 g5 (wa 0) g7 g8 g9 g10 g11 g12 g13 g14 g15 g16 g17 g18 mo ++ (w_W dA wa y_w ++ (w_Bus dA ba bu))) H → va_D A (w_MO dA a (some (ba 0)) q1 g2 g3 g4 g5 (wa 0) g7 g8 g9 g10 g11 g12 g13 g14 g15 g16 g17 g18 mo ++ (w_W dA wa y_w ++ (w_Bus dA ba bu))) → va_S A s.heap H locs → decode cX12_standers pc = .ok (.ireturn, 1) → W p l e ({ frames := 0, cells := 0, slots := 0, locals := 0 } : Room) s m ([.ref (a 0)] : List Value).toArray below meth c H locs 0 0 Q (F0 m pc ls [.int r2]) := by
    intro r2 H locs ls pc hq hP hD hS hd
    cases hq
    rw [← hQ]
    exact W.iret hx hb hr (fun t ht hW => ⟨⟨_, (), rfl, rfl, by rw [ht]; exact hP, hD⟩, hS.F ht⟩) hS.2.2 hd
  have B_4 : ∀ (n : Nat) (v1 : Int32) (v2 : Int32) (H : Heap) (locs : List Loc) (ls : Array Slot), f_X12_standers_b4 mo y_w bu n v1 v2 = some (rv) → va_P D vwCl (w_MO dA a (some (ba 0)) q1 g2 g3 g4 g5 (wa 0) g7 g8 g9 g10 g11 g12 g13 g14 g15 g16 g17 g18 mo ++ (w_W dA wa y_w ++ (w_Bus dA ba bu))) H → va_D A (w_MO dA a (some (ba 0)) q1 g2 g3 g4 g5 (wa 0) g7 g8 g9 g10 g11 g12 g13 g14 g15 g16 g17 g18 mo ++ (w_W dA wa y_w ++ (w_Bus dA ba bu))) → va_S A s.heap H locs → lv_has ls 3 [(0, .ref (a 0)), (1, .int v1), (2, .int v2)] → W p l e ({ frames := 0, cells := 0, slots := 0, locals := 0 } : Room) s m ([.ref (a 0)] : List Value).toArray below meth c H locs 0 0 Q (F0 m 4 ls []) := by
    intro n
    induction n with
    | zero =>
      intro v1 v2 H locs ls hf
      exact absurd hf (by simp [f_X12_standers_b4])
    | succ n ih =>
      intro v1 v2 H locs ls hf hP hD hS hl
      rw [f_X12_standers_b4] at hf
      refine lv_iload_n hx hb dX12_standers_4 rfl (lv_at hl 2 rfl) ?_
      refine lv_aload_n hx hb dX12_standers_5 rfl (lv_at hl 0 rfl) ?_
      refine va_get (D := D) (ci := 12) (v := .ref (ba 0)) (C := RX12) (T := TX12) (N := 35) hx hb hts kb_inX12 hown hK.1 hP 0 rfl rfl 3 (by decide) (hK.2.w ww_5_203 rfl _) (fun _ h9 => h9) rfl dX12_standers_6 ?_
      refine va_getN (D := D) (ci := 11) (v := .int (bu_riders bu)) (C := RX11) (T := TX11) (N := 26) hx hb hts kb_inX11 hown hK.1 hP 2 rfl rfl 7 (by decide) (hK.2.nb ww_6_96 rfl rfl _) (fun _ h9 => h9) rfl dX12_standers_9 ?_
      refine lv_icmp_ge (tgt := 44) hx hb dX12_standers_12 (by decide) (fun c_1 => ?_) (fun c_1 => ?_)
      · rw [if_pos c_1] at hf
        refine lv_iload_n hx hb dX12_standers_44 rfl (lv_at hl 1 rfl) ?_
        exact RET _ H _ ls 45 hf hP hD hS dX12_standers_45
      · rw [if_neg c_1] at hf
        refine lv_iload_n hx hb dX12_standers_15 rfl (lv_at hl 1 rfl) ?_
        refine lv_aload_n hx hb dX12_standers_16 rfl (lv_at hl 0 rfl) ?_
        refine va_get (D := D) (ci := 12) (v := .ref (wa 0)) (C := RX12) (T := TX12) (N := 35) hx hb hts kb_inX12 hown hK.1 hP 0 rfl rfl 19 (by decide) (hK.2.w ww_5_219 rfl _) (fun _ h9 => h9) rfl dX12_standers_17 ?_
        refine lv_iconst (v := (0 : Int32)) hx hb dX12_standers_20 (by decide) ?_
        refine lv_iload_n hx hb dX12_standers_21 rfl (lv_at hl 2 rfl) ?_
        refine lv_iadd hx hb dX12_standers_22 ?_
        obtain ⟨h_2, hf⟩ := kb_if hf
        refine va_iald (D := D) hx hb hK.1 hP 1 0 rfl rfl h_2 dX12_standers_23 ?_
        refine lv_bipush (v := (101 : Int32)) hx hb dX12_standers_24 (by decide) ?_
        refine lv_icmp_ne (tgt := 35) hx hb dX12_standers_26 (by decide) (fun c_3 => ?_) (fun c_3 => ?_)
        · rw [if_neg c_3] at hf
          refine lv_iconst (v := (0 : Int32)) hx hb dX12_standers_35 (by decide) ?_
          refine lv_ior hx hb dX12_standers_36 ?_
          refine lv_istore_n (lv' := [(1, .int (v1 ||| (0 : Int32))), (0, .ref (a 0)), (2, .int v2)]) hx hb dX12_standers_37 rfl hl (by decide) rfl (fun ls hl => ?_)
          refine lv_iinc (v := (v2 + (1 : Int32))) (lv' := [(2, .int (v2 + (1 : Int32))), (1, .int (v1 ||| (0 : Int32))), (0, .ref (a 0))]) hx hb dX12_standers_38 hl (k := 2) rfl (by rfl) (by decide) rfl (fun ls hl => ?_)
          refine lv_goto (tgt := 4) hx hb dX12_standers_41 (by decide) ?_
          exact ih _ _ _ _ _ hf hP hD hS (lv_sub hl [2, 1, 0] rfl)
        · rw [if_pos c_3] at hf
          refine lv_iconst (v := (1 : Int32)) hx hb dX12_standers_29 (by decide) ?_
          refine lv_iload_n hx hb dX12_standers_30 rfl (lv_at hl 2 rfl) ?_
          refine lv_ishl hx hb dX12_standers_31 ?_
          refine lv_goto (tgt := 36) hx hb dX12_standers_32 (by decide) ?_
          refine lv_ior hx hb dX12_standers_36 ?_
          refine lv_istore_n (lv' := [(1, .int (v1 ||| ((1 : Int32) <<< (v2 &&& 31)))), (0, .ref (a 0)), (2, .int v2)]) hx hb dX12_standers_37 rfl hl (by decide) rfl (fun ls hl => ?_)
          refine lv_iinc (v := (v2 + (1 : Int32))) (lv' := [(2, .int (v2 + (1 : Int32))), (1, .int (v1 ||| ((1 : Int32) <<< (v2 &&& 31)))), (0, .ref (a 0))]) hx hb dX12_standers_38 hl (k := 2) rfl (by rfl) (by decide) rfl (fun ls hl => ?_)
          refine lv_goto (tgt := 4) hx hb dX12_standers_41 (by decide) ?_
          exact ih _ _ _ _ _ hf hP hD hS (lv_sub hl [2, 1, 0] rfl)
  have E0 : ∀ (H : Heap) (locs : List Loc), va_P D vwCl (w_MO dA a (some (ba 0)) q1 g2 g3 g4 g5 (wa 0) g7 g8 g9 g10 g11 g12 g13 g14 g15 g16 g17 g18 mo ++ (w_W dA wa y_w ++ (w_Bus dA ba bu))) H → va_D A (w_MO dA a (some (ba 0)) q1 g2 g3 g4 g5 (wa 0) g7 g8 g9 g10 g11 g12 g13 g14 g15 g16 g17 g18 mo ++ (w_W dA wa y_w ++ (w_Bus dA ba bu))) → va_S A s.heap H locs → W p l e ({ frames := 0, cells := 0, slots := 0, locals := 0 } : Room) s m ([.ref (a 0)] : List Value).toArray below meth c H locs 0 0 Q (F0 m 0 ls []) := by
    intro H locs hP hD hS
    rw [f_X12_standers] at hf
    refine lv_iconst (v := (0 : Int32)) hx hb dX12_standers_0 (by decide) ?_
    refine lv_istore_n (lv' := [(1, .int (0 : Int32)), (0, .ref (a 0))]) hx hb dX12_standers_1 rfl hl (by decide) rfl (fun ls hl => ?_)
    refine lv_iconst (v := (0 : Int32)) hx hb dX12_standers_2 (by decide) ?_
    refine lv_istore_n (lv' := [(2, .int (0 : Int32)), (1, .int (0 : Int32)), (0, .ref (a 0))]) hx hb dX12_standers_3 rfl hl (by decide) rfl (fun ls hl => ?_)
    exact B_4 4096 _ _ _ _ _ hf hP hD hS (lv_sub hl [2, 1, 0] rfl)
  exact E0 _ _ hP hD hS

noncomputable def f_X12_standing_b5 (y_w : WT) (bu : BusT) (z0 : MOT) : Option (Int32 × MOT) := (f_X12_standers z0 y_w bu).bind fun r1 => (f_X12_done z0 r1).bind fun r2 => some (r2.1, r2.2)
noncomputable def f_X12_standing (mo : MOT) (y_w : WT) (bu : BusT) : Option (Int32 × MOT) := f_X12_standing_b5 y_w bu (mo_set_thrown mo (0 : Int32))
set_option maxHeartbeats 4000000 in
set_option maxRecDepth 100000 in
theorem c_X12_standing (l : Launch) (D : va_G) (dA : Nat → ClassId) (sz : Nat) (a : Nat → Nat) (wa : Nat → Nat) (ba : Nat → Nat) (q1 : Option Nat) (g2 : Nat) (g3 : Nat) (g4 : Nat) (g5 : Nat) (g7 : Nat) (g8 : Nat) (g9 : Nat) (g10 : Nat) (g11 : Nat) (g12 : Nat) (g13 : Nat) (g14 : Nat) (g15 : Nat) (g16 : Nat) (g17 : Nat) (g18 : Nat) (mo : MOT) (y_w : WT) (bu : BusT) (rv : Int32) (u0 : MOT) (hf : f_X12_standing mo y_w bu = some (rv, u0)) : kb_Mi l yX12_standing cX12_standing 1 (some .int) ({ frames := 1, cells := 0, slots := 0, locals := 22 } : Room) D dA [.ref (a 0)] sz (w_MO dA a (some (ba 0)) q1 g2 g3 g4 g5 (wa 0) g7 g8 g9 g10 g11 g12 g13 g14 g15 g16 g17 g18 mo ++ (w_W dA wa y_w ++ (w_Bus dA ba bu))) 0 0 rv (w_MO dA a (some (ba 0)) q1 g2 g3 g4 g5 (wa 0) g7 g8 g9 g10 g11 g12 g13 g14 g15 g16 g17 g18 u0 ++ (w_W dA wa y_w ++ (w_Bus dA ba bu))) := by
  refine Met.ofW (cc := cX12_standing) (maxL := 1) (ret := (some .int)) (by decide) rfl ?_
  intro p e s m args below meth c s₁ B hml hv
  obtain ⟨rfl, hsz, hP, hK, hD0, hE⟩ := hv
  have hx := B.exec
  have hb := B.bytes
  have hr := B.returns
  have hown : s.vm.findClass RX12 = some m.cls := findClass_of_methodNamed B.named
  have hlocks := B.notSynchronized
  have hts : ∀ w ∈ kb_gw, w.before ([.ref (a 0)] : List Value).toArray s = true := fun w hw => hK.2.1 w hw _
  subst hsz
  have hD := hD0.self (sz := s.heap.size)
  generalize hAe : va_A (w_MO dA a (some (ba 0)) q1 g2 g3 g4 g5 (wa 0) g7 g8 g9 g10 g11 g12 g13 g14 g15 g16 g17 g18 mo ++ (w_W dA wa y_w ++ (w_Bus dA ba bu))) s.heap.size = A at hD hE ⊢
  have hA : ∀ q : Nat, s.heap.size ≤ q → A q := fun q h => by rw [← hAe]; exact Or.inr h
  have hS : va_S A s.heap s.heap [] := va_S.rf
  have hl := lv_entry ([.ref (a 0)]) (n := 1) (Nat.le_of_ble_eq_true rfl)
  rw [lg_entry_eq]
  generalize (lg_sl ([.ref (a 0)]) ++ List.replicate (1 - (lg_sl ([.ref (a 0)])).length) Slot.unset).toArray = ls at hl ⊢
  have hl : lv_has ls 1 [(0, .ref (a 0))] := hl
  generalize hQ : MQ below (va_Qi (fun r (_ : Unit) => r = rv) (kb_B D A (w_MO dA a (some (ba 0)) q1 g2 g3 g4 g5 (wa 0) g7 g8 g9 g10 g11 g12 g13 g14 g15 g16 g17 g18 u0 ++ (w_W dA wa y_w ++ (w_Bus dA ba bu)))) A) ([.ref (a 0)] : List Value).toArray s 0 0 A = Q
  show W p l e ({ frames := 1, cells := 0, slots := 0, locals := 22 } : Room) s m ([.ref (a 0)] : List Value).toArray below meth c s.heap [] 0 0 Q (F0 m 0 ls [])
  have RET : ∀ (r2 : Int32) (w0 : MOT) (H : Heap) (locs : List Loc) (ls : Array Slot) (pc : Nat), some (r2, w0) = some (rv, u0) → va_P D vwCl (w_MO dA a (some (ba 0)) q1 g2 g3 g4 g5 (wa 0) g7 g8 g9 g10 g11 g12 g13 g14 g15 g16 g17 g18 w0 ++ (w_W dA wa y_w ++ (w_Bus dA ba bu))) H → va_D A (w_MO dA a (some (ba 0)) q1 g2 g3 g4 g5 (wa 0) g7 g8 g9 g10 g11 g12 g13 g14 g15 g16 g17 g18 w0 ++ (w_W dA wa y_w ++ (w_Bus dA ba bu))) → va_S A s.heap H locs → decode cX12_standing pc = .ok (.ireturn, 1) → W p l e ({ frames := 1, cells := 0, slots := 0, locals := 22 } : Room) s m ([.ref (a 0)] : List Value).toArray below meth c H locs 0 0 Q (F0 m pc ls [.int r2]) := by
    intro r2 w0 H locs ls pc hq hP hD hS hd
    cases hq
    rw [← hQ]
    exact W.iret hx hb hr (fun t ht hW => ⟨⟨_, (), rfl, rfl, by rw [ht]; exact hP, hD⟩, hS.F ht⟩) hS.2.2 hd
  have B_5 : ∀ (z0 : MOT) (H : Heap) (locs : List Loc) (ls : Array Slot), f_X12_standing_b5 y_w bu z0 = some (rv, u0) → va_P D vwCl (w_MO dA a (some (ba 0)) q1 g2 g3 g4 g5 (wa 0) g7 g8 g9 g10 g11 g12 g13 g14 g15 g16 g17 g18 z0 ++ (w_W dA wa y_w ++ (w_Bus dA ba bu))) H → va_D A (w_MO dA a (some (ba 0)) q1 g2 g3 g4 g5 (wa 0) g7 g8 g9 g10 g11 g12 g13 g14 g15 g16 g17 g18 z0 ++ (w_W dA wa y_w ++ (w_Bus dA ba bu))) → va_S A s.heap H locs → lv_has ls 1 [(0, .ref (a 0))] → W p l e ({ frames := 1, cells := 0, slots := 0, locals := 22 } : Room) s m ([.ref (a 0)] : List Value).toArray below meth c H locs 0 0 Q (F0 m 5 ls []) := by
    intro z0 H locs ls hf hP hD hS hl
    rw [f_X12_standing_b5] at hf
    refine lv_aload_n hx hb dX12_standing_5 rfl (lv_at hl 0 rfl) ?_
    refine va_get (D := D) (ci := 12) (v := .ref (ba 0)) (C := RX12) (T := TX12) (N := 35) hx hb hts kb_inX12 hown hK.1 hP 0 rfl rfl 3 (by decide) (hK.2.w ww_5_203 rfl _) (fun _ h9 => h9) rfl dX12_standing_6 ?_
    refine lv_ifnonnull (tgt := 20) hx hb dX12_standing_9 (by decide) ?_
    refine lv_aload_n hx hb dX12_standing_20 rfl (lv_at hl 0 rfl) ?_
    refine lv_aload_n hx hb dX12_standing_21 rfl (lv_at hl 0 rfl) ?_
    obtain ⟨r1, hc1, hf⟩ := kb_bind hf
    refine kb_ci (ws2 := (w_MO dA a (some (ba 0)) q1 g2 g3 g4 g5 (wa 0) g7 g8 g9 g10 g11 g12 g13 g14 g15 g16 g17 g18 z0 ++ (w_W dA wa y_w ++ (w_Bus dA ba bu)))) (kb_rV (n := 0) (As := []) (rest := [.ref (a 0)]) hx hb hml hown hK (c_X12_standers l D dA H.size a wa ba q1 g2 g3 g4 g5 g7 g8 g9 g10 g11 g12 g13 g14 g15 g16 g17 g18 z0 y_w bu r1 hc1) ⟨ww_8_21, ww_8_18, ww_8_20, ws_96, ww_1_12, rfl, by decide, by decide⟩ rfl rfl (by decide +kernel) ⟨Nat.le_of_ble_eq_true rfl, Nat.le_of_ble_eq_true rfl⟩ hP hD hS hA hE [0, 1, 2, 3, 4, 5, 6, 7, 8, 9, 10, 11, 12, 13, 14, 15, 16, 17] rfl (by decide) 0 rfl rfl rfl hl.1 rfl (Nat.le_of_ble_eq_true rfl) dX12_standing_22 ⟨Nat.le_of_ble_eq_true rfl, Nat.le_of_ble_eq_true rfl⟩) hP hD hS hA [0, 1, 2, 3, 4, 5, 6, 7, 8, 9, 10, 11, 12, 13, 14, 15, 16, 17] [] [0, 1, 2, 3, 4, 5, 6, 7, 8, 9, 10, 11, 12, 13, 14, 15, 16, 17] rfl rfl (by decide) (by decide) rfl (by decide) (fun H locs hP hD hS => ?_)
    obtain ⟨r2, hc2, hf⟩ := kb_bind hf
    refine kb_ci (ws2 := (w_MO dA a (some (ba 0)) q1 g2 g3 g4 g5 (wa 0) g7 g8 g9 g10 g11 g12 g13 g14 g15 g16 g17 g18 r2.2 ++ (w_W dA wa y_w ++ (w_Bus dA ba bu)))) (kb_rV (n := 1) (As := [.int r1]) (rest := []) hx hb hml hown hK (c_X12_done l D dA H.size a (some (ba 0)) q1 g2 g3 g4 g5 (wa 0) g7 g8 g9 g10 g11 g12 g13 g14 g15 g16 g17 g18 z0 r1 r2.1 r2.2 hc2) ⟨ww_7_100, ww_7_97, ww_7_99, ws_71, ww_1_12, rfl, by decide, by decide⟩ rfl rfl (by decide +kernel) ⟨Nat.le_of_ble_eq_true rfl, Nat.le_of_ble_eq_true rfl⟩ hP hD hS hA hE [0] rfl (by decide) 0 rfl rfl rfl hl.1 rfl (Nat.le_of_ble_eq_true rfl) dX12_standing_25 ⟨Nat.le_of_ble_eq_true rfl, Nat.le_of_ble_eq_true rfl⟩) hP hD hS hA [0] [1, 2, 3, 4, 5, 6, 7, 8, 9, 10, 11, 12, 13, 14, 15, 16, 17] [17, 0, 1, 2, 3, 4, 5, 6, 7, 8, 9, 10, 11, 12, 13, 14, 15, 16] rfl rfl (by decide) (by decide) rfl (by decide) (fun H locs hP hD hS => ?_)
    exact RET _ _ H _ ls 28 hf hP hD hS dX12_standing_28
  have E0 : ∀ (H : Heap) (locs : List Loc), va_P D vwCl (w_MO dA a (some (ba 0)) q1 g2 g3 g4 g5 (wa 0) g7 g8 g9 g10 g11 g12 g13 g14 g15 g16 g17 g18 mo ++ (w_W dA wa y_w ++ (w_Bus dA ba bu))) H → va_D A (w_MO dA a (some (ba 0)) q1 g2 g3 g4 g5 (wa 0) g7 g8 g9 g10 g11 g12 g13 g14 g15 g16 g17 g18 mo ++ (w_W dA wa y_w ++ (w_Bus dA ba bu))) → va_S A s.heap H locs → W p l e ({ frames := 1, cells := 0, slots := 0, locals := 22 } : Room) s m ([.ref (a 0)] : List Value).toArray below meth c H locs 0 0 Q (F0 m 0 ls []) := by
    intro H locs hP hD hS
    rw [f_X12_standing] at hf
    refine lv_aload_n hx hb dX12_standing_0 rfl (lv_at hl 0 rfl) ?_
    refine lv_iconst (v := (0 : Int32)) hx hb dX12_standing_1 (by decide) ?_
    refine va_put (D := D) (ci := 12) (v := .int (0 : Int32)) (ty := .int) (C := RX12) (T := TX12) (N := 35) hx hb hts kb_inX12 tyX12 tyX12_ok nmX12 hown hK.1 hP hD hS 0 rfl rfl 0 (by decide) (hK.2.w ww_5_200 rfl _) (fun _ h9 => h9) rfl (by decide +kernel) rfl rfl (Nat.le_of_ble_eq_true rfl) dX12_standing_2 (fun H locs hP hD hS => ?_)
    have hP : va_P D vwCl (w_MO dA a (some (ba 0)) q1 g2 g3 g4 g5 (wa 0) g7 g8 g9 g10 g11 g12 g13 g14 g15 g16 g17 g18 (mo_set_thrown mo (0 : Int32)) ++ (w_W dA wa y_w ++ (w_Bus dA ba bu))) H := hP
    have hD : va_D A (w_MO dA a (some (ba 0)) q1 g2 g3 g4 g5 (wa 0) g7 g8 g9 g10 g11 g12 g13 g14 g15 g16 g17 g18 (mo_set_thrown mo (0 : Int32)) ++ (w_W dA wa y_w ++ (w_Bus dA ba bu))) := hD
    exact B_5 _ _ _ _ hf hP hD hS (lv_sub hl [0] rfl)
  exact E0 _ _ hP hD hS

noncomputable def f_X12_free_b5 (y_w : WT) (bu : BusT) (z0 : MOT) : Option (Int32 × MOT) := (f_X12_freeSeats z0 y_w bu).bind fun r1 => (f_X12_done z0 r1).bind fun r2 => some (r2.1, r2.2)
noncomputable def f_X12_free (mo : MOT) (y_w : WT) (bu : BusT) : Option (Int32 × MOT) := f_X12_free_b5 y_w bu (mo_set_thrown mo (0 : Int32))
set_option maxHeartbeats 4000000 in
set_option maxRecDepth 100000 in
theorem c_X12_free (l : Launch) (D : va_G) (dA : Nat → ClassId) (sz : Nat) (a : Nat → Nat) (wa : Nat → Nat) (ba : Nat → Nat) (q1 : Option Nat) (g2 : Nat) (g3 : Nat) (g4 : Nat) (g5 : Nat) (g7 : Nat) (g8 : Nat) (g9 : Nat) (g10 : Nat) (g11 : Nat) (g12 : Nat) (g13 : Nat) (g14 : Nat) (g15 : Nat) (g16 : Nat) (g17 : Nat) (g18 : Nat) (mo : MOT) (y_w : WT) (bu : BusT) (rv : Int32) (u0 : MOT) (hf : f_X12_free mo y_w bu = some (rv, u0)) : kb_Mi l yX12_free cX12_free 1 (some .int) ({ frames := 3, cells := 0, slots := 0, locals := 64 } : Room) D dA [.ref (a 0)] sz (w_MO dA a (some (ba 0)) q1 g2 g3 g4 g5 (wa 0) g7 g8 g9 g10 g11 g12 g13 g14 g15 g16 g17 g18 mo ++ (w_W dA wa y_w ++ (w_Bus dA ba bu))) 0 0 rv (w_MO dA a (some (ba 0)) q1 g2 g3 g4 g5 (wa 0) g7 g8 g9 g10 g11 g12 g13 g14 g15 g16 g17 g18 u0 ++ (w_W dA wa y_w ++ (w_Bus dA ba bu))) := by
  refine Met.ofW (cc := cX12_free) (maxL := 1) (ret := (some .int)) (by decide) rfl ?_
  intro p e s m args below meth c s₁ B hml hv
  obtain ⟨rfl, hsz, hP, hK, hD0, hE⟩ := hv
  have hx := B.exec
  have hb := B.bytes
  have hr := B.returns
  have hown : s.vm.findClass RX12 = some m.cls := findClass_of_methodNamed B.named
  have hlocks := B.notSynchronized
  have hts : ∀ w ∈ kb_gw, w.before ([.ref (a 0)] : List Value).toArray s = true := fun w hw => hK.2.1 w hw _
  subst hsz
  have hD := hD0.self (sz := s.heap.size)
  generalize hAe : va_A (w_MO dA a (some (ba 0)) q1 g2 g3 g4 g5 (wa 0) g7 g8 g9 g10 g11 g12 g13 g14 g15 g16 g17 g18 mo ++ (w_W dA wa y_w ++ (w_Bus dA ba bu))) s.heap.size = A at hD hE ⊢
  have hA : ∀ q : Nat, s.heap.size ≤ q → A q := fun q h => by rw [← hAe]; exact Or.inr h
  have hS : va_S A s.heap s.heap [] := va_S.rf
  have hl := lv_entry ([.ref (a 0)]) (n := 1) (Nat.le_of_ble_eq_true rfl)
  rw [lg_entry_eq]
  generalize (lg_sl ([.ref (a 0)]) ++ List.replicate (1 - (lg_sl ([.ref (a 0)])).length) Slot.unset).toArray = ls at hl ⊢
  have hl : lv_has ls 1 [(0, .ref (a 0))] := hl
  generalize hQ : MQ below (va_Qi (fun r (_ : Unit) => r = rv) (kb_B D A (w_MO dA a (some (ba 0)) q1 g2 g3 g4 g5 (wa 0) g7 g8 g9 g10 g11 g12 g13 g14 g15 g16 g17 g18 u0 ++ (w_W dA wa y_w ++ (w_Bus dA ba bu)))) A) ([.ref (a 0)] : List Value).toArray s 0 0 A = Q
  show W p l e ({ frames := 3, cells := 0, slots := 0, locals := 64 } : Room) s m ([.ref (a 0)] : List Value).toArray below meth c s.heap [] 0 0 Q (F0 m 0 ls [])
  have RET : ∀ (r2 : Int32) (w0 : MOT) (H : Heap) (locs : List Loc) (ls : Array Slot) (pc : Nat), some (r2, w0) = some (rv, u0) → va_P D vwCl (w_MO dA a (some (ba 0)) q1 g2 g3 g4 g5 (wa 0) g7 g8 g9 g10 g11 g12 g13 g14 g15 g16 g17 g18 w0 ++ (w_W dA wa y_w ++ (w_Bus dA ba bu))) H → va_D A (w_MO dA a (some (ba 0)) q1 g2 g3 g4 g5 (wa 0) g7 g8 g9 g10 g11 g12 g13 g14 g15 g16 g17 g18 w0 ++ (w_W dA wa y_w ++ (w_Bus dA ba bu))) → va_S A s.heap H locs → decode cX12_free pc = .ok (.ireturn, 1) → W p l e ({ frames := 3, cells := 0, slots := 0, locals := 64 } : Room) s m ([.ref (a 0)] : List Value).toArray below meth c H locs 0 0 Q (F0 m pc ls [.int r2]) := by
    intro r2 w0 H locs ls pc hq hP hD hS hd
    cases hq
    rw [← hQ]
    exact W.iret hx hb hr (fun t ht hW => ⟨⟨_, (), rfl, rfl, by rw [ht]; exact hP, hD⟩, hS.F ht⟩) hS.2.2 hd
  have B_5 : ∀ (z0 : MOT) (H : Heap) (locs : List Loc) (ls : Array Slot), f_X12_free_b5 y_w bu z0 = some (rv, u0) → va_P D vwCl (w_MO dA a (some (ba 0)) q1 g2 g3 g4 g5 (wa 0) g7 g8 g9 g10 g11 g12 g13 g14 g15 g16 g17 g18 z0 ++ (w_W dA wa y_w ++ (w_Bus dA ba bu))) H → va_D A (w_MO dA a (some (ba 0)) q1 g2 g3 g4 g5 (wa 0) g7 g8 g9 g10 g11 g12 g13 g14 g15 g16 g17 g18 z0 ++ (w_W dA wa y_w ++ (w_Bus dA ba bu))) → va_S A s.heap H locs → lv_has ls 1 [(0, .ref (a 0))] → W p l e ({ frames := 3, cells := 0, slots := 0, locals := 64 } : Room) s m ([.ref (a 0)] : List Value).toArray below meth c H locs 0 0 Q (F0 m 5 ls []) := by
    intro z0 H locs ls hf hP hD hS hl
    rw [f_X12_free_b5] at hf
    refine lv_aload_n hx hb dX12_free_5 rfl (lv_at hl 0 rfl) ?_
    refine va_get (D := D) (ci := 12) (v := .ref (ba 0)) (C := RX12) (T := TX12) (N := 35) hx hb hts kb_inX12 hown hK.1 hP 0 rfl rfl 3 (by decide) (hK.2.w ww_5_203 rfl _) (fun _ h9 => h9) rfl dX12_free_6 ?_
    refine lv_ifnonnull (tgt := 20) hx hb dX12_free_9 (by decide) ?_
    refine lv_aload_n hx hb dX12_free_20 rfl (lv_at hl 0 rfl) ?_
    refine lv_aload_n hx hb dX12_free_21 rfl (lv_at hl 0 rfl) ?_
    obtain ⟨r1, hc1, hf⟩ := kb_bind hf
    refine kb_ci (ws2 := (w_MO dA a (some (ba 0)) q1 g2 g3 g4 g5 (wa 0) g7 g8 g9 g10 g11 g12 g13 g14 g15 g16 g17 g18 z0 ++ (w_W dA wa y_w ++ (w_Bus dA ba bu)))) (kb_rV (n := 0) (As := []) (rest := [.ref (a 0)]) hx hb hml hown hK (c_X12_freeSeats l D dA H.size a wa ba q1 g2 g3 g4 g5 g7 g8 g9 g10 g11 g12 g13 g14 g15 g16 g17 g18 z0 y_w bu r1 hc1) ⟨ww_7_175, ww_7_172, ww_7_174, ws_83, ww_1_12, rfl, by decide, by decide⟩ rfl rfl (by decide +kernel) ⟨Nat.le_of_ble_eq_true rfl, Nat.le_of_ble_eq_true rfl⟩ hP hD hS hA hE [0, 1, 2, 3, 4, 5, 6, 7, 8, 9, 10, 11, 12, 13, 14, 15, 16, 17] rfl (by decide) 0 rfl rfl rfl hl.1 rfl (Nat.le_of_ble_eq_true rfl) dX12_free_22 ⟨Nat.le_of_ble_eq_true rfl, Nat.le_of_ble_eq_true rfl⟩) hP hD hS hA [0, 1, 2, 3, 4, 5, 6, 7, 8, 9, 10, 11, 12, 13, 14, 15, 16, 17] [] [0, 1, 2, 3, 4, 5, 6, 7, 8, 9, 10, 11, 12, 13, 14, 15, 16, 17] rfl rfl (by decide) (by decide) rfl (by decide) (fun H locs hP hD hS => ?_)
    obtain ⟨r2, hc2, hf⟩ := kb_bind hf
    refine kb_ci (ws2 := (w_MO dA a (some (ba 0)) q1 g2 g3 g4 g5 (wa 0) g7 g8 g9 g10 g11 g12 g13 g14 g15 g16 g17 g18 r2.2 ++ (w_W dA wa y_w ++ (w_Bus dA ba bu)))) (kb_rV (n := 1) (As := [.int r1]) (rest := []) hx hb hml hown hK (c_X12_done l D dA H.size a (some (ba 0)) q1 g2 g3 g4 g5 (wa 0) g7 g8 g9 g10 g11 g12 g13 g14 g15 g16 g17 g18 z0 r1 r2.1 r2.2 hc2) ⟨ww_7_100, ww_7_97, ww_7_99, ws_71, ww_1_12, rfl, by decide, by decide⟩ rfl rfl (by decide +kernel) ⟨Nat.le_of_ble_eq_true rfl, Nat.le_of_ble_eq_true rfl⟩ hP hD hS hA hE [0] rfl (by decide) 0 rfl rfl rfl hl.1 rfl (Nat.le_of_ble_eq_true rfl) dX12_free_25 ⟨Nat.le_of_ble_eq_true rfl, Nat.le_of_ble_eq_true rfl⟩) hP hD hS hA [0] [1, 2, 3, 4, 5, 6, 7, 8, 9, 10, 11, 12, 13, 14, 15, 16, 17] [17, 0, 1, 2, 3, 4, 5, 6, 7, 8, 9, 10, 11, 12, 13, 14, 15, 16] rfl rfl (by decide) (by decide) rfl (by decide) (fun H locs hP hD hS => ?_)
    exact RET _ _ H _ ls 28 hf hP hD hS dX12_free_28
  have E0 : ∀ (H : Heap) (locs : List Loc), va_P D vwCl (w_MO dA a (some (ba 0)) q1 g2 g3 g4 g5 (wa 0) g7 g8 g9 g10 g11 g12 g13 g14 g15 g16 g17 g18 mo ++ (w_W dA wa y_w ++ (w_Bus dA ba bu))) H → va_D A (w_MO dA a (some (ba 0)) q1 g2 g3 g4 g5 (wa 0) g7 g8 g9 g10 g11 g12 g13 g14 g15 g16 g17 g18 mo ++ (w_W dA wa y_w ++ (w_Bus dA ba bu))) → va_S A s.heap H locs → W p l e ({ frames := 3, cells := 0, slots := 0, locals := 64 } : Room) s m ([.ref (a 0)] : List Value).toArray below meth c H locs 0 0 Q (F0 m 0 ls []) := by
    intro H locs hP hD hS
    rw [f_X12_free] at hf
    refine lv_aload_n hx hb dX12_free_0 rfl (lv_at hl 0 rfl) ?_
    refine lv_iconst (v := (0 : Int32)) hx hb dX12_free_1 (by decide) ?_
    refine va_put (D := D) (ci := 12) (v := .int (0 : Int32)) (ty := .int) (C := RX12) (T := TX12) (N := 35) hx hb hts kb_inX12 tyX12 tyX12_ok nmX12 hown hK.1 hP hD hS 0 rfl rfl 0 (by decide) (hK.2.w ww_5_200 rfl _) (fun _ h9 => h9) rfl (by decide +kernel) rfl rfl (Nat.le_of_ble_eq_true rfl) dX12_free_2 (fun H locs hP hD hS => ?_)
    have hP : va_P D vwCl (w_MO dA a (some (ba 0)) q1 g2 g3 g4 g5 (wa 0) g7 g8 g9 g10 g11 g12 g13 g14 g15 g16 g17 g18 (mo_set_thrown mo (0 : Int32)) ++ (w_W dA wa y_w ++ (w_Bus dA ba bu))) H := hP
    have hD : va_D A (w_MO dA a (some (ba 0)) q1 g2 g3 g4 g5 (wa 0) g7 g8 g9 g10 g11 g12 g13 g14 g15 g16 g17 g18 (mo_set_thrown mo (0 : Int32)) ++ (w_W dA wa y_w ++ (w_Bus dA ba bu))) := hD
    exact B_5 _ _ _ _ hf hP hD hS (lv_sub hl [0] rfl)
  exact E0 _ _ hP hD hS

noncomputable def f_X12_order_b5 (y_w : WT) (bu : BusT) (v1 : Int32) (z0 : MOT) : Option (Int32 × MOT) := (f_X12_isRider z0 bu v1).bind fun r1 => (if r1 = 0 then (f_X12_refused z0 (1 : Int32)).bind fun r8 => some (r8.1, r8.2) else if kb_in? ((16 : Int32) + v1) 56 then (if ((yW_r y_w) (((16 : Int32) + v1)).toNatClampNeg) = 0 then (f_X12_refused z0 (6 : Int32)).bind fun r7 => some (r7.1, r7.2) else if kb_in? ((16 : Int32) + v1) 56 then (f_X12_done z0 ((yW_r y_w) (((16 : Int32) + v1)).toNatClampNeg)).bind fun r6 => some (r6.1, r6.2) else none) else none)
noncomputable def f_X12_order (mo : MOT) (y_w : WT) (bu : BusT) (x0 : Int32) : Option (Int32 × MOT) := f_X12_order_b5 y_w bu x0 (mo_set_thrown mo (0 : Int32))
set_option maxHeartbeats 4000000 in
set_option maxRecDepth 100000 in
theorem c_X12_order (l : Launch) (D : va_G) (dA : Nat → ClassId) (sz : Nat) (a : Nat → Nat) (wa : Nat → Nat) (ba : Nat → Nat) (q1 : Option Nat) (g2 : Nat) (g3 : Nat) (g4 : Nat) (g5 : Nat) (g7 : Nat) (g8 : Nat) (g9 : Nat) (g10 : Nat) (g11 : Nat) (g12 : Nat) (g13 : Nat) (g14 : Nat) (g15 : Nat) (g16 : Nat) (g17 : Nat) (g18 : Nat) (mo : MOT) (y_w : WT) (bu : BusT) (x0 : Int32) (rv : Int32) (u0 : MOT) (hf : f_X12_order mo y_w bu x0 = some (rv, u0)) : kb_Mi l yX12_order cX12_order 2 (some .int) ({ frames := 1, cells := 0, slots := 0, locals := 21 } : Room) D dA [.ref (a 0), .int x0] sz (w_MO dA a (some (ba 0)) q1 g2 g3 g4 g5 (wa 0) g7 g8 g9 g10 g11 g12 g13 g14 g15 g16 g17 g18 mo ++ (w_W dA wa y_w ++ (w_Bus dA ba bu))) 0 0 rv (w_MO dA a (some (ba 0)) q1 g2 g3 g4 g5 (wa 0) g7 g8 g9 g10 g11 g12 g13 g14 g15 g16 g17 g18 u0 ++ (w_W dA wa y_w ++ (w_Bus dA ba bu))) := by
  refine Met.ofW (cc := cX12_order) (maxL := 2) (ret := (some .int)) (by decide) rfl ?_
  intro p e s m args below meth c s₁ B hml hv
  obtain ⟨rfl, hsz, hP, hK, hD0, hE⟩ := hv
  have hx := B.exec
  have hb := B.bytes
  have hr := B.returns
  have hown : s.vm.findClass RX12 = some m.cls := findClass_of_methodNamed B.named
  have hlocks := B.notSynchronized
  have hts : ∀ w ∈ kb_gw, w.before ([.ref (a 0), .int x0] : List Value).toArray s = true := fun w hw => hK.2.1 w hw _
  subst hsz
  have hD := hD0.self (sz := s.heap.size)
  generalize hAe : va_A (w_MO dA a (some (ba 0)) q1 g2 g3 g4 g5 (wa 0) g7 g8 g9 g10 g11 g12 g13 g14 g15 g16 g17 g18 mo ++ (w_W dA wa y_w ++ (w_Bus dA ba bu))) s.heap.size = A at hD hE ⊢
  have hA : ∀ q : Nat, s.heap.size ≤ q → A q := fun q h => by rw [← hAe]; exact Or.inr h
  have hS : va_S A s.heap s.heap [] := va_S.rf
  have hl := lv_entry ([.ref (a 0), .int x0]) (n := 2) (Nat.le_of_ble_eq_true rfl)
  rw [lg_entry_eq]
  generalize (lg_sl ([.ref (a 0), .int x0]) ++ List.replicate (2 - (lg_sl ([.ref (a 0), .int x0])).length) Slot.unset).toArray = ls at hl ⊢
  have hl : lv_has ls 2 [(0, .ref (a 0)), (1, .int x0)] := hl
  generalize hQ : MQ below (va_Qi (fun r (_ : Unit) => r = rv) (kb_B D A (w_MO dA a (some (ba 0)) q1 g2 g3 g4 g5 (wa 0) g7 g8 g9 g10 g11 g12 g13 g14 g15 g16 g17 g18 u0 ++ (w_W dA wa y_w ++ (w_Bus dA ba bu)))) A) ([.ref (a 0), .int x0] : List Value).toArray s 0 0 A = Q
  show W p l e ({ frames := 1, cells := 0, slots := 0, locals := 21 } : Room) s m ([.ref (a 0), .int x0] : List Value).toArray below meth c s.heap [] 0 0 Q (F0 m 0 ls [])
  have RET : ∀ (r2 : Int32) (w0 : MOT) (H : Heap) (locs : List Loc) (ls : Array Slot) (pc : Nat), some (r2, w0) = some (rv, u0) → va_P D vwCl (w_MO dA a (some (ba 0)) q1 g2 g3 g4 g5 (wa 0) g7 g8 g9 g10 g11 g12 g13 g14 g15 g16 g17 g18 w0 ++ (w_W dA wa y_w ++ (w_Bus dA ba bu))) H → va_D A (w_MO dA a (some (ba 0)) q1 g2 g3 g4 g5 (wa 0) g7 g8 g9 g10 g11 g12 g13 g14 g15 g16 g17 g18 w0 ++ (w_W dA wa y_w ++ (w_Bus dA ba bu))) → va_S A s.heap H locs → decode cX12_order pc = .ok (.ireturn, 1) → W p l e ({ frames := 1, cells := 0, slots := 0, locals := 21 } : Room) s m ([.ref (a 0), .int x0] : List Value).toArray below meth c H locs 0 0 Q (F0 m pc ls [.int r2]) := by
    intro r2 w0 H locs ls pc hq hP hD hS hd
    cases hq
    rw [← hQ]
    exact W.iret hx hb hr (fun t ht hW => ⟨⟨_, (), rfl, rfl, by rw [ht]; exact hP, hD⟩, hS.F ht⟩) hS.2.2 hd
  have B_5 : ∀ (v1 : Int32) (z0 : MOT) (H : Heap) (locs : List Loc) (ls : Array Slot), f_X12_order_b5 y_w bu v1 z0 = some (rv, u0) → va_P D vwCl (w_MO dA a (some (ba 0)) q1 g2 g3 g4 g5 (wa 0) g7 g8 g9 g10 g11 g12 g13 g14 g15 g16 g17 g18 z0 ++ (w_W dA wa y_w ++ (w_Bus dA ba bu))) H → va_D A (w_MO dA a (some (ba 0)) q1 g2 g3 g4 g5 (wa 0) g7 g8 g9 g10 g11 g12 g13 g14 g15 g16 g17 g18 z0 ++ (w_W dA wa y_w ++ (w_Bus dA ba bu))) → va_S A s.heap H locs → lv_has ls 2 [(0, .ref (a 0)), (1, .int v1)] → W p l e ({ frames := 1, cells := 0, slots := 0, locals := 21 } : Room) s m ([.ref (a 0), .int x0] : List Value).toArray below meth c H locs 0 0 Q (F0 m 5 ls []) := by
    intro v1 z0 H locs ls hf hP hD hS hl
    rw [f_X12_order_b5] at hf
    refine lv_aload_n hx hb dX12_order_5 rfl (lv_at hl 0 rfl) ?_
    refine lv_iload_n hx hb dX12_order_6 rfl (lv_at hl 1 rfl) ?_
    obtain ⟨r1, hc1, hf⟩ := kb_bind hf
    refine kb_ci (ws2 := (w_MO dA a (some (ba 0)) q1 g2 g3 g4 g5 (wa 0) g7 g8 g9 g10 g11 g12 g13 g14 g15 g16 g17 g18 z0 ++ (w_W dA wa y_w ++ (w_Bus dA ba bu)))) (kb_rV (n := 1) (As := [.int v1]) (rest := []) hx hb hml hown hK (c_X12_isRider l D dA H.size a ba q1 g2 g3 g4 g5 (wa 0) g7 g8 g9 g10 g11 g12 g13 g14 g15 g16 g17 g18 z0 bu v1 r1 hc1) ⟨ww_8_5, ww_8_2, ww_8_4, ws_95, ww_1_12, rfl, by decide, by decide⟩ rfl rfl (by decide +kernel) ⟨Nat.le_of_ble_eq_true rfl, Nat.le_of_ble_eq_true rfl⟩ hP hD hS hA hE [0, 2, 3, 4, 5, 6, 7, 8, 9, 10, 11, 12, 13, 14, 15, 16, 17] rfl (by decide) 0 rfl rfl rfl hl.1 rfl (Nat.le_of_ble_eq_true rfl) dX12_order_7 ⟨Nat.le_of_ble_eq_true rfl, Nat.le_of_ble_eq_true rfl⟩) hP hD hS hA [0, 2, 3, 4, 5, 6, 7, 8, 9, 10, 11, 12, 13, 14, 15, 16, 17] [1] [1, 0, 2, 3, 4, 5, 6, 7, 8, 9, 10, 11, 12, 13, 14, 15, 16, 17] rfl rfl (by decide) (by decide) rfl (by decide) (fun H locs hP hD hS => ?_)
    refine lv_if_ne (tgt := 19) hx hb dX12_order_10 (by decide) (fun c_2 => ?_) (fun c_2 => ?_)
    · rw [if_neg c_2] at hf
      refine lv_aload_n hx hb dX12_order_19 rfl (lv_at hl 0 rfl) ?_
      refine va_get (D := D) (ci := 12) (v := .ref (wa 0)) (C := RX12) (T := TX12) (N := 35) hx hb hts kb_inX12 hown hK.1 hP 0 rfl rfl 19 (by decide) (hK.2.w ww_5_219 rfl _) (fun _ h9 => h9) rfl dX12_order_20 ?_
      refine lv_bipush (v := (16 : Int32)) hx hb dX12_order_23 (by decide) ?_
      refine lv_iload_n hx hb dX12_order_25 rfl (lv_at hl 1 rfl) ?_
      refine lv_iadd hx hb dX12_order_26 ?_
      obtain ⟨h_3, hf⟩ := kb_if hf
      refine va_iald (D := D) hx hb hK.1 hP 1 0 rfl rfl h_3 dX12_order_27 ?_
      refine lv_if_ne (tgt := 40) hx hb dX12_order_28 (by decide) (fun c_4 => ?_) (fun c_4 => ?_)
      · rw [if_neg c_4] at hf
        refine lv_aload_n hx hb dX12_order_40 rfl (lv_at hl 0 rfl) ?_
        refine lv_aload_n hx hb dX12_order_41 rfl (lv_at hl 0 rfl) ?_
        refine va_get (D := D) (ci := 12) (v := .ref (wa 0)) (C := RX12) (T := TX12) (N := 35) hx hb hts kb_inX12 hown hK.1 hP 0 rfl rfl 19 (by decide) (hK.2.w ww_5_219 rfl _) (fun _ h9 => h9) rfl dX12_order_42 ?_
        refine lv_bipush (v := (16 : Int32)) hx hb dX12_order_45 (by decide) ?_
        refine lv_iload_n hx hb dX12_order_47 rfl (lv_at hl 1 rfl) ?_
        refine lv_iadd hx hb dX12_order_48 ?_
        obtain ⟨h_5, hf⟩ := kb_if hf
        refine va_iald (D := D) hx hb hK.1 hP 1 0 rfl rfl h_5 dX12_order_49 ?_
        obtain ⟨r6, hc6, hf⟩ := kb_bind hf
        refine kb_ci (ws2 := (w_MO dA a (some (ba 0)) q1 g2 g3 g4 g5 (wa 0) g7 g8 g9 g10 g11 g12 g13 g14 g15 g16 g17 g18 r6.2 ++ (w_W dA wa y_w ++ (w_Bus dA ba bu)))) (kb_rV (n := 1) (As := [.int ((yW_r y_w) (((16 : Int32) + v1)).toNatClampNeg)]) (rest := []) hx hb hml hown hK (c_X12_done l D dA H.size a (some (ba 0)) q1 g2 g3 g4 g5 (wa 0) g7 g8 g9 g10 g11 g12 g13 g14 g15 g16 g17 g18 z0 ((yW_r y_w) (((16 : Int32) + v1)).toNatClampNeg) r6.1 r6.2 hc6) ⟨ww_7_100, ww_7_97, ww_7_99, ws_71, ww_1_12, rfl, by decide, by decide⟩ rfl rfl (by decide +kernel) ⟨Nat.le_of_ble_eq_true rfl, Nat.le_of_ble_eq_true rfl⟩ hP hD hS hA hE [0] rfl (by decide) 0 rfl rfl rfl hl.1 rfl (Nat.le_of_ble_eq_true rfl) dX12_order_50 ⟨Nat.le_of_ble_eq_true rfl, Nat.le_of_ble_eq_true rfl⟩) hP hD hS hA [0] [1, 2, 3, 4, 5, 6, 7, 8, 9, 10, 11, 12, 13, 14, 15, 16, 17] [17, 0, 1, 2, 3, 4, 5, 6, 7, 8, 9, 10, 11, 12, 13, 14, 15, 16] rfl rfl (by decide) (by decide) rfl (by decide) (fun H locs hP hD hS => ?_)
        exact RET _ _ H _ ls 53 hf hP hD hS dX12_order_53
      · rw [if_pos c_4] at hf
        refine lv_aload_n hx hb dX12_order_31 rfl (lv_at hl 0 rfl) ?_
        refine lv_bipush (v := (6 : Int32)) hx hb dX12_order_32 (by decide) ?_
        obtain ⟨r7, hc7, hf⟩ := kb_bind hf
        refine kb_ci (ws2 := (w_MO dA a (some (ba 0)) q1 g2 g3 g4 g5 (wa 0) g7 g8 g9 g10 g11 g12 g13 g14 g15 g16 g17 g18 r7.2 ++ (w_W dA wa y_w ++ (w_Bus dA ba bu)))) (kb_rV (n := 1) (As := [.int (6 : Int32)]) (rest := []) hx hb hml hown hK (c_X12_refused l D dA H.size a (some (ba 0)) q1 g2 g3 g4 g5 (wa 0) g7 g8 g9 g10 g11 g12 g13 g14 g15 g16 g17 g18 z0 (6 : Int32) r7.1 r7.2 hc7) ⟨ww_6_82, ww_6_79, ww_6_81, ws_46, ww_1_12, rfl, by decide, by decide⟩ rfl rfl (by decide +kernel) ⟨Nat.le_of_ble_eq_true rfl, Nat.le_of_ble_eq_true rfl⟩ hP hD hS hA hE [0] rfl (by decide) 0 rfl rfl rfl hl.1 rfl (Nat.le_of_ble_eq_true rfl) dX12_order_34 ⟨Nat.le_of_ble_eq_true rfl, Nat.le_of_ble_eq_true rfl⟩) hP hD hS hA [0] [1, 2, 3, 4, 5, 6, 7, 8, 9, 10, 11, 12, 13, 14, 15, 16, 17] [17, 0, 1, 2, 3, 4, 5, 6, 7, 8, 9, 10, 11, 12, 13, 14, 15, 16] rfl rfl (by decide) (by decide) rfl (by decide) (fun H locs hP hD hS => ?_)
        refine lv_goto (tgt := 53) hx hb dX12_order_37 (by decide) ?_
        exact RET _ _ H _ ls 53 hf hP hD hS dX12_order_53
    · rw [if_pos c_2] at hf
      refine lv_aload_n hx hb dX12_order_13 rfl (lv_at hl 0 rfl) ?_
      refine lv_iconst (v := (1 : Int32)) hx hb dX12_order_14 (by decide) ?_
      obtain ⟨r8, hc8, hf⟩ := kb_bind hf
      refine kb_ci (ws2 := (w_MO dA a (some (ba 0)) q1 g2 g3 g4 g5 (wa 0) g7 g8 g9 g10 g11 g12 g13 g14 g15 g16 g17 g18 r8.2 ++ (w_W dA wa y_w ++ (w_Bus dA ba bu)))) (kb_rV (n := 1) (As := [.int (1 : Int32)]) (rest := []) hx hb hml hown hK (c_X12_refused l D dA H.size a (some (ba 0)) q1 g2 g3 g4 g5 (wa 0) g7 g8 g9 g10 g11 g12 g13 g14 g15 g16 g17 g18 z0 (1 : Int32) r8.1 r8.2 hc8) ⟨ww_6_82, ww_6_79, ww_6_81, ws_46, ww_1_12, rfl, by decide, by decide⟩ rfl rfl (by decide +kernel) ⟨Nat.le_of_ble_eq_true rfl, Nat.le_of_ble_eq_true rfl⟩ hP hD hS hA hE [0] rfl (by decide) 0 rfl rfl rfl hl.1 rfl (Nat.le_of_ble_eq_true rfl) dX12_order_15 ⟨Nat.le_of_ble_eq_true rfl, Nat.le_of_ble_eq_true rfl⟩) hP hD hS hA [0] [1, 2, 3, 4, 5, 6, 7, 8, 9, 10, 11, 12, 13, 14, 15, 16, 17] [17, 0, 1, 2, 3, 4, 5, 6, 7, 8, 9, 10, 11, 12, 13, 14, 15, 16] rfl rfl (by decide) (by decide) rfl (by decide) (fun H locs hP hD hS => ?_)
      exact RET _ _ H _ ls 18 hf hP hD hS dX12_order_18
  have E0 : ∀ (H : Heap) (locs : List Loc), va_P D vwCl (w_MO dA a (some (ba 0)) q1 g2 g3 g4 g5 (wa 0) g7 g8 g9 g10 g11 g12 g13 g14 g15 g16 g17 g18 mo ++ (w_W dA wa y_w ++ (w_Bus dA ba bu))) H → va_D A (w_MO dA a (some (ba 0)) q1 g2 g3 g4 g5 (wa 0) g7 g8 g9 g10 g11 g12 g13 g14 g15 g16 g17 g18 mo ++ (w_W dA wa y_w ++ (w_Bus dA ba bu))) → va_S A s.heap H locs → W p l e ({ frames := 1, cells := 0, slots := 0, locals := 21 } : Room) s m ([.ref (a 0), .int x0] : List Value).toArray below meth c H locs 0 0 Q (F0 m 0 ls []) := by
    intro H locs hP hD hS
    rw [f_X12_order] at hf
    refine lv_aload_n hx hb dX12_order_0 rfl (lv_at hl 0 rfl) ?_
    refine lv_iconst (v := (0 : Int32)) hx hb dX12_order_1 (by decide) ?_
    refine va_put (D := D) (ci := 12) (v := .int (0 : Int32)) (ty := .int) (C := RX12) (T := TX12) (N := 35) hx hb hts kb_inX12 tyX12 tyX12_ok nmX12 hown hK.1 hP hD hS 0 rfl rfl 0 (by decide) (hK.2.w ww_5_200 rfl _) (fun _ h9 => h9) rfl (by decide +kernel) rfl rfl (Nat.le_of_ble_eq_true rfl) dX12_order_2 (fun H locs hP hD hS => ?_)
    have hP : va_P D vwCl (w_MO dA a (some (ba 0)) q1 g2 g3 g4 g5 (wa 0) g7 g8 g9 g10 g11 g12 g13 g14 g15 g16 g17 g18 (mo_set_thrown mo (0 : Int32)) ++ (w_W dA wa y_w ++ (w_Bus dA ba bu))) H := hP
    have hD : va_D A (w_MO dA a (some (ba 0)) q1 g2 g3 g4 g5 (wa 0) g7 g8 g9 g10 g11 g12 g13 g14 g15 g16 g17 g18 (mo_set_thrown mo (0 : Int32)) ++ (w_W dA wa y_w ++ (w_Bus dA ba bu))) := hD
    exact B_5 _ _ _ _ _ hf hP hD hS (lv_sub hl [0, 1] rfl)
  exact E0 _ _ hP hD hS

noncomputable def f_X12_shunnedNow (mo : MOT) (y_w : WT) (x0 : Int32) : Option (Int32) := if kb_in? ((32 : Int32) + x0) 56 then (if ((yW_r y_w) (((32 : Int32) + x0)).toNatClampNeg) = (1 : Int32) then if kb_in? ((24 : Int32) + x0) 56 then some (((yW_r y_w) (((24 : Int32) + x0)).toNatClampNeg)) else none else some ((99 : Int32))) else none
set_option maxHeartbeats 4000000 in
set_option maxRecDepth 100000 in
theorem c_X12_shunnedNow (l : Launch) (D : va_G) (dA : Nat → ClassId) (sz : Nat) (a : Nat → Nat) (wa : Nat → Nat) (q0 : Option Nat) (q1 : Option Nat) (g2 : Nat) (g3 : Nat) (g4 : Nat) (g5 : Nat) (g7 : Nat) (g8 : Nat) (g9 : Nat) (g10 : Nat) (g11 : Nat) (g12 : Nat) (g13 : Nat) (g14 : Nat) (g15 : Nat) (g16 : Nat) (g17 : Nat) (g18 : Nat) (mo : MOT) (y_w : WT) (x0 : Int32) (rv : Int32) (hf : f_X12_shunnedNow mo y_w x0 = some (rv)) : kb_Mi l yX12_shunnedNow cX12_shunnedNow 2 (some .int) ({ frames := 0, cells := 0, slots := 0, locals := 0 } : Room) D dA [.ref (a 0), .int x0] sz (w_MO dA a q0 q1 g2 g3 g4 g5 (wa 0) g7 g8 g9 g10 g11 g12 g13 g14 g15 g16 g17 g18 mo ++ (w_W dA wa y_w)) 0 0 rv (w_MO dA a q0 q1 g2 g3 g4 g5 (wa 0) g7 g8 g9 g10 g11 g12 g13 g14 g15 g16 g17 g18 mo ++ (w_W dA wa y_w)) := by
  refine Met.ofW (cc := cX12_shunnedNow) (maxL := 2) (ret := (some .int)) (by decide) rfl ?_
  intro p e s m args below meth c s₁ B hml hv
  obtain ⟨rfl, hsz, hP, hK, hD0, hE⟩ := hv
  have hx := B.exec
  have hb := B.bytes
  have hr := B.returns
  have hown : s.vm.findClass RX12 = some m.cls := findClass_of_methodNamed B.named
  have hlocks := B.notSynchronized
  have hts : ∀ w ∈ kb_gw, w.before ([.ref (a 0), .int x0] : List Value).toArray s = true := fun w hw => hK.2.1 w hw _
  subst hsz
  have hD := hD0.self (sz := s.heap.size)
  generalize hAe : va_A (w_MO dA a q0 q1 g2 g3 g4 g5 (wa 0) g7 g8 g9 g10 g11 g12 g13 g14 g15 g16 g17 g18 mo ++ (w_W dA wa y_w)) s.heap.size = A at hD hE ⊢
  have hA : ∀ q : Nat, s.heap.size ≤ q → A q := fun q h => by rw [← hAe]; exact Or.inr h
  have hS : va_S A s.heap s.heap [] := va_S.rf
  have hl := lv_entry ([.ref (a 0), .int x0]) (n := 2) (Nat.le_of_ble_eq_true rfl)
  rw [lg_entry_eq]
  generalize (lg_sl ([.ref (a 0), .int x0]) ++ List.replicate (2 - (lg_sl ([.ref (a 0), .int x0])).length) Slot.unset).toArray = ls at hl ⊢
  have hl : lv_has ls 2 [(0, .ref (a 0)), (1, .int x0)] := hl
  generalize hQ : MQ below (va_Qi (fun r (_ : Unit) => r = rv) (kb_B D A (w_MO dA a q0 q1 g2 g3 g4 g5 (wa 0) g7 g8 g9 g10 g11 g12 g13 g14 g15 g16 g17 g18 mo ++ (w_W dA wa y_w))) A) ([.ref (a 0), .int x0] : List Value).toArray s 0 0 A = Q
  show W p l e ({ frames := 0, cells := 0, slots := 0, locals := 0 } : Room) s m ([.ref (a 0), .int x0] : List Value).toArray below meth c s.heap [] 0 0 Q (F0 m 0 ls [])
  have RET : ∀ (r2 : Int32) (H : Heap) (locs : List Loc) (ls : Array Slot) (pc : Nat), some (r2) = some (rv) → va_P D vwCl (w_MO dA a q0 q1 g2 g3 g4 g5 (wa 0) g7 g8 g9 g10 g11 g12 g13 g14 g15 g16 g17 g18 mo ++ (w_W dA wa y_w)) H → va_D A (w_MO dA a q0 q1 g2 g3 g4 g5 (wa 0) g7 g8 g9 g10 g11 g12 g13 g14 g15 g16 g17 g18 mo ++ (w_W dA wa y_w)) → va_S A s.heap H locs → decode cX12_shunnedNow pc = .ok (.ireturn, 1) → W p l e ({ frames := 0, cells := 0, slots := 0, locals := 0 } : Room) s m ([.ref (a 0), .int x0] : List Value).toArray below meth c H locs 0 0 Q (F0 m pc ls [.int r2]) := by
    intro r2 H locs ls pc hq hP hD hS hd
    cases hq
    rw [← hQ]
    exact W.iret hx hb hr (fun t ht hW => ⟨⟨_, (), rfl, rfl, by rw [ht]; exact hP, hD⟩, hS.F ht⟩) hS.2.2 hd
  have E0 : ∀ (H : Heap) (locs : List Loc), va_P D vwCl (w_MO dA a q0 q1 g2 g3 g4 g5 (wa 0) g7 g8 g9 g10 g11 g12 g13 g14 g15 g16 g17 g18 mo ++ (w_W dA wa y_w)) H → va_D A (w_MO dA a q0 q1 g2 g3 g4 g5 (wa 0) g7 g8 g9 g10 g11 g12 g13 g14 g15 g16 g17 g18 mo ++ (w_W dA wa y_w)) → va_S A s.heap H locs → W p l e ({ frames := 0, cells := 0, slots := 0, locals := 0 } : Room) s m ([.ref (a 0), .int x0] : List Value).toArray below meth c H locs 0 0 Q (F0 m 0 ls []) := by
    intro H locs hP hD hS
    rw [f_X12_shunnedNow] at hf
    refine lv_aload_n hx hb dX12_shunnedNow_0 rfl (lv_at hl 0 rfl) ?_
    refine va_get (D := D) (ci := 12) (v := .ref (wa 0)) (C := RX12) (T := TX12) (N := 35) hx hb hts kb_inX12 hown hK.1 hP 0 rfl rfl 19 (by decide) (hK.2.w ww_5_219 rfl _) (fun _ h9 => h9) rfl dX12_shunnedNow_1 ?_
    refine lv_bipush (v := (32 : Int32)) hx hb dX12_shunnedNow_4 (by decide) ?_
    refine lv_iload_n hx hb dX12_shunnedNow_6 rfl (lv_at hl 1 rfl) ?_
    refine lv_iadd hx hb dX12_shunnedNow_7 ?_
    obtain ⟨h_1, hf⟩ := kb_if hf
    refine va_iald (D := D) hx hb hK.1 hP 1 0 rfl rfl h_1 dX12_shunnedNow_8 ?_
    refine lv_iconst (v := (1 : Int32)) hx hb dX12_shunnedNow_9 (by decide) ?_
    refine lv_icmp_ne (tgt := 25) hx hb dX12_shunnedNow_10 (by decide) (fun c_2 => ?_) (fun c_2 => ?_)
    · rw [if_neg c_2] at hf
      refine lv_bipush (v := (99 : Int32)) hx hb dX12_shunnedNow_25 (by decide) ?_
      exact RET _ H _ ls 27 hf hP hD hS dX12_shunnedNow_27
    · rw [if_pos c_2] at hf
      refine lv_aload_n hx hb dX12_shunnedNow_13 rfl (lv_at hl 0 rfl) ?_
      refine va_get (D := D) (ci := 12) (v := .ref (wa 0)) (C := RX12) (T := TX12) (N := 35) hx hb hts kb_inX12 hown hK.1 hP 0 rfl rfl 19 (by decide) (hK.2.w ww_5_219 rfl _) (fun _ h9 => h9) rfl dX12_shunnedNow_14 ?_
      refine lv_bipush (v := (24 : Int32)) hx hb dX12_shunnedNow_17 (by decide) ?_
      refine lv_iload_n hx hb dX12_shunnedNow_19 rfl (lv_at hl 1 rfl) ?_
      refine lv_iadd hx hb dX12_shunnedNow_20 ?_
      obtain ⟨h_3, hf⟩ := kb_if hf
      refine va_iald (D := D) hx hb hK.1 hP 1 0 rfl rfl h_3 dX12_shunnedNow_21 ?_
      refine lv_goto (tgt := 27) hx hb dX12_shunnedNow_22 (by decide) ?_
      exact RET _ H _ ls 27 hf hP hD hS dX12_shunnedNow_27
  exact E0 _ _ hP hD hS

noncomputable def f_X12_shunned_b5 (y_w : WT) (bu : BusT) (v1 : Int32) (z0 : MOT) : Option (Int32 × MOT) := (f_X12_isRider z0 bu v1).bind fun r1 => (if r1 = 0 then (f_X12_refused z0 (1 : Int32)).bind fun r8 => some (r8.1, r8.2) else if kb_in? ((16 : Int32) + v1) 56 then (if ((yW_r y_w) (((16 : Int32) + v1)).toNatClampNeg) = 0 then (f_X12_refused z0 (6 : Int32)).bind fun r7 => some (r7.1, r7.2) else (f_X12_shunnedNow z0 y_w v1).bind fun r5 => (f_X12_done z0 r5).bind fun r6 => some (r6.1, r6.2)) else none)
noncomputable def f_X12_shunned (mo : MOT) (y_w : WT) (bu : BusT) (x0 : Int32) : Option (Int32 × MOT) := f_X12_shunned_b5 y_w bu x0 (mo_set_thrown mo (0 : Int32))
set_option maxHeartbeats 4000000 in
set_option maxRecDepth 100000 in
theorem c_X12_shunned (l : Launch) (D : va_G) (dA : Nat → ClassId) (sz : Nat) (a : Nat → Nat) (wa : Nat → Nat) (ba : Nat → Nat) (q1 : Option Nat) (g2 : Nat) (g3 : Nat) (g4 : Nat) (g5 : Nat) (g7 : Nat) (g8 : Nat) (g9 : Nat) (g10 : Nat) (g11 : Nat) (g12 : Nat) (g13 : Nat) (g14 : Nat) (g15 : Nat) (g16 : Nat) (g17 : Nat) (g18 : Nat) (mo : MOT) (y_w : WT) (bu : BusT) (x0 : Int32) (rv : Int32) (u0 : MOT) (hf : f_X12_shunned mo y_w bu x0 = some (rv, u0)) : kb_Mi l yX12_shunned cX12_shunned 2 (some .int) ({ frames := 1, cells := 0, slots := 0, locals := 21 } : Room) D dA [.ref (a 0), .int x0] sz (w_MO dA a (some (ba 0)) q1 g2 g3 g4 g5 (wa 0) g7 g8 g9 g10 g11 g12 g13 g14 g15 g16 g17 g18 mo ++ (w_W dA wa y_w ++ (w_Bus dA ba bu))) 0 0 rv (w_MO dA a (some (ba 0)) q1 g2 g3 g4 g5 (wa 0) g7 g8 g9 g10 g11 g12 g13 g14 g15 g16 g17 g18 u0 ++ (w_W dA wa y_w ++ (w_Bus dA ba bu))) := by
  refine Met.ofW (cc := cX12_shunned) (maxL := 2) (ret := (some .int)) (by decide) rfl ?_
  intro p e s m args below meth c s₁ B hml hv
  obtain ⟨rfl, hsz, hP, hK, hD0, hE⟩ := hv
  have hx := B.exec
  have hb := B.bytes
  have hr := B.returns
  have hown : s.vm.findClass RX12 = some m.cls := findClass_of_methodNamed B.named
  have hlocks := B.notSynchronized
  have hts : ∀ w ∈ kb_gw, w.before ([.ref (a 0), .int x0] : List Value).toArray s = true := fun w hw => hK.2.1 w hw _
  subst hsz
  have hD := hD0.self (sz := s.heap.size)
  generalize hAe : va_A (w_MO dA a (some (ba 0)) q1 g2 g3 g4 g5 (wa 0) g7 g8 g9 g10 g11 g12 g13 g14 g15 g16 g17 g18 mo ++ (w_W dA wa y_w ++ (w_Bus dA ba bu))) s.heap.size = A at hD hE ⊢
  have hA : ∀ q : Nat, s.heap.size ≤ q → A q := fun q h => by rw [← hAe]; exact Or.inr h
  have hS : va_S A s.heap s.heap [] := va_S.rf
  have hl := lv_entry ([.ref (a 0), .int x0]) (n := 2) (Nat.le_of_ble_eq_true rfl)
  rw [lg_entry_eq]
  generalize (lg_sl ([.ref (a 0), .int x0]) ++ List.replicate (2 - (lg_sl ([.ref (a 0), .int x0])).length) Slot.unset).toArray = ls at hl ⊢
  have hl : lv_has ls 2 [(0, .ref (a 0)), (1, .int x0)] := hl
  generalize hQ : MQ below (va_Qi (fun r (_ : Unit) => r = rv) (kb_B D A (w_MO dA a (some (ba 0)) q1 g2 g3 g4 g5 (wa 0) g7 g8 g9 g10 g11 g12 g13 g14 g15 g16 g17 g18 u0 ++ (w_W dA wa y_w ++ (w_Bus dA ba bu)))) A) ([.ref (a 0), .int x0] : List Value).toArray s 0 0 A = Q
  show W p l e ({ frames := 1, cells := 0, slots := 0, locals := 21 } : Room) s m ([.ref (a 0), .int x0] : List Value).toArray below meth c s.heap [] 0 0 Q (F0 m 0 ls [])
  have RET : ∀ (r2 : Int32) (w0 : MOT) (H : Heap) (locs : List Loc) (ls : Array Slot) (pc : Nat), some (r2, w0) = some (rv, u0) → va_P D vwCl (w_MO dA a (some (ba 0)) q1 g2 g3 g4 g5 (wa 0) g7 g8 g9 g10 g11 g12 g13 g14 g15 g16 g17 g18 w0 ++ (w_W dA wa y_w ++ (w_Bus dA ba bu))) H → va_D A (w_MO dA a (some (ba 0)) q1 g2 g3 g4 g5 (wa 0) g7 g8 g9 g10 g11 g12 g13 g14 g15 g16 g17 g18 w0 ++ (w_W dA wa y_w ++ (w_Bus dA ba bu))) → va_S A s.heap H locs → decode cX12_shunned pc = .ok (.ireturn, 1) → W p l e ({ frames := 1, cells := 0, slots := 0, locals := 21 } : Room) s m ([.ref (a 0), .int x0] : List Value).toArray below meth c H locs 0 0 Q (F0 m pc ls [.int r2]) := by
    intro r2 w0 H locs ls pc hq hP hD hS hd
    cases hq
    rw [← hQ]
    exact W.iret hx hb hr (fun t ht hW => ⟨⟨_, (), rfl, rfl, by rw [ht]; exact hP, hD⟩, hS.F ht⟩) hS.2.2 hd
  have B_5 : ∀ (v1 : Int32) (z0 : MOT) (H : Heap) (locs : List Loc) (ls : Array Slot), f_X12_shunned_b5 y_w bu v1 z0 = some (rv, u0) → va_P D vwCl (w_MO dA a (some (ba 0)) q1 g2 g3 g4 g5 (wa 0) g7 g8 g9 g10 g11 g12 g13 g14 g15 g16 g17 g18 z0 ++ (w_W dA wa y_w ++ (w_Bus dA ba bu))) H → va_D A (w_MO dA a (some (ba 0)) q1 g2 g3 g4 g5 (wa 0) g7 g8 g9 g10 g11 g12 g13 g14 g15 g16 g17 g18 z0 ++ (w_W dA wa y_w ++ (w_Bus dA ba bu))) → va_S A s.heap H locs → lv_has ls 2 [(0, .ref (a 0)), (1, .int v1)] → W p l e ({ frames := 1, cells := 0, slots := 0, locals := 21 } : Room) s m ([.ref (a 0), .int x0] : List Value).toArray below meth c H locs 0 0 Q (F0 m 5 ls []) := by
    intro v1 z0 H locs ls hf hP hD hS hl
    rw [f_X12_shunned_b5] at hf
    refine lv_aload_n hx hb dX12_shunned_5 rfl (lv_at hl 0 rfl) ?_
    refine lv_iload_n hx hb dX12_shunned_6 rfl (lv_at hl 1 rfl) ?_
    obtain ⟨r1, hc1, hf⟩ := kb_bind hf
    refine kb_ci (ws2 := (w_MO dA a (some (ba 0)) q1 g2 g3 g4 g5 (wa 0) g7 g8 g9 g10 g11 g12 g13 g14 g15 g16 g17 g18 z0 ++ (w_W dA wa y_w ++ (w_Bus dA ba bu)))) (kb_rV (n := 1) (As := [.int v1]) (rest := []) hx hb hml hown hK (c_X12_isRider l D dA H.size a ba q1 g2 g3 g4 g5 (wa 0) g7 g8 g9 g10 g11 g12 g13 g14 g15 g16 g17 g18 z0 bu v1 r1 hc1) ⟨ww_8_5, ww_8_2, ww_8_4, ws_95, ww_1_12, rfl, by decide, by decide⟩ rfl rfl (by decide +kernel) ⟨Nat.le_of_ble_eq_true rfl, Nat.le_of_ble_eq_true rfl⟩ hP hD hS hA hE [0, 2, 3, 4, 5, 6, 7, 8, 9, 10, 11, 12, 13, 14, 15, 16, 17] rfl (by decide) 0 rfl rfl rfl hl.1 rfl (Nat.le_of_ble_eq_true rfl) dX12_shunned_7 ⟨Nat.le_of_ble_eq_true rfl, Nat.le_of_ble_eq_true rfl⟩) hP hD hS hA [0, 2, 3, 4, 5, 6, 7, 8, 9, 10, 11, 12, 13, 14, 15, 16, 17] [1] [1, 0, 2, 3, 4, 5, 6, 7, 8, 9, 10, 11, 12, 13, 14, 15, 16, 17] rfl rfl (by decide) (by decide) rfl (by decide) (fun H locs hP hD hS => ?_)
    refine lv_if_ne (tgt := 19) hx hb dX12_shunned_10 (by decide) (fun c_2 => ?_) (fun c_2 => ?_)
    · rw [if_neg c_2] at hf
      refine lv_aload_n hx hb dX12_shunned_19 rfl (lv_at hl 0 rfl) ?_
      refine va_get (D := D) (ci := 12) (v := .ref (wa 0)) (C := RX12) (T := TX12) (N := 35) hx hb hts kb_inX12 hown hK.1 hP 0 rfl rfl 19 (by decide) (hK.2.w ww_5_219 rfl _) (fun _ h9 => h9) rfl dX12_shunned_20 ?_
      refine lv_bipush (v := (16 : Int32)) hx hb dX12_shunned_23 (by decide) ?_
      refine lv_iload_n hx hb dX12_shunned_25 rfl (lv_at hl 1 rfl) ?_
      refine lv_iadd hx hb dX12_shunned_26 ?_
      obtain ⟨h_3, hf⟩ := kb_if hf
      refine va_iald (D := D) hx hb hK.1 hP 1 0 rfl rfl h_3 dX12_shunned_27 ?_
      refine lv_if_ne (tgt := 40) hx hb dX12_shunned_28 (by decide) (fun c_4 => ?_) (fun c_4 => ?_)
      · rw [if_neg c_4] at hf
        refine lv_aload_n hx hb dX12_shunned_40 rfl (lv_at hl 0 rfl) ?_
        refine lv_aload_n hx hb dX12_shunned_41 rfl (lv_at hl 0 rfl) ?_
        refine lv_iload_n hx hb dX12_shunned_42 rfl (lv_at hl 1 rfl) ?_
        obtain ⟨r5, hc5, hf⟩ := kb_bind hf
        refine kb_ci (ws2 := (w_MO dA a (some (ba 0)) q1 g2 g3 g4 g5 (wa 0) g7 g8 g9 g10 g11 g12 g13 g14 g15 g16 g17 g18 z0 ++ (w_W dA wa y_w ++ (w_Bus dA ba bu)))) (kb_rV (n := 1) (As := [.int v1]) (rest := [.ref (a 0)]) hx hb hml hown hK (c_X12_shunnedNow l D dA H.size a wa (some (ba 0)) q1 g2 g3 g4 g5 g7 g8 g9 g10 g11 g12 g13 g14 g15 g16 g17 g18 z0 y_w v1 r5 hc5) ⟨ww_8_37, ww_8_34, ww_8_36, ws_97, ww_1_12, rfl, by decide, by decide⟩ rfl rfl (by decide +kernel) ⟨Nat.le_of_ble_eq_true rfl, Nat.le_of_ble_eq_true rfl⟩ hP hD hS hA hE [0, 1] rfl (by decide) 0 rfl rfl rfl hl.1 rfl (Nat.le_of_ble_eq_true rfl) dX12_shunned_43 ⟨Nat.le_of_ble_eq_true rfl, Nat.le_of_ble_eq_true rfl⟩) hP hD hS hA [0, 1] [2, 3, 4, 5, 6, 7, 8, 9, 10, 11, 12, 13, 14, 15, 16, 17] [16, 17, 0, 1, 2, 3, 4, 5, 6, 7, 8, 9, 10, 11, 12, 13, 14, 15] rfl rfl (by decide) (by decide) rfl (by decide) (fun H locs hP hD hS => ?_)
        obtain ⟨r6, hc6, hf⟩ := kb_bind hf
        refine kb_ci (ws2 := (w_MO dA a (some (ba 0)) q1 g2 g3 g4 g5 (wa 0) g7 g8 g9 g10 g11 g12 g13 g14 g15 g16 g17 g18 r6.2 ++ (w_W dA wa y_w ++ (w_Bus dA ba bu)))) (kb_rV (n := 1) (As := [.int r5]) (rest := []) hx hb hml hown hK (c_X12_done l D dA H.size a (some (ba 0)) q1 g2 g3 g4 g5 (wa 0) g7 g8 g9 g10 g11 g12 g13 g14 g15 g16 g17 g18 z0 r5 r6.1 r6.2 hc6) ⟨ww_7_100, ww_7_97, ww_7_99, ws_71, ww_1_12, rfl, by decide, by decide⟩ rfl rfl (by decide +kernel) ⟨Nat.le_of_ble_eq_true rfl, Nat.le_of_ble_eq_true rfl⟩ hP hD hS hA hE [0] rfl (by decide) 0 rfl rfl rfl hl.1 rfl (Nat.le_of_ble_eq_true rfl) dX12_shunned_46 ⟨Nat.le_of_ble_eq_true rfl, Nat.le_of_ble_eq_true rfl⟩) hP hD hS hA [0] [1, 2, 3, 4, 5, 6, 7, 8, 9, 10, 11, 12, 13, 14, 15, 16, 17] [17, 0, 1, 2, 3, 4, 5, 6, 7, 8, 9, 10, 11, 12, 13, 14, 15, 16] rfl rfl (by decide) (by decide) rfl (by decide) (fun H locs hP hD hS => ?_)
        exact RET _ _ H _ ls 49 hf hP hD hS dX12_shunned_49
      · rw [if_pos c_4] at hf
        refine lv_aload_n hx hb dX12_shunned_31 rfl (lv_at hl 0 rfl) ?_
        refine lv_bipush (v := (6 : Int32)) hx hb dX12_shunned_32 (by decide) ?_
        obtain ⟨r7, hc7, hf⟩ := kb_bind hf
        refine kb_ci (ws2 := (w_MO dA a (some (ba 0)) q1 g2 g3 g4 g5 (wa 0) g7 g8 g9 g10 g11 g12 g13 g14 g15 g16 g17 g18 r7.2 ++ (w_W dA wa y_w ++ (w_Bus dA ba bu)))) (kb_rV (n := 1) (As := [.int (6 : Int32)]) (rest := []) hx hb hml hown hK (c_X12_refused l D dA H.size a (some (ba 0)) q1 g2 g3 g4 g5 (wa 0) g7 g8 g9 g10 g11 g12 g13 g14 g15 g16 g17 g18 z0 (6 : Int32) r7.1 r7.2 hc7) ⟨ww_6_82, ww_6_79, ww_6_81, ws_46, ww_1_12, rfl, by decide, by decide⟩ rfl rfl (by decide +kernel) ⟨Nat.le_of_ble_eq_true rfl, Nat.le_of_ble_eq_true rfl⟩ hP hD hS hA hE [0] rfl (by decide) 0 rfl rfl rfl hl.1 rfl (Nat.le_of_ble_eq_true rfl) dX12_shunned_34 ⟨Nat.le_of_ble_eq_true rfl, Nat.le_of_ble_eq_true rfl⟩) hP hD hS hA [0] [1, 2, 3, 4, 5, 6, 7, 8, 9, 10, 11, 12, 13, 14, 15, 16, 17] [17, 0, 1, 2, 3, 4, 5, 6, 7, 8, 9, 10, 11, 12, 13, 14, 15, 16] rfl rfl (by decide) (by decide) rfl (by decide) (fun H locs hP hD hS => ?_)
        refine lv_goto (tgt := 49) hx hb dX12_shunned_37 (by decide) ?_
        exact RET _ _ H _ ls 49 hf hP hD hS dX12_shunned_49
    · rw [if_pos c_2] at hf
      refine lv_aload_n hx hb dX12_shunned_13 rfl (lv_at hl 0 rfl) ?_
      refine lv_iconst (v := (1 : Int32)) hx hb dX12_shunned_14 (by decide) ?_
      obtain ⟨r8, hc8, hf⟩ := kb_bind hf
      refine kb_ci (ws2 := (w_MO dA a (some (ba 0)) q1 g2 g3 g4 g5 (wa 0) g7 g8 g9 g10 g11 g12 g13 g14 g15 g16 g17 g18 r8.2 ++ (w_W dA wa y_w ++ (w_Bus dA ba bu)))) (kb_rV (n := 1) (As := [.int (1 : Int32)]) (rest := []) hx hb hml hown hK (c_X12_refused l D dA H.size a (some (ba 0)) q1 g2 g3 g4 g5 (wa 0) g7 g8 g9 g10 g11 g12 g13 g14 g15 g16 g17 g18 z0 (1 : Int32) r8.1 r8.2 hc8) ⟨ww_6_82, ww_6_79, ww_6_81, ws_46, ww_1_12, rfl, by decide, by decide⟩ rfl rfl (by decide +kernel) ⟨Nat.le_of_ble_eq_true rfl, Nat.le_of_ble_eq_true rfl⟩ hP hD hS hA hE [0] rfl (by decide) 0 rfl rfl rfl hl.1 rfl (Nat.le_of_ble_eq_true rfl) dX12_shunned_15 ⟨Nat.le_of_ble_eq_true rfl, Nat.le_of_ble_eq_true rfl⟩) hP hD hS hA [0] [1, 2, 3, 4, 5, 6, 7, 8, 9, 10, 11, 12, 13, 14, 15, 16, 17] [17, 0, 1, 2, 3, 4, 5, 6, 7, 8, 9, 10, 11, 12, 13, 14, 15, 16] rfl rfl (by decide) (by decide) rfl (by decide) (fun H locs hP hD hS => ?_)
      exact RET _ _ H _ ls 18 hf hP hD hS dX12_shunned_18
  have E0 : ∀ (H : Heap) (locs : List Loc), va_P D vwCl (w_MO dA a (some (ba 0)) q1 g2 g3 g4 g5 (wa 0) g7 g8 g9 g10 g11 g12 g13 g14 g15 g16 g17 g18 mo ++ (w_W dA wa y_w ++ (w_Bus dA ba bu))) H → va_D A (w_MO dA a (some (ba 0)) q1 g2 g3 g4 g5 (wa 0) g7 g8 g9 g10 g11 g12 g13 g14 g15 g16 g17 g18 mo ++ (w_W dA wa y_w ++ (w_Bus dA ba bu))) → va_S A s.heap H locs → W p l e ({ frames := 1, cells := 0, slots := 0, locals := 21 } : Room) s m ([.ref (a 0), .int x0] : List Value).toArray below meth c H locs 0 0 Q (F0 m 0 ls []) := by
    intro H locs hP hD hS
    rw [f_X12_shunned] at hf
    refine lv_aload_n hx hb dX12_shunned_0 rfl (lv_at hl 0 rfl) ?_
    refine lv_iconst (v := (0 : Int32)) hx hb dX12_shunned_1 (by decide) ?_
    refine va_put (D := D) (ci := 12) (v := .int (0 : Int32)) (ty := .int) (C := RX12) (T := TX12) (N := 35) hx hb hts kb_inX12 tyX12 tyX12_ok nmX12 hown hK.1 hP hD hS 0 rfl rfl 0 (by decide) (hK.2.w ww_5_200 rfl _) (fun _ h9 => h9) rfl (by decide +kernel) rfl rfl (Nat.le_of_ble_eq_true rfl) dX12_shunned_2 (fun H locs hP hD hS => ?_)
    have hP : va_P D vwCl (w_MO dA a (some (ba 0)) q1 g2 g3 g4 g5 (wa 0) g7 g8 g9 g10 g11 g12 g13 g14 g15 g16 g17 g18 (mo_set_thrown mo (0 : Int32)) ++ (w_W dA wa y_w ++ (w_Bus dA ba bu))) H := hP
    have hD : va_D A (w_MO dA a (some (ba 0)) q1 g2 g3 g4 g5 (wa 0) g7 g8 g9 g10 g11 g12 g13 g14 g15 g16 g17 g18 (mo_set_thrown mo (0 : Int32)) ++ (w_W dA wa y_w ++ (w_Bus dA ba bu))) := hD
    exact B_5 _ _ _ _ _ hf hP hD hS (lv_sub hl [0, 1] rfl)
  exact E0 _ _ hP hD hS

noncomputable def f_X12_given_b5 (y_w : WT) (z0 : MOT) : Option (Int32 × MOT) := if kb_in? (54 : Int32) 56 then (f_X12_done z0 ((yW_r y_w) ((54 : Int32)).toNatClampNeg)).bind fun r2 => some (r2.1, r2.2) else none
noncomputable def f_X12_given (mo : MOT) (y_w : WT) : Option (Int32 × MOT) := f_X12_given_b5 y_w (mo_set_thrown mo (0 : Int32))
set_option maxHeartbeats 4000000 in
set_option maxRecDepth 100000 in
theorem c_X12_given (l : Launch) (D : va_G) (dA : Nat → ClassId) (sz : Nat) (a : Nat → Nat) (wa : Nat → Nat) (g0 : Nat) (q1 : Option Nat) (g2 : Nat) (g3 : Nat) (g4 : Nat) (g5 : Nat) (g7 : Nat) (g8 : Nat) (g9 : Nat) (g10 : Nat) (g11 : Nat) (g12 : Nat) (g13 : Nat) (g14 : Nat) (g15 : Nat) (g16 : Nat) (g17 : Nat) (g18 : Nat) (mo : MOT) (y_w : WT) (rv : Int32) (u0 : MOT) (hf : f_X12_given mo y_w = some (rv, u0)) : kb_Mi l yX12_given cX12_given 1 (some .int) ({ frames := 1, cells := 0, slots := 0, locals := 21 } : Room) D dA [.ref (a 0)] sz (w_MO dA a (some g0) q1 g2 g3 g4 g5 (wa 0) g7 g8 g9 g10 g11 g12 g13 g14 g15 g16 g17 g18 mo ++ (w_W dA wa y_w)) 0 0 rv (w_MO dA a (some g0) q1 g2 g3 g4 g5 (wa 0) g7 g8 g9 g10 g11 g12 g13 g14 g15 g16 g17 g18 u0 ++ (w_W dA wa y_w)) := by
  refine Met.ofW (cc := cX12_given) (maxL := 1) (ret := (some .int)) (by decide) rfl ?_
  intro p e s m args below meth c s₁ B hml hv
  obtain ⟨rfl, hsz, hP, hK, hD0, hE⟩ := hv
  have hx := B.exec
  have hb := B.bytes
  have hr := B.returns
  have hown : s.vm.findClass RX12 = some m.cls := findClass_of_methodNamed B.named
  have hlocks := B.notSynchronized
  have hts : ∀ w ∈ kb_gw, w.before ([.ref (a 0)] : List Value).toArray s = true := fun w hw => hK.2.1 w hw _
  subst hsz
  have hD := hD0.self (sz := s.heap.size)
  generalize hAe : va_A (w_MO dA a (some g0) q1 g2 g3 g4 g5 (wa 0) g7 g8 g9 g10 g11 g12 g13 g14 g15 g16 g17 g18 mo ++ (w_W dA wa y_w)) s.heap.size = A at hD hE ⊢
  have hA : ∀ q : Nat, s.heap.size ≤ q → A q := fun q h => by rw [← hAe]; exact Or.inr h
  have hS : va_S A s.heap s.heap [] := va_S.rf
  have hl := lv_entry ([.ref (a 0)]) (n := 1) (Nat.le_of_ble_eq_true rfl)
  rw [lg_entry_eq]
  generalize (lg_sl ([.ref (a 0)]) ++ List.replicate (1 - (lg_sl ([.ref (a 0)])).length) Slot.unset).toArray = ls at hl ⊢
  have hl : lv_has ls 1 [(0, .ref (a 0))] := hl
  generalize hQ : MQ below (va_Qi (fun r (_ : Unit) => r = rv) (kb_B D A (w_MO dA a (some g0) q1 g2 g3 g4 g5 (wa 0) g7 g8 g9 g10 g11 g12 g13 g14 g15 g16 g17 g18 u0 ++ (w_W dA wa y_w))) A) ([.ref (a 0)] : List Value).toArray s 0 0 A = Q
  show W p l e ({ frames := 1, cells := 0, slots := 0, locals := 21 } : Room) s m ([.ref (a 0)] : List Value).toArray below meth c s.heap [] 0 0 Q (F0 m 0 ls [])
  have RET : ∀ (r2 : Int32) (w0 : MOT) (H : Heap) (locs : List Loc) (ls : Array Slot) (pc : Nat), some (r2, w0) = some (rv, u0) → va_P D vwCl (w_MO dA a (some g0) q1 g2 g3 g4 g5 (wa 0) g7 g8 g9 g10 g11 g12 g13 g14 g15 g16 g17 g18 w0 ++ (w_W dA wa y_w)) H → va_D A (w_MO dA a (some g0) q1 g2 g3 g4 g5 (wa 0) g7 g8 g9 g10 g11 g12 g13 g14 g15 g16 g17 g18 w0 ++ (w_W dA wa y_w)) → va_S A s.heap H locs → decode cX12_given pc = .ok (.ireturn, 1) → W p l e ({ frames := 1, cells := 0, slots := 0, locals := 21 } : Room) s m ([.ref (a 0)] : List Value).toArray below meth c H locs 0 0 Q (F0 m pc ls [.int r2]) := by
    intro r2 w0 H locs ls pc hq hP hD hS hd
    cases hq
    rw [← hQ]
    exact W.iret hx hb hr (fun t ht hW => ⟨⟨_, (), rfl, rfl, by rw [ht]; exact hP, hD⟩, hS.F ht⟩) hS.2.2 hd
  have B_5 : ∀ (z0 : MOT) (H : Heap) (locs : List Loc) (ls : Array Slot), f_X12_given_b5 y_w z0 = some (rv, u0) → va_P D vwCl (w_MO dA a (some g0) q1 g2 g3 g4 g5 (wa 0) g7 g8 g9 g10 g11 g12 g13 g14 g15 g16 g17 g18 z0 ++ (w_W dA wa y_w)) H → va_D A (w_MO dA a (some g0) q1 g2 g3 g4 g5 (wa 0) g7 g8 g9 g10 g11 g12 g13 g14 g15 g16 g17 g18 z0 ++ (w_W dA wa y_w)) → va_S A s.heap H locs → lv_has ls 1 [(0, .ref (a 0))] → W p l e ({ frames := 1, cells := 0, slots := 0, locals := 21 } : Room) s m ([.ref (a 0)] : List Value).toArray below meth c H locs 0 0 Q (F0 m 5 ls []) := by
    intro z0 H locs ls hf hP hD hS hl
    rw [f_X12_given_b5] at hf
    refine lv_aload_n hx hb dX12_given_5 rfl (lv_at hl 0 rfl) ?_
    refine va_get (D := D) (ci := 12) (v := .ref g0) (C := RX12) (T := TX12) (N := 35) hx hb hts kb_inX12 hown hK.1 hP 0 rfl rfl 3 (by decide) (hK.2.w ww_5_203 rfl _) (fun _ h9 => h9) rfl dX12_given_6 ?_
    refine lv_ifnonnull (tgt := 20) hx hb dX12_given_9 (by decide) ?_
    refine lv_aload_n hx hb dX12_given_20 rfl (lv_at hl 0 rfl) ?_
    refine lv_aload_n hx hb dX12_given_21 rfl (lv_at hl 0 rfl) ?_
    refine va_get (D := D) (ci := 12) (v := .ref (wa 0)) (C := RX12) (T := TX12) (N := 35) hx hb hts kb_inX12 hown hK.1 hP 0 rfl rfl 19 (by decide) (hK.2.w ww_5_219 rfl _) (fun _ h9 => h9) rfl dX12_given_22 ?_
    refine lv_bipush (v := (54 : Int32)) hx hb dX12_given_25 (by decide) ?_
    obtain ⟨h_1, hf⟩ := kb_if hf
    refine va_iald (D := D) hx hb hK.1 hP 1 0 rfl rfl h_1 dX12_given_27 ?_
    obtain ⟨r2, hc2, hf⟩ := kb_bind hf
    refine kb_ci (ws2 := (w_MO dA a (some g0) q1 g2 g3 g4 g5 (wa 0) g7 g8 g9 g10 g11 g12 g13 g14 g15 g16 g17 g18 r2.2 ++ (w_W dA wa y_w))) (kb_rV (n := 1) (As := [.int ((yW_r y_w) ((54 : Int32)).toNatClampNeg)]) (rest := []) hx hb hml hown hK (c_X12_done l D dA H.size a (some g0) q1 g2 g3 g4 g5 (wa 0) g7 g8 g9 g10 g11 g12 g13 g14 g15 g16 g17 g18 z0 ((yW_r y_w) ((54 : Int32)).toNatClampNeg) r2.1 r2.2 hc2) ⟨ww_7_100, ww_7_97, ww_7_99, ws_71, ww_1_12, rfl, by decide, by decide⟩ rfl rfl (by decide +kernel) ⟨Nat.le_of_ble_eq_true rfl, Nat.le_of_ble_eq_true rfl⟩ hP hD hS hA hE [0] rfl (by decide) 0 rfl rfl rfl hl.1 rfl (Nat.le_of_ble_eq_true rfl) dX12_given_28 ⟨Nat.le_of_ble_eq_true rfl, Nat.le_of_ble_eq_true rfl⟩) hP hD hS hA [0] [1] [1, 0] rfl rfl (by decide) (by decide) rfl (by decide) (fun H locs hP hD hS => ?_)
    exact RET _ _ H _ ls 31 hf hP hD hS dX12_given_31
  have E0 : ∀ (H : Heap) (locs : List Loc), va_P D vwCl (w_MO dA a (some g0) q1 g2 g3 g4 g5 (wa 0) g7 g8 g9 g10 g11 g12 g13 g14 g15 g16 g17 g18 mo ++ (w_W dA wa y_w)) H → va_D A (w_MO dA a (some g0) q1 g2 g3 g4 g5 (wa 0) g7 g8 g9 g10 g11 g12 g13 g14 g15 g16 g17 g18 mo ++ (w_W dA wa y_w)) → va_S A s.heap H locs → W p l e ({ frames := 1, cells := 0, slots := 0, locals := 21 } : Room) s m ([.ref (a 0)] : List Value).toArray below meth c H locs 0 0 Q (F0 m 0 ls []) := by
    intro H locs hP hD hS
    rw [f_X12_given] at hf
    refine lv_aload_n hx hb dX12_given_0 rfl (lv_at hl 0 rfl) ?_
    refine lv_iconst (v := (0 : Int32)) hx hb dX12_given_1 (by decide) ?_
    refine va_put (D := D) (ci := 12) (v := .int (0 : Int32)) (ty := .int) (C := RX12) (T := TX12) (N := 35) hx hb hts kb_inX12 tyX12 tyX12_ok nmX12 hown hK.1 hP hD hS 0 rfl rfl 0 (by decide) (hK.2.w ww_5_200 rfl _) (fun _ h9 => h9) rfl (by decide +kernel) rfl rfl (Nat.le_of_ble_eq_true rfl) dX12_given_2 (fun H locs hP hD hS => ?_)
    have hP : va_P D vwCl (w_MO dA a (some g0) q1 g2 g3 g4 g5 (wa 0) g7 g8 g9 g10 g11 g12 g13 g14 g15 g16 g17 g18 (mo_set_thrown mo (0 : Int32)) ++ (w_W dA wa y_w)) H := hP
    have hD : va_D A (w_MO dA a (some g0) q1 g2 g3 g4 g5 (wa 0) g7 g8 g9 g10 g11 g12 g13 g14 g15 g16 g17 g18 (mo_set_thrown mo (0 : Int32)) ++ (w_W dA wa y_w)) := hD
    exact B_5 _ _ _ _ hf hP hD hS (lv_sub hl [0] rfl)
  exact E0 _ _ hP hD hS

noncomputable def f_X12_sorted_b122 (y_w : WT) (bu : BusT) (k22 : Int32 → Int32 → MOT → Option (Int32 × MOT)) (v2 : Int32) (s0 : Int32) (s1 : Int32) (z0 : MOT) : Option (Int32 × MOT) := k22 (s1 + s0) (v2 + (1 : Int32)) z0
noncomputable def f_X12_sorted_b22 (y_w : WT) (bu : BusT) : Nat → Int32 → Int32 → MOT → Option (Int32 × MOT)
  | 0, _, _, _ => none
  | n + 1, v1, v2, z0 => (if ((4 : Int32) * (bu_rows bu)) ≤ v2 then (f_X12_done z0 v1).bind fun r2 => some (r2.1, r2.2) else (f_X12_isSeat z0 bu v2).bind fun r3 => (if r3 = 0 then f_X12_sorted_b22 y_w bu n v1 (v2 + (1 : Int32)) z0 else (f_X12_isWindow (v2 &&& (3 : Int32))).bind fun r5 => (if r5 = 0 then (f_X12_beside z0 bu v2).bind fun r7 => (if r7 = (-1 : Int32) then f_X12_sorted_b22 y_w bu n v1 (v2 + (1 : Int32)) z0 else (f_X12_sitter z0 y_w bu v2).bind fun r9 => (f_X12_beside z0 bu v2).bind fun r10 => (f_X12_sitter z0 y_w bu r10).bind fun r11 => (if r9 = (-2 : Int32) then f_X12_sorted_b22 y_w bu n v1 (v2 + (1 : Int32)) z0 else (if r11 = (-2 : Int32) then f_X12_sorted_b22 y_w bu n v1 (v2 + (1 : Int32)) z0 else if kb_in? r9 8 then if kb_in? r11 8 then (if ((bu_off bu) (r11).toNatClampNeg) < ((bu_off bu) (r9).toNatClampNeg) then f_X12_sorted_b122 y_w bu (f_X12_sorted_b22 y_w bu n) v2 (-1 : Int32) v1 z0 else f_X12_sorted_b122 y_w bu (f_X12_sorted_b22 y_w bu n) v2 (1 : Int32) v1 z0) else none else none))) else f_X12_sorted_b22 y_w bu n v1 (v2 + (1 : Int32)) z0)))
noncomputable def f_X12_sorted_b5 (y_w : WT) (bu : BusT) (z0 : MOT) : Option (Int32 × MOT) := f_X12_sorted_b22 y_w bu 4096 (0 : Int32) (0 : Int32) z0
noncomputable def f_X12_sorted (mo : MOT) (y_w : WT) (bu : BusT) : Option (Int32 × MOT) := f_X12_sorted_b5 y_w bu (mo_set_thrown mo (0 : Int32))
set_option maxHeartbeats 4000000 in
set_option maxRecDepth 100000 in
theorem c_X12_sorted (l : Launch) (D : va_G) (dA : Nat → ClassId) (sz : Nat) (a : Nat → Nat) (wa : Nat → Nat) (ba : Nat → Nat) (q1 : Option Nat) (g2 : Nat) (g3 : Nat) (g4 : Nat) (g5 : Nat) (g7 : Nat) (g8 : Nat) (g9 : Nat) (g10 : Nat) (g11 : Nat) (g12 : Nat) (g13 : Nat) (g14 : Nat) (g15 : Nat) (g16 : Nat) (g17 : Nat) (g18 : Nat) (mo : MOT) (y_w : WT) (bu : BusT) (rv : Int32) (u0 : MOT) (hf : f_X12_sorted mo y_w bu = some (rv, u0)) : kb_Mi l yX12_sorted cX12_sorted 5 (some .int) ({ frames := 3, cells := 0, slots := 0, locals := 64 } : Room) D dA [.ref (a 0)] sz (w_MO dA a (some (ba 0)) q1 g2 g3 g4 g5 (wa 0) g7 g8 g9 g10 g11 g12 g13 g14 g15 g16 g17 g18 mo ++ (w_W dA wa y_w ++ (w_Bus dA ba bu))) 0 0 rv (w_MO dA a (some (ba 0)) q1 g2 g3 g4 g5 (wa 0) g7 g8 g9 g10 g11 g12 g13 g14 g15 g16 g17 g18 u0 ++ (w_W dA wa y_w ++ (w_Bus dA ba bu))) := by
  refine Met.ofW (cc := cX12_sorted) (maxL := 5) (ret := (some .int)) (by decide) rfl ?_
  intro p e s m args below meth c s₁ B hml hv
  obtain ⟨rfl, hsz, hP, hK, hD0, hE⟩ := hv
  have hx := B.exec
  have hb := B.bytes
  have hr := B.returns
  have hown : s.vm.findClass RX12 = some m.cls := findClass_of_methodNamed B.named
  have hlocks := B.notSynchronized
  have hts : ∀ w ∈ kb_gw, w.before ([.ref (a 0)] : List Value).toArray s = true := fun w hw => hK.2.1 w hw _
  subst hsz
  have hD := hD0.self (sz := s.heap.size)
  generalize hAe : va_A (w_MO dA a (some (ba 0)) q1 g2 g3 g4 g5 (wa 0) g7 g8 g9 g10 g11 g12 g13 g14 g15 g16 g17 g18 mo ++ (w_W dA wa y_w ++ (w_Bus dA ba bu))) s.heap.size = A at hD hE ⊢
  have hA : ∀ q : Nat, s.heap.size ≤ q → A q := fun q h => by rw [← hAe]; exact Or.inr h
  have hS : va_S A s.heap s.heap [] := va_S.rf
  have hl := lv_entry ([.ref (a 0)]) (n := 5) (Nat.le_of_ble_eq_true rfl)
  rw [lg_entry_eq]
  generalize (lg_sl ([.ref (a 0)]) ++ List.replicate (5 - (lg_sl ([.ref (a 0)])).length) Slot.unset).toArray = ls at hl ⊢
  have hl : lv_has ls 5 [(0, .ref (a 0))] := hl
  generalize hQ : MQ below (va_Qi (fun r (_ : Unit) => r = rv) (kb_B D A (w_MO dA a (some (ba 0)) q1 g2 g3 g4 g5 (wa 0) g7 g8 g9 g10 g11 g12 g13 g14 g15 g16 g17 g18 u0 ++ (w_W dA wa y_w ++ (w_Bus dA ba bu)))) A) ([.ref (a 0)] : List Value).toArray s 0 0 A = Q
  show W p l e ({ frames := 3, cells := 0, slots := 0, locals := 64 } : Room) s m ([.ref (a 0)] : List Value).toArray below meth c s.heap [] 0 0 Q (F0 m 0 ls [])
  have RET : ∀ (r2 : Int32) (w0 : MOT) (H : Heap) (locs : List Loc) (ls : Array Slot) (pc : Nat), some (r2, w0) = some (rv, u0) → va_P D vwCl (w_MO dA a (some (ba 0)) q1 g2 g3 g4 g5 (wa 0) g7 g8 g9 g10 g11 g12 g13 g14 g15 g16 g17 g18 w0 ++ (w_W dA wa y_w ++ (w_Bus dA ba bu))) H → va_D A (w_MO dA a (some (ba 0)) q1 g2 g3 g4 g5 (wa 0) g7 g8 g9 g10 g11 g12 g13 g14 g15 g16 g17 g18 w0 ++ (w_W dA wa y_w ++ (w_Bus dA ba bu))) → va_S A s.heap H locs → decode cX12_sorted pc = .ok (.ireturn, 1) → W p l e ({ frames := 3, cells := 0, slots := 0, locals := 64 } : Room) s m ([.ref (a 0)] : List Value).toArray below meth c H locs 0 0 Q (F0 m pc ls [.int r2]) := by
    intro r2 w0 H locs ls pc hq hP hD hS hd
    cases hq
    rw [← hQ]
    exact W.iret hx hb hr (fun t ht hW => ⟨⟨_, (), rfl, rfl, by rw [ht]; exact hP, hD⟩, hS.F ht⟩) hS.2.2 hd
  have B_122 : ∀ (k22 : Int32 → Int32 → MOT → Option (Int32 × MOT)) (hk22 : ∀ (v1 : Int32) (v2 : Int32) (z0 : MOT) (H : Heap) (locs : List Loc) (ls : Array Slot), k22 v1 v2 z0 = some (rv, u0) → va_P D vwCl (w_MO dA a (some (ba 0)) q1 g2 g3 g4 g5 (wa 0) g7 g8 g9 g10 g11 g12 g13 g14 g15 g16 g17 g18 z0 ++ (w_W dA wa y_w ++ (w_Bus dA ba bu))) H → va_D A (w_MO dA a (some (ba 0)) q1 g2 g3 g4 g5 (wa 0) g7 g8 g9 g10 g11 g12 g13 g14 g15 g16 g17 g18 z0 ++ (w_W dA wa y_w ++ (w_Bus dA ba bu))) → va_S A s.heap H locs → lv_has ls 5 [(0, .ref (a 0)), (1, .int v1), (2, .int v2)] → W p l e ({ frames := 3, cells := 0, slots := 0, locals := 64 } : Room) s m ([.ref (a 0)] : List Value).toArray below meth c H locs 0 0 Q (F0 m 22 ls [])) (v2 : Int32) (s0 : Int32) (s1 : Int32) (z0 : MOT) (H : Heap) (locs : List Loc) (ls : Array Slot), f_X12_sorted_b122 y_w bu k22 v2 s0 s1 z0 = some (rv, u0) → va_P D vwCl (w_MO dA a (some (ba 0)) q1 g2 g3 g4 g5 (wa 0) g7 g8 g9 g10 g11 g12 g13 g14 g15 g16 g17 g18 z0 ++ (w_W dA wa y_w ++ (w_Bus dA ba bu))) H → va_D A (w_MO dA a (some (ba 0)) q1 g2 g3 g4 g5 (wa 0) g7 g8 g9 g10 g11 g12 g13 g14 g15 g16 g17 g18 z0 ++ (w_W dA wa y_w ++ (w_Bus dA ba bu))) → va_S A s.heap H locs → lv_has ls 5 [(0, .ref (a 0)), (2, .int v2)] → W p l e ({ frames := 3, cells := 0, slots := 0, locals := 64 } : Room) s m ([.ref (a 0)] : List Value).toArray below meth c H locs 0 0 Q (F0 m 122 ls [.int s0, .int s1]) := by
    intro k22 hk22 v2 s0 s1 z0 H locs ls hf hP hD hS hl
    rw [f_X12_sorted_b122] at hf
    refine lv_iadd hx hb dX12_sorted_122 ?_
    refine lv_istore_n (lv' := [(1, .int (s1 + s0)), (0, .ref (a 0)), (2, .int v2)]) hx hb dX12_sorted_123 rfl hl (by decide) rfl (fun ls hl => ?_)
    refine lv_iinc (v := (v2 + (1 : Int32))) (lv' := [(2, .int (v2 + (1 : Int32))), (1, .int (s1 + s0)), (0, .ref (a 0))]) hx hb dX12_sorted_124 hl (k := 2) rfl (by rfl) (by decide) rfl (fun ls hl => ?_)
    refine lv_goto (tgt := 22) hx hb dX12_sorted_127 (by decide) ?_
    exact hk22 _ _ _ _ _ _ hf hP hD hS (lv_sub hl [2, 1, 0] rfl)
  have B_22 : ∀ (n : Nat) (v1 : Int32) (v2 : Int32) (z0 : MOT) (H : Heap) (locs : List Loc) (ls : Array Slot), f_X12_sorted_b22 y_w bu n v1 v2 z0 = some (rv, u0) → va_P D vwCl (w_MO dA a (some (ba 0)) q1 g2 g3 g4 g5 (wa 0) g7 g8 g9 g10 g11 g12 g13 g14 g15 g16 g17 g18 z0 ++ (w_W dA wa y_w ++ (w_Bus dA ba bu))) H → va_D A (w_MO dA a (some (ba 0)) q1 g2 g3 g4 g5 (wa 0) g7 g8 g9 g10 g11 g12 g13 g14 g15 g16 g17 g18 z0 ++ (w_W dA wa y_w ++ (w_Bus dA ba bu))) → va_S A s.heap H locs → lv_has ls 5 [(0, .ref (a 0)), (1, .int v1), (2, .int v2)] → W p l e ({ frames := 3, cells := 0, slots := 0, locals := 64 } : Room) s m ([.ref (a 0)] : List Value).toArray below meth c H locs 0 0 Q (F0 m 22 ls []) := by
    intro n
    induction n with
    | zero =>
      intro v1 v2 z0 H locs ls hf
      exact absurd hf (by simp [f_X12_sorted_b22])
    | succ n ih =>
      intro v1 v2 z0 H locs ls hf hP hD hS hl
      rw [f_X12_sorted_b22] at hf
      refine lv_iload_n hx hb dX12_sorted_22 rfl (lv_at hl 2 rfl) ?_
      refine lv_iconst (v := (4 : Int32)) hx hb dX12_sorted_23 (by decide) ?_
      refine lv_aload_n hx hb dX12_sorted_24 rfl (lv_at hl 0 rfl) ?_
      refine va_get (D := D) (ci := 12) (v := .ref (ba 0)) (C := RX12) (T := TX12) (N := 35) hx hb hts kb_inX12 hown hK.1 hP 0 rfl rfl 3 (by decide) (hK.2.w ww_5_203 rfl _) (fun _ h9 => h9) rfl dX12_sorted_25 ?_
      refine va_getN (D := D) (ci := 11) (v := .int (bu_rows bu)) (C := RX11) (T := TX11) (N := 26) hx hb hts kb_inX11 hown hK.1 hP 2 rfl rfl 0 (by decide) (hK.2.nb ww_6_89 rfl rfl _) (fun _ h9 => h9) rfl dX12_sorted_28 ?_
      refine lv_imul hx hb dX12_sorted_31 ?_
      refine lv_icmp_ge (tgt := 130) hx hb dX12_sorted_32 (by decide) (fun c_1 => ?_) (fun c_1 => ?_)
      · rw [if_pos c_1] at hf
        refine lv_aload_n hx hb dX12_sorted_130 rfl (lv_at hl 0 rfl) ?_
        refine lv_iload_n hx hb dX12_sorted_131 rfl (lv_at hl 1 rfl) ?_
        obtain ⟨r2, hc2, hf⟩ := kb_bind hf
        refine kb_ci (ws2 := (w_MO dA a (some (ba 0)) q1 g2 g3 g4 g5 (wa 0) g7 g8 g9 g10 g11 g12 g13 g14 g15 g16 g17 g18 r2.2 ++ (w_W dA wa y_w ++ (w_Bus dA ba bu)))) (kb_rV (n := 1) (As := [.int v1]) (rest := []) hx hb hml hown hK (c_X12_done l D dA H.size a (some (ba 0)) q1 g2 g3 g4 g5 (wa 0) g7 g8 g9 g10 g11 g12 g13 g14 g15 g16 g17 g18 z0 v1 r2.1 r2.2 hc2) ⟨ww_7_100, ww_7_97, ww_7_99, ws_71, ww_1_12, rfl, by decide, by decide⟩ rfl rfl (by decide +kernel) ⟨Nat.le_of_ble_eq_true rfl, Nat.le_of_ble_eq_true rfl⟩ hP hD hS hA hE [0] rfl (by decide) 0 rfl rfl rfl hl.1 rfl (Nat.le_of_ble_eq_true rfl) dX12_sorted_132 ⟨Nat.le_of_ble_eq_true rfl, Nat.le_of_ble_eq_true rfl⟩) hP hD hS hA [0] [1, 2, 3, 4, 5, 6, 7, 8, 9, 10, 11, 12, 13, 14, 15, 16, 17] [17, 0, 1, 2, 3, 4, 5, 6, 7, 8, 9, 10, 11, 12, 13, 14, 15, 16] rfl rfl (by decide) (by decide) rfl (by decide) (fun H locs hP hD hS => ?_)
        exact RET _ _ H _ ls 135 hf hP hD hS dX12_sorted_135
      · rw [if_neg c_1] at hf
        refine lv_aload_n hx hb dX12_sorted_35 rfl (lv_at hl 0 rfl) ?_
        refine lv_iload_n hx hb dX12_sorted_36 rfl (lv_at hl 2 rfl) ?_
        obtain ⟨r3, hc3, hf⟩ := kb_bind hf
        refine kb_ci (ws2 := (w_MO dA a (some (ba 0)) q1 g2 g3 g4 g5 (wa 0) g7 g8 g9 g10 g11 g12 g13 g14 g15 g16 g17 g18 z0 ++ (w_W dA wa y_w ++ (w_Bus dA ba bu)))) (kb_rV (n := 1) (As := [.int v2]) (rest := []) hx hb hml hown hK (c_X12_isSeat l D dA H.size a ba q1 g2 g3 g4 g5 (wa 0) g7 g8 g9 g10 g11 g12 g13 g14 g15 g16 g17 g18 z0 bu v2 r3 hc3) ⟨ww_7_179, ww_7_176, ww_7_178, ws_84, ww_1_12, rfl, by decide, by decide⟩ rfl rfl (by decide +kernel) ⟨Nat.le_of_ble_eq_true rfl, Nat.le_of_ble_eq_true rfl⟩ hP hD hS hA hE [0, 2, 3, 4, 5, 6, 7, 8, 9, 10, 11, 12, 13, 14, 15, 16, 17] rfl (by decide) 0 rfl rfl rfl hl.1 rfl (Nat.le_of_ble_eq_true rfl) dX12_sorted_37 ⟨Nat.le_of_ble_eq_true rfl, Nat.le_of_ble_eq_true rfl⟩) hP hD hS hA [0, 2, 3, 4, 5, 6, 7, 8, 9, 10, 11, 12, 13, 14, 15, 16, 17] [1] [1, 0, 2, 3, 4, 5, 6, 7, 8, 9, 10, 11, 12, 13, 14, 15, 16, 17] rfl rfl (by decide) (by decide) rfl (by decide) (fun H locs hP hD hS => ?_)
        refine lv_if_eq (tgt := 124) hx hb dX12_sorted_40 (by decide) (fun c_4 => ?_) (fun c_4 => ?_)
        · rw [if_pos c_4] at hf
          refine lv_iinc (v := (v2 + (1 : Int32))) (lv' := [(2, .int (v2 + (1 : Int32))), (0, .ref (a 0)), (1, .int v1)]) hx hb dX12_sorted_124 hl (k := 2) rfl (by rfl) (by decide) rfl (fun ls hl => ?_)
          refine lv_goto (tgt := 22) hx hb dX12_sorted_127 (by decide) ?_
          exact ih _ _ _ _ _ _ hf hP hD hS (lv_sub hl [1, 2, 0] rfl)
        · rw [if_neg c_4] at hf
          refine lv_iload_n hx hb dX12_sorted_43 rfl (lv_at hl 2 rfl) ?_
          refine lv_iconst (v := (3 : Int32)) hx hb dX12_sorted_44 (by decide) ?_
          refine lv_iand hx hb dX12_sorted_45 ?_
          obtain ⟨r5, hc5, hf⟩ := kb_bind hf
          refine kb_ci (ws2 := (w_MO dA a (some (ba 0)) q1 g2 g3 g4 g5 (wa 0) g7 g8 g9 g10 g11 g12 g13 g14 g15 g16 g17 g18 z0 ++ (w_W dA wa y_w ++ (w_Bus dA ba bu)))) (kb_rS (n := 1) (As := [.int (v2 &&& (3 : Int32))]) (rest := []) hx hb hml hown hK (c_X12_isWindow l D dA H.size (v2 &&& (3 : Int32)) r5 hc5) ⟨ww_7_151, ww_7_149, ww_7_150, ww_1_12, by decide, by decide⟩ rfl rfl (by decide +kernel) ⟨Nat.le_of_ble_eq_true rfl, Nat.le_of_ble_eq_true rfl⟩ hP hD hS hA hE [] rfl (by decide) rfl hl.1 rfl (Nat.le_of_ble_eq_true rfl) dX12_sorted_46 ⟨Nat.le_of_ble_eq_true rfl, Nat.le_of_ble_eq_true rfl⟩) hP hD hS hA [] [0, 1, 2, 3, 4, 5, 6, 7, 8, 9, 10, 11, 12, 13, 14, 15, 16, 17] [0, 1, 2, 3, 4, 5, 6, 7, 8, 9, 10, 11, 12, 13, 14, 15, 16, 17] rfl rfl (by decide) (by decide) rfl (by decide) (fun H locs hP hD hS => ?_)
          refine lv_if_ne (tgt := 124) hx hb dX12_sorted_49 (by decide) (fun c_6 => ?_) (fun c_6 => ?_)
          · rw [if_neg c_6] at hf
            refine lv_iinc (v := (v2 + (1 : Int32))) (lv' := [(2, .int (v2 + (1 : Int32))), (0, .ref (a 0)), (1, .int v1)]) hx hb dX12_sorted_124 hl (k := 2) rfl (by rfl) (by decide) rfl (fun ls hl => ?_)
            refine lv_goto (tgt := 22) hx hb dX12_sorted_127 (by decide) ?_
            exact ih _ _ _ _ _ _ hf hP hD hS (lv_sub hl [1, 2, 0] rfl)
          · rw [if_pos c_6] at hf
            refine lv_aload_n hx hb dX12_sorted_52 rfl (lv_at hl 0 rfl) ?_
            refine lv_iload_n hx hb dX12_sorted_53 rfl (lv_at hl 2 rfl) ?_
            obtain ⟨r7, hc7, hf⟩ := kb_bind hf
            refine kb_ci (ws2 := (w_MO dA a (some (ba 0)) q1 g2 g3 g4 g5 (wa 0) g7 g8 g9 g10 g11 g12 g13 g14 g15 g16 g17 g18 z0 ++ (w_W dA wa y_w ++ (w_Bus dA ba bu)))) (kb_rV (n := 1) (As := [.int v2]) (rest := []) hx hb hml hown hK (c_X12_beside l D dA H.size a ba q1 g2 g3 g4 g5 (wa 0) g7 g8 g9 g10 g11 g12 g13 g14 g15 g16 g17 g18 z0 bu v2 r7 hc7) ⟨ww_7_139, ww_7_136, ww_7_138, ws_77, ww_1_12, rfl, by decide, by decide⟩ rfl rfl (by decide +kernel) ⟨Nat.le_of_ble_eq_true rfl, Nat.le_of_ble_eq_true rfl⟩ hP hD hS hA hE [0, 2, 3, 4, 5, 6, 7, 8, 9, 10, 11, 12, 13, 14, 15, 16, 17] rfl (by decide) 0 rfl rfl rfl hl.1 rfl (Nat.le_of_ble_eq_true rfl) dX12_sorted_54 ⟨Nat.le_of_ble_eq_true rfl, Nat.le_of_ble_eq_true rfl⟩) hP hD hS hA [0, 2, 3, 4, 5, 6, 7, 8, 9, 10, 11, 12, 13, 14, 15, 16, 17] [1] [1, 0, 2, 3, 4, 5, 6, 7, 8, 9, 10, 11, 12, 13, 14, 15, 16, 17] rfl rfl (by decide) (by decide) rfl (by decide) (fun H locs hP hD hS => ?_)
            refine lv_iconst (v := (-1 : Int32)) hx hb dX12_sorted_57 (by decide) ?_
            refine lv_icmp_ne (tgt := 64) hx hb dX12_sorted_58 (by decide) (fun c_8 => ?_) (fun c_8 => ?_)
            · rw [if_neg c_8] at hf
              refine lv_aload_n hx hb dX12_sorted_64 rfl (lv_at hl 0 rfl) ?_
              refine lv_iload_n hx hb dX12_sorted_65 rfl (lv_at hl 2 rfl) ?_
              obtain ⟨r9, hc9, hf⟩ := kb_bind hf
              refine kb_ci (ws2 := (w_MO dA a (some (ba 0)) q1 g2 g3 g4 g5 (wa 0) g7 g8 g9 g10 g11 g12 g13 g14 g15 g16 g17 g18 z0 ++ (w_W dA wa y_w ++ (w_Bus dA ba bu)))) (kb_rV (n := 1) (As := [.int v2]) (rest := []) hx hb hml hown hK (c_X12_sitter l D dA H.size a wa ba q1 g2 g3 g4 g5 g7 g8 g9 g10 g11 g12 g13 g14 g15 g16 g17 g18 z0 y_w bu v2 r9 hc9) ⟨ww_7_155, ww_7_152, ww_7_154, ws_78, ww_1_12, rfl, by decide, by decide⟩ rfl rfl (by decide +kernel) ⟨Nat.le_of_ble_eq_true rfl, Nat.le_of_ble_eq_true rfl⟩ hP hD hS hA hE [0, 1, 2, 3, 4, 5, 6, 7, 8, 9, 10, 11, 12, 13, 14, 15, 16, 17] rfl (by decide) 0 rfl rfl rfl hl.1 rfl (Nat.le_of_ble_eq_true rfl) dX12_sorted_66 ⟨Nat.le_of_ble_eq_true rfl, Nat.le_of_ble_eq_true rfl⟩) hP hD hS hA [0, 1, 2, 3, 4, 5, 6, 7, 8, 9, 10, 11, 12, 13, 14, 15, 16, 17] [] [0, 1, 2, 3, 4, 5, 6, 7, 8, 9, 10, 11, 12, 13, 14, 15, 16, 17] rfl rfl (by decide) (by decide) rfl (by decide) (fun H locs hP hD hS => ?_)
              refine lv_istore_n (lv' := [(3, .int r9), (0, .ref (a 0)), (1, .int v1), (2, .int v2)]) hx hb dX12_sorted_69 rfl hl (by decide) rfl (fun ls hl => ?_)
              refine lv_aload_n hx hb dX12_sorted_70 rfl (lv_at hl 1 rfl) ?_
              refine lv_aload_n hx hb dX12_sorted_71 rfl (lv_at hl 1 rfl) ?_
              refine lv_iload_n hx hb dX12_sorted_72 rfl (lv_at hl 3 rfl) ?_
              obtain ⟨r10, hc10, hf⟩ := kb_bind hf
              refine kb_ci (ws2 := (w_MO dA a (some (ba 0)) q1 g2 g3 g4 g5 (wa 0) g7 g8 g9 g10 g11 g12 g13 g14 g15 g16 g17 g18 z0 ++ (w_W dA wa y_w ++ (w_Bus dA ba bu)))) (kb_rV (n := 1) (As := [.int v2]) (rest := [.ref (a 0)]) hx hb hml hown hK (c_X12_beside l D dA H.size a ba q1 g2 g3 g4 g5 (wa 0) g7 g8 g9 g10 g11 g12 g13 g14 g15 g16 g17 g18 z0 bu v2 r10 hc10) ⟨ww_7_139, ww_7_136, ww_7_138, ws_77, ww_1_12, rfl, by decide, by decide⟩ rfl rfl (by decide +kernel) ⟨Nat.le_of_ble_eq_true rfl, Nat.le_of_ble_eq_true rfl⟩ hP hD hS hA hE [0, 2, 3, 4, 5, 6, 7, 8, 9, 10, 11, 12, 13, 14, 15, 16, 17] rfl (by decide) 0 rfl rfl rfl hl.1 rfl (Nat.le_of_ble_eq_true rfl) dX12_sorted_73 ⟨Nat.le_of_ble_eq_true rfl, Nat.le_of_ble_eq_true rfl⟩) hP hD hS hA [0, 2, 3, 4, 5, 6, 7, 8, 9, 10, 11, 12, 13, 14, 15, 16, 17] [1] [1, 0, 2, 3, 4, 5, 6, 7, 8, 9, 10, 11, 12, 13, 14, 15, 16, 17] rfl rfl (by decide) (by decide) rfl (by decide) (fun H locs hP hD hS => ?_)
              obtain ⟨r11, hc11, hf⟩ := kb_bind hf
              refine kb_ci (ws2 := (w_MO dA a (some (ba 0)) q1 g2 g3 g4 g5 (wa 0) g7 g8 g9 g10 g11 g12 g13 g14 g15 g16 g17 g18 z0 ++ (w_W dA wa y_w ++ (w_Bus dA ba bu)))) (kb_rV (n := 1) (As := [.int r10]) (rest := []) hx hb hml hown hK (c_X12_sitter l D dA H.size a wa ba q1 g2 g3 g4 g5 g7 g8 g9 g10 g11 g12 g13 g14 g15 g16 g17 g18 z0 y_w bu r10 r11 hc11) ⟨ww_7_155, ww_7_152, ww_7_154, ws_78, ww_1_12, rfl, by decide, by decide⟩ rfl rfl (by decide +kernel) ⟨Nat.le_of_ble_eq_true rfl, Nat.le_of_ble_eq_true rfl⟩ hP hD hS hA hE [0, 1, 2, 3, 4, 5, 6, 7, 8, 9, 10, 11, 12, 13, 14, 15, 16, 17] rfl (by decide) 0 rfl rfl rfl hl.1 rfl (Nat.le_of_ble_eq_true rfl) dX12_sorted_76 ⟨Nat.le_of_ble_eq_true rfl, Nat.le_of_ble_eq_true rfl⟩) hP hD hS hA [0, 1, 2, 3, 4, 5, 6, 7, 8, 9, 10, 11, 12, 13, 14, 15, 16, 17] [] [0, 1, 2, 3, 4, 5, 6, 7, 8, 9, 10, 11, 12, 13, 14, 15, 16, 17] rfl rfl (by decide) (by decide) rfl (by decide) (fun H locs hP hD hS => ?_)
              refine lv_istore (lv' := [(4, .int r11), (3, .int r9), (0, .ref (a 0)), (1, .int v1), (2, .int v2)]) hx hb dX12_sorted_79 hl (by decide) rfl (fun ls hl => ?_)
              refine lv_iload_n hx hb dX12_sorted_81 rfl (lv_at hl 1 rfl) ?_
              refine lv_bipush (v := (-2 : Int32)) hx hb dX12_sorted_82 (by decide) ?_
              refine lv_icmp_eq (tgt := 124) hx hb dX12_sorted_84 (by decide) (fun c_12 => ?_) (fun c_12 => ?_)
              · rw [if_pos c_12] at hf
                refine lv_iinc (v := (v2 + (1 : Int32))) (lv' := [(2, .int (v2 + (1 : Int32))), (4, .int r11), (3, .int r9), (0, .ref (a 0)), (1, .int v1)]) hx hb dX12_sorted_124 hl (k := 4) rfl (by rfl) (by decide) rfl (fun ls hl => ?_)
                refine lv_goto (tgt := 22) hx hb dX12_sorted_127 (by decide) ?_
                exact ih _ _ _ _ _ _ hf hP hD hS (lv_sub hl [3, 4, 0] rfl)
              · rw [if_neg c_12] at hf
                refine lv_iload hx hb dX12_sorted_87 (lv_at hl 0 rfl) ?_
                refine lv_bipush (v := (-2 : Int32)) hx hb dX12_sorted_89 (by decide) ?_
                refine lv_icmp_eq (tgt := 124) hx hb dX12_sorted_91 (by decide) (fun c_13 => ?_) (fun c_13 => ?_)
                · rw [if_pos c_13] at hf
                  refine lv_iinc (v := (v2 + (1 : Int32))) (lv' := [(2, .int (v2 + (1 : Int32))), (4, .int r11), (3, .int r9), (0, .ref (a 0)), (1, .int v1)]) hx hb dX12_sorted_124 hl (k := 4) rfl (by rfl) (by decide) rfl (fun ls hl => ?_)
                  refine lv_goto (tgt := 22) hx hb dX12_sorted_127 (by decide) ?_
                  exact ih _ _ _ _ _ _ hf hP hD hS (lv_sub hl [3, 4, 0] rfl)
                · rw [if_neg c_13] at hf
                  refine lv_iload_n hx hb dX12_sorted_94 rfl (lv_at hl 3 rfl) ?_
                  refine lv_aload_n hx hb dX12_sorted_95 rfl (lv_at hl 2 rfl) ?_
                  refine va_get (D := D) (ci := 12) (v := .ref (ba 0)) (C := RX12) (T := TX12) (N := 35) hx hb hts kb_inX12 hown hK.1 hP 0 rfl rfl 3 (by decide) (hK.2.w ww_5_203 rfl _) (fun _ h9 => h9) rfl dX12_sorted_96 ?_
                  refine va_getN (D := D) (ci := 11) (v := .ref (ba 4)) (C := RX11) (T := TX11) (N := 26) hx hb hts kb_inX11 hown hK.1 hP 2 rfl rfl 14 (by decide) (hK.2.nb ww_6_109 rfl rfl _) (fun _ h9 => h9) rfl dX12_sorted_99 ?_
                  refine lv_iload_n hx hb dX12_sorted_102 rfl (lv_at hl 1 rfl) ?_
                  obtain ⟨h_14, hf⟩ := kb_if hf
                  refine va_iald (D := D) hx hb hK.1 hP 6 0 rfl rfl h_14 dX12_sorted_103 ?_
                  refine lv_aload_n hx hb dX12_sorted_104 rfl (lv_at hl 2 rfl) ?_
                  refine va_get (D := D) (ci := 12) (v := .ref (ba 0)) (C := RX12) (T := TX12) (N := 35) hx hb hts kb_inX12 hown hK.1 hP 0 rfl rfl 3 (by decide) (hK.2.w ww_5_203 rfl _) (fun _ h9 => h9) rfl dX12_sorted_105 ?_
                  refine va_getN (D := D) (ci := 11) (v := .ref (ba 4)) (C := RX11) (T := TX11) (N := 26) hx hb hts kb_inX11 hown hK.1 hP 2 rfl rfl 14 (by decide) (hK.2.nb ww_6_109 rfl rfl _) (fun _ h9 => h9) rfl dX12_sorted_108 ?_
                  refine lv_iload hx hb dX12_sorted_111 (lv_at hl 0 rfl) ?_
                  obtain ⟨h_15, hf⟩ := kb_if hf
                  refine va_iald (D := D) hx hb hK.1 hP 6 0 rfl rfl h_15 dX12_sorted_113 ?_
                  refine lv_icmp_gt (tgt := 121) hx hb dX12_sorted_114 (by decide) (fun c_16 => ?_) (fun c_16 => ?_)
                  · rw [if_pos c_16] at hf
                    refine lv_iconst (v := (-1 : Int32)) hx hb dX12_sorted_121 (by decide) ?_
                    exact B_122 (f_X12_sorted_b22 y_w bu n) ih _ _ _ _ _ _ _ hf hP hD hS (lv_sub hl [2, 4] rfl)
                  · rw [if_neg c_16] at hf
                    refine lv_iconst (v := (1 : Int32)) hx hb dX12_sorted_117 (by decide) ?_
                    refine lv_goto (tgt := 122) hx hb dX12_sorted_118 (by decide) ?_
                    exact B_122 (f_X12_sorted_b22 y_w bu n) ih _ _ _ _ _ _ _ hf hP hD hS (lv_sub hl [2, 4] rfl)
            · rw [if_pos c_8] at hf
              refine lv_goto (tgt := 124) hx hb dX12_sorted_61 (by decide) ?_
              refine lv_iinc (v := (v2 + (1 : Int32))) (lv' := [(2, .int (v2 + (1 : Int32))), (0, .ref (a 0)), (1, .int v1)]) hx hb dX12_sorted_124 hl (k := 2) rfl (by rfl) (by decide) rfl (fun ls hl => ?_)
              refine lv_goto (tgt := 22) hx hb dX12_sorted_127 (by decide) ?_
              exact ih _ _ _ _ _ _ hf hP hD hS (lv_sub hl [1, 2, 0] rfl)
  have B_5 : ∀ (z0 : MOT) (H : Heap) (locs : List Loc) (ls : Array Slot), f_X12_sorted_b5 y_w bu z0 = some (rv, u0) → va_P D vwCl (w_MO dA a (some (ba 0)) q1 g2 g3 g4 g5 (wa 0) g7 g8 g9 g10 g11 g12 g13 g14 g15 g16 g17 g18 z0 ++ (w_W dA wa y_w ++ (w_Bus dA ba bu))) H → va_D A (w_MO dA a (some (ba 0)) q1 g2 g3 g4 g5 (wa 0) g7 g8 g9 g10 g11 g12 g13 g14 g15 g16 g17 g18 z0 ++ (w_W dA wa y_w ++ (w_Bus dA ba bu))) → va_S A s.heap H locs → lv_has ls 5 [(0, .ref (a 0))] → W p l e ({ frames := 3, cells := 0, slots := 0, locals := 64 } : Room) s m ([.ref (a 0)] : List Value).toArray below meth c H locs 0 0 Q (F0 m 5 ls []) := by
    intro z0 H locs ls hf hP hD hS hl
    rw [f_X12_sorted_b5] at hf
    refine lv_aload_n hx hb dX12_sorted_5 rfl (lv_at hl 0 rfl) ?_
    refine va_get (D := D) (ci := 12) (v := .ref (ba 0)) (C := RX12) (T := TX12) (N := 35) hx hb hts kb_inX12 hown hK.1 hP 0 rfl rfl 3 (by decide) (hK.2.w ww_5_203 rfl _) (fun _ h9 => h9) rfl dX12_sorted_6 ?_
    refine lv_ifnonnull (tgt := 18) hx hb dX12_sorted_9 (by decide) ?_
    refine lv_iconst (v := (0 : Int32)) hx hb dX12_sorted_18 (by decide) ?_
    refine lv_istore_n (lv' := [(1, .int (0 : Int32)), (0, .ref (a 0))]) hx hb dX12_sorted_19 rfl hl (by decide) rfl (fun ls hl => ?_)
    refine lv_iconst (v := (0 : Int32)) hx hb dX12_sorted_20 (by decide) ?_
    refine lv_istore_n (lv' := [(2, .int (0 : Int32)), (1, .int (0 : Int32)), (0, .ref (a 0))]) hx hb dX12_sorted_21 rfl hl (by decide) rfl (fun ls hl => ?_)
    exact B_22 4096 _ _ _ _ _ _ hf hP hD hS (lv_sub hl [2, 1, 0] rfl)
  have E0 : ∀ (H : Heap) (locs : List Loc), va_P D vwCl (w_MO dA a (some (ba 0)) q1 g2 g3 g4 g5 (wa 0) g7 g8 g9 g10 g11 g12 g13 g14 g15 g16 g17 g18 mo ++ (w_W dA wa y_w ++ (w_Bus dA ba bu))) H → va_D A (w_MO dA a (some (ba 0)) q1 g2 g3 g4 g5 (wa 0) g7 g8 g9 g10 g11 g12 g13 g14 g15 g16 g17 g18 mo ++ (w_W dA wa y_w ++ (w_Bus dA ba bu))) → va_S A s.heap H locs → W p l e ({ frames := 3, cells := 0, slots := 0, locals := 64 } : Room) s m ([.ref (a 0)] : List Value).toArray below meth c H locs 0 0 Q (F0 m 0 ls []) := by
    intro H locs hP hD hS
    rw [f_X12_sorted] at hf
    refine lv_aload_n hx hb dX12_sorted_0 rfl (lv_at hl 0 rfl) ?_
    refine lv_iconst (v := (0 : Int32)) hx hb dX12_sorted_1 (by decide) ?_
    refine va_put (D := D) (ci := 12) (v := .int (0 : Int32)) (ty := .int) (C := RX12) (T := TX12) (N := 35) hx hb hts kb_inX12 tyX12 tyX12_ok nmX12 hown hK.1 hP hD hS 0 rfl rfl 0 (by decide) (hK.2.w ww_5_200 rfl _) (fun _ h9 => h9) rfl (by decide +kernel) rfl rfl (Nat.le_of_ble_eq_true rfl) dX12_sorted_2 (fun H locs hP hD hS => ?_)
    have hP : va_P D vwCl (w_MO dA a (some (ba 0)) q1 g2 g3 g4 g5 (wa 0) g7 g8 g9 g10 g11 g12 g13 g14 g15 g16 g17 g18 (mo_set_thrown mo (0 : Int32)) ++ (w_W dA wa y_w ++ (w_Bus dA ba bu))) H := hP
    have hD : va_D A (w_MO dA a (some (ba 0)) q1 g2 g3 g4 g5 (wa 0) g7 g8 g9 g10 g11 g12 g13 g14 g15 g16 g17 g18 (mo_set_thrown mo (0 : Int32)) ++ (w_W dA wa y_w ++ (w_Bus dA ba bu))) := hD
    exact B_5 _ _ _ _ hf hP hD hS (lv_sub hl [0] rfl)
  exact E0 _ _ hP hD hS

noncomputable def f_X12_mark_b76 (y_w : WT) (z0 : MOT) (z2 : KeptT) : Option (Int32 × MOT × KeptT) := (f_X12_done z0 ((mo_marks z0) - (1 : Int32))).bind fun r3 => some (r3.1, r3.2, z2)
noncomputable def f_X12_mark_b60 (y_w : WT) (k34 : Int32 → MOT → KeptT → Option (Int32 × MOT × KeptT)) (v1 : Int32) (z0 : MOT) (z2 : KeptT) : Option (Int32 × MOT × KeptT) := k34 (v1 + (1 : Int32)) z0 z2
noncomputable def f_X12_mark_b34 (y_w : WT) : Nat → Int32 → MOT → KeptT → Option (Int32 × MOT × KeptT)
  | 0, _, _, _ => none
  | n + 1, v1, z0, z2 => (if (56 : Int32) ≤ v1 then f_X12_mark_b76 y_w (mo_set_marks z0 ((mo_marks z0) + (1 : Int32))) z2 else if kb_in? v1 56 then if kb_in? (((56 : Int32) * (mo_marks z0)) + v1) 224 then f_X12_mark_b60 y_w (f_X12_mark_b34 y_w n) v1 z0 (yKept_set_r z2 (upd (yKept_r z2) ((((56 : Int32) * (mo_marks z0)) + v1)).toNatClampNeg ((yW_r y_w) (v1).toNatClampNeg))) else none else none)
noncomputable def f_X12_mark_b5 (y_w : WT) (z0 : MOT) (z2 : KeptT) : Option (Int32 × MOT × KeptT) := (if (mo_marks z0) = (4 : Int32) then (f_X12_refused z0 (3 : Int32)).bind fun r6 => some (r6.1, r6.2, z2) else f_X12_mark_b34 y_w 4096 (0 : Int32) z0 z2)
noncomputable def f_X12_mark (mo : MOT) (y_w : WT) (y_kept : KeptT) : Option (Int32 × MOT × KeptT) := f_X12_mark_b5 y_w (mo_set_thrown mo (0 : Int32)) y_kept
set_option maxHeartbeats 4000000 in
set_option maxRecDepth 100000 in
theorem c_X12_mark (l : Launch) (D : va_G) (dA : Nat → ClassId) (sz : Nat) (a : Nat → Nat) (wa : Nat → Nat) (ka : Nat → Nat) (g0 : Nat) (q1 : Option Nat) (g2 : Nat) (g3 : Nat) (g4 : Nat) (g7 : Nat) (g8 : Nat) (g9 : Nat) (g10 : Nat) (g11 : Nat) (g12 : Nat) (g13 : Nat) (g14 : Nat) (g15 : Nat) (g16 : Nat) (g17 : Nat) (g18 : Nat) (mo : MOT) (y_w : WT) (y_kept : KeptT) (rv : Int32) (u0 : MOT) (u2 : KeptT) (hf : f_X12_mark mo y_w y_kept = some (rv, u0, u2)) : kb_Mi l yX12_mark cX12_mark 2 (some .int) ({ frames := 1, cells := 0, slots := 0, locals := 21 } : Room) D dA [.ref (a 0)] sz (w_MO dA a (some g0) q1 g2 g3 g4 (ka 0) (wa 0) g7 g8 g9 g10 g11 g12 g13 g14 g15 g16 g17 g18 mo ++ (w_W dA wa y_w ++ (w_Kept dA ka y_kept))) 0 0 rv (w_MO dA a (some g0) q1 g2 g3 g4 (ka 0) (wa 0) g7 g8 g9 g10 g11 g12 g13 g14 g15 g16 g17 g18 u0 ++ (w_W dA wa y_w ++ (w_Kept dA ka u2))) := by
  refine Met.ofW (cc := cX12_mark) (maxL := 2) (ret := (some .int)) (by decide) rfl ?_
  intro p e s m args below meth c s₁ B hml hv
  obtain ⟨rfl, hsz, hP, hK, hD0, hE⟩ := hv
  have hx := B.exec
  have hb := B.bytes
  have hr := B.returns
  have hown : s.vm.findClass RX12 = some m.cls := findClass_of_methodNamed B.named
  have hlocks := B.notSynchronized
  have hts : ∀ w ∈ kb_gw, w.before ([.ref (a 0)] : List Value).toArray s = true := fun w hw => hK.2.1 w hw _
  subst hsz
  have hD := hD0.self (sz := s.heap.size)
  generalize hAe : va_A (w_MO dA a (some g0) q1 g2 g3 g4 (ka 0) (wa 0) g7 g8 g9 g10 g11 g12 g13 g14 g15 g16 g17 g18 mo ++ (w_W dA wa y_w ++ (w_Kept dA ka y_kept))) s.heap.size = A at hD hE ⊢
  have hA : ∀ q : Nat, s.heap.size ≤ q → A q := fun q h => by rw [← hAe]; exact Or.inr h
  have hS : va_S A s.heap s.heap [] := va_S.rf
  have hl := lv_entry ([.ref (a 0)]) (n := 2) (Nat.le_of_ble_eq_true rfl)
  rw [lg_entry_eq]
  generalize (lg_sl ([.ref (a 0)]) ++ List.replicate (2 - (lg_sl ([.ref (a 0)])).length) Slot.unset).toArray = ls at hl ⊢
  have hl : lv_has ls 2 [(0, .ref (a 0))] := hl
  generalize hQ : MQ below (va_Qi (fun r (_ : Unit) => r = rv) (kb_B D A (w_MO dA a (some g0) q1 g2 g3 g4 (ka 0) (wa 0) g7 g8 g9 g10 g11 g12 g13 g14 g15 g16 g17 g18 u0 ++ (w_W dA wa y_w ++ (w_Kept dA ka u2)))) A) ([.ref (a 0)] : List Value).toArray s 0 0 A = Q
  show W p l e ({ frames := 1, cells := 0, slots := 0, locals := 21 } : Room) s m ([.ref (a 0)] : List Value).toArray below meth c s.heap [] 0 0 Q (F0 m 0 ls [])
  have RET : ∀ (r2 : Int32) (w0 : MOT) (w2 : KeptT) (H : Heap) (locs : List Loc) (ls : Array Slot) (pc : Nat), some (r2, w0, w2) = some (rv, u0, u2) → va_P D vwCl (w_MO dA a (some g0) q1 g2 g3 g4 (ka 0) (wa 0) g7 g8 g9 g10 g11 g12 g13 g14 g15 g16 g17 g18 w0 ++ (w_W dA wa y_w ++ (w_Kept dA ka w2))) H → va_D A (w_MO dA a (some g0) q1 g2 g3 g4 (ka 0) (wa 0) g7 g8 g9 g10 g11 g12 g13 g14 g15 g16 g17 g18 w0 ++ (w_W dA wa y_w ++ (w_Kept dA ka w2))) → va_S A s.heap H locs → decode cX12_mark pc = .ok (.ireturn, 1) → W p l e ({ frames := 1, cells := 0, slots := 0, locals := 21 } : Room) s m ([.ref (a 0)] : List Value).toArray below meth c H locs 0 0 Q (F0 m pc ls [.int r2]) := by
    intro r2 w0 w2 H locs ls pc hq hP hD hS hd
    cases hq
    rw [← hQ]
    exact W.iret hx hb hr (fun t ht hW => ⟨⟨_, (), rfl, rfl, by rw [ht]; exact hP, hD⟩, hS.F ht⟩) hS.2.2 hd
  have B_76 : ∀ (z0 : MOT) (z2 : KeptT) (H : Heap) (locs : List Loc) (ls : Array Slot), f_X12_mark_b76 y_w z0 z2 = some (rv, u0, u2) → va_P D vwCl (w_MO dA a (some g0) q1 g2 g3 g4 (ka 0) (wa 0) g7 g8 g9 g10 g11 g12 g13 g14 g15 g16 g17 g18 z0 ++ (w_W dA wa y_w ++ (w_Kept dA ka z2))) H → va_D A (w_MO dA a (some g0) q1 g2 g3 g4 (ka 0) (wa 0) g7 g8 g9 g10 g11 g12 g13 g14 g15 g16 g17 g18 z0 ++ (w_W dA wa y_w ++ (w_Kept dA ka z2))) → va_S A s.heap H locs → lv_has ls 2 [(0, .ref (a 0))] → W p l e ({ frames := 1, cells := 0, slots := 0, locals := 21 } : Room) s m ([.ref (a 0)] : List Value).toArray below meth c H locs 0 0 Q (F0 m 76 ls []) := by
    intro z0 z2 H locs ls hf hP hD hS hl
    rw [f_X12_mark_b76] at hf
    refine lv_aload_n hx hb dX12_mark_76 rfl (lv_at hl 0 rfl) ?_
    refine lv_aload_n hx hb dX12_mark_77 rfl (lv_at hl 0 rfl) ?_
    refine va_get (D := D) (ci := 12) (v := .int (mo_marks z0)) (C := RX12) (T := TX12) (N := 35) hx hb hts kb_inX12 hown hK.1 hP 0 rfl rfl 21 (by decide) (hK.2.w ww_5_221 rfl _) (fun _ h9 => h9) rfl dX12_mark_78 ?_
    refine lv_iconst (v := (1 : Int32)) hx hb dX12_mark_81 (by decide) ?_
    refine lv_isub hx hb dX12_mark_82 ?_
    obtain ⟨r3, hc3, hf⟩ := kb_bind hf
    refine kb_ci (ws2 := (w_MO dA a (some g0) q1 g2 g3 g4 (ka 0) (wa 0) g7 g8 g9 g10 g11 g12 g13 g14 g15 g16 g17 g18 r3.2 ++ (w_W dA wa y_w ++ (w_Kept dA ka z2)))) (kb_rV (n := 1) (As := [.int ((mo_marks z0) - (1 : Int32))]) (rest := []) hx hb hml hown hK (c_X12_done l D dA H.size a (some g0) q1 g2 g3 g4 (ka 0) (wa 0) g7 g8 g9 g10 g11 g12 g13 g14 g15 g16 g17 g18 z0 ((mo_marks z0) - (1 : Int32)) r3.1 r3.2 hc3) ⟨ww_7_100, ww_7_97, ww_7_99, ws_71, ww_1_12, rfl, by decide, by decide⟩ rfl rfl (by decide +kernel) ⟨Nat.le_of_ble_eq_true rfl, Nat.le_of_ble_eq_true rfl⟩ hP hD hS hA hE [0] rfl (by decide) 0 rfl rfl rfl hl.1 rfl (Nat.le_of_ble_eq_true rfl) dX12_mark_83 ⟨Nat.le_of_ble_eq_true rfl, Nat.le_of_ble_eq_true rfl⟩) hP hD hS hA [0] [1, 2] [2, 0, 1] rfl rfl (by decide) (by decide) rfl (by decide) (fun H locs hP hD hS => ?_)
    exact RET _ _ _ H _ ls 86 hf hP hD hS dX12_mark_86
  have B_60 : ∀ (k34 : Int32 → MOT → KeptT → Option (Int32 × MOT × KeptT)) (hk34 : ∀ (v1 : Int32) (z0 : MOT) (z2 : KeptT) (H : Heap) (locs : List Loc) (ls : Array Slot), k34 v1 z0 z2 = some (rv, u0, u2) → va_P D vwCl (w_MO dA a (some g0) q1 g2 g3 g4 (ka 0) (wa 0) g7 g8 g9 g10 g11 g12 g13 g14 g15 g16 g17 g18 z0 ++ (w_W dA wa y_w ++ (w_Kept dA ka z2))) H → va_D A (w_MO dA a (some g0) q1 g2 g3 g4 (ka 0) (wa 0) g7 g8 g9 g10 g11 g12 g13 g14 g15 g16 g17 g18 z0 ++ (w_W dA wa y_w ++ (w_Kept dA ka z2))) → va_S A s.heap H locs → lv_has ls 2 [(0, .ref (a 0)), (1, .int v1)] → W p l e ({ frames := 1, cells := 0, slots := 0, locals := 21 } : Room) s m ([.ref (a 0)] : List Value).toArray below meth c H locs 0 0 Q (F0 m 34 ls [])) (v1 : Int32) (z0 : MOT) (z2 : KeptT) (H : Heap) (locs : List Loc) (ls : Array Slot), f_X12_mark_b60 y_w k34 v1 z0 z2 = some (rv, u0, u2) → va_P D vwCl (w_MO dA a (some g0) q1 g2 g3 g4 (ka 0) (wa 0) g7 g8 g9 g10 g11 g12 g13 g14 g15 g16 g17 g18 z0 ++ (w_W dA wa y_w ++ (w_Kept dA ka z2))) H → va_D A (w_MO dA a (some g0) q1 g2 g3 g4 (ka 0) (wa 0) g7 g8 g9 g10 g11 g12 g13 g14 g15 g16 g17 g18 z0 ++ (w_W dA wa y_w ++ (w_Kept dA ka z2))) → va_S A s.heap H locs → lv_has ls 2 [(0, .ref (a 0)), (1, .int v1)] → W p l e ({ frames := 1, cells := 0, slots := 0, locals := 21 } : Room) s m ([.ref (a 0)] : List Value).toArray below meth c H locs 0 0 Q (F0 m 60 ls []) := by
    intro k34 hk34 v1 z0 z2 H locs ls hf hP hD hS hl
    rw [f_X12_mark_b60] at hf
    refine lv_iinc (v := (v1 + (1 : Int32))) (lv' := [(1, .int (v1 + (1 : Int32))), (0, .ref (a 0))]) hx hb dX12_mark_60 hl (k := 1) rfl (by rfl) (by decide) rfl (fun ls hl => ?_)
    refine lv_goto (tgt := 34) hx hb dX12_mark_63 (by decide) ?_
    exact hk34 _ _ _ _ _ _ hf hP hD hS (lv_sub hl [1, 0] rfl)
  have B_34 : ∀ (n : Nat) (v1 : Int32) (z0 : MOT) (z2 : KeptT) (H : Heap) (locs : List Loc) (ls : Array Slot), f_X12_mark_b34 y_w n v1 z0 z2 = some (rv, u0, u2) → va_P D vwCl (w_MO dA a (some g0) q1 g2 g3 g4 (ka 0) (wa 0) g7 g8 g9 g10 g11 g12 g13 g14 g15 g16 g17 g18 z0 ++ (w_W dA wa y_w ++ (w_Kept dA ka z2))) H → va_D A (w_MO dA a (some g0) q1 g2 g3 g4 (ka 0) (wa 0) g7 g8 g9 g10 g11 g12 g13 g14 g15 g16 g17 g18 z0 ++ (w_W dA wa y_w ++ (w_Kept dA ka z2))) → va_S A s.heap H locs → lv_has ls 2 [(0, .ref (a 0)), (1, .int v1)] → W p l e ({ frames := 1, cells := 0, slots := 0, locals := 21 } : Room) s m ([.ref (a 0)] : List Value).toArray below meth c H locs 0 0 Q (F0 m 34 ls []) := by
    intro n
    induction n with
    | zero =>
      intro v1 z0 z2 H locs ls hf
      exact absurd hf (by simp [f_X12_mark_b34])
    | succ n ih =>
      intro v1 z0 z2 H locs ls hf hP hD hS hl
      rw [f_X12_mark_b34] at hf
      refine lv_iload_n hx hb dX12_mark_34 rfl (lv_at hl 1 rfl) ?_
      refine lv_bipush (v := (56 : Int32)) hx hb dX12_mark_35 (by decide) ?_
      refine lv_icmp_ge (tgt := 66) hx hb dX12_mark_37 (by decide) (fun c_2 => ?_) (fun c_2 => ?_)
      · rw [if_pos c_2] at hf
        refine lv_aload_n hx hb dX12_mark_66 rfl (lv_at hl 0 rfl) ?_
        refine lv_dup hx hb dX12_mark_67 rfl ?_
        refine va_get (D := D) (ci := 12) (v := .int (mo_marks z0)) (C := RX12) (T := TX12) (N := 35) hx hb hts kb_inX12 hown hK.1 hP 0 rfl rfl 21 (by decide) (hK.2.w ww_5_221 rfl _) (fun _ h9 => h9) rfl dX12_mark_68 ?_
        refine lv_iconst (v := (1 : Int32)) hx hb dX12_mark_71 (by decide) ?_
        refine lv_iadd hx hb dX12_mark_72 ?_
        refine va_put (D := D) (ci := 12) (v := .int ((mo_marks z0) + (1 : Int32))) (ty := .int) (C := RX12) (T := TX12) (N := 35) hx hb hts kb_inX12 tyX12 tyX12_ok nmX12 hown hK.1 hP hD hS 0 rfl rfl 21 (by decide) (hK.2.w ww_5_221 rfl _) (fun _ h9 => h9) rfl (by decide +kernel) rfl rfl (Nat.le_of_ble_eq_true rfl) dX12_mark_73 (fun H locs hP hD hS => ?_)
        have hP : va_P D vwCl (w_MO dA a (some g0) q1 g2 g3 g4 (ka 0) (wa 0) g7 g8 g9 g10 g11 g12 g13 g14 g15 g16 g17 g18 (mo_set_marks z0 ((mo_marks z0) + (1 : Int32))) ++ (w_W dA wa y_w ++ (w_Kept dA ka z2))) H := hP
        have hD : va_D A (w_MO dA a (some g0) q1 g2 g3 g4 (ka 0) (wa 0) g7 g8 g9 g10 g11 g12 g13 g14 g15 g16 g17 g18 (mo_set_marks z0 ((mo_marks z0) + (1 : Int32))) ++ (w_W dA wa y_w ++ (w_Kept dA ka z2))) := hD
        exact B_76 _ _ _ _ _ hf hP hD hS (lv_sub hl [0] rfl)
      · rw [if_neg c_2] at hf
        refine lv_aload_n hx hb dX12_mark_40 rfl (lv_at hl 0 rfl) ?_
        refine va_get (D := D) (ci := 12) (v := .ref (ka 0)) (C := RX12) (T := TX12) (N := 35) hx hb hts kb_inX12 hown hK.1 hP 0 rfl rfl 18 (by decide) (hK.2.w ww_5_218 rfl _) (fun _ h9 => h9) rfl dX12_mark_41 ?_
        refine lv_bipush (v := (56 : Int32)) hx hb dX12_mark_44 (by decide) ?_
        refine lv_aload_n hx hb dX12_mark_46 rfl (lv_at hl 0 rfl) ?_
        refine va_get (D := D) (ci := 12) (v := .int (mo_marks z0)) (C := RX12) (T := TX12) (N := 35) hx hb hts kb_inX12 hown hK.1 hP 0 rfl rfl 21 (by decide) (hK.2.w ww_5_221 rfl _) (fun _ h9 => h9) rfl dX12_mark_47 ?_
        refine lv_imul hx hb dX12_mark_50 ?_
        refine lv_iload_n hx hb dX12_mark_51 rfl (lv_at hl 1 rfl) ?_
        refine lv_iadd hx hb dX12_mark_52 ?_
        refine lv_aload_n hx hb dX12_mark_53 rfl (lv_at hl 0 rfl) ?_
        refine va_get (D := D) (ci := 12) (v := .ref (wa 0)) (C := RX12) (T := TX12) (N := 35) hx hb hts kb_inX12 hown hK.1 hP 0 rfl rfl 19 (by decide) (hK.2.w ww_5_219 rfl _) (fun _ h9 => h9) rfl dX12_mark_54 ?_
        refine lv_iload_n hx hb dX12_mark_57 rfl (lv_at hl 1 rfl) ?_
        obtain ⟨h_4, hf⟩ := kb_if hf
        refine va_iald (D := D) hx hb hK.1 hP 1 0 rfl rfl h_4 dX12_mark_58 ?_
        obtain ⟨h_5, hf⟩ := kb_if hf
        refine va_iast (D := D) hx hb hK.1 hP hD hS 2 0 rfl rfl h_5 dX12_mark_59 (fun H locs hP hD hS => ?_)
        have hP : va_P D vwCl (w_MO dA a (some g0) q1 g2 g3 g4 (ka 0) (wa 0) g7 g8 g9 g10 g11 g12 g13 g14 g15 g16 g17 g18 z0 ++ (w_W dA wa y_w ++ (w_Kept dA ka (yKept_set_r z2 (upd (yKept_r z2) ((((56 : Int32) * (mo_marks z0)) + v1)).toNatClampNeg ((yW_r y_w) (v1).toNatClampNeg)))))) H := hP
        have hD : va_D A (w_MO dA a (some g0) q1 g2 g3 g4 (ka 0) (wa 0) g7 g8 g9 g10 g11 g12 g13 g14 g15 g16 g17 g18 z0 ++ (w_W dA wa y_w ++ (w_Kept dA ka (yKept_set_r z2 (upd (yKept_r z2) ((((56 : Int32) * (mo_marks z0)) + v1)).toNatClampNeg ((yW_r y_w) (v1).toNatClampNeg)))))) := hD
        exact B_60 (f_X12_mark_b34 y_w n) ih _ _ _ _ _ _ hf hP hD hS (lv_sub hl [0, 1] rfl)
  have B_5 : ∀ (z0 : MOT) (z2 : KeptT) (H : Heap) (locs : List Loc) (ls : Array Slot), f_X12_mark_b5 y_w z0 z2 = some (rv, u0, u2) → va_P D vwCl (w_MO dA a (some g0) q1 g2 g3 g4 (ka 0) (wa 0) g7 g8 g9 g10 g11 g12 g13 g14 g15 g16 g17 g18 z0 ++ (w_W dA wa y_w ++ (w_Kept dA ka z2))) H → va_D A (w_MO dA a (some g0) q1 g2 g3 g4 (ka 0) (wa 0) g7 g8 g9 g10 g11 g12 g13 g14 g15 g16 g17 g18 z0 ++ (w_W dA wa y_w ++ (w_Kept dA ka z2))) → va_S A s.heap H locs → lv_has ls 2 [(0, .ref (a 0))] → W p l e ({ frames := 1, cells := 0, slots := 0, locals := 21 } : Room) s m ([.ref (a 0)] : List Value).toArray below meth c H locs 0 0 Q (F0 m 5 ls []) := by
    intro z0 z2 H locs ls hf hP hD hS hl
    rw [f_X12_mark_b5] at hf
    refine lv_aload_n hx hb dX12_mark_5 rfl (lv_at hl 0 rfl) ?_
    refine va_get (D := D) (ci := 12) (v := .ref g0) (C := RX12) (T := TX12) (N := 35) hx hb hts kb_inX12 hown hK.1 hP 0 rfl rfl 3 (by decide) (hK.2.w ww_5_203 rfl _) (fun _ h9 => h9) rfl dX12_mark_6 ?_
    refine lv_ifnonnull (tgt := 18) hx hb dX12_mark_9 (by decide) ?_
    refine lv_aload_n hx hb dX12_mark_18 rfl (lv_at hl 0 rfl) ?_
    refine va_get (D := D) (ci := 12) (v := .int (mo_marks z0)) (C := RX12) (T := TX12) (N := 35) hx hb hts kb_inX12 hown hK.1 hP 0 rfl rfl 21 (by decide) (hK.2.w ww_5_221 rfl _) (fun _ h9 => h9) rfl dX12_mark_19 ?_
    refine lv_iconst (v := (4 : Int32)) hx hb dX12_mark_22 (by decide) ?_
    refine lv_icmp_ne (tgt := 32) hx hb dX12_mark_23 (by decide) (fun c_1 => ?_) (fun c_1 => ?_)
    · rw [if_neg c_1] at hf
      refine lv_iconst (v := (0 : Int32)) hx hb dX12_mark_32 (by decide) ?_
      refine lv_istore_n (lv' := [(1, .int (0 : Int32)), (0, .ref (a 0))]) hx hb dX12_mark_33 rfl hl (by decide) rfl (fun ls hl => ?_)
      exact B_34 4096 _ _ _ _ _ _ hf hP hD hS (lv_sub hl [1, 0] rfl)
    · rw [if_pos c_1] at hf
      refine lv_aload_n hx hb dX12_mark_26 rfl (lv_at hl 0 rfl) ?_
      refine lv_iconst (v := (3 : Int32)) hx hb dX12_mark_27 (by decide) ?_
      obtain ⟨r6, hc6, hf⟩ := kb_bind hf
      refine kb_ci (ws2 := (w_MO dA a (some g0) q1 g2 g3 g4 (ka 0) (wa 0) g7 g8 g9 g10 g11 g12 g13 g14 g15 g16 g17 g18 r6.2 ++ (w_W dA wa y_w ++ (w_Kept dA ka z2)))) (kb_rV (n := 1) (As := [.int (3 : Int32)]) (rest := []) hx hb hml hown hK (c_X12_refused l D dA H.size a (some g0) q1 g2 g3 g4 (ka 0) (wa 0) g7 g8 g9 g10 g11 g12 g13 g14 g15 g16 g17 g18 z0 (3 : Int32) r6.1 r6.2 hc6) ⟨ww_6_82, ww_6_79, ww_6_81, ws_46, ww_1_12, rfl, by decide, by decide⟩ rfl rfl (by decide +kernel) ⟨Nat.le_of_ble_eq_true rfl, Nat.le_of_ble_eq_true rfl⟩ hP hD hS hA hE [0] rfl (by decide) 0 rfl rfl rfl hl.1 rfl (Nat.le_of_ble_eq_true rfl) dX12_mark_28 ⟨Nat.le_of_ble_eq_true rfl, Nat.le_of_ble_eq_true rfl⟩) hP hD hS hA [0] [1, 2] [2, 0, 1] rfl rfl (by decide) (by decide) rfl (by decide) (fun H locs hP hD hS => ?_)
      exact RET _ _ _ H _ ls 31 hf hP hD hS dX12_mark_31
  have E0 : ∀ (H : Heap) (locs : List Loc), va_P D vwCl (w_MO dA a (some g0) q1 g2 g3 g4 (ka 0) (wa 0) g7 g8 g9 g10 g11 g12 g13 g14 g15 g16 g17 g18 mo ++ (w_W dA wa y_w ++ (w_Kept dA ka y_kept))) H → va_D A (w_MO dA a (some g0) q1 g2 g3 g4 (ka 0) (wa 0) g7 g8 g9 g10 g11 g12 g13 g14 g15 g16 g17 g18 mo ++ (w_W dA wa y_w ++ (w_Kept dA ka y_kept))) → va_S A s.heap H locs → W p l e ({ frames := 1, cells := 0, slots := 0, locals := 21 } : Room) s m ([.ref (a 0)] : List Value).toArray below meth c H locs 0 0 Q (F0 m 0 ls []) := by
    intro H locs hP hD hS
    rw [f_X12_mark] at hf
    refine lv_aload_n hx hb dX12_mark_0 rfl (lv_at hl 0 rfl) ?_
    refine lv_iconst (v := (0 : Int32)) hx hb dX12_mark_1 (by decide) ?_
    refine va_put (D := D) (ci := 12) (v := .int (0 : Int32)) (ty := .int) (C := RX12) (T := TX12) (N := 35) hx hb hts kb_inX12 tyX12 tyX12_ok nmX12 hown hK.1 hP hD hS 0 rfl rfl 0 (by decide) (hK.2.w ww_5_200 rfl _) (fun _ h9 => h9) rfl (by decide +kernel) rfl rfl (Nat.le_of_ble_eq_true rfl) dX12_mark_2 (fun H locs hP hD hS => ?_)
    have hP : va_P D vwCl (w_MO dA a (some g0) q1 g2 g3 g4 (ka 0) (wa 0) g7 g8 g9 g10 g11 g12 g13 g14 g15 g16 g17 g18 (mo_set_thrown mo (0 : Int32)) ++ (w_W dA wa y_w ++ (w_Kept dA ka y_kept))) H := hP
    have hD : va_D A (w_MO dA a (some g0) q1 g2 g3 g4 (ka 0) (wa 0) g7 g8 g9 g10 g11 g12 g13 g14 g15 g16 g17 g18 (mo_set_thrown mo (0 : Int32)) ++ (w_W dA wa y_w ++ (w_Kept dA ka y_kept))) := hD
    exact B_5 _ _ _ _ _ hf hP hD hS (lv_sub hl [0] rfl)
  exact E0 _ _ hP hD hS

noncomputable def f_X12_back_b24 (y_kept : KeptT) (z0 : MOT) (z1 : WT) : Option (Int32 × MOT × WT) := (f_X12_denied z0 (1 : Int32)).bind fun r2 => if kb_01 r2.1 then some (r2.1, r2.2, z1) else none
noncomputable def f_X12_back_b55 (y_kept : KeptT) (k32 : Int32 → Int32 → MOT → WT → Option (Int32 × MOT × WT)) (v1 : Int32) (v2 : Int32) (z0 : MOT) (z1 : WT) : Option (Int32 × MOT × WT) := k32 v1 (v2 + (1 : Int32)) z0 z1
noncomputable def f_X12_back_b32 (y_kept : KeptT) : Nat → Int32 → Int32 → MOT → WT → Option (Int32 × MOT × WT)
  | 0, _, _, _, _ => none
  | n + 1, v1, v2, z0, z1 => (if (56 : Int32) ≤ v2 then (f_X12_granted z0).bind fun r6 => if kb_01 r6.1 then some (r6.1, r6.2, z1) else none else if kb_in? (((56 : Int32) * v1) + v2) 224 then if kb_in? v2 56 then f_X12_back_b55 y_kept (f_X12_back_b32 y_kept n) v1 v2 z0 (yW_set_r z1 (upd (yW_r z1) (v2).toNatClampNeg ((yKept_r y_kept) ((((56 : Int32) * v1) + v2)).toNatClampNeg))) else none else none)
noncomputable def f_X12_back_b5 (y_kept : KeptT) (v1 : Int32) (z0 : MOT) (z1 : WT) : Option (Int32 × MOT × WT) := (if v1 < 0 then f_X12_back_b24 y_kept z0 z1 else (if v1 < (mo_marks z0) then f_X12_back_b32 y_kept 4096 v1 (0 : Int32) z0 z1 else f_X12_back_b24 y_kept z0 z1))
noncomputable def f_X12_back (mo : MOT) (y_w : WT) (y_kept : KeptT) (x0 : Int32) : Option (Int32 × MOT × WT) := f_X12_back_b5 y_kept x0 (mo_set_thrown mo (0 : Int32)) y_w
set_option maxHeartbeats 4000000 in
set_option maxRecDepth 100000 in
theorem c_X12_back (l : Launch) (D : va_G) (dA : Nat → ClassId) (sz : Nat) (a : Nat → Nat) (wa : Nat → Nat) (ka : Nat → Nat) (g0 : Nat) (q1 : Option Nat) (g2 : Nat) (g3 : Nat) (g4 : Nat) (g7 : Nat) (g8 : Nat) (g9 : Nat) (g10 : Nat) (g11 : Nat) (g12 : Nat) (g13 : Nat) (g14 : Nat) (g15 : Nat) (g16 : Nat) (g17 : Nat) (g18 : Nat) (mo : MOT) (y_w : WT) (y_kept : KeptT) (x0 : Int32) (rv : Int32) (u0 : MOT) (u1 : WT) (hf : f_X12_back mo y_w y_kept x0 = some (rv, u0, u1)) : kb_Mi l yX12_back cX12_back 3 (some .boolean) ({ frames := 2, cells := 0, slots := 0, locals := 42 } : Room) D dA [.ref (a 0), .int x0] sz (w_MO dA a (some g0) q1 g2 g3 g4 (ka 0) (wa 0) g7 g8 g9 g10 g11 g12 g13 g14 g15 g16 g17 g18 mo ++ (w_W dA wa y_w ++ (w_Kept dA ka y_kept))) 0 0 rv (w_MO dA a (some g0) q1 g2 g3 g4 (ka 0) (wa 0) g7 g8 g9 g10 g11 g12 g13 g14 g15 g16 g17 g18 u0 ++ (w_W dA wa u1 ++ (w_Kept dA ka y_kept))) := by
  refine Met.ofW (cc := cX12_back) (maxL := 3) (ret := (some .boolean)) (by decide) rfl ?_
  intro p e s m args below meth c s₁ B hml hv
  obtain ⟨rfl, hsz, hP, hK, hD0, hE⟩ := hv
  have hx := B.exec
  have hb := B.bytes
  have hr := B.returns
  have hown : s.vm.findClass RX12 = some m.cls := findClass_of_methodNamed B.named
  have hlocks := B.notSynchronized
  have hts : ∀ w ∈ kb_gw, w.before ([.ref (a 0), .int x0] : List Value).toArray s = true := fun w hw => hK.2.1 w hw _
  subst hsz
  have hD := hD0.self (sz := s.heap.size)
  generalize hAe : va_A (w_MO dA a (some g0) q1 g2 g3 g4 (ka 0) (wa 0) g7 g8 g9 g10 g11 g12 g13 g14 g15 g16 g17 g18 mo ++ (w_W dA wa y_w ++ (w_Kept dA ka y_kept))) s.heap.size = A at hD hE ⊢
  have hA : ∀ q : Nat, s.heap.size ≤ q → A q := fun q h => by rw [← hAe]; exact Or.inr h
  have hS : va_S A s.heap s.heap [] := va_S.rf
  have hl := lv_entry ([.ref (a 0), .int x0]) (n := 3) (Nat.le_of_ble_eq_true rfl)
  rw [lg_entry_eq]
  generalize (lg_sl ([.ref (a 0), .int x0]) ++ List.replicate (3 - (lg_sl ([.ref (a 0), .int x0])).length) Slot.unset).toArray = ls at hl ⊢
  have hl : lv_has ls 3 [(0, .ref (a 0)), (1, .int x0)] := hl
  generalize hQ : MQ below (va_Qi (fun r (_ : Unit) => r = rv) (kb_B D A (w_MO dA a (some g0) q1 g2 g3 g4 (ka 0) (wa 0) g7 g8 g9 g10 g11 g12 g13 g14 g15 g16 g17 g18 u0 ++ (w_W dA wa u1 ++ (w_Kept dA ka y_kept)))) A) ([.ref (a 0), .int x0] : List Value).toArray s 0 0 A = Q
  show W p l e ({ frames := 2, cells := 0, slots := 0, locals := 42 } : Room) s m ([.ref (a 0), .int x0] : List Value).toArray below meth c s.heap [] 0 0 Q (F0 m 0 ls [])
  have RET : ∀ (r2 : Int32) (w0 : MOT) (w1 : WT) (H : Heap) (locs : List Loc) (ls : Array Slot) (pc : Nat), some (r2, w0, w1) = some (rv, u0, u1) → va_P D vwCl (w_MO dA a (some g0) q1 g2 g3 g4 (ka 0) (wa 0) g7 g8 g9 g10 g11 g12 g13 g14 g15 g16 g17 g18 w0 ++ (w_W dA wa w1 ++ (w_Kept dA ka y_kept))) H → va_D A (w_MO dA a (some g0) q1 g2 g3 g4 (ka 0) (wa 0) g7 g8 g9 g10 g11 g12 g13 g14 g15 g16 g17 g18 w0 ++ (w_W dA wa w1 ++ (w_Kept dA ka y_kept))) → va_S A s.heap H locs → kb_01 r2 → decode cX12_back pc = .ok (.ireturn, 1) → W p l e ({ frames := 2, cells := 0, slots := 0, locals := 42 } : Room) s m ([.ref (a 0), .int x0] : List Value).toArray below meth c H locs 0 0 Q (F0 m pc ls [.int r2]) := by
    intro r2 w0 w1 H locs ls pc hq hP hD hS h01 hd
    cases hq
    rw [← hQ]
    exact W.zret (ty := .boolean) hx hb hr (kb_nz h01) (fun t ht hW => ⟨⟨_, (), rfl, rfl, by rw [ht]; exact hP, hD⟩, hS.F ht⟩) hS.2.2 hd
  have B_24 : ∀ (z0 : MOT) (z1 : WT) (H : Heap) (locs : List Loc) (ls : Array Slot), f_X12_back_b24 y_kept z0 z1 = some (rv, u0, u1) → va_P D vwCl (w_MO dA a (some g0) q1 g2 g3 g4 (ka 0) (wa 0) g7 g8 g9 g10 g11 g12 g13 g14 g15 g16 g17 g18 z0 ++ (w_W dA wa z1 ++ (w_Kept dA ka y_kept))) H → va_D A (w_MO dA a (some g0) q1 g2 g3 g4 (ka 0) (wa 0) g7 g8 g9 g10 g11 g12 g13 g14 g15 g16 g17 g18 z0 ++ (w_W dA wa z1 ++ (w_Kept dA ka y_kept))) → va_S A s.heap H locs → lv_has ls 3 [(0, .ref (a 0))] → W p l e ({ frames := 2, cells := 0, slots := 0, locals := 42 } : Room) s m ([.ref (a 0), .int x0] : List Value).toArray below meth c H locs 0 0 Q (F0 m 24 ls []) := by
    intro z0 z1 H locs ls hf hP hD hS hl
    rw [f_X12_back_b24] at hf
    refine lv_aload_n hx hb dX12_back_24 rfl (lv_at hl 0 rfl) ?_
    refine lv_iconst (v := (1 : Int32)) hx hb dX12_back_25 (by decide) ?_
    obtain ⟨r2, hc2, hf⟩ := kb_bind hf
    refine kb_ci (ws2 := (w_MO dA a (some g0) q1 g2 g3 g4 (ka 0) (wa 0) g7 g8 g9 g10 g11 g12 g13 g14 g15 g16 g17 g18 r2.2 ++ (w_W dA wa z1 ++ (w_Kept dA ka y_kept)))) (kb_rV (n := 1) (As := [.int (1 : Int32)]) (rest := []) hx hb hml hown hK (c_X12_denied l D dA H.size a (some g0) q1 g2 g3 g4 (ka 0) (wa 0) g7 g8 g9 g10 g11 g12 g13 g14 g15 g16 g17 g18 z0 (1 : Int32) r2.1 r2.2 hc2) ⟨ww_8_61, ww_8_58, ww_8_60, ws_99, ww_1_12, rfl, by decide, by decide⟩ rfl rfl (by decide +kernel) ⟨Nat.le_of_ble_eq_true rfl, Nat.le_of_ble_eq_true rfl⟩ hP hD hS hA hE [0] rfl (by decide) 0 rfl rfl rfl hl.1 rfl (Nat.le_of_ble_eq_true rfl) dX12_back_26 ⟨Nat.le_of_ble_eq_true rfl, Nat.le_of_ble_eq_true rfl⟩) hP hD hS hA [0] [1, 2] [2, 0, 1] rfl rfl (by decide) (by decide) rfl (by decide) (fun H locs hP hD hS => ?_)
    obtain ⟨h_3, hf⟩ := kb_if hf
    exact RET _ _ _ H _ ls 29 hf hP hD hS h_3 dX12_back_29
  have B_55 : ∀ (k32 : Int32 → Int32 → MOT → WT → Option (Int32 × MOT × WT)) (hk32 : ∀ (v1 : Int32) (v2 : Int32) (z0 : MOT) (z1 : WT) (H : Heap) (locs : List Loc) (ls : Array Slot), k32 v1 v2 z0 z1 = some (rv, u0, u1) → va_P D vwCl (w_MO dA a (some g0) q1 g2 g3 g4 (ka 0) (wa 0) g7 g8 g9 g10 g11 g12 g13 g14 g15 g16 g17 g18 z0 ++ (w_W dA wa z1 ++ (w_Kept dA ka y_kept))) H → va_D A (w_MO dA a (some g0) q1 g2 g3 g4 (ka 0) (wa 0) g7 g8 g9 g10 g11 g12 g13 g14 g15 g16 g17 g18 z0 ++ (w_W dA wa z1 ++ (w_Kept dA ka y_kept))) → va_S A s.heap H locs → lv_has ls 3 [(0, .ref (a 0)), (1, .int v1), (2, .int v2)] → W p l e ({ frames := 2, cells := 0, slots := 0, locals := 42 } : Room) s m ([.ref (a 0), .int x0] : List Value).toArray below meth c H locs 0 0 Q (F0 m 32 ls [])) (v1 : Int32) (v2 : Int32) (z0 : MOT) (z1 : WT) (H : Heap) (locs : List Loc) (ls : Array Slot), f_X12_back_b55 y_kept k32 v1 v2 z0 z1 = some (rv, u0, u1) → va_P D vwCl (w_MO dA a (some g0) q1 g2 g3 g4 (ka 0) (wa 0) g7 g8 g9 g10 g11 g12 g13 g14 g15 g16 g17 g18 z0 ++ (w_W dA wa z1 ++ (w_Kept dA ka y_kept))) H → va_D A (w_MO dA a (some g0) q1 g2 g3 g4 (ka 0) (wa 0) g7 g8 g9 g10 g11 g12 g13 g14 g15 g16 g17 g18 z0 ++ (w_W dA wa z1 ++ (w_Kept dA ka y_kept))) → va_S A s.heap H locs → lv_has ls 3 [(0, .ref (a 0)), (1, .int v1), (2, .int v2)] → W p l e ({ frames := 2, cells := 0, slots := 0, locals := 42 } : Room) s m ([.ref (a 0), .int x0] : List Value).toArray below meth c H locs 0 0 Q (F0 m 55 ls []) := by
    intro k32 hk32 v1 v2 z0 z1 H locs ls hf hP hD hS hl
    rw [f_X12_back_b55] at hf
    refine lv_iinc (v := (v2 + (1 : Int32))) (lv' := [(2, .int (v2 + (1 : Int32))), (0, .ref (a 0)), (1, .int v1)]) hx hb dX12_back_55 hl (k := 2) rfl (by rfl) (by decide) rfl (fun ls hl => ?_)
    refine lv_goto (tgt := 32) hx hb dX12_back_58 (by decide) ?_
    exact hk32 _ _ _ _ _ _ _ hf hP hD hS (lv_sub hl [1, 2, 0] rfl)
  have B_32 : ∀ (n : Nat) (v1 : Int32) (v2 : Int32) (z0 : MOT) (z1 : WT) (H : Heap) (locs : List Loc) (ls : Array Slot), f_X12_back_b32 y_kept n v1 v2 z0 z1 = some (rv, u0, u1) → va_P D vwCl (w_MO dA a (some g0) q1 g2 g3 g4 (ka 0) (wa 0) g7 g8 g9 g10 g11 g12 g13 g14 g15 g16 g17 g18 z0 ++ (w_W dA wa z1 ++ (w_Kept dA ka y_kept))) H → va_D A (w_MO dA a (some g0) q1 g2 g3 g4 (ka 0) (wa 0) g7 g8 g9 g10 g11 g12 g13 g14 g15 g16 g17 g18 z0 ++ (w_W dA wa z1 ++ (w_Kept dA ka y_kept))) → va_S A s.heap H locs → lv_has ls 3 [(0, .ref (a 0)), (1, .int v1), (2, .int v2)] → W p l e ({ frames := 2, cells := 0, slots := 0, locals := 42 } : Room) s m ([.ref (a 0), .int x0] : List Value).toArray below meth c H locs 0 0 Q (F0 m 32 ls []) := by
    intro n
    induction n with
    | zero =>
      intro v1 v2 z0 z1 H locs ls hf
      exact absurd hf (by simp [f_X12_back_b32])
    | succ n ih =>
      intro v1 v2 z0 z1 H locs ls hf hP hD hS hl
      rw [f_X12_back_b32] at hf
      refine lv_iload_n hx hb dX12_back_32 rfl (lv_at hl 2 rfl) ?_
      refine lv_bipush (v := (56 : Int32)) hx hb dX12_back_33 (by decide) ?_
      refine lv_icmp_ge (tgt := 61) hx hb dX12_back_35 (by decide) (fun c_5 => ?_) (fun c_5 => ?_)
      · rw [if_pos c_5] at hf
        refine lv_aload_n hx hb dX12_back_61 rfl (lv_at hl 0 rfl) ?_
        obtain ⟨r6, hc6, hf⟩ := kb_bind hf
        refine kb_ci (ws2 := (w_MO dA a (some g0) q1 g2 g3 g4 (ka 0) (wa 0) g7 g8 g9 g10 g11 g12 g13 g14 g15 g16 g17 g18 r6.2 ++ (w_W dA wa z1 ++ (w_Kept dA ka y_kept)))) (kb_rV (n := 0) (As := []) (rest := []) hx hb hml hown hK (c_X12_granted l D dA H.size a (some g0) q1 g2 g3 g4 (ka 0) (wa 0) g7 g8 g9 g10 g11 g12 g13 g14 g15 g16 g17 g18 z0 r6.1 r6.2 hc6) ⟨ww_8_65, ww_8_62, ww_8_64, ws_100, ww_1_12, rfl, by decide, by decide⟩ rfl rfl (by decide +kernel) ⟨Nat.le_of_ble_eq_true rfl, Nat.le_of_ble_eq_true rfl⟩ hP hD hS hA hE [0] rfl (by decide) 0 rfl rfl rfl hl.1 rfl (Nat.le_of_ble_eq_true rfl) dX12_back_62 ⟨Nat.le_of_ble_eq_true rfl, Nat.le_of_ble_eq_true rfl⟩) hP hD hS hA [0] [1, 2] [2, 0, 1] rfl rfl (by decide) (by decide) rfl (by decide) (fun H locs hP hD hS => ?_)
        obtain ⟨h_7, hf⟩ := kb_if hf
        exact RET _ _ _ H _ ls 65 hf hP hD hS h_7 dX12_back_65
      · rw [if_neg c_5] at hf
        refine lv_aload_n hx hb dX12_back_38 rfl (lv_at hl 0 rfl) ?_
        refine va_get (D := D) (ci := 12) (v := .ref (wa 0)) (C := RX12) (T := TX12) (N := 35) hx hb hts kb_inX12 hown hK.1 hP 0 rfl rfl 19 (by decide) (hK.2.w ww_5_219 rfl _) (fun _ h9 => h9) rfl dX12_back_39 ?_
        refine lv_iload_n hx hb dX12_back_42 rfl (lv_at hl 2 rfl) ?_
        refine lv_aload_n hx hb dX12_back_43 rfl (lv_at hl 0 rfl) ?_
        refine va_get (D := D) (ci := 12) (v := .ref (ka 0)) (C := RX12) (T := TX12) (N := 35) hx hb hts kb_inX12 hown hK.1 hP 0 rfl rfl 18 (by decide) (hK.2.w ww_5_218 rfl _) (fun _ h9 => h9) rfl dX12_back_44 ?_
        refine lv_bipush (v := (56 : Int32)) hx hb dX12_back_47 (by decide) ?_
        refine lv_iload_n hx hb dX12_back_49 rfl (lv_at hl 1 rfl) ?_
        refine lv_imul hx hb dX12_back_50 ?_
        refine lv_iload_n hx hb dX12_back_51 rfl (lv_at hl 2 rfl) ?_
        refine lv_iadd hx hb dX12_back_52 ?_
        obtain ⟨h_8, hf⟩ := kb_if hf
        refine va_iald (D := D) hx hb hK.1 hP 2 0 rfl rfl h_8 dX12_back_53 ?_
        obtain ⟨h_9, hf⟩ := kb_if hf
        refine va_iast (D := D) hx hb hK.1 hP hD hS 1 0 rfl rfl h_9 dX12_back_54 (fun H locs hP hD hS => ?_)
        have hP : va_P D vwCl (w_MO dA a (some g0) q1 g2 g3 g4 (ka 0) (wa 0) g7 g8 g9 g10 g11 g12 g13 g14 g15 g16 g17 g18 z0 ++ (w_W dA wa (yW_set_r z1 (upd (yW_r z1) (v2).toNatClampNeg ((yKept_r y_kept) ((((56 : Int32) * v1) + v2)).toNatClampNeg))) ++ (w_Kept dA ka y_kept))) H := hP
        have hD : va_D A (w_MO dA a (some g0) q1 g2 g3 g4 (ka 0) (wa 0) g7 g8 g9 g10 g11 g12 g13 g14 g15 g16 g17 g18 z0 ++ (w_W dA wa (yW_set_r z1 (upd (yW_r z1) (v2).toNatClampNeg ((yKept_r y_kept) ((((56 : Int32) * v1) + v2)).toNatClampNeg))) ++ (w_Kept dA ka y_kept))) := hD
        exact B_55 (f_X12_back_b32 y_kept n) ih _ _ _ _ _ _ _ hf hP hD hS (lv_sub hl [0, 1, 2] rfl)
  have B_5 : ∀ (v1 : Int32) (z0 : MOT) (z1 : WT) (H : Heap) (locs : List Loc) (ls : Array Slot), f_X12_back_b5 y_kept v1 z0 z1 = some (rv, u0, u1) → va_P D vwCl (w_MO dA a (some g0) q1 g2 g3 g4 (ka 0) (wa 0) g7 g8 g9 g10 g11 g12 g13 g14 g15 g16 g17 g18 z0 ++ (w_W dA wa z1 ++ (w_Kept dA ka y_kept))) H → va_D A (w_MO dA a (some g0) q1 g2 g3 g4 (ka 0) (wa 0) g7 g8 g9 g10 g11 g12 g13 g14 g15 g16 g17 g18 z0 ++ (w_W dA wa z1 ++ (w_Kept dA ka y_kept))) → va_S A s.heap H locs → lv_has ls 3 [(0, .ref (a 0)), (1, .int v1)] → W p l e ({ frames := 2, cells := 0, slots := 0, locals := 42 } : Room) s m ([.ref (a 0), .int x0] : List Value).toArray below meth c H locs 0 0 Q (F0 m 5 ls []) := by
    intro v1 z0 z1 H locs ls hf hP hD hS hl
    rw [f_X12_back_b5] at hf
    refine lv_aload_n hx hb dX12_back_5 rfl (lv_at hl 0 rfl) ?_
    refine va_get (D := D) (ci := 12) (v := .ref g0) (C := RX12) (T := TX12) (N := 35) hx hb hts kb_inX12 hown hK.1 hP 0 rfl rfl 3 (by decide) (hK.2.w ww_5_203 rfl _) (fun _ h9 => h9) rfl dX12_back_6 ?_
    refine lv_ifnull hx hb dX12_back_9 ?_
    refine lv_iload_n hx hb dX12_back_12 rfl (lv_at hl 1 rfl) ?_
    refine lv_if_lt (tgt := 24) hx hb dX12_back_13 (by decide) (fun c_1 => ?_) (fun c_1 => ?_)
    · rw [if_pos c_1] at hf
      exact B_24 _ _ _ _ _ hf hP hD hS (lv_sub hl [0] rfl)
    · rw [if_neg c_1] at hf
      refine lv_iload_n hx hb dX12_back_16 rfl (lv_at hl 1 rfl) ?_
      refine lv_aload_n hx hb dX12_back_17 rfl (lv_at hl 0 rfl) ?_
      refine va_get (D := D) (ci := 12) (v := .int (mo_marks z0)) (C := RX12) (T := TX12) (N := 35) hx hb hts kb_inX12 hown hK.1 hP 0 rfl rfl 21 (by decide) (hK.2.w ww_5_221 rfl _) (fun _ h9 => h9) rfl dX12_back_18 ?_
      refine lv_icmp_lt (tgt := 30) hx hb dX12_back_21 (by decide) (fun c_4 => ?_) (fun c_4 => ?_)
      · rw [if_pos c_4] at hf
        refine lv_iconst (v := (0 : Int32)) hx hb dX12_back_30 (by decide) ?_
        refine lv_istore_n (lv' := [(2, .int (0 : Int32)), (0, .ref (a 0)), (1, .int v1)]) hx hb dX12_back_31 rfl hl (by decide) rfl (fun ls hl => ?_)
        exact B_32 4096 _ _ _ _ _ _ _ hf hP hD hS (lv_sub hl [1, 2, 0] rfl)
      · rw [if_neg c_4] at hf
        exact B_24 _ _ _ _ _ hf hP hD hS (lv_sub hl [0] rfl)
  have E0 : ∀ (H : Heap) (locs : List Loc), va_P D vwCl (w_MO dA a (some g0) q1 g2 g3 g4 (ka 0) (wa 0) g7 g8 g9 g10 g11 g12 g13 g14 g15 g16 g17 g18 mo ++ (w_W dA wa y_w ++ (w_Kept dA ka y_kept))) H → va_D A (w_MO dA a (some g0) q1 g2 g3 g4 (ka 0) (wa 0) g7 g8 g9 g10 g11 g12 g13 g14 g15 g16 g17 g18 mo ++ (w_W dA wa y_w ++ (w_Kept dA ka y_kept))) → va_S A s.heap H locs → W p l e ({ frames := 2, cells := 0, slots := 0, locals := 42 } : Room) s m ([.ref (a 0), .int x0] : List Value).toArray below meth c H locs 0 0 Q (F0 m 0 ls []) := by
    intro H locs hP hD hS
    rw [f_X12_back] at hf
    refine lv_aload_n hx hb dX12_back_0 rfl (lv_at hl 0 rfl) ?_
    refine lv_iconst (v := (0 : Int32)) hx hb dX12_back_1 (by decide) ?_
    refine va_put (D := D) (ci := 12) (v := .int (0 : Int32)) (ty := .int) (C := RX12) (T := TX12) (N := 35) hx hb hts kb_inX12 tyX12 tyX12_ok nmX12 hown hK.1 hP hD hS 0 rfl rfl 0 (by decide) (hK.2.w ww_5_200 rfl _) (fun _ h9 => h9) rfl (by decide +kernel) rfl rfl (Nat.le_of_ble_eq_true rfl) dX12_back_2 (fun H locs hP hD hS => ?_)
    have hP : va_P D vwCl (w_MO dA a (some g0) q1 g2 g3 g4 (ka 0) (wa 0) g7 g8 g9 g10 g11 g12 g13 g14 g15 g16 g17 g18 (mo_set_thrown mo (0 : Int32)) ++ (w_W dA wa y_w ++ (w_Kept dA ka y_kept))) H := hP
    have hD : va_D A (w_MO dA a (some g0) q1 g2 g3 g4 (ka 0) (wa 0) g7 g8 g9 g10 g11 g12 g13 g14 g15 g16 g17 g18 (mo_set_thrown mo (0 : Int32)) ++ (w_W dA wa y_w ++ (w_Kept dA ka y_kept))) := hD
    exact B_5 _ _ _ _ _ _ hf hP hD hS (lv_sub hl [0, 1] rfl)
  exact E0 _ _ hP hD hS

noncomputable def f_X12_refusesChoice_b33 (mo : MOT) (y_w : WT) (bu : BusT)  : Option (Int32) := some ((5 : Int32))
noncomputable def f_X12_refusesChoice (mo : MOT) (y_w : WT) (bu : BusT) (x0 : Int32) : Option (Int32) := (f_X12_isRider mo bu x0).bind fun r1 => (if r1 = 0 then some ((1 : Int32)) else (f_X12_isSitting mo y_w x0).bind fun r3 => (if r3 = 0 then if kb_in? ((0 : Int32) + x0) 56 then (if ((yW_r y_w) (((0 : Int32) + x0)).toNatClampNeg) = (102 : Int32) then f_X12_refusesChoice_b33 mo y_w bu  else some ((0 : Int32))) else none else f_X12_refusesChoice_b33 mo y_w bu ))
set_option maxHeartbeats 4000000 in
set_option maxRecDepth 100000 in
theorem c_X12_refusesChoice (l : Launch) (D : va_G) (dA : Nat → ClassId) (sz : Nat) (a : Nat → Nat) (wa : Nat → Nat) (ba : Nat → Nat) (q1 : Option Nat) (g2 : Nat) (g3 : Nat) (g4 : Nat) (g5 : Nat) (g7 : Nat) (g8 : Nat) (g9 : Nat) (g10 : Nat) (g11 : Nat) (g12 : Nat) (g13 : Nat) (g14 : Nat) (g15 : Nat) (g16 : Nat) (g17 : Nat) (g18 : Nat) (mo : MOT) (y_w : WT) (bu : BusT) (x0 : Int32) (rv : Int32) (hf : f_X12_refusesChoice mo y_w bu x0 = some (rv)) : kb_Mi l yX12_refusesChoice cX12_refusesChoice 2 (some .int) ({ frames := 1, cells := 0, slots := 0, locals := 21 } : Room) D dA [.ref (a 0), .int x0] sz (w_MO dA a (some (ba 0)) q1 g2 g3 g4 g5 (wa 0) g7 g8 g9 g10 g11 g12 g13 g14 g15 g16 g17 g18 mo ++ (w_W dA wa y_w ++ (w_Bus dA ba bu))) 0 0 rv (w_MO dA a (some (ba 0)) q1 g2 g3 g4 g5 (wa 0) g7 g8 g9 g10 g11 g12 g13 g14 g15 g16 g17 g18 mo ++ (w_W dA wa y_w ++ (w_Bus dA ba bu))) := by
  refine Met.ofW (cc := cX12_refusesChoice) (maxL := 2) (ret := (some .int)) (by decide) rfl ?_
  intro p e s m args below meth c s₁ B hml hv
  obtain ⟨rfl, hsz, hP, hK, hD0, hE⟩ := hv
  have hx := B.exec
  have hb := B.bytes
  have hr := B.returns
  have hown : s.vm.findClass RX12 = some m.cls := findClass_of_methodNamed B.named
  have hlocks := B.notSynchronized
  have hts : ∀ w ∈ kb_gw, w.before ([.ref (a 0), .int x0] : List Value).toArray s = true := fun w hw => hK.2.1 w hw _
  subst hsz
  have hD := hD0.self (sz := s.heap.size)
  generalize hAe : va_A (w_MO dA a (some (ba 0)) q1 g2 g3 g4 g5 (wa 0) g7 g8 g9 g10 g11 g12 g13 g14 g15 g16 g17 g18 mo ++ (w_W dA wa y_w ++ (w_Bus dA ba bu))) s.heap.size = A at hD hE ⊢
  have hA : ∀ q : Nat, s.heap.size ≤ q → A q := fun q h => by rw [← hAe]; exact Or.inr h
  have hS : va_S A s.heap s.heap [] := va_S.rf
  have hl := lv_entry ([.ref (a 0), .int x0]) (n := 2) (Nat.le_of_ble_eq_true rfl)
  rw [lg_entry_eq]
  generalize (lg_sl ([.ref (a 0), .int x0]) ++ List.replicate (2 - (lg_sl ([.ref (a 0), .int x0])).length) Slot.unset).toArray = ls at hl ⊢
  have hl : lv_has ls 2 [(0, .ref (a 0)), (1, .int x0)] := hl
  generalize hQ : MQ below (va_Qi (fun r (_ : Unit) => r = rv) (kb_B D A (w_MO dA a (some (ba 0)) q1 g2 g3 g4 g5 (wa 0) g7 g8 g9 g10 g11 g12 g13 g14 g15 g16 g17 g18 mo ++ (w_W dA wa y_w ++ (w_Bus dA ba bu)))) A) ([.ref (a 0), .int x0] : List Value).toArray s 0 0 A = Q
  show W p l e ({ frames := 1, cells := 0, slots := 0, locals := 21 } : Room) s m ([.ref (a 0), .int x0] : List Value).toArray below meth c s.heap [] 0 0 Q (F0 m 0 ls [])
  have RET : ∀ (r2 : Int32) (H : Heap) (locs : List Loc) (ls : Array Slot) (pc : Nat), some (r2) = some (rv) → va_P D vwCl (w_MO dA a (some (ba 0)) q1 g2 g3 g4 g5 (wa 0) g7 g8 g9 g10 g11 g12 g13 g14 g15 g16 g17 g18 mo ++ (w_W dA wa y_w ++ (w_Bus dA ba bu))) H → va_D A (w_MO dA a (some (ba 0)) q1 g2 g3 g4 g5 (wa 0) g7 g8 g9 g10 g11 g12 g13 g14 g15 g16 g17 g18 mo ++ (w_W dA wa y_w ++ (w_Bus dA ba bu))) → va_S A s.heap H locs → decode cX12_refusesChoice pc = .ok (.ireturn, 1) → W p l e ({ frames := 1, cells := 0, slots := 0, locals := 21 } : Room) s m ([.ref (a 0), .int x0] : List Value).toArray below meth c H locs 0 0 Q (F0 m pc ls [.int r2]) := by
    intro r2 H locs ls pc hq hP hD hS hd
    cases hq
    rw [← hQ]
    exact W.iret hx hb hr (fun t ht hW => ⟨⟨_, (), rfl, rfl, by rw [ht]; exact hP, hD⟩, hS.F ht⟩) hS.2.2 hd
  have B_33 : ∀  (H : Heap) (locs : List Loc) (ls : Array Slot), f_X12_refusesChoice_b33 mo y_w bu  = some (rv) → va_P D vwCl (w_MO dA a (some (ba 0)) q1 g2 g3 g4 g5 (wa 0) g7 g8 g9 g10 g11 g12 g13 g14 g15 g16 g17 g18 mo ++ (w_W dA wa y_w ++ (w_Bus dA ba bu))) H → va_D A (w_MO dA a (some (ba 0)) q1 g2 g3 g4 g5 (wa 0) g7 g8 g9 g10 g11 g12 g13 g14 g15 g16 g17 g18 mo ++ (w_W dA wa y_w ++ (w_Bus dA ba bu))) → va_S A s.heap H locs → lv_has ls 2 [] → W p l e ({ frames := 1, cells := 0, slots := 0, locals := 21 } : Room) s m ([.ref (a 0), .int x0] : List Value).toArray below meth c H locs 0 0 Q (F0 m 33 ls []) := by
    intro  H locs ls hf hP hD hS hl
    rw [f_X12_refusesChoice_b33] at hf
    refine lv_iconst (v := (5 : Int32)) hx hb dX12_refusesChoice_33 (by decide) ?_
    refine lv_goto (tgt := 38) hx hb dX12_refusesChoice_34 (by decide) ?_
    exact RET _ H _ ls 38 hf hP hD hS dX12_refusesChoice_38
  have E0 : ∀ (H : Heap) (locs : List Loc), va_P D vwCl (w_MO dA a (some (ba 0)) q1 g2 g3 g4 g5 (wa 0) g7 g8 g9 g10 g11 g12 g13 g14 g15 g16 g17 g18 mo ++ (w_W dA wa y_w ++ (w_Bus dA ba bu))) H → va_D A (w_MO dA a (some (ba 0)) q1 g2 g3 g4 g5 (wa 0) g7 g8 g9 g10 g11 g12 g13 g14 g15 g16 g17 g18 mo ++ (w_W dA wa y_w ++ (w_Bus dA ba bu))) → va_S A s.heap H locs → W p l e ({ frames := 1, cells := 0, slots := 0, locals := 21 } : Room) s m ([.ref (a 0), .int x0] : List Value).toArray below meth c H locs 0 0 Q (F0 m 0 ls []) := by
    intro H locs hP hD hS
    rw [f_X12_refusesChoice] at hf
    refine lv_aload_n hx hb dX12_refusesChoice_0 rfl (lv_at hl 0 rfl) ?_
    refine lv_iload_n hx hb dX12_refusesChoice_1 rfl (lv_at hl 1 rfl) ?_
    obtain ⟨r1, hc1, hf⟩ := kb_bind hf
    refine kb_ci (ws2 := (w_MO dA a (some (ba 0)) q1 g2 g3 g4 g5 (wa 0) g7 g8 g9 g10 g11 g12 g13 g14 g15 g16 g17 g18 mo ++ (w_W dA wa y_w ++ (w_Bus dA ba bu)))) (kb_rV (n := 1) (As := [.int x0]) (rest := []) hx hb hml hown hK (c_X12_isRider l D dA H.size a ba q1 g2 g3 g4 g5 (wa 0) g7 g8 g9 g10 g11 g12 g13 g14 g15 g16 g17 g18 mo bu x0 r1 hc1) ⟨ww_8_5, ww_8_2, ww_8_4, ws_95, ww_1_12, rfl, by decide, by decide⟩ rfl rfl (by decide +kernel) ⟨Nat.le_of_ble_eq_true rfl, Nat.le_of_ble_eq_true rfl⟩ hP hD hS hA hE [0, 2, 3, 4, 5, 6, 7, 8, 9, 10, 11, 12, 13, 14, 15, 16, 17] rfl (by decide) 0 rfl rfl rfl hl.1 rfl (Nat.le_of_ble_eq_true rfl) dX12_refusesChoice_2 ⟨Nat.le_of_ble_eq_true rfl, Nat.le_of_ble_eq_true rfl⟩) hP hD hS hA [0, 2, 3, 4, 5, 6, 7, 8, 9, 10, 11, 12, 13, 14, 15, 16, 17] [1] [1, 0, 2, 3, 4, 5, 6, 7, 8, 9, 10, 11, 12, 13, 14, 15, 16, 17] rfl rfl (by decide) (by decide) rfl (by decide) (fun H locs hP hD hS => ?_)
    refine lv_if_ne (tgt := 12) hx hb dX12_refusesChoice_5 (by decide) (fun c_2 => ?_) (fun c_2 => ?_)
    · rw [if_neg c_2] at hf
      refine lv_aload_n hx hb dX12_refusesChoice_12 rfl (lv_at hl 0 rfl) ?_
      refine lv_iload_n hx hb dX12_refusesChoice_13 rfl (lv_at hl 1 rfl) ?_
      obtain ⟨r3, hc3, hf⟩ := kb_bind hf
      refine kb_ci (ws2 := (w_MO dA a (some (ba 0)) q1 g2 g3 g4 g5 (wa 0) g7 g8 g9 g10 g11 g12 g13 g14 g15 g16 g17 g18 mo ++ (w_W dA wa y_w ++ (w_Bus dA ba bu)))) (kb_rV (n := 1) (As := [.int x0]) (rest := []) hx hb hml hown hK (c_X12_isSitting l D dA H.size a wa (some (ba 0)) q1 g2 g3 g4 g5 g7 g8 g9 g10 g11 g12 g13 g14 g15 g16 g17 g18 mo y_w x0 r3 hc3) ⟨ww_7_132, ww_7_129, ww_7_131, ws_76, ww_1_12, rfl, by decide, by decide⟩ rfl rfl (by decide +kernel) ⟨Nat.le_of_ble_eq_true rfl, Nat.le_of_ble_eq_true rfl⟩ hP hD hS hA hE [0, 1] rfl (by decide) 0 rfl rfl rfl hl.1 rfl (Nat.le_of_ble_eq_true rfl) dX12_refusesChoice_14 ⟨Nat.le_of_ble_eq_true rfl, Nat.le_of_ble_eq_true rfl⟩) hP hD hS hA [0, 1] [2, 3, 4, 5, 6, 7, 8, 9, 10, 11, 12, 13, 14, 15, 16, 17] [16, 17, 0, 1, 2, 3, 4, 5, 6, 7, 8, 9, 10, 11, 12, 13, 14, 15] rfl rfl (by decide) (by decide) rfl (by decide) (fun H locs hP hD hS => ?_)
      refine lv_if_ne (tgt := 33) hx hb dX12_refusesChoice_17 (by decide) (fun c_4 => ?_) (fun c_4 => ?_)
      · rw [if_neg c_4] at hf
        exact B_33 _ _ _ hf hP hD hS (lv_sub hl [] rfl)
      · rw [if_pos c_4] at hf
        refine lv_aload_n hx hb dX12_refusesChoice_20 rfl (lv_at hl 0 rfl) ?_
        refine va_get (D := D) (ci := 12) (v := .ref (wa 0)) (C := RX12) (T := TX12) (N := 35) hx hb hts kb_inX12 hown hK.1 hP 0 rfl rfl 19 (by decide) (hK.2.w ww_5_219 rfl _) (fun _ h9 => h9) rfl dX12_refusesChoice_21 ?_
        refine lv_iconst (v := (0 : Int32)) hx hb dX12_refusesChoice_24 (by decide) ?_
        refine lv_iload_n hx hb dX12_refusesChoice_25 rfl (lv_at hl 1 rfl) ?_
        refine lv_iadd hx hb dX12_refusesChoice_26 ?_
        obtain ⟨h_5, hf⟩ := kb_if hf
        refine va_iald (D := D) hx hb hK.1 hP 1 0 rfl rfl h_5 dX12_refusesChoice_27 ?_
        refine lv_bipush (v := (102 : Int32)) hx hb dX12_refusesChoice_28 (by decide) ?_
        refine lv_icmp_ne (tgt := 37) hx hb dX12_refusesChoice_30 (by decide) (fun c_6 => ?_) (fun c_6 => ?_)
        · rw [if_neg c_6] at hf
          refine lv_iconst (v := (0 : Int32)) hx hb dX12_refusesChoice_37 (by decide) ?_
          exact RET _ H _ ls 38 hf hP hD hS dX12_refusesChoice_38
        · rw [if_pos c_6] at hf
          exact B_33 _ _ _ hf hP hD hS (lv_sub hl [] rfl)
    · rw [if_pos c_2] at hf
      refine lv_iconst (v := (1 : Int32)) hx hb dX12_refusesChoice_8 (by decide) ?_
      refine lv_goto (tgt := 38) hx hb dX12_refusesChoice_9 (by decide) ?_
      exact RET _ H _ ls 38 hf hP hD hS dX12_refusesChoice_38
  exact E0 _ _ hP hD hS

noncomputable def f_X12_choice_b5 (y_w : WT) (y_looks : LooksT) (bu : BusT) (v1 : Int32) (z0 : MOT) (z3 : WhoT) (z4 : LookT) : Option (Int32 × MOT × WhoT × LookT) := (f_X12_refusesChoice z0 y_w bu v1).bind fun r1 => (if r1 ≤ 0 then (f_X12_chosen z0 y_w y_looks z3 z4 bu v1).bind fun r3 => (f_X12_done z0 r3.1).bind fun r4 => some (r4.1, r4.2, r3.2.1, r3.2.2) else (f_X12_refused z0 r1).bind fun r5 => some (r5.1, r5.2, z3, z4))
noncomputable def f_X12_choice (mo : MOT) (y_w : WT) (y_looks : LooksT) (y_who : WhoT) (y_look : LookT) (bu : BusT) (x0 : Int32) : Option (Int32 × MOT × WhoT × LookT) := f_X12_choice_b5 y_w y_looks bu x0 (mo_set_thrown mo (0 : Int32)) y_who y_look
set_option maxHeartbeats 4000000 in
set_option maxRecDepth 100000 in
theorem c_X12_choice (l : Launch) (D : va_G) (dA : Nat → ClassId) (sz : Nat) (a : Nat → Nat) (wa : Nat → Nat) (la : Nat → Nat) (ha : Nat → Nat) (ca : Nat → Nat) (ba : Nat → Nat) (q1 : Option Nat) (g2 : Nat) (g3 : Nat) (g4 : Nat) (g5 : Nat) (g10 : Nat) (g11 : Nat) (g12 : Nat) (g13 : Nat) (g14 : Nat) (g15 : Nat) (g16 : Nat) (g17 : Nat) (g18 : Nat) (mo : MOT) (y_w : WT) (y_looks : LooksT) (y_who : WhoT) (y_look : LookT) (bu : BusT) (x0 : Int32) (rv : Int32) (u0 : MOT) (u3 : WhoT) (u4 : LookT) (hf : f_X12_choice mo y_w y_looks y_who y_look bu x0 = some (rv, u0, u3, u4)) : kb_Mi l yX12_choice cX12_choice 3 (some .int) ({ frames := 7, cells := 0, slots := 0, locals := 167 } : Room) D dA [.ref (a 0), .int x0] sz (w_MO dA a (some (ba 0)) q1 g2 g3 g4 g5 (wa 0) (la 0) (ha 0) (ca 0) g10 g11 g12 g13 g14 g15 g16 g17 g18 mo ++ (w_W dA wa y_w ++ (w_Looks dA la y_looks ++ (w_Who dA ha y_who ++ (w_Look dA ca y_look ++ (w_Bus dA ba bu)))))) 0 0 rv (w_MO dA a (some (ba 0)) q1 g2 g3 g4 g5 (wa 0) (la 0) (ha 0) (ca 0) g10 g11 g12 g13 g14 g15 g16 g17 g18 u0 ++ (w_W dA wa y_w ++ (w_Looks dA la y_looks ++ (w_Who dA ha u3 ++ (w_Look dA ca u4 ++ (w_Bus dA ba bu)))))) := by
  refine Met.ofW (cc := cX12_choice) (maxL := 3) (ret := (some .int)) (by decide) rfl ?_
  intro p e s m args below meth c s₁ B hml hv
  obtain ⟨rfl, hsz, hP, hK, hD0, hE⟩ := hv
  have hx := B.exec
  have hb := B.bytes
  have hr := B.returns
  have hown : s.vm.findClass RX12 = some m.cls := findClass_of_methodNamed B.named
  have hlocks := B.notSynchronized
  have hts : ∀ w ∈ kb_gw, w.before ([.ref (a 0), .int x0] : List Value).toArray s = true := fun w hw => hK.2.1 w hw _
  subst hsz
  have hD := hD0.self (sz := s.heap.size)
  generalize hAe : va_A (w_MO dA a (some (ba 0)) q1 g2 g3 g4 g5 (wa 0) (la 0) (ha 0) (ca 0) g10 g11 g12 g13 g14 g15 g16 g17 g18 mo ++ (w_W dA wa y_w ++ (w_Looks dA la y_looks ++ (w_Who dA ha y_who ++ (w_Look dA ca y_look ++ (w_Bus dA ba bu)))))) s.heap.size = A at hD hE ⊢
  have hA : ∀ q : Nat, s.heap.size ≤ q → A q := fun q h => by rw [← hAe]; exact Or.inr h
  have hS : va_S A s.heap s.heap [] := va_S.rf
  have hl := lv_entry ([.ref (a 0), .int x0]) (n := 3) (Nat.le_of_ble_eq_true rfl)
  rw [lg_entry_eq]
  generalize (lg_sl ([.ref (a 0), .int x0]) ++ List.replicate (3 - (lg_sl ([.ref (a 0), .int x0])).length) Slot.unset).toArray = ls at hl ⊢
  have hl : lv_has ls 3 [(0, .ref (a 0)), (1, .int x0)] := hl
  generalize hQ : MQ below (va_Qi (fun r (_ : Unit) => r = rv) (kb_B D A (w_MO dA a (some (ba 0)) q1 g2 g3 g4 g5 (wa 0) (la 0) (ha 0) (ca 0) g10 g11 g12 g13 g14 g15 g16 g17 g18 u0 ++ (w_W dA wa y_w ++ (w_Looks dA la y_looks ++ (w_Who dA ha u3 ++ (w_Look dA ca u4 ++ (w_Bus dA ba bu))))))) A) ([.ref (a 0), .int x0] : List Value).toArray s 0 0 A = Q
  show W p l e ({ frames := 7, cells := 0, slots := 0, locals := 167 } : Room) s m ([.ref (a 0), .int x0] : List Value).toArray below meth c s.heap [] 0 0 Q (F0 m 0 ls [])
  have RET : ∀ (r2 : Int32) (w0 : MOT) (w3 : WhoT) (w4 : LookT) (H : Heap) (locs : List Loc) (ls : Array Slot) (pc : Nat), some (r2, w0, w3, w4) = some (rv, u0, u3, u4) → va_P D vwCl (w_MO dA a (some (ba 0)) q1 g2 g3 g4 g5 (wa 0) (la 0) (ha 0) (ca 0) g10 g11 g12 g13 g14 g15 g16 g17 g18 w0 ++ (w_W dA wa y_w ++ (w_Looks dA la y_looks ++ (w_Who dA ha w3 ++ (w_Look dA ca w4 ++ (w_Bus dA ba bu)))))) H → va_D A (w_MO dA a (some (ba 0)) q1 g2 g3 g4 g5 (wa 0) (la 0) (ha 0) (ca 0) g10 g11 g12 g13 g14 g15 g16 g17 g18 w0 ++ (w_W dA wa y_w ++ (w_Looks dA la y_looks ++ (w_Who dA ha w3 ++ (w_Look dA ca w4 ++ (w_Bus dA ba bu)))))) → va_S A s.heap H locs → decode cX12_choice pc = .ok (.ireturn, 1) → W p l e ({ frames := 7, cells := 0, slots := 0, locals := 167 } : Room) s m ([.ref (a 0), .int x0] : List Value).toArray below meth c H locs 0 0 Q (F0 m pc ls [.int r2]) := by
    intro r2 w0 w3 w4 H locs ls pc hq hP hD hS hd
    cases hq
    rw [← hQ]
    exact W.iret hx hb hr (fun t ht hW => ⟨⟨_, (), rfl, rfl, by rw [ht]; exact hP, hD⟩, hS.F ht⟩) hS.2.2 hd
  have B_5 : ∀ (v1 : Int32) (z0 : MOT) (z3 : WhoT) (z4 : LookT) (H : Heap) (locs : List Loc) (ls : Array Slot), f_X12_choice_b5 y_w y_looks bu v1 z0 z3 z4 = some (rv, u0, u3, u4) → va_P D vwCl (w_MO dA a (some (ba 0)) q1 g2 g3 g4 g5 (wa 0) (la 0) (ha 0) (ca 0) g10 g11 g12 g13 g14 g15 g16 g17 g18 z0 ++ (w_W dA wa y_w ++ (w_Looks dA la y_looks ++ (w_Who dA ha z3 ++ (w_Look dA ca z4 ++ (w_Bus dA ba bu)))))) H → va_D A (w_MO dA a (some (ba 0)) q1 g2 g3 g4 g5 (wa 0) (la 0) (ha 0) (ca 0) g10 g11 g12 g13 g14 g15 g16 g17 g18 z0 ++ (w_W dA wa y_w ++ (w_Looks dA la y_looks ++ (w_Who dA ha z3 ++ (w_Look dA ca z4 ++ (w_Bus dA ba bu)))))) → va_S A s.heap H locs → lv_has ls 3 [(0, .ref (a 0)), (1, .int v1)] → W p l e ({ frames := 7, cells := 0, slots := 0, locals := 167 } : Room) s m ([.ref (a 0), .int x0] : List Value).toArray below meth c H locs 0 0 Q (F0 m 5 ls []) := by
    intro v1 z0 z3 z4 H locs ls hf hP hD hS hl
    rw [f_X12_choice_b5] at hf
    refine lv_aload_n hx hb dX12_choice_5 rfl (lv_at hl 0 rfl) ?_
    refine lv_iload_n hx hb dX12_choice_6 rfl (lv_at hl 1 rfl) ?_
    obtain ⟨r1, hc1, hf⟩ := kb_bind hf
    refine kb_ci (ws2 := (w_MO dA a (some (ba 0)) q1 g2 g3 g4 g5 (wa 0) (la 0) (ha 0) (ca 0) g10 g11 g12 g13 g14 g15 g16 g17 g18 z0 ++ (w_W dA wa y_w ++ (w_Looks dA la y_looks ++ (w_Who dA ha z3 ++ (w_Look dA ca z4 ++ (w_Bus dA ba bu))))))) (kb_rV (n := 1) (As := [.int v1]) (rest := []) hx hb hml hown hK (c_X12_refusesChoice l D dA H.size a wa ba q1 g2 g3 g4 g5 (la 0) (ha 0) (ca 0) g10 g11 g12 g13 g14 g15 g16 g17 g18 z0 y_w bu v1 r1 hc1) ⟨ww_8_73, ww_8_70, ww_8_72, ws_101, ww_1_12, rfl, by decide, by decide⟩ rfl rfl (by decide +kernel) ⟨Nat.le_of_ble_eq_true rfl, Nat.le_of_ble_eq_true rfl⟩ hP hD hS hA hE [0, 1, 5, 6, 7, 8, 9, 10, 11, 12, 13, 14, 15, 16, 17, 18, 19, 20] rfl (by decide) 0 rfl rfl rfl hl.1 rfl (Nat.le_of_ble_eq_true rfl) dX12_choice_7 ⟨Nat.le_of_ble_eq_true rfl, Nat.le_of_ble_eq_true rfl⟩) hP hD hS hA [0, 1, 5, 6, 7, 8, 9, 10, 11, 12, 13, 14, 15, 16, 17, 18, 19, 20] [2, 3, 4] [3, 4, 0, 1, 2, 5, 6, 7, 8, 9, 10, 11, 12, 13, 14, 15, 16, 17, 18, 19, 20] rfl rfl (by decide) (by decide) rfl (by decide) (fun H locs hP hD hS => ?_)
    refine lv_istore_n (lv' := [(2, .int r1), (0, .ref (a 0)), (1, .int v1)]) hx hb dX12_choice_10 rfl hl (by decide) rfl (fun ls hl => ?_)
    refine lv_iload_n hx hb dX12_choice_11 rfl (lv_at hl 0 rfl) ?_
    refine lv_if_le (tgt := 23) hx hb dX12_choice_12 (by decide) (fun c_2 => ?_) (fun c_2 => ?_)
    · rw [if_pos c_2] at hf
      refine lv_aload_n hx hb dX12_choice_23 rfl (lv_at hl 1 rfl) ?_
      refine lv_aload_n hx hb dX12_choice_24 rfl (lv_at hl 1 rfl) ?_
      refine lv_iload_n hx hb dX12_choice_25 rfl (lv_at hl 2 rfl) ?_
      obtain ⟨r3, hc3, hf⟩ := kb_bind hf
      refine kb_ci (ws2 := (w_MO dA a (some (ba 0)) q1 g2 g3 g4 g5 (wa 0) (la 0) (ha 0) (ca 0) g10 g11 g12 g13 g14 g15 g16 g17 g18 z0 ++ (w_W dA wa y_w ++ (w_Looks dA la y_looks ++ (w_Who dA ha r3.2.1 ++ (w_Look dA ca r3.2.2 ++ (w_Bus dA ba bu))))))) (kb_rV (n := 1) (As := [.int v1]) (rest := [.ref (a 0)]) hx hb hml hown hK (c_X12_chosen l D dA H.size a wa la ha ca ba q1 g2 g3 g4 g5 g10 g11 g12 g13 g14 g15 g16 g17 g18 z0 y_w y_looks z3 z4 bu v1 r3.1 r3.2.1 r3.2.2 hc3) ⟨ww_7_194, ww_7_191, ww_7_193, ws_87, ww_1_12, rfl, by decide, by decide⟩ rfl rfl (by decide +kernel) ⟨Nat.le_of_ble_eq_true rfl, Nat.le_of_ble_eq_true rfl⟩ hP hD hS hA hE [0, 1, 2, 3, 4, 5, 6, 7, 8, 9, 10, 11, 12, 13, 14, 15, 16, 17, 18, 19, 20] rfl (by decide) 0 rfl rfl rfl hl.1 rfl (Nat.le_of_ble_eq_true rfl) dX12_choice_26 ⟨Nat.le_of_ble_eq_true rfl, Nat.le_of_ble_eq_true rfl⟩) hP hD hS hA [0, 1, 2, 3, 4, 5, 6, 7, 8, 9, 10, 11, 12, 13, 14, 15, 16, 17, 18, 19, 20] [] [0, 1, 2, 3, 4, 5, 6, 7, 8, 9, 10, 11, 12, 13, 14, 15, 16, 17, 18, 19, 20] rfl rfl (by decide) (by decide) rfl (by decide) (fun H locs hP hD hS => ?_)
      obtain ⟨r4, hc4, hf⟩ := kb_bind hf
      refine kb_ci (ws2 := (w_MO dA a (some (ba 0)) q1 g2 g3 g4 g5 (wa 0) (la 0) (ha 0) (ca 0) g10 g11 g12 g13 g14 g15 g16 g17 g18 r4.2 ++ (w_W dA wa y_w ++ (w_Looks dA la y_looks ++ (w_Who dA ha r3.2.1 ++ (w_Look dA ca r3.2.2 ++ (w_Bus dA ba bu))))))) (kb_rV (n := 1) (As := [.int r3.1]) (rest := []) hx hb hml hown hK (c_X12_done l D dA H.size a (some (ba 0)) q1 g2 g3 g4 g5 (wa 0) (la 0) (ha 0) (ca 0) g10 g11 g12 g13 g14 g15 g16 g17 g18 z0 r3.1 r4.1 r4.2 hc4) ⟨ww_7_100, ww_7_97, ww_7_99, ws_71, ww_1_12, rfl, by decide, by decide⟩ rfl rfl (by decide +kernel) ⟨Nat.le_of_ble_eq_true rfl, Nat.le_of_ble_eq_true rfl⟩ hP hD hS hA hE [0] rfl (by decide) 0 rfl rfl rfl hl.1 rfl (Nat.le_of_ble_eq_true rfl) dX12_choice_29 ⟨Nat.le_of_ble_eq_true rfl, Nat.le_of_ble_eq_true rfl⟩) hP hD hS hA [0] [1, 2, 3, 4, 5, 6, 7, 8, 9, 10, 11, 12, 13, 14, 15, 16, 17, 18, 19, 20] [20, 0, 1, 2, 3, 4, 5, 6, 7, 8, 9, 10, 11, 12, 13, 14, 15, 16, 17, 18, 19] rfl rfl (by decide) (by decide) rfl (by decide) (fun H locs hP hD hS => ?_)
      exact RET _ _ _ _ H _ ls 32 hf hP hD hS dX12_choice_32
    · rw [if_neg c_2] at hf
      refine lv_aload_n hx hb dX12_choice_15 rfl (lv_at hl 1 rfl) ?_
      refine lv_iload_n hx hb dX12_choice_16 rfl (lv_at hl 0 rfl) ?_
      obtain ⟨r5, hc5, hf⟩ := kb_bind hf
      refine kb_ci (ws2 := (w_MO dA a (some (ba 0)) q1 g2 g3 g4 g5 (wa 0) (la 0) (ha 0) (ca 0) g10 g11 g12 g13 g14 g15 g16 g17 g18 r5.2 ++ (w_W dA wa y_w ++ (w_Looks dA la y_looks ++ (w_Who dA ha z3 ++ (w_Look dA ca z4 ++ (w_Bus dA ba bu))))))) (kb_rV (n := 1) (As := [.int r1]) (rest := []) hx hb hml hown hK (c_X12_refused l D dA H.size a (some (ba 0)) q1 g2 g3 g4 g5 (wa 0) (la 0) (ha 0) (ca 0) g10 g11 g12 g13 g14 g15 g16 g17 g18 z0 r1 r5.1 r5.2 hc5) ⟨ww_6_82, ww_6_79, ww_6_81, ws_46, ww_1_12, rfl, by decide, by decide⟩ rfl rfl (by decide +kernel) ⟨Nat.le_of_ble_eq_true rfl, Nat.le_of_ble_eq_true rfl⟩ hP hD hS hA hE [0] rfl (by decide) 0 rfl rfl rfl hl.1 rfl (Nat.le_of_ble_eq_true rfl) dX12_choice_17 ⟨Nat.le_of_ble_eq_true rfl, Nat.le_of_ble_eq_true rfl⟩) hP hD hS hA [0] [1, 2, 3, 4, 5, 6, 7, 8, 9, 10, 11, 12, 13, 14, 15, 16, 17, 18, 19, 20] [20, 0, 1, 2, 3, 4, 5, 6, 7, 8, 9, 10, 11, 12, 13, 14, 15, 16, 17, 18, 19] rfl rfl (by decide) (by decide) rfl (by decide) (fun H locs hP hD hS => ?_)
      refine lv_goto (tgt := 32) hx hb dX12_choice_20 (by decide) ?_
      exact RET _ _ _ _ H _ ls 32 hf hP hD hS dX12_choice_32
  have E0 : ∀ (H : Heap) (locs : List Loc), va_P D vwCl (w_MO dA a (some (ba 0)) q1 g2 g3 g4 g5 (wa 0) (la 0) (ha 0) (ca 0) g10 g11 g12 g13 g14 g15 g16 g17 g18 mo ++ (w_W dA wa y_w ++ (w_Looks dA la y_looks ++ (w_Who dA ha y_who ++ (w_Look dA ca y_look ++ (w_Bus dA ba bu)))))) H → va_D A (w_MO dA a (some (ba 0)) q1 g2 g3 g4 g5 (wa 0) (la 0) (ha 0) (ca 0) g10 g11 g12 g13 g14 g15 g16 g17 g18 mo ++ (w_W dA wa y_w ++ (w_Looks dA la y_looks ++ (w_Who dA ha y_who ++ (w_Look dA ca y_look ++ (w_Bus dA ba bu)))))) → va_S A s.heap H locs → W p l e ({ frames := 7, cells := 0, slots := 0, locals := 167 } : Room) s m ([.ref (a 0), .int x0] : List Value).toArray below meth c H locs 0 0 Q (F0 m 0 ls []) := by
    intro H locs hP hD hS
    rw [f_X12_choice] at hf
    refine lv_aload_n hx hb dX12_choice_0 rfl (lv_at hl 0 rfl) ?_
    refine lv_iconst (v := (0 : Int32)) hx hb dX12_choice_1 (by decide) ?_
    refine va_put (D := D) (ci := 12) (v := .int (0 : Int32)) (ty := .int) (C := RX12) (T := TX12) (N := 35) hx hb hts kb_inX12 tyX12 tyX12_ok nmX12 hown hK.1 hP hD hS 0 rfl rfl 0 (by decide) (hK.2.w ww_5_200 rfl _) (fun _ h9 => h9) rfl (by decide +kernel) rfl rfl (Nat.le_of_ble_eq_true rfl) dX12_choice_2 (fun H locs hP hD hS => ?_)
    have hP : va_P D vwCl (w_MO dA a (some (ba 0)) q1 g2 g3 g4 g5 (wa 0) (la 0) (ha 0) (ca 0) g10 g11 g12 g13 g14 g15 g16 g17 g18 (mo_set_thrown mo (0 : Int32)) ++ (w_W dA wa y_w ++ (w_Looks dA la y_looks ++ (w_Who dA ha y_who ++ (w_Look dA ca y_look ++ (w_Bus dA ba bu)))))) H := hP
    have hD : va_D A (w_MO dA a (some (ba 0)) q1 g2 g3 g4 g5 (wa 0) (la 0) (ha 0) (ca 0) g10 g11 g12 g13 g14 g15 g16 g17 g18 (mo_set_thrown mo (0 : Int32)) ++ (w_W dA wa y_w ++ (w_Looks dA la y_looks ++ (w_Who dA ha y_who ++ (w_Look dA ca y_look ++ (w_Bus dA ba bu)))))) := hD
    exact B_5 _ _ _ _ _ _ _ hf hP hD hS (lv_sub hl [0, 1] rfl)
  exact E0 _ _ hP hD hS

noncomputable def f_X12_ties_b46 (y_w : WT) (y_looks : LooksT) (bu : BusT) (s0 : Int32) (z0 : MOT) (z3 : WhoT) (z4 : LookT) : Option (Int32 × MOT × WhoT × LookT) := (f_X12_done z0 s0).bind fun r7 => some (r7.1, r7.2, z3, z4)
noncomputable def f_X12_ties_b5 (y_w : WT) (y_looks : LooksT) (bu : BusT) (v1 : Int32) (z0 : MOT) (z3 : WhoT) (z4 : LookT) : Option (Int32 × MOT × WhoT × LookT) := (f_X12_refusesChoice z0 y_w bu v1).bind fun r1 => (if r1 ≤ 0 then (f_X12_chosen z0 y_w y_looks z3 z4 bu v1).bind fun r3 => (if r3.1 = (-2 : Int32) then f_X12_ties_b46 y_w y_looks bu (0 : Int32) z0 r3.2.1 r3.2.2 else (f_X12_mightChoose z0 y_w y_looks r3.2.1 r3.2.2 bu v1).bind fun r5 => (f_X12_bits r5.1).bind fun r6 => f_X12_ties_b46 y_w y_looks bu r6 z0 r5.2.1 r5.2.2) else (f_X12_refused z0 r1).bind fun r8 => some (r8.1, r8.2, z3, z4))
noncomputable def f_X12_ties (mo : MOT) (y_w : WT) (y_looks : LooksT) (y_who : WhoT) (y_look : LookT) (bu : BusT) (x0 : Int32) : Option (Int32 × MOT × WhoT × LookT) := f_X12_ties_b5 y_w y_looks bu x0 (mo_set_thrown mo (0 : Int32)) y_who y_look
set_option maxHeartbeats 4000000 in
set_option maxRecDepth 100000 in
theorem c_X12_ties (l : Launch) (D : va_G) (dA : Nat → ClassId) (sz : Nat) (a : Nat → Nat) (wa : Nat → Nat) (la : Nat → Nat) (ha : Nat → Nat) (ca : Nat → Nat) (ba : Nat → Nat) (q1 : Option Nat) (g2 : Nat) (g3 : Nat) (g4 : Nat) (g5 : Nat) (g10 : Nat) (g11 : Nat) (g12 : Nat) (g13 : Nat) (g14 : Nat) (g15 : Nat) (g16 : Nat) (g17 : Nat) (g18 : Nat) (mo : MOT) (y_w : WT) (y_looks : LooksT) (y_who : WhoT) (y_look : LookT) (bu : BusT) (x0 : Int32) (rv : Int32) (u0 : MOT) (u3 : WhoT) (u4 : LookT) (hf : f_X12_ties mo y_w y_looks y_who y_look bu x0 = some (rv, u0, u3, u4)) : kb_Mi l yX12_ties cX12_ties 3 (some .int) ({ frames := 7, cells := 0, slots := 0, locals := 167 } : Room) D dA [.ref (a 0), .int x0] sz (w_MO dA a (some (ba 0)) q1 g2 g3 g4 g5 (wa 0) (la 0) (ha 0) (ca 0) g10 g11 g12 g13 g14 g15 g16 g17 g18 mo ++ (w_W dA wa y_w ++ (w_Looks dA la y_looks ++ (w_Who dA ha y_who ++ (w_Look dA ca y_look ++ (w_Bus dA ba bu)))))) 0 0 rv (w_MO dA a (some (ba 0)) q1 g2 g3 g4 g5 (wa 0) (la 0) (ha 0) (ca 0) g10 g11 g12 g13 g14 g15 g16 g17 g18 u0 ++ (w_W dA wa y_w ++ (w_Looks dA la y_looks ++ (w_Who dA ha u3 ++ (w_Look dA ca u4 ++ (w_Bus dA ba bu)))))) := by
  refine Met.ofW (cc := cX12_ties) (maxL := 3) (ret := (some .int)) (by decide) rfl ?_
  intro p e s m args below meth c s₁ B hml hv
  obtain ⟨rfl, hsz, hP, hK, hD0, hE⟩ := hv
  have hx := B.exec
  have hb := B.bytes
  have hr := B.returns
  have hown : s.vm.findClass RX12 = some m.cls := findClass_of_methodNamed B.named
  have hlocks := B.notSynchronized
  have hts : ∀ w ∈ kb_gw, w.before ([.ref (a 0), .int x0] : List Value).toArray s = true := fun w hw => hK.2.1 w hw _
  subst hsz
  have hD := hD0.self (sz := s.heap.size)
  generalize hAe : va_A (w_MO dA a (some (ba 0)) q1 g2 g3 g4 g5 (wa 0) (la 0) (ha 0) (ca 0) g10 g11 g12 g13 g14 g15 g16 g17 g18 mo ++ (w_W dA wa y_w ++ (w_Looks dA la y_looks ++ (w_Who dA ha y_who ++ (w_Look dA ca y_look ++ (w_Bus dA ba bu)))))) s.heap.size = A at hD hE ⊢
  have hA : ∀ q : Nat, s.heap.size ≤ q → A q := fun q h => by rw [← hAe]; exact Or.inr h
  have hS : va_S A s.heap s.heap [] := va_S.rf
  have hl := lv_entry ([.ref (a 0), .int x0]) (n := 3) (Nat.le_of_ble_eq_true rfl)
  rw [lg_entry_eq]
  generalize (lg_sl ([.ref (a 0), .int x0]) ++ List.replicate (3 - (lg_sl ([.ref (a 0), .int x0])).length) Slot.unset).toArray = ls at hl ⊢
  have hl : lv_has ls 3 [(0, .ref (a 0)), (1, .int x0)] := hl
  generalize hQ : MQ below (va_Qi (fun r (_ : Unit) => r = rv) (kb_B D A (w_MO dA a (some (ba 0)) q1 g2 g3 g4 g5 (wa 0) (la 0) (ha 0) (ca 0) g10 g11 g12 g13 g14 g15 g16 g17 g18 u0 ++ (w_W dA wa y_w ++ (w_Looks dA la y_looks ++ (w_Who dA ha u3 ++ (w_Look dA ca u4 ++ (w_Bus dA ba bu))))))) A) ([.ref (a 0), .int x0] : List Value).toArray s 0 0 A = Q
  show W p l e ({ frames := 7, cells := 0, slots := 0, locals := 167 } : Room) s m ([.ref (a 0), .int x0] : List Value).toArray below meth c s.heap [] 0 0 Q (F0 m 0 ls [])
  have RET : ∀ (r2 : Int32) (w0 : MOT) (w3 : WhoT) (w4 : LookT) (H : Heap) (locs : List Loc) (ls : Array Slot) (pc : Nat), some (r2, w0, w3, w4) = some (rv, u0, u3, u4) → va_P D vwCl (w_MO dA a (some (ba 0)) q1 g2 g3 g4 g5 (wa 0) (la 0) (ha 0) (ca 0) g10 g11 g12 g13 g14 g15 g16 g17 g18 w0 ++ (w_W dA wa y_w ++ (w_Looks dA la y_looks ++ (w_Who dA ha w3 ++ (w_Look dA ca w4 ++ (w_Bus dA ba bu)))))) H → va_D A (w_MO dA a (some (ba 0)) q1 g2 g3 g4 g5 (wa 0) (la 0) (ha 0) (ca 0) g10 g11 g12 g13 g14 g15 g16 g17 g18 w0 ++ (w_W dA wa y_w ++ (w_Looks dA la y_looks ++ (w_Who dA ha w3 ++ (w_Look dA ca w4 ++ (w_Bus dA ba bu)))))) → va_S A s.heap H locs → decode cX12_ties pc = .ok (.ireturn, 1) → W p l e ({ frames := 7, cells := 0, slots := 0, locals := 167 } : Room) s m ([.ref (a 0), .int x0] : List Value).toArray below meth c H locs 0 0 Q (F0 m pc ls [.int r2]) := by
    intro r2 w0 w3 w4 H locs ls pc hq hP hD hS hd
    cases hq
    rw [← hQ]
    exact W.iret hx hb hr (fun t ht hW => ⟨⟨_, (), rfl, rfl, by rw [ht]; exact hP, hD⟩, hS.F ht⟩) hS.2.2 hd
  have B_46 : ∀ (s0 : Int32) (z0 : MOT) (z3 : WhoT) (z4 : LookT) (H : Heap) (locs : List Loc) (ls : Array Slot), f_X12_ties_b46 y_w y_looks bu s0 z0 z3 z4 = some (rv, u0, u3, u4) → va_P D vwCl (w_MO dA a (some (ba 0)) q1 g2 g3 g4 g5 (wa 0) (la 0) (ha 0) (ca 0) g10 g11 g12 g13 g14 g15 g16 g17 g18 z0 ++ (w_W dA wa y_w ++ (w_Looks dA la y_looks ++ (w_Who dA ha z3 ++ (w_Look dA ca z4 ++ (w_Bus dA ba bu)))))) H → va_D A (w_MO dA a (some (ba 0)) q1 g2 g3 g4 g5 (wa 0) (la 0) (ha 0) (ca 0) g10 g11 g12 g13 g14 g15 g16 g17 g18 z0 ++ (w_W dA wa y_w ++ (w_Looks dA la y_looks ++ (w_Who dA ha z3 ++ (w_Look dA ca z4 ++ (w_Bus dA ba bu)))))) → va_S A s.heap H locs → lv_has ls 3 [] → W p l e ({ frames := 7, cells := 0, slots := 0, locals := 167 } : Room) s m ([.ref (a 0), .int x0] : List Value).toArray below meth c H locs 0 0 Q (F0 m 46 ls [.int s0, .ref (a 0)]) := by
    intro s0 z0 z3 z4 H locs ls hf hP hD hS hl
    rw [f_X12_ties_b46] at hf
    obtain ⟨r7, hc7, hf⟩ := kb_bind hf
    refine kb_ci (ws2 := (w_MO dA a (some (ba 0)) q1 g2 g3 g4 g5 (wa 0) (la 0) (ha 0) (ca 0) g10 g11 g12 g13 g14 g15 g16 g17 g18 r7.2 ++ (w_W dA wa y_w ++ (w_Looks dA la y_looks ++ (w_Who dA ha z3 ++ (w_Look dA ca z4 ++ (w_Bus dA ba bu))))))) (kb_rV (n := 1) (As := [.int s0]) (rest := []) hx hb hml hown hK (c_X12_done l D dA H.size a (some (ba 0)) q1 g2 g3 g4 g5 (wa 0) (la 0) (ha 0) (ca 0) g10 g11 g12 g13 g14 g15 g16 g17 g18 z0 s0 r7.1 r7.2 hc7) ⟨ww_7_100, ww_7_97, ww_7_99, ws_71, ww_1_12, rfl, by decide, by decide⟩ rfl rfl (by decide +kernel) ⟨Nat.le_of_ble_eq_true rfl, Nat.le_of_ble_eq_true rfl⟩ hP hD hS hA hE [0] rfl (by decide) 0 rfl rfl rfl hl.1 rfl (Nat.le_of_ble_eq_true rfl) dX12_ties_46 ⟨Nat.le_of_ble_eq_true rfl, Nat.le_of_ble_eq_true rfl⟩) hP hD hS hA [0] [1, 2, 3, 4, 5, 6, 7, 8, 9, 10, 11, 12, 13, 14, 15, 16, 17, 18, 19, 20] [20, 0, 1, 2, 3, 4, 5, 6, 7, 8, 9, 10, 11, 12, 13, 14, 15, 16, 17, 18, 19] rfl rfl (by decide) (by decide) rfl (by decide) (fun H locs hP hD hS => ?_)
    exact RET _ _ _ _ H _ ls 49 hf hP hD hS dX12_ties_49
  have B_5 : ∀ (v1 : Int32) (z0 : MOT) (z3 : WhoT) (z4 : LookT) (H : Heap) (locs : List Loc) (ls : Array Slot), f_X12_ties_b5 y_w y_looks bu v1 z0 z3 z4 = some (rv, u0, u3, u4) → va_P D vwCl (w_MO dA a (some (ba 0)) q1 g2 g3 g4 g5 (wa 0) (la 0) (ha 0) (ca 0) g10 g11 g12 g13 g14 g15 g16 g17 g18 z0 ++ (w_W dA wa y_w ++ (w_Looks dA la y_looks ++ (w_Who dA ha z3 ++ (w_Look dA ca z4 ++ (w_Bus dA ba bu)))))) H → va_D A (w_MO dA a (some (ba 0)) q1 g2 g3 g4 g5 (wa 0) (la 0) (ha 0) (ca 0) g10 g11 g12 g13 g14 g15 g16 g17 g18 z0 ++ (w_W dA wa y_w ++ (w_Looks dA la y_looks ++ (w_Who dA ha z3 ++ (w_Look dA ca z4 ++ (w_Bus dA ba bu)))))) → va_S A s.heap H locs → lv_has ls 3 [(0, .ref (a 0)), (1, .int v1)] → W p l e ({ frames := 7, cells := 0, slots := 0, locals := 167 } : Room) s m ([.ref (a 0), .int x0] : List Value).toArray below meth c H locs 0 0 Q (F0 m 5 ls []) := by
    intro v1 z0 z3 z4 H locs ls hf hP hD hS hl
    rw [f_X12_ties_b5] at hf
    refine lv_aload_n hx hb dX12_ties_5 rfl (lv_at hl 0 rfl) ?_
    refine lv_iload_n hx hb dX12_ties_6 rfl (lv_at hl 1 rfl) ?_
    obtain ⟨r1, hc1, hf⟩ := kb_bind hf
    refine kb_ci (ws2 := (w_MO dA a (some (ba 0)) q1 g2 g3 g4 g5 (wa 0) (la 0) (ha 0) (ca 0) g10 g11 g12 g13 g14 g15 g16 g17 g18 z0 ++ (w_W dA wa y_w ++ (w_Looks dA la y_looks ++ (w_Who dA ha z3 ++ (w_Look dA ca z4 ++ (w_Bus dA ba bu))))))) (kb_rV (n := 1) (As := [.int v1]) (rest := []) hx hb hml hown hK (c_X12_refusesChoice l D dA H.size a wa ba q1 g2 g3 g4 g5 (la 0) (ha 0) (ca 0) g10 g11 g12 g13 g14 g15 g16 g17 g18 z0 y_w bu v1 r1 hc1) ⟨ww_8_73, ww_8_70, ww_8_72, ws_101, ww_1_12, rfl, by decide, by decide⟩ rfl rfl (by decide +kernel) ⟨Nat.le_of_ble_eq_true rfl, Nat.le_of_ble_eq_true rfl⟩ hP hD hS hA hE [0, 1, 5, 6, 7, 8, 9, 10, 11, 12, 13, 14, 15, 16, 17, 18, 19, 20] rfl (by decide) 0 rfl rfl rfl hl.1 rfl (Nat.le_of_ble_eq_true rfl) dX12_ties_7 ⟨Nat.le_of_ble_eq_true rfl, Nat.le_of_ble_eq_true rfl⟩) hP hD hS hA [0, 1, 5, 6, 7, 8, 9, 10, 11, 12, 13, 14, 15, 16, 17, 18, 19, 20] [2, 3, 4] [3, 4, 0, 1, 2, 5, 6, 7, 8, 9, 10, 11, 12, 13, 14, 15, 16, 17, 18, 19, 20] rfl rfl (by decide) (by decide) rfl (by decide) (fun H locs hP hD hS => ?_)
    refine lv_istore_n (lv' := [(2, .int r1), (0, .ref (a 0)), (1, .int v1)]) hx hb dX12_ties_10 rfl hl (by decide) rfl (fun ls hl => ?_)
    refine lv_iload_n hx hb dX12_ties_11 rfl (lv_at hl 0 rfl) ?_
    refine lv_if_le (tgt := 23) hx hb dX12_ties_12 (by decide) (fun c_2 => ?_) (fun c_2 => ?_)
    · rw [if_pos c_2] at hf
      refine lv_aload_n hx hb dX12_ties_23 rfl (lv_at hl 1 rfl) ?_
      refine lv_aload_n hx hb dX12_ties_24 rfl (lv_at hl 1 rfl) ?_
      refine lv_iload_n hx hb dX12_ties_25 rfl (lv_at hl 2 rfl) ?_
      obtain ⟨r3, hc3, hf⟩ := kb_bind hf
      refine kb_ci (ws2 := (w_MO dA a (some (ba 0)) q1 g2 g3 g4 g5 (wa 0) (la 0) (ha 0) (ca 0) g10 g11 g12 g13 g14 g15 g16 g17 g18 z0 ++ (w_W dA wa y_w ++ (w_Looks dA la y_looks ++ (w_Who dA ha r3.2.1 ++ (w_Look dA ca r3.2.2 ++ (w_Bus dA ba bu))))))) (kb_rV (n := 1) (As := [.int v1]) (rest := [.ref (a 0)]) hx hb hml hown hK (c_X12_chosen l D dA H.size a wa la ha ca ba q1 g2 g3 g4 g5 g10 g11 g12 g13 g14 g15 g16 g17 g18 z0 y_w y_looks z3 z4 bu v1 r3.1 r3.2.1 r3.2.2 hc3) ⟨ww_7_194, ww_7_191, ww_7_193, ws_87, ww_1_12, rfl, by decide, by decide⟩ rfl rfl (by decide +kernel) ⟨Nat.le_of_ble_eq_true rfl, Nat.le_of_ble_eq_true rfl⟩ hP hD hS hA hE [0, 1, 2, 3, 4, 5, 6, 7, 8, 9, 10, 11, 12, 13, 14, 15, 16, 17, 18, 19, 20] rfl (by decide) 0 rfl rfl rfl hl.1 rfl (Nat.le_of_ble_eq_true rfl) dX12_ties_26 ⟨Nat.le_of_ble_eq_true rfl, Nat.le_of_ble_eq_true rfl⟩) hP hD hS hA [0, 1, 2, 3, 4, 5, 6, 7, 8, 9, 10, 11, 12, 13, 14, 15, 16, 17, 18, 19, 20] [] [0, 1, 2, 3, 4, 5, 6, 7, 8, 9, 10, 11, 12, 13, 14, 15, 16, 17, 18, 19, 20] rfl rfl (by decide) (by decide) rfl (by decide) (fun H locs hP hD hS => ?_)
      refine lv_bipush (v := (-2 : Int32)) hx hb dX12_ties_29 (by decide) ?_
      refine lv_icmp_ne (tgt := 38) hx hb dX12_ties_31 (by decide) (fun c_4 => ?_) (fun c_4 => ?_)
      · rw [if_neg c_4] at hf
        refine lv_aload_n hx hb dX12_ties_38 rfl (lv_at hl 1 rfl) ?_
        refine lv_iload_n hx hb dX12_ties_39 rfl (lv_at hl 2 rfl) ?_
        obtain ⟨r5, hc5, hf⟩ := kb_bind hf
        refine kb_ci (ws2 := (w_MO dA a (some (ba 0)) q1 g2 g3 g4 g5 (wa 0) (la 0) (ha 0) (ca 0) g10 g11 g12 g13 g14 g15 g16 g17 g18 z0 ++ (w_W dA wa y_w ++ (w_Looks dA la y_looks ++ (w_Who dA ha r5.2.1 ++ (w_Look dA ca r5.2.2 ++ (w_Bus dA ba bu))))))) (kb_rV (n := 1) (As := [.int v1]) (rest := [.ref (a 0)]) hx hb hml hown hK (c_X12_mightChoose l D dA H.size a wa la ha ca ba q1 g2 g3 g4 g5 g10 g11 g12 g13 g14 g15 g16 g17 g18 z0 y_w y_looks r3.2.1 r3.2.2 bu v1 r5.1 r5.2.1 r5.2.2 hc5) ⟨ww_7_198, ww_7_195, ww_7_197, ws_88, ww_1_12, rfl, by decide, by decide⟩ rfl rfl (by decide +kernel) ⟨Nat.le_of_ble_eq_true rfl, Nat.le_of_ble_eq_true rfl⟩ hP hD hS hA hE [0, 1, 2, 3, 4, 5, 6, 7, 8, 9, 10, 11, 12, 13, 14, 15, 16, 17, 18, 19, 20] rfl (by decide) 0 rfl rfl rfl hl.1 rfl (Nat.le_of_ble_eq_true rfl) dX12_ties_40 ⟨Nat.le_of_ble_eq_true rfl, Nat.le_of_ble_eq_true rfl⟩) hP hD hS hA [0, 1, 2, 3, 4, 5, 6, 7, 8, 9, 10, 11, 12, 13, 14, 15, 16, 17, 18, 19, 20] [] [0, 1, 2, 3, 4, 5, 6, 7, 8, 9, 10, 11, 12, 13, 14, 15, 16, 17, 18, 19, 20] rfl rfl (by decide) (by decide) rfl (by decide) (fun H locs hP hD hS => ?_)
        obtain ⟨r6, hc6, hf⟩ := kb_bind hf
        refine kb_ci (ws2 := (w_MO dA a (some (ba 0)) q1 g2 g3 g4 g5 (wa 0) (la 0) (ha 0) (ca 0) g10 g11 g12 g13 g14 g15 g16 g17 g18 z0 ++ (w_W dA wa y_w ++ (w_Looks dA la y_looks ++ (w_Who dA ha r5.2.1 ++ (w_Look dA ca r5.2.2 ++ (w_Bus dA ba bu))))))) (kb_rS (n := 1) (As := [.int r5.1]) (rest := [.ref (a 0)]) hx hb hml hown hK (c_X12_bits l D dA H.size r5.1 r6 hc6) ⟨ww_8_80, ww_8_78, ww_8_79, ww_1_12, by decide, by decide⟩ rfl rfl (by decide +kernel) ⟨Nat.le_of_ble_eq_true rfl, Nat.le_of_ble_eq_true rfl⟩ hP hD hS hA hE [] rfl (by decide) rfl hl.1 rfl (Nat.le_of_ble_eq_true rfl) dX12_ties_43 ⟨Nat.le_of_ble_eq_true rfl, Nat.le_of_ble_eq_true rfl⟩) hP hD hS hA [] [0, 1, 2, 3, 4, 5, 6, 7, 8, 9, 10, 11, 12, 13, 14, 15, 16, 17, 18, 19, 20] [0, 1, 2, 3, 4, 5, 6, 7, 8, 9, 10, 11, 12, 13, 14, 15, 16, 17, 18, 19, 20] rfl rfl (by decide) (by decide) rfl (by decide) (fun H locs hP hD hS => ?_)
        exact B_46 _ _ _ _ _ _ _ hf hP hD hS (lv_sub hl [] rfl)
      · rw [if_pos c_4] at hf
        refine lv_iconst (v := (0 : Int32)) hx hb dX12_ties_34 (by decide) ?_
        refine lv_goto (tgt := 46) hx hb dX12_ties_35 (by decide) ?_
        exact B_46 _ _ _ _ _ _ _ hf hP hD hS (lv_sub hl [] rfl)
    · rw [if_neg c_2] at hf
      refine lv_aload_n hx hb dX12_ties_15 rfl (lv_at hl 1 rfl) ?_
      refine lv_iload_n hx hb dX12_ties_16 rfl (lv_at hl 0 rfl) ?_
      obtain ⟨r8, hc8, hf⟩ := kb_bind hf
      refine kb_ci (ws2 := (w_MO dA a (some (ba 0)) q1 g2 g3 g4 g5 (wa 0) (la 0) (ha 0) (ca 0) g10 g11 g12 g13 g14 g15 g16 g17 g18 r8.2 ++ (w_W dA wa y_w ++ (w_Looks dA la y_looks ++ (w_Who dA ha z3 ++ (w_Look dA ca z4 ++ (w_Bus dA ba bu))))))) (kb_rV (n := 1) (As := [.int r1]) (rest := []) hx hb hml hown hK (c_X12_refused l D dA H.size a (some (ba 0)) q1 g2 g3 g4 g5 (wa 0) (la 0) (ha 0) (ca 0) g10 g11 g12 g13 g14 g15 g16 g17 g18 z0 r1 r8.1 r8.2 hc8) ⟨ww_6_82, ww_6_79, ww_6_81, ws_46, ww_1_12, rfl, by decide, by decide⟩ rfl rfl (by decide +kernel) ⟨Nat.le_of_ble_eq_true rfl, Nat.le_of_ble_eq_true rfl⟩ hP hD hS hA hE [0] rfl (by decide) 0 rfl rfl rfl hl.1 rfl (Nat.le_of_ble_eq_true rfl) dX12_ties_17 ⟨Nat.le_of_ble_eq_true rfl, Nat.le_of_ble_eq_true rfl⟩) hP hD hS hA [0] [1, 2, 3, 4, 5, 6, 7, 8, 9, 10, 11, 12, 13, 14, 15, 16, 17, 18, 19, 20] [20, 0, 1, 2, 3, 4, 5, 6, 7, 8, 9, 10, 11, 12, 13, 14, 15, 16, 17, 18, 19] rfl rfl (by decide) (by decide) rfl (by decide) (fun H locs hP hD hS => ?_)
      refine lv_goto (tgt := 49) hx hb dX12_ties_20 (by decide) ?_
      exact RET _ _ _ _ H _ ls 49 hf hP hD hS dX12_ties_49
  have E0 : ∀ (H : Heap) (locs : List Loc), va_P D vwCl (w_MO dA a (some (ba 0)) q1 g2 g3 g4 g5 (wa 0) (la 0) (ha 0) (ca 0) g10 g11 g12 g13 g14 g15 g16 g17 g18 mo ++ (w_W dA wa y_w ++ (w_Looks dA la y_looks ++ (w_Who dA ha y_who ++ (w_Look dA ca y_look ++ (w_Bus dA ba bu)))))) H → va_D A (w_MO dA a (some (ba 0)) q1 g2 g3 g4 g5 (wa 0) (la 0) (ha 0) (ca 0) g10 g11 g12 g13 g14 g15 g16 g17 g18 mo ++ (w_W dA wa y_w ++ (w_Looks dA la y_looks ++ (w_Who dA ha y_who ++ (w_Look dA ca y_look ++ (w_Bus dA ba bu)))))) → va_S A s.heap H locs → W p l e ({ frames := 7, cells := 0, slots := 0, locals := 167 } : Room) s m ([.ref (a 0), .int x0] : List Value).toArray below meth c H locs 0 0 Q (F0 m 0 ls []) := by
    intro H locs hP hD hS
    rw [f_X12_ties] at hf
    refine lv_aload_n hx hb dX12_ties_0 rfl (lv_at hl 0 rfl) ?_
    refine lv_iconst (v := (0 : Int32)) hx hb dX12_ties_1 (by decide) ?_
    refine va_put (D := D) (ci := 12) (v := .int (0 : Int32)) (ty := .int) (C := RX12) (T := TX12) (N := 35) hx hb hts kb_inX12 tyX12 tyX12_ok nmX12 hown hK.1 hP hD hS 0 rfl rfl 0 (by decide) (hK.2.w ww_5_200 rfl _) (fun _ h9 => h9) rfl (by decide +kernel) rfl rfl (Nat.le_of_ble_eq_true rfl) dX12_ties_2 (fun H locs hP hD hS => ?_)
    have hP : va_P D vwCl (w_MO dA a (some (ba 0)) q1 g2 g3 g4 g5 (wa 0) (la 0) (ha 0) (ca 0) g10 g11 g12 g13 g14 g15 g16 g17 g18 (mo_set_thrown mo (0 : Int32)) ++ (w_W dA wa y_w ++ (w_Looks dA la y_looks ++ (w_Who dA ha y_who ++ (w_Look dA ca y_look ++ (w_Bus dA ba bu)))))) H := hP
    have hD : va_D A (w_MO dA a (some (ba 0)) q1 g2 g3 g4 g5 (wa 0) (la 0) (ha 0) (ca 0) g10 g11 g12 g13 g14 g15 g16 g17 g18 (mo_set_thrown mo (0 : Int32)) ++ (w_W dA wa y_w ++ (w_Looks dA la y_looks ++ (w_Who dA ha y_who ++ (w_Look dA ca y_look ++ (w_Bus dA ba bu)))))) := hD
    exact B_5 _ _ _ _ _ _ _ hf hP hD hS (lv_sub hl [0, 1] rfl)
  exact E0 _ _ hP hD hS
