noncomputable def f_X10_mark_r (tp : TopT) : Option (Int32 × TopT) := (if (tp_hasBus tp) = 0 then (f_X10_refused tp (1 : Int32)).bind fun r4 => some (r4.1, r4.2) else (if (tp_markCount tp) < (4 : Int32) then none else (f_X10_refused tp (3 : Int32)).bind fun r3 => some (r3.1, r3.2)))
set_option maxHeartbeats 4000000 in
set_option maxRecDepth 100000 in
theorem c_X10_mark_r (l : Launch) (D : va_G) (dA : Nat → ClassId) (sz : Nat) (t : Nat → Nat) (g0 : Nat) (g1 : Nat) (g2 : Nat) (g3 : Nat) (g4 : Nat) (g5 : Nat) (g6 : Nat) (g7 : Nat) (g8 : Nat) (tp : TopT) (rv : Int32) (u0 : TopT) (hf : f_X10_mark_r tp = some (rv, u0)) : kb_Mi l yX10_mark cX10_mark 2 (some .int) ({ frames := 1, cells := 0, slots := 0, locals := 21 } : Room) D dA [.ref (t 0)] sz (w_Top dA t g0 g1 g2 g3 g4 g5 g6 g7 g8 tp) 0 0 rv (w_Top dA t g0 g1 g2 g3 g4 g5 g6 g7 g8 u0) := by
  refine Met.ofW (cc := cX10_mark) (maxL := 2) (ret := (some .int)) (by decide) rfl ?_
  intro p e s m args below meth c s₁ B hml hv
  obtain ⟨rfl, hsz, hP, hK, hD0, hE⟩ := hv
  have hx := B.exec
  have hb := B.bytes
  have hr := B.returns
  have hown : s.vm.findClass RX10 = some m.cls := findClass_of_methodNamed B.named
  have hlocks := B.notSynchronized
  have hts : ∀ w ∈ kb_gw, w.before ([.ref (t 0)] : List Value).toArray s = true := fun w hw => hK.2.1 w hw _
  subst hsz
  have hD := hD0.self (sz := s.heap.size)
  generalize hAe : va_A (w_Top dA t g0 g1 g2 g3 g4 g5 g6 g7 g8 tp) s.heap.size = A at hD hE ⊢
  have hA : ∀ q : Nat, s.heap.size ≤ q → A q := fun q h => by rw [← hAe]; exact Or.inr h
  have hS : va_S A s.heap s.heap [] := va_S.rf
  have hl := lv_entry ([.ref (t 0)]) (n := 2) (Nat.le_of_ble_eq_true rfl)
  rw [lg_entry_eq]
  generalize (lg_sl ([.ref (t 0)]) ++ List.replicate (2 - (lg_sl ([.ref (t 0)])).length) Slot.unset).toArray = ls at hl ⊢
  have hl : lv_has ls 2 [(0, .ref (t 0))] := hl
  generalize hQ : MQ below (va_Qi (fun r (_ : Unit) => r = rv) (kb_B D A (w_Top dA t g0 g1 g2 g3 g4 g5 g6 g7 g8 u0)) A) ([.ref (t 0)] : List Value).toArray s 0 0 A = Q
  show W p l e ({ frames := 1, cells := 0, slots := 0, locals := 21 } : Room) s m ([.ref (t 0)] : List Value).toArray below meth c s.heap [] 0 0 Q (F0 m 0 ls [])
  have RET : ∀ (r2 : Int32) (w0 : TopT) (H : Heap) (locs : List Loc) (ls : Array Slot) (pc : Nat), some (r2, w0) = some (rv, u0) → va_P D vwCl (w_Top dA t g0 g1 g2 g3 g4 g5 g6 g7 g8 w0) H → va_D A (w_Top dA t g0 g1 g2 g3 g4 g5 g6 g7 g8 w0) → va_S A s.heap H locs → decode cX10_mark pc = .ok (.ireturn, 1) → W p l e ({ frames := 1, cells := 0, slots := 0, locals := 21 } : Room) s m ([.ref (t 0)] : List Value).toArray below meth c H locs 0 0 Q (F0 m pc ls [.int r2]) := by
    intro r2 w0 H locs ls pc hq hP hD hS hd
    cases hq
    rw [← hQ]
    exact W.iret hx hb hr (fun t ht hW => ⟨⟨_, (), rfl, rfl, by rw [ht]; exact hP, hD⟩, hS.F ht⟩) hS.2.2 hd
  have E0 : ∀ (H : Heap) (locs : List Loc), va_P D vwCl (w_Top dA t g0 g1 g2 g3 g4 g5 g6 g7 g8 tp) H → va_D A (w_Top dA t g0 g1 g2 g3 g4 g5 g6 g7 g8 tp) → va_S A s.heap H locs → W p l e ({ frames := 1, cells := 0, slots := 0, locals := 21 } : Room) s m ([.ref (t 0)] : List Value).toArray below meth c H locs 0 0 Q (F0 m 0 ls []) := by
    intro H locs hP hD hS
    rw [f_X10_mark_r] at hf
    refine lv_aload_n hx hb dX10_mark_0 rfl (lv_at hl 0 rfl) ?_
    refine va_get (D := D) (ci := 10) (v := .int (tp_hasBus tp)) (C := RX10) (T := TX10) (N := 12) hx hb hts kb_inX10 hown hK.1 hP 0 rfl rfl 3 (by decide) (hK.2.w ww_2_155 rfl _) (fun _ h9 => h9) rfl dX10_mark_1 ?_
    refine lv_if_ne (tgt := 13) hx hb dX10_mark_4 (by decide) (fun c_1 => ?_) (fun c_1 => ?_)
    · rw [if_neg c_1] at hf
      refine lv_aload_n hx hb dX10_mark_13 rfl (lv_at hl 0 rfl) ?_
      refine va_get (D := D) (ci := 10) (v := .int (tp_markCount tp)) (C := RX10) (T := TX10) (N := 12) hx hb hts kb_inX10 hown hK.1 hP 0 rfl rfl 6 (by decide) (hK.2.w ww_2_158 rfl _) (fun _ h9 => h9) rfl dX10_mark_14 ?_
      refine lv_iconst (v := (4 : Int32)) hx hb dX10_mark_17 (by decide) ?_
      refine lv_icmp_lt (tgt := 27) hx hb dX10_mark_18 (by decide) (fun c_2 => ?_) (fun c_2 => ?_)
      · rw [if_pos c_2] at hf
        refine lv_aload_n hx hb dX10_mark_27 rfl (lv_at hl 0 rfl) ?_
        refine va_get (D := D) (ci := 10) (v := .ref g4) (C := RX10) (T := TX10) (N := 12) hx hb hts kb_inX10 hown hK.1 hP 0 rfl rfl 5 (by decide) (hK.2.w ww_2_157 rfl _) (fun _ h9 => h9) rfl dX10_mark_28 ?_
        refine lv_aload_n hx hb dX10_mark_31 rfl (lv_at hl 0 rfl) ?_
        refine va_get (D := D) (ci := 10) (v := .int (tp_markCount tp)) (C := RX10) (T := TX10) (N := 12) hx hb hts kb_inX10 hown hK.1 hP 0 rfl rfl 6 (by decide) (hK.2.w ww_2_158 rfl _) (fun _ h9 => h9) rfl dX10_mark_32 ?_
        cases hf
      · rw [if_neg c_2] at hf
        refine lv_aload_n hx hb dX10_mark_21 rfl (lv_at hl 0 rfl) ?_
        refine lv_iconst (v := (3 : Int32)) hx hb dX10_mark_22 (by decide) ?_
        obtain ⟨r3, hc3, hf⟩ := kb_bind hf
        refine kb_ci (ws2 := (w_Top dA t g0 g1 g2 g3 g4 g5 g6 g7 g8 r3.2)) (kb_rV (n := 1) (As := [.int (3 : Int32)]) (rest := []) hx hb hml hown hK (c_X10_refused l D dA H.size t g0 g1 g2 g3 g4 g5 g6 g7 g8 tp (3 : Int32) r3.1 r3.2 hc3) ⟨ww_2_204, ww_2_201, ww_2_203, ws_0, ww_1_1, rfl, by decide, by decide⟩ rfl rfl (by decide +kernel) ⟨Nat.le_of_ble_eq_true rfl, Nat.le_of_ble_eq_true rfl⟩ hP hD hS hA hE [0] rfl (by decide) 0 rfl rfl rfl hl.1 rfl (Nat.le_of_ble_eq_true rfl) dX10_mark_23 ⟨Nat.le_of_ble_eq_true rfl, Nat.le_of_ble_eq_true rfl⟩) hP hD hS hA [0] [] [0] rfl rfl (by decide) (by decide) rfl (by decide) (fun H locs hP hD hS => ?_)
        exact RET _ _ H _ ls 26 hf hP hD hS dX10_mark_26
    · rw [if_pos c_1] at hf
      refine lv_aload_n hx hb dX10_mark_7 rfl (lv_at hl 0 rfl) ?_
      refine lv_iconst (v := (1 : Int32)) hx hb dX10_mark_8 (by decide) ?_
      obtain ⟨r4, hc4, hf⟩ := kb_bind hf
      refine kb_ci (ws2 := (w_Top dA t g0 g1 g2 g3 g4 g5 g6 g7 g8 r4.2)) (kb_rV (n := 1) (As := [.int (1 : Int32)]) (rest := []) hx hb hml hown hK (c_X10_refused l D dA H.size t g0 g1 g2 g3 g4 g5 g6 g7 g8 tp (1 : Int32) r4.1 r4.2 hc4) ⟨ww_2_204, ww_2_201, ww_2_203, ws_0, ww_1_1, rfl, by decide, by decide⟩ rfl rfl (by decide +kernel) ⟨Nat.le_of_ble_eq_true rfl, Nat.le_of_ble_eq_true rfl⟩ hP hD hS hA hE [0] rfl (by decide) 0 rfl rfl rfl hl.1 rfl (Nat.le_of_ble_eq_true rfl) dX10_mark_9 ⟨Nat.le_of_ble_eq_true rfl, Nat.le_of_ble_eq_true rfl⟩) hP hD hS hA [0] [] [0] rfl rfl (by decide) (by decide) rfl (by decide) (fun H locs hP hD hS => ?_)
      exact RET _ _ H _ ls 12 hf hP hD hS dX10_mark_12
  exact E0 _ _ hP hD hS

noncomputable def f_X10_back_r_b12 (z0 : TopT) : Option (Int32 × TopT) := some ((0 : Int32), (tp_set_latestTrouble z0 (1 : Int32)))
noncomputable def f_X10_back_r (tp : TopT) (x0 : Int32) : Option (Int32 × TopT) := (if x0 < 0 then f_X10_back_r_b12 tp else (if x0 < (tp_markCount tp) then none else f_X10_back_r_b12 tp))
set_option maxHeartbeats 4000000 in
set_option maxRecDepth 100000 in
theorem c_X10_back_r (l : Launch) (D : va_G) (dA : Nat → ClassId) (sz : Nat) (t : Nat → Nat) (g0 : Nat) (g1 : Nat) (g2 : Nat) (g3 : Nat) (g4 : Nat) (g5 : Nat) (g6 : Nat) (g7 : Nat) (g8 : Nat) (tp : TopT) (x0 : Int32) (rv : Int32) (u0 : TopT) (hf : f_X10_back_r tp x0 = some (rv, u0)) : kb_Mi l yX10_back cX10_back 3 (some .boolean) ({ frames := 0, cells := 0, slots := 0, locals := 0 } : Room) D dA [.ref (t 0), .int x0] sz (w_Top dA t g0 g1 g2 g3 g4 g5 g6 g7 g8 tp) 0 0 rv (w_Top dA t g0 g1 g2 g3 g4 g5 g6 g7 g8 u0) := by
  refine Met.ofW (cc := cX10_back) (maxL := 3) (ret := (some .boolean)) (by decide) rfl ?_
  intro p e s m args below meth c s₁ B hml hv
  obtain ⟨rfl, hsz, hP, hK, hD0, hE⟩ := hv
  have hx := B.exec
  have hb := B.bytes
  have hr := B.returns
  have hown : s.vm.findClass RX10 = some m.cls := findClass_of_methodNamed B.named
  have hlocks := B.notSynchronized
  have hts : ∀ w ∈ kb_gw, w.before ([.ref (t 0), .int x0] : List Value).toArray s = true := fun w hw => hK.2.1 w hw _
  subst hsz
  have hD := hD0.self (sz := s.heap.size)
  generalize hAe : va_A (w_Top dA t g0 g1 g2 g3 g4 g5 g6 g7 g8 tp) s.heap.size = A at hD hE ⊢
  have hA : ∀ q : Nat, s.heap.size ≤ q → A q := fun q h => by rw [← hAe]; exact Or.inr h
  have hS : va_S A s.heap s.heap [] := va_S.rf
  have hl := lv_entry ([.ref (t 0), .int x0]) (n := 3) (Nat.le_of_ble_eq_true rfl)
  rw [lg_entry_eq]
  generalize (lg_sl ([.ref (t 0), .int x0]) ++ List.replicate (3 - (lg_sl ([.ref (t 0), .int x0])).length) Slot.unset).toArray = ls at hl ⊢
  have hl : lv_has ls 3 [(0, .ref (t 0)), (1, .int x0)] := hl
  generalize hQ : MQ below (va_Qi (fun r (_ : Unit) => r = rv) (kb_B D A (w_Top dA t g0 g1 g2 g3 g4 g5 g6 g7 g8 u0)) A) ([.ref (t 0), .int x0] : List Value).toArray s 0 0 A = Q
  show W p l e ({ frames := 0, cells := 0, slots := 0, locals := 0 } : Room) s m ([.ref (t 0), .int x0] : List Value).toArray below meth c s.heap [] 0 0 Q (F0 m 0 ls [])
  have RET : ∀ (r2 : Int32) (w0 : TopT) (H : Heap) (locs : List Loc) (ls : Array Slot) (pc : Nat), some (r2, w0) = some (rv, u0) → va_P D vwCl (w_Top dA t g0 g1 g2 g3 g4 g5 g6 g7 g8 w0) H → va_D A (w_Top dA t g0 g1 g2 g3 g4 g5 g6 g7 g8 w0) → va_S A s.heap H locs → kb_01 r2 → decode cX10_back pc = .ok (.ireturn, 1) → W p l e ({ frames := 0, cells := 0, slots := 0, locals := 0 } : Room) s m ([.ref (t 0), .int x0] : List Value).toArray below meth c H locs 0 0 Q (F0 m pc ls [.int r2]) := by
    intro r2 w0 H locs ls pc hq hP hD hS h01 hd
    cases hq
    rw [← hQ]
    exact W.zret (ty := .boolean) hx hb hr (kb_nz h01) (fun t ht hW => ⟨⟨_, (), rfl, rfl, by rw [ht]; exact hP, hD⟩, hS.F ht⟩) hS.2.2 hd
  have B_12 : ∀ (z0 : TopT) (H : Heap) (locs : List Loc) (ls : Array Slot), f_X10_back_r_b12 z0 = some (rv, u0) → va_P D vwCl (w_Top dA t g0 g1 g2 g3 g4 g5 g6 g7 g8 z0) H → va_D A (w_Top dA t g0 g1 g2 g3 g4 g5 g6 g7 g8 z0) → va_S A s.heap H locs → lv_has ls 3 [(0, .ref (t 0))] → W p l e ({ frames := 0, cells := 0, slots := 0, locals := 0 } : Room) s m ([.ref (t 0), .int x0] : List Value).toArray below meth c H locs 0 0 Q (F0 m 12 ls []) := by
    intro z0 H locs ls hf hP hD hS hl
    rw [f_X10_back_r_b12] at hf
    refine lv_null hx hb dX10_back_12 ?_
    refine lv_goto (tgt := 22) hx hb dX10_back_13 (by decide) ?_
    refine lv_astore_nN (lv' := [(2, .null), (0, .ref (t 0))]) hx hb dX10_back_22 rfl hl (by decide) rfl (fun ls hl => ?_)
    refine lv_aload_nN hx hb dX10_back_23 rfl (lv_at hl 0 rfl) ?_
    refine lv_ifnonnullN hx hb dX10_back_24 ?_
    refine lv_aload_n hx hb dX10_back_27 rfl (lv_at hl 1 rfl) ?_
    refine lv_iconst (v := (1 : Int32)) hx hb dX10_back_28 (by decide) ?_
    refine va_put (D := D) (ci := 10) (v := .int (1 : Int32)) (ty := .int) (C := RX10) (T := TX10) (N := 12) hx hb hts kb_inX10 tyX10 tyX10_ok nmX10 hown hK.1 hP hD hS 0 rfl rfl 11 (by decide) (hK.2.w ww_2_163 rfl _) (fun _ h9 => h9) rfl (by decide +kernel) rfl rfl (Nat.le_of_ble_eq_true rfl) dX10_back_29 (fun H locs hP hD hS => ?_)
    have hP : va_P D vwCl (w_Top dA t g0 g1 g2 g3 g4 g5 g6 g7 g8 (tp_set_latestTrouble z0 (1 : Int32))) H := hP
    have hD : va_D A (w_Top dA t g0 g1 g2 g3 g4 g5 g6 g7 g8 (tp_set_latestTrouble z0 (1 : Int32))) := hD
    refine lv_iconst (v := (0 : Int32)) hx hb dX10_back_32 (by decide) ?_
    exact RET _ _ H _ ls 33 hf hP hD hS (by decide) dX10_back_33
  have E0 : ∀ (H : Heap) (locs : List Loc), va_P D vwCl (w_Top dA t g0 g1 g2 g3 g4 g5 g6 g7 g8 tp) H → va_D A (w_Top dA t g0 g1 g2 g3 g4 g5 g6 g7 g8 tp) → va_S A s.heap H locs → W p l e ({ frames := 0, cells := 0, slots := 0, locals := 0 } : Room) s m ([.ref (t 0), .int x0] : List Value).toArray below meth c H locs 0 0 Q (F0 m 0 ls []) := by
    intro H locs hP hD hS
    rw [f_X10_back_r] at hf
    refine lv_iload_n hx hb dX10_back_0 rfl (lv_at hl 1 rfl) ?_
    refine lv_if_lt (tgt := 12) hx hb dX10_back_1 (by decide) (fun c_1 => ?_) (fun c_1 => ?_)
    · rw [if_pos c_1] at hf
      exact B_12 _ _ _ _ hf hP hD hS (lv_sub hl [0] rfl)
    · rw [if_neg c_1] at hf
      refine lv_iload_n hx hb dX10_back_4 rfl (lv_at hl 1 rfl) ?_
      refine lv_aload_n hx hb dX10_back_5 rfl (lv_at hl 0 rfl) ?_
      refine va_get (D := D) (ci := 10) (v := .int (tp_markCount tp)) (C := RX10) (T := TX10) (N := 12) hx hb hts kb_inX10 hown hK.1 hP 0 rfl rfl 6 (by decide) (hK.2.w ww_2_158 rfl _) (fun _ h9 => h9) rfl dX10_back_6 ?_
      refine lv_icmp_lt (tgt := 16) hx hb dX10_back_9 (by decide) (fun c_2 => ?_) (fun c_2 => ?_)
      · rw [if_pos c_2] at hf
        refine lv_aload_n hx hb dX10_back_16 rfl (lv_at hl 0 rfl) ?_
        refine va_get (D := D) (ci := 10) (v := .ref g4) (C := RX10) (T := TX10) (N := 12) hx hb hts kb_inX10 hown hK.1 hP 0 rfl rfl 5 (by decide) (hK.2.w ww_2_157 rfl _) (fun _ h9 => h9) rfl dX10_back_17 ?_
        refine lv_iload_n hx hb dX10_back_20 rfl (lv_at hl 1 rfl) ?_
        cases hf
      · rw [if_neg c_2] at hf
        exact B_12 _ _ _ _ hf hP hD hS (lv_sub hl [0] rfl)
  exact E0 _ _ hP hD hS

noncomputable def f_X10_mark_k (tp : TopT) (km : qRide4T) (rd : RideT) (rk : RideT) : Option (Int32 × TopT × RideT) := (if (tp_hasBus tp) = 0 then none else (if (tp_markCount tp) < (4 : Int32) then if kb_in? (tp_markCount tp) 4 then (f_X6_copyFrom rk rd).bind fun r4 => (f_X10_answered (tp_set_markCount tp ((tp_markCount tp) + (1 : Int32))) ((tp_markCount (tp_set_markCount tp ((tp_markCount tp) + (1 : Int32)))) - (1 : Int32))).bind fun r5 => some (r5.1, r5.2, r4) else none else none))
set_option maxHeartbeats 4000000 in
set_option maxRecDepth 100000 in
theorem c_X10_mark_k (l : Launch) (D : va_G) (dA : Nat → ClassId) (sz : Nat) (t : Nat → Nat) (ma : Nat → Nat) (a : Nat → Nat) (kb : Nat → Nat) (g0 : Nat) (g1 : Nat) (g2 : Nat) (g5 : Nat) (g6 : Nat) (g7 : Nat) (g8 : Nat) (h0 : Nat) (h1 : Nat) (k0 : Nat) (k1 : Nat) (tp : TopT) (km : qRide4T) (rd : RideT) (rk : RideT) (rv : Int32) (u0 : TopT) (u3 : RideT) (hpin : (zqRide4_r km) ((tp_markCount tp)).toNatClampNeg = some (kb 0)) (hf : f_X10_mark_k tp km rd rk = some (rv, u0, u3)) : kb_Mi l yX10_mark cX10_mark 2 (some .int) ({ frames := 3, cells := 0, slots := 0, locals := 106 } : Room) D dA [.ref (t 0)] sz (w_Top dA t g0 g1 g2 (a 0) (ma 0) g5 g6 g7 g8 tp ++ (w_qRide4 dA ma km ++ (w_Ride dA a h0 h1 rd ++ (w_Ride dA kb k0 k1 rk)))) 0 0 rv (w_Top dA t g0 g1 g2 (a 0) (ma 0) g5 g6 g7 g8 u0 ++ (w_qRide4 dA ma km ++ (w_Ride dA a h0 h1 rd ++ (w_Ride dA kb h0 h1 u3)))) := by
  refine Met.ofW (cc := cX10_mark) (maxL := 2) (ret := (some .int)) (by decide) rfl ?_
  intro p e s m args below meth c s₁ B hml hv
  obtain ⟨rfl, hsz, hP, hK, hD0, hE⟩ := hv
  have hx := B.exec
  have hb := B.bytes
  have hr := B.returns
  have hown : s.vm.findClass RX10 = some m.cls := findClass_of_methodNamed B.named
  have hlocks := B.notSynchronized
  have hts : ∀ w ∈ kb_gw, w.before ([.ref (t 0)] : List Value).toArray s = true := fun w hw => hK.2.1 w hw _
  subst hsz
  have hD := hD0.self (sz := s.heap.size)
  generalize hAe : va_A (w_Top dA t g0 g1 g2 (a 0) (ma 0) g5 g6 g7 g8 tp ++ (w_qRide4 dA ma km ++ (w_Ride dA a h0 h1 rd ++ (w_Ride dA kb k0 k1 rk)))) s.heap.size = A at hD hE ⊢
  have hA : ∀ q : Nat, s.heap.size ≤ q → A q := fun q h => by rw [← hAe]; exact Or.inr h
  have hS : va_S A s.heap s.heap [] := va_S.rf
  have hl := lv_entry ([.ref (t 0)]) (n := 2) (Nat.le_of_ble_eq_true rfl)
  rw [lg_entry_eq]
  generalize (lg_sl ([.ref (t 0)]) ++ List.replicate (2 - (lg_sl ([.ref (t 0)])).length) Slot.unset).toArray = ls at hl ⊢
  have hl : lv_has ls 2 [(0, .ref (t 0))] := hl
  generalize hQ : MQ below (va_Qi (fun r (_ : Unit) => r = rv) (kb_B D A (w_Top dA t g0 g1 g2 (a 0) (ma 0) g5 g6 g7 g8 u0 ++ (w_qRide4 dA ma km ++ (w_Ride dA a h0 h1 rd ++ (w_Ride dA kb h0 h1 u3))))) A) ([.ref (t 0)] : List Value).toArray s 0 0 A = Q
  show W p l e ({ frames := 3, cells := 0, slots := 0, locals := 106 } : Room) s m ([.ref (t 0)] : List Value).toArray below meth c s.heap [] 0 0 Q (F0 m 0 ls [])
  have RET : ∀ (r2 : Int32) (w0 : TopT) (w3 : RideT) (H : Heap) (locs : List Loc) (ls : Array Slot) (pc : Nat), some (r2, w0, w3) = some (rv, u0, u3) → va_P D vwCl (w_Top dA t g0 g1 g2 (a 0) (ma 0) g5 g6 g7 g8 w0 ++ (w_qRide4 dA ma km ++ (w_Ride dA a h0 h1 rd ++ (w_Ride dA kb h0 h1 w3)))) H → va_D A (w_Top dA t g0 g1 g2 (a 0) (ma 0) g5 g6 g7 g8 w0 ++ (w_qRide4 dA ma km ++ (w_Ride dA a h0 h1 rd ++ (w_Ride dA kb h0 h1 w3)))) → va_S A s.heap H locs → decode cX10_mark pc = .ok (.ireturn, 1) → W p l e ({ frames := 3, cells := 0, slots := 0, locals := 106 } : Room) s m ([.ref (t 0)] : List Value).toArray below meth c H locs 0 0 Q (F0 m pc ls [.int r2]) := by
    intro r2 w0 w3 H locs ls pc hq hP hD hS hd
    cases hq
    rw [← hQ]
    exact W.iret hx hb hr (fun t ht hW => ⟨⟨_, (), rfl, rfl, by rw [ht]; exact hP, hD⟩, hS.F ht⟩) hS.2.2 hd
  have E0 : ∀ (H : Heap) (locs : List Loc), va_P D vwCl (w_Top dA t g0 g1 g2 (a 0) (ma 0) g5 g6 g7 g8 tp ++ (w_qRide4 dA ma km ++ (w_Ride dA a h0 h1 rd ++ (w_Ride dA kb k0 k1 rk)))) H → va_D A (w_Top dA t g0 g1 g2 (a 0) (ma 0) g5 g6 g7 g8 tp ++ (w_qRide4 dA ma km ++ (w_Ride dA a h0 h1 rd ++ (w_Ride dA kb k0 k1 rk)))) → va_S A s.heap H locs → W p l e ({ frames := 3, cells := 0, slots := 0, locals := 106 } : Room) s m ([.ref (t 0)] : List Value).toArray below meth c H locs 0 0 Q (F0 m 0 ls []) := by
    intro H locs hP hD hS
    rw [f_X10_mark_k] at hf
    refine lv_aload_n hx hb dX10_mark_0 rfl (lv_at hl 0 rfl) ?_
    refine va_get (D := D) (ci := 10) (v := .int (tp_hasBus tp)) (C := RX10) (T := TX10) (N := 12) hx hb hts kb_inX10 hown hK.1 hP 0 rfl rfl 3 (by decide) (hK.2.w ww_2_155 rfl _) (fun _ h9 => h9) rfl dX10_mark_1 ?_
    refine lv_if_ne (tgt := 13) hx hb dX10_mark_4 (by decide) (fun c_1 => ?_) (fun c_1 => ?_)
    · rw [if_neg c_1] at hf
      refine lv_aload_n hx hb dX10_mark_13 rfl (lv_at hl 0 rfl) ?_
      refine va_get (D := D) (ci := 10) (v := .int (tp_markCount tp)) (C := RX10) (T := TX10) (N := 12) hx hb hts kb_inX10 hown hK.1 hP 0 rfl rfl 6 (by decide) (hK.2.w ww_2_158 rfl _) (fun _ h9 => h9) rfl dX10_mark_14 ?_
      refine lv_iconst (v := (4 : Int32)) hx hb dX10_mark_17 (by decide) ?_
      refine lv_icmp_lt (tgt := 27) hx hb dX10_mark_18 (by decide) (fun c_2 => ?_) (fun c_2 => ?_)
      · rw [if_pos c_2] at hf
        refine lv_aload_n hx hb dX10_mark_27 rfl (lv_at hl 0 rfl) ?_
        refine va_get (D := D) (ci := 10) (v := .ref (ma 0)) (C := RX10) (T := TX10) (N := 12) hx hb hts kb_inX10 hown hK.1 hP 0 rfl rfl 5 (by decide) (hK.2.w ww_2_157 rfl _) (fun _ h9 => h9) rfl dX10_mark_28 ?_
        refine lv_aload_n hx hb dX10_mark_31 rfl (lv_at hl 0 rfl) ?_
        refine va_get (D := D) (ci := 10) (v := .int (tp_markCount tp)) (C := RX10) (T := TX10) (N := 12) hx hb hts kb_inX10 hown hK.1 hP 0 rfl rfl 6 (by decide) (hK.2.w ww_2_158 rfl _) (fun _ h9 => h9) rfl dX10_mark_32 ?_
        obtain ⟨h_3, hf⟩ := kb_if hf
        refine va_aldq (D := D) hx hb hK.1 hP 1 4 rfl rfl h_3 dX10_mark_35 ?_
        rw [hpin]
        show W p l e ({ frames := 3, cells := 0, slots := 0, locals := 106 } : Room) s m ([.ref (t 0)] : List Value).toArray below meth c _ _ 0 0 Q (F0 m 36 _ [.ref (kb 0)])
        refine lv_astore_n (lv' := [(1, .ref (kb 0)), (0, .ref (t 0))]) hx hb dX10_mark_36 rfl hl (by decide) rfl (fun ls hl => ?_)
        refine lv_aload_n hx hb dX10_mark_37 rfl (lv_at hl 0 rfl) ?_
        refine lv_ifnonnull (tgt := 63) hx hb dX10_mark_38 (by decide) ?_
        refine lv_aload_n hx hb dX10_mark_63 rfl (lv_at hl 0 rfl) ?_
        refine lv_aload_n hx hb dX10_mark_64 rfl (lv_at hl 1 rfl) ?_
        refine va_get (D := D) (ci := 10) (v := .ref (a 0)) (C := RX10) (T := TX10) (N := 12) hx hb hts kb_inX10 hown hK.1 hP 0 rfl rfl 4 (by decide) (hK.2.w ww_2_156 rfl _) (fun _ h9 => h9) rfl dX10_mark_65 ?_
        obtain ⟨r4, hc4, hf⟩ := kb_bind hf
        refine kb_cv (ws2 := (w_Top dA t g0 g1 g2 (a 0) (ma 0) g5 g6 g7 g8 tp ++ (w_qRide4 dA ma km ++ (w_Ride dA a h0 h1 rd ++ (w_Ride dA kb h0 h1 r4))))) (kb_rV (n := 1) (As := [.ref (a 0)]) (rest := []) hx hb hml hown hK (c_X6_copyFrom l D dA H.size kb a k0 k1 h0 h1 rk rd r4 hc4) ⟨ww_4_133, ww_4_130, ww_4_131, ww_4_132, ww_1_8, rfl, by decide, by decide⟩ rfl rfl (by decide +kernel) ⟨Nat.le_of_ble_eq_true rfl, Nat.le_of_ble_eq_true rfl⟩ hP hD hS hA hE [11, 12, 13, 14, 15, 16, 17, 18, 19, 2, 3, 4, 5, 6, 7, 8, 9, 10] rfl (by decide) 0 rfl rfl rfl hl.1 rfl (Nat.le_of_ble_eq_true rfl) dX10_mark_68 ⟨Nat.le_of_ble_eq_true rfl, Nat.le_of_ble_eq_true rfl⟩) hP hD hS hA [11, 12, 13, 14, 15, 16, 17, 18, 19, 2, 3, 4, 5, 6, 7, 8, 9, 10] [0, 1] [0, 1, 11, 12, 13, 14, 15, 16, 17, 18, 19, 2, 3, 4, 5, 6, 7, 8, 9, 10] rfl rfl (by decide) (by decide) rfl (by decide) (fun H locs hP hD hS => ?_)
        refine lv_aload_n hx hb dX10_mark_71 rfl (lv_at hl 1 rfl) ?_
        refine lv_dup hx hb dX10_mark_72 rfl ?_
        refine va_get (D := D) (ci := 10) (v := .int (tp_markCount tp)) (C := RX10) (T := TX10) (N := 12) hx hb hts kb_inX10 hown hK.1 hP 0 rfl rfl 6 (by decide) (hK.2.w ww_2_158 rfl _) (fun _ h9 => h9) rfl dX10_mark_73 ?_
        refine lv_iconst (v := (1 : Int32)) hx hb dX10_mark_76 (by decide) ?_
        refine lv_iadd hx hb dX10_mark_77 ?_
        refine va_put (D := D) (ci := 10) (v := .int ((tp_markCount tp) + (1 : Int32))) (ty := .int) (C := RX10) (T := TX10) (N := 12) hx hb hts kb_inX10 tyX10 tyX10_ok nmX10 hown hK.1 hP hD hS 0 rfl rfl 6 (by decide) (hK.2.w ww_2_158 rfl _) (fun _ h9 => h9) rfl (by decide +kernel) rfl rfl (Nat.le_of_ble_eq_true rfl) dX10_mark_78 (fun H locs hP hD hS => ?_)
        have hP : va_P D vwCl (w_Top dA t g0 g1 g2 (a 0) (ma 0) g5 g6 g7 g8 (tp_set_markCount tp ((tp_markCount tp) + (1 : Int32))) ++ (w_qRide4 dA ma km ++ (w_Ride dA a h0 h1 rd ++ (w_Ride dA kb h0 h1 r4)))) H := hP
        have hD : va_D A (w_Top dA t g0 g1 g2 (a 0) (ma 0) g5 g6 g7 g8 (tp_set_markCount tp ((tp_markCount tp) + (1 : Int32))) ++ (w_qRide4 dA ma km ++ (w_Ride dA a h0 h1 rd ++ (w_Ride dA kb h0 h1 r4)))) := hD
        refine lv_aload_n hx hb dX10_mark_81 rfl (lv_at hl 1 rfl) ?_
        refine lv_aload_n hx hb dX10_mark_82 rfl (lv_at hl 1 rfl) ?_
        refine va_get (D := D) (ci := 10) (v := .int (tp_markCount (tp_set_markCount tp ((tp_markCount tp) + (1 : Int32))))) (C := RX10) (T := TX10) (N := 12) hx hb hts kb_inX10 hown hK.1 hP 0 rfl rfl 6 (by decide) (hK.2.w ww_2_158 rfl _) (fun _ h9 => h9) rfl dX10_mark_83 ?_
        refine lv_iconst (v := (1 : Int32)) hx hb dX10_mark_86 (by decide) ?_
        refine lv_isub hx hb dX10_mark_87 ?_
        obtain ⟨r5, hc5, hf⟩ := kb_bind hf
        refine kb_ci (ws2 := (w_Top dA t g0 g1 g2 (a 0) (ma 0) g5 g6 g7 g8 r5.2 ++ (w_qRide4 dA ma km ++ (w_Ride dA a h0 h1 rd ++ (w_Ride dA kb h0 h1 r4))))) (kb_rV (n := 1) (As := [.int ((tp_markCount (tp_set_markCount tp ((tp_markCount tp) + (1 : Int32)))) - (1 : Int32))]) (rest := []) hx hb hml hown hK (c_X10_answered l D dA H.size t g0 g1 g2 (a 0) (ma 0) g5 g6 g7 g8 (tp_set_markCount tp ((tp_markCount tp) + (1 : Int32))) ((tp_markCount (tp_set_markCount tp ((tp_markCount tp) + (1 : Int32)))) - (1 : Int32)) r5.1 r5.2 hc5) ⟨ww_3_184, ww_3_181, ww_3_183, ws_22, ww_1_1, rfl, by decide, by decide⟩ rfl rfl (by decide +kernel) ⟨Nat.le_of_ble_eq_true rfl, Nat.le_of_ble_eq_true rfl⟩ hP hD hS hA hE [0] rfl (by decide) 0 rfl rfl rfl hl.1 rfl (Nat.le_of_ble_eq_true rfl) dX10_mark_88 ⟨Nat.le_of_ble_eq_true rfl, Nat.le_of_ble_eq_true rfl⟩) hP hD hS hA [0] [1, 2, 3, 4, 5, 6, 7, 8, 9, 10, 11, 12, 13, 14, 15, 16, 17, 18, 19] [19, 0, 1, 2, 3, 4, 5, 6, 7, 8, 9, 10, 11, 12, 13, 14, 15, 16, 17, 18] rfl rfl (by decide) (by decide) rfl (by decide) (fun H locs hP hD hS => ?_)
        exact RET _ _ _ H _ ls 91 hf hP hD hS dX10_mark_91
      · rw [if_neg c_2] at hf
        cases hf
    · rw [if_pos c_1] at hf
      cases hf
  exact E0 _ _ hP hD hS

noncomputable def f_X10_back_k_b12 (km : qRide4T) (rk : RideT) (z0 : TopT) (z2 : RideT) : Option (Int32 × TopT × RideT) := none
noncomputable def f_X10_back_k (tp : TopT) (km : qRide4T) (rd : RideT) (rk : RideT) (x0 : Int32) : Option (Int32 × TopT × RideT) := (if x0 < 0 then f_X10_back_k_b12 km rk tp rd else (if x0 < (tp_markCount tp) then if kb_in? x0 4 then (f_X6_copyFrom rd rk).bind fun r4 => some ((1 : Int32), (tp_set_latestTrouble tp (0 : Int32)), r4) else none else f_X10_back_k_b12 km rk tp rd))
set_option maxHeartbeats 4000000 in
set_option maxRecDepth 100000 in
theorem c_X10_back_k (l : Launch) (D : va_G) (dA : Nat → ClassId) (sz : Nat) (t : Nat → Nat) (ma : Nat → Nat) (a : Nat → Nat) (kb : Nat → Nat) (g0 : Nat) (g1 : Nat) (g2 : Nat) (g5 : Nat) (g6 : Nat) (g7 : Nat) (g8 : Nat) (h0 : Nat) (h1 : Nat) (k0 : Nat) (k1 : Nat) (tp : TopT) (km : qRide4T) (rd : RideT) (rk : RideT) (x0 : Int32) (rv : Int32) (u0 : TopT) (u2 : RideT) (hpin : (zqRide4_r km) (x0).toNatClampNeg = some (kb 0)) (hf : f_X10_back_k tp km rd rk x0 = some (rv, u0, u2)) : kb_Mi l yX10_back cX10_back 3 (some .boolean) ({ frames := 3, cells := 0, slots := 0, locals := 106 } : Room) D dA [.ref (t 0), .int x0] sz (w_Top dA t g0 g1 g2 (a 0) (ma 0) g5 g6 g7 g8 tp ++ (w_qRide4 dA ma km ++ (w_Ride dA a h0 h1 rd ++ (w_Ride dA kb k0 k1 rk)))) 0 0 rv (w_Top dA t g0 g1 g2 (a 0) (ma 0) g5 g6 g7 g8 u0 ++ (w_qRide4 dA ma km ++ (w_Ride dA a k0 k1 u2 ++ (w_Ride dA kb k0 k1 rk)))) := by
  refine Met.ofW (cc := cX10_back) (maxL := 3) (ret := (some .boolean)) (by decide) rfl ?_
  intro p e s m args below meth c s₁ B hml hv
  obtain ⟨rfl, hsz, hP, hK, hD0, hE⟩ := hv
  have hx := B.exec
  have hb := B.bytes
  have hr := B.returns
  have hown : s.vm.findClass RX10 = some m.cls := findClass_of_methodNamed B.named
  have hlocks := B.notSynchronized
  have hts : ∀ w ∈ kb_gw, w.before ([.ref (t 0), .int x0] : List Value).toArray s = true := fun w hw => hK.2.1 w hw _
  subst hsz
  have hD := hD0.self (sz := s.heap.size)
  generalize hAe : va_A (w_Top dA t g0 g1 g2 (a 0) (ma 0) g5 g6 g7 g8 tp ++ (w_qRide4 dA ma km ++ (w_Ride dA a h0 h1 rd ++ (w_Ride dA kb k0 k1 rk)))) s.heap.size = A at hD hE ⊢
  have hA : ∀ q : Nat, s.heap.size ≤ q → A q := fun q h => by rw [← hAe]; exact Or.inr h
  have hS : va_S A s.heap s.heap [] := va_S.rf
  have hl := lv_entry ([.ref (t 0), .int x0]) (n := 3) (Nat.le_of_ble_eq_true rfl)
  rw [lg_entry_eq]
  generalize (lg_sl ([.ref (t 0), .int x0]) ++ List.replicate (3 - (lg_sl ([.ref (t 0), .int x0])).length) Slot.unset).toArray = ls at hl ⊢
  have hl : lv_has ls 3 [(0, .ref (t 0)), (1, .int x0)] := hl
  generalize hQ : MQ below (va_Qi (fun r (_ : Unit) => r = rv) (kb_B D A (w_Top dA t g0 g1 g2 (a 0) (ma 0) g5 g6 g7 g8 u0 ++ (w_qRide4 dA ma km ++ (w_Ride dA a k0 k1 u2 ++ (w_Ride dA kb k0 k1 rk))))) A) ([.ref (t 0), .int x0] : List Value).toArray s 0 0 A = Q
  show W p l e ({ frames := 3, cells := 0, slots := 0, locals := 106 } : Room) s m ([.ref (t 0), .int x0] : List Value).toArray below meth c s.heap [] 0 0 Q (F0 m 0 ls [])
  have RET : ∀ (r2 : Int32) (w0 : TopT) (w2 : RideT) (H : Heap) (locs : List Loc) (ls : Array Slot) (pc : Nat), some (r2, w0, w2) = some (rv, u0, u2) → va_P D vwCl (w_Top dA t g0 g1 g2 (a 0) (ma 0) g5 g6 g7 g8 w0 ++ (w_qRide4 dA ma km ++ (w_Ride dA a k0 k1 w2 ++ (w_Ride dA kb k0 k1 rk)))) H → va_D A (w_Top dA t g0 g1 g2 (a 0) (ma 0) g5 g6 g7 g8 w0 ++ (w_qRide4 dA ma km ++ (w_Ride dA a k0 k1 w2 ++ (w_Ride dA kb k0 k1 rk)))) → va_S A s.heap H locs → kb_01 r2 → decode cX10_back pc = .ok (.ireturn, 1) → W p l e ({ frames := 3, cells := 0, slots := 0, locals := 106 } : Room) s m ([.ref (t 0), .int x0] : List Value).toArray below meth c H locs 0 0 Q (F0 m pc ls [.int r2]) := by
    intro r2 w0 w2 H locs ls pc hq hP hD hS h01 hd
    cases hq
    rw [← hQ]
    exact W.zret (ty := .boolean) hx hb hr (kb_nz h01) (fun t ht hW => ⟨⟨_, (), rfl, rfl, by rw [ht]; exact hP, hD⟩, hS.F ht⟩) hS.2.2 hd
  have B_12 : ∀ (z0 : TopT) (z2 : RideT) (H : Heap) (locs : List Loc) (ls : Array Slot), f_X10_back_k_b12 km rk z0 z2 = some (rv, u0, u2) → va_P D vwCl (w_Top dA t g0 g1 g2 (a 0) (ma 0) g5 g6 g7 g8 z0 ++ (w_qRide4 dA ma km ++ (w_Ride dA a h0 h1 z2 ++ (w_Ride dA kb k0 k1 rk)))) H → va_D A (w_Top dA t g0 g1 g2 (a 0) (ma 0) g5 g6 g7 g8 z0 ++ (w_qRide4 dA ma km ++ (w_Ride dA a h0 h1 z2 ++ (w_Ride dA kb k0 k1 rk)))) → va_S A s.heap H locs → lv_has ls 3 [(0, .ref (t 0))] → W p l e ({ frames := 3, cells := 0, slots := 0, locals := 106 } : Room) s m ([.ref (t 0), .int x0] : List Value).toArray below meth c H locs 0 0 Q (F0 m 12 ls []) := by
    intro z0 z2 H locs ls hf hP hD hS hl
    rw [f_X10_back_k_b12] at hf
    cases hf
  have E0 : ∀ (H : Heap) (locs : List Loc), va_P D vwCl (w_Top dA t g0 g1 g2 (a 0) (ma 0) g5 g6 g7 g8 tp ++ (w_qRide4 dA ma km ++ (w_Ride dA a h0 h1 rd ++ (w_Ride dA kb k0 k1 rk)))) H → va_D A (w_Top dA t g0 g1 g2 (a 0) (ma 0) g5 g6 g7 g8 tp ++ (w_qRide4 dA ma km ++ (w_Ride dA a h0 h1 rd ++ (w_Ride dA kb k0 k1 rk)))) → va_S A s.heap H locs → W p l e ({ frames := 3, cells := 0, slots := 0, locals := 106 } : Room) s m ([.ref (t 0), .int x0] : List Value).toArray below meth c H locs 0 0 Q (F0 m 0 ls []) := by
    intro H locs hP hD hS
    rw [f_X10_back_k] at hf
    refine lv_iload_n hx hb dX10_back_0 rfl (lv_at hl 1 rfl) ?_
    refine lv_if_lt (tgt := 12) hx hb dX10_back_1 (by decide) (fun c_1 => ?_) (fun c_1 => ?_)
    · rw [if_pos c_1] at hf
      exact B_12 _ _ _ _ _ hf hP hD hS (lv_sub hl [0] rfl)
    · rw [if_neg c_1] at hf
      refine lv_iload_n hx hb dX10_back_4 rfl (lv_at hl 1 rfl) ?_
      refine lv_aload_n hx hb dX10_back_5 rfl (lv_at hl 0 rfl) ?_
      refine va_get (D := D) (ci := 10) (v := .int (tp_markCount tp)) (C := RX10) (T := TX10) (N := 12) hx hb hts kb_inX10 hown hK.1 hP 0 rfl rfl 6 (by decide) (hK.2.w ww_2_158 rfl _) (fun _ h9 => h9) rfl dX10_back_6 ?_
      refine lv_icmp_lt (tgt := 16) hx hb dX10_back_9 (by decide) (fun c_2 => ?_) (fun c_2 => ?_)
      · rw [if_pos c_2] at hf
        refine lv_aload_n hx hb dX10_back_16 rfl (lv_at hl 0 rfl) ?_
        refine va_get (D := D) (ci := 10) (v := .ref (ma 0)) (C := RX10) (T := TX10) (N := 12) hx hb hts kb_inX10 hown hK.1 hP 0 rfl rfl 5 (by decide) (hK.2.w ww_2_157 rfl _) (fun _ h9 => h9) rfl dX10_back_17 ?_
        refine lv_iload_n hx hb dX10_back_20 rfl (lv_at hl 1 rfl) ?_
        obtain ⟨h_3, hf⟩ := kb_if hf
        refine va_aldq (D := D) hx hb hK.1 hP 1 4 rfl rfl h_3 dX10_back_21 ?_
        rw [hpin]
        show W p l e ({ frames := 3, cells := 0, slots := 0, locals := 106 } : Room) s m ([.ref (t 0), .int x0] : List Value).toArray below meth c _ _ 0 0 Q (F0 m 22 _ [.ref (kb 0)])
        refine lv_astore_n (lv' := [(2, .ref (kb 0)), (0, .ref (t 0)), (1, .int x0)]) hx hb dX10_back_22 rfl hl (by decide) rfl (fun ls hl => ?_)
        refine lv_aload_n hx hb dX10_back_23 rfl (lv_at hl 0 rfl) ?_
        refine lv_ifnonnull (tgt := 34) hx hb dX10_back_24 (by decide) ?_
        refine lv_aload_n hx hb dX10_back_34 rfl (lv_at hl 1 rfl) ?_
        refine va_get (D := D) (ci := 10) (v := .ref (a 0)) (C := RX10) (T := TX10) (N := 12) hx hb hts kb_inX10 hown hK.1 hP 0 rfl rfl 4 (by decide) (hK.2.w ww_2_156 rfl _) (fun _ h9 => h9) rfl dX10_back_35 ?_
        refine lv_aload_n hx hb dX10_back_38 rfl (lv_at hl 0 rfl) ?_
        obtain ⟨r4, hc4, hf⟩ := kb_bind hf
        refine kb_cv (ws2 := (w_Top dA t g0 g1 g2 (a 0) (ma 0) g5 g6 g7 g8 tp ++ (w_qRide4 dA ma km ++ (w_Ride dA a k0 k1 r4 ++ (w_Ride dA kb k0 k1 rk))))) (kb_rV (n := 1) (As := [.ref (kb 0)]) (rest := []) hx hb hml hown hK (c_X6_copyFrom l D dA H.size a kb h0 h1 k0 k1 rd rk r4 hc4) ⟨ww_4_133, ww_4_130, ww_4_131, ww_4_132, ww_1_8, rfl, by decide, by decide⟩ rfl rfl (by decide +kernel) ⟨Nat.le_of_ble_eq_true rfl, Nat.le_of_ble_eq_true rfl⟩ hP hD hS hA hE [2, 3, 4, 5, 6, 7, 8, 9, 10, 11, 12, 13, 14, 15, 16, 17, 18, 19] rfl (by decide) 0 rfl rfl rfl hl.1 rfl (Nat.le_of_ble_eq_true rfl) dX10_back_39 ⟨Nat.le_of_ble_eq_true rfl, Nat.le_of_ble_eq_true rfl⟩) hP hD hS hA [2, 3, 4, 5, 6, 7, 8, 9, 10, 11, 12, 13, 14, 15, 16, 17, 18, 19] [0, 1] [0, 1, 2, 3, 4, 5, 6, 7, 8, 9, 10, 11, 12, 13, 14, 15, 16, 17, 18, 19] rfl rfl (by decide) (by decide) rfl (by decide) (fun H locs hP hD hS => ?_)
        refine lv_aload_n hx hb dX10_back_42 rfl (lv_at hl 1 rfl) ?_
        refine lv_iconst (v := (0 : Int32)) hx hb dX10_back_43 (by decide) ?_
        refine va_put (D := D) (ci := 10) (v := .int (0 : Int32)) (ty := .int) (C := RX10) (T := TX10) (N := 12) hx hb hts kb_inX10 tyX10 tyX10_ok nmX10 hown hK.1 hP hD hS 0 rfl rfl 11 (by decide) (hK.2.w ww_2_163 rfl _) (fun _ h9 => h9) rfl (by decide +kernel) rfl rfl (Nat.le_of_ble_eq_true rfl) dX10_back_44 (fun H locs hP hD hS => ?_)
        have hP : va_P D vwCl (w_Top dA t g0 g1 g2 (a 0) (ma 0) g5 g6 g7 g8 (tp_set_latestTrouble tp (0 : Int32)) ++ (w_qRide4 dA ma km ++ (w_Ride dA a k0 k1 r4 ++ (w_Ride dA kb k0 k1 rk)))) H := hP
        have hD : va_D A (w_Top dA t g0 g1 g2 (a 0) (ma 0) g5 g6 g7 g8 (tp_set_latestTrouble tp (0 : Int32)) ++ (w_qRide4 dA ma km ++ (w_Ride dA a k0 k1 r4 ++ (w_Ride dA kb k0 k1 rk)))) := hD
        refine lv_iconst (v := (1 : Int32)) hx hb dX10_back_47 (by decide) ?_
        exact RET _ _ _ H _ ls 48 hf hP hD hS (by decide) dX10_back_48
      · rw [if_neg c_2] at hf
        exact B_12 _ _ _ _ _ hf hP hD hS (lv_sub hl [0] rfl)
  exact E0 _ _ hP hD hS

noncomputable def f_X10_mark_n (tp : TopT) (km : qRide4T) (rd : RideT) (pl : PlanT) : Option (Int32 × TopT × RideT × Nat) := (if (tp_hasBus tp) = 0 then none else (if (tp_markCount tp) < (4 : Int32) then if kb_in? (tp_markCount tp) 4 then (f_X6_copyFrom (((fun _ => (0 : Int32)), (fun _ => (0 : Int32))), (fun _ => (0 : Int32)), (fun _ => (0 : Int32)), (fun _ => (0 : Int32)), (fun _ => (0 : Int32)), (fun _ => (0 : Int32)), (0 : Int32), (0 : Int32), (0 : Int32), (0 : Int32)) rd).bind fun r6 => (f_X10_answered (tp_set_markCount tp ((tp_markCount tp) + (1 : Int32))) ((tp_markCount (tp_set_markCount tp ((tp_markCount tp) + (1 : Int32)))) - (1 : Int32))).bind fun r7 => some (r7.1, r7.2, r6, 0) else none else none))
set_option maxHeartbeats 4000000 in
set_option maxRecDepth 100000 in
theorem c_X10_mark_n_0 (l : Launch) (D : va_G) (dA : Nat → ClassId) (sz : Nat) (t : Nat → Nat) (ma : Nat → Nat) (a : Nat → Nat) (pa : Nat → Nat) (g0 : Nat) (g2 : Nat) (g5 : Nat) (g6 : Nat) (g7 : Nat) (g8 : Nat) (tp : TopT) (km : qRide4T) (rd : RideT) (pl : PlanT) (rv : Int32) (u0 : TopT) (u3 : RideT) (hpin : (zqRide4_r km) ((tp_markCount tp)).toNatClampNeg = none) (hin4 : kb_in? (tp_markCount tp) 4) (hf : f_X10_mark_n tp km rd pl = some (rv, u0, u3, 0)) : kb_FMi l yX10_mark cX10_mark 2 (some .int) ({ frames := 3, cells := 9, slots := 99, locals := 106 } : Room) D dA [.ref (t 0)] sz (w_Top dA t g0 (pa 0) g2 (a 0) (ma 0) g5 g6 g7 g8 tp ++ (w_qRide4 dA ma km ++ (w_Ride dA a (pa 0) (pa 1) rd ++ (w_Plan dA pa pl)))) 9 99 rv (fun (ph2 : Nat → Nat) => (w_Top dA t g0 (pa 0) g2 (a 0) (ma 0) g5 g6 g7 g8 u0 ++ (w_qRide4 dA ma (va_up (zqRide4_r km) ((tp_markCount tp)).toNatClampNeg (some (ph2 0))) ++ (w_Ride dA a (pa 0) (pa 1) rd ++ (w_Ride dA ph2 (pa 0) (pa 1) u3 ++ (w_Plan dA pa pl)))))) := by
  refine Met.ofW (cc := cX10_mark) (maxL := 2) (ret := (some .int)) (by decide) rfl ?_
  intro p e s m args below meth c s₁ B hml hv
  obtain ⟨rfl, hsz, hP, hK, hD0, hE⟩ := hv
  have hx := B.exec
  have hb := B.bytes
  have hr := B.returns
  have hown : s.vm.findClass RX10 = some m.cls := findClass_of_methodNamed B.named
  have hlocks := B.notSynchronized
  have hts : ∀ w ∈ kb_gw, w.before ([.ref (t 0)] : List Value).toArray s = true := fun w hw => hK.2.1 w hw _
  subst hsz
  have hD := hD0.self (sz := s.heap.size)
  generalize hAe : va_A (w_Top dA t g0 (pa 0) g2 (a 0) (ma 0) g5 g6 g7 g8 tp ++ (w_qRide4 dA ma km ++ (w_Ride dA a (pa 0) (pa 1) rd ++ (w_Plan dA pa pl)))) s.heap.size = A at hD hE ⊢
  have hA : ∀ q : Nat, s.heap.size ≤ q → A q := fun q h => by rw [← hAe]; exact Or.inr h
  have hS : va_S A s.heap s.heap [] := va_S.rf
  have hl := lv_entry ([.ref (t 0)]) (n := 2) (Nat.le_of_ble_eq_true rfl)
  rw [lg_entry_eq]
  generalize (lg_sl ([.ref (t 0)]) ++ List.replicate (2 - (lg_sl ([.ref (t 0)])).length) Slot.unset).toArray = ls at hl ⊢
  have hl : lv_has ls 2 [(0, .ref (t 0))] := hl
  generalize hQ : MQ below (va_Qi (fun r (_ : Nat → Nat) => r = rv) (fun ph2 => kb_B D A (w_Top dA t g0 (pa 0) g2 (a 0) (ma 0) g5 g6 g7 g8 u0 ++ (w_qRide4 dA ma (va_up (zqRide4_r km) ((tp_markCount tp)).toNatClampNeg (some (ph2 0))) ++ (w_Ride dA a (pa 0) (pa 1) rd ++ (w_Ride dA ph2 (pa 0) (pa 1) u3 ++ (w_Plan dA pa pl))))) ()) A) ([.ref (t 0)] : List Value).toArray s 9 99 A = Q
  show W p l e ({ frames := 3, cells := 9, slots := 99, locals := 106 } : Room) s m ([.ref (t 0)] : List Value).toArray below meth c s.heap [] 0 0 Q (F0 m 0 ls [])
  have RET0 : ∀ (ph2 : Nat → Nat) (r2 : Int32) (w0 : TopT) (w3 : RideT) (H : Heap) (locs : List Loc) (ls : Array Slot) (pc : Nat), some (r2, w0, w3, 0) = some (rv, u0, u3, 0) → va_P D vwCl (w_Top dA t g0 (pa 0) g2 (a 0) (ma 0) g5 g6 g7 g8 w0 ++ (w_qRide4 dA ma (va_up (zqRide4_r km) ((tp_markCount tp)).toNatClampNeg (some (ph2 0))) ++ (w_Ride dA a (pa 0) (pa 1) rd ++ (w_Ride dA ph2 (pa 0) (pa 1) w3 ++ (w_Plan dA pa pl))))) H → va_D A (w_Top dA t g0 (pa 0) g2 (a 0) (ma 0) g5 g6 g7 g8 w0 ++ (w_qRide4 dA ma (va_up (zqRide4_r km) ((tp_markCount tp)).toNatClampNeg (some (ph2 0))) ++ (w_Ride dA a (pa 0) (pa 1) rd ++ (w_Ride dA ph2 (pa 0) (pa 1) w3 ++ (w_Plan dA pa pl))))) → va_S A s.heap H locs → decode cX10_mark pc = .ok (.ireturn, 1) → W p l e ({ frames := 3, cells := 9, slots := 99, locals := 106 } : Room) s m ([.ref (t 0)] : List Value).toArray below meth c H locs 9 99 Q (F0 m pc ls [.int r2]) := by
    intro ph2 r2 w0 w3 H locs ls pc hq hP hD hS hd
    cases hq
    rw [← hQ]
    exact W.iret hx hb hr (fun t ht hW => ⟨⟨_, ph2, rfl, rfl, by rw [ht]; exact hP, hD⟩, hS.F ht⟩) hS.2.2 hd
  have E0 : ∀ (H : Heap) (locs : List Loc), va_P D vwCl (w_Top dA t g0 (pa 0) g2 (a 0) (ma 0) g5 g6 g7 g8 tp ++ (w_qRide4 dA ma km ++ (w_Ride dA a (pa 0) (pa 1) rd ++ (w_Plan dA pa pl)))) H → va_D A (w_Top dA t g0 (pa 0) g2 (a 0) (ma 0) g5 g6 g7 g8 tp ++ (w_qRide4 dA ma km ++ (w_Ride dA a (pa 0) (pa 1) rd ++ (w_Plan dA pa pl)))) → va_S A s.heap H locs → W p l e ({ frames := 3, cells := 9, slots := 99, locals := 106 } : Room) s m ([.ref (t 0)] : List Value).toArray below meth c H locs 0 0 Q (F0 m 0 ls []) := by
    intro H locs hP hD hS
    rw [f_X10_mark_n] at hf
    refine lv_aload_n hx hb dX10_mark_0 rfl (lv_at hl 0 rfl) ?_
    refine va_get (D := D) (ci := 10) (v := .int (tp_hasBus tp)) (C := RX10) (T := TX10) (N := 12) hx hb hts kb_inX10 hown hK.1 hP 0 rfl rfl 3 (by decide) (hK.2.w ww_2_155 rfl _) (fun _ h9 => h9) rfl dX10_mark_1 ?_
    refine lv_if_ne (tgt := 13) hx hb dX10_mark_4 (by decide) (fun c_1 => ?_) (fun c_1 => ?_)
    · rw [if_neg c_1] at hf
      refine lv_aload_n hx hb dX10_mark_13 rfl (lv_at hl 0 rfl) ?_
      refine va_get (D := D) (ci := 10) (v := .int (tp_markCount tp)) (C := RX10) (T := TX10) (N := 12) hx hb hts kb_inX10 hown hK.1 hP 0 rfl rfl 6 (by decide) (hK.2.w ww_2_158 rfl _) (fun _ h9 => h9) rfl dX10_mark_14 ?_
      refine lv_iconst (v := (4 : Int32)) hx hb dX10_mark_17 (by decide) ?_
      refine lv_icmp_lt (tgt := 27) hx hb dX10_mark_18 (by decide) (fun c_2 => ?_) (fun c_2 => ?_)
      · rw [if_pos c_2] at hf
        refine lv_aload_n hx hb dX10_mark_27 rfl (lv_at hl 0 rfl) ?_
        refine va_get (D := D) (ci := 10) (v := .ref (ma 0)) (C := RX10) (T := TX10) (N := 12) hx hb hts kb_inX10 hown hK.1 hP 0 rfl rfl 5 (by decide) (hK.2.w ww_2_157 rfl _) (fun _ h9 => h9) rfl dX10_mark_28 ?_
        refine lv_aload_n hx hb dX10_mark_31 rfl (lv_at hl 0 rfl) ?_
        refine va_get (D := D) (ci := 10) (v := .int (tp_markCount tp)) (C := RX10) (T := TX10) (N := 12) hx hb hts kb_inX10 hown hK.1 hP 0 rfl rfl 6 (by decide) (hK.2.w ww_2_158 rfl _) (fun _ h9 => h9) rfl dX10_mark_32 ?_
        obtain ⟨h_3, hf⟩ := kb_if hf
        refine va_aldq (D := D) hx hb hK.1 hP 1 4 rfl rfl h_3 dX10_mark_35 ?_
        rw [hpin]
        show W p l e ({ frames := 3, cells := 9, slots := 99, locals := 106 } : Room) s m ([.ref (t 0)] : List Value).toArray below meth c _ _ 0 0 Q (F0 m 36 _ [.null])
        refine lv_astore_nN (lv' := [(1, .null), (0, .ref (t 0))]) hx hb dX10_mark_36 rfl hl (by decide) rfl (fun ls hl => ?_)
        refine lv_aload_nN hx hb dX10_mark_37 rfl (lv_at hl 0 rfl) ?_
        refine lv_ifnonnullN hx hb dX10_mark_38 ?_
        refine va_new (ci := 6) (fs := [.null, .null, .null, .null, .null, .null, .null, .int 0, .int 0, .int 0, .int 0]) (C := RX6) (T := TX6) (N := 11) hx hb hts kb_inX6 tyX6 tyX6_ok hown (hK.2.w ww_2_21 rfl _) (hK.2.w ww_2_40 rfl _) (hK.2.w ww_1_8 rfl _) hK.1 hP hD hS hA rfl (fun j hj => by rcases (show j = 0 ∨ j = 1 ∨ j = 2 ∨ j = 3 ∨ j = 4 ∨ j = 5 ∨ j = 6 ∨ j = 7 ∨ j = 8 ∨ j = 9 ∨ j = 10 by omega) with rfl | rfl | rfl | rfl | rfl | rfl | rfl | rfl | rfl | rfl | rfl <;> rfl) (Nat.le_of_ble_eq_true rfl) (Nat.le_of_ble_eq_true rfl) dX10_mark_41 (fun q4 H hP hD hS => ?_)
        have hP : va_P D vwCl (w_Top dA t g0 (pa 0) g2 (a 0) (ma 0) g5 g6 g7 g8 tp ++ (w_qRide4 dA ma km ++ (w_Ride dA a (pa 0) (pa 1) rd ++ (w_Plan dA pa pl ++ (w_oX6 dA (fun _ => q4) none none none none none none none ((0 : Int32), (0 : Int32), (0 : Int32), (0 : Int32))))))) H := hP
        have hD : va_D A (w_Top dA t g0 (pa 0) g2 (a 0) (ma 0) g5 g6 g7 g8 tp ++ (w_qRide4 dA ma km ++ (w_Ride dA a (pa 0) (pa 1) rd ++ (w_Plan dA pa pl ++ (w_oX6 dA (fun _ => q4) none none none none none none none ((0 : Int32), (0 : Int32), (0 : Int32), (0 : Int32))))))) := hD
        refine lv_dup hx hb dX10_mark_44 rfl ?_
        refine lv_aload_n hx hb dX10_mark_45 rfl (lv_at hl 1 rfl) ?_
        refine va_get (D := D) (ci := 10) (v := .ref (pa 0)) (C := RX10) (T := TX10) (N := 12) hx hb hts kb_inX10 hown hK.1 hP 0 rfl rfl 1 (by decide) (hK.2.w ww_2_153 rfl _) (fun _ h9 => h9) rfl dX10_mark_46 ?_
        refine kb_Fcv (ws2 := fun ph5 => (w_Top dA t g0 (pa 0) g2 (a 0) (ma 0) g5 g6 g7 g8 tp ++ (w_qRide4 dA ma km ++ (w_Ride dA a (pa 0) (pa 1) rd ++ (w_Ride dA (kb_c ((fun _ => q4) 0) ph5) (pa 0) (pa 1) (((fun _ => (0 : Int32)), (fun _ => (0 : Int32))), (fun _ => (0 : Int32)), (fun _ => (0 : Int32)), (fun _ => (0 : Int32)), (fun _ => (0 : Int32)), (fun _ => (0 : Int32)), (0 : Int32), (0 : Int32), (0 : Int32), (0 : Int32)) ++ (w_Plan dA pa pl)))))) (kb_rI (n := 1) (As := [.ref (pa 0)]) (rest := [.ref ((fun _ => q4) 0)]) hx hb hml hown hK (c_X6_init l D dA H.size (fun _ => q4) pa pl) ⟨ww_2_43, ww_2_41, ww_2_42, ww_1_8, rfl, by decide, by decide⟩ rfl rfl (by decide +kernel) ⟨Nat.le_of_ble_eq_true rfl, Nat.le_of_ble_eq_true rfl⟩ hP hD hS hA hE [32, 11, 12, 13, 14, 15, 16, 17, 18, 19, 20, 21, 22, 23, 24, 25, 26, 27, 28, 29, 30, 31] rfl (by decide) rfl hl.1 rfl (Nat.le_of_ble_eq_true rfl) dX10_mark_49 ⟨Nat.le_of_ble_eq_true rfl, Nat.le_of_ble_eq_true rfl⟩) hP hD hS hA [32, 11, 12, 13, 14, 15, 16, 17, 18, 19, 20, 21, 22, 23, 24, 25, 26, 27, 28, 29, 30, 31] [0, 1, 2, 3, 4, 5, 6, 7, 8, 9, 10] [0, 1, 2, 3, 4, 5, 6, 7, 8, 9, 10, 11, 12, 13, 14, 15, 16, 17, 18, 19, 20, 21, 22, 23, 24, 25, 26, 27, 28, 29, 30, 31, 32, 33, 34, 35, 36, 37, 38, 39, 40] rfl rfl (by decide) (by decide) (fun _ => rfl) (by decide) (fun ph5 H locs hP hD hS => ?_)
        show W p l e ({ frames := 3, cells := 9, slots := 99, locals := 106 } : Room) s m ([.ref (t 0)] : List Value).toArray below meth c _ _ 9 99 Q (F0 m 52 _ [.ref ((kb_c ((fun _ => q4) 0) ph5) 0)])
        generalize (kb_c ((fun _ => q4) 0) ph5) = an at hP hD ⊢
        refine lv_astore_n (lv' := [(1, .ref (an 0)), (0, .ref (t 0))]) hx hb dX10_mark_52 rfl hl (by decide) rfl (fun ls hl => ?_)
        refine lv_aload_n hx hb dX10_mark_53 rfl (lv_at hl 1 rfl) ?_
        refine va_get (D := D) (ci := 10) (v := .ref (ma 0)) (C := RX10) (T := TX10) (N := 12) hx hb hts kb_inX10 hown hK.1 hP 0 rfl rfl 5 (by decide) (hK.2.w ww_2_157 rfl _) (fun _ h9 => h9) rfl dX10_mark_54 ?_
        refine lv_aload_n hx hb dX10_mark_57 rfl (lv_at hl 1 rfl) ?_
        refine va_get (D := D) (ci := 10) (v := .int (tp_markCount tp)) (C := RX10) (T := TX10) (N := 12) hx hb hts kb_inX10 hown hK.1 hP 0 rfl rfl 6 (by decide) (hK.2.w ww_2_158 rfl _) (fun _ h9 => h9) rfl dX10_mark_58 ?_
        refine lv_aload_n hx hb dX10_mark_61 rfl (lv_at hl 0 rfl) ?_
        refine va_astq (D := D) hx hb hK.1 hP hD hS 1 4 11 6 rfl rfl rfl rfl hin4 dX10_mark_62 (fun H locs hP hD hS => ?_)
        have hP : va_P D vwCl (w_Top dA t g0 (pa 0) g2 (a 0) (ma 0) g5 g6 g7 g8 tp ++ (w_qRide4 dA ma (va_up (zqRide4_r km) ((tp_markCount tp)).toNatClampNeg (some (an 0))) ++ (w_Ride dA a (pa 0) (pa 1) rd ++ (w_Ride dA an (pa 0) (pa 1) (((fun _ => (0 : Int32)), (fun _ => (0 : Int32))), (fun _ => (0 : Int32)), (fun _ => (0 : Int32)), (fun _ => (0 : Int32)), (fun _ => (0 : Int32)), (fun _ => (0 : Int32)), (0 : Int32), (0 : Int32), (0 : Int32), (0 : Int32)) ++ (w_Plan dA pa pl))))) H := hP
        have hD : va_D A (w_Top dA t g0 (pa 0) g2 (a 0) (ma 0) g5 g6 g7 g8 tp ++ (w_qRide4 dA ma (va_up (zqRide4_r km) ((tp_markCount tp)).toNatClampNeg (some (an 0))) ++ (w_Ride dA a (pa 0) (pa 1) rd ++ (w_Ride dA an (pa 0) (pa 1) (((fun _ => (0 : Int32)), (fun _ => (0 : Int32))), (fun _ => (0 : Int32)), (fun _ => (0 : Int32)), (fun _ => (0 : Int32)), (fun _ => (0 : Int32)), (fun _ => (0 : Int32)), (0 : Int32), (0 : Int32), (0 : Int32), (0 : Int32)) ++ (w_Plan dA pa pl))))) := hD
        refine lv_aload_n hx hb dX10_mark_63 rfl (lv_at hl 0 rfl) ?_
        refine lv_aload_n hx hb dX10_mark_64 rfl (lv_at hl 1 rfl) ?_
        refine va_get (D := D) (ci := 10) (v := .ref (a 0)) (C := RX10) (T := TX10) (N := 12) hx hb hts kb_inX10 hown hK.1 hP 0 rfl rfl 4 (by decide) (hK.2.w ww_2_156 rfl _) (fun _ h9 => h9) rfl dX10_mark_65 ?_
        obtain ⟨r6, hc6, hf⟩ := kb_bind hf
        refine kb_cv (ws2 := (w_Top dA t g0 (pa 0) g2 (a 0) (ma 0) g5 g6 g7 g8 tp ++ (w_qRide4 dA ma (va_up (zqRide4_r km) ((tp_markCount tp)).toNatClampNeg (some (an 0))) ++ (w_Ride dA a (pa 0) (pa 1) rd ++ (w_Ride dA an (pa 0) (pa 1) r6 ++ (w_Plan dA pa pl)))))) (kb_rV (n := 1) (As := [.ref (a 0)]) (rest := []) hx hb hml hown hK (c_X6_copyFrom l D dA H.size an a (pa 0) (pa 1) (pa 0) (pa 1) (((fun _ => (0 : Int32)), (fun _ => (0 : Int32))), (fun _ => (0 : Int32)), (fun _ => (0 : Int32)), (fun _ => (0 : Int32)), (fun _ => (0 : Int32)), (fun _ => (0 : Int32)), (0 : Int32), (0 : Int32), (0 : Int32), (0 : Int32)) rd r6 hc6) ⟨ww_4_133, ww_4_130, ww_4_131, ww_4_132, ww_1_8, rfl, by decide, by decide⟩ rfl rfl (by decide +kernel) ⟨Nat.le_of_ble_eq_true rfl, Nat.le_of_ble_eq_true rfl⟩ hP hD hS hA hE [11, 12, 13, 14, 15, 16, 17, 18, 19, 2, 3, 4, 5, 6, 7, 8, 9, 10] rfl (by decide) 0 rfl rfl rfl hl.1 rfl (Nat.le_of_ble_eq_true rfl) dX10_mark_68 ⟨Nat.le_of_ble_eq_true rfl, Nat.le_of_ble_eq_true rfl⟩) hP hD hS hA [11, 12, 13, 14, 15, 16, 17, 18, 19, 2, 3, 4, 5, 6, 7, 8, 9, 10] [0, 1, 20, 21, 22, 23, 24, 25, 26, 27, 28, 29, 30, 31, 32, 33, 34, 35, 36, 37, 38, 39, 40] [0, 1, 32, 33, 34, 35, 36, 37, 38, 39, 40, 23, 24, 25, 26, 27, 28, 29, 30, 31, 2, 3, 4, 5, 6, 7, 8, 9, 10, 11, 12, 13, 14, 15, 16, 17, 18, 19, 20, 21, 22] rfl rfl (by decide) (by decide) rfl (by decide) (fun H locs hP hD hS => ?_)
        refine lv_aload_n hx hb dX10_mark_71 rfl (lv_at hl 1 rfl) ?_
        refine lv_dup hx hb dX10_mark_72 rfl ?_
        refine va_get (D := D) (ci := 10) (v := .int (tp_markCount tp)) (C := RX10) (T := TX10) (N := 12) hx hb hts kb_inX10 hown hK.1 hP 0 rfl rfl 6 (by decide) (hK.2.w ww_2_158 rfl _) (fun _ h9 => h9) rfl dX10_mark_73 ?_
        refine lv_iconst (v := (1 : Int32)) hx hb dX10_mark_76 (by decide) ?_
        refine lv_iadd hx hb dX10_mark_77 ?_
        refine va_put (D := D) (ci := 10) (v := .int ((tp_markCount tp) + (1 : Int32))) (ty := .int) (C := RX10) (T := TX10) (N := 12) hx hb hts kb_inX10 tyX10 tyX10_ok nmX10 hown hK.1 hP hD hS 0 rfl rfl 6 (by decide) (hK.2.w ww_2_158 rfl _) (fun _ h9 => h9) rfl (by decide +kernel) rfl rfl (Nat.le_of_ble_eq_true rfl) dX10_mark_78 (fun H locs hP hD hS => ?_)
        have hP : va_P D vwCl (w_Top dA t g0 (pa 0) g2 (a 0) (ma 0) g5 g6 g7 g8 (tp_set_markCount tp ((tp_markCount tp) + (1 : Int32))) ++ (w_qRide4 dA ma (va_up (zqRide4_r km) ((tp_markCount tp)).toNatClampNeg (some (an 0))) ++ (w_Ride dA a (pa 0) (pa 1) rd ++ (w_Ride dA an (pa 0) (pa 1) r6 ++ (w_Plan dA pa pl))))) H := hP
        have hD : va_D A (w_Top dA t g0 (pa 0) g2 (a 0) (ma 0) g5 g6 g7 g8 (tp_set_markCount tp ((tp_markCount tp) + (1 : Int32))) ++ (w_qRide4 dA ma (va_up (zqRide4_r km) ((tp_markCount tp)).toNatClampNeg (some (an 0))) ++ (w_Ride dA a (pa 0) (pa 1) rd ++ (w_Ride dA an (pa 0) (pa 1) r6 ++ (w_Plan dA pa pl))))) := hD
        refine lv_aload_n hx hb dX10_mark_81 rfl (lv_at hl 1 rfl) ?_
        refine lv_aload_n hx hb dX10_mark_82 rfl (lv_at hl 1 rfl) ?_
        refine va_get (D := D) (ci := 10) (v := .int (tp_markCount (tp_set_markCount tp ((tp_markCount tp) + (1 : Int32))))) (C := RX10) (T := TX10) (N := 12) hx hb hts kb_inX10 hown hK.1 hP 0 rfl rfl 6 (by decide) (hK.2.w ww_2_158 rfl _) (fun _ h9 => h9) rfl dX10_mark_83 ?_
        refine lv_iconst (v := (1 : Int32)) hx hb dX10_mark_86 (by decide) ?_
        refine lv_isub hx hb dX10_mark_87 ?_
        obtain ⟨r7, hc7, hf⟩ := kb_bind hf
        refine kb_ci (ws2 := (w_Top dA t g0 (pa 0) g2 (a 0) (ma 0) g5 g6 g7 g8 r7.2 ++ (w_qRide4 dA ma (va_up (zqRide4_r km) ((tp_markCount tp)).toNatClampNeg (some (an 0))) ++ (w_Ride dA a (pa 0) (pa 1) rd ++ (w_Ride dA an (pa 0) (pa 1) r6 ++ (w_Plan dA pa pl)))))) (kb_rV (n := 1) (As := [.int ((tp_markCount (tp_set_markCount tp ((tp_markCount tp) + (1 : Int32)))) - (1 : Int32))]) (rest := []) hx hb hml hown hK (c_X10_answered l D dA H.size t g0 (pa 0) g2 (a 0) (ma 0) g5 g6 g7 g8 (tp_set_markCount tp ((tp_markCount tp) + (1 : Int32))) ((tp_markCount (tp_set_markCount tp ((tp_markCount tp) + (1 : Int32)))) - (1 : Int32)) r7.1 r7.2 hc7) ⟨ww_3_184, ww_3_181, ww_3_183, ws_22, ww_1_1, rfl, by decide, by decide⟩ rfl rfl (by decide +kernel) ⟨Nat.le_of_ble_eq_true rfl, Nat.le_of_ble_eq_true rfl⟩ hP hD hS hA hE [0] rfl (by decide) 0 rfl rfl rfl hl.1 rfl (Nat.le_of_ble_eq_true rfl) dX10_mark_88 ⟨Nat.le_of_ble_eq_true rfl, Nat.le_of_ble_eq_true rfl⟩) hP hD hS hA [0] [1, 2, 3, 4, 5, 6, 7, 8, 9, 10, 11, 12, 13, 14, 15, 16, 17, 18, 19, 20, 21, 22, 23, 24, 25, 26, 27, 28, 29, 30, 31, 32, 33, 34, 35, 36, 37, 38, 39, 40] [40, 0, 1, 2, 3, 4, 5, 6, 7, 8, 9, 10, 11, 12, 13, 14, 15, 16, 17, 18, 19, 20, 21, 22, 23, 24, 25, 26, 27, 28, 29, 30, 31, 32, 33, 34, 35, 36, 37, 38, 39] rfl rfl (by decide) (by decide) rfl (by decide) (fun H locs hP hD hS => ?_)
        exact RET0 an _ _ _ H _ ls 91 hf hP hD hS dX10_mark_91
      · rw [if_neg c_2] at hf
        cases hf
    · rw [if_pos c_1] at hf
      cases hf
  exact E0 _ _ hP hD hS
