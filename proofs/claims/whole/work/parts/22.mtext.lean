noncomputable def f_X12_byteAt (mo : MOT) (y_tape : TapeT) (x0 : Int32) : Option (Int32) := (if (mo_size mo) ≤ x0 then some ((-1 : Int32)) else if kb_in? x0 900 then some ((((yTape_r y_tape) (x0).toNatClampNeg) &&& (255 : Int32))) else none)
set_option maxHeartbeats 4000000 in
set_option maxRecDepth 100000 in
theorem c_X12_byteAt (l : Launch) (D : va_G) (dA : Nat → ClassId) (sz : Nat) (a : Nat → Nat) (ta : Nat → Nat) (q0 : Option Nat) (q1 : Option Nat) (g3 : Nat) (g4 : Nat) (g5 : Nat) (g6 : Nat) (g7 : Nat) (g8 : Nat) (g9 : Nat) (g10 : Nat) (g11 : Nat) (g12 : Nat) (g13 : Nat) (g14 : Nat) (g15 : Nat) (g16 : Nat) (g17 : Nat) (g18 : Nat) (mo : MOT) (y_tape : TapeT) (x0 : Int32) (rv : Int32) (hf : f_X12_byteAt mo y_tape x0 = some (rv)) : kb_Mi l yX12_byteAt cX12_byteAt 2 (some .int) ({ frames := 0, cells := 0, slots := 0, locals := 0 } : Room) D dA [.ref (a 0), .int x0] sz (w_MO dA a q0 q1 (ta 0) g3 g4 g5 g6 g7 g8 g9 g10 g11 g12 g13 g14 g15 g16 g17 g18 mo ++ (w_Tape dA ta y_tape)) 0 0 rv (w_MO dA a q0 q1 (ta 0) g3 g4 g5 g6 g7 g8 g9 g10 g11 g12 g13 g14 g15 g16 g17 g18 mo ++ (w_Tape dA ta y_tape)) := by
  refine Met.ofW (cc := cX12_byteAt) (maxL := 2) (ret := (some .int)) (by decide) rfl ?_
  intro p e s m args below meth c s₁ B hml hv
  obtain ⟨rfl, hsz, hP, hK, hD0, hE⟩ := hv
  have hx := B.exec
  have hb := B.bytes
  have hr := B.returns
  have hown : s.vm.findClass RX12 = some m.cls := findClass_of_methodNamed B.named
  have hlocks := B.notSynchronized
  have hts : ∀ w ∈ kb_gw, w.before ([.ref (a 0), .int x0] : List Value).toArray s = true := fun w hw => hK.2.1 w hw _
  subst hsz
  have hD := hD0.self (sz := s.heap.size)
  generalize hAe : va_A (w_MO dA a q0 q1 (ta 0) g3 g4 g5 g6 g7 g8 g9 g10 g11 g12 g13 g14 g15 g16 g17 g18 mo ++ (w_Tape dA ta y_tape)) s.heap.size = A at hD hE ⊢
  have hA : ∀ q : Nat, s.heap.size ≤ q → A q := fun q h => by rw [← hAe]; exact Or.inr h
  have hS : va_S A s.heap s.heap [] := va_S.rf
  have hl := lv_entry ([.ref (a 0), .int x0]) (n := 2) (Nat.le_of_ble_eq_true rfl)
  rw [lg_entry_eq]
  generalize (lg_sl ([.ref (a 0), .int x0]) ++ List.replicate (2 - (lg_sl ([.ref (a 0), .int x0])).length) Slot.unset).toArray = ls at hl ⊢
  have hl : lv_has ls 2 [(0, .ref (a 0)), (1, .int x0)] := hl
  generalize hQ : MQ below (va_Qi (fun r (_ : Unit) => r = rv) (kb_B D A (w_MO dA a q0 q1 (ta 0) g3 g4 g5 g6 g7 g8 g9 g10 g11 g12 g13 g14 g15 g16 g17 g18 mo ++ (w_Tape dA ta y_tape))) A) ([.ref (a 0), .int x0] : List Value).toArray s 0 0 A = Q
  show W p l e ({ frames := 0, cells := 0, slots := 0, locals := 0 } : Room) s m ([.ref (a 0), .int x0] : List Value).toArray below meth c s.heap [] 0 0 Q (F0 m 0 ls [])
  have RET : ∀ (r2 : Int32) (H : Heap) (locs : List Loc) (ls : Array Slot) (pc : Nat), some (r2) = some (rv) → va_P D vwCl (w_MO dA a q0 q1 (ta 0) g3 g4 g5 g6 g7 g8 g9 g10 g11 g12 g13 g14 g15 g16 g17 g18 mo ++ (w_Tape dA ta y_tape)) H → va_D A (w_MO dA a q0 q1 (ta 0) g3 g4 g5 g6 g7 g8 g9 g10 g11 g12 g13 g14 g15 g16 g17 g18 mo ++ (w_Tape dA ta y_tape)) → va_S A s.heap H locs → decode cX12_byteAt pc = .ok (.ireturn, 1) → W p l e ({ frames := 0, cells := 0, slots := 0, locals := 0 } : Room) s m ([.ref (a 0), .int x0] : List Value).toArray below meth c H locs 0 0 Q (F0 m pc ls [.int r2]) := by
    intro r2 H locs ls pc hq hP hD hS hd
    cases hq
    rw [← hQ]
    exact W.iret hx hb hr (fun t ht hW => ⟨⟨_, (), rfl, rfl, by rw [ht]; exact hP, hD⟩, hS.F ht⟩) hS.2.2 hd
  have E0 : ∀ (H : Heap) (locs : List Loc), va_P D vwCl (w_MO dA a q0 q1 (ta 0) g3 g4 g5 g6 g7 g8 g9 g10 g11 g12 g13 g14 g15 g16 g17 g18 mo ++ (w_Tape dA ta y_tape)) H → va_D A (w_MO dA a q0 q1 (ta 0) g3 g4 g5 g6 g7 g8 g9 g10 g11 g12 g13 g14 g15 g16 g17 g18 mo ++ (w_Tape dA ta y_tape)) → va_S A s.heap H locs → W p l e ({ frames := 0, cells := 0, slots := 0, locals := 0 } : Room) s m ([.ref (a 0), .int x0] : List Value).toArray below meth c H locs 0 0 Q (F0 m 0 ls []) := by
    intro H locs hP hD hS
    rw [f_X12_byteAt] at hf
    refine lv_iload_n hx hb dX12_byteAt_0 rfl (lv_at hl 1 rfl) ?_
    refine lv_aload_n hx hb dX12_byteAt_1 rfl (lv_at hl 0 rfl) ?_
    refine va_get (D := D) (ci := 12) (v := .int (mo_size mo)) (C := RX12) (T := TX12) (N := 35) hx hb hts kb_inX12 hown hK.1 hP 0 rfl rfl 7 (by decide) (hK.2.w ww_5_207 rfl _) (fun _ h9 => h9) rfl dX12_byteAt_2 ?_
    refine lv_icmp_ge (tgt := 21) hx hb dX12_byteAt_5 (by decide) (fun c_1 => ?_) (fun c_1 => ?_)
    · rw [if_pos c_1] at hf
      refine lv_iconst (v := (-1 : Int32)) hx hb dX12_byteAt_21 (by decide) ?_
      exact RET _ H _ ls 22 hf hP hD hS dX12_byteAt_22
    · rw [if_neg c_1] at hf
      refine lv_aload_n hx hb dX12_byteAt_8 rfl (lv_at hl 0 rfl) ?_
      refine va_get (D := D) (ci := 12) (v := .ref (ta 0)) (C := RX12) (T := TX12) (N := 35) hx hb hts kb_inX12 hown hK.1 hP 0 rfl rfl 5 (by decide) (hK.2.w ww_5_205 rfl _) (fun _ h9 => h9) rfl dX12_byteAt_9 ?_
      refine lv_iload_n hx hb dX12_byteAt_12 rfl (lv_at hl 1 rfl) ?_
      obtain ⟨h_2, hf⟩ := kb_if hf
      refine va_bald (D := D) hx hb hK.1 hP 1 1 rfl rfl h_2 dX12_byteAt_13 ?_
      refine lv_sipush (v := (255 : Int32)) hx hb dX12_byteAt_14 (by decide) ?_
      refine lv_iand hx hb dX12_byteAt_17 ?_
      refine lv_goto (tgt := 22) hx hb dX12_byteAt_18 (by decide) ?_
      exact RET _ H _ ls 22 hf hP hD hS dX12_byteAt_22
  exact E0 _ _ hP hD hS

noncomputable def f_X12_goesOn_b281 (y_tape : TapeT) (z0 : MOT) : Option (MOT) := some (z0)
noncomputable def f_X12_goesOn_b271 (y_tape : TapeT) (z0 : MOT) : Option (MOT) := f_X12_goesOn_b281 y_tape (mo_set_spot z0 ((mo_spot z0) + (1 : Int32)))
noncomputable def f_X12_goesOn_b266 (y_tape : TapeT) (v1 : Int32) (z0 : MOT) : Option (MOT) := f_X12_goesOn_b271 y_tape (mo_set_sign z0 v1)
noncomputable def f_X12_goesOn_b261 (y_tape : TapeT) (v1 : Int32) (z0 : MOT) : Option (MOT) := f_X12_goesOn_b266 y_tape v1 (mo_set_sort z0 (4 : Int32))
noncomputable def f_X12_goesOn_b246 (y_tape : TapeT) (z0 : MOT) : Option (MOT) := f_X12_goesOn_b281 y_tape z0
noncomputable def f_X12_goesOn_b233 (y_tape : TapeT) (k178 : Int32 → MOT → Option (MOT)) (v2 : Int32) (z0 : MOT) : Option (MOT) := k178 v2 z0
noncomputable def f_X12_goesOn_b220 (y_tape : TapeT) (k178 : Int32 → MOT → Option (MOT)) (v2 : Int32) (z0 : MOT) : Option (MOT) := f_X12_goesOn_b233 y_tape k178 (v2 + (1 : Int32)) (mo_set_spot z0 ((mo_spot z0) + (1 : Int32)))
noncomputable def f_X12_goesOn_b178 (y_tape : TapeT) : Nat → Int32 → MOT → Option (MOT)
  | 0, _, _ => none
  | n + 1, v2, z0 => (f_X12_byteAt z0 y_tape (mo_spot z0)).bind fun r12 => (f_X12_isDigit r12).bind fun r13 => (if r13 = 0 then (if (3 : Int32) < v2 then f_X12_goesOn_b281 y_tape z0 else f_X12_goesOn_b246 y_tape (mo_set_sort z0 (3 : Int32))) else (if (3 : Int32) ≤ v2 then f_X12_goesOn_b220 y_tape (f_X12_goesOn_b178 y_tape n) v2 z0 else (f_X12_byteAt z0 y_tape (mo_spot z0)).bind fun r17 => f_X12_goesOn_b220 y_tape (f_X12_goesOn_b178 y_tape n) v2 (mo_set_number z0 ((((10 : Int32) * (mo_number z0)) + r17) - (48 : Int32)))))
noncomputable def f_X12_goesOn_b163 (y_tape : TapeT) (z0 : MOT) : Option (MOT) := f_X12_goesOn_b281 y_tape z0
noncomputable def f_X12_goesOn_b149 (y_tape : TapeT) (k89 : Int32 → MOT → Option (MOT)) (v2 : Int32) (z0 : MOT) : Option (MOT) := k89 v2 z0
noncomputable def f_X12_goesOn_b136 (y_tape : TapeT) (k89 : Int32 → MOT → Option (MOT)) (v2 : Int32) (z0 : MOT) : Option (MOT) := f_X12_goesOn_b149 y_tape k89 (v2 + (1 : Int32)) (mo_set_spot z0 ((mo_spot z0) + (1 : Int32)))
noncomputable def f_X12_goesOn_b89 (y_tape : TapeT) : Nat → Int32 → MOT → Option (MOT)
  | 0, _, _ => none
  | n + 1, v2, z0 => (f_X12_byteAt z0 y_tape (mo_spot z0)).bind fun r18 => (f_X12_isLetter r18).bind fun r19 => (if r19 = 0 then (if (8 : Int32) < v2 then f_X12_goesOn_b281 y_tape z0 else f_X12_goesOn_b163 y_tape (mo_set_sort z0 (2 : Int32))) else (if (8 : Int32) ≤ v2 then f_X12_goesOn_b136 y_tape (f_X12_goesOn_b89 y_tape n) v2 z0 else (f_X12_byteAt z0 y_tape (mo_spot z0)).bind fun r23 => f_X12_goesOn_b136 y_tape (f_X12_goesOn_b89 y_tape n) v2 (mo_set_word z0 (((32 : Int64) * (mo_word z0)) + (((r23 - (97 : Int32)) + (1 : Int32))).toInt64))))
noncomputable def f_X12_goesOn_b74 (y_tape : TapeT) (z0 : MOT) : Option (MOT) := f_X12_goesOn_b281 y_tape z0
noncomputable def f_X12_goesOn_b53 (y_tape : TapeT) (z0 : MOT) : Option (MOT) := (f_X12_byteAt z0 y_tape (mo_spot z0)).bind fun r4 => (if r4 = (-1 : Int32) then f_X12_goesOn_b74 y_tape (mo_set_sort z0 (1 : Int32)) else (f_X12_isLetter r4).bind fun r6 => (if r6 = 0 then (f_X12_isDigit r4).bind fun r8 => (if r8 = 0 then (if r4 = (59 : Int32) then f_X12_goesOn_b261 y_tape r4 z0 else (if r4 = (44 : Int32) then f_X12_goesOn_b261 y_tape r4 z0 else f_X12_goesOn_b281 y_tape z0)) else f_X12_goesOn_b178 y_tape 4096 (0 : Int32) (mo_set_number z0 (0 : Int32))) else f_X12_goesOn_b89 y_tape 4096 (0 : Int32) (mo_set_word z0 (0 : Int64))))
noncomputable def f_X12_goesOn_b48 (y_tape : TapeT) (z0 : MOT) : Option (MOT) := f_X12_goesOn_b53 y_tape (mo_set_sign z0 (0 : Int32))
noncomputable def f_X12_goesOn_b43 (y_tape : TapeT) (z0 : MOT) : Option (MOT) := f_X12_goesOn_b48 y_tape (mo_set_sort z0 (0 : Int32))
noncomputable def f_X12_goesOn_b32 (y_tape : TapeT) (k9 : MOT → Option (MOT)) (z0 : MOT) : Option (MOT) := k9 z0
noncomputable def f_X12_goesOn_b9 (y_tape : TapeT) : Nat → MOT → Option (MOT)
  | 0, _ => none
  | n + 1, z0 => (f_X12_byteAt z0 y_tape (mo_spot z0)).bind fun r2 => (if r2 = (32 : Int32) then f_X12_goesOn_b32 y_tape (f_X12_goesOn_b9 y_tape n) (mo_set_spot z0 ((mo_spot z0) + (1 : Int32))) else f_X12_goesOn_b43 y_tape (mo_set_place z0 (mo_spot z0)))
noncomputable def f_X12_goesOn (mo : MOT) (y_tape : TapeT) : Option (MOT) := (if (mo_sort mo) = (5 : Int32) then some (mo) else f_X12_goesOn_b9 y_tape 4096 mo)
set_option maxHeartbeats 4000000 in
set_option maxRecDepth 100000 in
theorem c_X12_goesOn (l : Launch) (D : va_G) (dA : Nat → ClassId) (sz : Nat) (a : Nat → Nat) (ta : Nat → Nat) (q0 : Option Nat) (q1 : Option Nat) (g3 : Nat) (g4 : Nat) (g5 : Nat) (g6 : Nat) (g7 : Nat) (g8 : Nat) (g9 : Nat) (g10 : Nat) (g11 : Nat) (g12 : Nat) (g13 : Nat) (g14 : Nat) (g15 : Nat) (g16 : Nat) (g17 : Nat) (g18 : Nat) (mo : MOT) (y_tape : TapeT) (u0 : MOT) (hf : f_X12_goesOn mo y_tape = some (u0)) : kb_Mv l yX12_goesOn cX12_goesOn 3 none ({ frames := 1, cells := 0, slots := 0, locals := 21 } : Room) D dA [.ref (a 0)] sz (w_MO dA a q0 q1 (ta 0) g3 g4 g5 g6 g7 g8 g9 g10 g11 g12 g13 g14 g15 g16 g17 g18 mo ++ (w_Tape dA ta y_tape)) 0 0 (w_MO dA a q0 q1 (ta 0) g3 g4 g5 g6 g7 g8 g9 g10 g11 g12 g13 g14 g15 g16 g17 g18 u0 ++ (w_Tape dA ta y_tape)) := by
  refine Met.ofW (cc := cX12_goesOn) (maxL := 3) (ret := none) (by decide) rfl ?_
  intro p e s m args below meth c s₁ B hml hv
  obtain ⟨rfl, hsz, hP, hK, hD0, hE⟩ := hv
  have hx := B.exec
  have hb := B.bytes
  have hr := B.returns
  have hown : s.vm.findClass RX12 = some m.cls := findClass_of_methodNamed B.named
  have hlocks := B.notSynchronized
  have hts : ∀ w ∈ kb_gw, w.before ([.ref (a 0)] : List Value).toArray s = true := fun w hw => hK.2.1 w hw _
  subst hsz
  have hD := hD0.self (sz := s.heap.size)
  generalize hAe : va_A (w_MO dA a q0 q1 (ta 0) g3 g4 g5 g6 g7 g8 g9 g10 g11 g12 g13 g14 g15 g16 g17 g18 mo ++ (w_Tape dA ta y_tape)) s.heap.size = A at hD hE ⊢
  have hA : ∀ q : Nat, s.heap.size ≤ q → A q := fun q h => by rw [← hAe]; exact Or.inr h
  have hS : va_S A s.heap s.heap [] := va_S.rf
  have hl := lv_entry ([.ref (a 0)]) (n := 3) (Nat.le_of_ble_eq_true rfl)
  rw [lg_entry_eq]
  generalize (lg_sl ([.ref (a 0)]) ++ List.replicate (3 - (lg_sl ([.ref (a 0)])).length) Slot.unset).toArray = ls at hl ⊢
  have hl : lv_has ls 3 [(0, .ref (a 0))] := hl
  generalize hQ : MQ below (va_Qv (fun (_ : Unit) => True) (kb_B D A (w_MO dA a q0 q1 (ta 0) g3 g4 g5 g6 g7 g8 g9 g10 g11 g12 g13 g14 g15 g16 g17 g18 u0 ++ (w_Tape dA ta y_tape))) A) ([.ref (a 0)] : List Value).toArray s 0 0 A = Q
  show W p l e ({ frames := 1, cells := 0, slots := 0, locals := 21 } : Room) s m ([.ref (a 0)] : List Value).toArray below meth c s.heap [] 0 0 Q (F0 m 0 ls [])
  have RET : ∀ (w0 : MOT) (H : Heap) (locs : List Loc) (ls : Array Slot) (pc : Nat), some (w0) = some (u0) → va_P D vwCl (w_MO dA a q0 q1 (ta 0) g3 g4 g5 g6 g7 g8 g9 g10 g11 g12 g13 g14 g15 g16 g17 g18 w0 ++ (w_Tape dA ta y_tape)) H → va_D A (w_MO dA a q0 q1 (ta 0) g3 g4 g5 g6 g7 g8 g9 g10 g11 g12 g13 g14 g15 g16 g17 g18 w0 ++ (w_Tape dA ta y_tape)) → va_S A s.heap H locs → decode cX12_goesOn pc = .ok (.return_, 1) → W p l e ({ frames := 1, cells := 0, slots := 0, locals := 21 } : Room) s m ([.ref (a 0)] : List Value).toArray below meth c H locs 0 0 Q (F0 m pc ls []) := by
    intro w0 H locs ls pc hq hP hD hS hd
    cases hq
    rw [← hQ]
    exact W.vret hx hb hr (fun t ht hW => ⟨⟨(), rfl, trivial, by rw [ht]; exact hP, hD⟩, hS.F ht⟩) hS.2.2 hd
  have B_281 : ∀ (z0 : MOT) (H : Heap) (locs : List Loc) (ls : Array Slot), f_X12_goesOn_b281 y_tape z0 = some (u0) → va_P D vwCl (w_MO dA a q0 q1 (ta 0) g3 g4 g5 g6 g7 g8 g9 g10 g11 g12 g13 g14 g15 g16 g17 g18 z0 ++ (w_Tape dA ta y_tape)) H → va_D A (w_MO dA a q0 q1 (ta 0) g3 g4 g5 g6 g7 g8 g9 g10 g11 g12 g13 g14 g15 g16 g17 g18 z0 ++ (w_Tape dA ta y_tape)) → va_S A s.heap H locs → lv_has ls 3 [] → W p l e ({ frames := 1, cells := 0, slots := 0, locals := 21 } : Room) s m ([.ref (a 0)] : List Value).toArray below meth c H locs 0 0 Q (F0 m 281 ls []) := by
    intro z0 H locs ls hf hP hD hS hl
    rw [f_X12_goesOn_b281] at hf
    exact RET _ H _ ls 281 hf hP hD hS dX12_goesOn_281
  have B_271 : ∀ (z0 : MOT) (H : Heap) (locs : List Loc) (ls : Array Slot), f_X12_goesOn_b271 y_tape z0 = some (u0) → va_P D vwCl (w_MO dA a q0 q1 (ta 0) g3 g4 g5 g6 g7 g8 g9 g10 g11 g12 g13 g14 g15 g16 g17 g18 z0 ++ (w_Tape dA ta y_tape)) H → va_D A (w_MO dA a q0 q1 (ta 0) g3 g4 g5 g6 g7 g8 g9 g10 g11 g12 g13 g14 g15 g16 g17 g18 z0 ++ (w_Tape dA ta y_tape)) → va_S A s.heap H locs → lv_has ls 3 [(0, .ref (a 0))] → W p l e ({ frames := 1, cells := 0, slots := 0, locals := 21 } : Room) s m ([.ref (a 0)] : List Value).toArray below meth c H locs 0 0 Q (F0 m 271 ls []) := by
    intro z0 H locs ls hf hP hD hS hl
    rw [f_X12_goesOn_b271] at hf
    refine lv_aload_n hx hb dX12_goesOn_271 rfl (lv_at hl 0 rfl) ?_
    refine lv_dup hx hb dX12_goesOn_272 rfl ?_
    refine va_get (D := D) (ci := 12) (v := .int (mo_spot z0)) (C := RX12) (T := TX12) (N := 35) hx hb hts kb_inX12 hown hK.1 hP 0 rfl rfl 8 (by decide) (hK.2.w ww_5_208 rfl _) (fun _ h9 => h9) rfl dX12_goesOn_273 ?_
    refine lv_iconst (v := (1 : Int32)) hx hb dX12_goesOn_276 (by decide) ?_
    refine lv_iadd hx hb dX12_goesOn_277 ?_
    refine va_put (D := D) (ci := 12) (v := .int ((mo_spot z0) + (1 : Int32))) (ty := .int) (C := RX12) (T := TX12) (N := 35) hx hb hts kb_inX12 tyX12 tyX12_ok nmX12 hown hK.1 hP hD hS 0 rfl rfl 8 (by decide) (hK.2.w ww_5_208 rfl _) (fun _ h9 => h9) rfl (by decide +kernel) rfl rfl (Nat.le_of_ble_eq_true rfl) dX12_goesOn_278 (fun H locs hP hD hS => ?_)
    have hP : va_P D vwCl (w_MO dA a q0 q1 (ta 0) g3 g4 g5 g6 g7 g8 g9 g10 g11 g12 g13 g14 g15 g16 g17 g18 (mo_set_spot z0 ((mo_spot z0) + (1 : Int32))) ++ (w_Tape dA ta y_tape)) H := hP
    have hD : va_D A (w_MO dA a q0 q1 (ta 0) g3 g4 g5 g6 g7 g8 g9 g10 g11 g12 g13 g14 g15 g16 g17 g18 (mo_set_spot z0 ((mo_spot z0) + (1 : Int32))) ++ (w_Tape dA ta y_tape)) := hD
    exact B_281 _ _ _ _ hf hP hD hS (lv_sub hl [] rfl)
  have B_266 : ∀ (v1 : Int32) (z0 : MOT) (H : Heap) (locs : List Loc) (ls : Array Slot), f_X12_goesOn_b266 y_tape v1 z0 = some (u0) → va_P D vwCl (w_MO dA a q0 q1 (ta 0) g3 g4 g5 g6 g7 g8 g9 g10 g11 g12 g13 g14 g15 g16 g17 g18 z0 ++ (w_Tape dA ta y_tape)) H → va_D A (w_MO dA a q0 q1 (ta 0) g3 g4 g5 g6 g7 g8 g9 g10 g11 g12 g13 g14 g15 g16 g17 g18 z0 ++ (w_Tape dA ta y_tape)) → va_S A s.heap H locs → lv_has ls 3 [(0, .ref (a 0)), (1, .int v1)] → W p l e ({ frames := 1, cells := 0, slots := 0, locals := 21 } : Room) s m ([.ref (a 0)] : List Value).toArray below meth c H locs 0 0 Q (F0 m 266 ls []) := by
    intro v1 z0 H locs ls hf hP hD hS hl
    rw [f_X12_goesOn_b266] at hf
    refine lv_aload_n hx hb dX12_goesOn_266 rfl (lv_at hl 0 rfl) ?_
    refine lv_iload_n hx hb dX12_goesOn_267 rfl (lv_at hl 1 rfl) ?_
    refine va_put (D := D) (ci := 12) (v := .int v1) (ty := .int) (C := RX12) (T := TX12) (N := 35) hx hb hts kb_inX12 tyX12 tyX12_ok nmX12 hown hK.1 hP hD hS 0 rfl rfl 11 (by decide) (hK.2.w ww_5_211 rfl _) (fun _ h9 => h9) rfl (by decide +kernel) rfl rfl (Nat.le_of_ble_eq_true rfl) dX12_goesOn_268 (fun H locs hP hD hS => ?_)
    have hP : va_P D vwCl (w_MO dA a q0 q1 (ta 0) g3 g4 g5 g6 g7 g8 g9 g10 g11 g12 g13 g14 g15 g16 g17 g18 (mo_set_sign z0 v1) ++ (w_Tape dA ta y_tape)) H := hP
    have hD : va_D A (w_MO dA a q0 q1 (ta 0) g3 g4 g5 g6 g7 g8 g9 g10 g11 g12 g13 g14 g15 g16 g17 g18 (mo_set_sign z0 v1) ++ (w_Tape dA ta y_tape)) := hD
    exact B_271 _ _ _ _ hf hP hD hS (lv_sub hl [0] rfl)
  have B_261 : ∀ (v1 : Int32) (z0 : MOT) (H : Heap) (locs : List Loc) (ls : Array Slot), f_X12_goesOn_b261 y_tape v1 z0 = some (u0) → va_P D vwCl (w_MO dA a q0 q1 (ta 0) g3 g4 g5 g6 g7 g8 g9 g10 g11 g12 g13 g14 g15 g16 g17 g18 z0 ++ (w_Tape dA ta y_tape)) H → va_D A (w_MO dA a q0 q1 (ta 0) g3 g4 g5 g6 g7 g8 g9 g10 g11 g12 g13 g14 g15 g16 g17 g18 z0 ++ (w_Tape dA ta y_tape)) → va_S A s.heap H locs → lv_has ls 3 [(0, .ref (a 0)), (1, .int v1)] → W p l e ({ frames := 1, cells := 0, slots := 0, locals := 21 } : Room) s m ([.ref (a 0)] : List Value).toArray below meth c H locs 0 0 Q (F0 m 261 ls []) := by
    intro v1 z0 H locs ls hf hP hD hS hl
    rw [f_X12_goesOn_b261] at hf
    refine lv_aload_n hx hb dX12_goesOn_261 rfl (lv_at hl 0 rfl) ?_
    refine lv_iconst (v := (4 : Int32)) hx hb dX12_goesOn_262 (by decide) ?_
    refine va_put (D := D) (ci := 12) (v := .int (4 : Int32)) (ty := .int) (C := RX12) (T := TX12) (N := 35) hx hb hts kb_inX12 tyX12 tyX12_ok nmX12 hown hK.1 hP hD hS 0 rfl rfl 9 (by decide) (hK.2.w ww_5_209 rfl _) (fun _ h9 => h9) rfl (by decide +kernel) rfl rfl (Nat.le_of_ble_eq_true rfl) dX12_goesOn_263 (fun H locs hP hD hS => ?_)
    have hP : va_P D vwCl (w_MO dA a q0 q1 (ta 0) g3 g4 g5 g6 g7 g8 g9 g10 g11 g12 g13 g14 g15 g16 g17 g18 (mo_set_sort z0 (4 : Int32)) ++ (w_Tape dA ta y_tape)) H := hP
    have hD : va_D A (w_MO dA a q0 q1 (ta 0) g3 g4 g5 g6 g7 g8 g9 g10 g11 g12 g13 g14 g15 g16 g17 g18 (mo_set_sort z0 (4 : Int32)) ++ (w_Tape dA ta y_tape)) := hD
    exact B_266 _ _ _ _ _ hf hP hD hS (lv_sub hl [0, 1] rfl)
  have B_246 : ∀ (z0 : MOT) (H : Heap) (locs : List Loc) (ls : Array Slot), f_X12_goesOn_b246 y_tape z0 = some (u0) → va_P D vwCl (w_MO dA a q0 q1 (ta 0) g3 g4 g5 g6 g7 g8 g9 g10 g11 g12 g13 g14 g15 g16 g17 g18 z0 ++ (w_Tape dA ta y_tape)) H → va_D A (w_MO dA a q0 q1 (ta 0) g3 g4 g5 g6 g7 g8 g9 g10 g11 g12 g13 g14 g15 g16 g17 g18 z0 ++ (w_Tape dA ta y_tape)) → va_S A s.heap H locs → lv_has ls 3 [] → W p l e ({ frames := 1, cells := 0, slots := 0, locals := 21 } : Room) s m ([.ref (a 0)] : List Value).toArray below meth c H locs 0 0 Q (F0 m 246 ls []) := by
    intro z0 H locs ls hf hP hD hS hl
    rw [f_X12_goesOn_b246] at hf
    refine lv_goto (tgt := 281) hx hb dX12_goesOn_246 (by decide) ?_
    exact B_281 _ _ _ _ hf hP hD hS (lv_sub hl [] rfl)
  have B_233 : ∀ (k178 : Int32 → MOT → Option (MOT)) (hk178 : ∀ (v2 : Int32) (z0 : MOT) (H : Heap) (locs : List Loc) (ls : Array Slot), k178 v2 z0 = some (u0) → va_P D vwCl (w_MO dA a q0 q1 (ta 0) g3 g4 g5 g6 g7 g8 g9 g10 g11 g12 g13 g14 g15 g16 g17 g18 z0 ++ (w_Tape dA ta y_tape)) H → va_D A (w_MO dA a q0 q1 (ta 0) g3 g4 g5 g6 g7 g8 g9 g10 g11 g12 g13 g14 g15 g16 g17 g18 z0 ++ (w_Tape dA ta y_tape)) → va_S A s.heap H locs → lv_has ls 3 [(0, .ref (a 0)), (2, .int v2)] → W p l e ({ frames := 1, cells := 0, slots := 0, locals := 21 } : Room) s m ([.ref (a 0)] : List Value).toArray below meth c H locs 0 0 Q (F0 m 178 ls [])) (v2 : Int32) (z0 : MOT) (H : Heap) (locs : List Loc) (ls : Array Slot), f_X12_goesOn_b233 y_tape k178 v2 z0 = some (u0) → va_P D vwCl (w_MO dA a q0 q1 (ta 0) g3 g4 g5 g6 g7 g8 g9 g10 g11 g12 g13 g14 g15 g16 g17 g18 z0 ++ (w_Tape dA ta y_tape)) H → va_D A (w_MO dA a q0 q1 (ta 0) g3 g4 g5 g6 g7 g8 g9 g10 g11 g12 g13 g14 g15 g16 g17 g18 z0 ++ (w_Tape dA ta y_tape)) → va_S A s.heap H locs → lv_has ls 3 [(0, .ref (a 0)), (2, .int v2)] → W p l e ({ frames := 1, cells := 0, slots := 0, locals := 21 } : Room) s m ([.ref (a 0)] : List Value).toArray below meth c H locs 0 0 Q (F0 m 233 ls []) := by
    intro k178 hk178 v2 z0 H locs ls hf hP hD hS hl
    rw [f_X12_goesOn_b233] at hf
    refine lv_goto (tgt := 178) hx hb dX12_goesOn_233 (by decide) ?_
    exact hk178 _ _ _ _ _ hf hP hD hS (lv_sub hl [0, 1] rfl)
  have B_220 : ∀ (k178 : Int32 → MOT → Option (MOT)) (hk178 : ∀ (v2 : Int32) (z0 : MOT) (H : Heap) (locs : List Loc) (ls : Array Slot), k178 v2 z0 = some (u0) → va_P D vwCl (w_MO dA a q0 q1 (ta 0) g3 g4 g5 g6 g7 g8 g9 g10 g11 g12 g13 g14 g15 g16 g17 g18 z0 ++ (w_Tape dA ta y_tape)) H → va_D A (w_MO dA a q0 q1 (ta 0) g3 g4 g5 g6 g7 g8 g9 g10 g11 g12 g13 g14 g15 g16 g17 g18 z0 ++ (w_Tape dA ta y_tape)) → va_S A s.heap H locs → lv_has ls 3 [(0, .ref (a 0)), (2, .int v2)] → W p l e ({ frames := 1, cells := 0, slots := 0, locals := 21 } : Room) s m ([.ref (a 0)] : List Value).toArray below meth c H locs 0 0 Q (F0 m 178 ls [])) (v2 : Int32) (z0 : MOT) (H : Heap) (locs : List Loc) (ls : Array Slot), f_X12_goesOn_b220 y_tape k178 v2 z0 = some (u0) → va_P D vwCl (w_MO dA a q0 q1 (ta 0) g3 g4 g5 g6 g7 g8 g9 g10 g11 g12 g13 g14 g15 g16 g17 g18 z0 ++ (w_Tape dA ta y_tape)) H → va_D A (w_MO dA a q0 q1 (ta 0) g3 g4 g5 g6 g7 g8 g9 g10 g11 g12 g13 g14 g15 g16 g17 g18 z0 ++ (w_Tape dA ta y_tape)) → va_S A s.heap H locs → lv_has ls 3 [(0, .ref (a 0)), (2, .int v2)] → W p l e ({ frames := 1, cells := 0, slots := 0, locals := 21 } : Room) s m ([.ref (a 0)] : List Value).toArray below meth c H locs 0 0 Q (F0 m 220 ls []) := by
    intro k178 hk178 v2 z0 H locs ls hf hP hD hS hl
    rw [f_X12_goesOn_b220] at hf
    refine lv_iinc (v := (v2 + (1 : Int32))) (lv' := [(2, .int (v2 + (1 : Int32))), (0, .ref (a 0))]) hx hb dX12_goesOn_220 hl (k := 1) rfl (by rfl) (by decide) rfl (fun ls hl => ?_)
    refine lv_aload_n hx hb dX12_goesOn_223 rfl (lv_at hl 1 rfl) ?_
    refine lv_dup hx hb dX12_goesOn_224 rfl ?_
    refine va_get (D := D) (ci := 12) (v := .int (mo_spot z0)) (C := RX12) (T := TX12) (N := 35) hx hb hts kb_inX12 hown hK.1 hP 0 rfl rfl 8 (by decide) (hK.2.w ww_5_208 rfl _) (fun _ h9 => h9) rfl dX12_goesOn_225 ?_
    refine lv_iconst (v := (1 : Int32)) hx hb dX12_goesOn_228 (by decide) ?_
    refine lv_iadd hx hb dX12_goesOn_229 ?_
    refine va_put (D := D) (ci := 12) (v := .int ((mo_spot z0) + (1 : Int32))) (ty := .int) (C := RX12) (T := TX12) (N := 35) hx hb hts kb_inX12 tyX12 tyX12_ok nmX12 hown hK.1 hP hD hS 0 rfl rfl 8 (by decide) (hK.2.w ww_5_208 rfl _) (fun _ h9 => h9) rfl (by decide +kernel) rfl rfl (Nat.le_of_ble_eq_true rfl) dX12_goesOn_230 (fun H locs hP hD hS => ?_)
    have hP : va_P D vwCl (w_MO dA a q0 q1 (ta 0) g3 g4 g5 g6 g7 g8 g9 g10 g11 g12 g13 g14 g15 g16 g17 g18 (mo_set_spot z0 ((mo_spot z0) + (1 : Int32))) ++ (w_Tape dA ta y_tape)) H := hP
    have hD : va_D A (w_MO dA a q0 q1 (ta 0) g3 g4 g5 g6 g7 g8 g9 g10 g11 g12 g13 g14 g15 g16 g17 g18 (mo_set_spot z0 ((mo_spot z0) + (1 : Int32))) ++ (w_Tape dA ta y_tape)) := hD
    exact B_233 k178 hk178 _ _ _ _ _ hf hP hD hS (lv_sub hl [1, 0] rfl)
  have B_178 : ∀ (n : Nat) (v2 : Int32) (z0 : MOT) (H : Heap) (locs : List Loc) (ls : Array Slot), f_X12_goesOn_b178 y_tape n v2 z0 = some (u0) → va_P D vwCl (w_MO dA a q0 q1 (ta 0) g3 g4 g5 g6 g7 g8 g9 g10 g11 g12 g13 g14 g15 g16 g17 g18 z0 ++ (w_Tape dA ta y_tape)) H → va_D A (w_MO dA a q0 q1 (ta 0) g3 g4 g5 g6 g7 g8 g9 g10 g11 g12 g13 g14 g15 g16 g17 g18 z0 ++ (w_Tape dA ta y_tape)) → va_S A s.heap H locs → lv_has ls 3 [(0, .ref (a 0)), (2, .int v2)] → W p l e ({ frames := 1, cells := 0, slots := 0, locals := 21 } : Room) s m ([.ref (a 0)] : List Value).toArray below meth c H locs 0 0 Q (F0 m 178 ls []) := by
    intro n
    induction n with
    | zero =>
      intro v2 z0 H locs ls hf
      exact absurd hf (by simp [f_X12_goesOn_b178])
    | succ n ih =>
      intro v2 z0 H locs ls hf hP hD hS hl
      rw [f_X12_goesOn_b178] at hf
      refine lv_aload_n hx hb dX12_goesOn_178 rfl (lv_at hl 0 rfl) ?_
      refine lv_aload_n hx hb dX12_goesOn_179 rfl (lv_at hl 0 rfl) ?_
      refine va_get (D := D) (ci := 12) (v := .int (mo_spot z0)) (C := RX12) (T := TX12) (N := 35) hx hb hts kb_inX12 hown hK.1 hP 0 rfl rfl 8 (by decide) (hK.2.w ww_5_208 rfl _) (fun _ h9 => h9) rfl dX12_goesOn_180 ?_
      obtain ⟨r12, hc12, hf⟩ := kb_bind hf
      refine kb_ci (ws2 := (w_MO dA a q0 q1 (ta 0) g3 g4 g5 g6 g7 g8 g9 g10 g11 g12 g13 g14 g15 g16 g17 g18 z0 ++ (w_Tape dA ta y_tape))) (kb_rV (n := 1) (As := [.int (mo_spot z0)]) (rest := []) hx hb hml hown hK (c_X12_byteAt l D dA H.size a ta q0 q1 g3 g4 g5 g6 g7 g8 g9 g10 g11 g12 g13 g14 g15 g16 g17 g18 z0 y_tape (mo_spot z0) r12 hc12) ⟨ww_6_193, ww_6_190, ww_6_192, ws_48, ww_1_12, rfl, by decide, by decide⟩ rfl rfl (by decide +kernel) ⟨Nat.le_of_ble_eq_true rfl, Nat.le_of_ble_eq_true rfl⟩ hP hD hS hA hE [0, 1] rfl (by decide) 0 rfl rfl rfl hl.1 rfl (Nat.le_of_ble_eq_true rfl) dX12_goesOn_183 ⟨Nat.le_of_ble_eq_true rfl, Nat.le_of_ble_eq_true rfl⟩) hP hD hS hA [0, 1] [] [0, 1] rfl rfl (by decide) (by decide) rfl (by decide) (fun H locs hP hD hS => ?_)
      obtain ⟨r13, hc13, hf⟩ := kb_bind hf
      refine kb_ci (ws2 := (w_MO dA a q0 q1 (ta 0) g3 g4 g5 g6 g7 g8 g9 g10 g11 g12 g13 g14 g15 g16 g17 g18 z0 ++ (w_Tape dA ta y_tape))) (kb_rS (n := 1) (As := [.int r12]) (rest := []) hx hb hml hown hK (c_X12_isDigit l D dA H.size r12 r13 hc13) ⟨ww_6_200, ww_6_198, ww_6_199, ww_1_12, by decide, by decide⟩ rfl rfl (by decide +kernel) ⟨Nat.le_of_ble_eq_true rfl, Nat.le_of_ble_eq_true rfl⟩ hP hD hS hA hE [] rfl (by decide) rfl hl.1 rfl (Nat.le_of_ble_eq_true rfl) dX12_goesOn_186 ⟨Nat.le_of_ble_eq_true rfl, Nat.le_of_ble_eq_true rfl⟩) hP hD hS hA [] [0, 1] [0, 1] rfl rfl (by decide) (by decide) rfl (by decide) (fun H locs hP hD hS => ?_)
      refine lv_if_eq (tgt := 236) hx hb dX12_goesOn_189 (by decide) (fun c_14 => ?_) (fun c_14 => ?_)
      · rw [if_pos c_14] at hf
        refine lv_iload_n hx hb dX12_goesOn_236 rfl (lv_at hl 1 rfl) ?_
        refine lv_iconst (v := (3 : Int32)) hx hb dX12_goesOn_237 (by decide) ?_
        refine lv_icmp_gt (tgt := 281) hx hb dX12_goesOn_238 (by decide) (fun c_15 => ?_) (fun c_15 => ?_)
        · rw [if_pos c_15] at hf
          exact B_281 _ _ _ _ hf hP hD hS (lv_sub hl [] rfl)
        · rw [if_neg c_15] at hf
          refine lv_aload_n hx hb dX12_goesOn_241 rfl (lv_at hl 0 rfl) ?_
          refine lv_iconst (v := (3 : Int32)) hx hb dX12_goesOn_242 (by decide) ?_
          refine va_put (D := D) (ci := 12) (v := .int (3 : Int32)) (ty := .int) (C := RX12) (T := TX12) (N := 35) hx hb hts kb_inX12 tyX12 tyX12_ok nmX12 hown hK.1 hP hD hS 0 rfl rfl 9 (by decide) (hK.2.w ww_5_209 rfl _) (fun _ h9 => h9) rfl (by decide +kernel) rfl rfl (Nat.le_of_ble_eq_true rfl) dX12_goesOn_243 (fun H locs hP hD hS => ?_)
          have hP : va_P D vwCl (w_MO dA a q0 q1 (ta 0) g3 g4 g5 g6 g7 g8 g9 g10 g11 g12 g13 g14 g15 g16 g17 g18 (mo_set_sort z0 (3 : Int32)) ++ (w_Tape dA ta y_tape)) H := hP
          have hD : va_D A (w_MO dA a q0 q1 (ta 0) g3 g4 g5 g6 g7 g8 g9 g10 g11 g12 g13 g14 g15 g16 g17 g18 (mo_set_sort z0 (3 : Int32)) ++ (w_Tape dA ta y_tape)) := hD
          exact B_246 _ _ _ _ hf hP hD hS (lv_sub hl [] rfl)
      · rw [if_neg c_14] at hf
        refine lv_iload_n hx hb dX12_goesOn_192 rfl (lv_at hl 1 rfl) ?_
        refine lv_iconst (v := (3 : Int32)) hx hb dX12_goesOn_193 (by decide) ?_
        refine lv_icmp_ge (tgt := 220) hx hb dX12_goesOn_194 (by decide) (fun c_16 => ?_) (fun c_16 => ?_)
        · rw [if_pos c_16] at hf
          exact B_220 (f_X12_goesOn_b178 y_tape n) ih _ _ _ _ _ hf hP hD hS (lv_sub hl [0, 1] rfl)
        · rw [if_neg c_16] at hf
          refine lv_aload_n hx hb dX12_goesOn_197 rfl (lv_at hl 0 rfl) ?_
          refine lv_bipush (v := (10 : Int32)) hx hb dX12_goesOn_198 (by decide) ?_
          refine lv_aload_n hx hb dX12_goesOn_200 rfl (lv_at hl 0 rfl) ?_
          refine va_get (D := D) (ci := 12) (v := .int (mo_number z0)) (C := RX12) (T := TX12) (N := 35) hx hb hts kb_inX12 hown hK.1 hP 0 rfl rfl 12 (by decide) (hK.2.w ww_5_212 rfl _) (fun _ h9 => h9) rfl dX12_goesOn_201 ?_
          refine lv_imul hx hb dX12_goesOn_204 ?_
          refine lv_aload_n hx hb dX12_goesOn_205 rfl (lv_at hl 0 rfl) ?_
          refine lv_aload_n hx hb dX12_goesOn_206 rfl (lv_at hl 0 rfl) ?_
          refine va_get (D := D) (ci := 12) (v := .int (mo_spot z0)) (C := RX12) (T := TX12) (N := 35) hx hb hts kb_inX12 hown hK.1 hP 0 rfl rfl 8 (by decide) (hK.2.w ww_5_208 rfl _) (fun _ h9 => h9) rfl dX12_goesOn_207 ?_
          obtain ⟨r17, hc17, hf⟩ := kb_bind hf
          refine kb_ci (ws2 := (w_MO dA a q0 q1 (ta 0) g3 g4 g5 g6 g7 g8 g9 g10 g11 g12 g13 g14 g15 g16 g17 g18 z0 ++ (w_Tape dA ta y_tape))) (kb_rV (n := 1) (As := [.int (mo_spot z0)]) (rest := [.int ((10 : Int32) * (mo_number z0)), .ref (a 0)]) hx hb hml hown hK (c_X12_byteAt l D dA H.size a ta q0 q1 g3 g4 g5 g6 g7 g8 g9 g10 g11 g12 g13 g14 g15 g16 g17 g18 z0 y_tape (mo_spot z0) r17 hc17) ⟨ww_6_193, ww_6_190, ww_6_192, ws_48, ww_1_12, rfl, by decide, by decide⟩ rfl rfl (by decide +kernel) ⟨Nat.le_of_ble_eq_true rfl, Nat.le_of_ble_eq_true rfl⟩ hP hD hS hA hE [0, 1] rfl (by decide) 0 rfl rfl rfl hl.1 rfl (Nat.le_of_ble_eq_true rfl) dX12_goesOn_210 ⟨Nat.le_of_ble_eq_true rfl, Nat.le_of_ble_eq_true rfl⟩) hP hD hS hA [0, 1] [] [0, 1] rfl rfl (by decide) (by decide) rfl (by decide) (fun H locs hP hD hS => ?_)
          refine lv_iadd hx hb dX12_goesOn_213 ?_
          refine lv_bipush (v := (48 : Int32)) hx hb dX12_goesOn_214 (by decide) ?_
          refine lv_isub hx hb dX12_goesOn_216 ?_
          refine va_put (D := D) (ci := 12) (v := .int ((((10 : Int32) * (mo_number z0)) + r17) - (48 : Int32))) (ty := .int) (C := RX12) (T := TX12) (N := 35) hx hb hts kb_inX12 tyX12 tyX12_ok nmX12 hown hK.1 hP hD hS 0 rfl rfl 12 (by decide) (hK.2.w ww_5_212 rfl _) (fun _ h9 => h9) rfl (by decide +kernel) rfl rfl (Nat.le_of_ble_eq_true rfl) dX12_goesOn_217 (fun H locs hP hD hS => ?_)
          have hP : va_P D vwCl (w_MO dA a q0 q1 (ta 0) g3 g4 g5 g6 g7 g8 g9 g10 g11 g12 g13 g14 g15 g16 g17 g18 (mo_set_number z0 ((((10 : Int32) * (mo_number z0)) + r17) - (48 : Int32))) ++ (w_Tape dA ta y_tape)) H := hP
          have hD : va_D A (w_MO dA a q0 q1 (ta 0) g3 g4 g5 g6 g7 g8 g9 g10 g11 g12 g13 g14 g15 g16 g17 g18 (mo_set_number z0 ((((10 : Int32) * (mo_number z0)) + r17) - (48 : Int32))) ++ (w_Tape dA ta y_tape)) := hD
          exact B_220 (f_X12_goesOn_b178 y_tape n) ih _ _ _ _ _ hf hP hD hS (lv_sub hl [0, 1] rfl)
  have B_163 : ∀ (z0 : MOT) (H : Heap) (locs : List Loc) (ls : Array Slot), f_X12_goesOn_b163 y_tape z0 = some (u0) → va_P D vwCl (w_MO dA a q0 q1 (ta 0) g3 g4 g5 g6 g7 g8 g9 g10 g11 g12 g13 g14 g15 g16 g17 g18 z0 ++ (w_Tape dA ta y_tape)) H → va_D A (w_MO dA a q0 q1 (ta 0) g3 g4 g5 g6 g7 g8 g9 g10 g11 g12 g13 g14 g15 g16 g17 g18 z0 ++ (w_Tape dA ta y_tape)) → va_S A s.heap H locs → lv_has ls 3 [] → W p l e ({ frames := 1, cells := 0, slots := 0, locals := 21 } : Room) s m ([.ref (a 0)] : List Value).toArray below meth c H locs 0 0 Q (F0 m 163 ls []) := by
    intro z0 H locs ls hf hP hD hS hl
    rw [f_X12_goesOn_b163] at hf
    refine lv_goto (tgt := 281) hx hb dX12_goesOn_163 (by decide) ?_
    exact B_281 _ _ _ _ hf hP hD hS (lv_sub hl [] rfl)
  have B_149 : ∀ (k89 : Int32 → MOT → Option (MOT)) (hk89 : ∀ (v2 : Int32) (z0 : MOT) (H : Heap) (locs : List Loc) (ls : Array Slot), k89 v2 z0 = some (u0) → va_P D vwCl (w_MO dA a q0 q1 (ta 0) g3 g4 g5 g6 g7 g8 g9 g10 g11 g12 g13 g14 g15 g16 g17 g18 z0 ++ (w_Tape dA ta y_tape)) H → va_D A (w_MO dA a q0 q1 (ta 0) g3 g4 g5 g6 g7 g8 g9 g10 g11 g12 g13 g14 g15 g16 g17 g18 z0 ++ (w_Tape dA ta y_tape)) → va_S A s.heap H locs → lv_has ls 3 [(0, .ref (a 0)), (2, .int v2)] → W p l e ({ frames := 1, cells := 0, slots := 0, locals := 21 } : Room) s m ([.ref (a 0)] : List Value).toArray below meth c H locs 0 0 Q (F0 m 89 ls [])) (v2 : Int32) (z0 : MOT) (H : Heap) (locs : List Loc) (ls : Array Slot), f_X12_goesOn_b149 y_tape k89 v2 z0 = some (u0) → va_P D vwCl (w_MO dA a q0 q1 (ta 0) g3 g4 g5 g6 g7 g8 g9 g10 g11 g12 g13 g14 g15 g16 g17 g18 z0 ++ (w_Tape dA ta y_tape)) H → va_D A (w_MO dA a q0 q1 (ta 0) g3 g4 g5 g6 g7 g8 g9 g10 g11 g12 g13 g14 g15 g16 g17 g18 z0 ++ (w_Tape dA ta y_tape)) → va_S A s.heap H locs → lv_has ls 3 [(0, .ref (a 0)), (2, .int v2)] → W p l e ({ frames := 1, cells := 0, slots := 0, locals := 21 } : Room) s m ([.ref (a 0)] : List Value).toArray below meth c H locs 0 0 Q (F0 m 149 ls []) := by
    intro k89 hk89 v2 z0 H locs ls hf hP hD hS hl
    rw [f_X12_goesOn_b149] at hf
    refine lv_goto (tgt := 89) hx hb dX12_goesOn_149 (by decide) ?_
    exact hk89 _ _ _ _ _ hf hP hD hS (lv_sub hl [0, 1] rfl)
  have B_136 : ∀ (k89 : Int32 → MOT → Option (MOT)) (hk89 : ∀ (v2 : Int32) (z0 : MOT) (H : Heap) (locs : List Loc) (ls : Array Slot), k89 v2 z0 = some (u0) → va_P D vwCl (w_MO dA a q0 q1 (ta 0) g3 g4 g5 g6 g7 g8 g9 g10 g11 g12 g13 g14 g15 g16 g17 g18 z0 ++ (w_Tape dA ta y_tape)) H → va_D A (w_MO dA a q0 q1 (ta 0) g3 g4 g5 g6 g7 g8 g9 g10 g11 g12 g13 g14 g15 g16 g17 g18 z0 ++ (w_Tape dA ta y_tape)) → va_S A s.heap H locs → lv_has ls 3 [(0, .ref (a 0)), (2, .int v2)] → W p l e ({ frames := 1, cells := 0, slots := 0, locals := 21 } : Room) s m ([.ref (a 0)] : List Value).toArray below meth c H locs 0 0 Q (F0 m 89 ls [])) (v2 : Int32) (z0 : MOT) (H : Heap) (locs : List Loc) (ls : Array Slot), f_X12_goesOn_b136 y_tape k89 v2 z0 = some (u0) → va_P D vwCl (w_MO dA a q0 q1 (ta 0) g3 g4 g5 g6 g7 g8 g9 g10 g11 g12 g13 g14 g15 g16 g17 g18 z0 ++ (w_Tape dA ta y_tape)) H → va_D A (w_MO dA a q0 q1 (ta 0) g3 g4 g5 g6 g7 g8 g9 g10 g11 g12 g13 g14 g15 g16 g17 g18 z0 ++ (w_Tape dA ta y_tape)) → va_S A s.heap H locs → lv_has ls 3 [(0, .ref (a 0)), (2, .int v2)] → W p l e ({ frames := 1, cells := 0, slots := 0, locals := 21 } : Room) s m ([.ref (a 0)] : List Value).toArray below meth c H locs 0 0 Q (F0 m 136 ls []) := by
    intro k89 hk89 v2 z0 H locs ls hf hP hD hS hl
    rw [f_X12_goesOn_b136] at hf
    refine lv_iinc (v := (v2 + (1 : Int32))) (lv' := [(2, .int (v2 + (1 : Int32))), (0, .ref (a 0))]) hx hb dX12_goesOn_136 hl (k := 1) rfl (by rfl) (by decide) rfl (fun ls hl => ?_)
    refine lv_aload_n hx hb dX12_goesOn_139 rfl (lv_at hl 1 rfl) ?_
    refine lv_dup hx hb dX12_goesOn_140 rfl ?_
    refine va_get (D := D) (ci := 12) (v := .int (mo_spot z0)) (C := RX12) (T := TX12) (N := 35) hx hb hts kb_inX12 hown hK.1 hP 0 rfl rfl 8 (by decide) (hK.2.w ww_5_208 rfl _) (fun _ h9 => h9) rfl dX12_goesOn_141 ?_
    refine lv_iconst (v := (1 : Int32)) hx hb dX12_goesOn_144 (by decide) ?_
    refine lv_iadd hx hb dX12_goesOn_145 ?_
    refine va_put (D := D) (ci := 12) (v := .int ((mo_spot z0) + (1 : Int32))) (ty := .int) (C := RX12) (T := TX12) (N := 35) hx hb hts kb_inX12 tyX12 tyX12_ok nmX12 hown hK.1 hP hD hS 0 rfl rfl 8 (by decide) (hK.2.w ww_5_208 rfl _) (fun _ h9 => h9) rfl (by decide +kernel) rfl rfl (Nat.le_of_ble_eq_true rfl) dX12_goesOn_146 (fun H locs hP hD hS => ?_)
    have hP : va_P D vwCl (w_MO dA a q0 q1 (ta 0) g3 g4 g5 g6 g7 g8 g9 g10 g11 g12 g13 g14 g15 g16 g17 g18 (mo_set_spot z0 ((mo_spot z0) + (1 : Int32))) ++ (w_Tape dA ta y_tape)) H := hP
    have hD : va_D A (w_MO dA a q0 q1 (ta 0) g3 g4 g5 g6 g7 g8 g9 g10 g11 g12 g13 g14 g15 g16 g17 g18 (mo_set_spot z0 ((mo_spot z0) + (1 : Int32))) ++ (w_Tape dA ta y_tape)) := hD
    exact B_149 k89 hk89 _ _ _ _ _ hf hP hD hS (lv_sub hl [1, 0] rfl)
  have B_89 : ∀ (n : Nat) (v2 : Int32) (z0 : MOT) (H : Heap) (locs : List Loc) (ls : Array Slot), f_X12_goesOn_b89 y_tape n v2 z0 = some (u0) → va_P D vwCl (w_MO dA a q0 q1 (ta 0) g3 g4 g5 g6 g7 g8 g9 g10 g11 g12 g13 g14 g15 g16 g17 g18 z0 ++ (w_Tape dA ta y_tape)) H → va_D A (w_MO dA a q0 q1 (ta 0) g3 g4 g5 g6 g7 g8 g9 g10 g11 g12 g13 g14 g15 g16 g17 g18 z0 ++ (w_Tape dA ta y_tape)) → va_S A s.heap H locs → lv_has ls 3 [(0, .ref (a 0)), (2, .int v2)] → W p l e ({ frames := 1, cells := 0, slots := 0, locals := 21 } : Room) s m ([.ref (a 0)] : List Value).toArray below meth c H locs 0 0 Q (F0 m 89 ls []) := by
    intro n
    induction n with
    | zero =>
      intro v2 z0 H locs ls hf
      exact absurd hf (by simp [f_X12_goesOn_b89])
    | succ n ih =>
      intro v2 z0 H locs ls hf hP hD hS hl
      rw [f_X12_goesOn_b89] at hf
      refine lv_aload_n hx hb dX12_goesOn_89 rfl (lv_at hl 0 rfl) ?_
      refine lv_aload_n hx hb dX12_goesOn_90 rfl (lv_at hl 0 rfl) ?_
      refine va_get (D := D) (ci := 12) (v := .int (mo_spot z0)) (C := RX12) (T := TX12) (N := 35) hx hb hts kb_inX12 hown hK.1 hP 0 rfl rfl 8 (by decide) (hK.2.w ww_5_208 rfl _) (fun _ h9 => h9) rfl dX12_goesOn_91 ?_
      obtain ⟨r18, hc18, hf⟩ := kb_bind hf
      refine kb_ci (ws2 := (w_MO dA a q0 q1 (ta 0) g3 g4 g5 g6 g7 g8 g9 g10 g11 g12 g13 g14 g15 g16 g17 g18 z0 ++ (w_Tape dA ta y_tape))) (kb_rV (n := 1) (As := [.int (mo_spot z0)]) (rest := []) hx hb hml hown hK (c_X12_byteAt l D dA H.size a ta q0 q1 g3 g4 g5 g6 g7 g8 g9 g10 g11 g12 g13 g14 g15 g16 g17 g18 z0 y_tape (mo_spot z0) r18 hc18) ⟨ww_6_193, ww_6_190, ww_6_192, ws_48, ww_1_12, rfl, by decide, by decide⟩ rfl rfl (by decide +kernel) ⟨Nat.le_of_ble_eq_true rfl, Nat.le_of_ble_eq_true rfl⟩ hP hD hS hA hE [0, 1] rfl (by decide) 0 rfl rfl rfl hl.1 rfl (Nat.le_of_ble_eq_true rfl) dX12_goesOn_94 ⟨Nat.le_of_ble_eq_true rfl, Nat.le_of_ble_eq_true rfl⟩) hP hD hS hA [0, 1] [] [0, 1] rfl rfl (by decide) (by decide) rfl (by decide) (fun H locs hP hD hS => ?_)
      obtain ⟨r19, hc19, hf⟩ := kb_bind hf
      refine kb_ci (ws2 := (w_MO dA a q0 q1 (ta 0) g3 g4 g5 g6 g7 g8 g9 g10 g11 g12 g13 g14 g15 g16 g17 g18 z0 ++ (w_Tape dA ta y_tape))) (kb_rS (n := 1) (As := [.int r18]) (rest := []) hx hb hml hown hK (c_X12_isLetter l D dA H.size r18 r19 hc19) ⟨ww_6_196, ww_6_194, ww_6_195, ww_1_12, by decide, by decide⟩ rfl rfl (by decide +kernel) ⟨Nat.le_of_ble_eq_true rfl, Nat.le_of_ble_eq_true rfl⟩ hP hD hS hA hE [] rfl (by decide) rfl hl.1 rfl (Nat.le_of_ble_eq_true rfl) dX12_goesOn_97 ⟨Nat.le_of_ble_eq_true rfl, Nat.le_of_ble_eq_true rfl⟩) hP hD hS hA [] [0, 1] [0, 1] rfl rfl (by decide) (by decide) rfl (by decide) (fun H locs hP hD hS => ?_)
      refine lv_if_eq (tgt := 152) hx hb dX12_goesOn_100 (by decide) (fun c_20 => ?_) (fun c_20 => ?_)
      · rw [if_pos c_20] at hf
        refine lv_iload_n hx hb dX12_goesOn_152 rfl (lv_at hl 1 rfl) ?_
        refine lv_bipush (v := (8 : Int32)) hx hb dX12_goesOn_153 (by decide) ?_
        refine lv_icmp_gt (tgt := 281) hx hb dX12_goesOn_155 (by decide) (fun c_21 => ?_) (fun c_21 => ?_)
        · rw [if_pos c_21] at hf
          exact B_281 _ _ _ _ hf hP hD hS (lv_sub hl [] rfl)
        · rw [if_neg c_21] at hf
          refine lv_aload_n hx hb dX12_goesOn_158 rfl (lv_at hl 0 rfl) ?_
          refine lv_iconst (v := (2 : Int32)) hx hb dX12_goesOn_159 (by decide) ?_
          refine va_put (D := D) (ci := 12) (v := .int (2 : Int32)) (ty := .int) (C := RX12) (T := TX12) (N := 35) hx hb hts kb_inX12 tyX12 tyX12_ok nmX12 hown hK.1 hP hD hS 0 rfl rfl 9 (by decide) (hK.2.w ww_5_209 rfl _) (fun _ h9 => h9) rfl (by decide +kernel) rfl rfl (Nat.le_of_ble_eq_true rfl) dX12_goesOn_160 (fun H locs hP hD hS => ?_)
          have hP : va_P D vwCl (w_MO dA a q0 q1 (ta 0) g3 g4 g5 g6 g7 g8 g9 g10 g11 g12 g13 g14 g15 g16 g17 g18 (mo_set_sort z0 (2 : Int32)) ++ (w_Tape dA ta y_tape)) H := hP
          have hD : va_D A (w_MO dA a q0 q1 (ta 0) g3 g4 g5 g6 g7 g8 g9 g10 g11 g12 g13 g14 g15 g16 g17 g18 (mo_set_sort z0 (2 : Int32)) ++ (w_Tape dA ta y_tape)) := hD
          exact B_163 _ _ _ _ hf hP hD hS (lv_sub hl [] rfl)
      · rw [if_neg c_20] at hf
        refine lv_iload_n hx hb dX12_goesOn_103 rfl (lv_at hl 1 rfl) ?_
        refine lv_bipush (v := (8 : Int32)) hx hb dX12_goesOn_104 (by decide) ?_
        refine lv_icmp_ge (tgt := 136) hx hb dX12_goesOn_106 (by decide) (fun c_22 => ?_) (fun c_22 => ?_)
        · rw [if_pos c_22] at hf
          exact B_136 (f_X12_goesOn_b89 y_tape n) ih _ _ _ _ _ hf hP hD hS (lv_sub hl [0, 1] rfl)
        · rw [if_neg c_22] at hf
          refine lv_aload_n hx hb dX12_goesOn_109 rfl (lv_at hl 0 rfl) ?_
          refine lv_ldc2 (v := (32 : Int64)) hx hb hown (hK.2.w ww_6_197 rfl _) dX12_goesOn_110 ?_
          refine lv_aload_n hx hb dX12_goesOn_113 rfl (lv_at hl 0 rfl) ?_
          refine va_get (D := D) (ci := 12) (v := .long (mo_word z0)) (C := RX12) (T := TX12) (N := 35) hx hb hts kb_inX12 hown hK.1 hP 0 rfl rfl 15 (by decide) (hK.2.w ww_5_215 rfl _) (fun _ h9 => h9) rfl dX12_goesOn_114 ?_
          refine lv_lmul hx hb dX12_goesOn_117 ?_
          refine lv_aload_n hx hb dX12_goesOn_118 rfl (lv_at hl 0 rfl) ?_
          refine lv_aload_n hx hb dX12_goesOn_119 rfl (lv_at hl 0 rfl) ?_
          refine va_get (D := D) (ci := 12) (v := .int (mo_spot z0)) (C := RX12) (T := TX12) (N := 35) hx hb hts kb_inX12 hown hK.1 hP 0 rfl rfl 8 (by decide) (hK.2.w ww_5_208 rfl _) (fun _ h9 => h9) rfl dX12_goesOn_120 ?_
          obtain ⟨r23, hc23, hf⟩ := kb_bind hf
          refine kb_ci (ws2 := (w_MO dA a q0 q1 (ta 0) g3 g4 g5 g6 g7 g8 g9 g10 g11 g12 g13 g14 g15 g16 g17 g18 z0 ++ (w_Tape dA ta y_tape))) (kb_rV (n := 1) (As := [.int (mo_spot z0)]) (rest := [.long ((32 : Int64) * (mo_word z0)), .ref (a 0)]) hx hb hml hown hK (c_X12_byteAt l D dA H.size a ta q0 q1 g3 g4 g5 g6 g7 g8 g9 g10 g11 g12 g13 g14 g15 g16 g17 g18 z0 y_tape (mo_spot z0) r23 hc23) ⟨ww_6_193, ww_6_190, ww_6_192, ws_48, ww_1_12, rfl, by decide, by decide⟩ rfl rfl (by decide +kernel) ⟨Nat.le_of_ble_eq_true rfl, Nat.le_of_ble_eq_true rfl⟩ hP hD hS hA hE [0, 1] rfl (by decide) 0 rfl rfl rfl hl.1 rfl (Nat.le_of_ble_eq_true rfl) dX12_goesOn_123 ⟨Nat.le_of_ble_eq_true rfl, Nat.le_of_ble_eq_true rfl⟩) hP hD hS hA [0, 1] [] [0, 1] rfl rfl (by decide) (by decide) rfl (by decide) (fun H locs hP hD hS => ?_)
          refine lv_bipush (v := (97 : Int32)) hx hb dX12_goesOn_126 (by decide) ?_
          refine lv_isub hx hb dX12_goesOn_128 ?_
          refine lv_iconst (v := (1 : Int32)) hx hb dX12_goesOn_129 (by decide) ?_
          refine lv_iadd hx hb dX12_goesOn_130 ?_
          refine lv_i2l hx hb dX12_goesOn_131 rfl ?_
          refine lv_ladd hx hb dX12_goesOn_132 ?_
          refine va_put (D := D) (ci := 12) (v := .long (((32 : Int64) * (mo_word z0)) + (((r23 - (97 : Int32)) + (1 : Int32))).toInt64)) (ty := .long) (C := RX12) (T := TX12) (N := 35) hx hb hts kb_inX12 tyX12 tyX12_ok nmX12 hown hK.1 hP hD hS 0 rfl rfl 15 (by decide) (hK.2.w ww_5_215 rfl _) (fun _ h9 => h9) rfl (by decide +kernel) rfl rfl (Nat.le_of_ble_eq_true rfl) dX12_goesOn_133 (fun H locs hP hD hS => ?_)
          have hP : va_P D vwCl (w_MO dA a q0 q1 (ta 0) g3 g4 g5 g6 g7 g8 g9 g10 g11 g12 g13 g14 g15 g16 g17 g18 (mo_set_word z0 (((32 : Int64) * (mo_word z0)) + (((r23 - (97 : Int32)) + (1 : Int32))).toInt64)) ++ (w_Tape dA ta y_tape)) H := hP
          have hD : va_D A (w_MO dA a q0 q1 (ta 0) g3 g4 g5 g6 g7 g8 g9 g10 g11 g12 g13 g14 g15 g16 g17 g18 (mo_set_word z0 (((32 : Int64) * (mo_word z0)) + (((r23 - (97 : Int32)) + (1 : Int32))).toInt64)) ++ (w_Tape dA ta y_tape)) := hD
          exact B_136 (f_X12_goesOn_b89 y_tape n) ih _ _ _ _ _ hf hP hD hS (lv_sub hl [0, 1] rfl)
  have B_74 : ∀ (z0 : MOT) (H : Heap) (locs : List Loc) (ls : Array Slot), f_X12_goesOn_b74 y_tape z0 = some (u0) → va_P D vwCl (w_MO dA a q0 q1 (ta 0) g3 g4 g5 g6 g7 g8 g9 g10 g11 g12 g13 g14 g15 g16 g17 g18 z0 ++ (w_Tape dA ta y_tape)) H → va_D A (w_MO dA a q0 q1 (ta 0) g3 g4 g5 g6 g7 g8 g9 g10 g11 g12 g13 g14 g15 g16 g17 g18 z0 ++ (w_Tape dA ta y_tape)) → va_S A s.heap H locs → lv_has ls 3 [] → W p l e ({ frames := 1, cells := 0, slots := 0, locals := 21 } : Room) s m ([.ref (a 0)] : List Value).toArray below meth c H locs 0 0 Q (F0 m 74 ls []) := by
    intro z0 H locs ls hf hP hD hS hl
    rw [f_X12_goesOn_b74] at hf
    refine lv_goto (tgt := 281) hx hb dX12_goesOn_74 (by decide) ?_
    exact B_281 _ _ _ _ hf hP hD hS (lv_sub hl [] rfl)
  have B_53 : ∀ (z0 : MOT) (H : Heap) (locs : List Loc) (ls : Array Slot), f_X12_goesOn_b53 y_tape z0 = some (u0) → va_P D vwCl (w_MO dA a q0 q1 (ta 0) g3 g4 g5 g6 g7 g8 g9 g10 g11 g12 g13 g14 g15 g16 g17 g18 z0 ++ (w_Tape dA ta y_tape)) H → va_D A (w_MO dA a q0 q1 (ta 0) g3 g4 g5 g6 g7 g8 g9 g10 g11 g12 g13 g14 g15 g16 g17 g18 z0 ++ (w_Tape dA ta y_tape)) → va_S A s.heap H locs → lv_has ls 3 [(0, .ref (a 0))] → W p l e ({ frames := 1, cells := 0, slots := 0, locals := 21 } : Room) s m ([.ref (a 0)] : List Value).toArray below meth c H locs 0 0 Q (F0 m 53 ls []) := by
    intro z0 H locs ls hf hP hD hS hl
    rw [f_X12_goesOn_b53] at hf
    refine lv_aload_n hx hb dX12_goesOn_53 rfl (lv_at hl 0 rfl) ?_
    refine lv_aload_n hx hb dX12_goesOn_54 rfl (lv_at hl 0 rfl) ?_
    refine va_get (D := D) (ci := 12) (v := .int (mo_spot z0)) (C := RX12) (T := TX12) (N := 35) hx hb hts kb_inX12 hown hK.1 hP 0 rfl rfl 8 (by decide) (hK.2.w ww_5_208 rfl _) (fun _ h9 => h9) rfl dX12_goesOn_55 ?_
    obtain ⟨r4, hc4, hf⟩ := kb_bind hf
    refine kb_ci (ws2 := (w_MO dA a q0 q1 (ta 0) g3 g4 g5 g6 g7 g8 g9 g10 g11 g12 g13 g14 g15 g16 g17 g18 z0 ++ (w_Tape dA ta y_tape))) (kb_rV (n := 1) (As := [.int (mo_spot z0)]) (rest := []) hx hb hml hown hK (c_X12_byteAt l D dA H.size a ta q0 q1 g3 g4 g5 g6 g7 g8 g9 g10 g11 g12 g13 g14 g15 g16 g17 g18 z0 y_tape (mo_spot z0) r4 hc4) ⟨ww_6_193, ww_6_190, ww_6_192, ws_48, ww_1_12, rfl, by decide, by decide⟩ rfl rfl (by decide +kernel) ⟨Nat.le_of_ble_eq_true rfl, Nat.le_of_ble_eq_true rfl⟩ hP hD hS hA hE [0, 1] rfl (by decide) 0 rfl rfl rfl hl.1 rfl (Nat.le_of_ble_eq_true rfl) dX12_goesOn_58 ⟨Nat.le_of_ble_eq_true rfl, Nat.le_of_ble_eq_true rfl⟩) hP hD hS hA [0, 1] [] [0, 1] rfl rfl (by decide) (by decide) rfl (by decide) (fun H locs hP hD hS => ?_)
    refine lv_istore_n (lv' := [(1, .int r4), (0, .ref (a 0))]) hx hb dX12_goesOn_61 rfl hl (by decide) rfl (fun ls hl => ?_)
    refine lv_iconst (v := (0 : Int32)) hx hb dX12_goesOn_62 (by decide) ?_
    refine lv_istore_n (lv' := [(2, .int (0 : Int32)), (1, .int r4), (0, .ref (a 0))]) hx hb dX12_goesOn_63 rfl hl (by decide) rfl (fun ls hl => ?_)
    refine lv_iload_n hx hb dX12_goesOn_64 rfl (lv_at hl 1 rfl) ?_
    refine lv_iconst (v := (-1 : Int32)) hx hb dX12_goesOn_65 (by decide) ?_
    refine lv_icmp_ne (tgt := 77) hx hb dX12_goesOn_66 (by decide) (fun c_5 => ?_) (fun c_5 => ?_)
    · rw [if_neg c_5] at hf
      refine lv_iload_n hx hb dX12_goesOn_77 rfl (lv_at hl 1 rfl) ?_
      obtain ⟨r6, hc6, hf⟩ := kb_bind hf
      refine kb_ci (ws2 := (w_MO dA a q0 q1 (ta 0) g3 g4 g5 g6 g7 g8 g9 g10 g11 g12 g13 g14 g15 g16 g17 g18 z0 ++ (w_Tape dA ta y_tape))) (kb_rS (n := 1) (As := [.int r4]) (rest := []) hx hb hml hown hK (c_X12_isLetter l D dA H.size r4 r6 hc6) ⟨ww_6_196, ww_6_194, ww_6_195, ww_1_12, by decide, by decide⟩ rfl rfl (by decide +kernel) ⟨Nat.le_of_ble_eq_true rfl, Nat.le_of_ble_eq_true rfl⟩ hP hD hS hA hE [] rfl (by decide) rfl hl.1 rfl (Nat.le_of_ble_eq_true rfl) dX12_goesOn_78 ⟨Nat.le_of_ble_eq_true rfl, Nat.le_of_ble_eq_true rfl⟩) hP hD hS hA [] [0, 1] [0, 1] rfl rfl (by decide) (by decide) rfl (by decide) (fun H locs hP hD hS => ?_)
      refine lv_if_eq (tgt := 166) hx hb dX12_goesOn_81 (by decide) (fun c_7 => ?_) (fun c_7 => ?_)
      · rw [if_pos c_7] at hf
        refine lv_iload_n hx hb dX12_goesOn_166 rfl (lv_at hl 1 rfl) ?_
        obtain ⟨r8, hc8, hf⟩ := kb_bind hf
        refine kb_ci (ws2 := (w_MO dA a q0 q1 (ta 0) g3 g4 g5 g6 g7 g8 g9 g10 g11 g12 g13 g14 g15 g16 g17 g18 z0 ++ (w_Tape dA ta y_tape))) (kb_rS (n := 1) (As := [.int r4]) (rest := []) hx hb hml hown hK (c_X12_isDigit l D dA H.size r4 r8 hc8) ⟨ww_6_200, ww_6_198, ww_6_199, ww_1_12, by decide, by decide⟩ rfl rfl (by decide +kernel) ⟨Nat.le_of_ble_eq_true rfl, Nat.le_of_ble_eq_true rfl⟩ hP hD hS hA hE [] rfl (by decide) rfl hl.1 rfl (Nat.le_of_ble_eq_true rfl) dX12_goesOn_167 ⟨Nat.le_of_ble_eq_true rfl, Nat.le_of_ble_eq_true rfl⟩) hP hD hS hA [] [0, 1] [0, 1] rfl rfl (by decide) (by decide) rfl (by decide) (fun H locs hP hD hS => ?_)
        refine lv_if_eq (tgt := 249) hx hb dX12_goesOn_170 (by decide) (fun c_9 => ?_) (fun c_9 => ?_)
        · rw [if_pos c_9] at hf
          refine lv_iload_n hx hb dX12_goesOn_249 rfl (lv_at hl 1 rfl) ?_
          refine lv_bipush (v := (59 : Int32)) hx hb dX12_goesOn_250 (by decide) ?_
          refine lv_icmp_eq (tgt := 261) hx hb dX12_goesOn_252 (by decide) (fun c_10 => ?_) (fun c_10 => ?_)
          · rw [if_pos c_10] at hf
            exact B_261 _ _ _ _ _ hf hP hD hS (lv_sub hl [2, 1] rfl)
          · rw [if_neg c_10] at hf
            refine lv_iload_n hx hb dX12_goesOn_255 rfl (lv_at hl 1 rfl) ?_
            refine lv_bipush (v := (44 : Int32)) hx hb dX12_goesOn_256 (by decide) ?_
            refine lv_icmp_ne (tgt := 281) hx hb dX12_goesOn_258 (by decide) (fun c_11 => ?_) (fun c_11 => ?_)
            · rw [if_neg c_11] at hf
              exact B_281 _ _ _ _ hf hP hD hS (lv_sub hl [] rfl)
            · rw [if_pos c_11] at hf
              exact B_261 _ _ _ _ _ hf hP hD hS (lv_sub hl [2, 1] rfl)
        · rw [if_neg c_9] at hf
          refine lv_aload_n hx hb dX12_goesOn_173 rfl (lv_at hl 2 rfl) ?_
          refine lv_iconst (v := (0 : Int32)) hx hb dX12_goesOn_174 (by decide) ?_
          refine va_put (D := D) (ci := 12) (v := .int (0 : Int32)) (ty := .int) (C := RX12) (T := TX12) (N := 35) hx hb hts kb_inX12 tyX12 tyX12_ok nmX12 hown hK.1 hP hD hS 0 rfl rfl 12 (by decide) (hK.2.w ww_5_212 rfl _) (fun _ h9 => h9) rfl (by decide +kernel) rfl rfl (Nat.le_of_ble_eq_true rfl) dX12_goesOn_175 (fun H locs hP hD hS => ?_)
          have hP : va_P D vwCl (w_MO dA a q0 q1 (ta 0) g3 g4 g5 g6 g7 g8 g9 g10 g11 g12 g13 g14 g15 g16 g17 g18 (mo_set_number z0 (0 : Int32)) ++ (w_Tape dA ta y_tape)) H := hP
          have hD : va_D A (w_MO dA a q0 q1 (ta 0) g3 g4 g5 g6 g7 g8 g9 g10 g11 g12 g13 g14 g15 g16 g17 g18 (mo_set_number z0 (0 : Int32)) ++ (w_Tape dA ta y_tape)) := hD
          exact B_178 4096 _ _ _ _ _ hf hP hD hS (lv_sub hl [2, 0] rfl)
      · rw [if_neg c_7] at hf
        refine lv_aload_n hx hb dX12_goesOn_84 rfl (lv_at hl 2 rfl) ?_
        refine lv_lconst (v := (0 : Int64)) hx hb dX12_goesOn_85 (by decide) ?_
        refine va_put (D := D) (ci := 12) (v := .long (0 : Int64)) (ty := .long) (C := RX12) (T := TX12) (N := 35) hx hb hts kb_inX12 tyX12 tyX12_ok nmX12 hown hK.1 hP hD hS 0 rfl rfl 15 (by decide) (hK.2.w ww_5_215 rfl _) (fun _ h9 => h9) rfl (by decide +kernel) rfl rfl (Nat.le_of_ble_eq_true rfl) dX12_goesOn_86 (fun H locs hP hD hS => ?_)
        have hP : va_P D vwCl (w_MO dA a q0 q1 (ta 0) g3 g4 g5 g6 g7 g8 g9 g10 g11 g12 g13 g14 g15 g16 g17 g18 (mo_set_word z0 (0 : Int64)) ++ (w_Tape dA ta y_tape)) H := hP
        have hD : va_D A (w_MO dA a q0 q1 (ta 0) g3 g4 g5 g6 g7 g8 g9 g10 g11 g12 g13 g14 g15 g16 g17 g18 (mo_set_word z0 (0 : Int64)) ++ (w_Tape dA ta y_tape)) := hD
        exact B_89 4096 _ _ _ _ _ hf hP hD hS (lv_sub hl [2, 0] rfl)
    · rw [if_pos c_5] at hf
      refine lv_aload_n hx hb dX12_goesOn_69 rfl (lv_at hl 2 rfl) ?_
      refine lv_iconst (v := (1 : Int32)) hx hb dX12_goesOn_70 (by decide) ?_
      refine va_put (D := D) (ci := 12) (v := .int (1 : Int32)) (ty := .int) (C := RX12) (T := TX12) (N := 35) hx hb hts kb_inX12 tyX12 tyX12_ok nmX12 hown hK.1 hP hD hS 0 rfl rfl 9 (by decide) (hK.2.w ww_5_209 rfl _) (fun _ h9 => h9) rfl (by decide +kernel) rfl rfl (Nat.le_of_ble_eq_true rfl) dX12_goesOn_71 (fun H locs hP hD hS => ?_)
      have hP : va_P D vwCl (w_MO dA a q0 q1 (ta 0) g3 g4 g5 g6 g7 g8 g9 g10 g11 g12 g13 g14 g15 g16 g17 g18 (mo_set_sort z0 (1 : Int32)) ++ (w_Tape dA ta y_tape)) H := hP
      have hD : va_D A (w_MO dA a q0 q1 (ta 0) g3 g4 g5 g6 g7 g8 g9 g10 g11 g12 g13 g14 g15 g16 g17 g18 (mo_set_sort z0 (1 : Int32)) ++ (w_Tape dA ta y_tape)) := hD
      exact B_74 _ _ _ _ hf hP hD hS (lv_sub hl [] rfl)
  have B_48 : ∀ (z0 : MOT) (H : Heap) (locs : List Loc) (ls : Array Slot), f_X12_goesOn_b48 y_tape z0 = some (u0) → va_P D vwCl (w_MO dA a q0 q1 (ta 0) g3 g4 g5 g6 g7 g8 g9 g10 g11 g12 g13 g14 g15 g16 g17 g18 z0 ++ (w_Tape dA ta y_tape)) H → va_D A (w_MO dA a q0 q1 (ta 0) g3 g4 g5 g6 g7 g8 g9 g10 g11 g12 g13 g14 g15 g16 g17 g18 z0 ++ (w_Tape dA ta y_tape)) → va_S A s.heap H locs → lv_has ls 3 [(0, .ref (a 0))] → W p l e ({ frames := 1, cells := 0, slots := 0, locals := 21 } : Room) s m ([.ref (a 0)] : List Value).toArray below meth c H locs 0 0 Q (F0 m 48 ls []) := by
    intro z0 H locs ls hf hP hD hS hl
    rw [f_X12_goesOn_b48] at hf
    refine lv_aload_n hx hb dX12_goesOn_48 rfl (lv_at hl 0 rfl) ?_
    refine lv_iconst (v := (0 : Int32)) hx hb dX12_goesOn_49 (by decide) ?_
    refine va_put (D := D) (ci := 12) (v := .int (0 : Int32)) (ty := .int) (C := RX12) (T := TX12) (N := 35) hx hb hts kb_inX12 tyX12 tyX12_ok nmX12 hown hK.1 hP hD hS 0 rfl rfl 11 (by decide) (hK.2.w ww_5_211 rfl _) (fun _ h9 => h9) rfl (by decide +kernel) rfl rfl (Nat.le_of_ble_eq_true rfl) dX12_goesOn_50 (fun H locs hP hD hS => ?_)
    have hP : va_P D vwCl (w_MO dA a q0 q1 (ta 0) g3 g4 g5 g6 g7 g8 g9 g10 g11 g12 g13 g14 g15 g16 g17 g18 (mo_set_sign z0 (0 : Int32)) ++ (w_Tape dA ta y_tape)) H := hP
    have hD : va_D A (w_MO dA a q0 q1 (ta 0) g3 g4 g5 g6 g7 g8 g9 g10 g11 g12 g13 g14 g15 g16 g17 g18 (mo_set_sign z0 (0 : Int32)) ++ (w_Tape dA ta y_tape)) := hD
    exact B_53 _ _ _ _ hf hP hD hS (lv_sub hl [0] rfl)
  have B_43 : ∀ (z0 : MOT) (H : Heap) (locs : List Loc) (ls : Array Slot), f_X12_goesOn_b43 y_tape z0 = some (u0) → va_P D vwCl (w_MO dA a q0 q1 (ta 0) g3 g4 g5 g6 g7 g8 g9 g10 g11 g12 g13 g14 g15 g16 g17 g18 z0 ++ (w_Tape dA ta y_tape)) H → va_D A (w_MO dA a q0 q1 (ta 0) g3 g4 g5 g6 g7 g8 g9 g10 g11 g12 g13 g14 g15 g16 g17 g18 z0 ++ (w_Tape dA ta y_tape)) → va_S A s.heap H locs → lv_has ls 3 [(0, .ref (a 0))] → W p l e ({ frames := 1, cells := 0, slots := 0, locals := 21 } : Room) s m ([.ref (a 0)] : List Value).toArray below meth c H locs 0 0 Q (F0 m 43 ls []) := by
    intro z0 H locs ls hf hP hD hS hl
    rw [f_X12_goesOn_b43] at hf
    refine lv_aload_n hx hb dX12_goesOn_43 rfl (lv_at hl 0 rfl) ?_
    refine lv_iconst (v := (0 : Int32)) hx hb dX12_goesOn_44 (by decide) ?_
    refine va_put (D := D) (ci := 12) (v := .int (0 : Int32)) (ty := .int) (C := RX12) (T := TX12) (N := 35) hx hb hts kb_inX12 tyX12 tyX12_ok nmX12 hown hK.1 hP hD hS 0 rfl rfl 9 (by decide) (hK.2.w ww_5_209 rfl _) (fun _ h9 => h9) rfl (by decide +kernel) rfl rfl (Nat.le_of_ble_eq_true rfl) dX12_goesOn_45 (fun H locs hP hD hS => ?_)
    have hP : va_P D vwCl (w_MO dA a q0 q1 (ta 0) g3 g4 g5 g6 g7 g8 g9 g10 g11 g12 g13 g14 g15 g16 g17 g18 (mo_set_sort z0 (0 : Int32)) ++ (w_Tape dA ta y_tape)) H := hP
    have hD : va_D A (w_MO dA a q0 q1 (ta 0) g3 g4 g5 g6 g7 g8 g9 g10 g11 g12 g13 g14 g15 g16 g17 g18 (mo_set_sort z0 (0 : Int32)) ++ (w_Tape dA ta y_tape)) := hD
    exact B_48 _ _ _ _ hf hP hD hS (lv_sub hl [0] rfl)
  have B_32 : ∀ (k9 : MOT → Option (MOT)) (hk9 : ∀ (z0 : MOT) (H : Heap) (locs : List Loc) (ls : Array Slot), k9 z0 = some (u0) → va_P D vwCl (w_MO dA a q0 q1 (ta 0) g3 g4 g5 g6 g7 g8 g9 g10 g11 g12 g13 g14 g15 g16 g17 g18 z0 ++ (w_Tape dA ta y_tape)) H → va_D A (w_MO dA a q0 q1 (ta 0) g3 g4 g5 g6 g7 g8 g9 g10 g11 g12 g13 g14 g15 g16 g17 g18 z0 ++ (w_Tape dA ta y_tape)) → va_S A s.heap H locs → lv_has ls 3 [(0, .ref (a 0))] → W p l e ({ frames := 1, cells := 0, slots := 0, locals := 21 } : Room) s m ([.ref (a 0)] : List Value).toArray below meth c H locs 0 0 Q (F0 m 9 ls [])) (z0 : MOT) (H : Heap) (locs : List Loc) (ls : Array Slot), f_X12_goesOn_b32 y_tape k9 z0 = some (u0) → va_P D vwCl (w_MO dA a q0 q1 (ta 0) g3 g4 g5 g6 g7 g8 g9 g10 g11 g12 g13 g14 g15 g16 g17 g18 z0 ++ (w_Tape dA ta y_tape)) H → va_D A (w_MO dA a q0 q1 (ta 0) g3 g4 g5 g6 g7 g8 g9 g10 g11 g12 g13 g14 g15 g16 g17 g18 z0 ++ (w_Tape dA ta y_tape)) → va_S A s.heap H locs → lv_has ls 3 [(0, .ref (a 0))] → W p l e ({ frames := 1, cells := 0, slots := 0, locals := 21 } : Room) s m ([.ref (a 0)] : List Value).toArray below meth c H locs 0 0 Q (F0 m 32 ls []) := by
    intro k9 hk9 z0 H locs ls hf hP hD hS hl
    rw [f_X12_goesOn_b32] at hf
    refine lv_goto (tgt := 9) hx hb dX12_goesOn_32 (by decide) ?_
    exact hk9 _ _ _ _ hf hP hD hS (lv_sub hl [0] rfl)
  have B_9 : ∀ (n : Nat) (z0 : MOT) (H : Heap) (locs : List Loc) (ls : Array Slot), f_X12_goesOn_b9 y_tape n z0 = some (u0) → va_P D vwCl (w_MO dA a q0 q1 (ta 0) g3 g4 g5 g6 g7 g8 g9 g10 g11 g12 g13 g14 g15 g16 g17 g18 z0 ++ (w_Tape dA ta y_tape)) H → va_D A (w_MO dA a q0 q1 (ta 0) g3 g4 g5 g6 g7 g8 g9 g10 g11 g12 g13 g14 g15 g16 g17 g18 z0 ++ (w_Tape dA ta y_tape)) → va_S A s.heap H locs → lv_has ls 3 [(0, .ref (a 0))] → W p l e ({ frames := 1, cells := 0, slots := 0, locals := 21 } : Room) s m ([.ref (a 0)] : List Value).toArray below meth c H locs 0 0 Q (F0 m 9 ls []) := by
    intro n
    induction n with
    | zero =>
      intro z0 H locs ls hf
      exact absurd hf (by simp [f_X12_goesOn_b9])
    | succ n ih =>
      intro z0 H locs ls hf hP hD hS hl
      rw [f_X12_goesOn_b9] at hf
      refine lv_aload_n hx hb dX12_goesOn_9 rfl (lv_at hl 0 rfl) ?_
      refine lv_aload_n hx hb dX12_goesOn_10 rfl (lv_at hl 0 rfl) ?_
      refine va_get (D := D) (ci := 12) (v := .int (mo_spot z0)) (C := RX12) (T := TX12) (N := 35) hx hb hts kb_inX12 hown hK.1 hP 0 rfl rfl 8 (by decide) (hK.2.w ww_5_208 rfl _) (fun _ h9 => h9) rfl dX12_goesOn_11 ?_
      obtain ⟨r2, hc2, hf⟩ := kb_bind hf
      refine kb_ci (ws2 := (w_MO dA a q0 q1 (ta 0) g3 g4 g5 g6 g7 g8 g9 g10 g11 g12 g13 g14 g15 g16 g17 g18 z0 ++ (w_Tape dA ta y_tape))) (kb_rV (n := 1) (As := [.int (mo_spot z0)]) (rest := []) hx hb hml hown hK (c_X12_byteAt l D dA H.size a ta q0 q1 g3 g4 g5 g6 g7 g8 g9 g10 g11 g12 g13 g14 g15 g16 g17 g18 z0 y_tape (mo_spot z0) r2 hc2) ⟨ww_6_193, ww_6_190, ww_6_192, ws_48, ww_1_12, rfl, by decide, by decide⟩ rfl rfl (by decide +kernel) ⟨Nat.le_of_ble_eq_true rfl, Nat.le_of_ble_eq_true rfl⟩ hP hD hS hA hE [0, 1] rfl (by decide) 0 rfl rfl rfl hl.1 rfl (Nat.le_of_ble_eq_true rfl) dX12_goesOn_14 ⟨Nat.le_of_ble_eq_true rfl, Nat.le_of_ble_eq_true rfl⟩) hP hD hS hA [0, 1] [] [0, 1] rfl rfl (by decide) (by decide) rfl (by decide) (fun H locs hP hD hS => ?_)
      refine lv_bipush (v := (32 : Int32)) hx hb dX12_goesOn_17 (by decide) ?_
      refine lv_icmp_ne (tgt := 35) hx hb dX12_goesOn_19 (by decide) (fun c_3 => ?_) (fun c_3 => ?_)
      · rw [if_neg c_3] at hf
        refine lv_aload_n hx hb dX12_goesOn_35 rfl (lv_at hl 0 rfl) ?_
        refine lv_aload_n hx hb dX12_goesOn_36 rfl (lv_at hl 0 rfl) ?_
        refine va_get (D := D) (ci := 12) (v := .int (mo_spot z0)) (C := RX12) (T := TX12) (N := 35) hx hb hts kb_inX12 hown hK.1 hP 0 rfl rfl 8 (by decide) (hK.2.w ww_5_208 rfl _) (fun _ h9 => h9) rfl dX12_goesOn_37 ?_
        refine va_put (D := D) (ci := 12) (v := .int (mo_spot z0)) (ty := .int) (C := RX12) (T := TX12) (N := 35) hx hb hts kb_inX12 tyX12 tyX12_ok nmX12 hown hK.1 hP hD hS 0 rfl rfl 10 (by decide) (hK.2.w ww_5_210 rfl _) (fun _ h9 => h9) rfl (by decide +kernel) rfl rfl (Nat.le_of_ble_eq_true rfl) dX12_goesOn_40 (fun H locs hP hD hS => ?_)
        have hP : va_P D vwCl (w_MO dA a q0 q1 (ta 0) g3 g4 g5 g6 g7 g8 g9 g10 g11 g12 g13 g14 g15 g16 g17 g18 (mo_set_place z0 (mo_spot z0)) ++ (w_Tape dA ta y_tape)) H := hP
        have hD : va_D A (w_MO dA a q0 q1 (ta 0) g3 g4 g5 g6 g7 g8 g9 g10 g11 g12 g13 g14 g15 g16 g17 g18 (mo_set_place z0 (mo_spot z0)) ++ (w_Tape dA ta y_tape)) := hD
        exact B_43 _ _ _ _ hf hP hD hS (lv_sub hl [0] rfl)
      · rw [if_pos c_3] at hf
        refine lv_aload_n hx hb dX12_goesOn_22 rfl (lv_at hl 0 rfl) ?_
        refine lv_dup hx hb dX12_goesOn_23 rfl ?_
        refine va_get (D := D) (ci := 12) (v := .int (mo_spot z0)) (C := RX12) (T := TX12) (N := 35) hx hb hts kb_inX12 hown hK.1 hP 0 rfl rfl 8 (by decide) (hK.2.w ww_5_208 rfl _) (fun _ h9 => h9) rfl dX12_goesOn_24 ?_
        refine lv_iconst (v := (1 : Int32)) hx hb dX12_goesOn_27 (by decide) ?_
        refine lv_iadd hx hb dX12_goesOn_28 ?_
        refine va_put (D := D) (ci := 12) (v := .int ((mo_spot z0) + (1 : Int32))) (ty := .int) (C := RX12) (T := TX12) (N := 35) hx hb hts kb_inX12 tyX12 tyX12_ok nmX12 hown hK.1 hP hD hS 0 rfl rfl 8 (by decide) (hK.2.w ww_5_208 rfl _) (fun _ h9 => h9) rfl (by decide +kernel) rfl rfl (Nat.le_of_ble_eq_true rfl) dX12_goesOn_29 (fun H locs hP hD hS => ?_)
        have hP : va_P D vwCl (w_MO dA a q0 q1 (ta 0) g3 g4 g5 g6 g7 g8 g9 g10 g11 g12 g13 g14 g15 g16 g17 g18 (mo_set_spot z0 ((mo_spot z0) + (1 : Int32))) ++ (w_Tape dA ta y_tape)) H := hP
        have hD : va_D A (w_MO dA a q0 q1 (ta 0) g3 g4 g5 g6 g7 g8 g9 g10 g11 g12 g13 g14 g15 g16 g17 g18 (mo_set_spot z0 ((mo_spot z0) + (1 : Int32))) ++ (w_Tape dA ta y_tape)) := hD
        exact B_32 (f_X12_goesOn_b9 y_tape n) ih _ _ _ _ hf hP hD hS (lv_sub hl [0] rfl)
  have E0 : ∀ (H : Heap) (locs : List Loc), va_P D vwCl (w_MO dA a q0 q1 (ta 0) g3 g4 g5 g6 g7 g8 g9 g10 g11 g12 g13 g14 g15 g16 g17 g18 mo ++ (w_Tape dA ta y_tape)) H → va_D A (w_MO dA a q0 q1 (ta 0) g3 g4 g5 g6 g7 g8 g9 g10 g11 g12 g13 g14 g15 g16 g17 g18 mo ++ (w_Tape dA ta y_tape)) → va_S A s.heap H locs → W p l e ({ frames := 1, cells := 0, slots := 0, locals := 21 } : Room) s m ([.ref (a 0)] : List Value).toArray below meth c H locs 0 0 Q (F0 m 0 ls []) := by
    intro H locs hP hD hS
    rw [f_X12_goesOn] at hf
    refine lv_aload_n hx hb dX12_goesOn_0 rfl (lv_at hl 0 rfl) ?_
    refine va_get (D := D) (ci := 12) (v := .int (mo_sort mo)) (C := RX12) (T := TX12) (N := 35) hx hb hts kb_inX12 hown hK.1 hP 0 rfl rfl 9 (by decide) (hK.2.w ww_5_209 rfl _) (fun _ h9 => h9) rfl dX12_goesOn_1 ?_
    refine lv_iconst (v := (5 : Int32)) hx hb dX12_goesOn_4 (by decide) ?_
    refine lv_icmp_ne (tgt := 9) hx hb dX12_goesOn_5 (by decide) (fun c_1 => ?_) (fun c_1 => ?_)
    · rw [if_neg c_1] at hf
      exact B_9 4096 _ _ _ _ hf hP hD hS (lv_sub hl [0] rfl)
    · rw [if_pos c_1] at hf
      exact RET _ H _ ls 8 hf hP hD hS dX12_goesOn_8
  exact E0 _ _ hP hD hS

noncomputable def f_X12_wrong_b27 (z0 : MOT) : Option (MOT) := some (z0)
noncomputable def f_X12_wrong_b22 (z0 : MOT) : Option (MOT) := f_X12_wrong_b27 (mo_set_sort z0 (5 : Int32))
noncomputable def f_X12_wrong_b14 (z0 : MOT) : Option (MOT) := f_X12_wrong_b22 (mo_set_wrongAt z0 (mo_place z0))
noncomputable def f_X12_wrong (mo : MOT) (x0 : Int32) : Option (MOT) := (if (mo_sort mo) = (5 : Int32) then some (mo) else f_X12_wrong_b14 (mo_set_fault mo x0))
set_option maxHeartbeats 4000000 in
set_option maxRecDepth 100000 in
theorem c_X12_wrong (l : Launch) (D : va_G) (dA : Nat → ClassId) (sz : Nat) (a : Nat → Nat) (q0 : Option Nat) (q1 : Option Nat) (g2 : Nat) (g3 : Nat) (g4 : Nat) (g5 : Nat) (g6 : Nat) (g7 : Nat) (g8 : Nat) (g9 : Nat) (g10 : Nat) (g11 : Nat) (g12 : Nat) (g13 : Nat) (g14 : Nat) (g15 : Nat) (g16 : Nat) (g17 : Nat) (g18 : Nat) (mo : MOT) (x0 : Int32) (u0 : MOT) (hf : f_X12_wrong mo x0 = some (u0)) : kb_Mv l yX12_wrong cX12_wrong 2 none ({ frames := 0, cells := 0, slots := 0, locals := 0 } : Room) D dA [.ref (a 0), .int x0] sz (w_MO dA a q0 q1 g2 g3 g4 g5 g6 g7 g8 g9 g10 g11 g12 g13 g14 g15 g16 g17 g18 mo) 0 0 (w_MO dA a q0 q1 g2 g3 g4 g5 g6 g7 g8 g9 g10 g11 g12 g13 g14 g15 g16 g17 g18 u0) := by
  refine Met.ofW (cc := cX12_wrong) (maxL := 2) (ret := none) (by decide) rfl ?_
  intro p e s m args below meth c s₁ B hml hv
  obtain ⟨rfl, hsz, hP, hK, hD0, hE⟩ := hv
  have hx := B.exec
  have hb := B.bytes
  have hr := B.returns
  have hown : s.vm.findClass RX12 = some m.cls := findClass_of_methodNamed B.named
  have hlocks := B.notSynchronized
  have hts : ∀ w ∈ kb_gw, w.before ([.ref (a 0), .int x0] : List Value).toArray s = true := fun w hw => hK.2.1 w hw _
  subst hsz
  have hD := hD0.self (sz := s.heap.size)
  generalize hAe : va_A (w_MO dA a q0 q1 g2 g3 g4 g5 g6 g7 g8 g9 g10 g11 g12 g13 g14 g15 g16 g17 g18 mo) s.heap.size = A at hD hE ⊢
  have hA : ∀ q : Nat, s.heap.size ≤ q → A q := fun q h => by rw [← hAe]; exact Or.inr h
  have hS : va_S A s.heap s.heap [] := va_S.rf
  have hl := lv_entry ([.ref (a 0), .int x0]) (n := 2) (Nat.le_of_ble_eq_true rfl)
  rw [lg_entry_eq]
  generalize (lg_sl ([.ref (a 0), .int x0]) ++ List.replicate (2 - (lg_sl ([.ref (a 0), .int x0])).length) Slot.unset).toArray = ls at hl ⊢
  have hl : lv_has ls 2 [(0, .ref (a 0)), (1, .int x0)] := hl
  generalize hQ : MQ below (va_Qv (fun (_ : Unit) => True) (kb_B D A (w_MO dA a q0 q1 g2 g3 g4 g5 g6 g7 g8 g9 g10 g11 g12 g13 g14 g15 g16 g17 g18 u0)) A) ([.ref (a 0), .int x0] : List Value).toArray s 0 0 A = Q
  show W p l e ({ frames := 0, cells := 0, slots := 0, locals := 0 } : Room) s m ([.ref (a 0), .int x0] : List Value).toArray below meth c s.heap [] 0 0 Q (F0 m 0 ls [])
  have RET : ∀ (w0 : MOT) (H : Heap) (locs : List Loc) (ls : Array Slot) (pc : Nat), some (w0) = some (u0) → va_P D vwCl (w_MO dA a q0 q1 g2 g3 g4 g5 g6 g7 g8 g9 g10 g11 g12 g13 g14 g15 g16 g17 g18 w0) H → va_D A (w_MO dA a q0 q1 g2 g3 g4 g5 g6 g7 g8 g9 g10 g11 g12 g13 g14 g15 g16 g17 g18 w0) → va_S A s.heap H locs → decode cX12_wrong pc = .ok (.return_, 1) → W p l e ({ frames := 0, cells := 0, slots := 0, locals := 0 } : Room) s m ([.ref (a 0), .int x0] : List Value).toArray below meth c H locs 0 0 Q (F0 m pc ls []) := by
    intro w0 H locs ls pc hq hP hD hS hd
    cases hq
    rw [← hQ]
    exact W.vret hx hb hr (fun t ht hW => ⟨⟨(), rfl, trivial, by rw [ht]; exact hP, hD⟩, hS.F ht⟩) hS.2.2 hd
  have B_27 : ∀ (z0 : MOT) (H : Heap) (locs : List Loc) (ls : Array Slot), f_X12_wrong_b27 z0 = some (u0) → va_P D vwCl (w_MO dA a q0 q1 g2 g3 g4 g5 g6 g7 g8 g9 g10 g11 g12 g13 g14 g15 g16 g17 g18 z0) H → va_D A (w_MO dA a q0 q1 g2 g3 g4 g5 g6 g7 g8 g9 g10 g11 g12 g13 g14 g15 g16 g17 g18 z0) → va_S A s.heap H locs → lv_has ls 2 [] → W p l e ({ frames := 0, cells := 0, slots := 0, locals := 0 } : Room) s m ([.ref (a 0), .int x0] : List Value).toArray below meth c H locs 0 0 Q (F0 m 27 ls []) := by
    intro z0 H locs ls hf hP hD hS hl
    rw [f_X12_wrong_b27] at hf
    exact RET _ H _ ls 27 hf hP hD hS dX12_wrong_27
  have B_22 : ∀ (z0 : MOT) (H : Heap) (locs : List Loc) (ls : Array Slot), f_X12_wrong_b22 z0 = some (u0) → va_P D vwCl (w_MO dA a q0 q1 g2 g3 g4 g5 g6 g7 g8 g9 g10 g11 g12 g13 g14 g15 g16 g17 g18 z0) H → va_D A (w_MO dA a q0 q1 g2 g3 g4 g5 g6 g7 g8 g9 g10 g11 g12 g13 g14 g15 g16 g17 g18 z0) → va_S A s.heap H locs → lv_has ls 2 [(0, .ref (a 0))] → W p l e ({ frames := 0, cells := 0, slots := 0, locals := 0 } : Room) s m ([.ref (a 0), .int x0] : List Value).toArray below meth c H locs 0 0 Q (F0 m 22 ls []) := by
    intro z0 H locs ls hf hP hD hS hl
    rw [f_X12_wrong_b22] at hf
    refine lv_aload_n hx hb dX12_wrong_22 rfl (lv_at hl 0 rfl) ?_
    refine lv_iconst (v := (5 : Int32)) hx hb dX12_wrong_23 (by decide) ?_
    refine va_put (D := D) (ci := 12) (v := .int (5 : Int32)) (ty := .int) (C := RX12) (T := TX12) (N := 35) hx hb hts kb_inX12 tyX12 tyX12_ok nmX12 hown hK.1 hP hD hS 0 rfl rfl 9 (by decide) (hK.2.w ww_5_209 rfl _) (fun _ h9 => h9) rfl (by decide +kernel) rfl rfl (Nat.le_of_ble_eq_true rfl) dX12_wrong_24 (fun H locs hP hD hS => ?_)
    have hP : va_P D vwCl (w_MO dA a q0 q1 g2 g3 g4 g5 g6 g7 g8 g9 g10 g11 g12 g13 g14 g15 g16 g17 g18 (mo_set_sort z0 (5 : Int32))) H := hP
    have hD : va_D A (w_MO dA a q0 q1 g2 g3 g4 g5 g6 g7 g8 g9 g10 g11 g12 g13 g14 g15 g16 g17 g18 (mo_set_sort z0 (5 : Int32))) := hD
    exact B_27 _ _ _ _ hf hP hD hS (lv_sub hl [] rfl)
  have B_14 : ∀ (z0 : MOT) (H : Heap) (locs : List Loc) (ls : Array Slot), f_X12_wrong_b14 z0 = some (u0) → va_P D vwCl (w_MO dA a q0 q1 g2 g3 g4 g5 g6 g7 g8 g9 g10 g11 g12 g13 g14 g15 g16 g17 g18 z0) H → va_D A (w_MO dA a q0 q1 g2 g3 g4 g5 g6 g7 g8 g9 g10 g11 g12 g13 g14 g15 g16 g17 g18 z0) → va_S A s.heap H locs → lv_has ls 2 [(0, .ref (a 0))] → W p l e ({ frames := 0, cells := 0, slots := 0, locals := 0 } : Room) s m ([.ref (a 0), .int x0] : List Value).toArray below meth c H locs 0 0 Q (F0 m 14 ls []) := by
    intro z0 H locs ls hf hP hD hS hl
    rw [f_X12_wrong_b14] at hf
    refine lv_aload_n hx hb dX12_wrong_14 rfl (lv_at hl 0 rfl) ?_
    refine lv_aload_n hx hb dX12_wrong_15 rfl (lv_at hl 0 rfl) ?_
    refine va_get (D := D) (ci := 12) (v := .int (mo_place z0)) (C := RX12) (T := TX12) (N := 35) hx hb hts kb_inX12 hown hK.1 hP 0 rfl rfl 10 (by decide) (hK.2.w ww_5_210 rfl _) (fun _ h9 => h9) rfl dX12_wrong_16 ?_
    refine va_put (D := D) (ci := 12) (v := .int (mo_place z0)) (ty := .int) (C := RX12) (T := TX12) (N := 35) hx hb hts kb_inX12 tyX12 tyX12_ok nmX12 hown hK.1 hP hD hS 0 rfl rfl 14 (by decide) (hK.2.w ww_5_214 rfl _) (fun _ h9 => h9) rfl (by decide +kernel) rfl rfl (Nat.le_of_ble_eq_true rfl) dX12_wrong_19 (fun H locs hP hD hS => ?_)
    have hP : va_P D vwCl (w_MO dA a q0 q1 g2 g3 g4 g5 g6 g7 g8 g9 g10 g11 g12 g13 g14 g15 g16 g17 g18 (mo_set_wrongAt z0 (mo_place z0))) H := hP
    have hD : va_D A (w_MO dA a q0 q1 g2 g3 g4 g5 g6 g7 g8 g9 g10 g11 g12 g13 g14 g15 g16 g17 g18 (mo_set_wrongAt z0 (mo_place z0))) := hD
    exact B_22 _ _ _ _ hf hP hD hS (lv_sub hl [0] rfl)
  have E0 : ∀ (H : Heap) (locs : List Loc), va_P D vwCl (w_MO dA a q0 q1 g2 g3 g4 g5 g6 g7 g8 g9 g10 g11 g12 g13 g14 g15 g16 g17 g18 mo) H → va_D A (w_MO dA a q0 q1 g2 g3 g4 g5 g6 g7 g8 g9 g10 g11 g12 g13 g14 g15 g16 g17 g18 mo) → va_S A s.heap H locs → W p l e ({ frames := 0, cells := 0, slots := 0, locals := 0 } : Room) s m ([.ref (a 0), .int x0] : List Value).toArray below meth c H locs 0 0 Q (F0 m 0 ls []) := by
    intro H locs hP hD hS
    rw [f_X12_wrong] at hf
    refine lv_aload_n hx hb dX12_wrong_0 rfl (lv_at hl 0 rfl) ?_
    refine va_get (D := D) (ci := 12) (v := .int (mo_sort mo)) (C := RX12) (T := TX12) (N := 35) hx hb hts kb_inX12 hown hK.1 hP 0 rfl rfl 9 (by decide) (hK.2.w ww_5_209 rfl _) (fun _ h9 => h9) rfl dX12_wrong_1 ?_
    refine lv_iconst (v := (5 : Int32)) hx hb dX12_wrong_4 (by decide) ?_
    refine lv_icmp_ne (tgt := 9) hx hb dX12_wrong_5 (by decide) (fun c_1 => ?_) (fun c_1 => ?_)
    · rw [if_neg c_1] at hf
      refine lv_aload_n hx hb dX12_wrong_9 rfl (lv_at hl 0 rfl) ?_
      refine lv_iload_n hx hb dX12_wrong_10 rfl (lv_at hl 1 rfl) ?_
      refine va_put (D := D) (ci := 12) (v := .int x0) (ty := .int) (C := RX12) (T := TX12) (N := 35) hx hb hts kb_inX12 tyX12 tyX12_ok nmX12 hown hK.1 hP hD hS 0 rfl rfl 13 (by decide) (hK.2.w ww_5_213 rfl _) (fun _ h9 => h9) rfl (by decide +kernel) rfl rfl (Nat.le_of_ble_eq_true rfl) dX12_wrong_11 (fun H locs hP hD hS => ?_)
      have hP : va_P D vwCl (w_MO dA a q0 q1 g2 g3 g4 g5 g6 g7 g8 g9 g10 g11 g12 g13 g14 g15 g16 g17 g18 (mo_set_fault mo x0)) H := hP
      have hD : va_D A (w_MO dA a q0 q1 g2 g3 g4 g5 g6 g7 g8 g9 g10 g11 g12 g13 g14 g15 g16 g17 g18 (mo_set_fault mo x0)) := hD
      exact B_14 _ _ _ _ hf hP hD hS (lv_sub hl [0] rfl)
    · rw [if_pos c_1] at hf
      exact RET _ H _ ls 8 hf hP hD hS dX12_wrong_8
  exact E0 _ _ hP hD hS

noncomputable def f_X12_isWord_b24 (mo : MOT)  : Option (Int32) := some ((0 : Int32))
noncomputable def f_X12_isWord (mo : MOT) (ix0 : Nat) : Option (Int32) := (if (mo_sort mo) = (2 : Int32) then (f_X12_wordOf ix0).bind fun r2 => (if (lg_cmp (mo_word mo) r2) = 0 then some ((1 : Int32)) else f_X12_isWord_b24 mo ) else f_X12_isWord_b24 mo )
set_option maxHeartbeats 4000000 in
set_option maxRecDepth 100000 in
theorem c_X12_isWord (l : Launch) (D : va_G) (dA : Nat → ClassId) (sz : Nat) (a : Nat → Nat) (q0 : Option Nat) (q1 : Option Nat) (g2 : Nat) (g3 : Nat) (g4 : Nat) (g5 : Nat) (g6 : Nat) (g7 : Nat) (g8 : Nat) (g9 : Nat) (g10 : Nat) (g11 : Nat) (g12 : Nat) (g13 : Nat) (g14 : Nat) (g15 : Nat) (g16 : Nat) (g17 : Nat) (g18 : Nat) (mo : MOT) (ix0 : Nat) (hix0 : ix0 < kb_N) (rv : Int32) (hf : f_X12_isWord mo ix0 = some (rv)) : kb_Mi l yX12_isWord cX12_isWord 2 (some .boolean) ({ frames := 5, cells := 0, slots := 0, locals := 108 } : Room) D dA [.ref (a 0), .ref (dA (100 + ix0))] sz (w_MO dA a q0 q1 g2 g3 g4 g5 g6 g7 g8 g9 g10 g11 g12 g13 g14 g15 g16 g17 g18 mo) 0 0 rv (w_MO dA a q0 q1 g2 g3 g4 g5 g6 g7 g8 g9 g10 g11 g12 g13 g14 g15 g16 g17 g18 mo) := by
  refine Met.ofW (cc := cX12_isWord) (maxL := 2) (ret := (some .boolean)) (by decide) rfl ?_
  intro p e s m args below meth c s₁ B hml hv
  obtain ⟨rfl, hsz, hP, hK, hD0, hE⟩ := hv
  have hx := B.exec
  have hb := B.bytes
  have hr := B.returns
  have hown : s.vm.findClass RX12 = some m.cls := findClass_of_methodNamed B.named
  have hlocks := B.notSynchronized
  have hts : ∀ w ∈ kb_gw, w.before ([.ref (a 0), .ref (dA (100 + ix0))] : List Value).toArray s = true := fun w hw => hK.2.1 w hw _
  subst hsz
  have hD := hD0.self (sz := s.heap.size)
  generalize hAe : va_A (w_MO dA a q0 q1 g2 g3 g4 g5 g6 g7 g8 g9 g10 g11 g12 g13 g14 g15 g16 g17 g18 mo) s.heap.size = A at hD hE ⊢
  have hA : ∀ q : Nat, s.heap.size ≤ q → A q := fun q h => by rw [← hAe]; exact Or.inr h
  have hS : va_S A s.heap s.heap [] := va_S.rf
  have hl := lv_entry ([.ref (a 0), .ref (dA (100 + ix0))]) (n := 2) (Nat.le_of_ble_eq_true rfl)
  rw [lg_entry_eq]
  generalize (lg_sl ([.ref (a 0), .ref (dA (100 + ix0))]) ++ List.replicate (2 - (lg_sl ([.ref (a 0), .ref (dA (100 + ix0))])).length) Slot.unset).toArray = ls at hl ⊢
  have hl : lv_has ls 2 [(0, .ref (a 0)), (1, .ref (dA (100 + ix0)))] := hl
  generalize hQ : MQ below (va_Qi (fun r (_ : Unit) => r = rv) (kb_B D A (w_MO dA a q0 q1 g2 g3 g4 g5 g6 g7 g8 g9 g10 g11 g12 g13 g14 g15 g16 g17 g18 mo)) A) ([.ref (a 0), .ref (dA (100 + ix0))] : List Value).toArray s 0 0 A = Q
  show W p l e ({ frames := 5, cells := 0, slots := 0, locals := 108 } : Room) s m ([.ref (a 0), .ref (dA (100 + ix0))] : List Value).toArray below meth c s.heap [] 0 0 Q (F0 m 0 ls [])
  have RET : ∀ (r2 : Int32) (H : Heap) (locs : List Loc) (ls : Array Slot) (pc : Nat), some (r2) = some (rv) → va_P D vwCl (w_MO dA a q0 q1 g2 g3 g4 g5 g6 g7 g8 g9 g10 g11 g12 g13 g14 g15 g16 g17 g18 mo) H → va_D A (w_MO dA a q0 q1 g2 g3 g4 g5 g6 g7 g8 g9 g10 g11 g12 g13 g14 g15 g16 g17 g18 mo) → va_S A s.heap H locs → kb_01 r2 → decode cX12_isWord pc = .ok (.ireturn, 1) → W p l e ({ frames := 5, cells := 0, slots := 0, locals := 108 } : Room) s m ([.ref (a 0), .ref (dA (100 + ix0))] : List Value).toArray below meth c H locs 0 0 Q (F0 m pc ls [.int r2]) := by
    intro r2 H locs ls pc hq hP hD hS h01 hd
    cases hq
    rw [← hQ]
    exact W.zret (ty := .boolean) hx hb hr (kb_nz h01) (fun t ht hW => ⟨⟨_, (), rfl, rfl, by rw [ht]; exact hP, hD⟩, hS.F ht⟩) hS.2.2 hd
  have B_24 : ∀  (H : Heap) (locs : List Loc) (ls : Array Slot), f_X12_isWord_b24 mo  = some (rv) → va_P D vwCl (w_MO dA a q0 q1 g2 g3 g4 g5 g6 g7 g8 g9 g10 g11 g12 g13 g14 g15 g16 g17 g18 mo) H → va_D A (w_MO dA a q0 q1 g2 g3 g4 g5 g6 g7 g8 g9 g10 g11 g12 g13 g14 g15 g16 g17 g18 mo) → va_S A s.heap H locs → lv_has ls 2 [] → W p l e ({ frames := 5, cells := 0, slots := 0, locals := 108 } : Room) s m ([.ref (a 0), .ref (dA (100 + ix0))] : List Value).toArray below meth c H locs 0 0 Q (F0 m 24 ls []) := by
    intro  H locs ls hf hP hD hS hl
    rw [f_X12_isWord_b24] at hf
    refine lv_iconst (v := (0 : Int32)) hx hb dX12_isWord_24 (by decide) ?_
    exact RET _ H _ ls 25 hf hP hD hS (by decide) dX12_isWord_25
  have E0 : ∀ (H : Heap) (locs : List Loc), va_P D vwCl (w_MO dA a q0 q1 g2 g3 g4 g5 g6 g7 g8 g9 g10 g11 g12 g13 g14 g15 g16 g17 g18 mo) H → va_D A (w_MO dA a q0 q1 g2 g3 g4 g5 g6 g7 g8 g9 g10 g11 g12 g13 g14 g15 g16 g17 g18 mo) → va_S A s.heap H locs → W p l e ({ frames := 5, cells := 0, slots := 0, locals := 108 } : Room) s m ([.ref (a 0), .ref (dA (100 + ix0))] : List Value).toArray below meth c H locs 0 0 Q (F0 m 0 ls []) := by
    intro H locs hP hD hS
    rw [f_X12_isWord] at hf
    refine lv_aload_n hx hb dX12_isWord_0 rfl (lv_at hl 0 rfl) ?_
    refine va_get (D := D) (ci := 12) (v := .int (mo_sort mo)) (C := RX12) (T := TX12) (N := 35) hx hb hts kb_inX12 hown hK.1 hP 0 rfl rfl 9 (by decide) (hK.2.w ww_5_209 rfl _) (fun _ h9 => h9) rfl dX12_isWord_1 ?_
    refine lv_iconst (v := (2 : Int32)) hx hb dX12_isWord_4 (by decide) ?_
    refine lv_icmp_ne (tgt := 24) hx hb dX12_isWord_5 (by decide) (fun c_1 => ?_) (fun c_1 => ?_)
    · rw [if_neg c_1] at hf
      exact B_24 _ _ _ hf hP hD hS (lv_sub hl [] rfl)
    · rw [if_pos c_1] at hf
      refine lv_aload_n hx hb dX12_isWord_8 rfl (lv_at hl 0 rfl) ?_
      refine va_get (D := D) (ci := 12) (v := .long (mo_word mo)) (C := RX12) (T := TX12) (N := 35) hx hb hts kb_inX12 hown hK.1 hP 0 rfl rfl 15 (by decide) (hK.2.w ww_5_215 rfl _) (fun _ h9 => h9) rfl dX12_isWord_9 ?_
      refine lv_aload_n hx hb dX12_isWord_12 rfl (lv_at hl 1 rfl) ?_
      obtain ⟨r2, hc2, hf⟩ := kb_bind hf
      refine kb_cl (ws2 := (w_MO dA a q0 q1 g2 g3 g4 g5 g6 g7 g8 g9 g10 g11 g12 g13 g14 g15 g16 g17 g18 mo)) (kb_rS (n := 1) (As := [.ref (dA (100 + ix0))]) (rest := [.long (mo_word mo)]) hx hb hml hown hK (c_X12_wordOf l D dA H.size ix0 hix0 r2 hc2) ⟨ww_6_216, ww_6_214, ww_6_215, ww_1_12, by decide, by decide⟩ rfl rfl (by decide +kernel) ⟨Nat.le_of_ble_eq_true rfl, Nat.le_of_ble_eq_true rfl⟩ hP hD hS hA hE [] rfl (by decide) rfl hl.1 rfl (Nat.le_of_ble_eq_true rfl) dX12_isWord_13 ⟨Nat.le_of_ble_eq_true rfl, Nat.le_of_ble_eq_true rfl⟩) hP hD hS hA [] [0] [0] rfl rfl (by decide) (by decide) rfl (by decide) (fun H locs hP hD hS => ?_)
      refine W.lcmp hx hb dX12_isWord_16 ?_
      refine lv_if_ne (tgt := 24) hx hb dX12_isWord_17 (by decide) (fun c_3 => ?_) (fun c_3 => ?_)
      · rw [if_neg c_3] at hf
        exact B_24 _ _ _ hf hP hD hS (lv_sub hl [] rfl)
      · rw [if_pos c_3] at hf
        refine lv_iconst (v := (1 : Int32)) hx hb dX12_isWord_20 (by decide) ?_
        refine lv_goto (tgt := 25) hx hb dX12_isWord_21 (by decide) ?_
        exact RET _ H _ ls 25 hf hP hD hS (by decide) dX12_isWord_25
  exact E0 _ _ hP hD hS

noncomputable def f_X12_eatsWord_b14 (y_tape : TapeT) (v2 : Int32) (z0 : MOT) : Option (Int32 × MOT) := if kb_01 v2 then some (v2, z0) else none
noncomputable def f_X12_eatsWord (mo : MOT) (y_tape : TapeT) (ix0 : Nat) : Option (Int32 × MOT) := (f_X12_isWord mo ix0).bind fun r1 => (if r1 = 0 then if kb_01 r1 then some (r1, mo) else none else (f_X12_goesOn mo y_tape).bind fun r4 => f_X12_eatsWord_b14 y_tape r1 r4)
set_option maxHeartbeats 4000000 in
set_option maxRecDepth 100000 in
theorem c_X12_eatsWord (l : Launch) (D : va_G) (dA : Nat → ClassId) (sz : Nat) (a : Nat → Nat) (ta : Nat → Nat) (q0 : Option Nat) (q1 : Option Nat) (g3 : Nat) (g4 : Nat) (g5 : Nat) (g6 : Nat) (g7 : Nat) (g8 : Nat) (g9 : Nat) (g10 : Nat) (g11 : Nat) (g12 : Nat) (g13 : Nat) (g14 : Nat) (g15 : Nat) (g16 : Nat) (g17 : Nat) (g18 : Nat) (mo : MOT) (y_tape : TapeT) (ix0 : Nat) (hix0 : ix0 < kb_N) (rv : Int32) (u0 : MOT) (hf : f_X12_eatsWord mo y_tape ix0 = some (rv, u0)) : kb_Mi l yX12_eatsWord cX12_eatsWord 3 (some .boolean) ({ frames := 6, cells := 0, slots := 0, locals := 129 } : Room) D dA [.ref (a 0), .ref (dA (100 + ix0))] sz (w_MO dA a q0 q1 (ta 0) g3 g4 g5 g6 g7 g8 g9 g10 g11 g12 g13 g14 g15 g16 g17 g18 mo ++ (w_Tape dA ta y_tape)) 0 0 rv (w_MO dA a q0 q1 (ta 0) g3 g4 g5 g6 g7 g8 g9 g10 g11 g12 g13 g14 g15 g16 g17 g18 u0 ++ (w_Tape dA ta y_tape)) := by
  refine Met.ofW (cc := cX12_eatsWord) (maxL := 3) (ret := (some .boolean)) (by decide) rfl ?_
  intro p e s m args below meth c s₁ B hml hv
  obtain ⟨rfl, hsz, hP, hK, hD0, hE⟩ := hv
  have hx := B.exec
  have hb := B.bytes
  have hr := B.returns
  have hown : s.vm.findClass RX12 = some m.cls := findClass_of_methodNamed B.named
  have hlocks := B.notSynchronized
  have hts : ∀ w ∈ kb_gw, w.before ([.ref (a 0), .ref (dA (100 + ix0))] : List Value).toArray s = true := fun w hw => hK.2.1 w hw _
  subst hsz
  have hD := hD0.self (sz := s.heap.size)
  generalize hAe : va_A (w_MO dA a q0 q1 (ta 0) g3 g4 g5 g6 g7 g8 g9 g10 g11 g12 g13 g14 g15 g16 g17 g18 mo ++ (w_Tape dA ta y_tape)) s.heap.size = A at hD hE ⊢
  have hA : ∀ q : Nat, s.heap.size ≤ q → A q := fun q h => by rw [← hAe]; exact Or.inr h
  have hS : va_S A s.heap s.heap [] := va_S.rf
  have hl := lv_entry ([.ref (a 0), .ref (dA (100 + ix0))]) (n := 3) (Nat.le_of_ble_eq_true rfl)
  rw [lg_entry_eq]
  generalize (lg_sl ([.ref (a 0), .ref (dA (100 + ix0))]) ++ List.replicate (3 - (lg_sl ([.ref (a 0), .ref (dA (100 + ix0))])).length) Slot.unset).toArray = ls at hl ⊢
  have hl : lv_has ls 3 [(0, .ref (a 0)), (1, .ref (dA (100 + ix0)))] := hl
  generalize hQ : MQ below (va_Qi (fun r (_ : Unit) => r = rv) (kb_B D A (w_MO dA a q0 q1 (ta 0) g3 g4 g5 g6 g7 g8 g9 g10 g11 g12 g13 g14 g15 g16 g17 g18 u0 ++ (w_Tape dA ta y_tape))) A) ([.ref (a 0), .ref (dA (100 + ix0))] : List Value).toArray s 0 0 A = Q
  show W p l e ({ frames := 6, cells := 0, slots := 0, locals := 129 } : Room) s m ([.ref (a 0), .ref (dA (100 + ix0))] : List Value).toArray below meth c s.heap [] 0 0 Q (F0 m 0 ls [])
  have RET : ∀ (r2 : Int32) (w0 : MOT) (H : Heap) (locs : List Loc) (ls : Array Slot) (pc : Nat), some (r2, w0) = some (rv, u0) → va_P D vwCl (w_MO dA a q0 q1 (ta 0) g3 g4 g5 g6 g7 g8 g9 g10 g11 g12 g13 g14 g15 g16 g17 g18 w0 ++ (w_Tape dA ta y_tape)) H → va_D A (w_MO dA a q0 q1 (ta 0) g3 g4 g5 g6 g7 g8 g9 g10 g11 g12 g13 g14 g15 g16 g17 g18 w0 ++ (w_Tape dA ta y_tape)) → va_S A s.heap H locs → kb_01 r2 → decode cX12_eatsWord pc = .ok (.ireturn, 1) → W p l e ({ frames := 6, cells := 0, slots := 0, locals := 129 } : Room) s m ([.ref (a 0), .ref (dA (100 + ix0))] : List Value).toArray below meth c H locs 0 0 Q (F0 m pc ls [.int r2]) := by
    intro r2 w0 H locs ls pc hq hP hD hS h01 hd
    cases hq
    rw [← hQ]
    exact W.zret (ty := .boolean) hx hb hr (kb_nz h01) (fun t ht hW => ⟨⟨_, (), rfl, rfl, by rw [ht]; exact hP, hD⟩, hS.F ht⟩) hS.2.2 hd
  have B_14 : ∀ (v2 : Int32) (z0 : MOT) (H : Heap) (locs : List Loc) (ls : Array Slot), f_X12_eatsWord_b14 y_tape v2 z0 = some (rv, u0) → va_P D vwCl (w_MO dA a q0 q1 (ta 0) g3 g4 g5 g6 g7 g8 g9 g10 g11 g12 g13 g14 g15 g16 g17 g18 z0 ++ (w_Tape dA ta y_tape)) H → va_D A (w_MO dA a q0 q1 (ta 0) g3 g4 g5 g6 g7 g8 g9 g10 g11 g12 g13 g14 g15 g16 g17 g18 z0 ++ (w_Tape dA ta y_tape)) → va_S A s.heap H locs → lv_has ls 3 [(2, .int v2)] → W p l e ({ frames := 6, cells := 0, slots := 0, locals := 129 } : Room) s m ([.ref (a 0), .ref (dA (100 + ix0))] : List Value).toArray below meth c H locs 0 0 Q (F0 m 14 ls []) := by
    intro v2 z0 H locs ls hf hP hD hS hl
    rw [f_X12_eatsWord_b14] at hf
    refine lv_iload_n hx hb dX12_eatsWord_14 rfl (lv_at hl 0 rfl) ?_
    obtain ⟨h_5, hf⟩ := kb_if hf
    exact RET _ _ H _ ls 15 hf hP hD hS h_5 dX12_eatsWord_15
  have E0 : ∀ (H : Heap) (locs : List Loc), va_P D vwCl (w_MO dA a q0 q1 (ta 0) g3 g4 g5 g6 g7 g8 g9 g10 g11 g12 g13 g14 g15 g16 g17 g18 mo ++ (w_Tape dA ta y_tape)) H → va_D A (w_MO dA a q0 q1 (ta 0) g3 g4 g5 g6 g7 g8 g9 g10 g11 g12 g13 g14 g15 g16 g17 g18 mo ++ (w_Tape dA ta y_tape)) → va_S A s.heap H locs → W p l e ({ frames := 6, cells := 0, slots := 0, locals := 129 } : Room) s m ([.ref (a 0), .ref (dA (100 + ix0))] : List Value).toArray below meth c H locs 0 0 Q (F0 m 0 ls []) := by
    intro H locs hP hD hS
    rw [f_X12_eatsWord] at hf
    refine lv_aload_n hx hb dX12_eatsWord_0 rfl (lv_at hl 0 rfl) ?_
    refine lv_aload_n hx hb dX12_eatsWord_1 rfl (lv_at hl 1 rfl) ?_
    obtain ⟨r1, hc1, hf⟩ := kb_bind hf
    refine kb_ci (ws2 := (w_MO dA a q0 q1 (ta 0) g3 g4 g5 g6 g7 g8 g9 g10 g11 g12 g13 g14 g15 g16 g17 g18 mo ++ (w_Tape dA ta y_tape))) (kb_rV (n := 1) (As := [.ref (dA (100 + ix0))]) (rest := []) hx hb hml hown hK (c_X12_isWord l D dA H.size a q0 q1 (ta 0) g3 g4 g5 g6 g7 g8 g9 g10 g11 g12 g13 g14 g15 g16 g17 g18 mo ix0 hix0 r1 hc1) ⟨ww_6_213, ww_6_210, ww_6_212, ws_51, ww_1_12, rfl, by decide, by decide⟩ rfl rfl (by decide +kernel) ⟨Nat.le_of_ble_eq_true rfl, Nat.le_of_ble_eq_true rfl⟩ hP hD hS hA hE [0] rfl (by decide) 0 rfl rfl rfl hl.1 rfl (Nat.le_of_ble_eq_true rfl) dX12_eatsWord_2 ⟨Nat.le_of_ble_eq_true rfl, Nat.le_of_ble_eq_true rfl⟩) hP hD hS hA [0] [1] [1, 0] rfl rfl (by decide) (by decide) rfl (by decide) (fun H locs hP hD hS => ?_)
    refine lv_istore_n (lv' := [(2, .int r1), (0, .ref (a 0)), (1, .ref (dA (100 + ix0)))]) hx hb dX12_eatsWord_5 rfl hl (by decide) rfl (fun ls hl => ?_)
    refine lv_iload_n hx hb dX12_eatsWord_6 rfl (lv_at hl 0 rfl) ?_
    refine lv_if_eq (tgt := 14) hx hb dX12_eatsWord_7 (by decide) (fun c_2 => ?_) (fun c_2 => ?_)
    · rw [if_pos c_2] at hf
      refine lv_iload_n hx hb dX12_eatsWord_14 rfl (lv_at hl 0 rfl) ?_
      obtain ⟨h_3, hf⟩ := kb_if hf
      exact RET _ _ H _ ls 15 hf hP hD hS h_3 dX12_eatsWord_15
    · rw [if_neg c_2] at hf
      refine lv_aload_n hx hb dX12_eatsWord_10 rfl (lv_at hl 1 rfl) ?_
      obtain ⟨r4, hc4, hf⟩ := kb_bind hf
      refine kb_cv (ws2 := (w_MO dA a q0 q1 (ta 0) g3 g4 g5 g6 g7 g8 g9 g10 g11 g12 g13 g14 g15 g16 g17 g18 r4 ++ (w_Tape dA ta y_tape))) (kb_rV (n := 0) (As := []) (rest := []) hx hb hml hown hK (c_X12_goesOn l D dA H.size a ta q0 q1 g3 g4 g5 g6 g7 g8 g9 g10 g11 g12 g13 g14 g15 g16 g17 g18 mo y_tape r4 hc4) ⟨ww_6_189, ww_6_186, ww_6_188, ws_47, ww_1_12, rfl, by decide, by decide⟩ rfl rfl (by decide +kernel) ⟨Nat.le_of_ble_eq_true rfl, Nat.le_of_ble_eq_true rfl⟩ hP hD hS hA hE [0, 1] rfl (by decide) 0 rfl rfl rfl hl.1 rfl (Nat.le_of_ble_eq_true rfl) dX12_eatsWord_11 ⟨Nat.le_of_ble_eq_true rfl, Nat.le_of_ble_eq_true rfl⟩) hP hD hS hA [0, 1] [] [0, 1] rfl rfl (by decide) (by decide) rfl (by decide) (fun H locs hP hD hS => ?_)
      exact B_14 _ _ _ _ _ hf hP hD hS (lv_sub hl [0] rfl)
  exact E0 _ _ hP hD hS

noncomputable def f_X12_eatsSign_b30 (y_tape : TapeT) (v2 : Int32) (z0 : MOT) : Option (Int32 × MOT) := if kb_01 v2 then some (v2, z0) else none
noncomputable def f_X12_eatsSign_b21 (y_tape : TapeT) (s0 : Int32) (z0 : MOT) : Option (Int32 × MOT) := (if s0 = 0 then if kb_01 s0 then some (s0, z0) else none else (f_X12_goesOn z0 y_tape).bind fun r4 => f_X12_eatsSign_b30 y_tape s0 r4)
noncomputable def f_X12_eatsSign_b20 (y_tape : TapeT) (z0 : MOT) : Option (Int32 × MOT) := f_X12_eatsSign_b21 y_tape (0 : Int32) z0
noncomputable def f_X12_eatsSign (mo : MOT) (y_tape : TapeT) (x0 : Int32) : Option (Int32 × MOT) := (if (mo_sort mo) = (4 : Int32) then (if (mo_sign mo) = x0 then f_X12_eatsSign_b21 y_tape (1 : Int32) mo else f_X12_eatsSign_b20 y_tape mo) else f_X12_eatsSign_b20 y_tape mo)
set_option maxHeartbeats 4000000 in
set_option maxRecDepth 100000 in
theorem c_X12_eatsSign (l : Launch) (D : va_G) (dA : Nat → ClassId) (sz : Nat) (a : Nat → Nat) (ta : Nat → Nat) (q0 : Option Nat) (q1 : Option Nat) (g3 : Nat) (g4 : Nat) (g5 : Nat) (g6 : Nat) (g7 : Nat) (g8 : Nat) (g9 : Nat) (g10 : Nat) (g11 : Nat) (g12 : Nat) (g13 : Nat) (g14 : Nat) (g15 : Nat) (g16 : Nat) (g17 : Nat) (g18 : Nat) (mo : MOT) (y_tape : TapeT) (x0 : Int32) (rv : Int32) (u0 : MOT) (hf : f_X12_eatsSign mo y_tape x0 = some (rv, u0)) : kb_Mi l yX12_eatsSign cX12_eatsSign 3 (some .boolean) ({ frames := 2, cells := 0, slots := 0, locals := 43 } : Room) D dA [.ref (a 0), .int x0] sz (w_MO dA a q0 q1 (ta 0) g3 g4 g5 g6 g7 g8 g9 g10 g11 g12 g13 g14 g15 g16 g17 g18 mo ++ (w_Tape dA ta y_tape)) 0 0 rv (w_MO dA a q0 q1 (ta 0) g3 g4 g5 g6 g7 g8 g9 g10 g11 g12 g13 g14 g15 g16 g17 g18 u0 ++ (w_Tape dA ta y_tape)) := by
  refine Met.ofW (cc := cX12_eatsSign) (maxL := 3) (ret := (some .boolean)) (by decide) rfl ?_
  intro p e s m args below meth c s₁ B hml hv
  obtain ⟨rfl, hsz, hP, hK, hD0, hE⟩ := hv
  have hx := B.exec
  have hb := B.bytes
  have hr := B.returns
  have hown : s.vm.findClass RX12 = some m.cls := findClass_of_methodNamed B.named
  have hlocks := B.notSynchronized
  have hts : ∀ w ∈ kb_gw, w.before ([.ref (a 0), .int x0] : List Value).toArray s = true := fun w hw => hK.2.1 w hw _
  subst hsz
  have hD := hD0.self (sz := s.heap.size)
  generalize hAe : va_A (w_MO dA a q0 q1 (ta 0) g3 g4 g5 g6 g7 g8 g9 g10 g11 g12 g13 g14 g15 g16 g17 g18 mo ++ (w_Tape dA ta y_tape)) s.heap.size = A at hD hE ⊢
  have hA : ∀ q : Nat, s.heap.size ≤ q → A q := fun q h => by rw [← hAe]; exact Or.inr h
  have hS : va_S A s.heap s.heap [] := va_S.rf
  have hl := lv_entry ([.ref (a 0), .int x0]) (n := 3) (Nat.le_of_ble_eq_true rfl)
  rw [lg_entry_eq]
  generalize (lg_sl ([.ref (a 0), .int x0]) ++ List.replicate (3 - (lg_sl ([.ref (a 0), .int x0])).length) Slot.unset).toArray = ls at hl ⊢
  have hl : lv_has ls 3 [(0, .ref (a 0)), (1, .int x0)] := hl
  generalize hQ : MQ below (va_Qi (fun r (_ : Unit) => r = rv) (kb_B D A (w_MO dA a q0 q1 (ta 0) g3 g4 g5 g6 g7 g8 g9 g10 g11 g12 g13 g14 g15 g16 g17 g18 u0 ++ (w_Tape dA ta y_tape))) A) ([.ref (a 0), .int x0] : List Value).toArray s 0 0 A = Q
  show W p l e ({ frames := 2, cells := 0, slots := 0, locals := 43 } : Room) s m ([.ref (a 0), .int x0] : List Value).toArray below meth c s.heap [] 0 0 Q (F0 m 0 ls [])
  have RET : ∀ (r2 : Int32) (w0 : MOT) (H : Heap) (locs : List Loc) (ls : Array Slot) (pc : Nat), some (r2, w0) = some (rv, u0) → va_P D vwCl (w_MO dA a q0 q1 (ta 0) g3 g4 g5 g6 g7 g8 g9 g10 g11 g12 g13 g14 g15 g16 g17 g18 w0 ++ (w_Tape dA ta y_tape)) H → va_D A (w_MO dA a q0 q1 (ta 0) g3 g4 g5 g6 g7 g8 g9 g10 g11 g12 g13 g14 g15 g16 g17 g18 w0 ++ (w_Tape dA ta y_tape)) → va_S A s.heap H locs → kb_01 r2 → decode cX12_eatsSign pc = .ok (.ireturn, 1) → W p l e ({ frames := 2, cells := 0, slots := 0, locals := 43 } : Room) s m ([.ref (a 0), .int x0] : List Value).toArray below meth c H locs 0 0 Q (F0 m pc ls [.int r2]) := by
    intro r2 w0 H locs ls pc hq hP hD hS h01 hd
    cases hq
    rw [← hQ]
    exact W.zret (ty := .boolean) hx hb hr (kb_nz h01) (fun t ht hW => ⟨⟨_, (), rfl, rfl, by rw [ht]; exact hP, hD⟩, hS.F ht⟩) hS.2.2 hd
  have B_30 : ∀ (v2 : Int32) (z0 : MOT) (H : Heap) (locs : List Loc) (ls : Array Slot), f_X12_eatsSign_b30 y_tape v2 z0 = some (rv, u0) → va_P D vwCl (w_MO dA a q0 q1 (ta 0) g3 g4 g5 g6 g7 g8 g9 g10 g11 g12 g13 g14 g15 g16 g17 g18 z0 ++ (w_Tape dA ta y_tape)) H → va_D A (w_MO dA a q0 q1 (ta 0) g3 g4 g5 g6 g7 g8 g9 g10 g11 g12 g13 g14 g15 g16 g17 g18 z0 ++ (w_Tape dA ta y_tape)) → va_S A s.heap H locs → lv_has ls 3 [(2, .int v2)] → W p l e ({ frames := 2, cells := 0, slots := 0, locals := 43 } : Room) s m ([.ref (a 0), .int x0] : List Value).toArray below meth c H locs 0 0 Q (F0 m 30 ls []) := by
    intro v2 z0 H locs ls hf hP hD hS hl
    rw [f_X12_eatsSign_b30] at hf
    refine lv_iload_n hx hb dX12_eatsSign_30 rfl (lv_at hl 0 rfl) ?_
    obtain ⟨h_5, hf⟩ := kb_if hf
    exact RET _ _ H _ ls 31 hf hP hD hS h_5 dX12_eatsSign_31
  have B_21 : ∀ (s0 : Int32) (z0 : MOT) (H : Heap) (locs : List Loc) (ls : Array Slot), f_X12_eatsSign_b21 y_tape s0 z0 = some (rv, u0) → va_P D vwCl (w_MO dA a q0 q1 (ta 0) g3 g4 g5 g6 g7 g8 g9 g10 g11 g12 g13 g14 g15 g16 g17 g18 z0 ++ (w_Tape dA ta y_tape)) H → va_D A (w_MO dA a q0 q1 (ta 0) g3 g4 g5 g6 g7 g8 g9 g10 g11 g12 g13 g14 g15 g16 g17 g18 z0 ++ (w_Tape dA ta y_tape)) → va_S A s.heap H locs → lv_has ls 3 [(0, .ref (a 0))] → W p l e ({ frames := 2, cells := 0, slots := 0, locals := 43 } : Room) s m ([.ref (a 0), .int x0] : List Value).toArray below meth c H locs 0 0 Q (F0 m 21 ls [.int s0]) := by
    intro s0 z0 H locs ls hf hP hD hS hl
    rw [f_X12_eatsSign_b21] at hf
    refine lv_istore_n (lv' := [(2, .int s0), (0, .ref (a 0))]) hx hb dX12_eatsSign_21 rfl hl (by decide) rfl (fun ls hl => ?_)
    refine lv_iload_n hx hb dX12_eatsSign_22 rfl (lv_at hl 0 rfl) ?_
    refine lv_if_eq (tgt := 30) hx hb dX12_eatsSign_23 (by decide) (fun c_2 => ?_) (fun c_2 => ?_)
    · rw [if_pos c_2] at hf
      refine lv_iload_n hx hb dX12_eatsSign_30 rfl (lv_at hl 0 rfl) ?_
      obtain ⟨h_3, hf⟩ := kb_if hf
      exact RET _ _ H _ ls 31 hf hP hD hS h_3 dX12_eatsSign_31
    · rw [if_neg c_2] at hf
      refine lv_aload_n hx hb dX12_eatsSign_26 rfl (lv_at hl 1 rfl) ?_
      obtain ⟨r4, hc4, hf⟩ := kb_bind hf
      refine kb_cv (ws2 := (w_MO dA a q0 q1 (ta 0) g3 g4 g5 g6 g7 g8 g9 g10 g11 g12 g13 g14 g15 g16 g17 g18 r4 ++ (w_Tape dA ta y_tape))) (kb_rV (n := 0) (As := []) (rest := []) hx hb hml hown hK (c_X12_goesOn l D dA H.size a ta q0 q1 g3 g4 g5 g6 g7 g8 g9 g10 g11 g12 g13 g14 g15 g16 g17 g18 z0 y_tape r4 hc4) ⟨ww_6_189, ww_6_186, ww_6_188, ws_47, ww_1_12, rfl, by decide, by decide⟩ rfl rfl (by decide +kernel) ⟨Nat.le_of_ble_eq_true rfl, Nat.le_of_ble_eq_true rfl⟩ hP hD hS hA hE [0, 1] rfl (by decide) 0 rfl rfl rfl hl.1 rfl (Nat.le_of_ble_eq_true rfl) dX12_eatsSign_27 ⟨Nat.le_of_ble_eq_true rfl, Nat.le_of_ble_eq_true rfl⟩) hP hD hS hA [0, 1] [] [0, 1] rfl rfl (by decide) (by decide) rfl (by decide) (fun H locs hP hD hS => ?_)
      exact B_30 _ _ _ _ _ hf hP hD hS (lv_sub hl [0] rfl)
  have B_20 : ∀ (z0 : MOT) (H : Heap) (locs : List Loc) (ls : Array Slot), f_X12_eatsSign_b20 y_tape z0 = some (rv, u0) → va_P D vwCl (w_MO dA a q0 q1 (ta 0) g3 g4 g5 g6 g7 g8 g9 g10 g11 g12 g13 g14 g15 g16 g17 g18 z0 ++ (w_Tape dA ta y_tape)) H → va_D A (w_MO dA a q0 q1 (ta 0) g3 g4 g5 g6 g7 g8 g9 g10 g11 g12 g13 g14 g15 g16 g17 g18 z0 ++ (w_Tape dA ta y_tape)) → va_S A s.heap H locs → lv_has ls 3 [(0, .ref (a 0))] → W p l e ({ frames := 2, cells := 0, slots := 0, locals := 43 } : Room) s m ([.ref (a 0), .int x0] : List Value).toArray below meth c H locs 0 0 Q (F0 m 20 ls []) := by
    intro z0 H locs ls hf hP hD hS hl
    rw [f_X12_eatsSign_b20] at hf
    refine lv_iconst (v := (0 : Int32)) hx hb dX12_eatsSign_20 (by decide) ?_
    exact B_21 _ _ _ _ _ hf hP hD hS (lv_sub hl [0] rfl)
  have E0 : ∀ (H : Heap) (locs : List Loc), va_P D vwCl (w_MO dA a q0 q1 (ta 0) g3 g4 g5 g6 g7 g8 g9 g10 g11 g12 g13 g14 g15 g16 g17 g18 mo ++ (w_Tape dA ta y_tape)) H → va_D A (w_MO dA a q0 q1 (ta 0) g3 g4 g5 g6 g7 g8 g9 g10 g11 g12 g13 g14 g15 g16 g17 g18 mo ++ (w_Tape dA ta y_tape)) → va_S A s.heap H locs → W p l e ({ frames := 2, cells := 0, slots := 0, locals := 43 } : Room) s m ([.ref (a 0), .int x0] : List Value).toArray below meth c H locs 0 0 Q (F0 m 0 ls []) := by
    intro H locs hP hD hS
    rw [f_X12_eatsSign] at hf
    refine lv_aload_n hx hb dX12_eatsSign_0 rfl (lv_at hl 0 rfl) ?_
    refine va_get (D := D) (ci := 12) (v := .int (mo_sort mo)) (C := RX12) (T := TX12) (N := 35) hx hb hts kb_inX12 hown hK.1 hP 0 rfl rfl 9 (by decide) (hK.2.w ww_5_209 rfl _) (fun _ h9 => h9) rfl dX12_eatsSign_1 ?_
    refine lv_iconst (v := (4 : Int32)) hx hb dX12_eatsSign_4 (by decide) ?_
    refine lv_icmp_ne (tgt := 20) hx hb dX12_eatsSign_5 (by decide) (fun c_1 => ?_) (fun c_1 => ?_)
    · rw [if_neg c_1] at hf
      exact B_20 _ _ _ _ hf hP hD hS (lv_sub hl [0] rfl)
    · rw [if_pos c_1] at hf
      refine lv_aload_n hx hb dX12_eatsSign_8 rfl (lv_at hl 0 rfl) ?_
      refine va_get (D := D) (ci := 12) (v := .int (mo_sign mo)) (C := RX12) (T := TX12) (N := 35) hx hb hts kb_inX12 hown hK.1 hP 0 rfl rfl 11 (by decide) (hK.2.w ww_5_211 rfl _) (fun _ h9 => h9) rfl dX12_eatsSign_9 ?_
      refine lv_iload_n hx hb dX12_eatsSign_12 rfl (lv_at hl 1 rfl) ?_
      refine lv_icmp_ne (tgt := 20) hx hb dX12_eatsSign_13 (by decide) (fun c_6 => ?_) (fun c_6 => ?_)
      · rw [if_neg c_6] at hf
        exact B_20 _ _ _ _ hf hP hD hS (lv_sub hl [0] rfl)
      · rw [if_pos c_6] at hf
        refine lv_iconst (v := (1 : Int32)) hx hb dX12_eatsSign_16 (by decide) ?_
        refine lv_goto (tgt := 21) hx hb dX12_eatsSign_17 (by decide) ?_
        exact B_21 _ _ _ _ _ hf hP hD hS (lv_sub hl [0] rfl)
  exact E0 _ _ hP hD hS

noncomputable def f_X12_needs_b17 (y_tape : TapeT) (z0 : MOT) : Option (MOT) := some (z0)
noncomputable def f_X12_needs_b13 (y_tape : TapeT) (z0 : MOT) : Option (MOT) := (f_X12_goesOn z0 y_tape).bind fun r3 => f_X12_needs_b17 y_tape r3
noncomputable def f_X12_needs (mo : MOT) (y_tape : TapeT) (ix0 : Nat) : Option (MOT) := (f_X12_isWord mo ix0).bind fun r1 => (if r1 = 0 then (f_X12_wrong mo (1 : Int32)).bind fun r4 => f_X12_needs_b13 y_tape r4 else f_X12_needs_b13 y_tape mo)
set_option maxHeartbeats 4000000 in
set_option maxRecDepth 100000 in
theorem c_X12_needs (l : Launch) (D : va_G) (dA : Nat → ClassId) (sz : Nat) (a : Nat → Nat) (ta : Nat → Nat) (q0 : Option Nat) (q1 : Option Nat) (g3 : Nat) (g4 : Nat) (g5 : Nat) (g6 : Nat) (g7 : Nat) (g8 : Nat) (g9 : Nat) (g10 : Nat) (g11 : Nat) (g12 : Nat) (g13 : Nat) (g14 : Nat) (g15 : Nat) (g16 : Nat) (g17 : Nat) (g18 : Nat) (mo : MOT) (y_tape : TapeT) (ix0 : Nat) (hix0 : ix0 < kb_N) (u0 : MOT) (hf : f_X12_needs mo y_tape ix0 = some (u0)) : kb_Mv l yX12_needs cX12_needs 2 none ({ frames := 6, cells := 0, slots := 0, locals := 129 } : Room) D dA [.ref (a 0), .ref (dA (100 + ix0))] sz (w_MO dA a q0 q1 (ta 0) g3 g4 g5 g6 g7 g8 g9 g10 g11 g12 g13 g14 g15 g16 g17 g18 mo ++ (w_Tape dA ta y_tape)) 0 0 (w_MO dA a q0 q1 (ta 0) g3 g4 g5 g6 g7 g8 g9 g10 g11 g12 g13 g14 g15 g16 g17 g18 u0 ++ (w_Tape dA ta y_tape)) := by
  refine Met.ofW (cc := cX12_needs) (maxL := 2) (ret := none) (by decide) rfl ?_
  intro p e s m args below meth c s₁ B hml hv
  obtain ⟨rfl, hsz, hP, hK, hD0, hE⟩ := hv
  have hx := B.exec
  have hb := B.bytes
  have hr := B.returns
  have hown : s.vm.findClass RX12 = some m.cls := findClass_of_methodNamed B.named
  have hlocks := B.notSynchronized
  have hts : ∀ w ∈ kb_gw, w.before ([.ref (a 0), .ref (dA (100 + ix0))] : List Value).toArray s = true := fun w hw => hK.2.1 w hw _
  subst hsz
  have hD := hD0.self (sz := s.heap.size)
  generalize hAe : va_A (w_MO dA a q0 q1 (ta 0) g3 g4 g5 g6 g7 g8 g9 g10 g11 g12 g13 g14 g15 g16 g17 g18 mo ++ (w_Tape dA ta y_tape)) s.heap.size = A at hD hE ⊢
  have hA : ∀ q : Nat, s.heap.size ≤ q → A q := fun q h => by rw [← hAe]; exact Or.inr h
  have hS : va_S A s.heap s.heap [] := va_S.rf
  have hl := lv_entry ([.ref (a 0), .ref (dA (100 + ix0))]) (n := 2) (Nat.le_of_ble_eq_true rfl)
  rw [lg_entry_eq]
  generalize (lg_sl ([.ref (a 0), .ref (dA (100 + ix0))]) ++ List.replicate (2 - (lg_sl ([.ref (a 0), .ref (dA (100 + ix0))])).length) Slot.unset).toArray = ls at hl ⊢
  have hl : lv_has ls 2 [(0, .ref (a 0)), (1, .ref (dA (100 + ix0)))] := hl
  generalize hQ : MQ below (va_Qv (fun (_ : Unit) => True) (kb_B D A (w_MO dA a q0 q1 (ta 0) g3 g4 g5 g6 g7 g8 g9 g10 g11 g12 g13 g14 g15 g16 g17 g18 u0 ++ (w_Tape dA ta y_tape))) A) ([.ref (a 0), .ref (dA (100 + ix0))] : List Value).toArray s 0 0 A = Q
  show W p l e ({ frames := 6, cells := 0, slots := 0, locals := 129 } : Room) s m ([.ref (a 0), .ref (dA (100 + ix0))] : List Value).toArray below meth c s.heap [] 0 0 Q (F0 m 0 ls [])
  have RET : ∀ (w0 : MOT) (H : Heap) (locs : List Loc) (ls : Array Slot) (pc : Nat), some (w0) = some (u0) → va_P D vwCl (w_MO dA a q0 q1 (ta 0) g3 g4 g5 g6 g7 g8 g9 g10 g11 g12 g13 g14 g15 g16 g17 g18 w0 ++ (w_Tape dA ta y_tape)) H → va_D A (w_MO dA a q0 q1 (ta 0) g3 g4 g5 g6 g7 g8 g9 g10 g11 g12 g13 g14 g15 g16 g17 g18 w0 ++ (w_Tape dA ta y_tape)) → va_S A s.heap H locs → decode cX12_needs pc = .ok (.return_, 1) → W p l e ({ frames := 6, cells := 0, slots := 0, locals := 129 } : Room) s m ([.ref (a 0), .ref (dA (100 + ix0))] : List Value).toArray below meth c H locs 0 0 Q (F0 m pc ls []) := by
    intro w0 H locs ls pc hq hP hD hS hd
    cases hq
    rw [← hQ]
    exact W.vret hx hb hr (fun t ht hW => ⟨⟨(), rfl, trivial, by rw [ht]; exact hP, hD⟩, hS.F ht⟩) hS.2.2 hd
  have B_17 : ∀ (z0 : MOT) (H : Heap) (locs : List Loc) (ls : Array Slot), f_X12_needs_b17 y_tape z0 = some (u0) → va_P D vwCl (w_MO dA a q0 q1 (ta 0) g3 g4 g5 g6 g7 g8 g9 g10 g11 g12 g13 g14 g15 g16 g17 g18 z0 ++ (w_Tape dA ta y_tape)) H → va_D A (w_MO dA a q0 q1 (ta 0) g3 g4 g5 g6 g7 g8 g9 g10 g11 g12 g13 g14 g15 g16 g17 g18 z0 ++ (w_Tape dA ta y_tape)) → va_S A s.heap H locs → lv_has ls 2 [] → W p l e ({ frames := 6, cells := 0, slots := 0, locals := 129 } : Room) s m ([.ref (a 0), .ref (dA (100 + ix0))] : List Value).toArray below meth c H locs 0 0 Q (F0 m 17 ls []) := by
    intro z0 H locs ls hf hP hD hS hl
    rw [f_X12_needs_b17] at hf
    exact RET _ H _ ls 17 hf hP hD hS dX12_needs_17
  have B_13 : ∀ (z0 : MOT) (H : Heap) (locs : List Loc) (ls : Array Slot), f_X12_needs_b13 y_tape z0 = some (u0) → va_P D vwCl (w_MO dA a q0 q1 (ta 0) g3 g4 g5 g6 g7 g8 g9 g10 g11 g12 g13 g14 g15 g16 g17 g18 z0 ++ (w_Tape dA ta y_tape)) H → va_D A (w_MO dA a q0 q1 (ta 0) g3 g4 g5 g6 g7 g8 g9 g10 g11 g12 g13 g14 g15 g16 g17 g18 z0 ++ (w_Tape dA ta y_tape)) → va_S A s.heap H locs → lv_has ls 2 [(0, .ref (a 0))] → W p l e ({ frames := 6, cells := 0, slots := 0, locals := 129 } : Room) s m ([.ref (a 0), .ref (dA (100 + ix0))] : List Value).toArray below meth c H locs 0 0 Q (F0 m 13 ls []) := by
    intro z0 H locs ls hf hP hD hS hl
    rw [f_X12_needs_b13] at hf
    refine lv_aload_n hx hb dX12_needs_13 rfl (lv_at hl 0 rfl) ?_
    obtain ⟨r3, hc3, hf⟩ := kb_bind hf
    refine kb_cv (ws2 := (w_MO dA a q0 q1 (ta 0) g3 g4 g5 g6 g7 g8 g9 g10 g11 g12 g13 g14 g15 g16 g17 g18 r3 ++ (w_Tape dA ta y_tape))) (kb_rV (n := 0) (As := []) (rest := []) hx hb hml hown hK (c_X12_goesOn l D dA H.size a ta q0 q1 g3 g4 g5 g6 g7 g8 g9 g10 g11 g12 g13 g14 g15 g16 g17 g18 z0 y_tape r3 hc3) ⟨ww_6_189, ww_6_186, ww_6_188, ws_47, ww_1_12, rfl, by decide, by decide⟩ rfl rfl (by decide +kernel) ⟨Nat.le_of_ble_eq_true rfl, Nat.le_of_ble_eq_true rfl⟩ hP hD hS hA hE [0, 1] rfl (by decide) 0 rfl rfl rfl hl.1 rfl (Nat.le_of_ble_eq_true rfl) dX12_needs_14 ⟨Nat.le_of_ble_eq_true rfl, Nat.le_of_ble_eq_true rfl⟩) hP hD hS hA [0, 1] [] [0, 1] rfl rfl (by decide) (by decide) rfl (by decide) (fun H locs hP hD hS => ?_)
    exact B_17 _ _ _ _ hf hP hD hS (lv_sub hl [] rfl)
  have E0 : ∀ (H : Heap) (locs : List Loc), va_P D vwCl (w_MO dA a q0 q1 (ta 0) g3 g4 g5 g6 g7 g8 g9 g10 g11 g12 g13 g14 g15 g16 g17 g18 mo ++ (w_Tape dA ta y_tape)) H → va_D A (w_MO dA a q0 q1 (ta 0) g3 g4 g5 g6 g7 g8 g9 g10 g11 g12 g13 g14 g15 g16 g17 g18 mo ++ (w_Tape dA ta y_tape)) → va_S A s.heap H locs → W p l e ({ frames := 6, cells := 0, slots := 0, locals := 129 } : Room) s m ([.ref (a 0), .ref (dA (100 + ix0))] : List Value).toArray below meth c H locs 0 0 Q (F0 m 0 ls []) := by
    intro H locs hP hD hS
    rw [f_X12_needs] at hf
    refine lv_aload_n hx hb dX12_needs_0 rfl (lv_at hl 0 rfl) ?_
    refine lv_aload_n hx hb dX12_needs_1 rfl (lv_at hl 1 rfl) ?_
    obtain ⟨r1, hc1, hf⟩ := kb_bind hf
    refine kb_ci (ws2 := (w_MO dA a q0 q1 (ta 0) g3 g4 g5 g6 g7 g8 g9 g10 g11 g12 g13 g14 g15 g16 g17 g18 mo ++ (w_Tape dA ta y_tape))) (kb_rV (n := 1) (As := [.ref (dA (100 + ix0))]) (rest := []) hx hb hml hown hK (c_X12_isWord l D dA H.size a q0 q1 (ta 0) g3 g4 g5 g6 g7 g8 g9 g10 g11 g12 g13 g14 g15 g16 g17 g18 mo ix0 hix0 r1 hc1) ⟨ww_6_213, ww_6_210, ww_6_212, ws_51, ww_1_12, rfl, by decide, by decide⟩ rfl rfl (by decide +kernel) ⟨Nat.le_of_ble_eq_true rfl, Nat.le_of_ble_eq_true rfl⟩ hP hD hS hA hE [0] rfl (by decide) 0 rfl rfl rfl hl.1 rfl (Nat.le_of_ble_eq_true rfl) dX12_needs_2 ⟨Nat.le_of_ble_eq_true rfl, Nat.le_of_ble_eq_true rfl⟩) hP hD hS hA [0] [1] [1, 0] rfl rfl (by decide) (by decide) rfl (by decide) (fun H locs hP hD hS => ?_)
    refine lv_if_ne (tgt := 13) hx hb dX12_needs_5 (by decide) (fun c_2 => ?_) (fun c_2 => ?_)
    · rw [if_neg c_2] at hf
      exact B_13 _ _ _ _ hf hP hD hS (lv_sub hl [0] rfl)
    · rw [if_pos c_2] at hf
      refine lv_aload_n hx hb dX12_needs_8 rfl (lv_at hl 0 rfl) ?_
      refine lv_iconst (v := (1 : Int32)) hx hb dX12_needs_9 (by decide) ?_
      obtain ⟨r4, hc4, hf⟩ := kb_bind hf
      refine kb_cv (ws2 := (w_MO dA a q0 q1 (ta 0) g3 g4 g5 g6 g7 g8 g9 g10 g11 g12 g13 g14 g15 g16 g17 g18 r4 ++ (w_Tape dA ta y_tape))) (kb_rV (n := 1) (As := [.int (1 : Int32)]) (rest := []) hx hb hml hown hK (c_X12_wrong l D dA H.size a q0 q1 (ta 0) g3 g4 g5 g6 g7 g8 g9 g10 g11 g12 g13 g14 g15 g16 g17 g18 mo (1 : Int32) r4 hc4) ⟨ww_6_226, ww_6_223, ww_6_225, ws_53, ww_1_12, rfl, by decide, by decide⟩ rfl rfl (by decide +kernel) ⟨Nat.le_of_ble_eq_true rfl, Nat.le_of_ble_eq_true rfl⟩ hP hD hS hA hE [0] rfl (by decide) 0 rfl rfl rfl hl.1 rfl (Nat.le_of_ble_eq_true rfl) dX12_needs_10 ⟨Nat.le_of_ble_eq_true rfl, Nat.le_of_ble_eq_true rfl⟩) hP hD hS hA [0] [1] [1, 0] rfl rfl (by decide) (by decide) rfl (by decide) (fun H locs hP hD hS => ?_)
      exact B_13 _ _ _ _ hf hP hD hS (lv_sub hl [0] rfl)
  exact E0 _ _ hP hD hS

noncomputable def f_X12_needsSign_b25 (y_tape : TapeT) (z0 : MOT) : Option (MOT) := some (z0)
noncomputable def f_X12_needsSign_b21 (y_tape : TapeT) (z0 : MOT) : Option (MOT) := (f_X12_goesOn z0 y_tape).bind fun r3 => f_X12_needsSign_b25 y_tape r3
noncomputable def f_X12_needsSign_b16 (y_tape : TapeT) (z0 : MOT) : Option (MOT) := (f_X12_wrong z0 (1 : Int32)).bind fun r2 => f_X12_needsSign_b21 y_tape r2
noncomputable def f_X12_needsSign (mo : MOT) (y_tape : TapeT) (x0 : Int32) : Option (MOT) := (if (mo_sort mo) = (4 : Int32) then (if (mo_sign mo) = x0 then f_X12_needsSign_b21 y_tape mo else f_X12_needsSign_b16 y_tape mo) else f_X12_needsSign_b16 y_tape mo)
set_option maxHeartbeats 4000000 in
set_option maxRecDepth 100000 in
theorem c_X12_needsSign (l : Launch) (D : va_G) (dA : Nat → ClassId) (sz : Nat) (a : Nat → Nat) (ta : Nat → Nat) (q0 : Option Nat) (q1 : Option Nat) (g3 : Nat) (g4 : Nat) (g5 : Nat) (g6 : Nat) (g7 : Nat) (g8 : Nat) (g9 : Nat) (g10 : Nat) (g11 : Nat) (g12 : Nat) (g13 : Nat) (g14 : Nat) (g15 : Nat) (g16 : Nat) (g17 : Nat) (g18 : Nat) (mo : MOT) (y_tape : TapeT) (x0 : Int32) (u0 : MOT) (hf : f_X12_needsSign mo y_tape x0 = some (u0)) : kb_Mv l yX12_needsSign cX12_needsSign 2 none ({ frames := 2, cells := 0, slots := 0, locals := 43 } : Room) D dA [.ref (a 0), .int x0] sz (w_MO dA a q0 q1 (ta 0) g3 g4 g5 g6 g7 g8 g9 g10 g11 g12 g13 g14 g15 g16 g17 g18 mo ++ (w_Tape dA ta y_tape)) 0 0 (w_MO dA a q0 q1 (ta 0) g3 g4 g5 g6 g7 g8 g9 g10 g11 g12 g13 g14 g15 g16 g17 g18 u0 ++ (w_Tape dA ta y_tape)) := by
  refine Met.ofW (cc := cX12_needsSign) (maxL := 2) (ret := none) (by decide) rfl ?_
  intro p e s m args below meth c s₁ B hml hv
  obtain ⟨rfl, hsz, hP, hK, hD0, hE⟩ := hv
  have hx := B.exec
  have hb := B.bytes
  have hr := B.returns
  have hown : s.vm.findClass RX12 = some m.cls := findClass_of_methodNamed B.named
  have hlocks := B.notSynchronized
  have hts : ∀ w ∈ kb_gw, w.before ([.ref (a 0), .int x0] : List Value).toArray s = true := fun w hw => hK.2.1 w hw _
  subst hsz
  have hD := hD0.self (sz := s.heap.size)
  generalize hAe : va_A (w_MO dA a q0 q1 (ta 0) g3 g4 g5 g6 g7 g8 g9 g10 g11 g12 g13 g14 g15 g16 g17 g18 mo ++ (w_Tape dA ta y_tape)) s.heap.size = A at hD hE ⊢
  have hA : ∀ q : Nat, s.heap.size ≤ q → A q := fun q h => by rw [← hAe]; exact Or.inr h
  have hS : va_S A s.heap s.heap [] := va_S.rf
  have hl := lv_entry ([.ref (a 0), .int x0]) (n := 2) (Nat.le_of_ble_eq_true rfl)
  rw [lg_entry_eq]
  generalize (lg_sl ([.ref (a 0), .int x0]) ++ List.replicate (2 - (lg_sl ([.ref (a 0), .int x0])).length) Slot.unset).toArray = ls at hl ⊢
  have hl : lv_has ls 2 [(0, .ref (a 0)), (1, .int x0)] := hl
  generalize hQ : MQ below (va_Qv (fun (_ : Unit) => True) (kb_B D A (w_MO dA a q0 q1 (ta 0) g3 g4 g5 g6 g7 g8 g9 g10 g11 g12 g13 g14 g15 g16 g17 g18 u0 ++ (w_Tape dA ta y_tape))) A) ([.ref (a 0), .int x0] : List Value).toArray s 0 0 A = Q
  show W p l e ({ frames := 2, cells := 0, slots := 0, locals := 43 } : Room) s m ([.ref (a 0), .int x0] : List Value).toArray below meth c s.heap [] 0 0 Q (F0 m 0 ls [])
  have RET : ∀ (w0 : MOT) (H : Heap) (locs : List Loc) (ls : Array Slot) (pc : Nat), some (w0) = some (u0) → va_P D vwCl (w_MO dA a q0 q1 (ta 0) g3 g4 g5 g6 g7 g8 g9 g10 g11 g12 g13 g14 g15 g16 g17 g18 w0 ++ (w_Tape dA ta y_tape)) H → va_D A (w_MO dA a q0 q1 (ta 0) g3 g4 g5 g6 g7 g8 g9 g10 g11 g12 g13 g14 g15 g16 g17 g18 w0 ++ (w_Tape dA ta y_tape)) → va_S A s.heap H locs → decode cX12_needsSign pc = .ok (.return_, 1) → W p l e ({ frames := 2, cells := 0, slots := 0, locals := 43 } : Room) s m ([.ref (a 0), .int x0] : List Value).toArray below meth c H locs 0 0 Q (F0 m pc ls []) := by
    intro w0 H locs ls pc hq hP hD hS hd
    cases hq
    rw [← hQ]
    exact W.vret hx hb hr (fun t ht hW => ⟨⟨(), rfl, trivial, by rw [ht]; exact hP, hD⟩, hS.F ht⟩) hS.2.2 hd
  have B_25 : ∀ (z0 : MOT) (H : Heap) (locs : List Loc) (ls : Array Slot), f_X12_needsSign_b25 y_tape z0 = some (u0) → va_P D vwCl (w_MO dA a q0 q1 (ta 0) g3 g4 g5 g6 g7 g8 g9 g10 g11 g12 g13 g14 g15 g16 g17 g18 z0 ++ (w_Tape dA ta y_tape)) H → va_D A (w_MO dA a q0 q1 (ta 0) g3 g4 g5 g6 g7 g8 g9 g10 g11 g12 g13 g14 g15 g16 g17 g18 z0 ++ (w_Tape dA ta y_tape)) → va_S A s.heap H locs → lv_has ls 2 [] → W p l e ({ frames := 2, cells := 0, slots := 0, locals := 43 } : Room) s m ([.ref (a 0), .int x0] : List Value).toArray below meth c H locs 0 0 Q (F0 m 25 ls []) := by
    intro z0 H locs ls hf hP hD hS hl
    rw [f_X12_needsSign_b25] at hf
    exact RET _ H _ ls 25 hf hP hD hS dX12_needsSign_25
  have B_21 : ∀ (z0 : MOT) (H : Heap) (locs : List Loc) (ls : Array Slot), f_X12_needsSign_b21 y_tape z0 = some (u0) → va_P D vwCl (w_MO dA a q0 q1 (ta 0) g3 g4 g5 g6 g7 g8 g9 g10 g11 g12 g13 g14 g15 g16 g17 g18 z0 ++ (w_Tape dA ta y_tape)) H → va_D A (w_MO dA a q0 q1 (ta 0) g3 g4 g5 g6 g7 g8 g9 g10 g11 g12 g13 g14 g15 g16 g17 g18 z0 ++ (w_Tape dA ta y_tape)) → va_S A s.heap H locs → lv_has ls 2 [(0, .ref (a 0))] → W p l e ({ frames := 2, cells := 0, slots := 0, locals := 43 } : Room) s m ([.ref (a 0), .int x0] : List Value).toArray below meth c H locs 0 0 Q (F0 m 21 ls []) := by
    intro z0 H locs ls hf hP hD hS hl
    rw [f_X12_needsSign_b21] at hf
    refine lv_aload_n hx hb dX12_needsSign_21 rfl (lv_at hl 0 rfl) ?_
    obtain ⟨r3, hc3, hf⟩ := kb_bind hf
    refine kb_cv (ws2 := (w_MO dA a q0 q1 (ta 0) g3 g4 g5 g6 g7 g8 g9 g10 g11 g12 g13 g14 g15 g16 g17 g18 r3 ++ (w_Tape dA ta y_tape))) (kb_rV (n := 0) (As := []) (rest := []) hx hb hml hown hK (c_X12_goesOn l D dA H.size a ta q0 q1 g3 g4 g5 g6 g7 g8 g9 g10 g11 g12 g13 g14 g15 g16 g17 g18 z0 y_tape r3 hc3) ⟨ww_6_189, ww_6_186, ww_6_188, ws_47, ww_1_12, rfl, by decide, by decide⟩ rfl rfl (by decide +kernel) ⟨Nat.le_of_ble_eq_true rfl, Nat.le_of_ble_eq_true rfl⟩ hP hD hS hA hE [0, 1] rfl (by decide) 0 rfl rfl rfl hl.1 rfl (Nat.le_of_ble_eq_true rfl) dX12_needsSign_22 ⟨Nat.le_of_ble_eq_true rfl, Nat.le_of_ble_eq_true rfl⟩) hP hD hS hA [0, 1] [] [0, 1] rfl rfl (by decide) (by decide) rfl (by decide) (fun H locs hP hD hS => ?_)
    exact B_25 _ _ _ _ hf hP hD hS (lv_sub hl [] rfl)
  have B_16 : ∀ (z0 : MOT) (H : Heap) (locs : List Loc) (ls : Array Slot), f_X12_needsSign_b16 y_tape z0 = some (u0) → va_P D vwCl (w_MO dA a q0 q1 (ta 0) g3 g4 g5 g6 g7 g8 g9 g10 g11 g12 g13 g14 g15 g16 g17 g18 z0 ++ (w_Tape dA ta y_tape)) H → va_D A (w_MO dA a q0 q1 (ta 0) g3 g4 g5 g6 g7 g8 g9 g10 g11 g12 g13 g14 g15 g16 g17 g18 z0 ++ (w_Tape dA ta y_tape)) → va_S A s.heap H locs → lv_has ls 2 [(0, .ref (a 0))] → W p l e ({ frames := 2, cells := 0, slots := 0, locals := 43 } : Room) s m ([.ref (a 0), .int x0] : List Value).toArray below meth c H locs 0 0 Q (F0 m 16 ls []) := by
    intro z0 H locs ls hf hP hD hS hl
    rw [f_X12_needsSign_b16] at hf
    refine lv_aload_n hx hb dX12_needsSign_16 rfl (lv_at hl 0 rfl) ?_
    refine lv_iconst (v := (1 : Int32)) hx hb dX12_needsSign_17 (by decide) ?_
    obtain ⟨r2, hc2, hf⟩ := kb_bind hf
    refine kb_cv (ws2 := (w_MO dA a q0 q1 (ta 0) g3 g4 g5 g6 g7 g8 g9 g10 g11 g12 g13 g14 g15 g16 g17 g18 r2 ++ (w_Tape dA ta y_tape))) (kb_rV (n := 1) (As := [.int (1 : Int32)]) (rest := []) hx hb hml hown hK (c_X12_wrong l D dA H.size a q0 q1 (ta 0) g3 g4 g5 g6 g7 g8 g9 g10 g11 g12 g13 g14 g15 g16 g17 g18 z0 (1 : Int32) r2 hc2) ⟨ww_6_226, ww_6_223, ww_6_225, ws_53, ww_1_12, rfl, by decide, by decide⟩ rfl rfl (by decide +kernel) ⟨Nat.le_of_ble_eq_true rfl, Nat.le_of_ble_eq_true rfl⟩ hP hD hS hA hE [0] rfl (by decide) 0 rfl rfl rfl hl.1 rfl (Nat.le_of_ble_eq_true rfl) dX12_needsSign_18 ⟨Nat.le_of_ble_eq_true rfl, Nat.le_of_ble_eq_true rfl⟩) hP hD hS hA [0] [1] [1, 0] rfl rfl (by decide) (by decide) rfl (by decide) (fun H locs hP hD hS => ?_)
    exact B_21 _ _ _ _ hf hP hD hS (lv_sub hl [0] rfl)
  have E0 : ∀ (H : Heap) (locs : List Loc), va_P D vwCl (w_MO dA a q0 q1 (ta 0) g3 g4 g5 g6 g7 g8 g9 g10 g11 g12 g13 g14 g15 g16 g17 g18 mo ++ (w_Tape dA ta y_tape)) H → va_D A (w_MO dA a q0 q1 (ta 0) g3 g4 g5 g6 g7 g8 g9 g10 g11 g12 g13 g14 g15 g16 g17 g18 mo ++ (w_Tape dA ta y_tape)) → va_S A s.heap H locs → W p l e ({ frames := 2, cells := 0, slots := 0, locals := 43 } : Room) s m ([.ref (a 0), .int x0] : List Value).toArray below meth c H locs 0 0 Q (F0 m 0 ls []) := by
    intro H locs hP hD hS
    rw [f_X12_needsSign] at hf
    refine lv_aload_n hx hb dX12_needsSign_0 rfl (lv_at hl 0 rfl) ?_
    refine va_get (D := D) (ci := 12) (v := .int (mo_sort mo)) (C := RX12) (T := TX12) (N := 35) hx hb hts kb_inX12 hown hK.1 hP 0 rfl rfl 9 (by decide) (hK.2.w ww_5_209 rfl _) (fun _ h9 => h9) rfl dX12_needsSign_1 ?_
    refine lv_iconst (v := (4 : Int32)) hx hb dX12_needsSign_4 (by decide) ?_
    refine lv_icmp_ne (tgt := 16) hx hb dX12_needsSign_5 (by decide) (fun c_1 => ?_) (fun c_1 => ?_)
    · rw [if_neg c_1] at hf
      exact B_16 _ _ _ _ hf hP hD hS (lv_sub hl [0] rfl)
    · rw [if_pos c_1] at hf
      refine lv_aload_n hx hb dX12_needsSign_8 rfl (lv_at hl 0 rfl) ?_
      refine va_get (D := D) (ci := 12) (v := .int (mo_sign mo)) (C := RX12) (T := TX12) (N := 35) hx hb hts kb_inX12 hown hK.1 hP 0 rfl rfl 11 (by decide) (hK.2.w ww_5_211 rfl _) (fun _ h9 => h9) rfl dX12_needsSign_9 ?_
      refine lv_iload_n hx hb dX12_needsSign_12 rfl (lv_at hl 1 rfl) ?_
      refine lv_icmp_eq (tgt := 21) hx hb dX12_needsSign_13 (by decide) (fun c_4 => ?_) (fun c_4 => ?_)
      · rw [if_pos c_4] at hf
        exact B_21 _ _ _ _ hf hP hD hS (lv_sub hl [0] rfl)
      · rw [if_neg c_4] at hf
        exact B_16 _ _ _ _ hf hP hD hS (lv_sub hl [0] rfl)
  exact E0 _ _ hP hD hS

noncomputable def f_X12_readWhole_b42 (y_tape : TapeT) (v3 : Int32) (z0 : MOT) : Option (Int32 × MOT) := some (v3, z0)
noncomputable def f_X12_readWhole_b33 (y_tape : TapeT) (z0 : MOT) : Option (Int32 × MOT) := (f_X12_goesOn z0 y_tape).bind fun r4 => f_X12_readWhole_b42 y_tape (mo_number z0) r4
noncomputable def f_X12_readWhole_b13 (y_tape : TapeT) (z0 : MOT) : Option (Int32 × MOT) := f_X12_readWhole_b33 y_tape z0
noncomputable def f_X12_readWhole (mo : MOT) (y_tape : TapeT) (x0 : Int32) (x1 : Int32) : Option (Int32 × MOT) := (if (mo_sort mo) = (3 : Int32) then (f_X12_in (mo_number mo) x0 x1).bind fun r2 => (if r2 = 0 then (f_X12_wrong mo (4 : Int32)).bind fun r5 => f_X12_readWhole_b33 y_tape r5 else f_X12_readWhole_b33 y_tape mo) else (f_X12_wrong mo (1 : Int32)).bind fun r6 => f_X12_readWhole_b13 y_tape r6)
set_option maxHeartbeats 4000000 in
set_option maxRecDepth 100000 in
theorem c_X12_readWhole (l : Launch) (D : va_G) (dA : Nat → ClassId) (sz : Nat) (a : Nat → Nat) (ta : Nat → Nat) (q0 : Option Nat) (q1 : Option Nat) (g3 : Nat) (g4 : Nat) (g5 : Nat) (g6 : Nat) (g7 : Nat) (g8 : Nat) (g9 : Nat) (g10 : Nat) (g11 : Nat) (g12 : Nat) (g13 : Nat) (g14 : Nat) (g15 : Nat) (g16 : Nat) (g17 : Nat) (g18 : Nat) (mo : MOT) (y_tape : TapeT) (x0 : Int32) (x1 : Int32) (rv : Int32) (u0 : MOT) (hf : f_X12_readWhole mo y_tape x0 x1 = some (rv, u0)) : kb_Mi l yX12_readWhole cX12_readWhole 4 (some .int) ({ frames := 2, cells := 0, slots := 0, locals := 43 } : Room) D dA [.ref (a 0), .int x0, .int x1] sz (w_MO dA a q0 q1 (ta 0) g3 g4 g5 g6 g7 g8 g9 g10 g11 g12 g13 g14 g15 g16 g17 g18 mo ++ (w_Tape dA ta y_tape)) 0 0 rv (w_MO dA a q0 q1 (ta 0) g3 g4 g5 g6 g7 g8 g9 g10 g11 g12 g13 g14 g15 g16 g17 g18 u0 ++ (w_Tape dA ta y_tape)) := by
  refine Met.ofW (cc := cX12_readWhole) (maxL := 4) (ret := (some .int)) (by decide) rfl ?_
  intro p e s m args below meth c s₁ B hml hv
  obtain ⟨rfl, hsz, hP, hK, hD0, hE⟩ := hv
  have hx := B.exec
  have hb := B.bytes
  have hr := B.returns
  have hown : s.vm.findClass RX12 = some m.cls := findClass_of_methodNamed B.named
  have hlocks := B.notSynchronized
  have hts : ∀ w ∈ kb_gw, w.before ([.ref (a 0), .int x0, .int x1] : List Value).toArray s = true := fun w hw => hK.2.1 w hw _
  subst hsz
  have hD := hD0.self (sz := s.heap.size)
  generalize hAe : va_A (w_MO dA a q0 q1 (ta 0) g3 g4 g5 g6 g7 g8 g9 g10 g11 g12 g13 g14 g15 g16 g17 g18 mo ++ (w_Tape dA ta y_tape)) s.heap.size = A at hD hE ⊢
  have hA : ∀ q : Nat, s.heap.size ≤ q → A q := fun q h => by rw [← hAe]; exact Or.inr h
  have hS : va_S A s.heap s.heap [] := va_S.rf
  have hl := lv_entry ([.ref (a 0), .int x0, .int x1]) (n := 4) (Nat.le_of_ble_eq_true rfl)
  rw [lg_entry_eq]
  generalize (lg_sl ([.ref (a 0), .int x0, .int x1]) ++ List.replicate (4 - (lg_sl ([.ref (a 0), .int x0, .int x1])).length) Slot.unset).toArray = ls at hl ⊢
  have hl : lv_has ls 4 [(0, .ref (a 0)), (1, .int x0), (2, .int x1)] := hl
  generalize hQ : MQ below (va_Qi (fun r (_ : Unit) => r = rv) (kb_B D A (w_MO dA a q0 q1 (ta 0) g3 g4 g5 g6 g7 g8 g9 g10 g11 g12 g13 g14 g15 g16 g17 g18 u0 ++ (w_Tape dA ta y_tape))) A) ([.ref (a 0), .int x0, .int x1] : List Value).toArray s 0 0 A = Q
  show W p l e ({ frames := 2, cells := 0, slots := 0, locals := 43 } : Room) s m ([.ref (a 0), .int x0, .int x1] : List Value).toArray below meth c s.heap [] 0 0 Q (F0 m 0 ls [])
  have RET : ∀ (r2 : Int32) (w0 : MOT) (H : Heap) (locs : List Loc) (ls : Array Slot) (pc : Nat), some (r2, w0) = some (rv, u0) → va_P D vwCl (w_MO dA a q0 q1 (ta 0) g3 g4 g5 g6 g7 g8 g9 g10 g11 g12 g13 g14 g15 g16 g17 g18 w0 ++ (w_Tape dA ta y_tape)) H → va_D A (w_MO dA a q0 q1 (ta 0) g3 g4 g5 g6 g7 g8 g9 g10 g11 g12 g13 g14 g15 g16 g17 g18 w0 ++ (w_Tape dA ta y_tape)) → va_S A s.heap H locs → decode cX12_readWhole pc = .ok (.ireturn, 1) → W p l e ({ frames := 2, cells := 0, slots := 0, locals := 43 } : Room) s m ([.ref (a 0), .int x0, .int x1] : List Value).toArray below meth c H locs 0 0 Q (F0 m pc ls [.int r2]) := by
    intro r2 w0 H locs ls pc hq hP hD hS hd
    cases hq
    rw [← hQ]
    exact W.iret hx hb hr (fun t ht hW => ⟨⟨_, (), rfl, rfl, by rw [ht]; exact hP, hD⟩, hS.F ht⟩) hS.2.2 hd
  have B_42 : ∀ (v3 : Int32) (z0 : MOT) (H : Heap) (locs : List Loc) (ls : Array Slot), f_X12_readWhole_b42 y_tape v3 z0 = some (rv, u0) → va_P D vwCl (w_MO dA a q0 q1 (ta 0) g3 g4 g5 g6 g7 g8 g9 g10 g11 g12 g13 g14 g15 g16 g17 g18 z0 ++ (w_Tape dA ta y_tape)) H → va_D A (w_MO dA a q0 q1 (ta 0) g3 g4 g5 g6 g7 g8 g9 g10 g11 g12 g13 g14 g15 g16 g17 g18 z0 ++ (w_Tape dA ta y_tape)) → va_S A s.heap H locs → lv_has ls 4 [(3, .int v3)] → W p l e ({ frames := 2, cells := 0, slots := 0, locals := 43 } : Room) s m ([.ref (a 0), .int x0, .int x1] : List Value).toArray below meth c H locs 0 0 Q (F0 m 42 ls []) := by
    intro v3 z0 H locs ls hf hP hD hS hl
    rw [f_X12_readWhole_b42] at hf
    refine lv_iload_n hx hb dX12_readWhole_42 rfl (lv_at hl 0 rfl) ?_
    exact RET _ _ H _ ls 43 hf hP hD hS dX12_readWhole_43
  have B_33 : ∀ (z0 : MOT) (H : Heap) (locs : List Loc) (ls : Array Slot), f_X12_readWhole_b33 y_tape z0 = some (rv, u0) → va_P D vwCl (w_MO dA a q0 q1 (ta 0) g3 g4 g5 g6 g7 g8 g9 g10 g11 g12 g13 g14 g15 g16 g17 g18 z0 ++ (w_Tape dA ta y_tape)) H → va_D A (w_MO dA a q0 q1 (ta 0) g3 g4 g5 g6 g7 g8 g9 g10 g11 g12 g13 g14 g15 g16 g17 g18 z0 ++ (w_Tape dA ta y_tape)) → va_S A s.heap H locs → lv_has ls 4 [(0, .ref (a 0))] → W p l e ({ frames := 2, cells := 0, slots := 0, locals := 43 } : Room) s m ([.ref (a 0), .int x0, .int x1] : List Value).toArray below meth c H locs 0 0 Q (F0 m 33 ls []) := by
    intro z0 H locs ls hf hP hD hS hl
    rw [f_X12_readWhole_b33] at hf
    refine lv_aload_n hx hb dX12_readWhole_33 rfl (lv_at hl 0 rfl) ?_
    refine va_get (D := D) (ci := 12) (v := .int (mo_number z0)) (C := RX12) (T := TX12) (N := 35) hx hb hts kb_inX12 hown hK.1 hP 0 rfl rfl 12 (by decide) (hK.2.w ww_5_212 rfl _) (fun _ h9 => h9) rfl dX12_readWhole_34 ?_
    refine lv_istore_n (lv' := [(3, .int (mo_number z0)), (0, .ref (a 0))]) hx hb dX12_readWhole_37 rfl hl (by decide) rfl (fun ls hl => ?_)
    refine lv_aload_n hx hb dX12_readWhole_38 rfl (lv_at hl 1 rfl) ?_
    obtain ⟨r4, hc4, hf⟩ := kb_bind hf
    refine kb_cv (ws2 := (w_MO dA a q0 q1 (ta 0) g3 g4 g5 g6 g7 g8 g9 g10 g11 g12 g13 g14 g15 g16 g17 g18 r4 ++ (w_Tape dA ta y_tape))) (kb_rV (n := 0) (As := []) (rest := []) hx hb hml hown hK (c_X12_goesOn l D dA H.size a ta q0 q1 g3 g4 g5 g6 g7 g8 g9 g10 g11 g12 g13 g14 g15 g16 g17 g18 z0 y_tape r4 hc4) ⟨ww_6_189, ww_6_186, ww_6_188, ws_47, ww_1_12, rfl, by decide, by decide⟩ rfl rfl (by decide +kernel) ⟨Nat.le_of_ble_eq_true rfl, Nat.le_of_ble_eq_true rfl⟩ hP hD hS hA hE [0, 1] rfl (by decide) 0 rfl rfl rfl hl.1 rfl (Nat.le_of_ble_eq_true rfl) dX12_readWhole_39 ⟨Nat.le_of_ble_eq_true rfl, Nat.le_of_ble_eq_true rfl⟩) hP hD hS hA [0, 1] [] [0, 1] rfl rfl (by decide) (by decide) rfl (by decide) (fun H locs hP hD hS => ?_)
    exact B_42 _ _ _ _ _ hf hP hD hS (lv_sub hl [0] rfl)
  have B_13 : ∀ (z0 : MOT) (H : Heap) (locs : List Loc) (ls : Array Slot), f_X12_readWhole_b13 y_tape z0 = some (rv, u0) → va_P D vwCl (w_MO dA a q0 q1 (ta 0) g3 g4 g5 g6 g7 g8 g9 g10 g11 g12 g13 g14 g15 g16 g17 g18 z0 ++ (w_Tape dA ta y_tape)) H → va_D A (w_MO dA a q0 q1 (ta 0) g3 g4 g5 g6 g7 g8 g9 g10 g11 g12 g13 g14 g15 g16 g17 g18 z0 ++ (w_Tape dA ta y_tape)) → va_S A s.heap H locs → lv_has ls 4 [(0, .ref (a 0))] → W p l e ({ frames := 2, cells := 0, slots := 0, locals := 43 } : Room) s m ([.ref (a 0), .int x0, .int x1] : List Value).toArray below meth c H locs 0 0 Q (F0 m 13 ls []) := by
    intro z0 H locs ls hf hP hD hS hl
    rw [f_X12_readWhole_b13] at hf
    refine lv_goto (tgt := 33) hx hb dX12_readWhole_13 (by decide) ?_
    exact B_33 _ _ _ _ hf hP hD hS (lv_sub hl [0] rfl)
  have E0 : ∀ (H : Heap) (locs : List Loc), va_P D vwCl (w_MO dA a q0 q1 (ta 0) g3 g4 g5 g6 g7 g8 g9 g10 g11 g12 g13 g14 g15 g16 g17 g18 mo ++ (w_Tape dA ta y_tape)) H → va_D A (w_MO dA a q0 q1 (ta 0) g3 g4 g5 g6 g7 g8 g9 g10 g11 g12 g13 g14 g15 g16 g17 g18 mo ++ (w_Tape dA ta y_tape)) → va_S A s.heap H locs → W p l e ({ frames := 2, cells := 0, slots := 0, locals := 43 } : Room) s m ([.ref (a 0), .int x0, .int x1] : List Value).toArray below meth c H locs 0 0 Q (F0 m 0 ls []) := by
    intro H locs hP hD hS
    rw [f_X12_readWhole] at hf
    refine lv_aload_n hx hb dX12_readWhole_0 rfl (lv_at hl 0 rfl) ?_
    refine va_get (D := D) (ci := 12) (v := .int (mo_sort mo)) (C := RX12) (T := TX12) (N := 35) hx hb hts kb_inX12 hown hK.1 hP 0 rfl rfl 9 (by decide) (hK.2.w ww_5_209 rfl _) (fun _ h9 => h9) rfl dX12_readWhole_1 ?_
    refine lv_iconst (v := (3 : Int32)) hx hb dX12_readWhole_4 (by decide) ?_
    refine lv_icmp_eq (tgt := 16) hx hb dX12_readWhole_5 (by decide) (fun c_1 => ?_) (fun c_1 => ?_)
    · rw [if_pos c_1] at hf
      refine lv_aload_n hx hb dX12_readWhole_16 rfl (lv_at hl 0 rfl) ?_
      refine va_get (D := D) (ci := 12) (v := .int (mo_number mo)) (C := RX12) (T := TX12) (N := 35) hx hb hts kb_inX12 hown hK.1 hP 0 rfl rfl 12 (by decide) (hK.2.w ww_5_212 rfl _) (fun _ h9 => h9) rfl dX12_readWhole_17 ?_
      refine lv_iload_n hx hb dX12_readWhole_20 rfl (lv_at hl 1 rfl) ?_
      refine lv_iload_n hx hb dX12_readWhole_21 rfl (lv_at hl 2 rfl) ?_
      obtain ⟨r2, hc2, hf⟩ := kb_bind hf
      refine kb_ci (ws2 := (w_MO dA a q0 q1 (ta 0) g3 g4 g5 g6 g7 g8 g9 g10 g11 g12 g13 g14 g15 g16 g17 g18 mo ++ (w_Tape dA ta y_tape))) (kb_rS (n := 3) (As := [.int (mo_number mo), .int x0, .int x1]) (rest := []) hx hb hml hown hK (c_X12_in l D dA H.size (mo_number mo) x0 x1 r2 hc2) ⟨ww_7_2, ww_7_0, ww_7_1, ww_1_12, by decide, by decide⟩ rfl rfl (by decide +kernel) ⟨Nat.le_of_ble_eq_true rfl, Nat.le_of_ble_eq_true rfl⟩ hP hD hS hA hE [] rfl (by decide) rfl hl.1 rfl (Nat.le_of_ble_eq_true rfl) dX12_readWhole_22 ⟨Nat.le_of_ble_eq_true rfl, Nat.le_of_ble_eq_true rfl⟩) hP hD hS hA [] [0, 1] [0, 1] rfl rfl (by decide) (by decide) rfl (by decide) (fun H locs hP hD hS => ?_)
      refine lv_if_ne (tgt := 33) hx hb dX12_readWhole_25 (by decide) (fun c_3 => ?_) (fun c_3 => ?_)
      · rw [if_neg c_3] at hf
        exact B_33 _ _ _ _ hf hP hD hS (lv_sub hl [0] rfl)
      · rw [if_pos c_3] at hf
        refine lv_aload_n hx hb dX12_readWhole_28 rfl (lv_at hl 0 rfl) ?_
        refine lv_iconst (v := (4 : Int32)) hx hb dX12_readWhole_29 (by decide) ?_
        obtain ⟨r5, hc5, hf⟩ := kb_bind hf
        refine kb_cv (ws2 := (w_MO dA a q0 q1 (ta 0) g3 g4 g5 g6 g7 g8 g9 g10 g11 g12 g13 g14 g15 g16 g17 g18 r5 ++ (w_Tape dA ta y_tape))) (kb_rV (n := 1) (As := [.int (4 : Int32)]) (rest := []) hx hb hml hown hK (c_X12_wrong l D dA H.size a q0 q1 (ta 0) g3 g4 g5 g6 g7 g8 g9 g10 g11 g12 g13 g14 g15 g16 g17 g18 mo (4 : Int32) r5 hc5) ⟨ww_6_226, ww_6_223, ww_6_225, ws_53, ww_1_12, rfl, by decide, by decide⟩ rfl rfl (by decide +kernel) ⟨Nat.le_of_ble_eq_true rfl, Nat.le_of_ble_eq_true rfl⟩ hP hD hS hA hE [0] rfl (by decide) 0 rfl rfl rfl hl.1 rfl (Nat.le_of_ble_eq_true rfl) dX12_readWhole_30 ⟨Nat.le_of_ble_eq_true rfl, Nat.le_of_ble_eq_true rfl⟩) hP hD hS hA [0] [1] [1, 0] rfl rfl (by decide) (by decide) rfl (by decide) (fun H locs hP hD hS => ?_)
        exact B_33 _ _ _ _ hf hP hD hS (lv_sub hl [0] rfl)
    · rw [if_neg c_1] at hf
      refine lv_aload_n hx hb dX12_readWhole_8 rfl (lv_at hl 0 rfl) ?_
      refine lv_iconst (v := (1 : Int32)) hx hb dX12_readWhole_9 (by decide) ?_
      obtain ⟨r6, hc6, hf⟩ := kb_bind hf
      refine kb_cv (ws2 := (w_MO dA a q0 q1 (ta 0) g3 g4 g5 g6 g7 g8 g9 g10 g11 g12 g13 g14 g15 g16 g17 g18 r6 ++ (w_Tape dA ta y_tape))) (kb_rV (n := 1) (As := [.int (1 : Int32)]) (rest := []) hx hb hml hown hK (c_X12_wrong l D dA H.size a q0 q1 (ta 0) g3 g4 g5 g6 g7 g8 g9 g10 g11 g12 g13 g14 g15 g16 g17 g18 mo (1 : Int32) r6 hc6) ⟨ww_6_226, ww_6_223, ww_6_225, ws_53, ww_1_12, rfl, by decide, by decide⟩ rfl rfl (by decide +kernel) ⟨Nat.le_of_ble_eq_true rfl, Nat.le_of_ble_eq_true rfl⟩ hP hD hS hA hE [0] rfl (by decide) 0 rfl rfl rfl hl.1 rfl (Nat.le_of_ble_eq_true rfl) dX12_readWhole_10 ⟨Nat.le_of_ble_eq_true rfl, Nat.le_of_ble_eq_true rfl⟩) hP hD hS hA [0] [1] [1, 0] rfl rfl (by decide) (by decide) rfl (by decide) (fun H locs hP hD hS => ?_)
      exact B_13 _ _ _ _ hf hP hD hS (lv_sub hl [0] rfl)
  exact E0 _ _ hP hD hS

noncomputable def f_X12_readPart_b5 (y_tape : TapeT) (v2 : Int32) (v3 : Int32) (z0 : MOT) : Option (Int32 × MOT) := (f_X12_readWhole z0 y_tape v2 v3).bind fun r2 => some (r2.1, r2.2)
noncomputable def f_X12_readPart (mo : MOT) (y_tape : TapeT) (ix0 : Nat) (x1 : Int32) (x2 : Int32) : Option (Int32 × MOT) := (f_X12_needs mo y_tape ix0).bind fun r1 => f_X12_readPart_b5 y_tape x1 x2 r1
set_option maxHeartbeats 4000000 in
set_option maxRecDepth 100000 in
theorem c_X12_readPart (l : Launch) (D : va_G) (dA : Nat → ClassId) (sz : Nat) (a : Nat → Nat) (ta : Nat → Nat) (q0 : Option Nat) (q1 : Option Nat) (g3 : Nat) (g4 : Nat) (g5 : Nat) (g6 : Nat) (g7 : Nat) (g8 : Nat) (g9 : Nat) (g10 : Nat) (g11 : Nat) (g12 : Nat) (g13 : Nat) (g14 : Nat) (g15 : Nat) (g16 : Nat) (g17 : Nat) (g18 : Nat) (mo : MOT) (y_tape : TapeT) (ix0 : Nat) (hix0 : ix0 < kb_N) (x1 : Int32) (x2 : Int32) (rv : Int32) (u0 : MOT) (hf : f_X12_readPart mo y_tape ix0 x1 x2 = some (rv, u0)) : kb_Mi l yX12_readPart cX12_readPart 4 (some .int) ({ frames := 7, cells := 0, slots := 0, locals := 150 } : Room) D dA [.ref (a 0), .ref (dA (100 + ix0)), .int x1, .int x2] sz (w_MO dA a q0 q1 (ta 0) g3 g4 g5 g6 g7 g8 g9 g10 g11 g12 g13 g14 g15 g16 g17 g18 mo ++ (w_Tape dA ta y_tape)) 0 0 rv (w_MO dA a q0 q1 (ta 0) g3 g4 g5 g6 g7 g8 g9 g10 g11 g12 g13 g14 g15 g16 g17 g18 u0 ++ (w_Tape dA ta y_tape)) := by
  refine Met.ofW (cc := cX12_readPart) (maxL := 4) (ret := (some .int)) (by decide) rfl ?_
  intro p e s m args below meth c s₁ B hml hv
  obtain ⟨rfl, hsz, hP, hK, hD0, hE⟩ := hv
  have hx := B.exec
  have hb := B.bytes
  have hr := B.returns
  have hown : s.vm.findClass RX12 = some m.cls := findClass_of_methodNamed B.named
  have hlocks := B.notSynchronized
  have hts : ∀ w ∈ kb_gw, w.before ([.ref (a 0), .ref (dA (100 + ix0)), .int x1, .int x2] : List Value).toArray s = true := fun w hw => hK.2.1 w hw _
  subst hsz
  have hD := hD0.self (sz := s.heap.size)
  generalize hAe : va_A (w_MO dA a q0 q1 (ta 0) g3 g4 g5 g6 g7 g8 g9 g10 g11 g12 g13 g14 g15 g16 g17 g18 mo ++ (w_Tape dA ta y_tape)) s.heap.size = A at hD hE ⊢
  have hA : ∀ q : Nat, s.heap.size ≤ q → A q := fun q h => by rw [← hAe]; exact Or.inr h
  have hS : va_S A s.heap s.heap [] := va_S.rf
  have hl := lv_entry ([.ref (a 0), .ref (dA (100 + ix0)), .int x1, .int x2]) (n := 4) (Nat.le_of_ble_eq_true rfl)
  rw [lg_entry_eq]
  generalize (lg_sl ([.ref (a 0), .ref (dA (100 + ix0)), .int x1, .int x2]) ++ List.replicate (4 - (lg_sl ([.ref (a 0), .ref (dA (100 + ix0)), .int x1, .int x2])).length) Slot.unset).toArray = ls at hl ⊢
  have hl : lv_has ls 4 [(0, .ref (a 0)), (1, .ref (dA (100 + ix0))), (2, .int x1), (3, .int x2)] := hl
  generalize hQ : MQ below (va_Qi (fun r (_ : Unit) => r = rv) (kb_B D A (w_MO dA a q0 q1 (ta 0) g3 g4 g5 g6 g7 g8 g9 g10 g11 g12 g13 g14 g15 g16 g17 g18 u0 ++ (w_Tape dA ta y_tape))) A) ([.ref (a 0), .ref (dA (100 + ix0)), .int x1, .int x2] : List Value).toArray s 0 0 A = Q
  show W p l e ({ frames := 7, cells := 0, slots := 0, locals := 150 } : Room) s m ([.ref (a 0), .ref (dA (100 + ix0)), .int x1, .int x2] : List Value).toArray below meth c s.heap [] 0 0 Q (F0 m 0 ls [])
  have RET : ∀ (r2 : Int32) (w0 : MOT) (H : Heap) (locs : List Loc) (ls : Array Slot) (pc : Nat), some (r2, w0) = some (rv, u0) → va_P D vwCl (w_MO dA a q0 q1 (ta 0) g3 g4 g5 g6 g7 g8 g9 g10 g11 g12 g13 g14 g15 g16 g17 g18 w0 ++ (w_Tape dA ta y_tape)) H → va_D A (w_MO dA a q0 q1 (ta 0) g3 g4 g5 g6 g7 g8 g9 g10 g11 g12 g13 g14 g15 g16 g17 g18 w0 ++ (w_Tape dA ta y_tape)) → va_S A s.heap H locs → decode cX12_readPart pc = .ok (.ireturn, 1) → W p l e ({ frames := 7, cells := 0, slots := 0, locals := 150 } : Room) s m ([.ref (a 0), .ref (dA (100 + ix0)), .int x1, .int x2] : List Value).toArray below meth c H locs 0 0 Q (F0 m pc ls [.int r2]) := by
    intro r2 w0 H locs ls pc hq hP hD hS hd
    cases hq
    rw [← hQ]
    exact W.iret hx hb hr (fun t ht hW => ⟨⟨_, (), rfl, rfl, by rw [ht]; exact hP, hD⟩, hS.F ht⟩) hS.2.2 hd
  have B_5 : ∀ (v2 : Int32) (v3 : Int32) (z0 : MOT) (H : Heap) (locs : List Loc) (ls : Array Slot), f_X12_readPart_b5 y_tape v2 v3 z0 = some (rv, u0) → va_P D vwCl (w_MO dA a q0 q1 (ta 0) g3 g4 g5 g6 g7 g8 g9 g10 g11 g12 g13 g14 g15 g16 g17 g18 z0 ++ (w_Tape dA ta y_tape)) H → va_D A (w_MO dA a q0 q1 (ta 0) g3 g4 g5 g6 g7 g8 g9 g10 g11 g12 g13 g14 g15 g16 g17 g18 z0 ++ (w_Tape dA ta y_tape)) → va_S A s.heap H locs → lv_has ls 4 [(0, .ref (a 0)), (2, .int v2), (3, .int v3)] → W p l e ({ frames := 7, cells := 0, slots := 0, locals := 150 } : Room) s m ([.ref (a 0), .ref (dA (100 + ix0)), .int x1, .int x2] : List Value).toArray below meth c H locs 0 0 Q (F0 m 5 ls []) := by
    intro v2 v3 z0 H locs ls hf hP hD hS hl
    rw [f_X12_readPart_b5] at hf
    refine lv_aload_n hx hb dX12_readPart_5 rfl (lv_at hl 0 rfl) ?_
    refine lv_iload_n hx hb dX12_readPart_6 rfl (lv_at hl 1 rfl) ?_
    refine lv_iload_n hx hb dX12_readPart_7 rfl (lv_at hl 2 rfl) ?_
    obtain ⟨r2, hc2, hf⟩ := kb_bind hf
    refine kb_ci (ws2 := (w_MO dA a q0 q1 (ta 0) g3 g4 g5 g6 g7 g8 g9 g10 g11 g12 g13 g14 g15 g16 g17 g18 r2.2 ++ (w_Tape dA ta y_tape))) (kb_rV (n := 2) (As := [.int v2, .int v3]) (rest := []) hx hb hml hown hK (c_X12_readWhole l D dA H.size a ta q0 q1 g3 g4 g5 g6 g7 g8 g9 g10 g11 g12 g13 g14 g15 g16 g17 g18 z0 y_tape v2 v3 r2.1 r2.2 hc2) ⟨ww_6_239, ww_6_236, ww_6_238, ws_56, ww_1_12, rfl, by decide, by decide⟩ rfl rfl (by decide +kernel) ⟨Nat.le_of_ble_eq_true rfl, Nat.le_of_ble_eq_true rfl⟩ hP hD hS hA hE [0, 1] rfl (by decide) 0 rfl rfl rfl hl.1 rfl (Nat.le_of_ble_eq_true rfl) dX12_readPart_8 ⟨Nat.le_of_ble_eq_true rfl, Nat.le_of_ble_eq_true rfl⟩) hP hD hS hA [0, 1] [] [0, 1] rfl rfl (by decide) (by decide) rfl (by decide) (fun H locs hP hD hS => ?_)
    exact RET _ _ H _ ls 11 hf hP hD hS dX12_readPart_11
  have E0 : ∀ (H : Heap) (locs : List Loc), va_P D vwCl (w_MO dA a q0 q1 (ta 0) g3 g4 g5 g6 g7 g8 g9 g10 g11 g12 g13 g14 g15 g16 g17 g18 mo ++ (w_Tape dA ta y_tape)) H → va_D A (w_MO dA a q0 q1 (ta 0) g3 g4 g5 g6 g7 g8 g9 g10 g11 g12 g13 g14 g15 g16 g17 g18 mo ++ (w_Tape dA ta y_tape)) → va_S A s.heap H locs → W p l e ({ frames := 7, cells := 0, slots := 0, locals := 150 } : Room) s m ([.ref (a 0), .ref (dA (100 + ix0)), .int x1, .int x2] : List Value).toArray below meth c H locs 0 0 Q (F0 m 0 ls []) := by
    intro H locs hP hD hS
    rw [f_X12_readPart] at hf
    refine lv_aload_n hx hb dX12_readPart_0 rfl (lv_at hl 0 rfl) ?_
    refine lv_aload_n hx hb dX12_readPart_1 rfl (lv_at hl 1 rfl) ?_
    obtain ⟨r1, hc1, hf⟩ := kb_bind hf
    refine kb_cv (ws2 := (w_MO dA a q0 q1 (ta 0) g3 g4 g5 g6 g7 g8 g9 g10 g11 g12 g13 g14 g15 g16 g17 g18 r1 ++ (w_Tape dA ta y_tape))) (kb_rV (n := 1) (As := [.ref (dA (100 + ix0))]) (rest := []) hx hb hml hown hK (c_X12_needs l D dA H.size a ta q0 q1 g3 g4 g5 g6 g7 g8 g9 g10 g11 g12 g13 g14 g15 g16 g17 g18 mo y_tape ix0 hix0 r1 hc1) ⟨ww_6_235, ww_6_232, ww_6_234, ws_55, ww_1_12, rfl, by decide, by decide⟩ rfl rfl (by decide +kernel) ⟨Nat.le_of_ble_eq_true rfl, Nat.le_of_ble_eq_true rfl⟩ hP hD hS hA hE [0, 1] rfl (by decide) 0 rfl rfl rfl hl.1 rfl (Nat.le_of_ble_eq_true rfl) dX12_readPart_2 ⟨Nat.le_of_ble_eq_true rfl, Nat.le_of_ble_eq_true rfl⟩) hP hD hS hA [0, 1] [] [0, 1] rfl rfl (by decide) (by decide) rfl (by decide) (fun H locs hP hD hS => ?_)
    exact B_5 _ _ _ _ _ _ hf hP hD hS (lv_sub hl [0, 2, 3] rfl)
  exact E0 _ _ hP hD hS

noncomputable def f_X12_wayNow (mo : MOT) : Option (Int32) := (f_X12_isWord mo 11).bind fun r1 => (if r1 = 0 then (f_X12_isWord mo 12).bind fun r3 => (if r3 = 0 then (f_X12_isWord mo 13).bind fun r5 => (if r5 = 0 then (f_X12_isWord mo 14).bind fun r7 => (if r7 = 0 then (f_X12_isWord mo 15).bind fun r9 => (if r9 = 0 then (f_X12_isWord mo 16).bind fun r11 => (if r11 = 0 then (f_X12_isWord mo 17).bind fun r13 => (if r13 = 0 then (f_X12_isWord mo 18).bind fun r15 => (if r15 = 0 then (f_X12_isWord mo 19).bind fun r17 => (if r17 = 0 then some ((-1 : Int32)) else some ((8 : Int32))) else some ((7 : Int32))) else some ((6 : Int32))) else some ((5 : Int32))) else some ((4 : Int32))) else some ((3 : Int32))) else some ((2 : Int32))) else some ((1 : Int32))) else some ((0 : Int32)))
set_option maxHeartbeats 4000000 in
set_option maxRecDepth 100000 in
theorem c_X12_wayNow (l : Launch) (D : va_G) (dA : Nat → ClassId) (sz : Nat) (a : Nat → Nat) (q0 : Option Nat) (q1 : Option Nat) (g2 : Nat) (g3 : Nat) (g4 : Nat) (g5 : Nat) (g6 : Nat) (g7 : Nat) (g8 : Nat) (g9 : Nat) (g10 : Nat) (g11 : Nat) (g12 : Nat) (g13 : Nat) (g14 : Nat) (g15 : Nat) (g16 : Nat) (g17 : Nat) (g18 : Nat) (mo : MOT) (rv : Int32) (hf : f_X12_wayNow mo = some (rv)) : kb_Mi l yX12_wayNow cX12_wayNow 1 (some .int) ({ frames := 6, cells := 0, slots := 0, locals := 129 } : Room) D dA [.ref (a 0)] sz (w_MO dA a q0 q1 g2 g3 g4 g5 g6 g7 g8 g9 g10 g11 g12 g13 g14 g15 g16 g17 g18 mo) 0 0 rv (w_MO dA a q0 q1 g2 g3 g4 g5 g6 g7 g8 g9 g10 g11 g12 g13 g14 g15 g16 g17 g18 mo) := by
  refine Met.ofW (cc := cX12_wayNow) (maxL := 1) (ret := (some .int)) (by decide) rfl ?_
  intro p e s m args below meth c s₁ B hml hv
  obtain ⟨rfl, hsz, hP, hK, hD0, hE⟩ := hv
  have hx := B.exec
  have hb := B.bytes
  have hr := B.returns
  have hown : s.vm.findClass RX12 = some m.cls := findClass_of_methodNamed B.named
  have hlocks := B.notSynchronized
  have hts : ∀ w ∈ kb_gw, w.before ([.ref (a 0)] : List Value).toArray s = true := fun w hw => hK.2.1 w hw _
  subst hsz
  have hD := hD0.self (sz := s.heap.size)
  generalize hAe : va_A (w_MO dA a q0 q1 g2 g3 g4 g5 g6 g7 g8 g9 g10 g11 g12 g13 g14 g15 g16 g17 g18 mo) s.heap.size = A at hD hE ⊢
  have hA : ∀ q : Nat, s.heap.size ≤ q → A q := fun q h => by rw [← hAe]; exact Or.inr h
  have hS : va_S A s.heap s.heap [] := va_S.rf
  have hl := lv_entry ([.ref (a 0)]) (n := 1) (Nat.le_of_ble_eq_true rfl)
  rw [lg_entry_eq]
  generalize (lg_sl ([.ref (a 0)]) ++ List.replicate (1 - (lg_sl ([.ref (a 0)])).length) Slot.unset).toArray = ls at hl ⊢
  have hl : lv_has ls 1 [(0, .ref (a 0))] := hl
  generalize hQ : MQ below (va_Qi (fun r (_ : Unit) => r = rv) (kb_B D A (w_MO dA a q0 q1 g2 g3 g4 g5 g6 g7 g8 g9 g10 g11 g12 g13 g14 g15 g16 g17 g18 mo)) A) ([.ref (a 0)] : List Value).toArray s 0 0 A = Q
  show W p l e ({ frames := 6, cells := 0, slots := 0, locals := 129 } : Room) s m ([.ref (a 0)] : List Value).toArray below meth c s.heap [] 0 0 Q (F0 m 0 ls [])
  have RET : ∀ (r2 : Int32) (H : Heap) (locs : List Loc) (ls : Array Slot) (pc : Nat), some (r2) = some (rv) → va_P D vwCl (w_MO dA a q0 q1 g2 g3 g4 g5 g6 g7 g8 g9 g10 g11 g12 g13 g14 g15 g16 g17 g18 mo) H → va_D A (w_MO dA a q0 q1 g2 g3 g4 g5 g6 g7 g8 g9 g10 g11 g12 g13 g14 g15 g16 g17 g18 mo) → va_S A s.heap H locs → decode cX12_wayNow pc = .ok (.ireturn, 1) → W p l e ({ frames := 6, cells := 0, slots := 0, locals := 129 } : Room) s m ([.ref (a 0)] : List Value).toArray below meth c H locs 0 0 Q (F0 m pc ls [.int r2]) := by
    intro r2 H locs ls pc hq hP hD hS hd
    cases hq
    rw [← hQ]
    exact W.iret hx hb hr (fun t ht hW => ⟨⟨_, (), rfl, rfl, by rw [ht]; exact hP, hD⟩, hS.F ht⟩) hS.2.2 hd
  have E0 : ∀ (H : Heap) (locs : List Loc), va_P D vwCl (w_MO dA a q0 q1 g2 g3 g4 g5 g6 g7 g8 g9 g10 g11 g12 g13 g14 g15 g16 g17 g18 mo) H → va_D A (w_MO dA a q0 q1 g2 g3 g4 g5 g6 g7 g8 g9 g10 g11 g12 g13 g14 g15 g16 g17 g18 mo) → va_S A s.heap H locs → W p l e ({ frames := 6, cells := 0, slots := 0, locals := 129 } : Room) s m ([.ref (a 0)] : List Value).toArray below meth c H locs 0 0 Q (F0 m 0 ls []) := by
    intro H locs hP hD hS
    rw [f_X12_wayNow] at hf
    refine lv_aload_n hx hb dX12_wayNow_0 rfl (lv_at hl 0 rfl) ?_
    refine va_ldcS (tx := "alone") (q := dA (100 + 11)) hx hb hown (hE.2.2.2 ("BusSeatsModel", 157, "alone", 11) (by decide)) dX12_wayNow_1 ?_
    obtain ⟨r1, hc1, hf⟩ := kb_bind hf
    refine kb_ci (ws2 := (w_MO dA a q0 q1 g2 g3 g4 g5 g6 g7 g8 g9 g10 g11 g12 g13 g14 g15 g16 g17 g18 mo)) (kb_rV (n := 1) (As := [.ref (dA (100 + 11))]) (rest := []) hx hb hml hown hK (c_X12_isWord l D dA H.size a q0 q1 g2 g3 g4 g5 g6 g7 g8 g9 g10 g11 g12 g13 g14 g15 g16 g17 g18 mo 11 (by decide) r1 hc1) ⟨ww_6_213, ww_6_210, ww_6_212, ws_51, ww_1_12, rfl, by decide, by decide⟩ rfl rfl (by decide +kernel) ⟨Nat.le_of_ble_eq_true rfl, Nat.le_of_ble_eq_true rfl⟩ hP hD hS hA hE [0] rfl (by decide) 0 rfl rfl rfl hl.1 rfl (Nat.le_of_ble_eq_true rfl) dX12_wayNow_3 ⟨Nat.le_of_ble_eq_true rfl, Nat.le_of_ble_eq_true rfl⟩) hP hD hS hA [0] [] [0] rfl rfl (by decide) (by decide) rfl (by decide) (fun H locs hP hD hS => ?_)
    refine lv_if_eq (tgt := 11) hx hb dX12_wayNow_6 (by decide) (fun c_2 => ?_) (fun c_2 => ?_)
    · rw [if_pos c_2] at hf
      refine lv_aload_n hx hb dX12_wayNow_11 rfl (lv_at hl 0 rfl) ?_
      refine va_ldcS (tx := "far") (q := dA (100 + 12)) hx hb hown (hE.2.2.2 ("BusSeatsModel", 159, "far", 12) (by decide)) dX12_wayNow_12 ?_
      obtain ⟨r3, hc3, hf⟩ := kb_bind hf
      refine kb_ci (ws2 := (w_MO dA a q0 q1 g2 g3 g4 g5 g6 g7 g8 g9 g10 g11 g12 g13 g14 g15 g16 g17 g18 mo)) (kb_rV (n := 1) (As := [.ref (dA (100 + 12))]) (rest := []) hx hb hml hown hK (c_X12_isWord l D dA H.size a q0 q1 g2 g3 g4 g5 g6 g7 g8 g9 g10 g11 g12 g13 g14 g15 g16 g17 g18 mo 12 (by decide) r3 hc3) ⟨ww_6_213, ww_6_210, ww_6_212, ws_51, ww_1_12, rfl, by decide, by decide⟩ rfl rfl (by decide +kernel) ⟨Nat.le_of_ble_eq_true rfl, Nat.le_of_ble_eq_true rfl⟩ hP hD hS hA hE [0] rfl (by decide) 0 rfl rfl rfl hl.1 rfl (Nat.le_of_ble_eq_true rfl) dX12_wayNow_14 ⟨Nat.le_of_ble_eq_true rfl, Nat.le_of_ble_eq_true rfl⟩) hP hD hS hA [0] [] [0] rfl rfl (by decide) (by decide) rfl (by decide) (fun H locs hP hD hS => ?_)
      refine lv_if_eq (tgt := 22) hx hb dX12_wayNow_17 (by decide) (fun c_4 => ?_) (fun c_4 => ?_)
      · rw [if_pos c_4] at hf
        refine lv_aload_n hx hb dX12_wayNow_22 rfl (lv_at hl 0 rfl) ?_
        refine va_ldcS (tx := "window") (q := dA (100 + 13)) hx hb hown (hE.2.2.2 ("BusSeatsModel", 161, "window", 13) (by decide)) dX12_wayNow_23 ?_
        obtain ⟨r5, hc5, hf⟩ := kb_bind hf
        refine kb_ci (ws2 := (w_MO dA a q0 q1 g2 g3 g4 g5 g6 g7 g8 g9 g10 g11 g12 g13 g14 g15 g16 g17 g18 mo)) (kb_rV (n := 1) (As := [.ref (dA (100 + 13))]) (rest := []) hx hb hml hown hK (c_X12_isWord l D dA H.size a q0 q1 g2 g3 g4 g5 g6 g7 g8 g9 g10 g11 g12 g13 g14 g15 g16 g17 g18 mo 13 (by decide) r5 hc5) ⟨ww_6_213, ww_6_210, ww_6_212, ws_51, ww_1_12, rfl, by decide, by decide⟩ rfl rfl (by decide +kernel) ⟨Nat.le_of_ble_eq_true rfl, Nat.le_of_ble_eq_true rfl⟩ hP hD hS hA hE [0] rfl (by decide) 0 rfl rfl rfl hl.1 rfl (Nat.le_of_ble_eq_true rfl) dX12_wayNow_25 ⟨Nat.le_of_ble_eq_true rfl, Nat.le_of_ble_eq_true rfl⟩) hP hD hS hA [0] [] [0] rfl rfl (by decide) (by decide) rfl (by decide) (fun H locs hP hD hS => ?_)
        refine lv_if_eq (tgt := 33) hx hb dX12_wayNow_28 (by decide) (fun c_6 => ?_) (fun c_6 => ?_)
        · rw [if_pos c_6] at hf
          refine lv_aload_n hx hb dX12_wayNow_33 rfl (lv_at hl 0 rfl) ?_
          refine va_ldcS (tx := "aisle") (q := dA (100 + 14)) hx hb hown (hE.2.2.2 ("BusSeatsModel", 163, "aisle", 14) (by decide)) dX12_wayNow_34 ?_
          obtain ⟨r7, hc7, hf⟩ := kb_bind hf
          refine kb_ci (ws2 := (w_MO dA a q0 q1 g2 g3 g4 g5 g6 g7 g8 g9 g10 g11 g12 g13 g14 g15 g16 g17 g18 mo)) (kb_rV (n := 1) (As := [.ref (dA (100 + 14))]) (rest := []) hx hb hml hown hK (c_X12_isWord l D dA H.size a q0 q1 g2 g3 g4 g5 g6 g7 g8 g9 g10 g11 g12 g13 g14 g15 g16 g17 g18 mo 14 (by decide) r7 hc7) ⟨ww_6_213, ww_6_210, ww_6_212, ws_51, ww_1_12, rfl, by decide, by decide⟩ rfl rfl (by decide +kernel) ⟨Nat.le_of_ble_eq_true rfl, Nat.le_of_ble_eq_true rfl⟩ hP hD hS hA hE [0] rfl (by decide) 0 rfl rfl rfl hl.1 rfl (Nat.le_of_ble_eq_true rfl) dX12_wayNow_36 ⟨Nat.le_of_ble_eq_true rfl, Nat.le_of_ble_eq_true rfl⟩) hP hD hS hA [0] [] [0] rfl rfl (by decide) (by decide) rfl (by decide) (fun H locs hP hD hS => ?_)
          refine lv_if_eq (tgt := 44) hx hb dX12_wayNow_39 (by decide) (fun c_8 => ?_) (fun c_8 => ?_)
          · rw [if_pos c_8] at hf
            refine lv_aload_n hx hb dX12_wayNow_44 rfl (lv_at hl 0 rfl) ?_
            refine va_ldcS (tx := "front") (q := dA (100 + 15)) hx hb hown (hE.2.2.2 ("BusSeatsModel", 165, "front", 15) (by decide)) dX12_wayNow_45 ?_
            obtain ⟨r9, hc9, hf⟩ := kb_bind hf
            refine kb_ci (ws2 := (w_MO dA a q0 q1 g2 g3 g4 g5 g6 g7 g8 g9 g10 g11 g12 g13 g14 g15 g16 g17 g18 mo)) (kb_rV (n := 1) (As := [.ref (dA (100 + 15))]) (rest := []) hx hb hml hown hK (c_X12_isWord l D dA H.size a q0 q1 g2 g3 g4 g5 g6 g7 g8 g9 g10 g11 g12 g13 g14 g15 g16 g17 g18 mo 15 (by decide) r9 hc9) ⟨ww_6_213, ww_6_210, ww_6_212, ws_51, ww_1_12, rfl, by decide, by decide⟩ rfl rfl (by decide +kernel) ⟨Nat.le_of_ble_eq_true rfl, Nat.le_of_ble_eq_true rfl⟩ hP hD hS hA hE [0] rfl (by decide) 0 rfl rfl rfl hl.1 rfl (Nat.le_of_ble_eq_true rfl) dX12_wayNow_47 ⟨Nat.le_of_ble_eq_true rfl, Nat.le_of_ble_eq_true rfl⟩) hP hD hS hA [0] [] [0] rfl rfl (by decide) (by decide) rfl (by decide) (fun H locs hP hD hS => ?_)
            refine lv_if_eq (tgt := 55) hx hb dX12_wayNow_50 (by decide) (fun c_10 => ?_) (fun c_10 => ?_)
            · rw [if_pos c_10] at hf
              refine lv_aload_n hx hb dX12_wayNow_55 rfl (lv_at hl 0 rfl) ?_
              refine va_ldcS (tx := "back") (q := dA (100 + 16)) hx hb hown (hE.2.2.2 ("BusSeatsModel", 167, "back", 16) (by decide)) dX12_wayNow_56 ?_
              obtain ⟨r11, hc11, hf⟩ := kb_bind hf
              refine kb_ci (ws2 := (w_MO dA a q0 q1 g2 g3 g4 g5 g6 g7 g8 g9 g10 g11 g12 g13 g14 g15 g16 g17 g18 mo)) (kb_rV (n := 1) (As := [.ref (dA (100 + 16))]) (rest := []) hx hb hml hown hK (c_X12_isWord l D dA H.size a q0 q1 g2 g3 g4 g5 g6 g7 g8 g9 g10 g11 g12 g13 g14 g15 g16 g17 g18 mo 16 (by decide) r11 hc11) ⟨ww_6_213, ww_6_210, ww_6_212, ws_51, ww_1_12, rfl, by decide, by decide⟩ rfl rfl (by decide +kernel) ⟨Nat.le_of_ble_eq_true rfl, Nat.le_of_ble_eq_true rfl⟩ hP hD hS hA hE [0] rfl (by decide) 0 rfl rfl rfl hl.1 rfl (Nat.le_of_ble_eq_true rfl) dX12_wayNow_58 ⟨Nat.le_of_ble_eq_true rfl, Nat.le_of_ble_eq_true rfl⟩) hP hD hS hA [0] [] [0] rfl rfl (by decide) (by decide) rfl (by decide) (fun H locs hP hD hS => ?_)
              refine lv_if_eq (tgt := 66) hx hb dX12_wayNow_61 (by decide) (fun c_12 => ?_) (fun c_12 => ?_)
              · rw [if_pos c_12] at hf
                refine lv_aload_n hx hb dX12_wayNow_66 rfl (lv_at hl 0 rfl) ?_
                refine va_ldcS (tx := "shade") (q := dA (100 + 17)) hx hb hown (hE.2.2.2 ("BusSeatsModel", 169, "shade", 17) (by decide)) dX12_wayNow_67 ?_
                obtain ⟨r13, hc13, hf⟩ := kb_bind hf
                refine kb_ci (ws2 := (w_MO dA a q0 q1 g2 g3 g4 g5 g6 g7 g8 g9 g10 g11 g12 g13 g14 g15 g16 g17 g18 mo)) (kb_rV (n := 1) (As := [.ref (dA (100 + 17))]) (rest := []) hx hb hml hown hK (c_X12_isWord l D dA H.size a q0 q1 g2 g3 g4 g5 g6 g7 g8 g9 g10 g11 g12 g13 g14 g15 g16 g17 g18 mo 17 (by decide) r13 hc13) ⟨ww_6_213, ww_6_210, ww_6_212, ws_51, ww_1_12, rfl, by decide, by decide⟩ rfl rfl (by decide +kernel) ⟨Nat.le_of_ble_eq_true rfl, Nat.le_of_ble_eq_true rfl⟩ hP hD hS hA hE [0] rfl (by decide) 0 rfl rfl rfl hl.1 rfl (Nat.le_of_ble_eq_true rfl) dX12_wayNow_69 ⟨Nat.le_of_ble_eq_true rfl, Nat.le_of_ble_eq_true rfl⟩) hP hD hS hA [0] [] [0] rfl rfl (by decide) (by decide) rfl (by decide) (fun H locs hP hD hS => ?_)
                refine lv_if_eq (tgt := 78) hx hb dX12_wayNow_72 (by decide) (fun c_14 => ?_) (fun c_14 => ?_)
                · rw [if_pos c_14] at hf
                  refine lv_aload_n hx hb dX12_wayNow_78 rfl (lv_at hl 0 rfl) ?_
                  refine va_ldcS (tx := "like") (q := dA (100 + 18)) hx hb hown (hE.2.2.2 ("BusSeatsModel", 171, "like", 18) (by decide)) dX12_wayNow_79 ?_
                  obtain ⟨r15, hc15, hf⟩ := kb_bind hf
                  refine kb_ci (ws2 := (w_MO dA a q0 q1 g2 g3 g4 g5 g6 g7 g8 g9 g10 g11 g12 g13 g14 g15 g16 g17 g18 mo)) (kb_rV (n := 1) (As := [.ref (dA (100 + 18))]) (rest := []) hx hb hml hown hK (c_X12_isWord l D dA H.size a q0 q1 g2 g3 g4 g5 g6 g7 g8 g9 g10 g11 g12 g13 g14 g15 g16 g17 g18 mo 18 (by decide) r15 hc15) ⟨ww_6_213, ww_6_210, ww_6_212, ws_51, ww_1_12, rfl, by decide, by decide⟩ rfl rfl (by decide +kernel) ⟨Nat.le_of_ble_eq_true rfl, Nat.le_of_ble_eq_true rfl⟩ hP hD hS hA hE [0] rfl (by decide) 0 rfl rfl rfl hl.1 rfl (Nat.le_of_ble_eq_true rfl) dX12_wayNow_81 ⟨Nat.le_of_ble_eq_true rfl, Nat.le_of_ble_eq_true rfl⟩) hP hD hS hA [0] [] [0] rfl rfl (by decide) (by decide) rfl (by decide) (fun H locs hP hD hS => ?_)
                  refine lv_if_eq (tgt := 90) hx hb dX12_wayNow_84 (by decide) (fun c_16 => ?_) (fun c_16 => ?_)
                  · rw [if_pos c_16] at hf
                    refine lv_aload_n hx hb dX12_wayNow_90 rfl (lv_at hl 0 rfl) ?_
                    refine va_ldcS (tx := "friend") (q := dA (100 + 19)) hx hb hown (hE.2.2.2 ("BusSeatsModel", 173, "friend", 19) (by decide)) dX12_wayNow_91 ?_
                    obtain ⟨r17, hc17, hf⟩ := kb_bind hf
                    refine kb_ci (ws2 := (w_MO dA a q0 q1 g2 g3 g4 g5 g6 g7 g8 g9 g10 g11 g12 g13 g14 g15 g16 g17 g18 mo)) (kb_rV (n := 1) (As := [.ref (dA (100 + 19))]) (rest := []) hx hb hml hown hK (c_X12_isWord l D dA H.size a q0 q1 g2 g3 g4 g5 g6 g7 g8 g9 g10 g11 g12 g13 g14 g15 g16 g17 g18 mo 19 (by decide) r17 hc17) ⟨ww_6_213, ww_6_210, ww_6_212, ws_51, ww_1_12, rfl, by decide, by decide⟩ rfl rfl (by decide +kernel) ⟨Nat.le_of_ble_eq_true rfl, Nat.le_of_ble_eq_true rfl⟩ hP hD hS hA hE [0] rfl (by decide) 0 rfl rfl rfl hl.1 rfl (Nat.le_of_ble_eq_true rfl) dX12_wayNow_93 ⟨Nat.le_of_ble_eq_true rfl, Nat.le_of_ble_eq_true rfl⟩) hP hD hS hA [0] [] [0] rfl rfl (by decide) (by decide) rfl (by decide) (fun H locs hP hD hS => ?_)
                    refine lv_if_eq (tgt := 104) hx hb dX12_wayNow_96 (by decide) (fun c_18 => ?_) (fun c_18 => ?_)
                    · rw [if_pos c_18] at hf
                      refine lv_iconst (v := (-1 : Int32)) hx hb dX12_wayNow_104 (by decide) ?_
                      exact RET _ H _ ls 105 hf hP hD hS dX12_wayNow_105
                    · rw [if_neg c_18] at hf
                      refine lv_bipush (v := (8 : Int32)) hx hb dX12_wayNow_99 (by decide) ?_
                      refine lv_goto (tgt := 105) hx hb dX12_wayNow_101 (by decide) ?_
                      exact RET _ H _ ls 105 hf hP hD hS dX12_wayNow_105
                  · rw [if_neg c_16] at hf
                    refine lv_bipush (v := (7 : Int32)) hx hb dX12_wayNow_87 (by decide) ?_
                    exact RET _ H _ ls 89 hf hP hD hS dX12_wayNow_89
                · rw [if_neg c_14] at hf
                  refine lv_bipush (v := (6 : Int32)) hx hb dX12_wayNow_75 (by decide) ?_
                  exact RET _ H _ ls 77 hf hP hD hS dX12_wayNow_77
              · rw [if_neg c_12] at hf
                refine lv_iconst (v := (5 : Int32)) hx hb dX12_wayNow_64 (by decide) ?_
                exact RET _ H _ ls 65 hf hP hD hS dX12_wayNow_65
            · rw [if_neg c_10] at hf
              refine lv_iconst (v := (4 : Int32)) hx hb dX12_wayNow_53 (by decide) ?_
              exact RET _ H _ ls 54 hf hP hD hS dX12_wayNow_54
          · rw [if_neg c_8] at hf
            refine lv_iconst (v := (3 : Int32)) hx hb dX12_wayNow_42 (by decide) ?_
            exact RET _ H _ ls 43 hf hP hD hS dX12_wayNow_43
        · rw [if_neg c_6] at hf
          refine lv_iconst (v := (2 : Int32)) hx hb dX12_wayNow_31 (by decide) ?_
          exact RET _ H _ ls 32 hf hP hD hS dX12_wayNow_32
      · rw [if_neg c_4] at hf
        refine lv_iconst (v := (1 : Int32)) hx hb dX12_wayNow_20 (by decide) ?_
        exact RET _ H _ ls 21 hf hP hD hS dX12_wayNow_21
    · rw [if_neg c_2] at hf
      refine lv_iconst (v := (0 : Int32)) hx hb dX12_wayNow_9 (by decide) ?_
      exact RET _ H _ ls 10 hf hP hD hS dX12_wayNow_10
  exact E0 _ _ hP hD hS

noncomputable def f_X12_isName_b83 (mo : MOT)  : Option (Int32) := some ((0 : Int32))
noncomputable def f_X12_isName (mo : MOT) : Option (Int32) := (if (mo_sort mo) = (2 : Int32) then (f_X12_wayNow mo).bind fun r2 => (if r2 = (-1 : Int32) then (f_X12_isWord mo 0).bind fun r4 => (if r4 = 0 then (f_X12_isWord mo 10).bind fun r6 => (if r6 = 0 then (f_X12_isWord mo 20).bind fun r8 => (if r8 = 0 then (f_X12_isWord mo 21).bind fun r10 => (if r10 = 0 then (f_X12_isWord mo 22).bind fun r12 => (if r12 = 0 then (f_X12_isWord mo 23).bind fun r14 => (if r14 = 0 then (f_X12_isWord mo 24).bind fun r16 => (if r16 = 0 then some ((1 : Int32)) else f_X12_isName_b83 mo ) else f_X12_isName_b83 mo ) else f_X12_isName_b83 mo ) else f_X12_isName_b83 mo ) else f_X12_isName_b83 mo ) else f_X12_isName_b83 mo ) else f_X12_isName_b83 mo ) else f_X12_isName_b83 mo ) else f_X12_isName_b83 mo )
set_option maxHeartbeats 4000000 in
set_option maxRecDepth 100000 in
theorem c_X12_isName (l : Launch) (D : va_G) (dA : Nat → ClassId) (sz : Nat) (a : Nat → Nat) (q0 : Option Nat) (q1 : Option Nat) (g2 : Nat) (g3 : Nat) (g4 : Nat) (g5 : Nat) (g6 : Nat) (g7 : Nat) (g8 : Nat) (g9 : Nat) (g10 : Nat) (g11 : Nat) (g12 : Nat) (g13 : Nat) (g14 : Nat) (g15 : Nat) (g16 : Nat) (g17 : Nat) (g18 : Nat) (mo : MOT) (rv : Int32) (hf : f_X12_isName mo = some (rv)) : kb_Mi l yX12_isName cX12_isName 1 (some .boolean) ({ frames := 7, cells := 0, slots := 0, locals := 149 } : Room) D dA [.ref (a 0)] sz (w_MO dA a q0 q1 g2 g3 g4 g5 g6 g7 g8 g9 g10 g11 g12 g13 g14 g15 g16 g17 g18 mo) 0 0 rv (w_MO dA a q0 q1 g2 g3 g4 g5 g6 g7 g8 g9 g10 g11 g12 g13 g14 g15 g16 g17 g18 mo) := by
  refine Met.ofW (cc := cX12_isName) (maxL := 1) (ret := (some .boolean)) (by decide) rfl ?_
  intro p e s m args below meth c s₁ B hml hv
  obtain ⟨rfl, hsz, hP, hK, hD0, hE⟩ := hv
  have hx := B.exec
  have hb := B.bytes
  have hr := B.returns
  have hown : s.vm.findClass RX12 = some m.cls := findClass_of_methodNamed B.named
  have hlocks := B.notSynchronized
  have hts : ∀ w ∈ kb_gw, w.before ([.ref (a 0)] : List Value).toArray s = true := fun w hw => hK.2.1 w hw _
  subst hsz
  have hD := hD0.self (sz := s.heap.size)
  generalize hAe : va_A (w_MO dA a q0 q1 g2 g3 g4 g5 g6 g7 g8 g9 g10 g11 g12 g13 g14 g15 g16 g17 g18 mo) s.heap.size = A at hD hE ⊢
  have hA : ∀ q : Nat, s.heap.size ≤ q → A q := fun q h => by rw [← hAe]; exact Or.inr h
  have hS : va_S A s.heap s.heap [] := va_S.rf
  have hl := lv_entry ([.ref (a 0)]) (n := 1) (Nat.le_of_ble_eq_true rfl)
  rw [lg_entry_eq]
  generalize (lg_sl ([.ref (a 0)]) ++ List.replicate (1 - (lg_sl ([.ref (a 0)])).length) Slot.unset).toArray = ls at hl ⊢
  have hl : lv_has ls 1 [(0, .ref (a 0))] := hl
  generalize hQ : MQ below (va_Qi (fun r (_ : Unit) => r = rv) (kb_B D A (w_MO dA a q0 q1 g2 g3 g4 g5 g6 g7 g8 g9 g10 g11 g12 g13 g14 g15 g16 g17 g18 mo)) A) ([.ref (a 0)] : List Value).toArray s 0 0 A = Q
  show W p l e ({ frames := 7, cells := 0, slots := 0, locals := 149 } : Room) s m ([.ref (a 0)] : List Value).toArray below meth c s.heap [] 0 0 Q (F0 m 0 ls [])
  have RET : ∀ (r2 : Int32) (H : Heap) (locs : List Loc) (ls : Array Slot) (pc : Nat), some (r2) = some (rv) → va_P D vwCl (w_MO dA a q0 q1 g2 g3 g4 g5 g6 g7 g8 g9 g10 g11 g12 g13 g14 g15 g16 g17 g18 mo) H → va_D A (w_MO dA a q0 q1 g2 g3 g4 g5 g6 g7 g8 g9 g10 g11 g12 g13 g14 g15 g16 g17 g18 mo) → va_S A s.heap H locs → kb_01 r2 → decode cX12_isName pc = .ok (.ireturn, 1) → W p l e ({ frames := 7, cells := 0, slots := 0, locals := 149 } : Room) s m ([.ref (a 0)] : List Value).toArray below meth c H locs 0 0 Q (F0 m pc ls [.int r2]) := by
    intro r2 H locs ls pc hq hP hD hS h01 hd
    cases hq
    rw [← hQ]
    exact W.zret (ty := .boolean) hx hb hr (kb_nz h01) (fun t ht hW => ⟨⟨_, (), rfl, rfl, by rw [ht]; exact hP, hD⟩, hS.F ht⟩) hS.2.2 hd
  have B_83 : ∀  (H : Heap) (locs : List Loc) (ls : Array Slot), f_X12_isName_b83 mo  = some (rv) → va_P D vwCl (w_MO dA a q0 q1 g2 g3 g4 g5 g6 g7 g8 g9 g10 g11 g12 g13 g14 g15 g16 g17 g18 mo) H → va_D A (w_MO dA a q0 q1 g2 g3 g4 g5 g6 g7 g8 g9 g10 g11 g12 g13 g14 g15 g16 g17 g18 mo) → va_S A s.heap H locs → lv_has ls 1 [] → W p l e ({ frames := 7, cells := 0, slots := 0, locals := 149 } : Room) s m ([.ref (a 0)] : List Value).toArray below meth c H locs 0 0 Q (F0 m 83 ls []) := by
    intro  H locs ls hf hP hD hS hl
    rw [f_X12_isName_b83] at hf
    refine lv_iconst (v := (0 : Int32)) hx hb dX12_isName_83 (by decide) ?_
    exact RET _ H _ ls 84 hf hP hD hS (by decide) dX12_isName_84
  have E0 : ∀ (H : Heap) (locs : List Loc), va_P D vwCl (w_MO dA a q0 q1 g2 g3 g4 g5 g6 g7 g8 g9 g10 g11 g12 g13 g14 g15 g16 g17 g18 mo) H → va_D A (w_MO dA a q0 q1 g2 g3 g4 g5 g6 g7 g8 g9 g10 g11 g12 g13 g14 g15 g16 g17 g18 mo) → va_S A s.heap H locs → W p l e ({ frames := 7, cells := 0, slots := 0, locals := 149 } : Room) s m ([.ref (a 0)] : List Value).toArray below meth c H locs 0 0 Q (F0 m 0 ls []) := by
    intro H locs hP hD hS
    rw [f_X12_isName] at hf
    refine lv_aload_n hx hb dX12_isName_0 rfl (lv_at hl 0 rfl) ?_
    refine va_get (D := D) (ci := 12) (v := .int (mo_sort mo)) (C := RX12) (T := TX12) (N := 35) hx hb hts kb_inX12 hown hK.1 hP 0 rfl rfl 9 (by decide) (hK.2.w ww_5_209 rfl _) (fun _ h9 => h9) rfl dX12_isName_1 ?_
    refine lv_iconst (v := (2 : Int32)) hx hb dX12_isName_4 (by decide) ?_
    refine lv_icmp_ne (tgt := 83) hx hb dX12_isName_5 (by decide) (fun c_1 => ?_) (fun c_1 => ?_)
    · rw [if_neg c_1] at hf
      exact B_83 _ _ _ hf hP hD hS (lv_sub hl [] rfl)
    · rw [if_pos c_1] at hf
      refine lv_aload_n hx hb dX12_isName_8 rfl (lv_at hl 0 rfl) ?_
      obtain ⟨r2, hc2, hf⟩ := kb_bind hf
      refine kb_ci (ws2 := (w_MO dA a q0 q1 g2 g3 g4 g5 g6 g7 g8 g9 g10 g11 g12 g13 g14 g15 g16 g17 g18 mo)) (kb_rV (n := 0) (As := []) (rest := []) hx hb hml hown hK (c_X12_wayNow l D dA H.size a q0 q1 g2 g3 g4 g5 g6 g7 g8 g9 g10 g11 g12 g13 g14 g15 g16 g17 g18 mo r2 hc2) ⟨ww_7_31, ww_7_28, ww_7_30, ws_61, ww_1_12, rfl, by decide, by decide⟩ rfl rfl (by decide +kernel) ⟨Nat.le_of_ble_eq_true rfl, Nat.le_of_ble_eq_true rfl⟩ hP hD hS hA hE [0] rfl (by decide) 0 rfl rfl rfl hl.1 rfl (Nat.le_of_ble_eq_true rfl) dX12_isName_9 ⟨Nat.le_of_ble_eq_true rfl, Nat.le_of_ble_eq_true rfl⟩) hP hD hS hA [0] [] [0] rfl rfl (by decide) (by decide) rfl (by decide) (fun H locs hP hD hS => ?_)
      refine lv_iconst (v := (-1 : Int32)) hx hb dX12_isName_12 (by decide) ?_
      refine lv_icmp_ne (tgt := 83) hx hb dX12_isName_13 (by decide) (fun c_3 => ?_) (fun c_3 => ?_)
      · rw [if_neg c_3] at hf
        exact B_83 _ _ _ hf hP hD hS (lv_sub hl [] rfl)
      · rw [if_pos c_3] at hf
        refine lv_aload_n hx hb dX12_isName_16 rfl (lv_at hl 0 rfl) ?_
        refine va_ldcS (tx := "bus") (q := dA (100 + 0)) hx hb hown (hE.2.2.2 ("BusSeatsModel", 178, "bus", 0) (by decide)) dX12_isName_17 ?_
        obtain ⟨r4, hc4, hf⟩ := kb_bind hf
        refine kb_ci (ws2 := (w_MO dA a q0 q1 g2 g3 g4 g5 g6 g7 g8 g9 g10 g11 g12 g13 g14 g15 g16 g17 g18 mo)) (kb_rV (n := 1) (As := [.ref (dA (100 + 0))]) (rest := []) hx hb hml hown hK (c_X12_isWord l D dA H.size a q0 q1 g2 g3 g4 g5 g6 g7 g8 g9 g10 g11 g12 g13 g14 g15 g16 g17 g18 mo 0 (by decide) r4 hc4) ⟨ww_6_213, ww_6_210, ww_6_212, ws_51, ww_1_12, rfl, by decide, by decide⟩ rfl rfl (by decide +kernel) ⟨Nat.le_of_ble_eq_true rfl, Nat.le_of_ble_eq_true rfl⟩ hP hD hS hA hE [0] rfl (by decide) 0 rfl rfl rfl hl.1 rfl (Nat.le_of_ble_eq_true rfl) dX12_isName_19 ⟨Nat.le_of_ble_eq_true rfl, Nat.le_of_ble_eq_true rfl⟩) hP hD hS hA [0] [] [0] rfl rfl (by decide) (by decide) rfl (by decide) (fun H locs hP hD hS => ?_)
        refine lv_if_ne (tgt := 83) hx hb dX12_isName_22 (by decide) (fun c_5 => ?_) (fun c_5 => ?_)
        · rw [if_neg c_5] at hf
          exact B_83 _ _ _ hf hP hD hS (lv_sub hl [] rfl)
        · rw [if_pos c_5] at hf
          refine lv_aload_n hx hb dX12_isName_25 rfl (lv_at hl 0 rfl) ?_
          refine va_ldcS (tx := "rule") (q := dA (100 + 10)) hx hb hown (hE.2.2.2 ("BusSeatsModel", 180, "rule", 10) (by decide)) dX12_isName_26 ?_
          obtain ⟨r6, hc6, hf⟩ := kb_bind hf
          refine kb_ci (ws2 := (w_MO dA a q0 q1 g2 g3 g4 g5 g6 g7 g8 g9 g10 g11 g12 g13 g14 g15 g16 g17 g18 mo)) (kb_rV (n := 1) (As := [.ref (dA (100 + 10))]) (rest := []) hx hb hml hown hK (c_X12_isWord l D dA H.size a q0 q1 g2 g3 g4 g5 g6 g7 g8 g9 g10 g11 g12 g13 g14 g15 g16 g17 g18 mo 10 (by decide) r6 hc6) ⟨ww_6_213, ww_6_210, ww_6_212, ws_51, ww_1_12, rfl, by decide, by decide⟩ rfl rfl (by decide +kernel) ⟨Nat.le_of_ble_eq_true rfl, Nat.le_of_ble_eq_true rfl⟩ hP hD hS hA hE [0] rfl (by decide) 0 rfl rfl rfl hl.1 rfl (Nat.le_of_ble_eq_true rfl) dX12_isName_28 ⟨Nat.le_of_ble_eq_true rfl, Nat.le_of_ble_eq_true rfl⟩) hP hD hS hA [0] [] [0] rfl rfl (by decide) (by decide) rfl (by decide) (fun H locs hP hD hS => ?_)
          refine lv_if_ne (tgt := 83) hx hb dX12_isName_31 (by decide) (fun c_7 => ?_) (fun c_7 => ?_)
          · rw [if_neg c_7] at hf
            exact B_83 _ _ _ hf hP hD hS (lv_sub hl [] rfl)
          · rw [if_pos c_7] at hf
            refine lv_aload_n hx hb dX12_isName_34 rfl (lv_at hl 0 rfl) ?_
            refine va_ldcS (tx := "rider") (q := dA (100 + 20)) hx hb hown (hE.2.2.2 ("BusSeatsModel", 182, "rider", 20) (by decide)) dX12_isName_35 ?_
            obtain ⟨r8, hc8, hf⟩ := kb_bind hf
            refine kb_ci (ws2 := (w_MO dA a q0 q1 g2 g3 g4 g5 g6 g7 g8 g9 g10 g11 g12 g13 g14 g15 g16 g17 g18 mo)) (kb_rV (n := 1) (As := [.ref (dA (100 + 20))]) (rest := []) hx hb hml hown hK (c_X12_isWord l D dA H.size a q0 q1 g2 g3 g4 g5 g6 g7 g8 g9 g10 g11 g12 g13 g14 g15 g16 g17 g18 mo 20 (by decide) r8 hc8) ⟨ww_6_213, ww_6_210, ww_6_212, ws_51, ww_1_12, rfl, by decide, by decide⟩ rfl rfl (by decide +kernel) ⟨Nat.le_of_ble_eq_true rfl, Nat.le_of_ble_eq_true rfl⟩ hP hD hS hA hE [0] rfl (by decide) 0 rfl rfl rfl hl.1 rfl (Nat.le_of_ble_eq_true rfl) dX12_isName_37 ⟨Nat.le_of_ble_eq_true rfl, Nat.le_of_ble_eq_true rfl⟩) hP hD hS hA [0] [] [0] rfl rfl (by decide) (by decide) rfl (by decide) (fun H locs hP hD hS => ?_)
            refine lv_if_ne (tgt := 83) hx hb dX12_isName_40 (by decide) (fun c_9 => ?_) (fun c_9 => ?_)
            · rw [if_neg c_9] at hf
              exact B_83 _ _ _ hf hP hD hS (lv_sub hl [] rfl)
            · rw [if_pos c_9] at hf
              refine lv_aload_n hx hb dX12_isName_43 rfl (lv_at hl 0 rfl) ?_
              refine va_ldcS (tx := "friends") (q := dA (100 + 21)) hx hb hown (hE.2.2.2 ("BusSeatsModel", 184, "friends", 21) (by decide)) dX12_isName_44 ?_
              obtain ⟨r10, hc10, hf⟩ := kb_bind hf
              refine kb_ci (ws2 := (w_MO dA a q0 q1 g2 g3 g4 g5 g6 g7 g8 g9 g10 g11 g12 g13 g14 g15 g16 g17 g18 mo)) (kb_rV (n := 1) (As := [.ref (dA (100 + 21))]) (rest := []) hx hb hml hown hK (c_X12_isWord l D dA H.size a q0 q1 g2 g3 g4 g5 g6 g7 g8 g9 g10 g11 g12 g13 g14 g15 g16 g17 g18 mo 21 (by decide) r10 hc10) ⟨ww_6_213, ww_6_210, ww_6_212, ws_51, ww_1_12, rfl, by decide, by decide⟩ rfl rfl (by decide +kernel) ⟨Nat.le_of_ble_eq_true rfl, Nat.le_of_ble_eq_true rfl⟩ hP hD hS hA hE [0] rfl (by decide) 0 rfl rfl rfl hl.1 rfl (Nat.le_of_ble_eq_true rfl) dX12_isName_46 ⟨Nat.le_of_ble_eq_true rfl, Nat.le_of_ble_eq_true rfl⟩) hP hD hS hA [0] [] [0] rfl rfl (by decide) (by decide) rfl (by decide) (fun H locs hP hD hS => ?_)
              refine lv_if_ne (tgt := 83) hx hb dX12_isName_49 (by decide) (fun c_11 => ?_) (fun c_11 => ?_)
              · rw [if_neg c_11] at hf
                exact B_83 _ _ _ hf hP hD hS (lv_sub hl [] rfl)
              · rw [if_pos c_11] at hf
                refine lv_aload_n hx hb dX12_isName_52 rfl (lv_at hl 0 rfl) ?_
                refine va_ldcS (tx := "holds") (q := dA (100 + 22)) hx hb hown (hE.2.2.2 ("BusSeatsModel", 186, "holds", 22) (by decide)) dX12_isName_53 ?_
                obtain ⟨r12, hc12, hf⟩ := kb_bind hf
                refine kb_ci (ws2 := (w_MO dA a q0 q1 g2 g3 g4 g5 g6 g7 g8 g9 g10 g11 g12 g13 g14 g15 g16 g17 g18 mo)) (kb_rV (n := 1) (As := [.ref (dA (100 + 22))]) (rest := []) hx hb hml hown hK (c_X12_isWord l D dA H.size a q0 q1 g2 g3 g4 g5 g6 g7 g8 g9 g10 g11 g12 g13 g14 g15 g16 g17 g18 mo 22 (by decide) r12 hc12) ⟨ww_6_213, ww_6_210, ww_6_212, ws_51, ww_1_12, rfl, by decide, by decide⟩ rfl rfl (by decide +kernel) ⟨Nat.le_of_ble_eq_true rfl, Nat.le_of_ble_eq_true rfl⟩ hP hD hS hA hE [0] rfl (by decide) 0 rfl rfl rfl hl.1 rfl (Nat.le_of_ble_eq_true rfl) dX12_isName_55 ⟨Nat.le_of_ble_eq_true rfl, Nat.le_of_ble_eq_true rfl⟩) hP hD hS hA [0] [] [0] rfl rfl (by decide) (by decide) rfl (by decide) (fun H locs hP hD hS => ?_)
                refine lv_if_ne (tgt := 83) hx hb dX12_isName_58 (by decide) (fun c_13 => ?_) (fun c_13 => ?_)
                · rw [if_neg c_13] at hf
                  exact B_83 _ _ _ hf hP hD hS (lv_sub hl [] rfl)
                · rw [if_pos c_13] at hf
                  refine lv_aload_n hx hb dX12_isName_61 rfl (lv_at hl 0 rfl) ?_
                  refine va_ldcS (tx := "bag") (q := dA (100 + 23)) hx hb hown (hE.2.2.2 ("BusSeatsModel", 188, "bag", 23) (by decide)) dX12_isName_62 ?_
                  obtain ⟨r14, hc14, hf⟩ := kb_bind hf
                  refine kb_ci (ws2 := (w_MO dA a q0 q1 g2 g3 g4 g5 g6 g7 g8 g9 g10 g11 g12 g13 g14 g15 g16 g17 g18 mo)) (kb_rV (n := 1) (As := [.ref (dA (100 + 23))]) (rest := []) hx hb hml hown hK (c_X12_isWord l D dA H.size a q0 q1 g2 g3 g4 g5 g6 g7 g8 g9 g10 g11 g12 g13 g14 g15 g16 g17 g18 mo 23 (by decide) r14 hc14) ⟨ww_6_213, ww_6_210, ww_6_212, ws_51, ww_1_12, rfl, by decide, by decide⟩ rfl rfl (by decide +kernel) ⟨Nat.le_of_ble_eq_true rfl, Nat.le_of_ble_eq_true rfl⟩ hP hD hS hA hE [0] rfl (by decide) 0 rfl rfl rfl hl.1 rfl (Nat.le_of_ble_eq_true rfl) dX12_isName_64 ⟨Nat.le_of_ble_eq_true rfl, Nat.le_of_ble_eq_true rfl⟩) hP hD hS hA [0] [] [0] rfl rfl (by decide) (by decide) rfl (by decide) (fun H locs hP hD hS => ?_)
                  refine lv_if_ne (tgt := 83) hx hb dX12_isName_67 (by decide) (fun c_15 => ?_) (fun c_15 => ?_)
                  · rw [if_neg c_15] at hf
                    exact B_83 _ _ _ hf hP hD hS (lv_sub hl [] rfl)
                  · rw [if_pos c_15] at hf
                    refine lv_aload_n hx hb dX12_isName_70 rfl (lv_at hl 0 rfl) ?_
                    refine va_ldcS (tx := "proud") (q := dA (100 + 24)) hx hb hown (hE.2.2.2 ("BusSeatsModel", 190, "proud", 24) (by decide)) dX12_isName_71 ?_
                    obtain ⟨r16, hc16, hf⟩ := kb_bind hf
                    refine kb_ci (ws2 := (w_MO dA a q0 q1 g2 g3 g4 g5 g6 g7 g8 g9 g10 g11 g12 g13 g14 g15 g16 g17 g18 mo)) (kb_rV (n := 1) (As := [.ref (dA (100 + 24))]) (rest := []) hx hb hml hown hK (c_X12_isWord l D dA H.size a q0 q1 g2 g3 g4 g5 g6 g7 g8 g9 g10 g11 g12 g13 g14 g15 g16 g17 g18 mo 24 (by decide) r16 hc16) ⟨ww_6_213, ww_6_210, ww_6_212, ws_51, ww_1_12, rfl, by decide, by decide⟩ rfl rfl (by decide +kernel) ⟨Nat.le_of_ble_eq_true rfl, Nat.le_of_ble_eq_true rfl⟩ hP hD hS hA hE [0] rfl (by decide) 0 rfl rfl rfl hl.1 rfl (Nat.le_of_ble_eq_true rfl) dX12_isName_73 ⟨Nat.le_of_ble_eq_true rfl, Nat.le_of_ble_eq_true rfl⟩) hP hD hS hA [0] [] [0] rfl rfl (by decide) (by decide) rfl (by decide) (fun H locs hP hD hS => ?_)
                    refine lv_if_ne (tgt := 83) hx hb dX12_isName_76 (by decide) (fun c_17 => ?_) (fun c_17 => ?_)
                    · rw [if_neg c_17] at hf
                      exact B_83 _ _ _ hf hP hD hS (lv_sub hl [] rfl)
                    · rw [if_pos c_17] at hf
                      refine lv_iconst (v := (1 : Int32)) hx hb dX12_isName_79 (by decide) ?_
                      refine lv_goto (tgt := 84) hx hb dX12_isName_80 (by decide) ?_
                      exact RET _ H _ ls 84 hf hP hD hS (by decide) dX12_isName_84
  exact E0 _ _ hP hD hS

noncomputable def f_X12_begins_b14 (y_tape : TapeT) (z0 : MOT) : Option (MOT) := some (z0)
noncomputable def f_X12_begins_b10 (y_tape : TapeT) (z0 : MOT) : Option (MOT) := (f_X12_goesOn z0 y_tape).bind fun r2 => f_X12_begins_b14 y_tape r2
noncomputable def f_X12_begins (mo : MOT) (y_tape : TapeT) (x0 : Int32) (x1 : Int32) : Option (MOT) := (if x0 = x1 then (f_X12_wrong mo (5 : Int32)).bind fun r3 => f_X12_begins_b10 y_tape r3 else f_X12_begins_b10 y_tape mo)
set_option maxHeartbeats 4000000 in
set_option maxRecDepth 100000 in
theorem c_X12_begins (l : Launch) (D : va_G) (dA : Nat → ClassId) (sz : Nat) (a : Nat → Nat) (ta : Nat → Nat) (q0 : Option Nat) (q1 : Option Nat) (g3 : Nat) (g4 : Nat) (g5 : Nat) (g6 : Nat) (g7 : Nat) (g8 : Nat) (g9 : Nat) (g10 : Nat) (g11 : Nat) (g12 : Nat) (g13 : Nat) (g14 : Nat) (g15 : Nat) (g16 : Nat) (g17 : Nat) (g18 : Nat) (mo : MOT) (y_tape : TapeT) (x0 : Int32) (x1 : Int32) (u0 : MOT) (hf : f_X12_begins mo y_tape x0 x1 = some (u0)) : kb_Mv l yX12_begins cX12_begins 3 none ({ frames := 2, cells := 0, slots := 0, locals := 43 } : Room) D dA [.ref (a 0), .int x0, .int x1] sz (w_MO dA a q0 q1 (ta 0) g3 g4 g5 g6 g7 g8 g9 g10 g11 g12 g13 g14 g15 g16 g17 g18 mo ++ (w_Tape dA ta y_tape)) 0 0 (w_MO dA a q0 q1 (ta 0) g3 g4 g5 g6 g7 g8 g9 g10 g11 g12 g13 g14 g15 g16 g17 g18 u0 ++ (w_Tape dA ta y_tape)) := by
  refine Met.ofW (cc := cX12_begins) (maxL := 3) (ret := none) (by decide) rfl ?_
  intro p e s m args below meth c s₁ B hml hv
  obtain ⟨rfl, hsz, hP, hK, hD0, hE⟩ := hv
  have hx := B.exec
  have hb := B.bytes
  have hr := B.returns
  have hown : s.vm.findClass RX12 = some m.cls := findClass_of_methodNamed B.named
  have hlocks := B.notSynchronized
  have hts : ∀ w ∈ kb_gw, w.before ([.ref (a 0), .int x0, .int x1] : List Value).toArray s = true := fun w hw => hK.2.1 w hw _
  subst hsz
  have hD := hD0.self (sz := s.heap.size)
  generalize hAe : va_A (w_MO dA a q0 q1 (ta 0) g3 g4 g5 g6 g7 g8 g9 g10 g11 g12 g13 g14 g15 g16 g17 g18 mo ++ (w_Tape dA ta y_tape)) s.heap.size = A at hD hE ⊢
  have hA : ∀ q : Nat, s.heap.size ≤ q → A q := fun q h => by rw [← hAe]; exact Or.inr h
  have hS : va_S A s.heap s.heap [] := va_S.rf
  have hl := lv_entry ([.ref (a 0), .int x0, .int x1]) (n := 3) (Nat.le_of_ble_eq_true rfl)
  rw [lg_entry_eq]
  generalize (lg_sl ([.ref (a 0), .int x0, .int x1]) ++ List.replicate (3 - (lg_sl ([.ref (a 0), .int x0, .int x1])).length) Slot.unset).toArray = ls at hl ⊢
  have hl : lv_has ls 3 [(0, .ref (a 0)), (1, .int x0), (2, .int x1)] := hl
  generalize hQ : MQ below (va_Qv (fun (_ : Unit) => True) (kb_B D A (w_MO dA a q0 q1 (ta 0) g3 g4 g5 g6 g7 g8 g9 g10 g11 g12 g13 g14 g15 g16 g17 g18 u0 ++ (w_Tape dA ta y_tape))) A) ([.ref (a 0), .int x0, .int x1] : List Value).toArray s 0 0 A = Q
  show W p l e ({ frames := 2, cells := 0, slots := 0, locals := 43 } : Room) s m ([.ref (a 0), .int x0, .int x1] : List Value).toArray below meth c s.heap [] 0 0 Q (F0 m 0 ls [])
  have RET : ∀ (w0 : MOT) (H : Heap) (locs : List Loc) (ls : Array Slot) (pc : Nat), some (w0) = some (u0) → va_P D vwCl (w_MO dA a q0 q1 (ta 0) g3 g4 g5 g6 g7 g8 g9 g10 g11 g12 g13 g14 g15 g16 g17 g18 w0 ++ (w_Tape dA ta y_tape)) H → va_D A (w_MO dA a q0 q1 (ta 0) g3 g4 g5 g6 g7 g8 g9 g10 g11 g12 g13 g14 g15 g16 g17 g18 w0 ++ (w_Tape dA ta y_tape)) → va_S A s.heap H locs → decode cX12_begins pc = .ok (.return_, 1) → W p l e ({ frames := 2, cells := 0, slots := 0, locals := 43 } : Room) s m ([.ref (a 0), .int x0, .int x1] : List Value).toArray below meth c H locs 0 0 Q (F0 m pc ls []) := by
    intro w0 H locs ls pc hq hP hD hS hd
    cases hq
    rw [← hQ]
    exact W.vret hx hb hr (fun t ht hW => ⟨⟨(), rfl, trivial, by rw [ht]; exact hP, hD⟩, hS.F ht⟩) hS.2.2 hd
  have B_14 : ∀ (z0 : MOT) (H : Heap) (locs : List Loc) (ls : Array Slot), f_X12_begins_b14 y_tape z0 = some (u0) → va_P D vwCl (w_MO dA a q0 q1 (ta 0) g3 g4 g5 g6 g7 g8 g9 g10 g11 g12 g13 g14 g15 g16 g17 g18 z0 ++ (w_Tape dA ta y_tape)) H → va_D A (w_MO dA a q0 q1 (ta 0) g3 g4 g5 g6 g7 g8 g9 g10 g11 g12 g13 g14 g15 g16 g17 g18 z0 ++ (w_Tape dA ta y_tape)) → va_S A s.heap H locs → lv_has ls 3 [] → W p l e ({ frames := 2, cells := 0, slots := 0, locals := 43 } : Room) s m ([.ref (a 0), .int x0, .int x1] : List Value).toArray below meth c H locs 0 0 Q (F0 m 14 ls []) := by
    intro z0 H locs ls hf hP hD hS hl
    rw [f_X12_begins_b14] at hf
    exact RET _ H _ ls 14 hf hP hD hS dX12_begins_14
  have B_10 : ∀ (z0 : MOT) (H : Heap) (locs : List Loc) (ls : Array Slot), f_X12_begins_b10 y_tape z0 = some (u0) → va_P D vwCl (w_MO dA a q0 q1 (ta 0) g3 g4 g5 g6 g7 g8 g9 g10 g11 g12 g13 g14 g15 g16 g17 g18 z0 ++ (w_Tape dA ta y_tape)) H → va_D A (w_MO dA a q0 q1 (ta 0) g3 g4 g5 g6 g7 g8 g9 g10 g11 g12 g13 g14 g15 g16 g17 g18 z0 ++ (w_Tape dA ta y_tape)) → va_S A s.heap H locs → lv_has ls 3 [(0, .ref (a 0))] → W p l e ({ frames := 2, cells := 0, slots := 0, locals := 43 } : Room) s m ([.ref (a 0), .int x0, .int x1] : List Value).toArray below meth c H locs 0 0 Q (F0 m 10 ls []) := by
    intro z0 H locs ls hf hP hD hS hl
    rw [f_X12_begins_b10] at hf
    refine lv_aload_n hx hb dX12_begins_10 rfl (lv_at hl 0 rfl) ?_
    obtain ⟨r2, hc2, hf⟩ := kb_bind hf
    refine kb_cv (ws2 := (w_MO dA a q0 q1 (ta 0) g3 g4 g5 g6 g7 g8 g9 g10 g11 g12 g13 g14 g15 g16 g17 g18 r2 ++ (w_Tape dA ta y_tape))) (kb_rV (n := 0) (As := []) (rest := []) hx hb hml hown hK (c_X12_goesOn l D dA H.size a ta q0 q1 g3 g4 g5 g6 g7 g8 g9 g10 g11 g12 g13 g14 g15 g16 g17 g18 z0 y_tape r2 hc2) ⟨ww_6_189, ww_6_186, ww_6_188, ws_47, ww_1_12, rfl, by decide, by decide⟩ rfl rfl (by decide +kernel) ⟨Nat.le_of_ble_eq_true rfl, Nat.le_of_ble_eq_true rfl⟩ hP hD hS hA hE [0, 1] rfl (by decide) 0 rfl rfl rfl hl.1 rfl (Nat.le_of_ble_eq_true rfl) dX12_begins_11 ⟨Nat.le_of_ble_eq_true rfl, Nat.le_of_ble_eq_true rfl⟩) hP hD hS hA [0, 1] [] [0, 1] rfl rfl (by decide) (by decide) rfl (by decide) (fun H locs hP hD hS => ?_)
    exact B_14 _ _ _ _ hf hP hD hS (lv_sub hl [] rfl)
  have E0 : ∀ (H : Heap) (locs : List Loc), va_P D vwCl (w_MO dA a q0 q1 (ta 0) g3 g4 g5 g6 g7 g8 g9 g10 g11 g12 g13 g14 g15 g16 g17 g18 mo ++ (w_Tape dA ta y_tape)) H → va_D A (w_MO dA a q0 q1 (ta 0) g3 g4 g5 g6 g7 g8 g9 g10 g11 g12 g13 g14 g15 g16 g17 g18 mo ++ (w_Tape dA ta y_tape)) → va_S A s.heap H locs → W p l e ({ frames := 2, cells := 0, slots := 0, locals := 43 } : Room) s m ([.ref (a 0), .int x0, .int x1] : List Value).toArray below meth c H locs 0 0 Q (F0 m 0 ls []) := by
    intro H locs hP hD hS
    rw [f_X12_begins] at hf
    refine lv_iload_n hx hb dX12_begins_0 rfl (lv_at hl 1 rfl) ?_
    refine lv_iload_n hx hb dX12_begins_1 rfl (lv_at hl 2 rfl) ?_
    refine lv_icmp_ne (tgt := 10) hx hb dX12_begins_2 (by decide) (fun c_1 => ?_) (fun c_1 => ?_)
    · rw [if_neg c_1] at hf
      exact B_10 _ _ _ _ hf hP hD hS (lv_sub hl [0] rfl)
    · rw [if_pos c_1] at hf
      refine lv_aload_n hx hb dX12_begins_5 rfl (lv_at hl 0 rfl) ?_
      refine lv_iconst (v := (5 : Int32)) hx hb dX12_begins_6 (by decide) ?_
      obtain ⟨r3, hc3, hf⟩ := kb_bind hf
      refine kb_cv (ws2 := (w_MO dA a q0 q1 (ta 0) g3 g4 g5 g6 g7 g8 g9 g10 g11 g12 g13 g14 g15 g16 g17 g18 r3 ++ (w_Tape dA ta y_tape))) (kb_rV (n := 1) (As := [.int (5 : Int32)]) (rest := []) hx hb hml hown hK (c_X12_wrong l D dA H.size a q0 q1 (ta 0) g3 g4 g5 g6 g7 g8 g9 g10 g11 g12 g13 g14 g15 g16 g17 g18 mo (5 : Int32) r3 hc3) ⟨ww_6_226, ww_6_223, ww_6_225, ws_53, ww_1_12, rfl, by decide, by decide⟩ rfl rfl (by decide +kernel) ⟨Nat.le_of_ble_eq_true rfl, Nat.le_of_ble_eq_true rfl⟩ hP hD hS hA hE [0] rfl (by decide) 0 rfl rfl rfl hl.1 rfl (Nat.le_of_ble_eq_true rfl) dX12_begins_7 ⟨Nat.le_of_ble_eq_true rfl, Nat.le_of_ble_eq_true rfl⟩) hP hD hS hA [0] [1] [1, 0] rfl rfl (by decide) (by decide) rfl (by decide) (fun H locs hP hD hS => ?_)
      exact B_10 _ _ _ _ hf hP hD hS (lv_sub hl [0] rfl)
  exact E0 _ _ hP hD hS
