noncomputable def f_X12_thrown (mo : MOT) : Option (Int32) := some ((mo_thrown mo))
set_option maxHeartbeats 4000000 in
set_option maxRecDepth 100000 in
theorem c_X12_thrown (l : Launch) (D : va_G) (dA : Nat → ClassId) (sz : Nat) (a : Nat → Nat) (q0 : Option Nat) (q1 : Option Nat) (g2 : Nat) (g3 : Nat) (g4 : Nat) (g5 : Nat) (g6 : Nat) (g7 : Nat) (g8 : Nat) (g9 : Nat) (g10 : Nat) (g11 : Nat) (g12 : Nat) (g13 : Nat) (g14 : Nat) (g15 : Nat) (g16 : Nat) (g17 : Nat) (g18 : Nat) (mo : MOT) (rv : Int32) (hf : f_X12_thrown mo = some (rv)) : kb_Mi l yX12_thrown cX12_thrown 1 (some .int) ({ frames := 0, cells := 0, slots := 0, locals := 0 } : Room) D dA [.ref (a 0)] sz (w_MO dA a q0 q1 g2 g3 g4 g5 g6 g7 g8 g9 g10 g11 g12 g13 g14 g15 g16 g17 g18 mo) 0 0 rv (w_MO dA a q0 q1 g2 g3 g4 g5 g6 g7 g8 g9 g10 g11 g12 g13 g14 g15 g16 g17 g18 mo) := by
  refine Met.ofW (cc := cX12_thrown) (maxL := 1) (ret := (some .int)) (by decide) rfl ?_
  intro p e s m args below meth c s₁ B hml hv
  obtain ⟨rfl, hsz, hP, hK, hD0, hE⟩ := hv
  have hx := B.exec
  have hb := B.bytes
  have hr := B.returns
  have hown : s.vm.findClass RX12 = some m.cls := findClass_of_methodNamed B.named
  have hlocks := B.notSynchronized
  have hts : ∀ w ∈ kb_gw, w.before ([.ref (a 0)] : List Value).toArray s = true := fun w hw => hK.2.1 w hw _
  subst hsz
  have hD := hD0.self (sz := s.heap.size)
  generalize hAe : va_A (w_MO dA a q0 q1 g2 g3 g4 g5 g6 g7 g8 g9 g10 g11 g12 g13 g14 g15 g16 g17 g18 mo) s.heap.size = A at hD hE ⊢
  have hA : ∀ q : Nat, s.heap.size ≤ q → A q := fun q h => by rw [← hAe]; exact Or.inr h
  have hS : va_S A s.heap s.heap [] := va_S.rf
  have hl := lv_entry ([.ref (a 0)]) (n := 1) (Nat.le_of_ble_eq_true rfl)
  rw [lg_entry_eq]
  generalize (lg_sl ([.ref (a 0)]) ++ List.replicate (1 - (lg_sl ([.ref (a 0)])).length) Slot.unset).toArray = ls at hl ⊢
  have hl : lv_has ls 1 [(0, .ref (a 0))] := hl
  generalize hQ : MQ below (va_Qi (fun r (_ : Unit) => r = rv) (kb_B D A (w_MO dA a q0 q1 g2 g3 g4 g5 g6 g7 g8 g9 g10 g11 g12 g13 g14 g15 g16 g17 g18 mo)) A) ([.ref (a 0)] : List Value).toArray s 0 0 A = Q
  show W p l e ({ frames := 0, cells := 0, slots := 0, locals := 0 } : Room) s m ([.ref (a 0)] : List Value).toArray below meth c s.heap [] 0 0 Q (F0 m 0 ls [])
  have RET : ∀ (r2 : Int32) (H : Heap) (locs : List Loc) (ls : Array Slot) (pc : Nat), some (r2) = some (rv) → va_P D vwCl (w_MO dA a q0 q1 g2 g3 g4 g5 g6 g7 g8 g9 g10 g11 g12 g13 g14 g15 g16 g17 g18 mo) H → va_D A (w_MO dA a q0 q1 g2 g3 g4 g5 g6 g7 g8 g9 g10 g11 g12 g13 g14 g15 g16 g17 g18 mo) → va_S A s.heap H locs → decode cX12_thrown pc = .ok (.ireturn, 1) → W p l e ({ frames := 0, cells := 0, slots := 0, locals := 0 } : Room) s m ([.ref (a 0)] : List Value).toArray below meth c H locs 0 0 Q (F0 m pc ls [.int r2]) := by
    intro r2 H locs ls pc hq hP hD hS hd
    cases hq
    rw [← hQ]
    exact W.iret hx hb hr (fun t ht hW => ⟨⟨_, (), rfl, rfl, by rw [ht]; exact hP, hD⟩, hS.F ht⟩) hS.2.2 hd
  have E0 : ∀ (H : Heap) (locs : List Loc), va_P D vwCl (w_MO dA a q0 q1 g2 g3 g4 g5 g6 g7 g8 g9 g10 g11 g12 g13 g14 g15 g16 g17 g18 mo) H → va_D A (w_MO dA a q0 q1 g2 g3 g4 g5 g6 g7 g8 g9 g10 g11 g12 g13 g14 g15 g16 g17 g18 mo) → va_S A s.heap H locs → W p l e ({ frames := 0, cells := 0, slots := 0, locals := 0 } : Room) s m ([.ref (a 0)] : List Value).toArray below meth c H locs 0 0 Q (F0 m 0 ls []) := by
    intro H locs hP hD hS
    rw [f_X12_thrown] at hf
    refine lv_aload_n hx hb dX12_thrown_0 rfl (lv_at hl 0 rfl) ?_
    refine va_get (D := D) (ci := 12) (v := .int (mo_thrown mo)) (C := RX12) (T := TX12) (N := 35) hx hb hts kb_inX12 hown hK.1 hP 0 rfl rfl 0 (by decide) (hK.2.w ww_5_200 rfl _) (fun _ h9 => h9) rfl dX12_thrown_1 ?_
    exact RET _ H _ ls 4 hf hP hD hS dX12_thrown_4
  exact E0 _ _ hP hD hS

noncomputable def f_X12_refused_b10 (z0 : MOT) : Option (Int32 × MOT) := some ((-1 : Int32), z0)
noncomputable def f_X12_refused_b5 (z0 : MOT) : Option (Int32 × MOT) := f_X12_refused_b10 (mo_set_where z0 (-1 : Int32))
noncomputable def f_X12_refused (mo : MOT) (x0 : Int32) : Option (Int32 × MOT) := f_X12_refused_b5 (mo_set_trouble mo x0)
set_option maxHeartbeats 4000000 in
set_option maxRecDepth 100000 in
theorem c_X12_refused (l : Launch) (D : va_G) (dA : Nat → ClassId) (sz : Nat) (a : Nat → Nat) (q0 : Option Nat) (q1 : Option Nat) (g2 : Nat) (g3 : Nat) (g4 : Nat) (g5 : Nat) (g6 : Nat) (g7 : Nat) (g8 : Nat) (g9 : Nat) (g10 : Nat) (g11 : Nat) (g12 : Nat) (g13 : Nat) (g14 : Nat) (g15 : Nat) (g16 : Nat) (g17 : Nat) (g18 : Nat) (mo : MOT) (x0 : Int32) (rv : Int32) (u0 : MOT) (hf : f_X12_refused mo x0 = some (rv, u0)) : kb_Mi l yX12_refused cX12_refused 2 (some .int) ({ frames := 0, cells := 0, slots := 0, locals := 0 } : Room) D dA [.ref (a 0), .int x0] sz (w_MO dA a q0 q1 g2 g3 g4 g5 g6 g7 g8 g9 g10 g11 g12 g13 g14 g15 g16 g17 g18 mo) 0 0 rv (w_MO dA a q0 q1 g2 g3 g4 g5 g6 g7 g8 g9 g10 g11 g12 g13 g14 g15 g16 g17 g18 u0) := by
  refine Met.ofW (cc := cX12_refused) (maxL := 2) (ret := (some .int)) (by decide) rfl ?_
  intro p e s m args below meth c s₁ B hml hv
  obtain ⟨rfl, hsz, hP, hK, hD0, hE⟩ := hv
  have hx := B.exec
  have hb := B.bytes
  have hr := B.returns
  have hown : s.vm.findClass RX12 = some m.cls := findClass_of_methodNamed B.named
  have hlocks := B.notSynchronized
  have hts : ∀ w ∈ kb_gw, w.before ([.ref (a 0), .int x0] : List Value).toArray s = true := fun w hw => hK.2.1 w hw _
  subst hsz
  have hD := hD0.self (sz := s.heap.size)
  generalize hAe : va_A (w_MO dA a q0 q1 g2 g3 g4 g5 g6 g7 g8 g9 g10 g11 g12 g13 g14 g15 g16 g17 g18 mo) s.heap.size = A at hD hE ⊢
  have hA : ∀ q : Nat, s.heap.size ≤ q → A q := fun q h => by rw [← hAe]; exact Or.inr h
  have hS : va_S A s.heap s.heap [] := va_S.rf
  have hl := lv_entry ([.ref (a 0), .int x0]) (n := 2) (Nat.le_of_ble_eq_true rfl)
  rw [lg_entry_eq]
  generalize (lg_sl ([.ref (a 0), .int x0]) ++ List.replicate (2 - (lg_sl ([.ref (a 0), .int x0])).length) Slot.unset).toArray = ls at hl ⊢
  have hl : lv_has ls 2 [(0, .ref (a 0)), (1, .int x0)] := hl
  generalize hQ : MQ below (va_Qi (fun r (_ : Unit) => r = rv) (kb_B D A (w_MO dA a q0 q1 g2 g3 g4 g5 g6 g7 g8 g9 g10 g11 g12 g13 g14 g15 g16 g17 g18 u0)) A) ([.ref (a 0), .int x0] : List Value).toArray s 0 0 A = Q
  show W p l e ({ frames := 0, cells := 0, slots := 0, locals := 0 } : Room) s m ([.ref (a 0), .int x0] : List Value).toArray below meth c s.heap [] 0 0 Q (F0 m 0 ls [])
  have RET : ∀ (r2 : Int32) (w0 : MOT) (H : Heap) (locs : List Loc) (ls : Array Slot) (pc : Nat), some (r2, w0) = some (rv, u0) → va_P D vwCl (w_MO dA a q0 q1 g2 g3 g4 g5 g6 g7 g8 g9 g10 g11 g12 g13 g14 g15 g16 g17 g18 w0) H → va_D A (w_MO dA a q0 q1 g2 g3 g4 g5 g6 g7 g8 g9 g10 g11 g12 g13 g14 g15 g16 g17 g18 w0) → va_S A s.heap H locs → decode cX12_refused pc = .ok (.ireturn, 1) → W p l e ({ frames := 0, cells := 0, slots := 0, locals := 0 } : Room) s m ([.ref (a 0), .int x0] : List Value).toArray below meth c H locs 0 0 Q (F0 m pc ls [.int r2]) := by
    intro r2 w0 H locs ls pc hq hP hD hS hd
    cases hq
    rw [← hQ]
    exact W.iret hx hb hr (fun t ht hW => ⟨⟨_, (), rfl, rfl, by rw [ht]; exact hP, hD⟩, hS.F ht⟩) hS.2.2 hd
  have B_10 : ∀ (z0 : MOT) (H : Heap) (locs : List Loc) (ls : Array Slot), f_X12_refused_b10 z0 = some (rv, u0) → va_P D vwCl (w_MO dA a q0 q1 g2 g3 g4 g5 g6 g7 g8 g9 g10 g11 g12 g13 g14 g15 g16 g17 g18 z0) H → va_D A (w_MO dA a q0 q1 g2 g3 g4 g5 g6 g7 g8 g9 g10 g11 g12 g13 g14 g15 g16 g17 g18 z0) → va_S A s.heap H locs → lv_has ls 2 [] → W p l e ({ frames := 0, cells := 0, slots := 0, locals := 0 } : Room) s m ([.ref (a 0), .int x0] : List Value).toArray below meth c H locs 0 0 Q (F0 m 10 ls []) := by
    intro z0 H locs ls hf hP hD hS hl
    rw [f_X12_refused_b10] at hf
    refine lv_iconst (v := (-1 : Int32)) hx hb dX12_refused_10 (by decide) ?_
    exact RET _ _ H _ ls 11 hf hP hD hS dX12_refused_11
  have B_5 : ∀ (z0 : MOT) (H : Heap) (locs : List Loc) (ls : Array Slot), f_X12_refused_b5 z0 = some (rv, u0) → va_P D vwCl (w_MO dA a q0 q1 g2 g3 g4 g5 g6 g7 g8 g9 g10 g11 g12 g13 g14 g15 g16 g17 g18 z0) H → va_D A (w_MO dA a q0 q1 g2 g3 g4 g5 g6 g7 g8 g9 g10 g11 g12 g13 g14 g15 g16 g17 g18 z0) → va_S A s.heap H locs → lv_has ls 2 [(0, .ref (a 0))] → W p l e ({ frames := 0, cells := 0, slots := 0, locals := 0 } : Room) s m ([.ref (a 0), .int x0] : List Value).toArray below meth c H locs 0 0 Q (F0 m 5 ls []) := by
    intro z0 H locs ls hf hP hD hS hl
    rw [f_X12_refused_b5] at hf
    refine lv_aload_n hx hb dX12_refused_5 rfl (lv_at hl 0 rfl) ?_
    refine lv_iconst (v := (-1 : Int32)) hx hb dX12_refused_6 (by decide) ?_
    refine va_put (D := D) (ci := 12) (v := .int (-1 : Int32)) (ty := .int) (C := RX12) (T := TX12) (N := 35) hx hb hts kb_inX12 tyX12 tyX12_ok nmX12 hown hK.1 hP hD hS 0 rfl rfl 2 (by decide) (hK.2.w ww_5_202 rfl _) (fun _ h9 => h9) rfl (by decide +kernel) rfl rfl (Nat.le_of_ble_eq_true rfl) dX12_refused_7 (fun H locs hP hD hS => ?_)
    have hP : va_P D vwCl (w_MO dA a q0 q1 g2 g3 g4 g5 g6 g7 g8 g9 g10 g11 g12 g13 g14 g15 g16 g17 g18 (mo_set_where z0 (-1 : Int32))) H := hP
    have hD : va_D A (w_MO dA a q0 q1 g2 g3 g4 g5 g6 g7 g8 g9 g10 g11 g12 g13 g14 g15 g16 g17 g18 (mo_set_where z0 (-1 : Int32))) := hD
    exact B_10 _ _ _ _ hf hP hD hS (lv_sub hl [] rfl)
  have E0 : ∀ (H : Heap) (locs : List Loc), va_P D vwCl (w_MO dA a q0 q1 g2 g3 g4 g5 g6 g7 g8 g9 g10 g11 g12 g13 g14 g15 g16 g17 g18 mo) H → va_D A (w_MO dA a q0 q1 g2 g3 g4 g5 g6 g7 g8 g9 g10 g11 g12 g13 g14 g15 g16 g17 g18 mo) → va_S A s.heap H locs → W p l e ({ frames := 0, cells := 0, slots := 0, locals := 0 } : Room) s m ([.ref (a 0), .int x0] : List Value).toArray below meth c H locs 0 0 Q (F0 m 0 ls []) := by
    intro H locs hP hD hS
    rw [f_X12_refused] at hf
    refine lv_aload_n hx hb dX12_refused_0 rfl (lv_at hl 0 rfl) ?_
    refine lv_iload_n hx hb dX12_refused_1 rfl (lv_at hl 1 rfl) ?_
    refine va_put (D := D) (ci := 12) (v := .int x0) (ty := .int) (C := RX12) (T := TX12) (N := 35) hx hb hts kb_inX12 tyX12 tyX12_ok nmX12 hown hK.1 hP hD hS 0 rfl rfl 1 (by decide) (hK.2.w ww_5_201 rfl _) (fun _ h9 => h9) rfl (by decide +kernel) rfl rfl (Nat.le_of_ble_eq_true rfl) dX12_refused_2 (fun H locs hP hD hS => ?_)
    have hP : va_P D vwCl (w_MO dA a q0 q1 g2 g3 g4 g5 g6 g7 g8 g9 g10 g11 g12 g13 g14 g15 g16 g17 g18 (mo_set_trouble mo x0)) H := hP
    have hD : va_D A (w_MO dA a q0 q1 g2 g3 g4 g5 g6 g7 g8 g9 g10 g11 g12 g13 g14 g15 g16 g17 g18 (mo_set_trouble mo x0)) := hD
    exact B_5 _ _ _ _ hf hP hD hS (lv_sub hl [0] rfl)
  exact E0 _ _ hP hD hS

noncomputable def f_X12_lost_b6 (z0 : MOT) : Option (Int32 × MOT) := some ((-1000 : Int32), z0)
noncomputable def f_X12_lost (mo : MOT) (x0 : Int32) : Option (Int32 × MOT) := (f_X12_refused mo x0).bind fun r1 => f_X12_lost_b6 r1.2
set_option maxHeartbeats 4000000 in
set_option maxRecDepth 100000 in
theorem c_X12_lost (l : Launch) (D : va_G) (dA : Nat → ClassId) (sz : Nat) (a : Nat → Nat) (q0 : Option Nat) (q1 : Option Nat) (g2 : Nat) (g3 : Nat) (g4 : Nat) (g5 : Nat) (g6 : Nat) (g7 : Nat) (g8 : Nat) (g9 : Nat) (g10 : Nat) (g11 : Nat) (g12 : Nat) (g13 : Nat) (g14 : Nat) (g15 : Nat) (g16 : Nat) (g17 : Nat) (g18 : Nat) (mo : MOT) (x0 : Int32) (rv : Int32) (u0 : MOT) (hf : f_X12_lost mo x0 = some (rv, u0)) : kb_Mi l yX12_lost cX12_lost 2 (some .int) ({ frames := 1, cells := 0, slots := 0, locals := 21 } : Room) D dA [.ref (a 0), .int x0] sz (w_MO dA a q0 q1 g2 g3 g4 g5 g6 g7 g8 g9 g10 g11 g12 g13 g14 g15 g16 g17 g18 mo) 0 0 rv (w_MO dA a q0 q1 g2 g3 g4 g5 g6 g7 g8 g9 g10 g11 g12 g13 g14 g15 g16 g17 g18 u0) := by
  refine Met.ofW (cc := cX12_lost) (maxL := 2) (ret := (some .int)) (by decide) rfl ?_
  intro p e s m args below meth c s₁ B hml hv
  obtain ⟨rfl, hsz, hP, hK, hD0, hE⟩ := hv
  have hx := B.exec
  have hb := B.bytes
  have hr := B.returns
  have hown : s.vm.findClass RX12 = some m.cls := findClass_of_methodNamed B.named
  have hlocks := B.notSynchronized
  have hts : ∀ w ∈ kb_gw, w.before ([.ref (a 0), .int x0] : List Value).toArray s = true := fun w hw => hK.2.1 w hw _
  subst hsz
  have hD := hD0.self (sz := s.heap.size)
  generalize hAe : va_A (w_MO dA a q0 q1 g2 g3 g4 g5 g6 g7 g8 g9 g10 g11 g12 g13 g14 g15 g16 g17 g18 mo) s.heap.size = A at hD hE ⊢
  have hA : ∀ q : Nat, s.heap.size ≤ q → A q := fun q h => by rw [← hAe]; exact Or.inr h
  have hS : va_S A s.heap s.heap [] := va_S.rf
  have hl := lv_entry ([.ref (a 0), .int x0]) (n := 2) (Nat.le_of_ble_eq_true rfl)
  rw [lg_entry_eq]
  generalize (lg_sl ([.ref (a 0), .int x0]) ++ List.replicate (2 - (lg_sl ([.ref (a 0), .int x0])).length) Slot.unset).toArray = ls at hl ⊢
  have hl : lv_has ls 2 [(0, .ref (a 0)), (1, .int x0)] := hl
  generalize hQ : MQ below (va_Qi (fun r (_ : Unit) => r = rv) (kb_B D A (w_MO dA a q0 q1 g2 g3 g4 g5 g6 g7 g8 g9 g10 g11 g12 g13 g14 g15 g16 g17 g18 u0)) A) ([.ref (a 0), .int x0] : List Value).toArray s 0 0 A = Q
  show W p l e ({ frames := 1, cells := 0, slots := 0, locals := 21 } : Room) s m ([.ref (a 0), .int x0] : List Value).toArray below meth c s.heap [] 0 0 Q (F0 m 0 ls [])
  have RET : ∀ (r2 : Int32) (w0 : MOT) (H : Heap) (locs : List Loc) (ls : Array Slot) (pc : Nat), some (r2, w0) = some (rv, u0) → va_P D vwCl (w_MO dA a q0 q1 g2 g3 g4 g5 g6 g7 g8 g9 g10 g11 g12 g13 g14 g15 g16 g17 g18 w0) H → va_D A (w_MO dA a q0 q1 g2 g3 g4 g5 g6 g7 g8 g9 g10 g11 g12 g13 g14 g15 g16 g17 g18 w0) → va_S A s.heap H locs → decode cX12_lost pc = .ok (.ireturn, 1) → W p l e ({ frames := 1, cells := 0, slots := 0, locals := 21 } : Room) s m ([.ref (a 0), .int x0] : List Value).toArray below meth c H locs 0 0 Q (F0 m pc ls [.int r2]) := by
    intro r2 w0 H locs ls pc hq hP hD hS hd
    cases hq
    rw [← hQ]
    exact W.iret hx hb hr (fun t ht hW => ⟨⟨_, (), rfl, rfl, by rw [ht]; exact hP, hD⟩, hS.F ht⟩) hS.2.2 hd
  have B_6 : ∀ (z0 : MOT) (H : Heap) (locs : List Loc) (ls : Array Slot), f_X12_lost_b6 z0 = some (rv, u0) → va_P D vwCl (w_MO dA a q0 q1 g2 g3 g4 g5 g6 g7 g8 g9 g10 g11 g12 g13 g14 g15 g16 g17 g18 z0) H → va_D A (w_MO dA a q0 q1 g2 g3 g4 g5 g6 g7 g8 g9 g10 g11 g12 g13 g14 g15 g16 g17 g18 z0) → va_S A s.heap H locs → lv_has ls 2 [] → W p l e ({ frames := 1, cells := 0, slots := 0, locals := 21 } : Room) s m ([.ref (a 0), .int x0] : List Value).toArray below meth c H locs 0 0 Q (F0 m 6 ls []) := by
    intro z0 H locs ls hf hP hD hS hl
    rw [f_X12_lost_b6] at hf
    refine lv_sipush (v := (-1000 : Int32)) hx hb dX12_lost_6 (by decide) ?_
    exact RET _ _ H _ ls 9 hf hP hD hS dX12_lost_9
  have E0 : ∀ (H : Heap) (locs : List Loc), va_P D vwCl (w_MO dA a q0 q1 g2 g3 g4 g5 g6 g7 g8 g9 g10 g11 g12 g13 g14 g15 g16 g17 g18 mo) H → va_D A (w_MO dA a q0 q1 g2 g3 g4 g5 g6 g7 g8 g9 g10 g11 g12 g13 g14 g15 g16 g17 g18 mo) → va_S A s.heap H locs → W p l e ({ frames := 1, cells := 0, slots := 0, locals := 21 } : Room) s m ([.ref (a 0), .int x0] : List Value).toArray below meth c H locs 0 0 Q (F0 m 0 ls []) := by
    intro H locs hP hD hS
    rw [f_X12_lost] at hf
    refine lv_aload_n hx hb dX12_lost_0 rfl (lv_at hl 0 rfl) ?_
    refine lv_iload_n hx hb dX12_lost_1 rfl (lv_at hl 1 rfl) ?_
    obtain ⟨r1, hc1, hf⟩ := kb_bind hf
    refine kb_ci (ws2 := (w_MO dA a q0 q1 g2 g3 g4 g5 g6 g7 g8 g9 g10 g11 g12 g13 g14 g15 g16 g17 g18 r1.2)) (kb_rV (n := 1) (As := [.int x0]) (rest := []) hx hb hml hown hK (c_X12_refused l D dA H.size a q0 q1 g2 g3 g4 g5 g6 g7 g8 g9 g10 g11 g12 g13 g14 g15 g16 g17 g18 mo x0 r1.1 r1.2 hc1) ⟨ww_6_82, ww_6_79, ww_6_81, ws_46, ww_1_12, rfl, by decide, by decide⟩ rfl rfl (by decide +kernel) ⟨Nat.le_of_ble_eq_true rfl, Nat.le_of_ble_eq_true rfl⟩ hP hD hS hA hE [0] rfl (by decide) 0 rfl rfl rfl hl.1 rfl (Nat.le_of_ble_eq_true rfl) dX12_lost_2 ⟨Nat.le_of_ble_eq_true rfl, Nat.le_of_ble_eq_true rfl⟩) hP hD hS hA [0] [] [0] rfl rfl (by decide) (by decide) rfl (by decide) (fun H locs hP hD hS => ?_)
    refine lv_pop hx hb dX12_lost_5 rfl ?_
    exact B_6 _ _ _ _ hf hP hD hS (lv_sub hl [] rfl)
  exact E0 _ _ hP hD hS

noncomputable def f_X12_denied_b6 (z0 : MOT) : Option (Int32 × MOT) := some ((0 : Int32), z0)
noncomputable def f_X12_denied (mo : MOT) (x0 : Int32) : Option (Int32 × MOT) := (f_X12_refused mo x0).bind fun r1 => f_X12_denied_b6 r1.2
set_option maxHeartbeats 4000000 in
set_option maxRecDepth 100000 in
theorem c_X12_denied (l : Launch) (D : va_G) (dA : Nat → ClassId) (sz : Nat) (a : Nat → Nat) (q0 : Option Nat) (q1 : Option Nat) (g2 : Nat) (g3 : Nat) (g4 : Nat) (g5 : Nat) (g6 : Nat) (g7 : Nat) (g8 : Nat) (g9 : Nat) (g10 : Nat) (g11 : Nat) (g12 : Nat) (g13 : Nat) (g14 : Nat) (g15 : Nat) (g16 : Nat) (g17 : Nat) (g18 : Nat) (mo : MOT) (x0 : Int32) (rv : Int32) (u0 : MOT) (hf : f_X12_denied mo x0 = some (rv, u0)) : kb_Mi l yX12_denied cX12_denied 2 (some .boolean) ({ frames := 1, cells := 0, slots := 0, locals := 21 } : Room) D dA [.ref (a 0), .int x0] sz (w_MO dA a q0 q1 g2 g3 g4 g5 g6 g7 g8 g9 g10 g11 g12 g13 g14 g15 g16 g17 g18 mo) 0 0 rv (w_MO dA a q0 q1 g2 g3 g4 g5 g6 g7 g8 g9 g10 g11 g12 g13 g14 g15 g16 g17 g18 u0) := by
  refine Met.ofW (cc := cX12_denied) (maxL := 2) (ret := (some .boolean)) (by decide) rfl ?_
  intro p e s m args below meth c s₁ B hml hv
  obtain ⟨rfl, hsz, hP, hK, hD0, hE⟩ := hv
  have hx := B.exec
  have hb := B.bytes
  have hr := B.returns
  have hown : s.vm.findClass RX12 = some m.cls := findClass_of_methodNamed B.named
  have hlocks := B.notSynchronized
  have hts : ∀ w ∈ kb_gw, w.before ([.ref (a 0), .int x0] : List Value).toArray s = true := fun w hw => hK.2.1 w hw _
  subst hsz
  have hD := hD0.self (sz := s.heap.size)
  generalize hAe : va_A (w_MO dA a q0 q1 g2 g3 g4 g5 g6 g7 g8 g9 g10 g11 g12 g13 g14 g15 g16 g17 g18 mo) s.heap.size = A at hD hE ⊢
  have hA : ∀ q : Nat, s.heap.size ≤ q → A q := fun q h => by rw [← hAe]; exact Or.inr h
  have hS : va_S A s.heap s.heap [] := va_S.rf
  have hl := lv_entry ([.ref (a 0), .int x0]) (n := 2) (Nat.le_of_ble_eq_true rfl)
  rw [lg_entry_eq]
  generalize (lg_sl ([.ref (a 0), .int x0]) ++ List.replicate (2 - (lg_sl ([.ref (a 0), .int x0])).length) Slot.unset).toArray = ls at hl ⊢
  have hl : lv_has ls 2 [(0, .ref (a 0)), (1, .int x0)] := hl
  generalize hQ : MQ below (va_Qi (fun r (_ : Unit) => r = rv) (kb_B D A (w_MO dA a q0 q1 g2 g3 g4 g5 g6 g7 g8 g9 g10 g11 g12 g13 g14 g15 g16 g17 g18 u0)) A) ([.ref (a 0), .int x0] : List Value).toArray s 0 0 A = Q
  show W p l e ({ frames := 1, cells := 0, slots := 0, locals := 21 } : Room) s m ([.ref (a 0), .int x0] : List Value).toArray below meth c s.heap [] 0 0 Q (F0 m 0 ls [])
  have RET : ∀ (r2 : Int32) (w0 : MOT) (H : Heap) (locs : List Loc) (ls : Array Slot) (pc : Nat), some (r2, w0) = some (rv, u0) → va_P D vwCl (w_MO dA a q0 q1 g2 g3 g4 g5 g6 g7 g8 g9 g10 g11 g12 g13 g14 g15 g16 g17 g18 w0) H → va_D A (w_MO dA a q0 q1 g2 g3 g4 g5 g6 g7 g8 g9 g10 g11 g12 g13 g14 g15 g16 g17 g18 w0) → va_S A s.heap H locs → kb_01 r2 → decode cX12_denied pc = .ok (.ireturn, 1) → W p l e ({ frames := 1, cells := 0, slots := 0, locals := 21 } : Room) s m ([.ref (a 0), .int x0] : List Value).toArray below meth c H locs 0 0 Q (F0 m pc ls [.int r2]) := by
    intro r2 w0 H locs ls pc hq hP hD hS h01 hd
    cases hq
    rw [← hQ]
    exact W.zret (ty := .boolean) hx hb hr (kb_nz h01) (fun t ht hW => ⟨⟨_, (), rfl, rfl, by rw [ht]; exact hP, hD⟩, hS.F ht⟩) hS.2.2 hd
  have B_6 : ∀ (z0 : MOT) (H : Heap) (locs : List Loc) (ls : Array Slot), f_X12_denied_b6 z0 = some (rv, u0) → va_P D vwCl (w_MO dA a q0 q1 g2 g3 g4 g5 g6 g7 g8 g9 g10 g11 g12 g13 g14 g15 g16 g17 g18 z0) H → va_D A (w_MO dA a q0 q1 g2 g3 g4 g5 g6 g7 g8 g9 g10 g11 g12 g13 g14 g15 g16 g17 g18 z0) → va_S A s.heap H locs → lv_has ls 2 [] → W p l e ({ frames := 1, cells := 0, slots := 0, locals := 21 } : Room) s m ([.ref (a 0), .int x0] : List Value).toArray below meth c H locs 0 0 Q (F0 m 6 ls []) := by
    intro z0 H locs ls hf hP hD hS hl
    rw [f_X12_denied_b6] at hf
    refine lv_iconst (v := (0 : Int32)) hx hb dX12_denied_6 (by decide) ?_
    exact RET _ _ H _ ls 7 hf hP hD hS (by decide) dX12_denied_7
  have E0 : ∀ (H : Heap) (locs : List Loc), va_P D vwCl (w_MO dA a q0 q1 g2 g3 g4 g5 g6 g7 g8 g9 g10 g11 g12 g13 g14 g15 g16 g17 g18 mo) H → va_D A (w_MO dA a q0 q1 g2 g3 g4 g5 g6 g7 g8 g9 g10 g11 g12 g13 g14 g15 g16 g17 g18 mo) → va_S A s.heap H locs → W p l e ({ frames := 1, cells := 0, slots := 0, locals := 21 } : Room) s m ([.ref (a 0), .int x0] : List Value).toArray below meth c H locs 0 0 Q (F0 m 0 ls []) := by
    intro H locs hP hD hS
    rw [f_X12_denied] at hf
    refine lv_aload_n hx hb dX12_denied_0 rfl (lv_at hl 0 rfl) ?_
    refine lv_iload_n hx hb dX12_denied_1 rfl (lv_at hl 1 rfl) ?_
    obtain ⟨r1, hc1, hf⟩ := kb_bind hf
    refine kb_ci (ws2 := (w_MO dA a q0 q1 g2 g3 g4 g5 g6 g7 g8 g9 g10 g11 g12 g13 g14 g15 g16 g17 g18 r1.2)) (kb_rV (n := 1) (As := [.int x0]) (rest := []) hx hb hml hown hK (c_X12_refused l D dA H.size a q0 q1 g2 g3 g4 g5 g6 g7 g8 g9 g10 g11 g12 g13 g14 g15 g16 g17 g18 mo x0 r1.1 r1.2 hc1) ⟨ww_6_82, ww_6_79, ww_6_81, ws_46, ww_1_12, rfl, by decide, by decide⟩ rfl rfl (by decide +kernel) ⟨Nat.le_of_ble_eq_true rfl, Nat.le_of_ble_eq_true rfl⟩ hP hD hS hA hE [0] rfl (by decide) 0 rfl rfl rfl hl.1 rfl (Nat.le_of_ble_eq_true rfl) dX12_denied_2 ⟨Nat.le_of_ble_eq_true rfl, Nat.le_of_ble_eq_true rfl⟩) hP hD hS hA [0] [] [0] rfl rfl (by decide) (by decide) rfl (by decide) (fun H locs hP hD hS => ?_)
    refine lv_pop hx hb dX12_denied_5 rfl ?_
    exact B_6 _ _ _ _ hf hP hD hS (lv_sub hl [] rfl)
  exact E0 _ _ hP hD hS

noncomputable def f_X12_done_b10 (v1 : Int32) (z0 : MOT) : Option (Int32 × MOT) := some (v1, z0)
noncomputable def f_X12_done_b5 (v1 : Int32) (z0 : MOT) : Option (Int32 × MOT) := f_X12_done_b10 v1 (mo_set_where z0 (-1 : Int32))
noncomputable def f_X12_done (mo : MOT) (x0 : Int32) : Option (Int32 × MOT) := f_X12_done_b5 x0 (mo_set_trouble mo (0 : Int32))
set_option maxHeartbeats 4000000 in
set_option maxRecDepth 100000 in
theorem c_X12_done (l : Launch) (D : va_G) (dA : Nat → ClassId) (sz : Nat) (a : Nat → Nat) (q0 : Option Nat) (q1 : Option Nat) (g2 : Nat) (g3 : Nat) (g4 : Nat) (g5 : Nat) (g6 : Nat) (g7 : Nat) (g8 : Nat) (g9 : Nat) (g10 : Nat) (g11 : Nat) (g12 : Nat) (g13 : Nat) (g14 : Nat) (g15 : Nat) (g16 : Nat) (g17 : Nat) (g18 : Nat) (mo : MOT) (x0 : Int32) (rv : Int32) (u0 : MOT) (hf : f_X12_done mo x0 = some (rv, u0)) : kb_Mi l yX12_done cX12_done 2 (some .int) ({ frames := 0, cells := 0, slots := 0, locals := 0 } : Room) D dA [.ref (a 0), .int x0] sz (w_MO dA a q0 q1 g2 g3 g4 g5 g6 g7 g8 g9 g10 g11 g12 g13 g14 g15 g16 g17 g18 mo) 0 0 rv (w_MO dA a q0 q1 g2 g3 g4 g5 g6 g7 g8 g9 g10 g11 g12 g13 g14 g15 g16 g17 g18 u0) := by
  refine Met.ofW (cc := cX12_done) (maxL := 2) (ret := (some .int)) (by decide) rfl ?_
  intro p e s m args below meth c s₁ B hml hv
  obtain ⟨rfl, hsz, hP, hK, hD0, hE⟩ := hv
  have hx := B.exec
  have hb := B.bytes
  have hr := B.returns
  have hown : s.vm.findClass RX12 = some m.cls := findClass_of_methodNamed B.named
  have hlocks := B.notSynchronized
  have hts : ∀ w ∈ kb_gw, w.before ([.ref (a 0), .int x0] : List Value).toArray s = true := fun w hw => hK.2.1 w hw _
  subst hsz
  have hD := hD0.self (sz := s.heap.size)
  generalize hAe : va_A (w_MO dA a q0 q1 g2 g3 g4 g5 g6 g7 g8 g9 g10 g11 g12 g13 g14 g15 g16 g17 g18 mo) s.heap.size = A at hD hE ⊢
  have hA : ∀ q : Nat, s.heap.size ≤ q → A q := fun q h => by rw [← hAe]; exact Or.inr h
  have hS : va_S A s.heap s.heap [] := va_S.rf
  have hl := lv_entry ([.ref (a 0), .int x0]) (n := 2) (Nat.le_of_ble_eq_true rfl)
  rw [lg_entry_eq]
  generalize (lg_sl ([.ref (a 0), .int x0]) ++ List.replicate (2 - (lg_sl ([.ref (a 0), .int x0])).length) Slot.unset).toArray = ls at hl ⊢
  have hl : lv_has ls 2 [(0, .ref (a 0)), (1, .int x0)] := hl
  generalize hQ : MQ below (va_Qi (fun r (_ : Unit) => r = rv) (kb_B D A (w_MO dA a q0 q1 g2 g3 g4 g5 g6 g7 g8 g9 g10 g11 g12 g13 g14 g15 g16 g17 g18 u0)) A) ([.ref (a 0), .int x0] : List Value).toArray s 0 0 A = Q
  show W p l e ({ frames := 0, cells := 0, slots := 0, locals := 0 } : Room) s m ([.ref (a 0), .int x0] : List Value).toArray below meth c s.heap [] 0 0 Q (F0 m 0 ls [])
  have RET : ∀ (r2 : Int32) (w0 : MOT) (H : Heap) (locs : List Loc) (ls : Array Slot) (pc : Nat), some (r2, w0) = some (rv, u0) → va_P D vwCl (w_MO dA a q0 q1 g2 g3 g4 g5 g6 g7 g8 g9 g10 g11 g12 g13 g14 g15 g16 g17 g18 w0) H → va_D A (w_MO dA a q0 q1 g2 g3 g4 g5 g6 g7 g8 g9 g10 g11 g12 g13 g14 g15 g16 g17 g18 w0) → va_S A s.heap H locs → decode cX12_done pc = .ok (.ireturn, 1) → W p l e ({ frames := 0, cells := 0, slots := 0, locals := 0 } : Room) s m ([.ref (a 0), .int x0] : List Value).toArray below meth c H locs 0 0 Q (F0 m pc ls [.int r2]) := by
    intro r2 w0 H locs ls pc hq hP hD hS hd
    cases hq
    rw [← hQ]
    exact W.iret hx hb hr (fun t ht hW => ⟨⟨_, (), rfl, rfl, by rw [ht]; exact hP, hD⟩, hS.F ht⟩) hS.2.2 hd
  have B_10 : ∀ (v1 : Int32) (z0 : MOT) (H : Heap) (locs : List Loc) (ls : Array Slot), f_X12_done_b10 v1 z0 = some (rv, u0) → va_P D vwCl (w_MO dA a q0 q1 g2 g3 g4 g5 g6 g7 g8 g9 g10 g11 g12 g13 g14 g15 g16 g17 g18 z0) H → va_D A (w_MO dA a q0 q1 g2 g3 g4 g5 g6 g7 g8 g9 g10 g11 g12 g13 g14 g15 g16 g17 g18 z0) → va_S A s.heap H locs → lv_has ls 2 [(1, .int v1)] → W p l e ({ frames := 0, cells := 0, slots := 0, locals := 0 } : Room) s m ([.ref (a 0), .int x0] : List Value).toArray below meth c H locs 0 0 Q (F0 m 10 ls []) := by
    intro v1 z0 H locs ls hf hP hD hS hl
    rw [f_X12_done_b10] at hf
    refine lv_iload_n hx hb dX12_done_10 rfl (lv_at hl 0 rfl) ?_
    exact RET _ _ H _ ls 11 hf hP hD hS dX12_done_11
  have B_5 : ∀ (v1 : Int32) (z0 : MOT) (H : Heap) (locs : List Loc) (ls : Array Slot), f_X12_done_b5 v1 z0 = some (rv, u0) → va_P D vwCl (w_MO dA a q0 q1 g2 g3 g4 g5 g6 g7 g8 g9 g10 g11 g12 g13 g14 g15 g16 g17 g18 z0) H → va_D A (w_MO dA a q0 q1 g2 g3 g4 g5 g6 g7 g8 g9 g10 g11 g12 g13 g14 g15 g16 g17 g18 z0) → va_S A s.heap H locs → lv_has ls 2 [(0, .ref (a 0)), (1, .int v1)] → W p l e ({ frames := 0, cells := 0, slots := 0, locals := 0 } : Room) s m ([.ref (a 0), .int x0] : List Value).toArray below meth c H locs 0 0 Q (F0 m 5 ls []) := by
    intro v1 z0 H locs ls hf hP hD hS hl
    rw [f_X12_done_b5] at hf
    refine lv_aload_n hx hb dX12_done_5 rfl (lv_at hl 0 rfl) ?_
    refine lv_iconst (v := (-1 : Int32)) hx hb dX12_done_6 (by decide) ?_
    refine va_put (D := D) (ci := 12) (v := .int (-1 : Int32)) (ty := .int) (C := RX12) (T := TX12) (N := 35) hx hb hts kb_inX12 tyX12 tyX12_ok nmX12 hown hK.1 hP hD hS 0 rfl rfl 2 (by decide) (hK.2.w ww_5_202 rfl _) (fun _ h9 => h9) rfl (by decide +kernel) rfl rfl (Nat.le_of_ble_eq_true rfl) dX12_done_7 (fun H locs hP hD hS => ?_)
    have hP : va_P D vwCl (w_MO dA a q0 q1 g2 g3 g4 g5 g6 g7 g8 g9 g10 g11 g12 g13 g14 g15 g16 g17 g18 (mo_set_where z0 (-1 : Int32))) H := hP
    have hD : va_D A (w_MO dA a q0 q1 g2 g3 g4 g5 g6 g7 g8 g9 g10 g11 g12 g13 g14 g15 g16 g17 g18 (mo_set_where z0 (-1 : Int32))) := hD
    exact B_10 _ _ _ _ _ hf hP hD hS (lv_sub hl [1] rfl)
  have E0 : ∀ (H : Heap) (locs : List Loc), va_P D vwCl (w_MO dA a q0 q1 g2 g3 g4 g5 g6 g7 g8 g9 g10 g11 g12 g13 g14 g15 g16 g17 g18 mo) H → va_D A (w_MO dA a q0 q1 g2 g3 g4 g5 g6 g7 g8 g9 g10 g11 g12 g13 g14 g15 g16 g17 g18 mo) → va_S A s.heap H locs → W p l e ({ frames := 0, cells := 0, slots := 0, locals := 0 } : Room) s m ([.ref (a 0), .int x0] : List Value).toArray below meth c H locs 0 0 Q (F0 m 0 ls []) := by
    intro H locs hP hD hS
    rw [f_X12_done] at hf
    refine lv_aload_n hx hb dX12_done_0 rfl (lv_at hl 0 rfl) ?_
    refine lv_iconst (v := (0 : Int32)) hx hb dX12_done_1 (by decide) ?_
    refine va_put (D := D) (ci := 12) (v := .int (0 : Int32)) (ty := .int) (C := RX12) (T := TX12) (N := 35) hx hb hts kb_inX12 tyX12 tyX12_ok nmX12 hown hK.1 hP hD hS 0 rfl rfl 1 (by decide) (hK.2.w ww_5_201 rfl _) (fun _ h9 => h9) rfl (by decide +kernel) rfl rfl (Nat.le_of_ble_eq_true rfl) dX12_done_2 (fun H locs hP hD hS => ?_)
    have hP : va_P D vwCl (w_MO dA a q0 q1 g2 g3 g4 g5 g6 g7 g8 g9 g10 g11 g12 g13 g14 g15 g16 g17 g18 (mo_set_trouble mo (0 : Int32))) H := hP
    have hD : va_D A (w_MO dA a q0 q1 g2 g3 g4 g5 g6 g7 g8 g9 g10 g11 g12 g13 g14 g15 g16 g17 g18 (mo_set_trouble mo (0 : Int32))) := hD
    exact B_5 _ _ _ _ _ hf hP hD hS (lv_sub hl [0, 1] rfl)
  exact E0 _ _ hP hD hS

noncomputable def f_X12_doneLong_b6 (v1 : Int64) (z0 : MOT) : Option (Int64 × MOT) := some (v1, z0)
noncomputable def f_X12_doneLong (mo : MOT) (x0 : Int64) : Option (Int64 × MOT) := (f_X12_done mo (0 : Int32)).bind fun r1 => f_X12_doneLong_b6 x0 r1.2
set_option maxHeartbeats 4000000 in
set_option maxRecDepth 100000 in
theorem c_X12_doneLong (l : Launch) (D : va_G) (dA : Nat → ClassId) (sz : Nat) (a : Nat → Nat) (q0 : Option Nat) (q1 : Option Nat) (g2 : Nat) (g3 : Nat) (g4 : Nat) (g5 : Nat) (g6 : Nat) (g7 : Nat) (g8 : Nat) (g9 : Nat) (g10 : Nat) (g11 : Nat) (g12 : Nat) (g13 : Nat) (g14 : Nat) (g15 : Nat) (g16 : Nat) (g17 : Nat) (g18 : Nat) (mo : MOT) (x0 : Int64) (rv : Int64) (u0 : MOT) (hf : f_X12_doneLong mo x0 = some (rv, u0)) : kb_Ml l yX12_doneLong cX12_doneLong 3 (some .long) ({ frames := 1, cells := 0, slots := 0, locals := 21 } : Room) D dA [.ref (a 0), .long x0] sz (w_MO dA a q0 q1 g2 g3 g4 g5 g6 g7 g8 g9 g10 g11 g12 g13 g14 g15 g16 g17 g18 mo) 0 0 rv (w_MO dA a q0 q1 g2 g3 g4 g5 g6 g7 g8 g9 g10 g11 g12 g13 g14 g15 g16 g17 g18 u0) := by
  refine Met.ofW (cc := cX12_doneLong) (maxL := 3) (ret := (some .long)) (by decide) rfl ?_
  intro p e s m args below meth c s₁ B hml hv
  obtain ⟨rfl, hsz, hP, hK, hD0, hE⟩ := hv
  have hx := B.exec
  have hb := B.bytes
  have hr := B.returns
  have hown : s.vm.findClass RX12 = some m.cls := findClass_of_methodNamed B.named
  have hlocks := B.notSynchronized
  have hts : ∀ w ∈ kb_gw, w.before ([.ref (a 0), .long x0] : List Value).toArray s = true := fun w hw => hK.2.1 w hw _
  subst hsz
  have hD := hD0.self (sz := s.heap.size)
  generalize hAe : va_A (w_MO dA a q0 q1 g2 g3 g4 g5 g6 g7 g8 g9 g10 g11 g12 g13 g14 g15 g16 g17 g18 mo) s.heap.size = A at hD hE ⊢
  have hA : ∀ q : Nat, s.heap.size ≤ q → A q := fun q h => by rw [← hAe]; exact Or.inr h
  have hS : va_S A s.heap s.heap [] := va_S.rf
  have hl := lv_entry ([.ref (a 0), .long x0]) (n := 3) (Nat.le_of_ble_eq_true rfl)
  rw [lg_entry_eq]
  generalize (lg_sl ([.ref (a 0), .long x0]) ++ List.replicate (3 - (lg_sl ([.ref (a 0), .long x0])).length) Slot.unset).toArray = ls at hl ⊢
  have hl : lv_has ls 3 [(0, .ref (a 0)), (1, .long x0)] := hl
  generalize hQ : MQ below (va_Ql (fun r (_ : Unit) => r = rv) (kb_B D A (w_MO dA a q0 q1 g2 g3 g4 g5 g6 g7 g8 g9 g10 g11 g12 g13 g14 g15 g16 g17 g18 u0)) A) ([.ref (a 0), .long x0] : List Value).toArray s 0 0 A = Q
  show W p l e ({ frames := 1, cells := 0, slots := 0, locals := 21 } : Room) s m ([.ref (a 0), .long x0] : List Value).toArray below meth c s.heap [] 0 0 Q (F0 m 0 ls [])
  have RET : ∀ (r2 : Int64) (w0 : MOT) (H : Heap) (locs : List Loc) (ls : Array Slot) (pc : Nat), some (r2, w0) = some (rv, u0) → va_P D vwCl (w_MO dA a q0 q1 g2 g3 g4 g5 g6 g7 g8 g9 g10 g11 g12 g13 g14 g15 g16 g17 g18 w0) H → va_D A (w_MO dA a q0 q1 g2 g3 g4 g5 g6 g7 g8 g9 g10 g11 g12 g13 g14 g15 g16 g17 g18 w0) → va_S A s.heap H locs → decode cX12_doneLong pc = .ok (.lreturn, 1) → W p l e ({ frames := 1, cells := 0, slots := 0, locals := 21 } : Room) s m ([.ref (a 0), .long x0] : List Value).toArray below meth c H locs 0 0 Q (F0 m pc ls [.long r2]) := by
    intro r2 w0 H locs ls pc hq hP hD hS hd
    cases hq
    rw [← hQ]
    exact W.lret hx hb hr (fun t ht hW => ⟨⟨_, (), rfl, rfl, by rw [ht]; exact hP, hD⟩, hS.F ht⟩) hS.2.2 hd
  have B_6 : ∀ (v1 : Int64) (z0 : MOT) (H : Heap) (locs : List Loc) (ls : Array Slot), f_X12_doneLong_b6 v1 z0 = some (rv, u0) → va_P D vwCl (w_MO dA a q0 q1 g2 g3 g4 g5 g6 g7 g8 g9 g10 g11 g12 g13 g14 g15 g16 g17 g18 z0) H → va_D A (w_MO dA a q0 q1 g2 g3 g4 g5 g6 g7 g8 g9 g10 g11 g12 g13 g14 g15 g16 g17 g18 z0) → va_S A s.heap H locs → lv_has ls 3 [(1, .long v1)] → W p l e ({ frames := 1, cells := 0, slots := 0, locals := 21 } : Room) s m ([.ref (a 0), .long x0] : List Value).toArray below meth c H locs 0 0 Q (F0 m 6 ls []) := by
    intro v1 z0 H locs ls hf hP hD hS hl
    rw [f_X12_doneLong_b6] at hf
    refine lv_lload_n hx hb dX12_doneLong_6 rfl (lv_at hl 0 rfl) ?_
    exact RET _ _ H _ ls 7 hf hP hD hS dX12_doneLong_7
  have E0 : ∀ (H : Heap) (locs : List Loc), va_P D vwCl (w_MO dA a q0 q1 g2 g3 g4 g5 g6 g7 g8 g9 g10 g11 g12 g13 g14 g15 g16 g17 g18 mo) H → va_D A (w_MO dA a q0 q1 g2 g3 g4 g5 g6 g7 g8 g9 g10 g11 g12 g13 g14 g15 g16 g17 g18 mo) → va_S A s.heap H locs → W p l e ({ frames := 1, cells := 0, slots := 0, locals := 21 } : Room) s m ([.ref (a 0), .long x0] : List Value).toArray below meth c H locs 0 0 Q (F0 m 0 ls []) := by
    intro H locs hP hD hS
    rw [f_X12_doneLong] at hf
    refine lv_aload_n hx hb dX12_doneLong_0 rfl (lv_at hl 0 rfl) ?_
    refine lv_iconst (v := (0 : Int32)) hx hb dX12_doneLong_1 (by decide) ?_
    obtain ⟨r1, hc1, hf⟩ := kb_bind hf
    refine kb_ci (ws2 := (w_MO dA a q0 q1 g2 g3 g4 g5 g6 g7 g8 g9 g10 g11 g12 g13 g14 g15 g16 g17 g18 r1.2)) (kb_rV (n := 1) (As := [.int (0 : Int32)]) (rest := []) hx hb hml hown hK (c_X12_done l D dA H.size a q0 q1 g2 g3 g4 g5 g6 g7 g8 g9 g10 g11 g12 g13 g14 g15 g16 g17 g18 mo (0 : Int32) r1.1 r1.2 hc1) ⟨ww_7_100, ww_7_97, ww_7_99, ws_71, ww_1_12, rfl, by decide, by decide⟩ rfl rfl (by decide +kernel) ⟨Nat.le_of_ble_eq_true rfl, Nat.le_of_ble_eq_true rfl⟩ hP hD hS hA hE [0] rfl (by decide) 0 rfl rfl rfl hl.1 rfl (Nat.le_of_ble_eq_true rfl) dX12_doneLong_2 ⟨Nat.le_of_ble_eq_true rfl, Nat.le_of_ble_eq_true rfl⟩) hP hD hS hA [0] [] [0] rfl rfl (by decide) (by decide) rfl (by decide) (fun H locs hP hD hS => ?_)
    refine lv_pop hx hb dX12_doneLong_5 rfl ?_
    exact B_6 _ _ _ _ _ hf hP hD hS (lv_sub hl [1] rfl)
  exact E0 _ _ hP hD hS

noncomputable def f_X12_granted_b6 (z0 : MOT) : Option (Int32 × MOT) := some ((1 : Int32), z0)
noncomputable def f_X12_granted (mo : MOT) : Option (Int32 × MOT) := (f_X12_done mo (0 : Int32)).bind fun r1 => f_X12_granted_b6 r1.2
set_option maxHeartbeats 4000000 in
set_option maxRecDepth 100000 in
theorem c_X12_granted (l : Launch) (D : va_G) (dA : Nat → ClassId) (sz : Nat) (a : Nat → Nat) (q0 : Option Nat) (q1 : Option Nat) (g2 : Nat) (g3 : Nat) (g4 : Nat) (g5 : Nat) (g6 : Nat) (g7 : Nat) (g8 : Nat) (g9 : Nat) (g10 : Nat) (g11 : Nat) (g12 : Nat) (g13 : Nat) (g14 : Nat) (g15 : Nat) (g16 : Nat) (g17 : Nat) (g18 : Nat) (mo : MOT) (rv : Int32) (u0 : MOT) (hf : f_X12_granted mo = some (rv, u0)) : kb_Mi l yX12_granted cX12_granted 1 (some .boolean) ({ frames := 1, cells := 0, slots := 0, locals := 21 } : Room) D dA [.ref (a 0)] sz (w_MO dA a q0 q1 g2 g3 g4 g5 g6 g7 g8 g9 g10 g11 g12 g13 g14 g15 g16 g17 g18 mo) 0 0 rv (w_MO dA a q0 q1 g2 g3 g4 g5 g6 g7 g8 g9 g10 g11 g12 g13 g14 g15 g16 g17 g18 u0) := by
  refine Met.ofW (cc := cX12_granted) (maxL := 1) (ret := (some .boolean)) (by decide) rfl ?_
  intro p e s m args below meth c s₁ B hml hv
  obtain ⟨rfl, hsz, hP, hK, hD0, hE⟩ := hv
  have hx := B.exec
  have hb := B.bytes
  have hr := B.returns
  have hown : s.vm.findClass RX12 = some m.cls := findClass_of_methodNamed B.named
  have hlocks := B.notSynchronized
  have hts : ∀ w ∈ kb_gw, w.before ([.ref (a 0)] : List Value).toArray s = true := fun w hw => hK.2.1 w hw _
  subst hsz
  have hD := hD0.self (sz := s.heap.size)
  generalize hAe : va_A (w_MO dA a q0 q1 g2 g3 g4 g5 g6 g7 g8 g9 g10 g11 g12 g13 g14 g15 g16 g17 g18 mo) s.heap.size = A at hD hE ⊢
  have hA : ∀ q : Nat, s.heap.size ≤ q → A q := fun q h => by rw [← hAe]; exact Or.inr h
  have hS : va_S A s.heap s.heap [] := va_S.rf
  have hl := lv_entry ([.ref (a 0)]) (n := 1) (Nat.le_of_ble_eq_true rfl)
  rw [lg_entry_eq]
  generalize (lg_sl ([.ref (a 0)]) ++ List.replicate (1 - (lg_sl ([.ref (a 0)])).length) Slot.unset).toArray = ls at hl ⊢
  have hl : lv_has ls 1 [(0, .ref (a 0))] := hl
  generalize hQ : MQ below (va_Qi (fun r (_ : Unit) => r = rv) (kb_B D A (w_MO dA a q0 q1 g2 g3 g4 g5 g6 g7 g8 g9 g10 g11 g12 g13 g14 g15 g16 g17 g18 u0)) A) ([.ref (a 0)] : List Value).toArray s 0 0 A = Q
  show W p l e ({ frames := 1, cells := 0, slots := 0, locals := 21 } : Room) s m ([.ref (a 0)] : List Value).toArray below meth c s.heap [] 0 0 Q (F0 m 0 ls [])
  have RET : ∀ (r2 : Int32) (w0 : MOT) (H : Heap) (locs : List Loc) (ls : Array Slot) (pc : Nat), some (r2, w0) = some (rv, u0) → va_P D vwCl (w_MO dA a q0 q1 g2 g3 g4 g5 g6 g7 g8 g9 g10 g11 g12 g13 g14 g15 g16 g17 g18 w0) H → va_D A (w_MO dA a q0 q1 g2 g3 g4 g5 g6 g7 g8 g9 g10 g11 g12 g13 g14 g15 g16 g17 g18 w0) → va_S A s.heap H locs → kb_01 r2 → decode cX12_granted pc = .ok (.ireturn, 1) → W p l e ({ frames := 1, cells := 0, slots := 0, locals := 21 } : Room) s m ([.ref (a 0)] : List Value).toArray below meth c H locs 0 0 Q (F0 m pc ls [.int r2]) := by
    intro r2 w0 H locs ls pc hq hP hD hS h01 hd
    cases hq
    rw [← hQ]
    exact W.zret (ty := .boolean) hx hb hr (kb_nz h01) (fun t ht hW => ⟨⟨_, (), rfl, rfl, by rw [ht]; exact hP, hD⟩, hS.F ht⟩) hS.2.2 hd
  have B_6 : ∀ (z0 : MOT) (H : Heap) (locs : List Loc) (ls : Array Slot), f_X12_granted_b6 z0 = some (rv, u0) → va_P D vwCl (w_MO dA a q0 q1 g2 g3 g4 g5 g6 g7 g8 g9 g10 g11 g12 g13 g14 g15 g16 g17 g18 z0) H → va_D A (w_MO dA a q0 q1 g2 g3 g4 g5 g6 g7 g8 g9 g10 g11 g12 g13 g14 g15 g16 g17 g18 z0) → va_S A s.heap H locs → lv_has ls 1 [] → W p l e ({ frames := 1, cells := 0, slots := 0, locals := 21 } : Room) s m ([.ref (a 0)] : List Value).toArray below meth c H locs 0 0 Q (F0 m 6 ls []) := by
    intro z0 H locs ls hf hP hD hS hl
    rw [f_X12_granted_b6] at hf
    refine lv_iconst (v := (1 : Int32)) hx hb dX12_granted_6 (by decide) ?_
    exact RET _ _ H _ ls 7 hf hP hD hS (by decide) dX12_granted_7
  have E0 : ∀ (H : Heap) (locs : List Loc), va_P D vwCl (w_MO dA a q0 q1 g2 g3 g4 g5 g6 g7 g8 g9 g10 g11 g12 g13 g14 g15 g16 g17 g18 mo) H → va_D A (w_MO dA a q0 q1 g2 g3 g4 g5 g6 g7 g8 g9 g10 g11 g12 g13 g14 g15 g16 g17 g18 mo) → va_S A s.heap H locs → W p l e ({ frames := 1, cells := 0, slots := 0, locals := 21 } : Room) s m ([.ref (a 0)] : List Value).toArray below meth c H locs 0 0 Q (F0 m 0 ls []) := by
    intro H locs hP hD hS
    rw [f_X12_granted] at hf
    refine lv_aload_n hx hb dX12_granted_0 rfl (lv_at hl 0 rfl) ?_
    refine lv_iconst (v := (0 : Int32)) hx hb dX12_granted_1 (by decide) ?_
    obtain ⟨r1, hc1, hf⟩ := kb_bind hf
    refine kb_ci (ws2 := (w_MO dA a q0 q1 g2 g3 g4 g5 g6 g7 g8 g9 g10 g11 g12 g13 g14 g15 g16 g17 g18 r1.2)) (kb_rV (n := 1) (As := [.int (0 : Int32)]) (rest := []) hx hb hml hown hK (c_X12_done l D dA H.size a q0 q1 g2 g3 g4 g5 g6 g7 g8 g9 g10 g11 g12 g13 g14 g15 g16 g17 g18 mo (0 : Int32) r1.1 r1.2 hc1) ⟨ww_7_100, ww_7_97, ww_7_99, ws_71, ww_1_12, rfl, by decide, by decide⟩ rfl rfl (by decide +kernel) ⟨Nat.le_of_ble_eq_true rfl, Nat.le_of_ble_eq_true rfl⟩ hP hD hS hA hE [0] rfl (by decide) 0 rfl rfl rfl hl.1 rfl (Nat.le_of_ble_eq_true rfl) dX12_granted_2 ⟨Nat.le_of_ble_eq_true rfl, Nat.le_of_ble_eq_true rfl⟩) hP hD hS hA [0] [] [0] rfl rfl (by decide) (by decide) rfl (by decide) (fun H locs hP hD hS => ?_)
    refine lv_pop hx hb dX12_granted_5 rfl ?_
    exact B_6 _ _ _ _ hf hP hD hS (lv_sub hl [] rfl)
  exact E0 _ _ hP hD hS

noncomputable def f_X12_in_b14  : Option (Int32) := some ((0 : Int32))
noncomputable def f_X12_in (x0 : Int32) (x1 : Int32) (x2 : Int32) : Option (Int32) := (if x0 < x1 then f_X12_in_b14  else (if x2 < x0 then f_X12_in_b14  else some ((1 : Int32))))
set_option maxHeartbeats 4000000 in
set_option maxRecDepth 100000 in
theorem c_X12_in (l : Launch) (D : va_G) (dA : Nat → ClassId) (sz : Nat) (x0 : Int32) (x1 : Int32) (x2 : Int32) (rv : Int32) (hf : f_X12_in x0 x1 x2 = some (rv)) : kb_Mi l yX12_in cX12_in 3 (some .boolean) ({ frames := 0, cells := 0, slots := 0, locals := 0 } : Room) D dA [.int x0, .int x1, .int x2] sz ([] : va_W) 0 0 rv ([] : va_W) := by
  refine Met.ofW (cc := cX12_in) (maxL := 3) (ret := (some .boolean)) (by decide) rfl ?_
  intro p e s m args below meth c s₁ B hml hv
  obtain ⟨rfl, hsz, hP, hK, hD0, hE⟩ := hv
  have hx := B.exec
  have hb := B.bytes
  have hr := B.returns
  have hown : s.vm.findClass RX12 = some m.cls := findClass_of_methodNamed B.named
  have hlocks := B.notSynchronized
  have hts : ∀ w ∈ kb_gw, w.before ([.int x0, .int x1, .int x2] : List Value).toArray s = true := fun w hw => hK.2.1 w hw _
  subst hsz
  have hD := hD0.self (sz := s.heap.size)
  generalize hAe : va_A ([] : va_W) s.heap.size = A at hD hE ⊢
  have hA : ∀ q : Nat, s.heap.size ≤ q → A q := fun q h => by rw [← hAe]; exact Or.inr h
  have hS : va_S A s.heap s.heap [] := va_S.rf
  have hl := lv_entry ([.int x0, .int x1, .int x2]) (n := 3) (Nat.le_of_ble_eq_true rfl)
  rw [lg_entry_eq]
  generalize (lg_sl ([.int x0, .int x1, .int x2]) ++ List.replicate (3 - (lg_sl ([.int x0, .int x1, .int x2])).length) Slot.unset).toArray = ls at hl ⊢
  have hl : lv_has ls 3 [(0, .int x0), (1, .int x1), (2, .int x2)] := hl
  generalize hQ : MQ below (va_Qi (fun r (_ : Unit) => r = rv) (kb_B D A ([] : va_W)) A) ([.int x0, .int x1, .int x2] : List Value).toArray s 0 0 A = Q
  show W p l e ({ frames := 0, cells := 0, slots := 0, locals := 0 } : Room) s m ([.int x0, .int x1, .int x2] : List Value).toArray below meth c s.heap [] 0 0 Q (F0 m 0 ls [])
  have RET : ∀ (r2 : Int32) (H : Heap) (locs : List Loc) (ls : Array Slot) (pc : Nat), some (r2) = some (rv) → va_P D vwCl ([] : va_W) H → va_D A ([] : va_W) → va_S A s.heap H locs → kb_01 r2 → decode cX12_in pc = .ok (.ireturn, 1) → W p l e ({ frames := 0, cells := 0, slots := 0, locals := 0 } : Room) s m ([.int x0, .int x1, .int x2] : List Value).toArray below meth c H locs 0 0 Q (F0 m pc ls [.int r2]) := by
    intro r2 H locs ls pc hq hP hD hS h01 hd
    cases hq
    rw [← hQ]
    exact W.zret (ty := .boolean) hx hb hr (kb_nz h01) (fun t ht hW => ⟨⟨_, (), rfl, rfl, by rw [ht]; exact hP, hD⟩, hS.F ht⟩) hS.2.2 hd
  have B_14 : ∀  (H : Heap) (locs : List Loc) (ls : Array Slot), f_X12_in_b14  = some (rv) → va_P D vwCl ([] : va_W) H → va_D A ([] : va_W) → va_S A s.heap H locs → lv_has ls 3 [] → W p l e ({ frames := 0, cells := 0, slots := 0, locals := 0 } : Room) s m ([.int x0, .int x1, .int x2] : List Value).toArray below meth c H locs 0 0 Q (F0 m 14 ls []) := by
    intro  H locs ls hf hP hD hS hl
    rw [f_X12_in_b14] at hf
    refine lv_iconst (v := (0 : Int32)) hx hb dX12_in_14 (by decide) ?_
    exact RET _ H _ ls 15 hf hP hD hS (by decide) dX12_in_15
  have E0 : ∀ (H : Heap) (locs : List Loc), va_P D vwCl ([] : va_W) H → va_D A ([] : va_W) → va_S A s.heap H locs → W p l e ({ frames := 0, cells := 0, slots := 0, locals := 0 } : Room) s m ([.int x0, .int x1, .int x2] : List Value).toArray below meth c H locs 0 0 Q (F0 m 0 ls []) := by
    intro H locs hP hD hS
    rw [f_X12_in] at hf
    refine lv_iload_n hx hb dX12_in_0 rfl (lv_at hl 0 rfl) ?_
    refine lv_iload_n hx hb dX12_in_1 rfl (lv_at hl 1 rfl) ?_
    refine lv_icmp_lt (tgt := 14) hx hb dX12_in_2 (by decide) (fun c_1 => ?_) (fun c_1 => ?_)
    · rw [if_pos c_1] at hf
      exact B_14 _ _ _ hf hP hD hS (lv_sub hl [] rfl)
    · rw [if_neg c_1] at hf
      refine lv_iload_n hx hb dX12_in_5 rfl (lv_at hl 0 rfl) ?_
      refine lv_iload_n hx hb dX12_in_6 rfl (lv_at hl 2 rfl) ?_
      refine lv_icmp_gt (tgt := 14) hx hb dX12_in_7 (by decide) (fun c_2 => ?_) (fun c_2 => ?_)
      · rw [if_pos c_2] at hf
        exact B_14 _ _ _ hf hP hD hS (lv_sub hl [] rfl)
      · rw [if_neg c_2] at hf
        refine lv_iconst (v := (1 : Int32)) hx hb dX12_in_10 (by decide) ?_
        refine lv_goto (tgt := 15) hx hb dX12_in_11 (by decide) ?_
        exact RET _ H _ ls 15 hf hP hD hS (by decide) dX12_in_15
  exact E0 _ _ hP hD hS

noncomputable def f_X12_has (x0 : Int32) (x1 : Int32) : Option (Int32) := (if ((x0 >>> (x1 &&& 31)) &&& (1 : Int32)) = (1 : Int32) then some ((1 : Int32)) else some ((0 : Int32)))
set_option maxHeartbeats 4000000 in
set_option maxRecDepth 100000 in
theorem c_X12_has (l : Launch) (D : va_G) (dA : Nat → ClassId) (sz : Nat) (x0 : Int32) (x1 : Int32) (rv : Int32) (hf : f_X12_has x0 x1 = some (rv)) : kb_Mi l yX12_has cX12_has 2 (some .boolean) ({ frames := 0, cells := 0, slots := 0, locals := 0 } : Room) D dA [.int x0, .int x1] sz ([] : va_W) 0 0 rv ([] : va_W) := by
  refine Met.ofW (cc := cX12_has) (maxL := 2) (ret := (some .boolean)) (by decide) rfl ?_
  intro p e s m args below meth c s₁ B hml hv
  obtain ⟨rfl, hsz, hP, hK, hD0, hE⟩ := hv
  have hx := B.exec
  have hb := B.bytes
  have hr := B.returns
  have hown : s.vm.findClass RX12 = some m.cls := findClass_of_methodNamed B.named
  have hlocks := B.notSynchronized
  have hts : ∀ w ∈ kb_gw, w.before ([.int x0, .int x1] : List Value).toArray s = true := fun w hw => hK.2.1 w hw _
  subst hsz
  have hD := hD0.self (sz := s.heap.size)
  generalize hAe : va_A ([] : va_W) s.heap.size = A at hD hE ⊢
  have hA : ∀ q : Nat, s.heap.size ≤ q → A q := fun q h => by rw [← hAe]; exact Or.inr h
  have hS : va_S A s.heap s.heap [] := va_S.rf
  have hl := lv_entry ([.int x0, .int x1]) (n := 2) (Nat.le_of_ble_eq_true rfl)
  rw [lg_entry_eq]
  generalize (lg_sl ([.int x0, .int x1]) ++ List.replicate (2 - (lg_sl ([.int x0, .int x1])).length) Slot.unset).toArray = ls at hl ⊢
  have hl : lv_has ls 2 [(0, .int x0), (1, .int x1)] := hl
  generalize hQ : MQ below (va_Qi (fun r (_ : Unit) => r = rv) (kb_B D A ([] : va_W)) A) ([.int x0, .int x1] : List Value).toArray s 0 0 A = Q
  show W p l e ({ frames := 0, cells := 0, slots := 0, locals := 0 } : Room) s m ([.int x0, .int x1] : List Value).toArray below meth c s.heap [] 0 0 Q (F0 m 0 ls [])
  have RET : ∀ (r2 : Int32) (H : Heap) (locs : List Loc) (ls : Array Slot) (pc : Nat), some (r2) = some (rv) → va_P D vwCl ([] : va_W) H → va_D A ([] : va_W) → va_S A s.heap H locs → kb_01 r2 → decode cX12_has pc = .ok (.ireturn, 1) → W p l e ({ frames := 0, cells := 0, slots := 0, locals := 0 } : Room) s m ([.int x0, .int x1] : List Value).toArray below meth c H locs 0 0 Q (F0 m pc ls [.int r2]) := by
    intro r2 H locs ls pc hq hP hD hS h01 hd
    cases hq
    rw [← hQ]
    exact W.zret (ty := .boolean) hx hb hr (kb_nz h01) (fun t ht hW => ⟨⟨_, (), rfl, rfl, by rw [ht]; exact hP, hD⟩, hS.F ht⟩) hS.2.2 hd
  have E0 : ∀ (H : Heap) (locs : List Loc), va_P D vwCl ([] : va_W) H → va_D A ([] : va_W) → va_S A s.heap H locs → W p l e ({ frames := 0, cells := 0, slots := 0, locals := 0 } : Room) s m ([.int x0, .int x1] : List Value).toArray below meth c H locs 0 0 Q (F0 m 0 ls []) := by
    intro H locs hP hD hS
    rw [f_X12_has] at hf
    refine lv_iload_n hx hb dX12_has_0 rfl (lv_at hl 0 rfl) ?_
    refine lv_iload_n hx hb dX12_has_1 rfl (lv_at hl 1 rfl) ?_
    refine lv_ishr hx hb dX12_has_2 ?_
    refine lv_iconst (v := (1 : Int32)) hx hb dX12_has_3 (by decide) ?_
    refine lv_iand hx hb dX12_has_4 ?_
    refine lv_iconst (v := (1 : Int32)) hx hb dX12_has_5 (by decide) ?_
    refine lv_icmp_ne (tgt := 13) hx hb dX12_has_6 (by decide) (fun c_1 => ?_) (fun c_1 => ?_)
    · rw [if_neg c_1] at hf
      refine lv_iconst (v := (0 : Int32)) hx hb dX12_has_13 (by decide) ?_
      exact RET _ H _ ls 14 hf hP hD hS (by decide) dX12_has_14
    · rw [if_pos c_1] at hf
      refine lv_iconst (v := (1 : Int32)) hx hb dX12_has_9 (by decide) ?_
      refine lv_goto (tgt := 14) hx hb dX12_has_10 (by decide) ?_
      exact RET _ H _ ls 14 hf hP hD hS (by decide) dX12_has_14
  exact E0 _ _ hP hD hS

noncomputable def f_X12_bits_b4 : Nat → Int32 → Int32 → Option (Int32)
  | 0, _, _ => none
  | n + 1, v1, v2 => (if v2 = 0 then some (v1) else f_X12_bits_b4 n (v1 + (1 : Int32)) (v2 &&& (v2 - (1 : Int32))))
noncomputable def f_X12_bits (x0 : Int32) : Option (Int32) := f_X12_bits_b4 4096 (0 : Int32) x0
set_option maxHeartbeats 4000000 in
set_option maxRecDepth 100000 in
theorem c_X12_bits (l : Launch) (D : va_G) (dA : Nat → ClassId) (sz : Nat) (x0 : Int32) (rv : Int32) (hf : f_X12_bits x0 = some (rv)) : kb_Mi l yX12_bits cX12_bits 3 (some .int) ({ frames := 0, cells := 0, slots := 0, locals := 0 } : Room) D dA [.int x0] sz ([] : va_W) 0 0 rv ([] : va_W) := by
  refine Met.ofW (cc := cX12_bits) (maxL := 3) (ret := (some .int)) (by decide) rfl ?_
  intro p e s m args below meth c s₁ B hml hv
  obtain ⟨rfl, hsz, hP, hK, hD0, hE⟩ := hv
  have hx := B.exec
  have hb := B.bytes
  have hr := B.returns
  have hown : s.vm.findClass RX12 = some m.cls := findClass_of_methodNamed B.named
  have hlocks := B.notSynchronized
  have hts : ∀ w ∈ kb_gw, w.before ([.int x0] : List Value).toArray s = true := fun w hw => hK.2.1 w hw _
  subst hsz
  have hD := hD0.self (sz := s.heap.size)
  generalize hAe : va_A ([] : va_W) s.heap.size = A at hD hE ⊢
  have hA : ∀ q : Nat, s.heap.size ≤ q → A q := fun q h => by rw [← hAe]; exact Or.inr h
  have hS : va_S A s.heap s.heap [] := va_S.rf
  have hl := lv_entry ([.int x0]) (n := 3) (Nat.le_of_ble_eq_true rfl)
  rw [lg_entry_eq]
  generalize (lg_sl ([.int x0]) ++ List.replicate (3 - (lg_sl ([.int x0])).length) Slot.unset).toArray = ls at hl ⊢
  have hl : lv_has ls 3 [(0, .int x0)] := hl
  generalize hQ : MQ below (va_Qi (fun r (_ : Unit) => r = rv) (kb_B D A ([] : va_W)) A) ([.int x0] : List Value).toArray s 0 0 A = Q
  show W p l e ({ frames := 0, cells := 0, slots := 0, locals := 0 } : Room) s m ([.int x0] : List Value).toArray below meth c s.heap [] 0 0 Q (F0 m 0 ls [])
  have RET : ∀ (r2 : Int32) (H : Heap) (locs : List Loc) (ls : Array Slot) (pc : Nat), some (r2) = some (rv) → va_P D vwCl ([] : va_W) H → va_D A ([] : va_W) → va_S A s.heap H locs → decode cX12_bits pc = .ok (.ireturn, 1) → W p l e ({ frames := 0, cells := 0, slots := 0, locals := 0 } : Room) s m ([.int x0] : List Value).toArray below meth c H locs 0 0 Q (F0 m pc ls [.int r2]) := by
    intro r2 H locs ls pc hq hP hD hS hd
    cases hq
    rw [← hQ]
    exact W.iret hx hb hr (fun t ht hW => ⟨⟨_, (), rfl, rfl, by rw [ht]; exact hP, hD⟩, hS.F ht⟩) hS.2.2 hd
  have B_4 : ∀ (n : Nat) (v1 : Int32) (v2 : Int32) (H : Heap) (locs : List Loc) (ls : Array Slot), f_X12_bits_b4 n v1 v2 = some (rv) → va_P D vwCl ([] : va_W) H → va_D A ([] : va_W) → va_S A s.heap H locs → lv_has ls 3 [(1, .int v1), (2, .int v2)] → W p l e ({ frames := 0, cells := 0, slots := 0, locals := 0 } : Room) s m ([.int x0] : List Value).toArray below meth c H locs 0 0 Q (F0 m 4 ls []) := by
    intro n
    induction n with
    | zero =>
      intro v1 v2 H locs ls hf
      exact absurd hf (by simp [f_X12_bits_b4])
    | succ n ih =>
      intro v1 v2 H locs ls hf hP hD hS hl
      rw [f_X12_bits_b4] at hf
      refine lv_iload_n hx hb dX12_bits_4 rfl (lv_at hl 1 rfl) ?_
      refine lv_if_eq (tgt := 20) hx hb dX12_bits_5 (by decide) (fun c_1 => ?_) (fun c_1 => ?_)
      · rw [if_pos c_1] at hf
        refine lv_iload_n hx hb dX12_bits_20 rfl (lv_at hl 0 rfl) ?_
        exact RET _ H _ ls 21 hf hP hD hS dX12_bits_21
      · rw [if_neg c_1] at hf
        refine lv_iinc (v := (v1 + (1 : Int32))) (lv' := [(1, .int (v1 + (1 : Int32))), (2, .int v2)]) hx hb dX12_bits_8 hl (k := 0) rfl (by rfl) (by decide) rfl (fun ls hl => ?_)
        refine lv_iload_n hx hb dX12_bits_11 rfl (lv_at hl 1 rfl) ?_
        refine lv_iload_n hx hb dX12_bits_12 rfl (lv_at hl 1 rfl) ?_
        refine lv_iconst (v := (1 : Int32)) hx hb dX12_bits_13 (by decide) ?_
        refine lv_isub hx hb dX12_bits_14 ?_
        refine lv_iand hx hb dX12_bits_15 ?_
        refine lv_istore_n (lv' := [(2, .int (v2 &&& (v2 - (1 : Int32)))), (1, .int (v1 + (1 : Int32)))]) hx hb dX12_bits_16 rfl hl (by decide) rfl (fun ls hl => ?_)
        refine lv_goto (tgt := 4) hx hb dX12_bits_17 (by decide) ?_
        exact ih _ _ _ _ _ hf hP hD hS (lv_sub hl [1, 0] rfl)
  have E0 : ∀ (H : Heap) (locs : List Loc), va_P D vwCl ([] : va_W) H → va_D A ([] : va_W) → va_S A s.heap H locs → W p l e ({ frames := 0, cells := 0, slots := 0, locals := 0 } : Room) s m ([.int x0] : List Value).toArray below meth c H locs 0 0 Q (F0 m 0 ls []) := by
    intro H locs hP hD hS
    rw [f_X12_bits] at hf
    refine lv_iconst (v := (0 : Int32)) hx hb dX12_bits_0 (by decide) ?_
    refine lv_istore_n (lv' := [(1, .int (0 : Int32)), (0, .int x0)]) hx hb dX12_bits_1 rfl hl (by decide) rfl (fun ls hl => ?_)
    refine lv_iload_n hx hb dX12_bits_2 rfl (lv_at hl 1 rfl) ?_
    refine lv_istore_n (lv' := [(2, .int x0), (1, .int (0 : Int32)), (0, .int x0)]) hx hb dX12_bits_3 rfl hl (by decide) rfl (fun ls hl => ?_)
    exact B_4 4096 _ _ _ _ _ hf hP hD hS (lv_sub hl [1, 0] rfl)
  exact E0 _ _ hP hD hS

noncomputable def f_X12_far (x0 : Int32) (x1 : Int32) : Option (Int32) := (if x1 ≤ x0 then some ((x0 - x1)) else some ((x1 - x0)))
set_option maxHeartbeats 4000000 in
set_option maxRecDepth 100000 in
theorem c_X12_far (l : Launch) (D : va_G) (dA : Nat → ClassId) (sz : Nat) (x0 : Int32) (x1 : Int32) (rv : Int32) (hf : f_X12_far x0 x1 = some (rv)) : kb_Mi l yX12_far cX12_far 2 (some .int) ({ frames := 0, cells := 0, slots := 0, locals := 0 } : Room) D dA [.int x0, .int x1] sz ([] : va_W) 0 0 rv ([] : va_W) := by
  refine Met.ofW (cc := cX12_far) (maxL := 2) (ret := (some .int)) (by decide) rfl ?_
  intro p e s m args below meth c s₁ B hml hv
  obtain ⟨rfl, hsz, hP, hK, hD0, hE⟩ := hv
  have hx := B.exec
  have hb := B.bytes
  have hr := B.returns
  have hown : s.vm.findClass RX12 = some m.cls := findClass_of_methodNamed B.named
  have hlocks := B.notSynchronized
  have hts : ∀ w ∈ kb_gw, w.before ([.int x0, .int x1] : List Value).toArray s = true := fun w hw => hK.2.1 w hw _
  subst hsz
  have hD := hD0.self (sz := s.heap.size)
  generalize hAe : va_A ([] : va_W) s.heap.size = A at hD hE ⊢
  have hA : ∀ q : Nat, s.heap.size ≤ q → A q := fun q h => by rw [← hAe]; exact Or.inr h
  have hS : va_S A s.heap s.heap [] := va_S.rf
  have hl := lv_entry ([.int x0, .int x1]) (n := 2) (Nat.le_of_ble_eq_true rfl)
  rw [lg_entry_eq]
  generalize (lg_sl ([.int x0, .int x1]) ++ List.replicate (2 - (lg_sl ([.int x0, .int x1])).length) Slot.unset).toArray = ls at hl ⊢
  have hl : lv_has ls 2 [(0, .int x0), (1, .int x1)] := hl
  generalize hQ : MQ below (va_Qi (fun r (_ : Unit) => r = rv) (kb_B D A ([] : va_W)) A) ([.int x0, .int x1] : List Value).toArray s 0 0 A = Q
  show W p l e ({ frames := 0, cells := 0, slots := 0, locals := 0 } : Room) s m ([.int x0, .int x1] : List Value).toArray below meth c s.heap [] 0 0 Q (F0 m 0 ls [])
  have RET : ∀ (r2 : Int32) (H : Heap) (locs : List Loc) (ls : Array Slot) (pc : Nat), some (r2) = some (rv) → va_P D vwCl ([] : va_W) H → va_D A ([] : va_W) → va_S A s.heap H locs → decode cX12_far pc = .ok (.ireturn, 1) → W p l e ({ frames := 0, cells := 0, slots := 0, locals := 0 } : Room) s m ([.int x0, .int x1] : List Value).toArray below meth c H locs 0 0 Q (F0 m pc ls [.int r2]) := by
    intro r2 H locs ls pc hq hP hD hS hd
    cases hq
    rw [← hQ]
    exact W.iret hx hb hr (fun t ht hW => ⟨⟨_, (), rfl, rfl, by rw [ht]; exact hP, hD⟩, hS.F ht⟩) hS.2.2 hd
  have E0 : ∀ (H : Heap) (locs : List Loc), va_P D vwCl ([] : va_W) H → va_D A ([] : va_W) → va_S A s.heap H locs → W p l e ({ frames := 0, cells := 0, slots := 0, locals := 0 } : Room) s m ([.int x0, .int x1] : List Value).toArray below meth c H locs 0 0 Q (F0 m 0 ls []) := by
    intro H locs hP hD hS
    rw [f_X12_far] at hf
    refine lv_iload_n hx hb dX12_far_0 rfl (lv_at hl 0 rfl) ?_
    refine lv_iload_n hx hb dX12_far_1 rfl (lv_at hl 1 rfl) ?_
    refine lv_icmp_ge (tgt := 11) hx hb dX12_far_2 (by decide) (fun c_1 => ?_) (fun c_1 => ?_)
    · rw [if_pos c_1] at hf
      refine lv_iload_n hx hb dX12_far_11 rfl (lv_at hl 0 rfl) ?_
      refine lv_iload_n hx hb dX12_far_12 rfl (lv_at hl 1 rfl) ?_
      refine lv_isub hx hb dX12_far_13 ?_
      exact RET _ H _ ls 14 hf hP hD hS dX12_far_14
    · rw [if_neg c_1] at hf
      refine lv_iload_n hx hb dX12_far_5 rfl (lv_at hl 1 rfl) ?_
      refine lv_iload_n hx hb dX12_far_6 rfl (lv_at hl 0 rfl) ?_
      refine lv_isub hx hb dX12_far_7 ?_
      refine lv_goto (tgt := 14) hx hb dX12_far_8 (by decide) ?_
      exact RET _ H _ ls 14 hf hP hD hS dX12_far_14
  exact E0 _ _ hP hD hS

noncomputable def f_X12_isLetter_b16  : Option (Int32) := some ((0 : Int32))
noncomputable def f_X12_isLetter (x0 : Int32) : Option (Int32) := (if x0 < (97 : Int32) then f_X12_isLetter_b16  else (if (122 : Int32) < x0 then f_X12_isLetter_b16  else some ((1 : Int32))))
set_option maxHeartbeats 4000000 in
set_option maxRecDepth 100000 in
theorem c_X12_isLetter (l : Launch) (D : va_G) (dA : Nat → ClassId) (sz : Nat) (x0 : Int32) (rv : Int32) (hf : f_X12_isLetter x0 = some (rv)) : kb_Mi l yX12_isLetter cX12_isLetter 1 (some .boolean) ({ frames := 0, cells := 0, slots := 0, locals := 0 } : Room) D dA [.int x0] sz ([] : va_W) 0 0 rv ([] : va_W) := by
  refine Met.ofW (cc := cX12_isLetter) (maxL := 1) (ret := (some .boolean)) (by decide) rfl ?_
  intro p e s m args below meth c s₁ B hml hv
  obtain ⟨rfl, hsz, hP, hK, hD0, hE⟩ := hv
  have hx := B.exec
  have hb := B.bytes
  have hr := B.returns
  have hown : s.vm.findClass RX12 = some m.cls := findClass_of_methodNamed B.named
  have hlocks := B.notSynchronized
  have hts : ∀ w ∈ kb_gw, w.before ([.int x0] : List Value).toArray s = true := fun w hw => hK.2.1 w hw _
  subst hsz
  have hD := hD0.self (sz := s.heap.size)
  generalize hAe : va_A ([] : va_W) s.heap.size = A at hD hE ⊢
  have hA : ∀ q : Nat, s.heap.size ≤ q → A q := fun q h => by rw [← hAe]; exact Or.inr h
  have hS : va_S A s.heap s.heap [] := va_S.rf
  have hl := lv_entry ([.int x0]) (n := 1) (Nat.le_of_ble_eq_true rfl)
  rw [lg_entry_eq]
  generalize (lg_sl ([.int x0]) ++ List.replicate (1 - (lg_sl ([.int x0])).length) Slot.unset).toArray = ls at hl ⊢
  have hl : lv_has ls 1 [(0, .int x0)] := hl
  generalize hQ : MQ below (va_Qi (fun r (_ : Unit) => r = rv) (kb_B D A ([] : va_W)) A) ([.int x0] : List Value).toArray s 0 0 A = Q
  show W p l e ({ frames := 0, cells := 0, slots := 0, locals := 0 } : Room) s m ([.int x0] : List Value).toArray below meth c s.heap [] 0 0 Q (F0 m 0 ls [])
  have RET : ∀ (r2 : Int32) (H : Heap) (locs : List Loc) (ls : Array Slot) (pc : Nat), some (r2) = some (rv) → va_P D vwCl ([] : va_W) H → va_D A ([] : va_W) → va_S A s.heap H locs → kb_01 r2 → decode cX12_isLetter pc = .ok (.ireturn, 1) → W p l e ({ frames := 0, cells := 0, slots := 0, locals := 0 } : Room) s m ([.int x0] : List Value).toArray below meth c H locs 0 0 Q (F0 m pc ls [.int r2]) := by
    intro r2 H locs ls pc hq hP hD hS h01 hd
    cases hq
    rw [← hQ]
    exact W.zret (ty := .boolean) hx hb hr (kb_nz h01) (fun t ht hW => ⟨⟨_, (), rfl, rfl, by rw [ht]; exact hP, hD⟩, hS.F ht⟩) hS.2.2 hd
  have B_16 : ∀  (H : Heap) (locs : List Loc) (ls : Array Slot), f_X12_isLetter_b16  = some (rv) → va_P D vwCl ([] : va_W) H → va_D A ([] : va_W) → va_S A s.heap H locs → lv_has ls 1 [] → W p l e ({ frames := 0, cells := 0, slots := 0, locals := 0 } : Room) s m ([.int x0] : List Value).toArray below meth c H locs 0 0 Q (F0 m 16 ls []) := by
    intro  H locs ls hf hP hD hS hl
    rw [f_X12_isLetter_b16] at hf
    refine lv_iconst (v := (0 : Int32)) hx hb dX12_isLetter_16 (by decide) ?_
    exact RET _ H _ ls 17 hf hP hD hS (by decide) dX12_isLetter_17
  have E0 : ∀ (H : Heap) (locs : List Loc), va_P D vwCl ([] : va_W) H → va_D A ([] : va_W) → va_S A s.heap H locs → W p l e ({ frames := 0, cells := 0, slots := 0, locals := 0 } : Room) s m ([.int x0] : List Value).toArray below meth c H locs 0 0 Q (F0 m 0 ls []) := by
    intro H locs hP hD hS
    rw [f_X12_isLetter] at hf
    refine lv_iload_n hx hb dX12_isLetter_0 rfl (lv_at hl 0 rfl) ?_
    refine lv_bipush (v := (97 : Int32)) hx hb dX12_isLetter_1 (by decide) ?_
    refine lv_icmp_lt (tgt := 16) hx hb dX12_isLetter_3 (by decide) (fun c_1 => ?_) (fun c_1 => ?_)
    · rw [if_pos c_1] at hf
      exact B_16 _ _ _ hf hP hD hS (lv_sub hl [] rfl)
    · rw [if_neg c_1] at hf
      refine lv_iload_n hx hb dX12_isLetter_6 rfl (lv_at hl 0 rfl) ?_
      refine lv_bipush (v := (122 : Int32)) hx hb dX12_isLetter_7 (by decide) ?_
      refine lv_icmp_gt (tgt := 16) hx hb dX12_isLetter_9 (by decide) (fun c_2 => ?_) (fun c_2 => ?_)
      · rw [if_pos c_2] at hf
        exact B_16 _ _ _ hf hP hD hS (lv_sub hl [] rfl)
      · rw [if_neg c_2] at hf
        refine lv_iconst (v := (1 : Int32)) hx hb dX12_isLetter_12 (by decide) ?_
        refine lv_goto (tgt := 17) hx hb dX12_isLetter_13 (by decide) ?_
        exact RET _ H _ ls 17 hf hP hD hS (by decide) dX12_isLetter_17
  exact E0 _ _ hP hD hS

noncomputable def f_X12_isDigit_b16  : Option (Int32) := some ((0 : Int32))
noncomputable def f_X12_isDigit (x0 : Int32) : Option (Int32) := (if x0 < (48 : Int32) then f_X12_isDigit_b16  else (if (57 : Int32) < x0 then f_X12_isDigit_b16  else some ((1 : Int32))))
set_option maxHeartbeats 4000000 in
set_option maxRecDepth 100000 in
theorem c_X12_isDigit (l : Launch) (D : va_G) (dA : Nat → ClassId) (sz : Nat) (x0 : Int32) (rv : Int32) (hf : f_X12_isDigit x0 = some (rv)) : kb_Mi l yX12_isDigit cX12_isDigit 1 (some .boolean) ({ frames := 0, cells := 0, slots := 0, locals := 0 } : Room) D dA [.int x0] sz ([] : va_W) 0 0 rv ([] : va_W) := by
  refine Met.ofW (cc := cX12_isDigit) (maxL := 1) (ret := (some .boolean)) (by decide) rfl ?_
  intro p e s m args below meth c s₁ B hml hv
  obtain ⟨rfl, hsz, hP, hK, hD0, hE⟩ := hv
  have hx := B.exec
  have hb := B.bytes
  have hr := B.returns
  have hown : s.vm.findClass RX12 = some m.cls := findClass_of_methodNamed B.named
  have hlocks := B.notSynchronized
  have hts : ∀ w ∈ kb_gw, w.before ([.int x0] : List Value).toArray s = true := fun w hw => hK.2.1 w hw _
  subst hsz
  have hD := hD0.self (sz := s.heap.size)
  generalize hAe : va_A ([] : va_W) s.heap.size = A at hD hE ⊢
  have hA : ∀ q : Nat, s.heap.size ≤ q → A q := fun q h => by rw [← hAe]; exact Or.inr h
  have hS : va_S A s.heap s.heap [] := va_S.rf
  have hl := lv_entry ([.int x0]) (n := 1) (Nat.le_of_ble_eq_true rfl)
  rw [lg_entry_eq]
  generalize (lg_sl ([.int x0]) ++ List.replicate (1 - (lg_sl ([.int x0])).length) Slot.unset).toArray = ls at hl ⊢
  have hl : lv_has ls 1 [(0, .int x0)] := hl
  generalize hQ : MQ below (va_Qi (fun r (_ : Unit) => r = rv) (kb_B D A ([] : va_W)) A) ([.int x0] : List Value).toArray s 0 0 A = Q
  show W p l e ({ frames := 0, cells := 0, slots := 0, locals := 0 } : Room) s m ([.int x0] : List Value).toArray below meth c s.heap [] 0 0 Q (F0 m 0 ls [])
  have RET : ∀ (r2 : Int32) (H : Heap) (locs : List Loc) (ls : Array Slot) (pc : Nat), some (r2) = some (rv) → va_P D vwCl ([] : va_W) H → va_D A ([] : va_W) → va_S A s.heap H locs → kb_01 r2 → decode cX12_isDigit pc = .ok (.ireturn, 1) → W p l e ({ frames := 0, cells := 0, slots := 0, locals := 0 } : Room) s m ([.int x0] : List Value).toArray below meth c H locs 0 0 Q (F0 m pc ls [.int r2]) := by
    intro r2 H locs ls pc hq hP hD hS h01 hd
    cases hq
    rw [← hQ]
    exact W.zret (ty := .boolean) hx hb hr (kb_nz h01) (fun t ht hW => ⟨⟨_, (), rfl, rfl, by rw [ht]; exact hP, hD⟩, hS.F ht⟩) hS.2.2 hd
  have B_16 : ∀  (H : Heap) (locs : List Loc) (ls : Array Slot), f_X12_isDigit_b16  = some (rv) → va_P D vwCl ([] : va_W) H → va_D A ([] : va_W) → va_S A s.heap H locs → lv_has ls 1 [] → W p l e ({ frames := 0, cells := 0, slots := 0, locals := 0 } : Room) s m ([.int x0] : List Value).toArray below meth c H locs 0 0 Q (F0 m 16 ls []) := by
    intro  H locs ls hf hP hD hS hl
    rw [f_X12_isDigit_b16] at hf
    refine lv_iconst (v := (0 : Int32)) hx hb dX12_isDigit_16 (by decide) ?_
    exact RET _ H _ ls 17 hf hP hD hS (by decide) dX12_isDigit_17
  have E0 : ∀ (H : Heap) (locs : List Loc), va_P D vwCl ([] : va_W) H → va_D A ([] : va_W) → va_S A s.heap H locs → W p l e ({ frames := 0, cells := 0, slots := 0, locals := 0 } : Room) s m ([.int x0] : List Value).toArray below meth c H locs 0 0 Q (F0 m 0 ls []) := by
    intro H locs hP hD hS
    rw [f_X12_isDigit] at hf
    refine lv_iload_n hx hb dX12_isDigit_0 rfl (lv_at hl 0 rfl) ?_
    refine lv_bipush (v := (48 : Int32)) hx hb dX12_isDigit_1 (by decide) ?_
    refine lv_icmp_lt (tgt := 16) hx hb dX12_isDigit_3 (by decide) (fun c_1 => ?_) (fun c_1 => ?_)
    · rw [if_pos c_1] at hf
      exact B_16 _ _ _ hf hP hD hS (lv_sub hl [] rfl)
    · rw [if_neg c_1] at hf
      refine lv_iload_n hx hb dX12_isDigit_6 rfl (lv_at hl 0 rfl) ?_
      refine lv_bipush (v := (57 : Int32)) hx hb dX12_isDigit_7 (by decide) ?_
      refine lv_icmp_gt (tgt := 16) hx hb dX12_isDigit_9 (by decide) (fun c_2 => ?_) (fun c_2 => ?_)
      · rw [if_pos c_2] at hf
        exact B_16 _ _ _ hf hP hD hS (lv_sub hl [] rfl)
      · rw [if_neg c_2] at hf
        refine lv_iconst (v := (1 : Int32)) hx hb dX12_isDigit_12 (by decide) ?_
        refine lv_goto (tgt := 17) hx hb dX12_isDigit_13 (by decide) ?_
        exact RET _ H _ ls 17 hf hP hD hS (by decide) dX12_isDigit_17
  exact E0 _ _ hP hD hS

noncomputable def f_X12_isSeatOf_b19  : Option (Int32) := some ((1 : Int32))
noncomputable def f_X12_isSeatOf_b23  : Option (Int32) := some ((0 : Int32))
noncomputable def f_X12_isSeatOf (x0 : Int32) (x1 : Int32) : Option (Int32) := (if x0 = 0 then f_X12_isSeatOf_b19  else (if x1 = (1 : Int32) then f_X12_isSeatOf_b23  else (if x0 = (1 : Int32) then f_X12_isSeatOf_b19  else (if x1 = (2 : Int32) then f_X12_isSeatOf_b23  else f_X12_isSeatOf_b19 ))))
set_option maxHeartbeats 4000000 in
set_option maxRecDepth 100000 in
theorem c_X12_isSeatOf (l : Launch) (D : va_G) (dA : Nat → ClassId) (sz : Nat) (x0 : Int32) (x1 : Int32) (rv : Int32) (hf : f_X12_isSeatOf x0 x1 = some (rv)) : kb_Mi l yX12_isSeatOf cX12_isSeatOf 2 (some .boolean) ({ frames := 0, cells := 0, slots := 0, locals := 0 } : Room) D dA [.int x0, .int x1] sz ([] : va_W) 0 0 rv ([] : va_W) := by
  refine Met.ofW (cc := cX12_isSeatOf) (maxL := 2) (ret := (some .boolean)) (by decide) rfl ?_
  intro p e s m args below meth c s₁ B hml hv
  obtain ⟨rfl, hsz, hP, hK, hD0, hE⟩ := hv
  have hx := B.exec
  have hb := B.bytes
  have hr := B.returns
  have hown : s.vm.findClass RX12 = some m.cls := findClass_of_methodNamed B.named
  have hlocks := B.notSynchronized
  have hts : ∀ w ∈ kb_gw, w.before ([.int x0, .int x1] : List Value).toArray s = true := fun w hw => hK.2.1 w hw _
  subst hsz
  have hD := hD0.self (sz := s.heap.size)
  generalize hAe : va_A ([] : va_W) s.heap.size = A at hD hE ⊢
  have hA : ∀ q : Nat, s.heap.size ≤ q → A q := fun q h => by rw [← hAe]; exact Or.inr h
  have hS : va_S A s.heap s.heap [] := va_S.rf
  have hl := lv_entry ([.int x0, .int x1]) (n := 2) (Nat.le_of_ble_eq_true rfl)
  rw [lg_entry_eq]
  generalize (lg_sl ([.int x0, .int x1]) ++ List.replicate (2 - (lg_sl ([.int x0, .int x1])).length) Slot.unset).toArray = ls at hl ⊢
  have hl : lv_has ls 2 [(0, .int x0), (1, .int x1)] := hl
  generalize hQ : MQ below (va_Qi (fun r (_ : Unit) => r = rv) (kb_B D A ([] : va_W)) A) ([.int x0, .int x1] : List Value).toArray s 0 0 A = Q
  show W p l e ({ frames := 0, cells := 0, slots := 0, locals := 0 } : Room) s m ([.int x0, .int x1] : List Value).toArray below meth c s.heap [] 0 0 Q (F0 m 0 ls [])
  have RET : ∀ (r2 : Int32) (H : Heap) (locs : List Loc) (ls : Array Slot) (pc : Nat), some (r2) = some (rv) → va_P D vwCl ([] : va_W) H → va_D A ([] : va_W) → va_S A s.heap H locs → kb_01 r2 → decode cX12_isSeatOf pc = .ok (.ireturn, 1) → W p l e ({ frames := 0, cells := 0, slots := 0, locals := 0 } : Room) s m ([.int x0, .int x1] : List Value).toArray below meth c H locs 0 0 Q (F0 m pc ls [.int r2]) := by
    intro r2 H locs ls pc hq hP hD hS h01 hd
    cases hq
    rw [← hQ]
    exact W.zret (ty := .boolean) hx hb hr (kb_nz h01) (fun t ht hW => ⟨⟨_, (), rfl, rfl, by rw [ht]; exact hP, hD⟩, hS.F ht⟩) hS.2.2 hd
  have B_19 : ∀  (H : Heap) (locs : List Loc) (ls : Array Slot), f_X12_isSeatOf_b19  = some (rv) → va_P D vwCl ([] : va_W) H → va_D A ([] : va_W) → va_S A s.heap H locs → lv_has ls 2 [] → W p l e ({ frames := 0, cells := 0, slots := 0, locals := 0 } : Room) s m ([.int x0, .int x1] : List Value).toArray below meth c H locs 0 0 Q (F0 m 19 ls []) := by
    intro  H locs ls hf hP hD hS hl
    rw [f_X12_isSeatOf_b19] at hf
    refine lv_iconst (v := (1 : Int32)) hx hb dX12_isSeatOf_19 (by decide) ?_
    refine lv_goto (tgt := 24) hx hb dX12_isSeatOf_20 (by decide) ?_
    exact RET _ H _ ls 24 hf hP hD hS (by decide) dX12_isSeatOf_24
  have B_23 : ∀  (H : Heap) (locs : List Loc) (ls : Array Slot), f_X12_isSeatOf_b23  = some (rv) → va_P D vwCl ([] : va_W) H → va_D A ([] : va_W) → va_S A s.heap H locs → lv_has ls 2 [] → W p l e ({ frames := 0, cells := 0, slots := 0, locals := 0 } : Room) s m ([.int x0, .int x1] : List Value).toArray below meth c H locs 0 0 Q (F0 m 23 ls []) := by
    intro  H locs ls hf hP hD hS hl
    rw [f_X12_isSeatOf_b23] at hf
    refine lv_iconst (v := (0 : Int32)) hx hb dX12_isSeatOf_23 (by decide) ?_
    exact RET _ H _ ls 24 hf hP hD hS (by decide) dX12_isSeatOf_24
  have E0 : ∀ (H : Heap) (locs : List Loc), va_P D vwCl ([] : va_W) H → va_D A ([] : va_W) → va_S A s.heap H locs → W p l e ({ frames := 0, cells := 0, slots := 0, locals := 0 } : Room) s m ([.int x0, .int x1] : List Value).toArray below meth c H locs 0 0 Q (F0 m 0 ls []) := by
    intro H locs hP hD hS
    rw [f_X12_isSeatOf] at hf
    refine lv_iload_n hx hb dX12_isSeatOf_0 rfl (lv_at hl 0 rfl) ?_
    refine lv_if_eq (tgt := 19) hx hb dX12_isSeatOf_1 (by decide) (fun c_1 => ?_) (fun c_1 => ?_)
    · rw [if_pos c_1] at hf
      exact B_19 _ _ _ hf hP hD hS (lv_sub hl [] rfl)
    · rw [if_neg c_1] at hf
      refine lv_iload_n hx hb dX12_isSeatOf_4 rfl (lv_at hl 1 rfl) ?_
      refine lv_iconst (v := (1 : Int32)) hx hb dX12_isSeatOf_5 (by decide) ?_
      refine lv_icmp_eq (tgt := 23) hx hb dX12_isSeatOf_6 (by decide) (fun c_2 => ?_) (fun c_2 => ?_)
      · rw [if_pos c_2] at hf
        exact B_23 _ _ _ hf hP hD hS (lv_sub hl [] rfl)
      · rw [if_neg c_2] at hf
        refine lv_iload_n hx hb dX12_isSeatOf_9 rfl (lv_at hl 0 rfl) ?_
        refine lv_iconst (v := (1 : Int32)) hx hb dX12_isSeatOf_10 (by decide) ?_
        refine lv_icmp_eq (tgt := 19) hx hb dX12_isSeatOf_11 (by decide) (fun c_3 => ?_) (fun c_3 => ?_)
        · rw [if_pos c_3] at hf
          exact B_19 _ _ _ hf hP hD hS (lv_sub hl [] rfl)
        · rw [if_neg c_3] at hf
          refine lv_iload_n hx hb dX12_isSeatOf_14 rfl (lv_at hl 1 rfl) ?_
          refine lv_iconst (v := (2 : Int32)) hx hb dX12_isSeatOf_15 (by decide) ?_
          refine lv_icmp_eq (tgt := 23) hx hb dX12_isSeatOf_16 (by decide) (fun c_4 => ?_) (fun c_4 => ?_)
          · rw [if_pos c_4] at hf
            exact B_23 _ _ _ hf hP hD hS (lv_sub hl [] rfl)
          · rw [if_neg c_4] at hf
            exact B_19 _ _ _ hf hP hD hS (lv_sub hl [] rfl)
  exact E0 _ _ hP hD hS

noncomputable def f_X12_isWindow_b9  : Option (Int32) := some ((1 : Int32))
noncomputable def f_X12_isWindow (x0 : Int32) : Option (Int32) := (if x0 = 0 then f_X12_isWindow_b9  else (if x0 = (3 : Int32) then f_X12_isWindow_b9  else some ((0 : Int32))))
set_option maxHeartbeats 4000000 in
set_option maxRecDepth 100000 in
theorem c_X12_isWindow (l : Launch) (D : va_G) (dA : Nat → ClassId) (sz : Nat) (x0 : Int32) (rv : Int32) (hf : f_X12_isWindow x0 = some (rv)) : kb_Mi l yX12_isWindow cX12_isWindow 1 (some .boolean) ({ frames := 0, cells := 0, slots := 0, locals := 0 } : Room) D dA [.int x0] sz ([] : va_W) 0 0 rv ([] : va_W) := by
  refine Met.ofW (cc := cX12_isWindow) (maxL := 1) (ret := (some .boolean)) (by decide) rfl ?_
  intro p e s m args below meth c s₁ B hml hv
  obtain ⟨rfl, hsz, hP, hK, hD0, hE⟩ := hv
  have hx := B.exec
  have hb := B.bytes
  have hr := B.returns
  have hown : s.vm.findClass RX12 = some m.cls := findClass_of_methodNamed B.named
  have hlocks := B.notSynchronized
  have hts : ∀ w ∈ kb_gw, w.before ([.int x0] : List Value).toArray s = true := fun w hw => hK.2.1 w hw _
  subst hsz
  have hD := hD0.self (sz := s.heap.size)
  generalize hAe : va_A ([] : va_W) s.heap.size = A at hD hE ⊢
  have hA : ∀ q : Nat, s.heap.size ≤ q → A q := fun q h => by rw [← hAe]; exact Or.inr h
  have hS : va_S A s.heap s.heap [] := va_S.rf
  have hl := lv_entry ([.int x0]) (n := 1) (Nat.le_of_ble_eq_true rfl)
  rw [lg_entry_eq]
  generalize (lg_sl ([.int x0]) ++ List.replicate (1 - (lg_sl ([.int x0])).length) Slot.unset).toArray = ls at hl ⊢
  have hl : lv_has ls 1 [(0, .int x0)] := hl
  generalize hQ : MQ below (va_Qi (fun r (_ : Unit) => r = rv) (kb_B D A ([] : va_W)) A) ([.int x0] : List Value).toArray s 0 0 A = Q
  show W p l e ({ frames := 0, cells := 0, slots := 0, locals := 0 } : Room) s m ([.int x0] : List Value).toArray below meth c s.heap [] 0 0 Q (F0 m 0 ls [])
  have RET : ∀ (r2 : Int32) (H : Heap) (locs : List Loc) (ls : Array Slot) (pc : Nat), some (r2) = some (rv) → va_P D vwCl ([] : va_W) H → va_D A ([] : va_W) → va_S A s.heap H locs → kb_01 r2 → decode cX12_isWindow pc = .ok (.ireturn, 1) → W p l e ({ frames := 0, cells := 0, slots := 0, locals := 0 } : Room) s m ([.int x0] : List Value).toArray below meth c H locs 0 0 Q (F0 m pc ls [.int r2]) := by
    intro r2 H locs ls pc hq hP hD hS h01 hd
    cases hq
    rw [← hQ]
    exact W.zret (ty := .boolean) hx hb hr (kb_nz h01) (fun t ht hW => ⟨⟨_, (), rfl, rfl, by rw [ht]; exact hP, hD⟩, hS.F ht⟩) hS.2.2 hd
  have B_9 : ∀  (H : Heap) (locs : List Loc) (ls : Array Slot), f_X12_isWindow_b9  = some (rv) → va_P D vwCl ([] : va_W) H → va_D A ([] : va_W) → va_S A s.heap H locs → lv_has ls 1 [] → W p l e ({ frames := 0, cells := 0, slots := 0, locals := 0 } : Room) s m ([.int x0] : List Value).toArray below meth c H locs 0 0 Q (F0 m 9 ls []) := by
    intro  H locs ls hf hP hD hS hl
    rw [f_X12_isWindow_b9] at hf
    refine lv_iconst (v := (1 : Int32)) hx hb dX12_isWindow_9 (by decide) ?_
    refine lv_goto (tgt := 14) hx hb dX12_isWindow_10 (by decide) ?_
    exact RET _ H _ ls 14 hf hP hD hS (by decide) dX12_isWindow_14
  have E0 : ∀ (H : Heap) (locs : List Loc), va_P D vwCl ([] : va_W) H → va_D A ([] : va_W) → va_S A s.heap H locs → W p l e ({ frames := 0, cells := 0, slots := 0, locals := 0 } : Room) s m ([.int x0] : List Value).toArray below meth c H locs 0 0 Q (F0 m 0 ls []) := by
    intro H locs hP hD hS
    rw [f_X12_isWindow] at hf
    refine lv_iload_n hx hb dX12_isWindow_0 rfl (lv_at hl 0 rfl) ?_
    refine lv_if_eq (tgt := 9) hx hb dX12_isWindow_1 (by decide) (fun c_1 => ?_) (fun c_1 => ?_)
    · rw [if_pos c_1] at hf
      exact B_9 _ _ _ hf hP hD hS (lv_sub hl [] rfl)
    · rw [if_neg c_1] at hf
      refine lv_iload_n hx hb dX12_isWindow_4 rfl (lv_at hl 0 rfl) ?_
      refine lv_iconst (v := (3 : Int32)) hx hb dX12_isWindow_5 (by decide) ?_
      refine lv_icmp_ne (tgt := 13) hx hb dX12_isWindow_6 (by decide) (fun c_2 => ?_) (fun c_2 => ?_)
      · rw [if_neg c_2] at hf
        refine lv_iconst (v := (0 : Int32)) hx hb dX12_isWindow_13 (by decide) ?_
        exact RET _ H _ ls 14 hf hP hD hS (by decide) dX12_isWindow_14
      · rw [if_pos c_2] at hf
        exact B_9 _ _ _ hf hP hD hS (lv_sub hl [] rfl)
  exact E0 _ _ hP hD hS

noncomputable def f_X12_isAisleOf_b21  : Option (Int32) := some ((1 : Int32))
noncomputable def f_X12_isAisleOf_b25  : Option (Int32) := some ((0 : Int32))
noncomputable def f_X12_isAisleOf (x0 : Int32) (x1 : Int32) : Option (Int32) := (f_X12_isWindow x1).bind fun r1 => (if r1 = 0 then f_X12_isAisleOf_b21  else (if x0 = (2 : Int32) then f_X12_isAisleOf_b21  else (if x0 = (1 : Int32) then (if x1 = 0 then f_X12_isAisleOf_b21  else f_X12_isAisleOf_b25 ) else f_X12_isAisleOf_b25 )))
set_option maxHeartbeats 4000000 in
set_option maxRecDepth 100000 in
theorem c_X12_isAisleOf (l : Launch) (D : va_G) (dA : Nat → ClassId) (sz : Nat) (x0 : Int32) (x1 : Int32) (rv : Int32) (hf : f_X12_isAisleOf x0 x1 = some (rv)) : kb_Mi l yX12_isAisleOf cX12_isAisleOf 2 (some .boolean) ({ frames := 1, cells := 0, slots := 0, locals := 20 } : Room) D dA [.int x0, .int x1] sz ([] : va_W) 0 0 rv ([] : va_W) := by
  refine Met.ofW (cc := cX12_isAisleOf) (maxL := 2) (ret := (some .boolean)) (by decide) rfl ?_
  intro p e s m args below meth c s₁ B hml hv
  obtain ⟨rfl, hsz, hP, hK, hD0, hE⟩ := hv
  have hx := B.exec
  have hb := B.bytes
  have hr := B.returns
  have hown : s.vm.findClass RX12 = some m.cls := findClass_of_methodNamed B.named
  have hlocks := B.notSynchronized
  have hts : ∀ w ∈ kb_gw, w.before ([.int x0, .int x1] : List Value).toArray s = true := fun w hw => hK.2.1 w hw _
  subst hsz
  have hD := hD0.self (sz := s.heap.size)
  generalize hAe : va_A ([] : va_W) s.heap.size = A at hD hE ⊢
  have hA : ∀ q : Nat, s.heap.size ≤ q → A q := fun q h => by rw [← hAe]; exact Or.inr h
  have hS : va_S A s.heap s.heap [] := va_S.rf
  have hl := lv_entry ([.int x0, .int x1]) (n := 2) (Nat.le_of_ble_eq_true rfl)
  rw [lg_entry_eq]
  generalize (lg_sl ([.int x0, .int x1]) ++ List.replicate (2 - (lg_sl ([.int x0, .int x1])).length) Slot.unset).toArray = ls at hl ⊢
  have hl : lv_has ls 2 [(0, .int x0), (1, .int x1)] := hl
  generalize hQ : MQ below (va_Qi (fun r (_ : Unit) => r = rv) (kb_B D A ([] : va_W)) A) ([.int x0, .int x1] : List Value).toArray s 0 0 A = Q
  show W p l e ({ frames := 1, cells := 0, slots := 0, locals := 20 } : Room) s m ([.int x0, .int x1] : List Value).toArray below meth c s.heap [] 0 0 Q (F0 m 0 ls [])
  have RET : ∀ (r2 : Int32) (H : Heap) (locs : List Loc) (ls : Array Slot) (pc : Nat), some (r2) = some (rv) → va_P D vwCl ([] : va_W) H → va_D A ([] : va_W) → va_S A s.heap H locs → kb_01 r2 → decode cX12_isAisleOf pc = .ok (.ireturn, 1) → W p l e ({ frames := 1, cells := 0, slots := 0, locals := 20 } : Room) s m ([.int x0, .int x1] : List Value).toArray below meth c H locs 0 0 Q (F0 m pc ls [.int r2]) := by
    intro r2 H locs ls pc hq hP hD hS h01 hd
    cases hq
    rw [← hQ]
    exact W.zret (ty := .boolean) hx hb hr (kb_nz h01) (fun t ht hW => ⟨⟨_, (), rfl, rfl, by rw [ht]; exact hP, hD⟩, hS.F ht⟩) hS.2.2 hd
  have B_21 : ∀  (H : Heap) (locs : List Loc) (ls : Array Slot), f_X12_isAisleOf_b21  = some (rv) → va_P D vwCl ([] : va_W) H → va_D A ([] : va_W) → va_S A s.heap H locs → lv_has ls 2 [] → W p l e ({ frames := 1, cells := 0, slots := 0, locals := 20 } : Room) s m ([.int x0, .int x1] : List Value).toArray below meth c H locs 0 0 Q (F0 m 21 ls []) := by
    intro  H locs ls hf hP hD hS hl
    rw [f_X12_isAisleOf_b21] at hf
    refine lv_iconst (v := (1 : Int32)) hx hb dX12_isAisleOf_21 (by decide) ?_
    refine lv_goto (tgt := 26) hx hb dX12_isAisleOf_22 (by decide) ?_
    exact RET _ H _ ls 26 hf hP hD hS (by decide) dX12_isAisleOf_26
  have B_25 : ∀  (H : Heap) (locs : List Loc) (ls : Array Slot), f_X12_isAisleOf_b25  = some (rv) → va_P D vwCl ([] : va_W) H → va_D A ([] : va_W) → va_S A s.heap H locs → lv_has ls 2 [] → W p l e ({ frames := 1, cells := 0, slots := 0, locals := 20 } : Room) s m ([.int x0, .int x1] : List Value).toArray below meth c H locs 0 0 Q (F0 m 25 ls []) := by
    intro  H locs ls hf hP hD hS hl
    rw [f_X12_isAisleOf_b25] at hf
    refine lv_iconst (v := (0 : Int32)) hx hb dX12_isAisleOf_25 (by decide) ?_
    exact RET _ H _ ls 26 hf hP hD hS (by decide) dX12_isAisleOf_26
  have E0 : ∀ (H : Heap) (locs : List Loc), va_P D vwCl ([] : va_W) H → va_D A ([] : va_W) → va_S A s.heap H locs → W p l e ({ frames := 1, cells := 0, slots := 0, locals := 20 } : Room) s m ([.int x0, .int x1] : List Value).toArray below meth c H locs 0 0 Q (F0 m 0 ls []) := by
    intro H locs hP hD hS
    rw [f_X12_isAisleOf] at hf
    refine lv_iload_n hx hb dX12_isAisleOf_0 rfl (lv_at hl 1 rfl) ?_
    obtain ⟨r1, hc1, hf⟩ := kb_bind hf
    refine kb_ci (ws2 := ([] : va_W)) (kb_rS (n := 1) (As := [.int x1]) (rest := []) hx hb hml hown hK (c_X12_isWindow l D dA H.size x1 r1 hc1) ⟨ww_7_151, ww_7_149, ww_7_150, ww_1_12, by decide, by decide⟩ rfl rfl (by decide +kernel) ⟨Nat.le_of_ble_eq_true rfl, Nat.le_of_ble_eq_true rfl⟩ hP hD hS hA hE [] rfl (by decide) rfl hl.1 rfl (Nat.le_of_ble_eq_true rfl) dX12_isAisleOf_1 ⟨Nat.le_of_ble_eq_true rfl, Nat.le_of_ble_eq_true rfl⟩) hP hD hS hA [] [] [] rfl rfl (by decide) (by decide) rfl (by decide) (fun H locs hP hD hS => ?_)
    refine lv_if_eq (tgt := 21) hx hb dX12_isAisleOf_4 (by decide) (fun c_2 => ?_) (fun c_2 => ?_)
    · rw [if_pos c_2] at hf
      exact B_21 _ _ _ hf hP hD hS (lv_sub hl [] rfl)
    · rw [if_neg c_2] at hf
      refine lv_iload_n hx hb dX12_isAisleOf_7 rfl (lv_at hl 0 rfl) ?_
      refine lv_iconst (v := (2 : Int32)) hx hb dX12_isAisleOf_8 (by decide) ?_
      refine lv_icmp_eq (tgt := 21) hx hb dX12_isAisleOf_9 (by decide) (fun c_3 => ?_) (fun c_3 => ?_)
      · rw [if_pos c_3] at hf
        exact B_21 _ _ _ hf hP hD hS (lv_sub hl [] rfl)
      · rw [if_neg c_3] at hf
        refine lv_iload_n hx hb dX12_isAisleOf_12 rfl (lv_at hl 0 rfl) ?_
        refine lv_iconst (v := (1 : Int32)) hx hb dX12_isAisleOf_13 (by decide) ?_
        refine lv_icmp_ne (tgt := 25) hx hb dX12_isAisleOf_14 (by decide) (fun c_4 => ?_) (fun c_4 => ?_)
        · rw [if_neg c_4] at hf
          exact B_25 _ _ _ hf hP hD hS (lv_sub hl [] rfl)
        · rw [if_pos c_4] at hf
          refine lv_iload_n hx hb dX12_isAisleOf_17 rfl (lv_at hl 1 rfl) ?_
          refine lv_if_ne (tgt := 25) hx hb dX12_isAisleOf_18 (by decide) (fun c_5 => ?_) (fun c_5 => ?_)
          · rw [if_neg c_5] at hf
            exact B_25 _ _ _ hf hP hD hS (lv_sub hl [] rfl)
          · rw [if_pos c_5] at hf
            exact B_21 _ _ _ hf hP hD hS (lv_sub hl [] rfl)
  exact E0 _ _ hP hD hS

noncomputable def f_X12_besideOf (x0 : Int32) (x1 : Int32) : Option (Int32) := (f_X12_isSeatOf x0 ((x1 ^^^ (1 : Int32)) &&& (3 : Int32))).bind fun r1 => (if r1 = 0 then some ((-1 : Int32)) else some ((x1 ^^^ (1 : Int32))))
set_option maxHeartbeats 4000000 in
set_option maxRecDepth 100000 in
theorem c_X12_besideOf (l : Launch) (D : va_G) (dA : Nat → ClassId) (sz : Nat) (x0 : Int32) (x1 : Int32) (rv : Int32) (hf : f_X12_besideOf x0 x1 = some (rv)) : kb_Mi l yX12_besideOf cX12_besideOf 3 (some .int) ({ frames := 1, cells := 0, slots := 0, locals := 21 } : Room) D dA [.int x0, .int x1] sz ([] : va_W) 0 0 rv ([] : va_W) := by
  refine Met.ofW (cc := cX12_besideOf) (maxL := 3) (ret := (some .int)) (by decide) rfl ?_
  intro p e s m args below meth c s₁ B hml hv
  obtain ⟨rfl, hsz, hP, hK, hD0, hE⟩ := hv
  have hx := B.exec
  have hb := B.bytes
  have hr := B.returns
  have hown : s.vm.findClass RX12 = some m.cls := findClass_of_methodNamed B.named
  have hlocks := B.notSynchronized
  have hts : ∀ w ∈ kb_gw, w.before ([.int x0, .int x1] : List Value).toArray s = true := fun w hw => hK.2.1 w hw _
  subst hsz
  have hD := hD0.self (sz := s.heap.size)
  generalize hAe : va_A ([] : va_W) s.heap.size = A at hD hE ⊢
  have hA : ∀ q : Nat, s.heap.size ≤ q → A q := fun q h => by rw [← hAe]; exact Or.inr h
  have hS : va_S A s.heap s.heap [] := va_S.rf
  have hl := lv_entry ([.int x0, .int x1]) (n := 3) (Nat.le_of_ble_eq_true rfl)
  rw [lg_entry_eq]
  generalize (lg_sl ([.int x0, .int x1]) ++ List.replicate (3 - (lg_sl ([.int x0, .int x1])).length) Slot.unset).toArray = ls at hl ⊢
  have hl : lv_has ls 3 [(0, .int x0), (1, .int x1)] := hl
  generalize hQ : MQ below (va_Qi (fun r (_ : Unit) => r = rv) (kb_B D A ([] : va_W)) A) ([.int x0, .int x1] : List Value).toArray s 0 0 A = Q
  show W p l e ({ frames := 1, cells := 0, slots := 0, locals := 21 } : Room) s m ([.int x0, .int x1] : List Value).toArray below meth c s.heap [] 0 0 Q (F0 m 0 ls [])
  have RET : ∀ (r2 : Int32) (H : Heap) (locs : List Loc) (ls : Array Slot) (pc : Nat), some (r2) = some (rv) → va_P D vwCl ([] : va_W) H → va_D A ([] : va_W) → va_S A s.heap H locs → decode cX12_besideOf pc = .ok (.ireturn, 1) → W p l e ({ frames := 1, cells := 0, slots := 0, locals := 21 } : Room) s m ([.int x0, .int x1] : List Value).toArray below meth c H locs 0 0 Q (F0 m pc ls [.int r2]) := by
    intro r2 H locs ls pc hq hP hD hS hd
    cases hq
    rw [← hQ]
    exact W.iret hx hb hr (fun t ht hW => ⟨⟨_, (), rfl, rfl, by rw [ht]; exact hP, hD⟩, hS.F ht⟩) hS.2.2 hd
  have E0 : ∀ (H : Heap) (locs : List Loc), va_P D vwCl ([] : va_W) H → va_D A ([] : va_W) → va_S A s.heap H locs → W p l e ({ frames := 1, cells := 0, slots := 0, locals := 21 } : Room) s m ([.int x0, .int x1] : List Value).toArray below meth c H locs 0 0 Q (F0 m 0 ls []) := by
    intro H locs hP hD hS
    rw [f_X12_besideOf] at hf
    refine lv_iload_n hx hb dX12_besideOf_0 rfl (lv_at hl 1 rfl) ?_
    refine lv_iconst (v := (1 : Int32)) hx hb dX12_besideOf_1 (by decide) ?_
    refine lv_ixor hx hb dX12_besideOf_2 ?_
    refine lv_istore_n (lv' := [(2, .int (x1 ^^^ (1 : Int32))), (0, .int x0), (1, .int x1)]) hx hb dX12_besideOf_3 rfl hl (by decide) rfl (fun ls hl => ?_)
    refine lv_iload_n hx hb dX12_besideOf_4 rfl (lv_at hl 1 rfl) ?_
    refine lv_iload_n hx hb dX12_besideOf_5 rfl (lv_at hl 0 rfl) ?_
    refine lv_iconst (v := (3 : Int32)) hx hb dX12_besideOf_6 (by decide) ?_
    refine lv_iand hx hb dX12_besideOf_7 ?_
    obtain ⟨r1, hc1, hf⟩ := kb_bind hf
    refine kb_ci (ws2 := ([] : va_W)) (kb_rS (n := 2) (As := [.int x0, .int ((x1 ^^^ (1 : Int32)) &&& (3 : Int32))]) (rest := []) hx hb hml hown hK (c_X12_isSeatOf l D dA H.size x0 ((x1 ^^^ (1 : Int32)) &&& (3 : Int32)) r1 hc1) ⟨ww_7_145, ww_7_143, ww_7_144, ww_1_12, by decide, by decide⟩ rfl rfl (by decide +kernel) ⟨Nat.le_of_ble_eq_true rfl, Nat.le_of_ble_eq_true rfl⟩ hP hD hS hA hE [] rfl (by decide) rfl hl.1 rfl (Nat.le_of_ble_eq_true rfl) dX12_besideOf_8 ⟨Nat.le_of_ble_eq_true rfl, Nat.le_of_ble_eq_true rfl⟩) hP hD hS hA [] [] [] rfl rfl (by decide) (by decide) rfl (by decide) (fun H locs hP hD hS => ?_)
    refine lv_if_eq (tgt := 18) hx hb dX12_besideOf_11 (by decide) (fun c_2 => ?_) (fun c_2 => ?_)
    · rw [if_pos c_2] at hf
      refine lv_iconst (v := (-1 : Int32)) hx hb dX12_besideOf_18 (by decide) ?_
      exact RET _ H _ ls 19 hf hP hD hS dX12_besideOf_19
    · rw [if_neg c_2] at hf
      refine lv_iload_n hx hb dX12_besideOf_14 rfl (lv_at hl 0 rfl) ?_
      refine lv_goto (tgt := 19) hx hb dX12_besideOf_15 (by decide) ?_
      exact RET _ H _ ls 19 hf hP hD hS dX12_besideOf_19
  exact E0 _ _ hP hD hS

noncomputable def f_X12_farOf (x0 : Int32) (x1 : Int32) : Option (Int32) := (f_X12_far (x0 >>> ((2 : Int32) &&& 31)) (x1 >>> ((2 : Int32) &&& 31))).bind fun r1 => (f_X12_far (x0 &&& (3 : Int32)) (x1 &&& (3 : Int32))).bind fun r2 => some ((((2 : Int32) * r1) + r2))
set_option maxHeartbeats 4000000 in
set_option maxRecDepth 100000 in
theorem c_X12_farOf (l : Launch) (D : va_G) (dA : Nat → ClassId) (sz : Nat) (x0 : Int32) (x1 : Int32) (rv : Int32) (hf : f_X12_farOf x0 x1 = some (rv)) : kb_Mi l yX12_farOf cX12_farOf 2 (some .int) ({ frames := 1, cells := 0, slots := 0, locals := 21 } : Room) D dA [.int x0, .int x1] sz ([] : va_W) 0 0 rv ([] : va_W) := by
  refine Met.ofW (cc := cX12_farOf) (maxL := 2) (ret := (some .int)) (by decide) rfl ?_
  intro p e s m args below meth c s₁ B hml hv
  obtain ⟨rfl, hsz, hP, hK, hD0, hE⟩ := hv
  have hx := B.exec
  have hb := B.bytes
  have hr := B.returns
  have hown : s.vm.findClass RX12 = some m.cls := findClass_of_methodNamed B.named
  have hlocks := B.notSynchronized
  have hts : ∀ w ∈ kb_gw, w.before ([.int x0, .int x1] : List Value).toArray s = true := fun w hw => hK.2.1 w hw _
  subst hsz
  have hD := hD0.self (sz := s.heap.size)
  generalize hAe : va_A ([] : va_W) s.heap.size = A at hD hE ⊢
  have hA : ∀ q : Nat, s.heap.size ≤ q → A q := fun q h => by rw [← hAe]; exact Or.inr h
  have hS : va_S A s.heap s.heap [] := va_S.rf
  have hl := lv_entry ([.int x0, .int x1]) (n := 2) (Nat.le_of_ble_eq_true rfl)
  rw [lg_entry_eq]
  generalize (lg_sl ([.int x0, .int x1]) ++ List.replicate (2 - (lg_sl ([.int x0, .int x1])).length) Slot.unset).toArray = ls at hl ⊢
  have hl : lv_has ls 2 [(0, .int x0), (1, .int x1)] := hl
  generalize hQ : MQ below (va_Qi (fun r (_ : Unit) => r = rv) (kb_B D A ([] : va_W)) A) ([.int x0, .int x1] : List Value).toArray s 0 0 A = Q
  show W p l e ({ frames := 1, cells := 0, slots := 0, locals := 21 } : Room) s m ([.int x0, .int x1] : List Value).toArray below meth c s.heap [] 0 0 Q (F0 m 0 ls [])
  have RET : ∀ (r2 : Int32) (H : Heap) (locs : List Loc) (ls : Array Slot) (pc : Nat), some (r2) = some (rv) → va_P D vwCl ([] : va_W) H → va_D A ([] : va_W) → va_S A s.heap H locs → decode cX12_farOf pc = .ok (.ireturn, 1) → W p l e ({ frames := 1, cells := 0, slots := 0, locals := 21 } : Room) s m ([.int x0, .int x1] : List Value).toArray below meth c H locs 0 0 Q (F0 m pc ls [.int r2]) := by
    intro r2 H locs ls pc hq hP hD hS hd
    cases hq
    rw [← hQ]
    exact W.iret hx hb hr (fun t ht hW => ⟨⟨_, (), rfl, rfl, by rw [ht]; exact hP, hD⟩, hS.F ht⟩) hS.2.2 hd
  have E0 : ∀ (H : Heap) (locs : List Loc), va_P D vwCl ([] : va_W) H → va_D A ([] : va_W) → va_S A s.heap H locs → W p l e ({ frames := 1, cells := 0, slots := 0, locals := 21 } : Room) s m ([.int x0, .int x1] : List Value).toArray below meth c H locs 0 0 Q (F0 m 0 ls []) := by
    intro H locs hP hD hS
    rw [f_X12_farOf] at hf
    refine lv_iconst (v := (2 : Int32)) hx hb dX12_farOf_0 (by decide) ?_
    refine lv_iload_n hx hb dX12_farOf_1 rfl (lv_at hl 0 rfl) ?_
    refine lv_iconst (v := (2 : Int32)) hx hb dX12_farOf_2 (by decide) ?_
    refine lv_ishr hx hb dX12_farOf_3 ?_
    refine lv_iload_n hx hb dX12_farOf_4 rfl (lv_at hl 1 rfl) ?_
    refine lv_iconst (v := (2 : Int32)) hx hb dX12_farOf_5 (by decide) ?_
    refine lv_ishr hx hb dX12_farOf_6 ?_
    obtain ⟨r1, hc1, hf⟩ := kb_bind hf
    refine kb_ci (ws2 := ([] : va_W)) (kb_rS (n := 2) (As := [.int (x0 >>> ((2 : Int32) &&& 31)), .int (x1 >>> ((2 : Int32) &&& 31))]) (rest := [.int (2 : Int32)]) hx hb hml hown hK (c_X12_far l D dA H.size (x0 >>> ((2 : Int32) &&& 31)) (x1 >>> ((2 : Int32) &&& 31)) r1 hc1) ⟨ww_7_135, ww_7_133, ww_7_134, ww_1_12, by decide, by decide⟩ rfl rfl (by decide +kernel) ⟨Nat.le_of_ble_eq_true rfl, Nat.le_of_ble_eq_true rfl⟩ hP hD hS hA hE [] rfl (by decide) rfl hl.1 rfl (Nat.le_of_ble_eq_true rfl) dX12_farOf_7 ⟨Nat.le_of_ble_eq_true rfl, Nat.le_of_ble_eq_true rfl⟩) hP hD hS hA [] [] [] rfl rfl (by decide) (by decide) rfl (by decide) (fun H locs hP hD hS => ?_)
    refine lv_imul hx hb dX12_farOf_10 ?_
    refine lv_iload_n hx hb dX12_farOf_11 rfl (lv_at hl 0 rfl) ?_
    refine lv_iconst (v := (3 : Int32)) hx hb dX12_farOf_12 (by decide) ?_
    refine lv_iand hx hb dX12_farOf_13 ?_
    refine lv_iload_n hx hb dX12_farOf_14 rfl (lv_at hl 1 rfl) ?_
    refine lv_iconst (v := (3 : Int32)) hx hb dX12_farOf_15 (by decide) ?_
    refine lv_iand hx hb dX12_farOf_16 ?_
    obtain ⟨r2, hc2, hf⟩ := kb_bind hf
    refine kb_ci (ws2 := ([] : va_W)) (kb_rS (n := 2) (As := [.int (x0 &&& (3 : Int32)), .int (x1 &&& (3 : Int32))]) (rest := [.int ((2 : Int32) * r1)]) hx hb hml hown hK (c_X12_far l D dA H.size (x0 &&& (3 : Int32)) (x1 &&& (3 : Int32)) r2 hc2) ⟨ww_7_135, ww_7_133, ww_7_134, ww_1_12, by decide, by decide⟩ rfl rfl (by decide +kernel) ⟨Nat.le_of_ble_eq_true rfl, Nat.le_of_ble_eq_true rfl⟩ hP hD hS hA hE [] rfl (by decide) rfl hl.1 rfl (Nat.le_of_ble_eq_true rfl) dX12_farOf_17 ⟨Nat.le_of_ble_eq_true rfl, Nat.le_of_ble_eq_true rfl⟩) hP hD hS hA [] [] [] rfl rfl (by decide) (by decide) rfl (by decide) (fun H locs hP hD hS => ?_)
    refine lv_iadd hx hb dX12_farOf_20 ?_
    exact RET _ H _ ls 21 hf hP hD hS dX12_farOf_21
  exact E0 _ _ hP hD hS

noncomputable def f_X12_first_b2 : Nat → Int32 → Int32 → Option (Int32)
  | 0, _, _ => none
  | n + 1, v0, v1 => (f_X12_has v0 v1).bind fun r1 => (if r1 = 0 then f_X12_first_b2 n v0 (v1 + (1 : Int32)) else some (v1))
noncomputable def f_X12_first (x0 : Int32) : Option (Int32) := f_X12_first_b2 4096 x0 (0 : Int32)
set_option maxHeartbeats 4000000 in
set_option maxRecDepth 100000 in
theorem c_X12_first (l : Launch) (D : va_G) (dA : Nat → ClassId) (sz : Nat) (x0 : Int32) (rv : Int32) (hf : f_X12_first x0 = some (rv)) : kb_Mi l yX12_first cX12_first 2 (some .int) ({ frames := 1, cells := 0, slots := 0, locals := 21 } : Room) D dA [.int x0] sz ([] : va_W) 0 0 rv ([] : va_W) := by
  refine Met.ofW (cc := cX12_first) (maxL := 2) (ret := (some .int)) (by decide) rfl ?_
  intro p e s m args below meth c s₁ B hml hv
  obtain ⟨rfl, hsz, hP, hK, hD0, hE⟩ := hv
  have hx := B.exec
  have hb := B.bytes
  have hr := B.returns
  have hown : s.vm.findClass RX12 = some m.cls := findClass_of_methodNamed B.named
  have hlocks := B.notSynchronized
  have hts : ∀ w ∈ kb_gw, w.before ([.int x0] : List Value).toArray s = true := fun w hw => hK.2.1 w hw _
  subst hsz
  have hD := hD0.self (sz := s.heap.size)
  generalize hAe : va_A ([] : va_W) s.heap.size = A at hD hE ⊢
  have hA : ∀ q : Nat, s.heap.size ≤ q → A q := fun q h => by rw [← hAe]; exact Or.inr h
  have hS : va_S A s.heap s.heap [] := va_S.rf
  have hl := lv_entry ([.int x0]) (n := 2) (Nat.le_of_ble_eq_true rfl)
  rw [lg_entry_eq]
  generalize (lg_sl ([.int x0]) ++ List.replicate (2 - (lg_sl ([.int x0])).length) Slot.unset).toArray = ls at hl ⊢
  have hl : lv_has ls 2 [(0, .int x0)] := hl
  generalize hQ : MQ below (va_Qi (fun r (_ : Unit) => r = rv) (kb_B D A ([] : va_W)) A) ([.int x0] : List Value).toArray s 0 0 A = Q
  show W p l e ({ frames := 1, cells := 0, slots := 0, locals := 21 } : Room) s m ([.int x0] : List Value).toArray below meth c s.heap [] 0 0 Q (F0 m 0 ls [])
  have RET : ∀ (r2 : Int32) (H : Heap) (locs : List Loc) (ls : Array Slot) (pc : Nat), some (r2) = some (rv) → va_P D vwCl ([] : va_W) H → va_D A ([] : va_W) → va_S A s.heap H locs → decode cX12_first pc = .ok (.ireturn, 1) → W p l e ({ frames := 1, cells := 0, slots := 0, locals := 21 } : Room) s m ([.int x0] : List Value).toArray below meth c H locs 0 0 Q (F0 m pc ls [.int r2]) := by
    intro r2 H locs ls pc hq hP hD hS hd
    cases hq
    rw [← hQ]
    exact W.iret hx hb hr (fun t ht hW => ⟨⟨_, (), rfl, rfl, by rw [ht]; exact hP, hD⟩, hS.F ht⟩) hS.2.2 hd
  have B_2 : ∀ (n : Nat) (v0 : Int32) (v1 : Int32) (H : Heap) (locs : List Loc) (ls : Array Slot), f_X12_first_b2 n v0 v1 = some (rv) → va_P D vwCl ([] : va_W) H → va_D A ([] : va_W) → va_S A s.heap H locs → lv_has ls 2 [(0, .int v0), (1, .int v1)] → W p l e ({ frames := 1, cells := 0, slots := 0, locals := 21 } : Room) s m ([.int x0] : List Value).toArray below meth c H locs 0 0 Q (F0 m 2 ls []) := by
    intro n
    induction n with
    | zero =>
      intro v0 v1 H locs ls hf
      exact absurd hf (by simp [f_X12_first_b2])
    | succ n ih =>
      intro v0 v1 H locs ls hf hP hD hS hl
      rw [f_X12_first_b2] at hf
      refine lv_iload_n hx hb dX12_first_2 rfl (lv_at hl 0 rfl) ?_
      refine lv_iload_n hx hb dX12_first_3 rfl (lv_at hl 1 rfl) ?_
      obtain ⟨r1, hc1, hf⟩ := kb_bind hf
      refine kb_ci (ws2 := ([] : va_W)) (kb_rS (n := 2) (As := [.int v0, .int v1]) (rest := []) hx hb hml hown hK (c_X12_has l D dA H.size v0 v1 r1 hc1) ⟨ww_7_182, ww_7_180, ww_7_181, ww_1_12, by decide, by decide⟩ rfl rfl (by decide +kernel) ⟨Nat.le_of_ble_eq_true rfl, Nat.le_of_ble_eq_true rfl⟩ hP hD hS hA hE [] rfl (by decide) rfl hl.1 rfl (Nat.le_of_ble_eq_true rfl) dX12_first_4 ⟨Nat.le_of_ble_eq_true rfl, Nat.le_of_ble_eq_true rfl⟩) hP hD hS hA [] [] [] rfl rfl (by decide) (by decide) rfl (by decide) (fun H locs hP hD hS => ?_)
      refine lv_if_ne (tgt := 16) hx hb dX12_first_7 (by decide) (fun c_2 => ?_) (fun c_2 => ?_)
      · rw [if_neg c_2] at hf
        refine lv_iload_n hx hb dX12_first_16 rfl (lv_at hl 1 rfl) ?_
        exact RET _ H _ ls 17 hf hP hD hS dX12_first_17
      · rw [if_pos c_2] at hf
        refine lv_iinc (v := (v1 + (1 : Int32))) (lv' := [(1, .int (v1 + (1 : Int32))), (0, .int v0)]) hx hb dX12_first_10 hl (k := 1) rfl (by rfl) (by decide) rfl (fun ls hl => ?_)
        refine lv_goto (tgt := 2) hx hb dX12_first_13 (by decide) ?_
        exact ih _ _ _ _ _ hf hP hD hS (lv_sub hl [1, 0] rfl)
  have E0 : ∀ (H : Heap) (locs : List Loc), va_P D vwCl ([] : va_W) H → va_D A ([] : va_W) → va_S A s.heap H locs → W p l e ({ frames := 1, cells := 0, slots := 0, locals := 21 } : Room) s m ([.int x0] : List Value).toArray below meth c H locs 0 0 Q (F0 m 0 ls []) := by
    intro H locs hP hD hS
    rw [f_X12_first] at hf
    refine lv_iconst (v := (0 : Int32)) hx hb dX12_first_0 (by decide) ?_
    refine lv_istore_n (lv' := [(1, .int (0 : Int32)), (0, .int x0)]) hx hb dX12_first_1 rfl hl (by decide) rfl (fun ls hl => ?_)
    exact B_2 4096 _ _ _ _ _ hf hP hD hS (lv_sub hl [1, 0] rfl)
  exact E0 _ _ hP hD hS

noncomputable def f_X12_wordOf_b4 : Nat → Nat → Int64 → Int32 → Option (Int64)
  | 0, _, _, _ => none
  | n + 1, i0, v1, v3 => (if (nI (kb_len.getD i0 0)) ≤ v3 then some (v1) else if kb_in? v3 (kb_len.getD i0 0) then f_X12_wordOf_b4 n i0 (((32 : Int64) * v1) + ((((kb_ch i0 (v3).toNatClampNeg) - (97 : Int32)) + (1 : Int32))).toInt64) (v3 + (1 : Int32)) else none)
noncomputable def f_X12_wordOf (ix0 : Nat) : Option (Int64) := f_X12_wordOf_b4 4096 ix0 (0 : Int64) (0 : Int32)
set_option maxHeartbeats 4000000 in
set_option maxRecDepth 100000 in
theorem c_X12_wordOf (l : Launch) (D : va_G) (dA : Nat → ClassId) (sz : Nat) (ix0 : Nat) (hix0 : ix0 < kb_N) (rv : Int64) (hf : f_X12_wordOf ix0 = some (rv)) : kb_Ml l yX12_wordOf cX12_wordOf 4 (some .long) ({ frames := 4, cells := 0, slots := 0, locals := 85 } : Room) D dA [.ref (dA (100 + ix0))] sz ([] : va_W) 0 0 rv ([] : va_W) := by
  refine Met.ofW (cc := cX12_wordOf) (maxL := 4) (ret := (some .long)) (by decide) rfl ?_
  intro p e s m args below meth c s₁ B hml hv
  obtain ⟨rfl, hsz, hP, hK, hD0, hE⟩ := hv
  have hx := B.exec
  have hb := B.bytes
  have hr := B.returns
  have hown : s.vm.findClass RX12 = some m.cls := findClass_of_methodNamed B.named
  have hlocks := B.notSynchronized
  have hts : ∀ w ∈ kb_gw, w.before ([.ref (dA (100 + ix0))] : List Value).toArray s = true := fun w hw => hK.2.1 w hw _
  subst hsz
  have hD := hD0.self (sz := s.heap.size)
  generalize hAe : va_A ([] : va_W) s.heap.size = A at hD hE ⊢
  have hA : ∀ q : Nat, s.heap.size ≤ q → A q := fun q h => by rw [← hAe]; exact Or.inr h
  have hS : va_S A s.heap s.heap [] := va_S.rf
  have hl := lv_entry ([.ref (dA (100 + ix0))]) (n := 4) (Nat.le_of_ble_eq_true rfl)
  rw [lg_entry_eq]
  generalize (lg_sl ([.ref (dA (100 + ix0))]) ++ List.replicate (4 - (lg_sl ([.ref (dA (100 + ix0))])).length) Slot.unset).toArray = ls at hl ⊢
  have hl : lv_has ls 4 [(0, .ref (dA (100 + ix0)))] := hl
  generalize hQ : MQ below (va_Ql (fun r (_ : Unit) => r = rv) (kb_B D A ([] : va_W)) A) ([.ref (dA (100 + ix0))] : List Value).toArray s 0 0 A = Q
  show W p l e ({ frames := 4, cells := 0, slots := 0, locals := 85 } : Room) s m ([.ref (dA (100 + ix0))] : List Value).toArray below meth c s.heap [] 0 0 Q (F0 m 0 ls [])
  have RET : ∀ (r2 : Int64) (H : Heap) (locs : List Loc) (ls : Array Slot) (pc : Nat), some (r2) = some (rv) → va_P D vwCl ([] : va_W) H → va_D A ([] : va_W) → va_S A s.heap H locs → decode cX12_wordOf pc = .ok (.lreturn, 1) → W p l e ({ frames := 4, cells := 0, slots := 0, locals := 85 } : Room) s m ([.ref (dA (100 + ix0))] : List Value).toArray below meth c H locs 0 0 Q (F0 m pc ls [.long r2]) := by
    intro r2 H locs ls pc hq hP hD hS hd
    cases hq
    rw [← hQ]
    exact W.lret hx hb hr (fun t ht hW => ⟨⟨_, (), rfl, rfl, by rw [ht]; exact hP, hD⟩, hS.F ht⟩) hS.2.2 hd
  have B_4 : ∀ (n : Nat) (i0 : Nat) (v1 : Int64) (v3 : Int32) (H : Heap) (locs : List Loc) (ls : Array Slot), i0 < kb_N → f_X12_wordOf_b4 n i0 v1 v3 = some (rv) → va_P D vwCl ([] : va_W) H → va_D A ([] : va_W) → va_S A s.heap H locs → lv_has ls 4 [(0, .ref (dA (100 + i0))), (1, .long v1), (3, .int v3)] → W p l e ({ frames := 4, cells := 0, slots := 0, locals := 85 } : Room) s m ([.ref (dA (100 + ix0))] : List Value).toArray below meth c H locs 0 0 Q (F0 m 4 ls []) := by
    intro n
    induction n with
    | zero =>
      intro i0 v1 v3 H locs ls hi0 hf
      exact absurd hf (by simp [f_X12_wordOf_b4])
    | succ n ih =>
      intro i0 v1 v3 H locs ls hi0 hf hP hD hS hl
      rw [f_X12_wordOf_b4] at hf
      refine lv_iload_n hx hb dX12_wordOf_4 rfl (lv_at hl 2 rfl) ?_
      refine lv_aload_n hx hb dX12_wordOf_5 rfl (lv_at hl 0 rfl) ?_
      refine kb_ki (kb_rK (n := 0) (As := []) (rest := [.int v3]) hx hb hml hown hK hi0 (c_J0_length_8abf5 l D dA H.size i0 hi0) ⟨ww_2_237, ww_6_217, ww_2_235, ww_2_236, ww_1_14, rfl, by decide, by decide⟩ rfl rfl (by decide +kernel) ⟨Nat.le_of_ble_eq_true rfl, Nat.le_of_ble_eq_true rfl⟩ hS hA hE rfl hl.1 rfl (Nat.le_of_ble_eq_true rfl) dX12_wordOf_6 ⟨Nat.le_of_ble_eq_true rfl, Nat.le_of_ble_eq_true rfl⟩) hP hD hS hA (fun H locs hP hD hS => ?_)
      refine lv_icmp_ge (tgt := 36) hx hb dX12_wordOf_9 (by decide) (fun c_1 => ?_) (fun c_1 => ?_)
      · rw [if_pos c_1] at hf
        refine lv_lload_n hx hb dX12_wordOf_36 rfl (lv_at hl 1 rfl) ?_
        exact RET _ H _ ls 37 hf hP hD hS dX12_wordOf_37
      · rw [if_neg c_1] at hf
        refine lv_ldc2 (v := (32 : Int64)) hx hb hown (hK.2.w ww_6_197 rfl _) dX12_wordOf_12 ?_
        refine lv_lload_n hx hb dX12_wordOf_15 rfl (lv_at hl 1 rfl) ?_
        refine lv_lmul hx hb dX12_wordOf_16 ?_
        refine lv_aload_n hx hb dX12_wordOf_17 rfl (lv_at hl 0 rfl) ?_
        refine lv_iload_n hx hb dX12_wordOf_18 rfl (lv_at hl 2 rfl) ?_
        obtain ⟨h_2, hf⟩ := kb_if hf
        refine kb_ki (kb_rK (n := 1) (As := [.int v3]) (rest := [.long ((32 : Int64) * v1)]) hx hb hml hown hK hi0 (c_J0_charAt_5068e l D dA H.size i0 hi0 v3 h_2) ⟨ww_3_7, ww_6_218, ww_3_5, ww_3_6, ww_1_14, rfl, by decide, by decide⟩ rfl rfl (by decide +kernel) ⟨Nat.le_of_ble_eq_true rfl, Nat.le_of_ble_eq_true rfl⟩ hS hA hE rfl hl.1 rfl (Nat.le_of_ble_eq_true rfl) dX12_wordOf_19 ⟨Nat.le_of_ble_eq_true rfl, Nat.le_of_ble_eq_true rfl⟩) hP hD hS hA (fun H locs hP hD hS => ?_)
        refine lv_bipush (v := (97 : Int32)) hx hb dX12_wordOf_22 (by decide) ?_
        refine lv_isub hx hb dX12_wordOf_24 ?_
        refine lv_iconst (v := (1 : Int32)) hx hb dX12_wordOf_25 (by decide) ?_
        refine lv_iadd hx hb dX12_wordOf_26 ?_
        refine lv_i2l hx hb dX12_wordOf_27 rfl ?_
        refine lv_ladd hx hb dX12_wordOf_28 ?_
        refine lv_lstore_n (lv' := [(1, .long (((32 : Int64) * v1) + ((((kb_ch i0 (v3).toNatClampNeg) - (97 : Int32)) + (1 : Int32))).toInt64)), (0, .ref (dA (100 + i0))), (3, .int v3)]) hx hb dX12_wordOf_29 rfl hl (by decide) rfl (fun ls hl => ?_)
        refine lv_iinc (v := (v3 + (1 : Int32))) (lv' := [(3, .int (v3 + (1 : Int32))), (1, .long (((32 : Int64) * v1) + ((((kb_ch i0 (v3).toNatClampNeg) - (97 : Int32)) + (1 : Int32))).toInt64)), (0, .ref (dA (100 + i0)))]) hx hb dX12_wordOf_30 hl (k := 2) rfl (by rfl) (by decide) rfl (fun ls hl => ?_)
        refine lv_goto (tgt := 4) hx hb dX12_wordOf_33 (by decide) ?_
        exact ih _ _ _ _ _ _ hi0 hf hP hD hS (lv_sub hl [2, 1, 0] rfl)
  have E0 : ∀ (H : Heap) (locs : List Loc), va_P D vwCl ([] : va_W) H → va_D A ([] : va_W) → va_S A s.heap H locs → W p l e ({ frames := 4, cells := 0, slots := 0, locals := 85 } : Room) s m ([.ref (dA (100 + ix0))] : List Value).toArray below meth c H locs 0 0 Q (F0 m 0 ls []) := by
    intro H locs hP hD hS
    rw [f_X12_wordOf] at hf
    refine lv_lconst (v := (0 : Int64)) hx hb dX12_wordOf_0 (by decide) ?_
    refine lv_lstore_n (lv' := [(1, .long (0 : Int64)), (0, .ref (dA (100 + ix0)))]) hx hb dX12_wordOf_1 rfl hl (by decide) rfl (fun ls hl => ?_)
    refine lv_iconst (v := (0 : Int32)) hx hb dX12_wordOf_2 (by decide) ?_
    refine lv_istore_n (lv' := [(3, .int (0 : Int32)), (1, .long (0 : Int64)), (0, .ref (dA (100 + ix0)))]) hx hb dX12_wordOf_3 rfl hl (by decide) rfl (fun ls hl => ?_)
    exact B_4 4096 _ _ _ _ _ _ hix0 hf hP hD hS (lv_sub hl [2, 1, 0] rfl)
  exact E0 _ _ hP hD hS

noncomputable def f_X11_find_b2 (bu : BusT) : Nat → Int64 → Int32 → Option (Int32)
  | 0, _, _ => none
  | n + 1, v1, v3 => (if (bu_names bu) ≤ v3 then some ((-1 : Int32)) else if kb_in? v3 12 then (if (lg_cmp ((bu_name bu) (v3).toNatClampNeg) v1) = 0 then some (v3) else f_X11_find_b2 bu n v1 (v3 + (1 : Int32))) else none)
noncomputable def f_X11_find (bu : BusT) (x0 : Int64) : Option (Int32) := f_X11_find_b2 bu 4096 x0 (0 : Int32)
set_option maxHeartbeats 4000000 in
set_option maxRecDepth 100000 in
theorem c_X11_find (l : Launch) (D : va_G) (dA : Nat → ClassId) (sz : Nat) (ba : Nat → Nat) (bu : BusT) (x0 : Int64) (rv : Int32) (hf : f_X11_find bu x0 = some (rv)) : kb_Mi l yX11_find cX11_find 4 (some .int) ({ frames := 0, cells := 0, slots := 0, locals := 0 } : Room) D dA [.ref (ba 0), .long x0] sz (w_Bus dA ba bu) 0 0 rv (w_Bus dA ba bu) := by
  refine Met.ofW (cc := cX11_find) (maxL := 4) (ret := (some .int)) (by decide) rfl ?_
  intro p e s m args below meth c s₁ B hml hv
  obtain ⟨rfl, hsz, hP, hK, hD0, hE⟩ := hv
  have hx := B.exec
  have hb := B.bytes
  have hr := B.returns
  have hown : s.vm.findClass RX11 = some m.cls := findClass_of_methodNamed B.named
  have hlocks := B.notSynchronized
  have hts : ∀ w ∈ kb_gw, w.before ([.ref (ba 0), .long x0] : List Value).toArray s = true := fun w hw => hK.2.1 w hw _
  subst hsz
  have hD := hD0.self (sz := s.heap.size)
  generalize hAe : va_A (w_Bus dA ba bu) s.heap.size = A at hD hE ⊢
  have hA : ∀ q : Nat, s.heap.size ≤ q → A q := fun q h => by rw [← hAe]; exact Or.inr h
  have hS : va_S A s.heap s.heap [] := va_S.rf
  have hl := lv_entry ([.ref (ba 0), .long x0]) (n := 4) (Nat.le_of_ble_eq_true rfl)
  rw [lg_entry_eq]
  generalize (lg_sl ([.ref (ba 0), .long x0]) ++ List.replicate (4 - (lg_sl ([.ref (ba 0), .long x0])).length) Slot.unset).toArray = ls at hl ⊢
  have hl : lv_has ls 4 [(0, .ref (ba 0)), (1, .long x0)] := hl
  generalize hQ : MQ below (va_Qi (fun r (_ : Unit) => r = rv) (kb_B D A (w_Bus dA ba bu)) A) ([.ref (ba 0), .long x0] : List Value).toArray s 0 0 A = Q
  show W p l e ({ frames := 0, cells := 0, slots := 0, locals := 0 } : Room) s m ([.ref (ba 0), .long x0] : List Value).toArray below meth c s.heap [] 0 0 Q (F0 m 0 ls [])
  have RET : ∀ (r2 : Int32) (H : Heap) (locs : List Loc) (ls : Array Slot) (pc : Nat), some (r2) = some (rv) → va_P D vwCl (w_Bus dA ba bu) H → va_D A (w_Bus dA ba bu) → va_S A s.heap H locs → decode cX11_find pc = .ok (.ireturn, 1) → W p l e ({ frames := 0, cells := 0, slots := 0, locals := 0 } : Room) s m ([.ref (ba 0), .long x0] : List Value).toArray below meth c H locs 0 0 Q (F0 m pc ls [.int r2]) := by
    intro r2 H locs ls pc hq hP hD hS hd
    cases hq
    rw [← hQ]
    exact W.iret hx hb hr (fun t ht hW => ⟨⟨_, (), rfl, rfl, by rw [ht]; exact hP, hD⟩, hS.F ht⟩) hS.2.2 hd
  have B_2 : ∀ (n : Nat) (v1 : Int64) (v3 : Int32) (H : Heap) (locs : List Loc) (ls : Array Slot), f_X11_find_b2 bu n v1 v3 = some (rv) → va_P D vwCl (w_Bus dA ba bu) H → va_D A (w_Bus dA ba bu) → va_S A s.heap H locs → lv_has ls 4 [(0, .ref (ba 0)), (1, .long v1), (3, .int v3)] → W p l e ({ frames := 0, cells := 0, slots := 0, locals := 0 } : Room) s m ([.ref (ba 0), .long x0] : List Value).toArray below meth c H locs 0 0 Q (F0 m 2 ls []) := by
    intro n
    induction n with
    | zero =>
      intro v1 v3 H locs ls hf
      exact absurd hf (by simp [f_X11_find_b2])
    | succ n ih =>
      intro v1 v3 H locs ls hf hP hD hS hl
      rw [f_X11_find_b2] at hf
      refine lv_iload_n hx hb dX11_find_2 rfl (lv_at hl 2 rfl) ?_
      refine lv_aload_n hx hb dX11_find_3 rfl (lv_at hl 0 rfl) ?_
      refine va_get (D := D) (ci := 11) (v := .int (bu_names bu)) (C := RX11) (T := TX11) (N := 26) hx hb hts kb_inX11 hown hK.1 hP 0 rfl rfl 10 (by decide) (hK.2.w ww_6_100 rfl _) (fun _ h9 => h9) rfl dX11_find_4 ?_
      refine lv_icmp_ge (tgt := 29) hx hb dX11_find_7 (by decide) (fun c_1 => ?_) (fun c_1 => ?_)
      · rw [if_pos c_1] at hf
        refine lv_iconst (v := (-1 : Int32)) hx hb dX11_find_29 (by decide) ?_
        exact RET _ H _ ls 30 hf hP hD hS dX11_find_30
      · rw [if_neg c_1] at hf
        refine lv_aload_n hx hb dX11_find_10 rfl (lv_at hl 0 rfl) ?_
        refine va_get (D := D) (ci := 11) (v := .ref (ba 13)) (C := RX11) (T := TX11) (N := 26) hx hb hts kb_inX11 hown hK.1 hP 0 rfl rfl 23 (by decide) (hK.2.w ww_6_126 rfl _) (fun _ h9 => h9) rfl dX11_find_11 ?_
        refine lv_iload_n hx hb dX11_find_14 rfl (lv_at hl 2 rfl) ?_
        obtain ⟨h_2, hf⟩ := kb_if hf
        refine va_lald (D := D) hx hb hK.1 hP 13 2 rfl rfl h_2 dX11_find_15 ?_
        refine lv_lload_n hx hb dX11_find_16 rfl (lv_at hl 1 rfl) ?_
        refine W.lcmp hx hb dX11_find_17 ?_
        refine lv_if_ne (tgt := 23) hx hb dX11_find_18 (by decide) (fun c_3 => ?_) (fun c_3 => ?_)
        · rw [if_neg c_3] at hf
          refine lv_iinc (v := (v3 + (1 : Int32))) (lv' := [(3, .int (v3 + (1 : Int32))), (0, .ref (ba 0)), (1, .long v1)]) hx hb dX11_find_23 hl (k := 2) rfl (by rfl) (by decide) rfl (fun ls hl => ?_)
          refine lv_goto (tgt := 2) hx hb dX11_find_26 (by decide) ?_
          exact ih _ _ _ _ _ hf hP hD hS (lv_sub hl [1, 2, 0] rfl)
        · rw [if_pos c_3] at hf
          refine lv_iload_n hx hb dX11_find_21 rfl (lv_at hl 2 rfl) ?_
          exact RET _ H _ ls 22 hf hP hD hS dX11_find_22
  have E0 : ∀ (H : Heap) (locs : List Loc), va_P D vwCl (w_Bus dA ba bu) H → va_D A (w_Bus dA ba bu) → va_S A s.heap H locs → W p l e ({ frames := 0, cells := 0, slots := 0, locals := 0 } : Room) s m ([.ref (ba 0), .long x0] : List Value).toArray below meth c H locs 0 0 Q (F0 m 0 ls []) := by
    intro H locs hP hD hS
    rw [f_X11_find] at hf
    refine lv_iconst (v := (0 : Int32)) hx hb dX11_find_0 (by decide) ?_
    refine lv_istore_n (lv' := [(3, .int (0 : Int32)), (0, .ref (ba 0)), (1, .long x0)]) hx hb dX11_find_1 rfl hl (by decide) rfl (fun ls hl => ?_)
    exact B_2 4096 _ _ _ _ _ hf hP hD hS (lv_sub hl [1, 2, 0] rfl)
  exact E0 _ _ hP hD hS

noncomputable def f_X11_areFriends_b30 (bu : BusT) (k2 : Int32 → Int32 → Int32 → Option (Int32)) (v1 : Int32) (v2 : Int32) (v3 : Int32) : Option (Int32) := if kb_in? v3 3 then (if ((bu_friendA bu) (v3).toNatClampNeg) = v2 then if kb_in? v3 3 then (if ((bu_friendB bu) (v3).toNatClampNeg) = v1 then some ((1 : Int32)) else k2 v1 v2 (v3 + (1 : Int32))) else none else k2 v1 v2 (v3 + (1 : Int32))) else none
noncomputable def f_X11_areFriends_b2 (bu : BusT) : Nat → Int32 → Int32 → Int32 → Option (Int32)
  | 0, _, _, _ => none
  | n + 1, v1, v2, v3 => (if (bu_friends bu) ≤ v3 then some ((0 : Int32)) else if kb_in? v3 3 then (if ((bu_friendA bu) (v3).toNatClampNeg) = v1 then if kb_in? v3 3 then (if ((bu_friendB bu) (v3).toNatClampNeg) = v2 then some ((1 : Int32)) else f_X11_areFriends_b30 bu (f_X11_areFriends_b2 bu n) v1 v2 v3) else none else f_X11_areFriends_b30 bu (f_X11_areFriends_b2 bu n) v1 v2 v3) else none)
noncomputable def f_X11_areFriends (bu : BusT) (x0 : Int32) (x1 : Int32) : Option (Int32) := f_X11_areFriends_b2 bu 4096 x0 x1 (0 : Int32)
set_option maxHeartbeats 4000000 in
set_option maxRecDepth 100000 in
theorem c_X11_areFriends (l : Launch) (D : va_G) (dA : Nat → ClassId) (sz : Nat) (ba : Nat → Nat) (bu : BusT) (x0 : Int32) (x1 : Int32) (rv : Int32) (hf : f_X11_areFriends bu x0 x1 = some (rv)) : kb_Mi l yX11_areFriends cX11_areFriends 4 (some .boolean) ({ frames := 0, cells := 0, slots := 0, locals := 0 } : Room) D dA [.ref (ba 0), .int x0, .int x1] sz (w_Bus dA ba bu) 0 0 rv (w_Bus dA ba bu) := by
  refine Met.ofW (cc := cX11_areFriends) (maxL := 4) (ret := (some .boolean)) (by decide) rfl ?_
  intro p e s m args below meth c s₁ B hml hv
  obtain ⟨rfl, hsz, hP, hK, hD0, hE⟩ := hv
  have hx := B.exec
  have hb := B.bytes
  have hr := B.returns
  have hown : s.vm.findClass RX11 = some m.cls := findClass_of_methodNamed B.named
  have hlocks := B.notSynchronized
  have hts : ∀ w ∈ kb_gw, w.before ([.ref (ba 0), .int x0, .int x1] : List Value).toArray s = true := fun w hw => hK.2.1 w hw _
  subst hsz
  have hD := hD0.self (sz := s.heap.size)
  generalize hAe : va_A (w_Bus dA ba bu) s.heap.size = A at hD hE ⊢
  have hA : ∀ q : Nat, s.heap.size ≤ q → A q := fun q h => by rw [← hAe]; exact Or.inr h
  have hS : va_S A s.heap s.heap [] := va_S.rf
  have hl := lv_entry ([.ref (ba 0), .int x0, .int x1]) (n := 4) (Nat.le_of_ble_eq_true rfl)
  rw [lg_entry_eq]
  generalize (lg_sl ([.ref (ba 0), .int x0, .int x1]) ++ List.replicate (4 - (lg_sl ([.ref (ba 0), .int x0, .int x1])).length) Slot.unset).toArray = ls at hl ⊢
  have hl : lv_has ls 4 [(0, .ref (ba 0)), (1, .int x0), (2, .int x1)] := hl
  generalize hQ : MQ below (va_Qi (fun r (_ : Unit) => r = rv) (kb_B D A (w_Bus dA ba bu)) A) ([.ref (ba 0), .int x0, .int x1] : List Value).toArray s 0 0 A = Q
  show W p l e ({ frames := 0, cells := 0, slots := 0, locals := 0 } : Room) s m ([.ref (ba 0), .int x0, .int x1] : List Value).toArray below meth c s.heap [] 0 0 Q (F0 m 0 ls [])
  have RET : ∀ (r2 : Int32) (H : Heap) (locs : List Loc) (ls : Array Slot) (pc : Nat), some (r2) = some (rv) → va_P D vwCl (w_Bus dA ba bu) H → va_D A (w_Bus dA ba bu) → va_S A s.heap H locs → kb_01 r2 → decode cX11_areFriends pc = .ok (.ireturn, 1) → W p l e ({ frames := 0, cells := 0, slots := 0, locals := 0 } : Room) s m ([.ref (ba 0), .int x0, .int x1] : List Value).toArray below meth c H locs 0 0 Q (F0 m pc ls [.int r2]) := by
    intro r2 H locs ls pc hq hP hD hS h01 hd
    cases hq
    rw [← hQ]
    exact W.zret (ty := .boolean) hx hb hr (kb_nz h01) (fun t ht hW => ⟨⟨_, (), rfl, rfl, by rw [ht]; exact hP, hD⟩, hS.F ht⟩) hS.2.2 hd
  have B_30 : ∀ (k2 : Int32 → Int32 → Int32 → Option (Int32)) (hk2 : ∀ (v1 : Int32) (v2 : Int32) (v3 : Int32) (H : Heap) (locs : List Loc) (ls : Array Slot), k2 v1 v2 v3 = some (rv) → va_P D vwCl (w_Bus dA ba bu) H → va_D A (w_Bus dA ba bu) → va_S A s.heap H locs → lv_has ls 4 [(0, .ref (ba 0)), (1, .int v1), (2, .int v2), (3, .int v3)] → W p l e ({ frames := 0, cells := 0, slots := 0, locals := 0 } : Room) s m ([.ref (ba 0), .int x0, .int x1] : List Value).toArray below meth c H locs 0 0 Q (F0 m 2 ls [])) (v1 : Int32) (v2 : Int32) (v3 : Int32) (H : Heap) (locs : List Loc) (ls : Array Slot), f_X11_areFriends_b30 bu k2 v1 v2 v3 = some (rv) → va_P D vwCl (w_Bus dA ba bu) H → va_D A (w_Bus dA ba bu) → va_S A s.heap H locs → lv_has ls 4 [(0, .ref (ba 0)), (1, .int v1), (2, .int v2), (3, .int v3)] → W p l e ({ frames := 0, cells := 0, slots := 0, locals := 0 } : Room) s m ([.ref (ba 0), .int x0, .int x1] : List Value).toArray below meth c H locs 0 0 Q (F0 m 30 ls []) := by
    intro k2 hk2 v1 v2 v3 H locs ls hf hP hD hS hl
    rw [f_X11_areFriends_b30] at hf
    refine lv_aload_n hx hb dX11_areFriends_30 rfl (lv_at hl 0 rfl) ?_
    refine va_get (D := D) (ci := 11) (v := .ref (ba 11)) (C := RX11) (T := TX11) (N := 26) hx hb hts kb_inX11 hown hK.1 hP 0 rfl rfl 21 (by decide) (hK.2.w ww_6_122 rfl _) (fun _ h9 => h9) rfl dX11_areFriends_31 ?_
    refine lv_iload_n hx hb dX11_areFriends_34 rfl (lv_at hl 3 rfl) ?_
    obtain ⟨h_4, hf⟩ := kb_if hf
    refine va_iald (D := D) hx hb hK.1 hP 11 0 rfl rfl h_4 dX11_areFriends_35 ?_
    refine lv_iload_n hx hb dX11_areFriends_36 rfl (lv_at hl 2 rfl) ?_
    refine lv_icmp_ne (tgt := 52) hx hb dX11_areFriends_37 (by decide) (fun c_5 => ?_) (fun c_5 => ?_)
    · rw [if_neg c_5] at hf
      refine lv_iinc (v := (v3 + (1 : Int32))) (lv' := [(3, .int (v3 + (1 : Int32))), (0, .ref (ba 0)), (1, .int v1), (2, .int v2)]) hx hb dX11_areFriends_52 hl (k := 3) rfl (by rfl) (by decide) rfl (fun ls hl => ?_)
      refine lv_goto (tgt := 2) hx hb dX11_areFriends_55 (by decide) ?_
      exact hk2 _ _ _ _ _ _ hf hP hD hS (lv_sub hl [1, 2, 3, 0] rfl)
    · rw [if_pos c_5] at hf
      refine lv_aload_n hx hb dX11_areFriends_40 rfl (lv_at hl 0 rfl) ?_
      refine va_get (D := D) (ci := 11) (v := .ref (ba 12)) (C := RX11) (T := TX11) (N := 26) hx hb hts kb_inX11 hown hK.1 hP 0 rfl rfl 22 (by decide) (hK.2.w ww_6_124 rfl _) (fun _ h9 => h9) rfl dX11_areFriends_41 ?_
      refine lv_iload_n hx hb dX11_areFriends_44 rfl (lv_at hl 3 rfl) ?_
      obtain ⟨h_6, hf⟩ := kb_if hf
      refine va_iald (D := D) hx hb hK.1 hP 12 0 rfl rfl h_6 dX11_areFriends_45 ?_
      refine lv_iload_n hx hb dX11_areFriends_46 rfl (lv_at hl 1 rfl) ?_
      refine lv_icmp_ne (tgt := 52) hx hb dX11_areFriends_47 (by decide) (fun c_7 => ?_) (fun c_7 => ?_)
      · rw [if_neg c_7] at hf
        refine lv_iinc (v := (v3 + (1 : Int32))) (lv' := [(3, .int (v3 + (1 : Int32))), (0, .ref (ba 0)), (1, .int v1), (2, .int v2)]) hx hb dX11_areFriends_52 hl (k := 3) rfl (by rfl) (by decide) rfl (fun ls hl => ?_)
        refine lv_goto (tgt := 2) hx hb dX11_areFriends_55 (by decide) ?_
        exact hk2 _ _ _ _ _ _ hf hP hD hS (lv_sub hl [1, 2, 3, 0] rfl)
      · rw [if_pos c_7] at hf
        refine lv_iconst (v := (1 : Int32)) hx hb dX11_areFriends_50 (by decide) ?_
        exact RET _ H _ ls 51 hf hP hD hS (by decide) dX11_areFriends_51
  have B_2 : ∀ (n : Nat) (v1 : Int32) (v2 : Int32) (v3 : Int32) (H : Heap) (locs : List Loc) (ls : Array Slot), f_X11_areFriends_b2 bu n v1 v2 v3 = some (rv) → va_P D vwCl (w_Bus dA ba bu) H → va_D A (w_Bus dA ba bu) → va_S A s.heap H locs → lv_has ls 4 [(0, .ref (ba 0)), (1, .int v1), (2, .int v2), (3, .int v3)] → W p l e ({ frames := 0, cells := 0, slots := 0, locals := 0 } : Room) s m ([.ref (ba 0), .int x0, .int x1] : List Value).toArray below meth c H locs 0 0 Q (F0 m 2 ls []) := by
    intro n
    induction n with
    | zero =>
      intro v1 v2 v3 H locs ls hf
      exact absurd hf (by simp [f_X11_areFriends_b2])
    | succ n ih =>
      intro v1 v2 v3 H locs ls hf hP hD hS hl
      rw [f_X11_areFriends_b2] at hf
      refine lv_iload_n hx hb dX11_areFriends_2 rfl (lv_at hl 3 rfl) ?_
      refine lv_aload_n hx hb dX11_areFriends_3 rfl (lv_at hl 0 rfl) ?_
      refine va_get (D := D) (ci := 11) (v := .int (bu_friends bu)) (C := RX11) (T := TX11) (N := 26) hx hb hts kb_inX11 hown hK.1 hP 0 rfl rfl 8 (by decide) (hK.2.w ww_6_97 rfl _) (fun _ h9 => h9) rfl dX11_areFriends_4 ?_
      refine lv_icmp_ge (tgt := 58) hx hb dX11_areFriends_7 (by decide) (fun c_1 => ?_) (fun c_1 => ?_)
      · rw [if_pos c_1] at hf
        refine lv_iconst (v := (0 : Int32)) hx hb dX11_areFriends_58 (by decide) ?_
        exact RET _ H _ ls 59 hf hP hD hS (by decide) dX11_areFriends_59
      · rw [if_neg c_1] at hf
        refine lv_aload_n hx hb dX11_areFriends_10 rfl (lv_at hl 0 rfl) ?_
        refine va_get (D := D) (ci := 11) (v := .ref (ba 11)) (C := RX11) (T := TX11) (N := 26) hx hb hts kb_inX11 hown hK.1 hP 0 rfl rfl 21 (by decide) (hK.2.w ww_6_122 rfl _) (fun _ h9 => h9) rfl dX11_areFriends_11 ?_
        refine lv_iload_n hx hb dX11_areFriends_14 rfl (lv_at hl 3 rfl) ?_
        obtain ⟨h_2, hf⟩ := kb_if hf
        refine va_iald (D := D) hx hb hK.1 hP 11 0 rfl rfl h_2 dX11_areFriends_15 ?_
        refine lv_iload_n hx hb dX11_areFriends_16 rfl (lv_at hl 1 rfl) ?_
        refine lv_icmp_ne (tgt := 30) hx hb dX11_areFriends_17 (by decide) (fun c_3 => ?_) (fun c_3 => ?_)
        · rw [if_neg c_3] at hf
          exact B_30 (f_X11_areFriends_b2 bu n) ih _ _ _ _ _ _ hf hP hD hS (lv_sub hl [0, 1, 2, 3] rfl)
        · rw [if_pos c_3] at hf
          refine lv_aload_n hx hb dX11_areFriends_20 rfl (lv_at hl 0 rfl) ?_
          refine va_get (D := D) (ci := 11) (v := .ref (ba 12)) (C := RX11) (T := TX11) (N := 26) hx hb hts kb_inX11 hown hK.1 hP 0 rfl rfl 22 (by decide) (hK.2.w ww_6_124 rfl _) (fun _ h9 => h9) rfl dX11_areFriends_21 ?_
          refine lv_iload_n hx hb dX11_areFriends_24 rfl (lv_at hl 3 rfl) ?_
          obtain ⟨h_8, hf⟩ := kb_if hf
          refine va_iald (D := D) hx hb hK.1 hP 12 0 rfl rfl h_8 dX11_areFriends_25 ?_
          refine lv_iload_n hx hb dX11_areFriends_26 rfl (lv_at hl 2 rfl) ?_
          refine lv_icmp_eq (tgt := 50) hx hb dX11_areFriends_27 (by decide) (fun c_9 => ?_) (fun c_9 => ?_)
          · rw [if_pos c_9] at hf
            refine lv_iconst (v := (1 : Int32)) hx hb dX11_areFriends_50 (by decide) ?_
            exact RET _ H _ ls 51 hf hP hD hS (by decide) dX11_areFriends_51
          · rw [if_neg c_9] at hf
            exact B_30 (f_X11_areFriends_b2 bu n) ih _ _ _ _ _ _ hf hP hD hS (lv_sub hl [0, 1, 2, 3] rfl)
  have E0 : ∀ (H : Heap) (locs : List Loc), va_P D vwCl (w_Bus dA ba bu) H → va_D A (w_Bus dA ba bu) → va_S A s.heap H locs → W p l e ({ frames := 0, cells := 0, slots := 0, locals := 0 } : Room) s m ([.ref (ba 0), .int x0, .int x1] : List Value).toArray below meth c H locs 0 0 Q (F0 m 0 ls []) := by
    intro H locs hP hD hS
    rw [f_X11_areFriends] at hf
    refine lv_iconst (v := (0 : Int32)) hx hb dX11_areFriends_0 (by decide) ?_
    refine lv_istore_n (lv' := [(3, .int (0 : Int32)), (0, .ref (ba 0)), (1, .int x0), (2, .int x1)]) hx hb dX11_areFriends_1 rfl hl (by decide) rfl (fun ls hl => ?_)
    exact B_2 4096 _ _ _ _ _ _ hf hP hD hS (lv_sub hl [1, 2, 3, 0] rfl)
  exact E0 _ _ hP hD hS
