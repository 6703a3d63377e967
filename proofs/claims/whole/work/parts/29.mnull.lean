noncomputable def f_X12_isSeat_n_b44 (mo : MOT)  : Option (Int32) := some ((0 : Int32))
noncomputable def f_X12_isSeat_n (mo : MOT) (x0 : Int32) : Option (Int32) := f_X12_isSeat_n_b44 mo 
set_option maxHeartbeats 4000000 in
set_option maxRecDepth 100000 in
theorem c_X12_isSeat_n (l : Launch) (D : va_G) (dA : Nat → ClassId) (sz : Nat) (a : Nat → Nat) (q1 : Option Nat) (g2 : Nat) (g3 : Nat) (g4 : Nat) (g5 : Nat) (g6 : Nat) (g7 : Nat) (g8 : Nat) (g9 : Nat) (g10 : Nat) (g11 : Nat) (g12 : Nat) (g13 : Nat) (g14 : Nat) (g15 : Nat) (g16 : Nat) (g17 : Nat) (g18 : Nat) (mo : MOT) (x0 : Int32) (rv : Int32) (hf : f_X12_isSeat_n mo x0 = some (rv)) : kb_Mi l yX12_isSeat cX12_isSeat 2 (some .boolean) ({ frames := 0, cells := 0, slots := 0, locals := 0 } : Room) D dA [.ref (a 0), .int x0] sz (w_MO dA a none q1 g2 g3 g4 g5 g6 g7 g8 g9 g10 g11 g12 g13 g14 g15 g16 g17 g18 mo) 0 0 rv (w_MO dA a none q1 g2 g3 g4 g5 g6 g7 g8 g9 g10 g11 g12 g13 g14 g15 g16 g17 g18 mo) := by
  refine Met.ofW (cc := cX12_isSeat) (maxL := 2) (ret := (some .boolean)) (by decide) rfl ?_
  intro p e s m args below meth c s₁ B hml hv
  obtain ⟨rfl, hsz, hP, hK, hD0, hE⟩ := hv
  have hx := B.exec
  have hb := B.bytes
  have hr := B.returns
  have hown : s.vm.findClass RX12 = some m.cls := findClass_of_methodNamed B.named
  have hlocks := B.notSynchronized
  have hts : ∀ w ∈ kb_gw, w.before ([.ref (a 0), .int x0] : List Value).toArray s = true := fun w hw => hK.2.1 w hw _
  subst hsz
  have hD := hD0.self (sz := s.heap.size)
  generalize hAe : va_A (w_MO dA a none q1 g2 g3 g4 g5 g6 g7 g8 g9 g10 g11 g12 g13 g14 g15 g16 g17 g18 mo) s.heap.size = A at hD hE ⊢
  have hA : ∀ q : Nat, s.heap.size ≤ q → A q := fun q h => by rw [← hAe]; exact Or.inr h
  have hS : va_S A s.heap s.heap [] := va_S.rf
  have hl := lv_entry ([.ref (a 0), .int x0]) (n := 2) (Nat.le_of_ble_eq_true rfl)
  rw [lg_entry_eq]
  generalize (lg_sl ([.ref (a 0), .int x0]) ++ List.replicate (2 - (lg_sl ([.ref (a 0), .int x0])).length) Slot.unset).toArray = ls at hl ⊢
  have hl : lv_has ls 2 [(0, .ref (a 0)), (1, .int x0)] := hl
  generalize hQ : MQ below (va_Qi (fun r (_ : Unit) => r = rv) (kb_B D A (w_MO dA a none q1 g2 g3 g4 g5 g6 g7 g8 g9 g10 g11 g12 g13 g14 g15 g16 g17 g18 mo)) A) ([.ref (a 0), .int x0] : List Value).toArray s 0 0 A = Q
  show W p l e ({ frames := 0, cells := 0, slots := 0, locals := 0 } : Room) s m ([.ref (a 0), .int x0] : List Value).toArray below meth c s.heap [] 0 0 Q (F0 m 0 ls [])
  have RET : ∀ (r2 : Int32) (H : Heap) (locs : List Loc) (ls : Array Slot) (pc : Nat), some (r2) = some (rv) → va_P D vwCl (w_MO dA a none q1 g2 g3 g4 g5 g6 g7 g8 g9 g10 g11 g12 g13 g14 g15 g16 g17 g18 mo) H → va_D A (w_MO dA a none q1 g2 g3 g4 g5 g6 g7 g8 g9 g10 g11 g12 g13 g14 g15 g16 g17 g18 mo) → va_S A s.heap H locs → kb_01 r2 → decode cX12_isSeat pc = .ok (.ireturn, 1) → W p l e ({ frames := 0, cells := 0, slots := 0, locals := 0 } : Room) s m ([.ref (a 0), .int x0] : List Value).toArray below meth c H locs 0 0 Q (F0 m pc ls [.int r2]) := by
    intro r2 H locs ls pc hq hP hD hS h01 hd
    cases hq
    rw [← hQ]
    exact W.zret (ty := .boolean) hx hb hr (kb_nz h01) (fun t ht hW => ⟨⟨_, (), rfl, rfl, by rw [ht]; exact hP, hD⟩, hS.F ht⟩) hS.2.2 hd
  have B_44 : ∀  (H : Heap) (locs : List Loc) (ls : Array Slot), f_X12_isSeat_n_b44 mo  = some (rv) → va_P D vwCl (w_MO dA a none q1 g2 g3 g4 g5 g6 g7 g8 g9 g10 g11 g12 g13 g14 g15 g16 g17 g18 mo) H → va_D A (w_MO dA a none q1 g2 g3 g4 g5 g6 g7 g8 g9 g10 g11 g12 g13 g14 g15 g16 g17 g18 mo) → va_S A s.heap H locs → lv_has ls 2 [] → W p l e ({ frames := 0, cells := 0, slots := 0, locals := 0 } : Room) s m ([.ref (a 0), .int x0] : List Value).toArray below meth c H locs 0 0 Q (F0 m 44 ls []) := by
    intro  H locs ls hf hP hD hS hl
    rw [f_X12_isSeat_n_b44] at hf
    refine lv_iconst (v := (0 : Int32)) hx hb dX12_isSeat_44 (by decide) ?_
    exact RET _ H _ ls 45 hf hP hD hS (by decide) dX12_isSeat_45
  have E0 : ∀ (H : Heap) (locs : List Loc), va_P D vwCl (w_MO dA a none q1 g2 g3 g4 g5 g6 g7 g8 g9 g10 g11 g12 g13 g14 g15 g16 g17 g18 mo) H → va_D A (w_MO dA a none q1 g2 g3 g4 g5 g6 g7 g8 g9 g10 g11 g12 g13 g14 g15 g16 g17 g18 mo) → va_S A s.heap H locs → W p l e ({ frames := 0, cells := 0, slots := 0, locals := 0 } : Room) s m ([.ref (a 0), .int x0] : List Value).toArray below meth c H locs 0 0 Q (F0 m 0 ls []) := by
    intro H locs hP hD hS
    rw [f_X12_isSeat_n] at hf
    refine lv_aload_n hx hb dX12_isSeat_0 rfl (lv_at hl 0 rfl) ?_
    refine va_get (D := D) (ci := 12) (v := .null) (C := RX12) (T := TX12) (N := 35) hx hb hts kb_inX12 hown hK.1 hP 0 rfl rfl 3 (by decide) (hK.2.w ww_5_203 rfl _) (fun _ h9 => h9) rfl dX12_isSeat_1 ?_
    refine lv_ifnullN (tgt := 44) hx hb dX12_isSeat_4 (by decide) ?_
    exact B_44 _ _ _ hf hP hD hS (lv_sub hl [] rfl)
  exact E0 _ _ hP hD hS

noncomputable def f_X12_isRider_n_b26 (mo : MOT)  : Option (Int32) := some ((0 : Int32))
noncomputable def f_X12_isRider_n (mo : MOT) (x0 : Int32) : Option (Int32) := f_X12_isRider_n_b26 mo 
set_option maxHeartbeats 4000000 in
set_option maxRecDepth 100000 in
theorem c_X12_isRider_n (l : Launch) (D : va_G) (dA : Nat → ClassId) (sz : Nat) (a : Nat → Nat) (q1 : Option Nat) (g2 : Nat) (g3 : Nat) (g4 : Nat) (g5 : Nat) (g6 : Nat) (g7 : Nat) (g8 : Nat) (g9 : Nat) (g10 : Nat) (g11 : Nat) (g12 : Nat) (g13 : Nat) (g14 : Nat) (g15 : Nat) (g16 : Nat) (g17 : Nat) (g18 : Nat) (mo : MOT) (x0 : Int32) (rv : Int32) (hf : f_X12_isRider_n mo x0 = some (rv)) : kb_Mi l yX12_isRider cX12_isRider 2 (some .boolean) ({ frames := 0, cells := 0, slots := 0, locals := 0 } : Room) D dA [.ref (a 0), .int x0] sz (w_MO dA a none q1 g2 g3 g4 g5 g6 g7 g8 g9 g10 g11 g12 g13 g14 g15 g16 g17 g18 mo) 0 0 rv (w_MO dA a none q1 g2 g3 g4 g5 g6 g7 g8 g9 g10 g11 g12 g13 g14 g15 g16 g17 g18 mo) := by
  refine Met.ofW (cc := cX12_isRider) (maxL := 2) (ret := (some .boolean)) (by decide) rfl ?_
  intro p e s m args below meth c s₁ B hml hv
  obtain ⟨rfl, hsz, hP, hK, hD0, hE⟩ := hv
  have hx := B.exec
  have hb := B.bytes
  have hr := B.returns
  have hown : s.vm.findClass RX12 = some m.cls := findClass_of_methodNamed B.named
  have hlocks := B.notSynchronized
  have hts : ∀ w ∈ kb_gw, w.before ([.ref (a 0), .int x0] : List Value).toArray s = true := fun w hw => hK.2.1 w hw _
  subst hsz
  have hD := hD0.self (sz := s.heap.size)
  generalize hAe : va_A (w_MO dA a none q1 g2 g3 g4 g5 g6 g7 g8 g9 g10 g11 g12 g13 g14 g15 g16 g17 g18 mo) s.heap.size = A at hD hE ⊢
  have hA : ∀ q : Nat, s.heap.size ≤ q → A q := fun q h => by rw [← hAe]; exact Or.inr h
  have hS : va_S A s.heap s.heap [] := va_S.rf
  have hl := lv_entry ([.ref (a 0), .int x0]) (n := 2) (Nat.le_of_ble_eq_true rfl)
  rw [lg_entry_eq]
  generalize (lg_sl ([.ref (a 0), .int x0]) ++ List.replicate (2 - (lg_sl ([.ref (a 0), .int x0])).length) Slot.unset).toArray = ls at hl ⊢
  have hl : lv_has ls 2 [(0, .ref (a 0)), (1, .int x0)] := hl
  generalize hQ : MQ below (va_Qi (fun r (_ : Unit) => r = rv) (kb_B D A (w_MO dA a none q1 g2 g3 g4 g5 g6 g7 g8 g9 g10 g11 g12 g13 g14 g15 g16 g17 g18 mo)) A) ([.ref (a 0), .int x0] : List Value).toArray s 0 0 A = Q
  show W p l e ({ frames := 0, cells := 0, slots := 0, locals := 0 } : Room) s m ([.ref (a 0), .int x0] : List Value).toArray below meth c s.heap [] 0 0 Q (F0 m 0 ls [])
  have RET : ∀ (r2 : Int32) (H : Heap) (locs : List Loc) (ls : Array Slot) (pc : Nat), some (r2) = some (rv) → va_P D vwCl (w_MO dA a none q1 g2 g3 g4 g5 g6 g7 g8 g9 g10 g11 g12 g13 g14 g15 g16 g17 g18 mo) H → va_D A (w_MO dA a none q1 g2 g3 g4 g5 g6 g7 g8 g9 g10 g11 g12 g13 g14 g15 g16 g17 g18 mo) → va_S A s.heap H locs → kb_01 r2 → decode cX12_isRider pc = .ok (.ireturn, 1) → W p l e ({ frames := 0, cells := 0, slots := 0, locals := 0 } : Room) s m ([.ref (a 0), .int x0] : List Value).toArray below meth c H locs 0 0 Q (F0 m pc ls [.int r2]) := by
    intro r2 H locs ls pc hq hP hD hS h01 hd
    cases hq
    rw [← hQ]
    exact W.zret (ty := .boolean) hx hb hr (kb_nz h01) (fun t ht hW => ⟨⟨_, (), rfl, rfl, by rw [ht]; exact hP, hD⟩, hS.F ht⟩) hS.2.2 hd
  have B_26 : ∀  (H : Heap) (locs : List Loc) (ls : Array Slot), f_X12_isRider_n_b26 mo  = some (rv) → va_P D vwCl (w_MO dA a none q1 g2 g3 g4 g5 g6 g7 g8 g9 g10 g11 g12 g13 g14 g15 g16 g17 g18 mo) H → va_D A (w_MO dA a none q1 g2 g3 g4 g5 g6 g7 g8 g9 g10 g11 g12 g13 g14 g15 g16 g17 g18 mo) → va_S A s.heap H locs → lv_has ls 2 [] → W p l e ({ frames := 0, cells := 0, slots := 0, locals := 0 } : Room) s m ([.ref (a 0), .int x0] : List Value).toArray below meth c H locs 0 0 Q (F0 m 26 ls []) := by
    intro  H locs ls hf hP hD hS hl
    rw [f_X12_isRider_n_b26] at hf
    refine lv_iconst (v := (0 : Int32)) hx hb dX12_isRider_26 (by decide) ?_
    exact RET _ H _ ls 27 hf hP hD hS (by decide) dX12_isRider_27
  have E0 : ∀ (H : Heap) (locs : List Loc), va_P D vwCl (w_MO dA a none q1 g2 g3 g4 g5 g6 g7 g8 g9 g10 g11 g12 g13 g14 g15 g16 g17 g18 mo) H → va_D A (w_MO dA a none q1 g2 g3 g4 g5 g6 g7 g8 g9 g10 g11 g12 g13 g14 g15 g16 g17 g18 mo) → va_S A s.heap H locs → W p l e ({ frames := 0, cells := 0, slots := 0, locals := 0 } : Room) s m ([.ref (a 0), .int x0] : List Value).toArray below meth c H locs 0 0 Q (F0 m 0 ls []) := by
    intro H locs hP hD hS
    rw [f_X12_isRider_n] at hf
    refine lv_aload_n hx hb dX12_isRider_0 rfl (lv_at hl 0 rfl) ?_
    refine va_get (D := D) (ci := 12) (v := .null) (C := RX12) (T := TX12) (N := 35) hx hb hts kb_inX12 hown hK.1 hP 0 rfl rfl 3 (by decide) (hK.2.w ww_5_203 rfl _) (fun _ h9 => h9) rfl dX12_isRider_1 ?_
    refine lv_ifnullN (tgt := 26) hx hb dX12_isRider_4 (by decide) ?_
    exact B_26 _ _ _ hf hP hD hS (lv_sub hl [] rfl)
  exact E0 _ _ hP hD hS

noncomputable def f_X12_isRule_n_b26 (mo : MOT)  : Option (Int32) := some ((0 : Int32))
noncomputable def f_X12_isRule_n (mo : MOT) (x0 : Int32) : Option (Int32) := f_X12_isRule_n_b26 mo 
set_option maxHeartbeats 4000000 in
set_option maxRecDepth 100000 in
theorem c_X12_isRule_n (l : Launch) (D : va_G) (dA : Nat → ClassId) (sz : Nat) (a : Nat → Nat) (q1 : Option Nat) (g2 : Nat) (g3 : Nat) (g4 : Nat) (g5 : Nat) (g6 : Nat) (g7 : Nat) (g8 : Nat) (g9 : Nat) (g10 : Nat) (g11 : Nat) (g12 : Nat) (g13 : Nat) (g14 : Nat) (g15 : Nat) (g16 : Nat) (g17 : Nat) (g18 : Nat) (mo : MOT) (x0 : Int32) (rv : Int32) (hf : f_X12_isRule_n mo x0 = some (rv)) : kb_Mi l yX12_isRule cX12_isRule 2 (some .boolean) ({ frames := 0, cells := 0, slots := 0, locals := 0 } : Room) D dA [.ref (a 0), .int x0] sz (w_MO dA a none q1 g2 g3 g4 g5 g6 g7 g8 g9 g10 g11 g12 g13 g14 g15 g16 g17 g18 mo) 0 0 rv (w_MO dA a none q1 g2 g3 g4 g5 g6 g7 g8 g9 g10 g11 g12 g13 g14 g15 g16 g17 g18 mo) := by
  refine Met.ofW (cc := cX12_isRule) (maxL := 2) (ret := (some .boolean)) (by decide) rfl ?_
  intro p e s m args below meth c s₁ B hml hv
  obtain ⟨rfl, hsz, hP, hK, hD0, hE⟩ := hv
  have hx := B.exec
  have hb := B.bytes
  have hr := B.returns
  have hown : s.vm.findClass RX12 = some m.cls := findClass_of_methodNamed B.named
  have hlocks := B.notSynchronized
  have hts : ∀ w ∈ kb_gw, w.before ([.ref (a 0), .int x0] : List Value).toArray s = true := fun w hw => hK.2.1 w hw _
  subst hsz
  have hD := hD0.self (sz := s.heap.size)
  generalize hAe : va_A (w_MO dA a none q1 g2 g3 g4 g5 g6 g7 g8 g9 g10 g11 g12 g13 g14 g15 g16 g17 g18 mo) s.heap.size = A at hD hE ⊢
  have hA : ∀ q : Nat, s.heap.size ≤ q → A q := fun q h => by rw [← hAe]; exact Or.inr h
  have hS : va_S A s.heap s.heap [] := va_S.rf
  have hl := lv_entry ([.ref (a 0), .int x0]) (n := 2) (Nat.le_of_ble_eq_true rfl)
  rw [lg_entry_eq]
  generalize (lg_sl ([.ref (a 0), .int x0]) ++ List.replicate (2 - (lg_sl ([.ref (a 0), .int x0])).length) Slot.unset).toArray = ls at hl ⊢
  have hl : lv_has ls 2 [(0, .ref (a 0)), (1, .int x0)] := hl
  generalize hQ : MQ below (va_Qi (fun r (_ : Unit) => r = rv) (kb_B D A (w_MO dA a none q1 g2 g3 g4 g5 g6 g7 g8 g9 g10 g11 g12 g13 g14 g15 g16 g17 g18 mo)) A) ([.ref (a 0), .int x0] : List Value).toArray s 0 0 A = Q
  show W p l e ({ frames := 0, cells := 0, slots := 0, locals := 0 } : Room) s m ([.ref (a 0), .int x0] : List Value).toArray below meth c s.heap [] 0 0 Q (F0 m 0 ls [])
  have RET : ∀ (r2 : Int32) (H : Heap) (locs : List Loc) (ls : Array Slot) (pc : Nat), some (r2) = some (rv) → va_P D vwCl (w_MO dA a none q1 g2 g3 g4 g5 g6 g7 g8 g9 g10 g11 g12 g13 g14 g15 g16 g17 g18 mo) H → va_D A (w_MO dA a none q1 g2 g3 g4 g5 g6 g7 g8 g9 g10 g11 g12 g13 g14 g15 g16 g17 g18 mo) → va_S A s.heap H locs → kb_01 r2 → decode cX12_isRule pc = .ok (.ireturn, 1) → W p l e ({ frames := 0, cells := 0, slots := 0, locals := 0 } : Room) s m ([.ref (a 0), .int x0] : List Value).toArray below meth c H locs 0 0 Q (F0 m pc ls [.int r2]) := by
    intro r2 H locs ls pc hq hP hD hS h01 hd
    cases hq
    rw [← hQ]
    exact W.zret (ty := .boolean) hx hb hr (kb_nz h01) (fun t ht hW => ⟨⟨_, (), rfl, rfl, by rw [ht]; exact hP, hD⟩, hS.F ht⟩) hS.2.2 hd
  have B_26 : ∀  (H : Heap) (locs : List Loc) (ls : Array Slot), f_X12_isRule_n_b26 mo  = some (rv) → va_P D vwCl (w_MO dA a none q1 g2 g3 g4 g5 g6 g7 g8 g9 g10 g11 g12 g13 g14 g15 g16 g17 g18 mo) H → va_D A (w_MO dA a none q1 g2 g3 g4 g5 g6 g7 g8 g9 g10 g11 g12 g13 g14 g15 g16 g17 g18 mo) → va_S A s.heap H locs → lv_has ls 2 [] → W p l e ({ frames := 0, cells := 0, slots := 0, locals := 0 } : Room) s m ([.ref (a 0), .int x0] : List Value).toArray below meth c H locs 0 0 Q (F0 m 26 ls []) := by
    intro  H locs ls hf hP hD hS hl
    rw [f_X12_isRule_n_b26] at hf
    refine lv_iconst (v := (0 : Int32)) hx hb dX12_isRule_26 (by decide) ?_
    exact RET _ H _ ls 27 hf hP hD hS (by decide) dX12_isRule_27
  have E0 : ∀ (H : Heap) (locs : List Loc), va_P D vwCl (w_MO dA a none q1 g2 g3 g4 g5 g6 g7 g8 g9 g10 g11 g12 g13 g14 g15 g16 g17 g18 mo) H → va_D A (w_MO dA a none q1 g2 g3 g4 g5 g6 g7 g8 g9 g10 g11 g12 g13 g14 g15 g16 g17 g18 mo) → va_S A s.heap H locs → W p l e ({ frames := 0, cells := 0, slots := 0, locals := 0 } : Room) s m ([.ref (a 0), .int x0] : List Value).toArray below meth c H locs 0 0 Q (F0 m 0 ls []) := by
    intro H locs hP hD hS
    rw [f_X12_isRule_n] at hf
    refine lv_aload_n hx hb dX12_isRule_0 rfl (lv_at hl 0 rfl) ?_
    refine va_get (D := D) (ci := 12) (v := .null) (C := RX12) (T := TX12) (N := 35) hx hb hts kb_inX12 hown hK.1 hP 0 rfl rfl 3 (by decide) (hK.2.w ww_5_203 rfl _) (fun _ h9 => h9) rfl dX12_isRule_1 ?_
    refine lv_ifnullN (tgt := 26) hx hb dX12_isRule_4 (by decide) ?_
    exact B_26 _ _ _ hf hP hD hS (lv_sub hl [] rfl)
  exact E0 _ _ hP hD hS

noncomputable def f_X12_isForm_n_b20 (mo : MOT)  : Option (Int32) := some ((0 : Int32))
noncomputable def f_X12_isForm_n (mo : MOT) (x0 : Int32) : Option (Int32) := f_X12_isForm_n_b20 mo 
set_option maxHeartbeats 4000000 in
set_option maxRecDepth 100000 in
theorem c_X12_isForm_n (l : Launch) (D : va_G) (dA : Nat → ClassId) (sz : Nat) (a : Nat → Nat) (q1 : Option Nat) (g2 : Nat) (g3 : Nat) (g4 : Nat) (g5 : Nat) (g6 : Nat) (g7 : Nat) (g8 : Nat) (g9 : Nat) (g10 : Nat) (g11 : Nat) (g12 : Nat) (g13 : Nat) (g14 : Nat) (g15 : Nat) (g16 : Nat) (g17 : Nat) (g18 : Nat) (mo : MOT) (x0 : Int32) (rv : Int32) (hf : f_X12_isForm_n mo x0 = some (rv)) : kb_Mi l yX12_isForm cX12_isForm 2 (some .boolean) ({ frames := 0, cells := 0, slots := 0, locals := 0 } : Room) D dA [.ref (a 0), .int x0] sz (w_MO dA a none q1 g2 g3 g4 g5 g6 g7 g8 g9 g10 g11 g12 g13 g14 g15 g16 g17 g18 mo) 0 0 rv (w_MO dA a none q1 g2 g3 g4 g5 g6 g7 g8 g9 g10 g11 g12 g13 g14 g15 g16 g17 g18 mo) := by
  refine Met.ofW (cc := cX12_isForm) (maxL := 2) (ret := (some .boolean)) (by decide) rfl ?_
  intro p e s m args below meth c s₁ B hml hv
  obtain ⟨rfl, hsz, hP, hK, hD0, hE⟩ := hv
  have hx := B.exec
  have hb := B.bytes
  have hr := B.returns
  have hown : s.vm.findClass RX12 = some m.cls := findClass_of_methodNamed B.named
  have hlocks := B.notSynchronized
  have hts : ∀ w ∈ kb_gw, w.before ([.ref (a 0), .int x0] : List Value).toArray s = true := fun w hw => hK.2.1 w hw _
  subst hsz
  have hD := hD0.self (sz := s.heap.size)
  generalize hAe : va_A (w_MO dA a none q1 g2 g3 g4 g5 g6 g7 g8 g9 g10 g11 g12 g13 g14 g15 g16 g17 g18 mo) s.heap.size = A at hD hE ⊢
  have hA : ∀ q : Nat, s.heap.size ≤ q → A q := fun q h => by rw [← hAe]; exact Or.inr h
  have hS : va_S A s.heap s.heap [] := va_S.rf
  have hl := lv_entry ([.ref (a 0), .int x0]) (n := 2) (Nat.le_of_ble_eq_true rfl)
  rw [lg_entry_eq]
  generalize (lg_sl ([.ref (a 0), .int x0]) ++ List.replicate (2 - (lg_sl ([.ref (a 0), .int x0])).length) Slot.unset).toArray = ls at hl ⊢
  have hl : lv_has ls 2 [(0, .ref (a 0)), (1, .int x0)] := hl
  generalize hQ : MQ below (va_Qi (fun r (_ : Unit) => r = rv) (kb_B D A (w_MO dA a none q1 g2 g3 g4 g5 g6 g7 g8 g9 g10 g11 g12 g13 g14 g15 g16 g17 g18 mo)) A) ([.ref (a 0), .int x0] : List Value).toArray s 0 0 A = Q
  show W p l e ({ frames := 0, cells := 0, slots := 0, locals := 0 } : Room) s m ([.ref (a 0), .int x0] : List Value).toArray below meth c s.heap [] 0 0 Q (F0 m 0 ls [])
  have RET : ∀ (r2 : Int32) (H : Heap) (locs : List Loc) (ls : Array Slot) (pc : Nat), some (r2) = some (rv) → va_P D vwCl (w_MO dA a none q1 g2 g3 g4 g5 g6 g7 g8 g9 g10 g11 g12 g13 g14 g15 g16 g17 g18 mo) H → va_D A (w_MO dA a none q1 g2 g3 g4 g5 g6 g7 g8 g9 g10 g11 g12 g13 g14 g15 g16 g17 g18 mo) → va_S A s.heap H locs → kb_01 r2 → decode cX12_isForm pc = .ok (.ireturn, 1) → W p l e ({ frames := 0, cells := 0, slots := 0, locals := 0 } : Room) s m ([.ref (a 0), .int x0] : List Value).toArray below meth c H locs 0 0 Q (F0 m pc ls [.int r2]) := by
    intro r2 H locs ls pc hq hP hD hS h01 hd
    cases hq
    rw [← hQ]
    exact W.zret (ty := .boolean) hx hb hr (kb_nz h01) (fun t ht hW => ⟨⟨_, (), rfl, rfl, by rw [ht]; exact hP, hD⟩, hS.F ht⟩) hS.2.2 hd
  have B_20 : ∀  (H : Heap) (locs : List Loc) (ls : Array Slot), f_X12_isForm_n_b20 mo  = some (rv) → va_P D vwCl (w_MO dA a none q1 g2 g3 g4 g5 g6 g7 g8 g9 g10 g11 g12 g13 g14 g15 g16 g17 g18 mo) H → va_D A (w_MO dA a none q1 g2 g3 g4 g5 g6 g7 g8 g9 g10 g11 g12 g13 g14 g15 g16 g17 g18 mo) → va_S A s.heap H locs → lv_has ls 2 [] → W p l e ({ frames := 0, cells := 0, slots := 0, locals := 0 } : Room) s m ([.ref (a 0), .int x0] : List Value).toArray below meth c H locs 0 0 Q (F0 m 20 ls []) := by
    intro  H locs ls hf hP hD hS hl
    rw [f_X12_isForm_n_b20] at hf
    refine lv_iconst (v := (0 : Int32)) hx hb dX12_isForm_20 (by decide) ?_
    exact RET _ H _ ls 21 hf hP hD hS (by decide) dX12_isForm_21
  have E0 : ∀ (H : Heap) (locs : List Loc), va_P D vwCl (w_MO dA a none q1 g2 g3 g4 g5 g6 g7 g8 g9 g10 g11 g12 g13 g14 g15 g16 g17 g18 mo) H → va_D A (w_MO dA a none q1 g2 g3 g4 g5 g6 g7 g8 g9 g10 g11 g12 g13 g14 g15 g16 g17 g18 mo) → va_S A s.heap H locs → W p l e ({ frames := 0, cells := 0, slots := 0, locals := 0 } : Room) s m ([.ref (a 0), .int x0] : List Value).toArray below meth c H locs 0 0 Q (F0 m 0 ls []) := by
    intro H locs hP hD hS
    rw [f_X12_isForm_n] at hf
    refine lv_aload_n hx hb dX12_isForm_0 rfl (lv_at hl 0 rfl) ?_
    refine va_get (D := D) (ci := 12) (v := .null) (C := RX12) (T := TX12) (N := 35) hx hb hts kb_inX12 hown hK.1 hP 0 rfl rfl 3 (by decide) (hK.2.w ww_5_203 rfl _) (fun _ h9 => h9) rfl dX12_isForm_1 ?_
    refine lv_ifnullN (tgt := 20) hx hb dX12_isForm_4 (by decide) ?_
    exact B_20 _ _ _ hf hP hD hS (lv_sub hl [] rfl)
  exact E0 _ _ hP hD hS

noncomputable def f_X12_stop_n_b5 (z0 : MOT) : Option (Int32 × MOT) := (f_X12_refused z0 (1 : Int32)).bind fun r1 => some (r1.1, r1.2)
noncomputable def f_X12_stop_n (mo : MOT) : Option (Int32 × MOT) := f_X12_stop_n_b5 (mo_set_thrown mo (0 : Int32))
set_option maxHeartbeats 4000000 in
set_option maxRecDepth 100000 in
theorem c_X12_stop_n (l : Launch) (D : va_G) (dA : Nat → ClassId) (sz : Nat) (a : Nat → Nat) (q1 : Option Nat) (g2 : Nat) (g3 : Nat) (g4 : Nat) (g5 : Nat) (g6 : Nat) (g7 : Nat) (g8 : Nat) (g9 : Nat) (g10 : Nat) (g11 : Nat) (g12 : Nat) (g13 : Nat) (g14 : Nat) (g15 : Nat) (g16 : Nat) (g17 : Nat) (g18 : Nat) (mo : MOT) (rv : Int32) (u0 : MOT) (hf : f_X12_stop_n mo = some (rv, u0)) : kb_Mi l yX12_stop cX12_stop 1 (some .int) ({ frames := 1, cells := 0, slots := 0, locals := 21 } : Room) D dA [.ref (a 0)] sz (w_MO dA a none q1 g2 g3 g4 g5 g6 g7 g8 g9 g10 g11 g12 g13 g14 g15 g16 g17 g18 mo) 0 0 rv (w_MO dA a none q1 g2 g3 g4 g5 g6 g7 g8 g9 g10 g11 g12 g13 g14 g15 g16 g17 g18 u0) := by
  refine Met.ofW (cc := cX12_stop) (maxL := 1) (ret := (some .int)) (by decide) rfl ?_
  intro p e s m args below meth c s₁ B hml hv
  obtain ⟨rfl, hsz, hP, hK, hD0, hE⟩ := hv
  have hx := B.exec
  have hb := B.bytes
  have hr := B.returns
  have hown : s.vm.findClass RX12 = some m.cls := findClass_of_methodNamed B.named
  have hlocks := B.notSynchronized
  have hts : ∀ w ∈ kb_gw, w.before ([.ref (a 0)] : List Value).toArray s = true := fun w hw => hK.2.1 w hw _
  subst hsz
  have hD := hD0.self (sz := s.heap.size)
  generalize hAe : va_A (w_MO dA a none q1 g2 g3 g4 g5 g6 g7 g8 g9 g10 g11 g12 g13 g14 g15 g16 g17 g18 mo) s.heap.size = A at hD hE ⊢
  have hA : ∀ q : Nat, s.heap.size ≤ q → A q := fun q h => by rw [← hAe]; exact Or.inr h
  have hS : va_S A s.heap s.heap [] := va_S.rf
  have hl := lv_entry ([.ref (a 0)]) (n := 1) (Nat.le_of_ble_eq_true rfl)
  rw [lg_entry_eq]
  generalize (lg_sl ([.ref (a 0)]) ++ List.replicate (1 - (lg_sl ([.ref (a 0)])).length) Slot.unset).toArray = ls at hl ⊢
  have hl : lv_has ls 1 [(0, .ref (a 0))] := hl
  generalize hQ : MQ below (va_Qi (fun r (_ : Unit) => r = rv) (kb_B D A (w_MO dA a none q1 g2 g3 g4 g5 g6 g7 g8 g9 g10 g11 g12 g13 g14 g15 g16 g17 g18 u0)) A) ([.ref (a 0)] : List Value).toArray s 0 0 A = Q
  show W p l e ({ frames := 1, cells := 0, slots := 0, locals := 21 } : Room) s m ([.ref (a 0)] : List Value).toArray below meth c s.heap [] 0 0 Q (F0 m 0 ls [])
  have RET : ∀ (r2 : Int32) (w0 : MOT) (H : Heap) (locs : List Loc) (ls : Array Slot) (pc : Nat), some (r2, w0) = some (rv, u0) → va_P D vwCl (w_MO dA a none q1 g2 g3 g4 g5 g6 g7 g8 g9 g10 g11 g12 g13 g14 g15 g16 g17 g18 w0) H → va_D A (w_MO dA a none q1 g2 g3 g4 g5 g6 g7 g8 g9 g10 g11 g12 g13 g14 g15 g16 g17 g18 w0) → va_S A s.heap H locs → decode cX12_stop pc = .ok (.ireturn, 1) → W p l e ({ frames := 1, cells := 0, slots := 0, locals := 21 } : Room) s m ([.ref (a 0)] : List Value).toArray below meth c H locs 0 0 Q (F0 m pc ls [.int r2]) := by
    intro r2 w0 H locs ls pc hq hP hD hS hd
    cases hq
    rw [← hQ]
    exact W.iret hx hb hr (fun t ht hW => ⟨⟨_, (), rfl, rfl, by rw [ht]; exact hP, hD⟩, hS.F ht⟩) hS.2.2 hd
  have B_5 : ∀ (z0 : MOT) (H : Heap) (locs : List Loc) (ls : Array Slot), f_X12_stop_n_b5 z0 = some (rv, u0) → va_P D vwCl (w_MO dA a none q1 g2 g3 g4 g5 g6 g7 g8 g9 g10 g11 g12 g13 g14 g15 g16 g17 g18 z0) H → va_D A (w_MO dA a none q1 g2 g3 g4 g5 g6 g7 g8 g9 g10 g11 g12 g13 g14 g15 g16 g17 g18 z0) → va_S A s.heap H locs → lv_has ls 1 [(0, .ref (a 0))] → W p l e ({ frames := 1, cells := 0, slots := 0, locals := 21 } : Room) s m ([.ref (a 0)] : List Value).toArray below meth c H locs 0 0 Q (F0 m 5 ls []) := by
    intro z0 H locs ls hf hP hD hS hl
    rw [f_X12_stop_n_b5] at hf
    refine lv_aload_n hx hb dX12_stop_5 rfl (lv_at hl 0 rfl) ?_
    refine va_get (D := D) (ci := 12) (v := .null) (C := RX12) (T := TX12) (N := 35) hx hb hts kb_inX12 hown hK.1 hP 0 rfl rfl 3 (by decide) (hK.2.w ww_5_203 rfl _) (fun _ h9 => h9) rfl dX12_stop_6 ?_
    refine lv_ifnonnullN hx hb dX12_stop_9 ?_
    refine lv_aload_n hx hb dX12_stop_12 rfl (lv_at hl 0 rfl) ?_
    refine lv_iconst (v := (1 : Int32)) hx hb dX12_stop_13 (by decide) ?_
    obtain ⟨r1, hc1, hf⟩ := kb_bind hf
    refine kb_ci (ws2 := (w_MO dA a none q1 g2 g3 g4 g5 g6 g7 g8 g9 g10 g11 g12 g13 g14 g15 g16 g17 g18 r1.2)) (kb_rV (n := 1) (As := [.int (1 : Int32)]) (rest := []) hx hb hml hown hK (c_X12_refused l D dA H.size a none q1 g2 g3 g4 g5 g6 g7 g8 g9 g10 g11 g12 g13 g14 g15 g16 g17 g18 z0 (1 : Int32) r1.1 r1.2 hc1) ⟨ww_6_82, ww_6_79, ww_6_81, ws_46, ww_1_12, rfl, by decide, by decide⟩ rfl rfl (by decide +kernel) ⟨Nat.le_of_ble_eq_true rfl, Nat.le_of_ble_eq_true rfl⟩ hP hD hS hA hE [0] rfl (by decide) 0 rfl rfl rfl hl.1 rfl (Nat.le_of_ble_eq_true rfl) dX12_stop_14 ⟨Nat.le_of_ble_eq_true rfl, Nat.le_of_ble_eq_true rfl⟩) hP hD hS hA [0] [] [0] rfl rfl (by decide) (by decide) rfl (by decide) (fun H locs hP hD hS => ?_)
    exact RET _ _ H _ ls 17 hf hP hD hS dX12_stop_17
  have E0 : ∀ (H : Heap) (locs : List Loc), va_P D vwCl (w_MO dA a none q1 g2 g3 g4 g5 g6 g7 g8 g9 g10 g11 g12 g13 g14 g15 g16 g17 g18 mo) H → va_D A (w_MO dA a none q1 g2 g3 g4 g5 g6 g7 g8 g9 g10 g11 g12 g13 g14 g15 g16 g17 g18 mo) → va_S A s.heap H locs → W p l e ({ frames := 1, cells := 0, slots := 0, locals := 21 } : Room) s m ([.ref (a 0)] : List Value).toArray below meth c H locs 0 0 Q (F0 m 0 ls []) := by
    intro H locs hP hD hS
    rw [f_X12_stop_n] at hf
    refine lv_aload_n hx hb dX12_stop_0 rfl (lv_at hl 0 rfl) ?_
    refine lv_iconst (v := (0 : Int32)) hx hb dX12_stop_1 (by decide) ?_
    refine va_put (D := D) (ci := 12) (v := .int (0 : Int32)) (ty := .int) (C := RX12) (T := TX12) (N := 35) hx hb hts kb_inX12 tyX12 tyX12_ok nmX12 hown hK.1 hP hD hS 0 rfl rfl 0 (by decide) (hK.2.w ww_5_200 rfl _) (fun _ h9 => h9) rfl (by decide +kernel) rfl rfl (Nat.le_of_ble_eq_true rfl) dX12_stop_2 (fun H locs hP hD hS => ?_)
    have hP : va_P D vwCl (w_MO dA a none q1 g2 g3 g4 g5 g6 g7 g8 g9 g10 g11 g12 g13 g14 g15 g16 g17 g18 (mo_set_thrown mo (0 : Int32))) H := hP
    have hD : va_D A (w_MO dA a none q1 g2 g3 g4 g5 g6 g7 g8 g9 g10 g11 g12 g13 g14 g15 g16 g17 g18 (mo_set_thrown mo (0 : Int32))) := hD
    exact B_5 _ _ _ _ hf hP hD hS (lv_sub hl [0] rfl)
  exact E0 _ _ hP hD hS

noncomputable def f_X12_run_n_b5 (z0 : MOT) : Option (Int32 × MOT) := (f_X12_refused z0 (1 : Int32)).bind fun r1 => some (r1.1, r1.2)
noncomputable def f_X12_run_n (mo : MOT) : Option (Int32 × MOT) := f_X12_run_n_b5 (mo_set_thrown mo (0 : Int32))
set_option maxHeartbeats 4000000 in
set_option maxRecDepth 100000 in
theorem c_X12_run_n (l : Launch) (D : va_G) (dA : Nat → ClassId) (sz : Nat) (a : Nat → Nat) (q1 : Option Nat) (g2 : Nat) (g3 : Nat) (g4 : Nat) (g5 : Nat) (g6 : Nat) (g7 : Nat) (g8 : Nat) (g9 : Nat) (g10 : Nat) (g11 : Nat) (g12 : Nat) (g13 : Nat) (g14 : Nat) (g15 : Nat) (g16 : Nat) (g17 : Nat) (g18 : Nat) (mo : MOT) (rv : Int32) (u0 : MOT) (hf : f_X12_run_n mo = some (rv, u0)) : kb_Mi l yX12_run cX12_run 1 (some .int) ({ frames := 1, cells := 0, slots := 0, locals := 21 } : Room) D dA [.ref (a 0)] sz (w_MO dA a none q1 g2 g3 g4 g5 g6 g7 g8 g9 g10 g11 g12 g13 g14 g15 g16 g17 g18 mo) 0 0 rv (w_MO dA a none q1 g2 g3 g4 g5 g6 g7 g8 g9 g10 g11 g12 g13 g14 g15 g16 g17 g18 u0) := by
  refine Met.ofW (cc := cX12_run) (maxL := 1) (ret := (some .int)) (by decide) rfl ?_
  intro p e s m args below meth c s₁ B hml hv
  obtain ⟨rfl, hsz, hP, hK, hD0, hE⟩ := hv
  have hx := B.exec
  have hb := B.bytes
  have hr := B.returns
  have hown : s.vm.findClass RX12 = some m.cls := findClass_of_methodNamed B.named
  have hlocks := B.notSynchronized
  have hts : ∀ w ∈ kb_gw, w.before ([.ref (a 0)] : List Value).toArray s = true := fun w hw => hK.2.1 w hw _
  subst hsz
  have hD := hD0.self (sz := s.heap.size)
  generalize hAe : va_A (w_MO dA a none q1 g2 g3 g4 g5 g6 g7 g8 g9 g10 g11 g12 g13 g14 g15 g16 g17 g18 mo) s.heap.size = A at hD hE ⊢
  have hA : ∀ q : Nat, s.heap.size ≤ q → A q := fun q h => by rw [← hAe]; exact Or.inr h
  have hS : va_S A s.heap s.heap [] := va_S.rf
  have hl := lv_entry ([.ref (a 0)]) (n := 1) (Nat.le_of_ble_eq_true rfl)
  rw [lg_entry_eq]
  generalize (lg_sl ([.ref (a 0)]) ++ List.replicate (1 - (lg_sl ([.ref (a 0)])).length) Slot.unset).toArray = ls at hl ⊢
  have hl : lv_has ls 1 [(0, .ref (a 0))] := hl
  generalize hQ : MQ below (va_Qi (fun r (_ : Unit) => r = rv) (kb_B D A (w_MO dA a none q1 g2 g3 g4 g5 g6 g7 g8 g9 g10 g11 g12 g13 g14 g15 g16 g17 g18 u0)) A) ([.ref (a 0)] : List Value).toArray s 0 0 A = Q
  show W p l e ({ frames := 1, cells := 0, slots := 0, locals := 21 } : Room) s m ([.ref (a 0)] : List Value).toArray below meth c s.heap [] 0 0 Q (F0 m 0 ls [])
  have RET : ∀ (r2 : Int32) (w0 : MOT) (H : Heap) (locs : List Loc) (ls : Array Slot) (pc : Nat), some (r2, w0) = some (rv, u0) → va_P D vwCl (w_MO dA a none q1 g2 g3 g4 g5 g6 g7 g8 g9 g10 g11 g12 g13 g14 g15 g16 g17 g18 w0) H → va_D A (w_MO dA a none q1 g2 g3 g4 g5 g6 g7 g8 g9 g10 g11 g12 g13 g14 g15 g16 g17 g18 w0) → va_S A s.heap H locs → decode cX12_run pc = .ok (.ireturn, 1) → W p l e ({ frames := 1, cells := 0, slots := 0, locals := 21 } : Room) s m ([.ref (a 0)] : List Value).toArray below meth c H locs 0 0 Q (F0 m pc ls [.int r2]) := by
    intro r2 w0 H locs ls pc hq hP hD hS hd
    cases hq
    rw [← hQ]
    exact W.iret hx hb hr (fun t ht hW => ⟨⟨_, (), rfl, rfl, by rw [ht]; exact hP, hD⟩, hS.F ht⟩) hS.2.2 hd
  have B_5 : ∀ (z0 : MOT) (H : Heap) (locs : List Loc) (ls : Array Slot), f_X12_run_n_b5 z0 = some (rv, u0) → va_P D vwCl (w_MO dA a none q1 g2 g3 g4 g5 g6 g7 g8 g9 g10 g11 g12 g13 g14 g15 g16 g17 g18 z0) H → va_D A (w_MO dA a none q1 g2 g3 g4 g5 g6 g7 g8 g9 g10 g11 g12 g13 g14 g15 g16 g17 g18 z0) → va_S A s.heap H locs → lv_has ls 1 [(0, .ref (a 0))] → W p l e ({ frames := 1, cells := 0, slots := 0, locals := 21 } : Room) s m ([.ref (a 0)] : List Value).toArray below meth c H locs 0 0 Q (F0 m 5 ls []) := by
    intro z0 H locs ls hf hP hD hS hl
    rw [f_X12_run_n_b5] at hf
    refine lv_aload_n hx hb dX12_run_5 rfl (lv_at hl 0 rfl) ?_
    refine va_get (D := D) (ci := 12) (v := .null) (C := RX12) (T := TX12) (N := 35) hx hb hts kb_inX12 hown hK.1 hP 0 rfl rfl 3 (by decide) (hK.2.w ww_5_203 rfl _) (fun _ h9 => h9) rfl dX12_run_6 ?_
    refine lv_ifnonnullN hx hb dX12_run_9 ?_
    refine lv_aload_n hx hb dX12_run_12 rfl (lv_at hl 0 rfl) ?_
    refine lv_iconst (v := (1 : Int32)) hx hb dX12_run_13 (by decide) ?_
    obtain ⟨r1, hc1, hf⟩ := kb_bind hf
    refine kb_ci (ws2 := (w_MO dA a none q1 g2 g3 g4 g5 g6 g7 g8 g9 g10 g11 g12 g13 g14 g15 g16 g17 g18 r1.2)) (kb_rV (n := 1) (As := [.int (1 : Int32)]) (rest := []) hx hb hml hown hK (c_X12_refused l D dA H.size a none q1 g2 g3 g4 g5 g6 g7 g8 g9 g10 g11 g12 g13 g14 g15 g16 g17 g18 z0 (1 : Int32) r1.1 r1.2 hc1) ⟨ww_6_82, ww_6_79, ww_6_81, ws_46, ww_1_12, rfl, by decide, by decide⟩ rfl rfl (by decide +kernel) ⟨Nat.le_of_ble_eq_true rfl, Nat.le_of_ble_eq_true rfl⟩ hP hD hS hA hE [0] rfl (by decide) 0 rfl rfl rfl hl.1 rfl (Nat.le_of_ble_eq_true rfl) dX12_run_14 ⟨Nat.le_of_ble_eq_true rfl, Nat.le_of_ble_eq_true rfl⟩) hP hD hS hA [0] [] [0] rfl rfl (by decide) (by decide) rfl (by decide) (fun H locs hP hD hS => ?_)
    refine lv_goto (tgt := 28) hx hb dX12_run_17 (by decide) ?_
    exact RET _ _ H _ ls 28 hf hP hD hS dX12_run_28
  have E0 : ∀ (H : Heap) (locs : List Loc), va_P D vwCl (w_MO dA a none q1 g2 g3 g4 g5 g6 g7 g8 g9 g10 g11 g12 g13 g14 g15 g16 g17 g18 mo) H → va_D A (w_MO dA a none q1 g2 g3 g4 g5 g6 g7 g8 g9 g10 g11 g12 g13 g14 g15 g16 g17 g18 mo) → va_S A s.heap H locs → W p l e ({ frames := 1, cells := 0, slots := 0, locals := 21 } : Room) s m ([.ref (a 0)] : List Value).toArray below meth c H locs 0 0 Q (F0 m 0 ls []) := by
    intro H locs hP hD hS
    rw [f_X12_run_n] at hf
    refine lv_aload_n hx hb dX12_run_0 rfl (lv_at hl 0 rfl) ?_
    refine lv_iconst (v := (0 : Int32)) hx hb dX12_run_1 (by decide) ?_
    refine va_put (D := D) (ci := 12) (v := .int (0 : Int32)) (ty := .int) (C := RX12) (T := TX12) (N := 35) hx hb hts kb_inX12 tyX12 tyX12_ok nmX12 hown hK.1 hP hD hS 0 rfl rfl 0 (by decide) (hK.2.w ww_5_200 rfl _) (fun _ h9 => h9) rfl (by decide +kernel) rfl rfl (Nat.le_of_ble_eq_true rfl) dX12_run_2 (fun H locs hP hD hS => ?_)
    have hP : va_P D vwCl (w_MO dA a none q1 g2 g3 g4 g5 g6 g7 g8 g9 g10 g11 g12 g13 g14 g15 g16 g17 g18 (mo_set_thrown mo (0 : Int32))) H := hP
    have hD : va_D A (w_MO dA a none q1 g2 g3 g4 g5 g6 g7 g8 g9 g10 g11 g12 g13 g14 g15 g16 g17 g18 (mo_set_thrown mo (0 : Int32))) := hD
    exact B_5 _ _ _ _ hf hP hD hS (lv_sub hl [0] rfl)
  exact E0 _ _ hP hD hS

noncomputable def f_X12_seconds_n_b43 (z0 : MOT) : Option (Int32 × MOT) := (f_X12_refused z0 (1 : Int32)).bind fun r1 => some (r1.1, r1.2)
noncomputable def f_X12_seconds_n_b5 (v1 : Int32) (z0 : MOT) : Option (Int32 × MOT) := f_X12_seconds_n_b43 z0
noncomputable def f_X12_seconds_n (mo : MOT) (x0 : Int32) : Option (Int32 × MOT) := f_X12_seconds_n_b5 x0 (mo_set_thrown mo (0 : Int32))
set_option maxHeartbeats 4000000 in
set_option maxRecDepth 100000 in
theorem c_X12_seconds_n (l : Launch) (D : va_G) (dA : Nat → ClassId) (sz : Nat) (a : Nat → Nat) (q1 : Option Nat) (g2 : Nat) (g3 : Nat) (g4 : Nat) (g5 : Nat) (g6 : Nat) (g7 : Nat) (g8 : Nat) (g9 : Nat) (g10 : Nat) (g11 : Nat) (g12 : Nat) (g13 : Nat) (g14 : Nat) (g15 : Nat) (g16 : Nat) (g17 : Nat) (g18 : Nat) (mo : MOT) (x0 : Int32) (rv : Int32) (u0 : MOT) (hf : f_X12_seconds_n mo x0 = some (rv, u0)) : kb_Mi l yX12_seconds cX12_seconds 2 (some .int) ({ frames := 1, cells := 0, slots := 0, locals := 21 } : Room) D dA [.ref (a 0), .int x0] sz (w_MO dA a none q1 g2 g3 g4 g5 g6 g7 g8 g9 g10 g11 g12 g13 g14 g15 g16 g17 g18 mo) 0 0 rv (w_MO dA a none q1 g2 g3 g4 g5 g6 g7 g8 g9 g10 g11 g12 g13 g14 g15 g16 g17 g18 u0) := by
  refine Met.ofW (cc := cX12_seconds) (maxL := 2) (ret := (some .int)) (by decide) rfl ?_
  intro p e s m args below meth c s₁ B hml hv
  obtain ⟨rfl, hsz, hP, hK, hD0, hE⟩ := hv
  have hx := B.exec
  have hb := B.bytes
  have hr := B.returns
  have hown : s.vm.findClass RX12 = some m.cls := findClass_of_methodNamed B.named
  have hlocks := B.notSynchronized
  have hts : ∀ w ∈ kb_gw, w.before ([.ref (a 0), .int x0] : List Value).toArray s = true := fun w hw => hK.2.1 w hw _
  subst hsz
  have hD := hD0.self (sz := s.heap.size)
  generalize hAe : va_A (w_MO dA a none q1 g2 g3 g4 g5 g6 g7 g8 g9 g10 g11 g12 g13 g14 g15 g16 g17 g18 mo) s.heap.size = A at hD hE ⊢
  have hA : ∀ q : Nat, s.heap.size ≤ q → A q := fun q h => by rw [← hAe]; exact Or.inr h
  have hS : va_S A s.heap s.heap [] := va_S.rf
  have hl := lv_entry ([.ref (a 0), .int x0]) (n := 2) (Nat.le_of_ble_eq_true rfl)
  rw [lg_entry_eq]
  generalize (lg_sl ([.ref (a 0), .int x0]) ++ List.replicate (2 - (lg_sl ([.ref (a 0), .int x0])).length) Slot.unset).toArray = ls at hl ⊢
  have hl : lv_has ls 2 [(0, .ref (a 0)), (1, .int x0)] := hl
  generalize hQ : MQ below (va_Qi (fun r (_ : Unit) => r = rv) (kb_B D A (w_MO dA a none q1 g2 g3 g4 g5 g6 g7 g8 g9 g10 g11 g12 g13 g14 g15 g16 g17 g18 u0)) A) ([.ref (a 0), .int x0] : List Value).toArray s 0 0 A = Q
  show W p l e ({ frames := 1, cells := 0, slots := 0, locals := 21 } : Room) s m ([.ref (a 0), .int x0] : List Value).toArray below meth c s.heap [] 0 0 Q (F0 m 0 ls [])
  have RET : ∀ (r2 : Int32) (w0 : MOT) (H : Heap) (locs : List Loc) (ls : Array Slot) (pc : Nat), some (r2, w0) = some (rv, u0) → va_P D vwCl (w_MO dA a none q1 g2 g3 g4 g5 g6 g7 g8 g9 g10 g11 g12 g13 g14 g15 g16 g17 g18 w0) H → va_D A (w_MO dA a none q1 g2 g3 g4 g5 g6 g7 g8 g9 g10 g11 g12 g13 g14 g15 g16 g17 g18 w0) → va_S A s.heap H locs → decode cX12_seconds pc = .ok (.ireturn, 1) → W p l e ({ frames := 1, cells := 0, slots := 0, locals := 21 } : Room) s m ([.ref (a 0), .int x0] : List Value).toArray below meth c H locs 0 0 Q (F0 m pc ls [.int r2]) := by
    intro r2 w0 H locs ls pc hq hP hD hS hd
    cases hq
    rw [← hQ]
    exact W.iret hx hb hr (fun t ht hW => ⟨⟨_, (), rfl, rfl, by rw [ht]; exact hP, hD⟩, hS.F ht⟩) hS.2.2 hd
  have B_43 : ∀ (z0 : MOT) (H : Heap) (locs : List Loc) (ls : Array Slot), f_X12_seconds_n_b43 z0 = some (rv, u0) → va_P D vwCl (w_MO dA a none q1 g2 g3 g4 g5 g6 g7 g8 g9 g10 g11 g12 g13 g14 g15 g16 g17 g18 z0) H → va_D A (w_MO dA a none q1 g2 g3 g4 g5 g6 g7 g8 g9 g10 g11 g12 g13 g14 g15 g16 g17 g18 z0) → va_S A s.heap H locs → lv_has ls 2 [(0, .ref (a 0))] → W p l e ({ frames := 1, cells := 0, slots := 0, locals := 21 } : Room) s m ([.ref (a 0), .int x0] : List Value).toArray below meth c H locs 0 0 Q (F0 m 43 ls []) := by
    intro z0 H locs ls hf hP hD hS hl
    rw [f_X12_seconds_n_b43] at hf
    refine lv_aload_n hx hb dX12_seconds_43 rfl (lv_at hl 0 rfl) ?_
    refine lv_iconst (v := (1 : Int32)) hx hb dX12_seconds_44 (by decide) ?_
    obtain ⟨r1, hc1, hf⟩ := kb_bind hf
    refine kb_ci (ws2 := (w_MO dA a none q1 g2 g3 g4 g5 g6 g7 g8 g9 g10 g11 g12 g13 g14 g15 g16 g17 g18 r1.2)) (kb_rV (n := 1) (As := [.int (1 : Int32)]) (rest := []) hx hb hml hown hK (c_X12_refused l D dA H.size a none q1 g2 g3 g4 g5 g6 g7 g8 g9 g10 g11 g12 g13 g14 g15 g16 g17 g18 z0 (1 : Int32) r1.1 r1.2 hc1) ⟨ww_6_82, ww_6_79, ww_6_81, ws_46, ww_1_12, rfl, by decide, by decide⟩ rfl rfl (by decide +kernel) ⟨Nat.le_of_ble_eq_true rfl, Nat.le_of_ble_eq_true rfl⟩ hP hD hS hA hE [0] rfl (by decide) 0 rfl rfl rfl hl.1 rfl (Nat.le_of_ble_eq_true rfl) dX12_seconds_45 ⟨Nat.le_of_ble_eq_true rfl, Nat.le_of_ble_eq_true rfl⟩) hP hD hS hA [0] [] [0] rfl rfl (by decide) (by decide) rfl (by decide) (fun H locs hP hD hS => ?_)
    exact RET _ _ H _ ls 48 hf hP hD hS dX12_seconds_48
  have B_5 : ∀ (v1 : Int32) (z0 : MOT) (H : Heap) (locs : List Loc) (ls : Array Slot), f_X12_seconds_n_b5 v1 z0 = some (rv, u0) → va_P D vwCl (w_MO dA a none q1 g2 g3 g4 g5 g6 g7 g8 g9 g10 g11 g12 g13 g14 g15 g16 g17 g18 z0) H → va_D A (w_MO dA a none q1 g2 g3 g4 g5 g6 g7 g8 g9 g10 g11 g12 g13 g14 g15 g16 g17 g18 z0) → va_S A s.heap H locs → lv_has ls 2 [(0, .ref (a 0)), (1, .int v1)] → W p l e ({ frames := 1, cells := 0, slots := 0, locals := 21 } : Room) s m ([.ref (a 0), .int x0] : List Value).toArray below meth c H locs 0 0 Q (F0 m 5 ls []) := by
    intro v1 z0 H locs ls hf hP hD hS hl
    rw [f_X12_seconds_n_b5] at hf
    refine lv_aload_n hx hb dX12_seconds_5 rfl (lv_at hl 0 rfl) ?_
    refine va_get (D := D) (ci := 12) (v := .null) (C := RX12) (T := TX12) (N := 35) hx hb hts kb_inX12 hown hK.1 hP 0 rfl rfl 3 (by decide) (hK.2.w ww_5_203 rfl _) (fun _ h9 => h9) rfl dX12_seconds_6 ?_
    refine lv_ifnullN (tgt := 43) hx hb dX12_seconds_9 (by decide) ?_
    exact B_43 _ _ _ _ hf hP hD hS (lv_sub hl [0] rfl)
  have E0 : ∀ (H : Heap) (locs : List Loc), va_P D vwCl (w_MO dA a none q1 g2 g3 g4 g5 g6 g7 g8 g9 g10 g11 g12 g13 g14 g15 g16 g17 g18 mo) H → va_D A (w_MO dA a none q1 g2 g3 g4 g5 g6 g7 g8 g9 g10 g11 g12 g13 g14 g15 g16 g17 g18 mo) → va_S A s.heap H locs → W p l e ({ frames := 1, cells := 0, slots := 0, locals := 21 } : Room) s m ([.ref (a 0), .int x0] : List Value).toArray below meth c H locs 0 0 Q (F0 m 0 ls []) := by
    intro H locs hP hD hS
    rw [f_X12_seconds_n] at hf
    refine lv_aload_n hx hb dX12_seconds_0 rfl (lv_at hl 0 rfl) ?_
    refine lv_iconst (v := (0 : Int32)) hx hb dX12_seconds_1 (by decide) ?_
    refine va_put (D := D) (ci := 12) (v := .int (0 : Int32)) (ty := .int) (C := RX12) (T := TX12) (N := 35) hx hb hts kb_inX12 tyX12 tyX12_ok nmX12 hown hK.1 hP hD hS 0 rfl rfl 0 (by decide) (hK.2.w ww_5_200 rfl _) (fun _ h9 => h9) rfl (by decide +kernel) rfl rfl (Nat.le_of_ble_eq_true rfl) dX12_seconds_2 (fun H locs hP hD hS => ?_)
    have hP : va_P D vwCl (w_MO dA a none q1 g2 g3 g4 g5 g6 g7 g8 g9 g10 g11 g12 g13 g14 g15 g16 g17 g18 (mo_set_thrown mo (0 : Int32))) H := hP
    have hD : va_D A (w_MO dA a none q1 g2 g3 g4 g5 g6 g7 g8 g9 g10 g11 g12 g13 g14 g15 g16 g17 g18 (mo_set_thrown mo (0 : Int32))) := hD
    exact B_5 _ _ _ _ _ hf hP hD hS (lv_sub hl [0, 1] rfl)
  exact E0 _ _ hP hD hS

noncomputable def f_X12_at_n_b5 (y_w : WT) (v1 : Int32) (z0 : MOT) : Option (Int32 × MOT) := (f_X12_isRider_n z0 v1).bind fun r1 => (if r1 = 0 then (f_X12_refused z0 (1 : Int32)).bind fun r3 => some (r3.1, r3.2) else if kb_in? ((0 : Int32) + v1) 56 then (f_X12_done z0 ((yW_r y_w) (((0 : Int32) + v1)).toNatClampNeg)).bind fun r5 => some (r5.1, r5.2) else none)
noncomputable def f_X12_at_n (mo : MOT) (y_w : WT) (x0 : Int32) : Option (Int32 × MOT) := f_X12_at_n_b5 y_w x0 (mo_set_thrown mo (0 : Int32))
set_option maxHeartbeats 4000000 in
set_option maxRecDepth 100000 in
theorem c_X12_at_n (l : Launch) (D : va_G) (dA : Nat → ClassId) (sz : Nat) (a : Nat → Nat) (wa : Nat → Nat) (q1 : Option Nat) (g2 : Nat) (g3 : Nat) (g4 : Nat) (g5 : Nat) (g7 : Nat) (g8 : Nat) (g9 : Nat) (g10 : Nat) (g11 : Nat) (g12 : Nat) (g13 : Nat) (g14 : Nat) (g15 : Nat) (g16 : Nat) (g17 : Nat) (g18 : Nat) (mo : MOT) (y_w : WT) (x0 : Int32) (rv : Int32) (u0 : MOT) (hf : f_X12_at_n mo y_w x0 = some (rv, u0)) : kb_Mi l yX12_at cX12_at 2 (some .int) ({ frames := 1, cells := 0, slots := 0, locals := 21 } : Room) D dA [.ref (a 0), .int x0] sz (w_MO dA a none q1 g2 g3 g4 g5 (wa 0) g7 g8 g9 g10 g11 g12 g13 g14 g15 g16 g17 g18 mo ++ (w_W dA wa y_w)) 0 0 rv (w_MO dA a none q1 g2 g3 g4 g5 (wa 0) g7 g8 g9 g10 g11 g12 g13 g14 g15 g16 g17 g18 u0 ++ (w_W dA wa y_w)) := by
  refine Met.ofW (cc := cX12_at) (maxL := 2) (ret := (some .int)) (by decide) rfl ?_
  intro p e s m args below meth c s₁ B hml hv
  obtain ⟨rfl, hsz, hP, hK, hD0, hE⟩ := hv
  have hx := B.exec
  have hb := B.bytes
  have hr := B.returns
  have hown : s.vm.findClass RX12 = some m.cls := findClass_of_methodNamed B.named
  have hlocks := B.notSynchronized
  have hts : ∀ w ∈ kb_gw, w.before ([.ref (a 0), .int x0] : List Value).toArray s = true := fun w hw => hK.2.1 w hw _
  subst hsz
  have hD := hD0.self (sz := s.heap.size)
  generalize hAe : va_A (w_MO dA a none q1 g2 g3 g4 g5 (wa 0) g7 g8 g9 g10 g11 g12 g13 g14 g15 g16 g17 g18 mo ++ (w_W dA wa y_w)) s.heap.size = A at hD hE ⊢
  have hA : ∀ q : Nat, s.heap.size ≤ q → A q := fun q h => by rw [← hAe]; exact Or.inr h
  have hS : va_S A s.heap s.heap [] := va_S.rf
  have hl := lv_entry ([.ref (a 0), .int x0]) (n := 2) (Nat.le_of_ble_eq_true rfl)
  rw [lg_entry_eq]
  generalize (lg_sl ([.ref (a 0), .int x0]) ++ List.replicate (2 - (lg_sl ([.ref (a 0), .int x0])).length) Slot.unset).toArray = ls at hl ⊢
  have hl : lv_has ls 2 [(0, .ref (a 0)), (1, .int x0)] := hl
  generalize hQ : MQ below (va_Qi (fun r (_ : Unit) => r = rv) (kb_B D A (w_MO dA a none q1 g2 g3 g4 g5 (wa 0) g7 g8 g9 g10 g11 g12 g13 g14 g15 g16 g17 g18 u0 ++ (w_W dA wa y_w))) A) ([.ref (a 0), .int x0] : List Value).toArray s 0 0 A = Q
  show W p l e ({ frames := 1, cells := 0, slots := 0, locals := 21 } : Room) s m ([.ref (a 0), .int x0] : List Value).toArray below meth c s.heap [] 0 0 Q (F0 m 0 ls [])
  have RET : ∀ (r2 : Int32) (w0 : MOT) (H : Heap) (locs : List Loc) (ls : Array Slot) (pc : Nat), some (r2, w0) = some (rv, u0) → va_P D vwCl (w_MO dA a none q1 g2 g3 g4 g5 (wa 0) g7 g8 g9 g10 g11 g12 g13 g14 g15 g16 g17 g18 w0 ++ (w_W dA wa y_w)) H → va_D A (w_MO dA a none q1 g2 g3 g4 g5 (wa 0) g7 g8 g9 g10 g11 g12 g13 g14 g15 g16 g17 g18 w0 ++ (w_W dA wa y_w)) → va_S A s.heap H locs → decode cX12_at pc = .ok (.ireturn, 1) → W p l e ({ frames := 1, cells := 0, slots := 0, locals := 21 } : Room) s m ([.ref (a 0), .int x0] : List Value).toArray below meth c H locs 0 0 Q (F0 m pc ls [.int r2]) := by
    intro r2 w0 H locs ls pc hq hP hD hS hd
    cases hq
    rw [← hQ]
    exact W.iret hx hb hr (fun t ht hW => ⟨⟨_, (), rfl, rfl, by rw [ht]; exact hP, hD⟩, hS.F ht⟩) hS.2.2 hd
  have B_5 : ∀ (v1 : Int32) (z0 : MOT) (H : Heap) (locs : List Loc) (ls : Array Slot), f_X12_at_n_b5 y_w v1 z0 = some (rv, u0) → va_P D vwCl (w_MO dA a none q1 g2 g3 g4 g5 (wa 0) g7 g8 g9 g10 g11 g12 g13 g14 g15 g16 g17 g18 z0 ++ (w_W dA wa y_w)) H → va_D A (w_MO dA a none q1 g2 g3 g4 g5 (wa 0) g7 g8 g9 g10 g11 g12 g13 g14 g15 g16 g17 g18 z0 ++ (w_W dA wa y_w)) → va_S A s.heap H locs → lv_has ls 2 [(0, .ref (a 0)), (1, .int v1)] → W p l e ({ frames := 1, cells := 0, slots := 0, locals := 21 } : Room) s m ([.ref (a 0), .int x0] : List Value).toArray below meth c H locs 0 0 Q (F0 m 5 ls []) := by
    intro v1 z0 H locs ls hf hP hD hS hl
    rw [f_X12_at_n_b5] at hf
    refine lv_aload_n hx hb dX12_at_5 rfl (lv_at hl 0 rfl) ?_
    refine lv_iload_n hx hb dX12_at_6 rfl (lv_at hl 1 rfl) ?_
    obtain ⟨r1, hc1, hf⟩ := kb_bind hf
    refine kb_ci (ws2 := (w_MO dA a none q1 g2 g3 g4 g5 (wa 0) g7 g8 g9 g10 g11 g12 g13 g14 g15 g16 g17 g18 z0 ++ (w_W dA wa y_w))) (kb_rV (n := 1) (As := [.int v1]) (rest := []) hx hb hml hown hK (c_X12_isRider_n l D dA H.size a q1 g2 g3 g4 g5 (wa 0) g7 g8 g9 g10 g11 g12 g13 g14 g15 g16 g17 g18 z0 v1 r1 hc1) ⟨ww_8_5, ww_8_2, ww_8_4, ws_95, ww_1_12, rfl, by decide, by decide⟩ rfl rfl (by decide +kernel) ⟨Nat.le_of_ble_eq_true rfl, Nat.le_of_ble_eq_true rfl⟩ hP hD hS hA hE [0] rfl (by decide) 0 rfl rfl rfl hl.1 rfl (Nat.le_of_ble_eq_true rfl) dX12_at_7 ⟨Nat.le_of_ble_eq_true rfl, Nat.le_of_ble_eq_true rfl⟩) hP hD hS hA [0] [1] [1, 0] rfl rfl (by decide) (by decide) rfl (by decide) (fun H locs hP hD hS => ?_)
    refine lv_if_eq (tgt := 28) hx hb dX12_at_10 (by decide) (fun c_2 => ?_) (fun c_2 => ?_)
    · rw [if_pos c_2] at hf
      refine lv_aload_n hx hb dX12_at_28 rfl (lv_at hl 0 rfl) ?_
      refine lv_iconst (v := (1 : Int32)) hx hb dX12_at_29 (by decide) ?_
      obtain ⟨r3, hc3, hf⟩ := kb_bind hf
      refine kb_ci (ws2 := (w_MO dA a none q1 g2 g3 g4 g5 (wa 0) g7 g8 g9 g10 g11 g12 g13 g14 g15 g16 g17 g18 r3.2 ++ (w_W dA wa y_w))) (kb_rV (n := 1) (As := [.int (1 : Int32)]) (rest := []) hx hb hml hown hK (c_X12_refused l D dA H.size a none q1 g2 g3 g4 g5 (wa 0) g7 g8 g9 g10 g11 g12 g13 g14 g15 g16 g17 g18 z0 (1 : Int32) r3.1 r3.2 hc3) ⟨ww_6_82, ww_6_79, ww_6_81, ws_46, ww_1_12, rfl, by decide, by decide⟩ rfl rfl (by decide +kernel) ⟨Nat.le_of_ble_eq_true rfl, Nat.le_of_ble_eq_true rfl⟩ hP hD hS hA hE [0] rfl (by decide) 0 rfl rfl rfl hl.1 rfl (Nat.le_of_ble_eq_true rfl) dX12_at_30 ⟨Nat.le_of_ble_eq_true rfl, Nat.le_of_ble_eq_true rfl⟩) hP hD hS hA [0] [1] [1, 0] rfl rfl (by decide) (by decide) rfl (by decide) (fun H locs hP hD hS => ?_)
      exact RET _ _ H _ ls 33 hf hP hD hS dX12_at_33
    · rw [if_neg c_2] at hf
      refine lv_aload_n hx hb dX12_at_13 rfl (lv_at hl 0 rfl) ?_
      refine lv_aload_n hx hb dX12_at_14 rfl (lv_at hl 0 rfl) ?_
      refine va_get (D := D) (ci := 12) (v := .ref (wa 0)) (C := RX12) (T := TX12) (N := 35) hx hb hts kb_inX12 hown hK.1 hP 0 rfl rfl 19 (by decide) (hK.2.w ww_5_219 rfl _) (fun _ h9 => h9) rfl dX12_at_15 ?_
      refine lv_iconst (v := (0 : Int32)) hx hb dX12_at_18 (by decide) ?_
      refine lv_iload_n hx hb dX12_at_19 rfl (lv_at hl 1 rfl) ?_
      refine lv_iadd hx hb dX12_at_20 ?_
      obtain ⟨h_4, hf⟩ := kb_if hf
      refine va_iald (D := D) hx hb hK.1 hP 1 0 rfl rfl h_4 dX12_at_21 ?_
      obtain ⟨r5, hc5, hf⟩ := kb_bind hf
      refine kb_ci (ws2 := (w_MO dA a none q1 g2 g3 g4 g5 (wa 0) g7 g8 g9 g10 g11 g12 g13 g14 g15 g16 g17 g18 r5.2 ++ (w_W dA wa y_w))) (kb_rV (n := 1) (As := [.int ((yW_r y_w) (((0 : Int32) + v1)).toNatClampNeg)]) (rest := []) hx hb hml hown hK (c_X12_done l D dA H.size a none q1 g2 g3 g4 g5 (wa 0) g7 g8 g9 g10 g11 g12 g13 g14 g15 g16 g17 g18 z0 ((yW_r y_w) (((0 : Int32) + v1)).toNatClampNeg) r5.1 r5.2 hc5) ⟨ww_7_100, ww_7_97, ww_7_99, ws_71, ww_1_12, rfl, by decide, by decide⟩ rfl rfl (by decide +kernel) ⟨Nat.le_of_ble_eq_true rfl, Nat.le_of_ble_eq_true rfl⟩ hP hD hS hA hE [0] rfl (by decide) 0 rfl rfl rfl hl.1 rfl (Nat.le_of_ble_eq_true rfl) dX12_at_22 ⟨Nat.le_of_ble_eq_true rfl, Nat.le_of_ble_eq_true rfl⟩) hP hD hS hA [0] [1] [1, 0] rfl rfl (by decide) (by decide) rfl (by decide) (fun H locs hP hD hS => ?_)
      refine lv_goto (tgt := 33) hx hb dX12_at_25 (by decide) ?_
      exact RET _ _ H _ ls 33 hf hP hD hS dX12_at_33
  have E0 : ∀ (H : Heap) (locs : List Loc), va_P D vwCl (w_MO dA a none q1 g2 g3 g4 g5 (wa 0) g7 g8 g9 g10 g11 g12 g13 g14 g15 g16 g17 g18 mo ++ (w_W dA wa y_w)) H → va_D A (w_MO dA a none q1 g2 g3 g4 g5 (wa 0) g7 g8 g9 g10 g11 g12 g13 g14 g15 g16 g17 g18 mo ++ (w_W dA wa y_w)) → va_S A s.heap H locs → W p l e ({ frames := 1, cells := 0, slots := 0, locals := 21 } : Room) s m ([.ref (a 0), .int x0] : List Value).toArray below meth c H locs 0 0 Q (F0 m 0 ls []) := by
    intro H locs hP hD hS
    rw [f_X12_at_n] at hf
    refine lv_aload_n hx hb dX12_at_0 rfl (lv_at hl 0 rfl) ?_
    refine lv_iconst (v := (0 : Int32)) hx hb dX12_at_1 (by decide) ?_
    refine va_put (D := D) (ci := 12) (v := .int (0 : Int32)) (ty := .int) (C := RX12) (T := TX12) (N := 35) hx hb hts kb_inX12 tyX12 tyX12_ok nmX12 hown hK.1 hP hD hS 0 rfl rfl 0 (by decide) (hK.2.w ww_5_200 rfl _) (fun _ h9 => h9) rfl (by decide +kernel) rfl rfl (Nat.le_of_ble_eq_true rfl) dX12_at_2 (fun H locs hP hD hS => ?_)
    have hP : va_P D vwCl (w_MO dA a none q1 g2 g3 g4 g5 (wa 0) g7 g8 g9 g10 g11 g12 g13 g14 g15 g16 g17 g18 (mo_set_thrown mo (0 : Int32)) ++ (w_W dA wa y_w)) H := hP
    have hD : va_D A (w_MO dA a none q1 g2 g3 g4 g5 (wa 0) g7 g8 g9 g10 g11 g12 g13 g14 g15 g16 g17 g18 (mo_set_thrown mo (0 : Int32)) ++ (w_W dA wa y_w)) := hD
    exact B_5 _ _ _ _ _ hf hP hD hS (lv_sub hl [0, 1] rfl)
  exact E0 _ _ hP hD hS

noncomputable def f_X12_sits_n_b5 (v1 : Int32) (z0 : MOT) : Option (Int32 × MOT) := (f_X12_isSeat_n z0 v1).bind fun r1 => (if r1 = 0 then (f_X12_refused z0 (1 : Int32)).bind fun r3 => some (r3.1, r3.2) else none)
noncomputable def f_X12_sits_n (mo : MOT) (x0 : Int32) : Option (Int32 × MOT) := f_X12_sits_n_b5 x0 (mo_set_thrown mo (0 : Int32))
set_option maxHeartbeats 4000000 in
set_option maxRecDepth 100000 in
theorem c_X12_sits_n (l : Launch) (D : va_G) (dA : Nat → ClassId) (sz : Nat) (a : Nat → Nat) (q1 : Option Nat) (g2 : Nat) (g3 : Nat) (g4 : Nat) (g5 : Nat) (g6 : Nat) (g7 : Nat) (g8 : Nat) (g9 : Nat) (g10 : Nat) (g11 : Nat) (g12 : Nat) (g13 : Nat) (g14 : Nat) (g15 : Nat) (g16 : Nat) (g17 : Nat) (g18 : Nat) (mo : MOT) (x0 : Int32) (rv : Int32) (u0 : MOT) (hf : f_X12_sits_n mo x0 = some (rv, u0)) : kb_Mi l yX12_sits cX12_sits 2 (some .int) ({ frames := 1, cells := 0, slots := 0, locals := 21 } : Room) D dA [.ref (a 0), .int x0] sz (w_MO dA a none q1 g2 g3 g4 g5 g6 g7 g8 g9 g10 g11 g12 g13 g14 g15 g16 g17 g18 mo) 0 0 rv (w_MO dA a none q1 g2 g3 g4 g5 g6 g7 g8 g9 g10 g11 g12 g13 g14 g15 g16 g17 g18 u0) := by
  refine Met.ofW (cc := cX12_sits) (maxL := 2) (ret := (some .int)) (by decide) rfl ?_
  intro p e s m args below meth c s₁ B hml hv
  obtain ⟨rfl, hsz, hP, hK, hD0, hE⟩ := hv
  have hx := B.exec
  have hb := B.bytes
  have hr := B.returns
  have hown : s.vm.findClass RX12 = some m.cls := findClass_of_methodNamed B.named
  have hlocks := B.notSynchronized
  have hts : ∀ w ∈ kb_gw, w.before ([.ref (a 0), .int x0] : List Value).toArray s = true := fun w hw => hK.2.1 w hw _
  subst hsz
  have hD := hD0.self (sz := s.heap.size)
  generalize hAe : va_A (w_MO dA a none q1 g2 g3 g4 g5 g6 g7 g8 g9 g10 g11 g12 g13 g14 g15 g16 g17 g18 mo) s.heap.size = A at hD hE ⊢
  have hA : ∀ q : Nat, s.heap.size ≤ q → A q := fun q h => by rw [← hAe]; exact Or.inr h
  have hS : va_S A s.heap s.heap [] := va_S.rf
  have hl := lv_entry ([.ref (a 0), .int x0]) (n := 2) (Nat.le_of_ble_eq_true rfl)
  rw [lg_entry_eq]
  generalize (lg_sl ([.ref (a 0), .int x0]) ++ List.replicate (2 - (lg_sl ([.ref (a 0), .int x0])).length) Slot.unset).toArray = ls at hl ⊢
  have hl : lv_has ls 2 [(0, .ref (a 0)), (1, .int x0)] := hl
  generalize hQ : MQ below (va_Qi (fun r (_ : Unit) => r = rv) (kb_B D A (w_MO dA a none q1 g2 g3 g4 g5 g6 g7 g8 g9 g10 g11 g12 g13 g14 g15 g16 g17 g18 u0)) A) ([.ref (a 0), .int x0] : List Value).toArray s 0 0 A = Q
  show W p l e ({ frames := 1, cells := 0, slots := 0, locals := 21 } : Room) s m ([.ref (a 0), .int x0] : List Value).toArray below meth c s.heap [] 0 0 Q (F0 m 0 ls [])
  have RET : ∀ (r2 : Int32) (w0 : MOT) (H : Heap) (locs : List Loc) (ls : Array Slot) (pc : Nat), some (r2, w0) = some (rv, u0) → va_P D vwCl (w_MO dA a none q1 g2 g3 g4 g5 g6 g7 g8 g9 g10 g11 g12 g13 g14 g15 g16 g17 g18 w0) H → va_D A (w_MO dA a none q1 g2 g3 g4 g5 g6 g7 g8 g9 g10 g11 g12 g13 g14 g15 g16 g17 g18 w0) → va_S A s.heap H locs → decode cX12_sits pc = .ok (.ireturn, 1) → W p l e ({ frames := 1, cells := 0, slots := 0, locals := 21 } : Room) s m ([.ref (a 0), .int x0] : List Value).toArray below meth c H locs 0 0 Q (F0 m pc ls [.int r2]) := by
    intro r2 w0 H locs ls pc hq hP hD hS hd
    cases hq
    rw [← hQ]
    exact W.iret hx hb hr (fun t ht hW => ⟨⟨_, (), rfl, rfl, by rw [ht]; exact hP, hD⟩, hS.F ht⟩) hS.2.2 hd
  have B_5 : ∀ (v1 : Int32) (z0 : MOT) (H : Heap) (locs : List Loc) (ls : Array Slot), f_X12_sits_n_b5 v1 z0 = some (rv, u0) → va_P D vwCl (w_MO dA a none q1 g2 g3 g4 g5 g6 g7 g8 g9 g10 g11 g12 g13 g14 g15 g16 g17 g18 z0) H → va_D A (w_MO dA a none q1 g2 g3 g4 g5 g6 g7 g8 g9 g10 g11 g12 g13 g14 g15 g16 g17 g18 z0) → va_S A s.heap H locs → lv_has ls 2 [(0, .ref (a 0)), (1, .int v1)] → W p l e ({ frames := 1, cells := 0, slots := 0, locals := 21 } : Room) s m ([.ref (a 0), .int x0] : List Value).toArray below meth c H locs 0 0 Q (F0 m 5 ls []) := by
    intro v1 z0 H locs ls hf hP hD hS hl
    rw [f_X12_sits_n_b5] at hf
    refine lv_aload_n hx hb dX12_sits_5 rfl (lv_at hl 0 rfl) ?_
    refine lv_iload_n hx hb dX12_sits_6 rfl (lv_at hl 1 rfl) ?_
    obtain ⟨r1, hc1, hf⟩ := kb_bind hf
    refine kb_ci (ws2 := (w_MO dA a none q1 g2 g3 g4 g5 g6 g7 g8 g9 g10 g11 g12 g13 g14 g15 g16 g17 g18 z0)) (kb_rV (n := 1) (As := [.int v1]) (rest := []) hx hb hml hown hK (c_X12_isSeat_n l D dA H.size a q1 g2 g3 g4 g5 g6 g7 g8 g9 g10 g11 g12 g13 g14 g15 g16 g17 g18 z0 v1 r1 hc1) ⟨ww_7_179, ww_7_176, ww_7_178, ws_84, ww_1_12, rfl, by decide, by decide⟩ rfl rfl (by decide +kernel) ⟨Nat.le_of_ble_eq_true rfl, Nat.le_of_ble_eq_true rfl⟩ hP hD hS hA hE [0] rfl (by decide) 0 rfl rfl rfl hl.1 rfl (Nat.le_of_ble_eq_true rfl) dX12_sits_7 ⟨Nat.le_of_ble_eq_true rfl, Nat.le_of_ble_eq_true rfl⟩) hP hD hS hA [0] [] [0] rfl rfl (by decide) (by decide) rfl (by decide) (fun H locs hP hD hS => ?_)
    refine lv_if_eq (tgt := 25) hx hb dX12_sits_10 (by decide) (fun c_2 => ?_) (fun c_2 => ?_)
    · rw [if_pos c_2] at hf
      refine lv_aload_n hx hb dX12_sits_25 rfl (lv_at hl 0 rfl) ?_
      refine lv_iconst (v := (1 : Int32)) hx hb dX12_sits_26 (by decide) ?_
      obtain ⟨r3, hc3, hf⟩ := kb_bind hf
      refine kb_ci (ws2 := (w_MO dA a none q1 g2 g3 g4 g5 g6 g7 g8 g9 g10 g11 g12 g13 g14 g15 g16 g17 g18 r3.2)) (kb_rV (n := 1) (As := [.int (1 : Int32)]) (rest := []) hx hb hml hown hK (c_X12_refused l D dA H.size a none q1 g2 g3 g4 g5 g6 g7 g8 g9 g10 g11 g12 g13 g14 g15 g16 g17 g18 z0 (1 : Int32) r3.1 r3.2 hc3) ⟨ww_6_82, ww_6_79, ww_6_81, ws_46, ww_1_12, rfl, by decide, by decide⟩ rfl rfl (by decide +kernel) ⟨Nat.le_of_ble_eq_true rfl, Nat.le_of_ble_eq_true rfl⟩ hP hD hS hA hE [0] rfl (by decide) 0 rfl rfl rfl hl.1 rfl (Nat.le_of_ble_eq_true rfl) dX12_sits_27 ⟨Nat.le_of_ble_eq_true rfl, Nat.le_of_ble_eq_true rfl⟩) hP hD hS hA [0] [] [0] rfl rfl (by decide) (by decide) rfl (by decide) (fun H locs hP hD hS => ?_)
      exact RET _ _ H _ ls 30 hf hP hD hS dX12_sits_30
    · rw [if_neg c_2] at hf
      refine lv_aload_n hx hb dX12_sits_13 rfl (lv_at hl 0 rfl) ?_
      refine lv_aload_n hx hb dX12_sits_14 rfl (lv_at hl 0 rfl) ?_
      refine lv_iload_n hx hb dX12_sits_15 rfl (lv_at hl 1 rfl) ?_
      cases hf
  have E0 : ∀ (H : Heap) (locs : List Loc), va_P D vwCl (w_MO dA a none q1 g2 g3 g4 g5 g6 g7 g8 g9 g10 g11 g12 g13 g14 g15 g16 g17 g18 mo) H → va_D A (w_MO dA a none q1 g2 g3 g4 g5 g6 g7 g8 g9 g10 g11 g12 g13 g14 g15 g16 g17 g18 mo) → va_S A s.heap H locs → W p l e ({ frames := 1, cells := 0, slots := 0, locals := 21 } : Room) s m ([.ref (a 0), .int x0] : List Value).toArray below meth c H locs 0 0 Q (F0 m 0 ls []) := by
    intro H locs hP hD hS
    rw [f_X12_sits_n] at hf
    refine lv_aload_n hx hb dX12_sits_0 rfl (lv_at hl 0 rfl) ?_
    refine lv_iconst (v := (0 : Int32)) hx hb dX12_sits_1 (by decide) ?_
    refine va_put (D := D) (ci := 12) (v := .int (0 : Int32)) (ty := .int) (C := RX12) (T := TX12) (N := 35) hx hb hts kb_inX12 tyX12 tyX12_ok nmX12 hown hK.1 hP hD hS 0 rfl rfl 0 (by decide) (hK.2.w ww_5_200 rfl _) (fun _ h9 => h9) rfl (by decide +kernel) rfl rfl (Nat.le_of_ble_eq_true rfl) dX12_sits_2 (fun H locs hP hD hS => ?_)
    have hP : va_P D vwCl (w_MO dA a none q1 g2 g3 g4 g5 g6 g7 g8 g9 g10 g11 g12 g13 g14 g15 g16 g17 g18 (mo_set_thrown mo (0 : Int32))) H := hP
    have hD : va_D A (w_MO dA a none q1 g2 g3 g4 g5 g6 g7 g8 g9 g10 g11 g12 g13 g14 g15 g16 g17 g18 (mo_set_thrown mo (0 : Int32))) := hD
    exact B_5 _ _ _ _ _ hf hP hD hS (lv_sub hl [0, 1] rfl)
  exact E0 _ _ hP hD hS

noncomputable def f_X12_bag_n_b5 (v1 : Int32) (z0 : MOT) : Option (Int32 × MOT) := (f_X12_isSeat_n z0 v1).bind fun r1 => (if r1 = 0 then (f_X12_refused z0 (1 : Int32)).bind fun r3 => some (r3.1, r3.2) else none)
noncomputable def f_X12_bag_n (mo : MOT) (x0 : Int32) : Option (Int32 × MOT) := f_X12_bag_n_b5 x0 (mo_set_thrown mo (0 : Int32))
set_option maxHeartbeats 4000000 in
set_option maxRecDepth 100000 in
theorem c_X12_bag_n (l : Launch) (D : va_G) (dA : Nat → ClassId) (sz : Nat) (a : Nat → Nat) (q1 : Option Nat) (g2 : Nat) (g3 : Nat) (g4 : Nat) (g5 : Nat) (g6 : Nat) (g7 : Nat) (g8 : Nat) (g9 : Nat) (g10 : Nat) (g11 : Nat) (g12 : Nat) (g13 : Nat) (g14 : Nat) (g15 : Nat) (g16 : Nat) (g17 : Nat) (g18 : Nat) (mo : MOT) (x0 : Int32) (rv : Int32) (u0 : MOT) (hf : f_X12_bag_n mo x0 = some (rv, u0)) : kb_Mi l yX12_bag cX12_bag 2 (some .int) ({ frames := 1, cells := 0, slots := 0, locals := 21 } : Room) D dA [.ref (a 0), .int x0] sz (w_MO dA a none q1 g2 g3 g4 g5 g6 g7 g8 g9 g10 g11 g12 g13 g14 g15 g16 g17 g18 mo) 0 0 rv (w_MO dA a none q1 g2 g3 g4 g5 g6 g7 g8 g9 g10 g11 g12 g13 g14 g15 g16 g17 g18 u0) := by
  refine Met.ofW (cc := cX12_bag) (maxL := 2) (ret := (some .int)) (by decide) rfl ?_
  intro p e s m args below meth c s₁ B hml hv
  obtain ⟨rfl, hsz, hP, hK, hD0, hE⟩ := hv
  have hx := B.exec
  have hb := B.bytes
  have hr := B.returns
  have hown : s.vm.findClass RX12 = some m.cls := findClass_of_methodNamed B.named
  have hlocks := B.notSynchronized
  have hts : ∀ w ∈ kb_gw, w.before ([.ref (a 0), .int x0] : List Value).toArray s = true := fun w hw => hK.2.1 w hw _
  subst hsz
  have hD := hD0.self (sz := s.heap.size)
  generalize hAe : va_A (w_MO dA a none q1 g2 g3 g4 g5 g6 g7 g8 g9 g10 g11 g12 g13 g14 g15 g16 g17 g18 mo) s.heap.size = A at hD hE ⊢
  have hA : ∀ q : Nat, s.heap.size ≤ q → A q := fun q h => by rw [← hAe]; exact Or.inr h
  have hS : va_S A s.heap s.heap [] := va_S.rf
  have hl := lv_entry ([.ref (a 0), .int x0]) (n := 2) (Nat.le_of_ble_eq_true rfl)
  rw [lg_entry_eq]
  generalize (lg_sl ([.ref (a 0), .int x0]) ++ List.replicate (2 - (lg_sl ([.ref (a 0), .int x0])).length) Slot.unset).toArray = ls at hl ⊢
  have hl : lv_has ls 2 [(0, .ref (a 0)), (1, .int x0)] := hl
  generalize hQ : MQ below (va_Qi (fun r (_ : Unit) => r = rv) (kb_B D A (w_MO dA a none q1 g2 g3 g4 g5 g6 g7 g8 g9 g10 g11 g12 g13 g14 g15 g16 g17 g18 u0)) A) ([.ref (a 0), .int x0] : List Value).toArray s 0 0 A = Q
  show W p l e ({ frames := 1, cells := 0, slots := 0, locals := 21 } : Room) s m ([.ref (a 0), .int x0] : List Value).toArray below meth c s.heap [] 0 0 Q (F0 m 0 ls [])
  have RET : ∀ (r2 : Int32) (w0 : MOT) (H : Heap) (locs : List Loc) (ls : Array Slot) (pc : Nat), some (r2, w0) = some (rv, u0) → va_P D vwCl (w_MO dA a none q1 g2 g3 g4 g5 g6 g7 g8 g9 g10 g11 g12 g13 g14 g15 g16 g17 g18 w0) H → va_D A (w_MO dA a none q1 g2 g3 g4 g5 g6 g7 g8 g9 g10 g11 g12 g13 g14 g15 g16 g17 g18 w0) → va_S A s.heap H locs → decode cX12_bag pc = .ok (.ireturn, 1) → W p l e ({ frames := 1, cells := 0, slots := 0, locals := 21 } : Room) s m ([.ref (a 0), .int x0] : List Value).toArray below meth c H locs 0 0 Q (F0 m pc ls [.int r2]) := by
    intro r2 w0 H locs ls pc hq hP hD hS hd
    cases hq
    rw [← hQ]
    exact W.iret hx hb hr (fun t ht hW => ⟨⟨_, (), rfl, rfl, by rw [ht]; exact hP, hD⟩, hS.F ht⟩) hS.2.2 hd
  have B_5 : ∀ (v1 : Int32) (z0 : MOT) (H : Heap) (locs : List Loc) (ls : Array Slot), f_X12_bag_n_b5 v1 z0 = some (rv, u0) → va_P D vwCl (w_MO dA a none q1 g2 g3 g4 g5 g6 g7 g8 g9 g10 g11 g12 g13 g14 g15 g16 g17 g18 z0) H → va_D A (w_MO dA a none q1 g2 g3 g4 g5 g6 g7 g8 g9 g10 g11 g12 g13 g14 g15 g16 g17 g18 z0) → va_S A s.heap H locs → lv_has ls 2 [(0, .ref (a 0)), (1, .int v1)] → W p l e ({ frames := 1, cells := 0, slots := 0, locals := 21 } : Room) s m ([.ref (a 0), .int x0] : List Value).toArray below meth c H locs 0 0 Q (F0 m 5 ls []) := by
    intro v1 z0 H locs ls hf hP hD hS hl
    rw [f_X12_bag_n_b5] at hf
    refine lv_aload_n hx hb dX12_bag_5 rfl (lv_at hl 0 rfl) ?_
    refine lv_iload_n hx hb dX12_bag_6 rfl (lv_at hl 1 rfl) ?_
    obtain ⟨r1, hc1, hf⟩ := kb_bind hf
    refine kb_ci (ws2 := (w_MO dA a none q1 g2 g3 g4 g5 g6 g7 g8 g9 g10 g11 g12 g13 g14 g15 g16 g17 g18 z0)) (kb_rV (n := 1) (As := [.int v1]) (rest := []) hx hb hml hown hK (c_X12_isSeat_n l D dA H.size a q1 g2 g3 g4 g5 g6 g7 g8 g9 g10 g11 g12 g13 g14 g15 g16 g17 g18 z0 v1 r1 hc1) ⟨ww_7_179, ww_7_176, ww_7_178, ws_84, ww_1_12, rfl, by decide, by decide⟩ rfl rfl (by decide +kernel) ⟨Nat.le_of_ble_eq_true rfl, Nat.le_of_ble_eq_true rfl⟩ hP hD hS hA hE [0] rfl (by decide) 0 rfl rfl rfl hl.1 rfl (Nat.le_of_ble_eq_true rfl) dX12_bag_7 ⟨Nat.le_of_ble_eq_true rfl, Nat.le_of_ble_eq_true rfl⟩) hP hD hS hA [0] [] [0] rfl rfl (by decide) (by decide) rfl (by decide) (fun H locs hP hD hS => ?_)
    refine lv_if_eq (tgt := 25) hx hb dX12_bag_10 (by decide) (fun c_2 => ?_) (fun c_2 => ?_)
    · rw [if_pos c_2] at hf
      refine lv_aload_n hx hb dX12_bag_25 rfl (lv_at hl 0 rfl) ?_
      refine lv_iconst (v := (1 : Int32)) hx hb dX12_bag_26 (by decide) ?_
      obtain ⟨r3, hc3, hf⟩ := kb_bind hf
      refine kb_ci (ws2 := (w_MO dA a none q1 g2 g3 g4 g5 g6 g7 g8 g9 g10 g11 g12 g13 g14 g15 g16 g17 g18 r3.2)) (kb_rV (n := 1) (As := [.int (1 : Int32)]) (rest := []) hx hb hml hown hK (c_X12_refused l D dA H.size a none q1 g2 g3 g4 g5 g6 g7 g8 g9 g10 g11 g12 g13 g14 g15 g16 g17 g18 z0 (1 : Int32) r3.1 r3.2 hc3) ⟨ww_6_82, ww_6_79, ww_6_81, ws_46, ww_1_12, rfl, by decide, by decide⟩ rfl rfl (by decide +kernel) ⟨Nat.le_of_ble_eq_true rfl, Nat.le_of_ble_eq_true rfl⟩ hP hD hS hA hE [0] rfl (by decide) 0 rfl rfl rfl hl.1 rfl (Nat.le_of_ble_eq_true rfl) dX12_bag_27 ⟨Nat.le_of_ble_eq_true rfl, Nat.le_of_ble_eq_true rfl⟩) hP hD hS hA [0] [] [0] rfl rfl (by decide) (by decide) rfl (by decide) (fun H locs hP hD hS => ?_)
      exact RET _ _ H _ ls 30 hf hP hD hS dX12_bag_30
    · rw [if_neg c_2] at hf
      refine lv_aload_n hx hb dX12_bag_13 rfl (lv_at hl 0 rfl) ?_
      refine lv_aload_n hx hb dX12_bag_14 rfl (lv_at hl 0 rfl) ?_
      refine lv_iload_n hx hb dX12_bag_15 rfl (lv_at hl 1 rfl) ?_
      cases hf
  have E0 : ∀ (H : Heap) (locs : List Loc), va_P D vwCl (w_MO dA a none q1 g2 g3 g4 g5 g6 g7 g8 g9 g10 g11 g12 g13 g14 g15 g16 g17 g18 mo) H → va_D A (w_MO dA a none q1 g2 g3 g4 g5 g6 g7 g8 g9 g10 g11 g12 g13 g14 g15 g16 g17 g18 mo) → va_S A s.heap H locs → W p l e ({ frames := 1, cells := 0, slots := 0, locals := 21 } : Room) s m ([.ref (a 0), .int x0] : List Value).toArray below meth c H locs 0 0 Q (F0 m 0 ls []) := by
    intro H locs hP hD hS
    rw [f_X12_bag_n] at hf
    refine lv_aload_n hx hb dX12_bag_0 rfl (lv_at hl 0 rfl) ?_
    refine lv_iconst (v := (0 : Int32)) hx hb dX12_bag_1 (by decide) ?_
    refine va_put (D := D) (ci := 12) (v := .int (0 : Int32)) (ty := .int) (C := RX12) (T := TX12) (N := 35) hx hb hts kb_inX12 tyX12 tyX12_ok nmX12 hown hK.1 hP hD hS 0 rfl rfl 0 (by decide) (hK.2.w ww_5_200 rfl _) (fun _ h9 => h9) rfl (by decide +kernel) rfl rfl (Nat.le_of_ble_eq_true rfl) dX12_bag_2 (fun H locs hP hD hS => ?_)
    have hP : va_P D vwCl (w_MO dA a none q1 g2 g3 g4 g5 g6 g7 g8 g9 g10 g11 g12 g13 g14 g15 g16 g17 g18 (mo_set_thrown mo (0 : Int32))) H := hP
    have hD : va_D A (w_MO dA a none q1 g2 g3 g4 g5 g6 g7 g8 g9 g10 g11 g12 g13 g14 g15 g16 g17 g18 (mo_set_thrown mo (0 : Int32))) := hD
    exact B_5 _ _ _ _ _ hf hP hD hS (lv_sub hl [0, 1] rfl)
  exact E0 _ _ hP hD hS

noncomputable def f_X12_standing_n_b5 (z0 : MOT) : Option (Int32 × MOT) := (f_X12_refused z0 (1 : Int32)).bind fun r1 => some (r1.1, r1.2)
noncomputable def f_X12_standing_n (mo : MOT) : Option (Int32 × MOT) := f_X12_standing_n_b5 (mo_set_thrown mo (0 : Int32))
set_option maxHeartbeats 4000000 in
set_option maxRecDepth 100000 in
theorem c_X12_standing_n (l : Launch) (D : va_G) (dA : Nat → ClassId) (sz : Nat) (a : Nat → Nat) (q1 : Option Nat) (g2 : Nat) (g3 : Nat) (g4 : Nat) (g5 : Nat) (g6 : Nat) (g7 : Nat) (g8 : Nat) (g9 : Nat) (g10 : Nat) (g11 : Nat) (g12 : Nat) (g13 : Nat) (g14 : Nat) (g15 : Nat) (g16 : Nat) (g17 : Nat) (g18 : Nat) (mo : MOT) (rv : Int32) (u0 : MOT) (hf : f_X12_standing_n mo = some (rv, u0)) : kb_Mi l yX12_standing cX12_standing 1 (some .int) ({ frames := 1, cells := 0, slots := 0, locals := 21 } : Room) D dA [.ref (a 0)] sz (w_MO dA a none q1 g2 g3 g4 g5 g6 g7 g8 g9 g10 g11 g12 g13 g14 g15 g16 g17 g18 mo) 0 0 rv (w_MO dA a none q1 g2 g3 g4 g5 g6 g7 g8 g9 g10 g11 g12 g13 g14 g15 g16 g17 g18 u0) := by
  refine Met.ofW (cc := cX12_standing) (maxL := 1) (ret := (some .int)) (by decide) rfl ?_
  intro p e s m args below meth c s₁ B hml hv
  obtain ⟨rfl, hsz, hP, hK, hD0, hE⟩ := hv
  have hx := B.exec
  have hb := B.bytes
  have hr := B.returns
  have hown : s.vm.findClass RX12 = some m.cls := findClass_of_methodNamed B.named
  have hlocks := B.notSynchronized
  have hts : ∀ w ∈ kb_gw, w.before ([.ref (a 0)] : List Value).toArray s = true := fun w hw => hK.2.1 w hw _
  subst hsz
  have hD := hD0.self (sz := s.heap.size)
  generalize hAe : va_A (w_MO dA a none q1 g2 g3 g4 g5 g6 g7 g8 g9 g10 g11 g12 g13 g14 g15 g16 g17 g18 mo) s.heap.size = A at hD hE ⊢
  have hA : ∀ q : Nat, s.heap.size ≤ q → A q := fun q h => by rw [← hAe]; exact Or.inr h
  have hS : va_S A s.heap s.heap [] := va_S.rf
  have hl := lv_entry ([.ref (a 0)]) (n := 1) (Nat.le_of_ble_eq_true rfl)
  rw [lg_entry_eq]
  generalize (lg_sl ([.ref (a 0)]) ++ List.replicate (1 - (lg_sl ([.ref (a 0)])).length) Slot.unset).toArray = ls at hl ⊢
  have hl : lv_has ls 1 [(0, .ref (a 0))] := hl
  generalize hQ : MQ below (va_Qi (fun r (_ : Unit) => r = rv) (kb_B D A (w_MO dA a none q1 g2 g3 g4 g5 g6 g7 g8 g9 g10 g11 g12 g13 g14 g15 g16 g17 g18 u0)) A) ([.ref (a 0)] : List Value).toArray s 0 0 A = Q
  show W p l e ({ frames := 1, cells := 0, slots := 0, locals := 21 } : Room) s m ([.ref (a 0)] : List Value).toArray below meth c s.heap [] 0 0 Q (F0 m 0 ls [])
  have RET : ∀ (r2 : Int32) (w0 : MOT) (H : Heap) (locs : List Loc) (ls : Array Slot) (pc : Nat), some (r2, w0) = some (rv, u0) → va_P D vwCl (w_MO dA a none q1 g2 g3 g4 g5 g6 g7 g8 g9 g10 g11 g12 g13 g14 g15 g16 g17 g18 w0) H → va_D A (w_MO dA a none q1 g2 g3 g4 g5 g6 g7 g8 g9 g10 g11 g12 g13 g14 g15 g16 g17 g18 w0) → va_S A s.heap H locs → decode cX12_standing pc = .ok (.ireturn, 1) → W p l e ({ frames := 1, cells := 0, slots := 0, locals := 21 } : Room) s m ([.ref (a 0)] : List Value).toArray below meth c H locs 0 0 Q (F0 m pc ls [.int r2]) := by
    intro r2 w0 H locs ls pc hq hP hD hS hd
    cases hq
    rw [← hQ]
    exact W.iret hx hb hr (fun t ht hW => ⟨⟨_, (), rfl, rfl, by rw [ht]; exact hP, hD⟩, hS.F ht⟩) hS.2.2 hd
  have B_5 : ∀ (z0 : MOT) (H : Heap) (locs : List Loc) (ls : Array Slot), f_X12_standing_n_b5 z0 = some (rv, u0) → va_P D vwCl (w_MO dA a none q1 g2 g3 g4 g5 g6 g7 g8 g9 g10 g11 g12 g13 g14 g15 g16 g17 g18 z0) H → va_D A (w_MO dA a none q1 g2 g3 g4 g5 g6 g7 g8 g9 g10 g11 g12 g13 g14 g15 g16 g17 g18 z0) → va_S A s.heap H locs → lv_has ls 1 [(0, .ref (a 0))] → W p l e ({ frames := 1, cells := 0, slots := 0, locals := 21 } : Room) s m ([.ref (a 0)] : List Value).toArray below meth c H locs 0 0 Q (F0 m 5 ls []) := by
    intro z0 H locs ls hf hP hD hS hl
    rw [f_X12_standing_n_b5] at hf
    refine lv_aload_n hx hb dX12_standing_5 rfl (lv_at hl 0 rfl) ?_
    refine va_get (D := D) (ci := 12) (v := .null) (C := RX12) (T := TX12) (N := 35) hx hb hts kb_inX12 hown hK.1 hP 0 rfl rfl 3 (by decide) (hK.2.w ww_5_203 rfl _) (fun _ h9 => h9) rfl dX12_standing_6 ?_
    refine lv_ifnonnullN hx hb dX12_standing_9 ?_
    refine lv_aload_n hx hb dX12_standing_12 rfl (lv_at hl 0 rfl) ?_
    refine lv_iconst (v := (1 : Int32)) hx hb dX12_standing_13 (by decide) ?_
    obtain ⟨r1, hc1, hf⟩ := kb_bind hf
    refine kb_ci (ws2 := (w_MO dA a none q1 g2 g3 g4 g5 g6 g7 g8 g9 g10 g11 g12 g13 g14 g15 g16 g17 g18 r1.2)) (kb_rV (n := 1) (As := [.int (1 : Int32)]) (rest := []) hx hb hml hown hK (c_X12_refused l D dA H.size a none q1 g2 g3 g4 g5 g6 g7 g8 g9 g10 g11 g12 g13 g14 g15 g16 g17 g18 z0 (1 : Int32) r1.1 r1.2 hc1) ⟨ww_6_82, ww_6_79, ww_6_81, ws_46, ww_1_12, rfl, by decide, by decide⟩ rfl rfl (by decide +kernel) ⟨Nat.le_of_ble_eq_true rfl, Nat.le_of_ble_eq_true rfl⟩ hP hD hS hA hE [0] rfl (by decide) 0 rfl rfl rfl hl.1 rfl (Nat.le_of_ble_eq_true rfl) dX12_standing_14 ⟨Nat.le_of_ble_eq_true rfl, Nat.le_of_ble_eq_true rfl⟩) hP hD hS hA [0] [] [0] rfl rfl (by decide) (by decide) rfl (by decide) (fun H locs hP hD hS => ?_)
    refine lv_goto (tgt := 28) hx hb dX12_standing_17 (by decide) ?_
    exact RET _ _ H _ ls 28 hf hP hD hS dX12_standing_28
  have E0 : ∀ (H : Heap) (locs : List Loc), va_P D vwCl (w_MO dA a none q1 g2 g3 g4 g5 g6 g7 g8 g9 g10 g11 g12 g13 g14 g15 g16 g17 g18 mo) H → va_D A (w_MO dA a none q1 g2 g3 g4 g5 g6 g7 g8 g9 g10 g11 g12 g13 g14 g15 g16 g17 g18 mo) → va_S A s.heap H locs → W p l e ({ frames := 1, cells := 0, slots := 0, locals := 21 } : Room) s m ([.ref (a 0)] : List Value).toArray below meth c H locs 0 0 Q (F0 m 0 ls []) := by
    intro H locs hP hD hS
    rw [f_X12_standing_n] at hf
    refine lv_aload_n hx hb dX12_standing_0 rfl (lv_at hl 0 rfl) ?_
    refine lv_iconst (v := (0 : Int32)) hx hb dX12_standing_1 (by decide) ?_
    refine va_put (D := D) (ci := 12) (v := .int (0 : Int32)) (ty := .int) (C := RX12) (T := TX12) (N := 35) hx hb hts kb_inX12 tyX12 tyX12_ok nmX12 hown hK.1 hP hD hS 0 rfl rfl 0 (by decide) (hK.2.w ww_5_200 rfl _) (fun _ h9 => h9) rfl (by decide +kernel) rfl rfl (Nat.le_of_ble_eq_true rfl) dX12_standing_2 (fun H locs hP hD hS => ?_)
    have hP : va_P D vwCl (w_MO dA a none q1 g2 g3 g4 g5 g6 g7 g8 g9 g10 g11 g12 g13 g14 g15 g16 g17 g18 (mo_set_thrown mo (0 : Int32))) H := hP
    have hD : va_D A (w_MO dA a none q1 g2 g3 g4 g5 g6 g7 g8 g9 g10 g11 g12 g13 g14 g15 g16 g17 g18 (mo_set_thrown mo (0 : Int32))) := hD
    exact B_5 _ _ _ _ hf hP hD hS (lv_sub hl [0] rfl)
  exact E0 _ _ hP hD hS

noncomputable def f_X12_free_n_b5 (z0 : MOT) : Option (Int32 × MOT) := (f_X12_refused z0 (1 : Int32)).bind fun r1 => some (r1.1, r1.2)
noncomputable def f_X12_free_n (mo : MOT) : Option (Int32 × MOT) := f_X12_free_n_b5 (mo_set_thrown mo (0 : Int32))
set_option maxHeartbeats 4000000 in
set_option maxRecDepth 100000 in
theorem c_X12_free_n (l : Launch) (D : va_G) (dA : Nat → ClassId) (sz : Nat) (a : Nat → Nat) (q1 : Option Nat) (g2 : Nat) (g3 : Nat) (g4 : Nat) (g5 : Nat) (g6 : Nat) (g7 : Nat) (g8 : Nat) (g9 : Nat) (g10 : Nat) (g11 : Nat) (g12 : Nat) (g13 : Nat) (g14 : Nat) (g15 : Nat) (g16 : Nat) (g17 : Nat) (g18 : Nat) (mo : MOT) (rv : Int32) (u0 : MOT) (hf : f_X12_free_n mo = some (rv, u0)) : kb_Mi l yX12_free cX12_free 1 (some .int) ({ frames := 1, cells := 0, slots := 0, locals := 21 } : Room) D dA [.ref (a 0)] sz (w_MO dA a none q1 g2 g3 g4 g5 g6 g7 g8 g9 g10 g11 g12 g13 g14 g15 g16 g17 g18 mo) 0 0 rv (w_MO dA a none q1 g2 g3 g4 g5 g6 g7 g8 g9 g10 g11 g12 g13 g14 g15 g16 g17 g18 u0) := by
  refine Met.ofW (cc := cX12_free) (maxL := 1) (ret := (some .int)) (by decide) rfl ?_
  intro p e s m args below meth c s₁ B hml hv
  obtain ⟨rfl, hsz, hP, hK, hD0, hE⟩ := hv
  have hx := B.exec
  have hb := B.bytes
  have hr := B.returns
  have hown : s.vm.findClass RX12 = some m.cls := findClass_of_methodNamed B.named
  have hlocks := B.notSynchronized
  have hts : ∀ w ∈ kb_gw, w.before ([.ref (a 0)] : List Value).toArray s = true := fun w hw => hK.2.1 w hw _
  subst hsz
  have hD := hD0.self (sz := s.heap.size)
  generalize hAe : va_A (w_MO dA a none q1 g2 g3 g4 g5 g6 g7 g8 g9 g10 g11 g12 g13 g14 g15 g16 g17 g18 mo) s.heap.size = A at hD hE ⊢
  have hA : ∀ q : Nat, s.heap.size ≤ q → A q := fun q h => by rw [← hAe]; exact Or.inr h
  have hS : va_S A s.heap s.heap [] := va_S.rf
  have hl := lv_entry ([.ref (a 0)]) (n := 1) (Nat.le_of_ble_eq_true rfl)
  rw [lg_entry_eq]
  generalize (lg_sl ([.ref (a 0)]) ++ List.replicate (1 - (lg_sl ([.ref (a 0)])).length) Slot.unset).toArray = ls at hl ⊢
  have hl : lv_has ls 1 [(0, .ref (a 0))] := hl
  generalize hQ : MQ below (va_Qi (fun r (_ : Unit) => r = rv) (kb_B D A (w_MO dA a none q1 g2 g3 g4 g5 g6 g7 g8 g9 g10 g11 g12 g13 g14 g15 g16 g17 g18 u0)) A) ([.ref (a 0)] : List Value).toArray s 0 0 A = Q
  show W p l e ({ frames := 1, cells := 0, slots := 0, locals := 21 } : Room) s m ([.ref (a 0)] : List Value).toArray below meth c s.heap [] 0 0 Q (F0 m 0 ls [])
  have RET : ∀ (r2 : Int32) (w0 : MOT) (H : Heap) (locs : List Loc) (ls : Array Slot) (pc : Nat), some (r2, w0) = some (rv, u0) → va_P D vwCl (w_MO dA a none q1 g2 g3 g4 g5 g6 g7 g8 g9 g10 g11 g12 g13 g14 g15 g16 g17 g18 w0) H → va_D A (w_MO dA a none q1 g2 g3 g4 g5 g6 g7 g8 g9 g10 g11 g12 g13 g14 g15 g16 g17 g18 w0) → va_S A s.heap H locs → decode cX12_free pc = .ok (.ireturn, 1) → W p l e ({ frames := 1, cells := 0, slots := 0, locals := 21 } : Room) s m ([.ref (a 0)] : List Value).toArray below meth c H locs 0 0 Q (F0 m pc ls [.int r2]) := by
    intro r2 w0 H locs ls pc hq hP hD hS hd
    cases hq
    rw [← hQ]
    exact W.iret hx hb hr (fun t ht hW => ⟨⟨_, (), rfl, rfl, by rw [ht]; exact hP, hD⟩, hS.F ht⟩) hS.2.2 hd
  have B_5 : ∀ (z0 : MOT) (H : Heap) (locs : List Loc) (ls : Array Slot), f_X12_free_n_b5 z0 = some (rv, u0) → va_P D vwCl (w_MO dA a none q1 g2 g3 g4 g5 g6 g7 g8 g9 g10 g11 g12 g13 g14 g15 g16 g17 g18 z0) H → va_D A (w_MO dA a none q1 g2 g3 g4 g5 g6 g7 g8 g9 g10 g11 g12 g13 g14 g15 g16 g17 g18 z0) → va_S A s.heap H locs → lv_has ls 1 [(0, .ref (a 0))] → W p l e ({ frames := 1, cells := 0, slots := 0, locals := 21 } : Room) s m ([.ref (a 0)] : List Value).toArray below meth c H locs 0 0 Q (F0 m 5 ls []) := by
    intro z0 H locs ls hf hP hD hS hl
    rw [f_X12_free_n_b5] at hf
    refine lv_aload_n hx hb dX12_free_5 rfl (lv_at hl 0 rfl) ?_
    refine va_get (D := D) (ci := 12) (v := .null) (C := RX12) (T := TX12) (N := 35) hx hb hts kb_inX12 hown hK.1 hP 0 rfl rfl 3 (by decide) (hK.2.w ww_5_203 rfl _) (fun _ h9 => h9) rfl dX12_free_6 ?_
    refine lv_ifnonnullN hx hb dX12_free_9 ?_
    refine lv_aload_n hx hb dX12_free_12 rfl (lv_at hl 0 rfl) ?_
    refine lv_iconst (v := (1 : Int32)) hx hb dX12_free_13 (by decide) ?_
    obtain ⟨r1, hc1, hf⟩ := kb_bind hf
    refine kb_ci (ws2 := (w_MO dA a none q1 g2 g3 g4 g5 g6 g7 g8 g9 g10 g11 g12 g13 g14 g15 g16 g17 g18 r1.2)) (kb_rV (n := 1) (As := [.int (1 : Int32)]) (rest := []) hx hb hml hown hK (c_X12_refused l D dA H.size a none q1 g2 g3 g4 g5 g6 g7 g8 g9 g10 g11 g12 g13 g14 g15 g16 g17 g18 z0 (1 : Int32) r1.1 r1.2 hc1) ⟨ww_6_82, ww_6_79, ww_6_81, ws_46, ww_1_12, rfl, by decide, by decide⟩ rfl rfl (by decide +kernel) ⟨Nat.le_of_ble_eq_true rfl, Nat.le_of_ble_eq_true rfl⟩ hP hD hS hA hE [0] rfl (by decide) 0 rfl rfl rfl hl.1 rfl (Nat.le_of_ble_eq_true rfl) dX12_free_14 ⟨Nat.le_of_ble_eq_true rfl, Nat.le_of_ble_eq_true rfl⟩) hP hD hS hA [0] [] [0] rfl rfl (by decide) (by decide) rfl (by decide) (fun H locs hP hD hS => ?_)
    refine lv_goto (tgt := 28) hx hb dX12_free_17 (by decide) ?_
    exact RET _ _ H _ ls 28 hf hP hD hS dX12_free_28
  have E0 : ∀ (H : Heap) (locs : List Loc), va_P D vwCl (w_MO dA a none q1 g2 g3 g4 g5 g6 g7 g8 g9 g10 g11 g12 g13 g14 g15 g16 g17 g18 mo) H → va_D A (w_MO dA a none q1 g2 g3 g4 g5 g6 g7 g8 g9 g10 g11 g12 g13 g14 g15 g16 g17 g18 mo) → va_S A s.heap H locs → W p l e ({ frames := 1, cells := 0, slots := 0, locals := 21 } : Room) s m ([.ref (a 0)] : List Value).toArray below meth c H locs 0 0 Q (F0 m 0 ls []) := by
    intro H locs hP hD hS
    rw [f_X12_free_n] at hf
    refine lv_aload_n hx hb dX12_free_0 rfl (lv_at hl 0 rfl) ?_
    refine lv_iconst (v := (0 : Int32)) hx hb dX12_free_1 (by decide) ?_
    refine va_put (D := D) (ci := 12) (v := .int (0 : Int32)) (ty := .int) (C := RX12) (T := TX12) (N := 35) hx hb hts kb_inX12 tyX12 tyX12_ok nmX12 hown hK.1 hP hD hS 0 rfl rfl 0 (by decide) (hK.2.w ww_5_200 rfl _) (fun _ h9 => h9) rfl (by decide +kernel) rfl rfl (Nat.le_of_ble_eq_true rfl) dX12_free_2 (fun H locs hP hD hS => ?_)
    have hP : va_P D vwCl (w_MO dA a none q1 g2 g3 g4 g5 g6 g7 g8 g9 g10 g11 g12 g13 g14 g15 g16 g17 g18 (mo_set_thrown mo (0 : Int32))) H := hP
    have hD : va_D A (w_MO dA a none q1 g2 g3 g4 g5 g6 g7 g8 g9 g10 g11 g12 g13 g14 g15 g16 g17 g18 (mo_set_thrown mo (0 : Int32))) := hD
    exact B_5 _ _ _ _ hf hP hD hS (lv_sub hl [0] rfl)
  exact E0 _ _ hP hD hS

noncomputable def f_X12_order_n_b5 (y_w : WT) (v1 : Int32) (z0 : MOT) : Option (Int32 × MOT) := (f_X12_isRider_n z0 v1).bind fun r1 => (if r1 = 0 then (f_X12_refused z0 (1 : Int32)).bind fun r8 => some (r8.1, r8.2) else if kb_in? ((16 : Int32) + v1) 56 then (if ((yW_r y_w) (((16 : Int32) + v1)).toNatClampNeg) = 0 then (f_X12_refused z0 (6 : Int32)).bind fun r7 => some (r7.1, r7.2) else if kb_in? ((16 : Int32) + v1) 56 then (f_X12_done z0 ((yW_r y_w) (((16 : Int32) + v1)).toNatClampNeg)).bind fun r6 => some (r6.1, r6.2) else none) else none)
noncomputable def f_X12_order_n (mo : MOT) (y_w : WT) (x0 : Int32) : Option (Int32 × MOT) := f_X12_order_n_b5 y_w x0 (mo_set_thrown mo (0 : Int32))
set_option maxHeartbeats 4000000 in
set_option maxRecDepth 100000 in
theorem c_X12_order_n (l : Launch) (D : va_G) (dA : Nat → ClassId) (sz : Nat) (a : Nat → Nat) (wa : Nat → Nat) (q1 : Option Nat) (g2 : Nat) (g3 : Nat) (g4 : Nat) (g5 : Nat) (g7 : Nat) (g8 : Nat) (g9 : Nat) (g10 : Nat) (g11 : Nat) (g12 : Nat) (g13 : Nat) (g14 : Nat) (g15 : Nat) (g16 : Nat) (g17 : Nat) (g18 : Nat) (mo : MOT) (y_w : WT) (x0 : Int32) (rv : Int32) (u0 : MOT) (hf : f_X12_order_n mo y_w x0 = some (rv, u0)) : kb_Mi l yX12_order cX12_order 2 (some .int) ({ frames := 1, cells := 0, slots := 0, locals := 21 } : Room) D dA [.ref (a 0), .int x0] sz (w_MO dA a none q1 g2 g3 g4 g5 (wa 0) g7 g8 g9 g10 g11 g12 g13 g14 g15 g16 g17 g18 mo ++ (w_W dA wa y_w)) 0 0 rv (w_MO dA a none q1 g2 g3 g4 g5 (wa 0) g7 g8 g9 g10 g11 g12 g13 g14 g15 g16 g17 g18 u0 ++ (w_W dA wa y_w)) := by
  refine Met.ofW (cc := cX12_order) (maxL := 2) (ret := (some .int)) (by decide) rfl ?_
  intro p e s m args below meth c s₁ B hml hv
  obtain ⟨rfl, hsz, hP, hK, hD0, hE⟩ := hv
  have hx := B.exec
  have hb := B.bytes
  have hr := B.returns
  have hown : s.vm.findClass RX12 = some m.cls := findClass_of_methodNamed B.named
  have hlocks := B.notSynchronized
  have hts : ∀ w ∈ kb_gw, w.before ([.ref (a 0), .int x0] : List Value).toArray s = true := fun w hw => hK.2.1 w hw _
  subst hsz
  have hD := hD0.self (sz := s.heap.size)
  generalize hAe : va_A (w_MO dA a none q1 g2 g3 g4 g5 (wa 0) g7 g8 g9 g10 g11 g12 g13 g14 g15 g16 g17 g18 mo ++ (w_W dA wa y_w)) s.heap.size = A at hD hE ⊢
  have hA : ∀ q : Nat, s.heap.size ≤ q → A q := fun q h => by rw [← hAe]; exact Or.inr h
  have hS : va_S A s.heap s.heap [] := va_S.rf
  have hl := lv_entry ([.ref (a 0), .int x0]) (n := 2) (Nat.le_of_ble_eq_true rfl)
  rw [lg_entry_eq]
  generalize (lg_sl ([.ref (a 0), .int x0]) ++ List.replicate (2 - (lg_sl ([.ref (a 0), .int x0])).length) Slot.unset).toArray = ls at hl ⊢
  have hl : lv_has ls 2 [(0, .ref (a 0)), (1, .int x0)] := hl
  generalize hQ : MQ below (va_Qi (fun r (_ : Unit) => r = rv) (kb_B D A (w_MO dA a none q1 g2 g3 g4 g5 (wa 0) g7 g8 g9 g10 g11 g12 g13 g14 g15 g16 g17 g18 u0 ++ (w_W dA wa y_w))) A) ([.ref (a 0), .int x0] : List Value).toArray s 0 0 A = Q
  show W p l e ({ frames := 1, cells := 0, slots := 0, locals := 21 } : Room) s m ([.ref (a 0), .int x0] : List Value).toArray below meth c s.heap [] 0 0 Q (F0 m 0 ls [])
  have RET : ∀ (r2 : Int32) (w0 : MOT) (H : Heap) (locs : List Loc) (ls : Array Slot) (pc : Nat), some (r2, w0) = some (rv, u0) → va_P D vwCl (w_MO dA a none q1 g2 g3 g4 g5 (wa 0) g7 g8 g9 g10 g11 g12 g13 g14 g15 g16 g17 g18 w0 ++ (w_W dA wa y_w)) H → va_D A (w_MO dA a none q1 g2 g3 g4 g5 (wa 0) g7 g8 g9 g10 g11 g12 g13 g14 g15 g16 g17 g18 w0 ++ (w_W dA wa y_w)) → va_S A s.heap H locs → decode cX12_order pc = .ok (.ireturn, 1) → W p l e ({ frames := 1, cells := 0, slots := 0, locals := 21 } : Room) s m ([.ref (a 0), .int x0] : List Value).toArray below meth c H locs 0 0 Q (F0 m pc ls [.int r2]) := by
    intro r2 w0 H locs ls pc hq hP hD hS hd
    cases hq
    rw [← hQ]
    exact W.iret hx hb hr (fun t ht hW => ⟨⟨_, (), rfl, rfl, by rw [ht]; exact hP, hD⟩, hS.F ht⟩) hS.2.2 hd
  have B_5 : ∀ (v1 : Int32) (z0 : MOT) (H : Heap) (locs : List Loc) (ls : Array Slot), f_X12_order_n_b5 y_w v1 z0 = some (rv, u0) → va_P D vwCl (w_MO dA a none q1 g2 g3 g4 g5 (wa 0) g7 g8 g9 g10 g11 g12 g13 g14 g15 g16 g17 g18 z0 ++ (w_W dA wa y_w)) H → va_D A (w_MO dA a none q1 g2 g3 g4 g5 (wa 0) g7 g8 g9 g10 g11 g12 g13 g14 g15 g16 g17 g18 z0 ++ (w_W dA wa y_w)) → va_S A s.heap H locs → lv_has ls 2 [(0, .ref (a 0)), (1, .int v1)] → W p l e ({ frames := 1, cells := 0, slots := 0, locals := 21 } : Room) s m ([.ref (a 0), .int x0] : List Value).toArray below meth c H locs 0 0 Q (F0 m 5 ls []) := by
    intro v1 z0 H locs ls hf hP hD hS hl
    rw [f_X12_order_n_b5] at hf
    refine lv_aload_n hx hb dX12_order_5 rfl (lv_at hl 0 rfl) ?_
    refine lv_iload_n hx hb dX12_order_6 rfl (lv_at hl 1 rfl) ?_
    obtain ⟨r1, hc1, hf⟩ := kb_bind hf
    refine kb_ci (ws2 := (w_MO dA a none q1 g2 g3 g4 g5 (wa 0) g7 g8 g9 g10 g11 g12 g13 g14 g15 g16 g17 g18 z0 ++ (w_W dA wa y_w))) (kb_rV (n := 1) (As := [.int v1]) (rest := []) hx hb hml hown hK (c_X12_isRider_n l D dA H.size a q1 g2 g3 g4 g5 (wa 0) g7 g8 g9 g10 g11 g12 g13 g14 g15 g16 g17 g18 z0 v1 r1 hc1) ⟨ww_8_5, ww_8_2, ww_8_4, ws_95, ww_1_12, rfl, by decide, by decide⟩ rfl rfl (by decide +kernel) ⟨Nat.le_of_ble_eq_true rfl, Nat.le_of_ble_eq_true rfl⟩ hP hD hS hA hE [0] rfl (by decide) 0 rfl rfl rfl hl.1 rfl (Nat.le_of_ble_eq_true rfl) dX12_order_7 ⟨Nat.le_of_ble_eq_true rfl, Nat.le_of_ble_eq_true rfl⟩) hP hD hS hA [0] [1] [1, 0] rfl rfl (by decide) (by decide) rfl (by decide) (fun H locs hP hD hS => ?_)
    refine lv_if_ne (tgt := 19) hx hb dX12_order_10 (by decide) (fun c_2 => ?_) (fun c_2 => ?_)
    · rw [if_neg c_2] at hf
      refine lv_aload_n hx hb dX12_order_19 rfl (lv_at hl 0 rfl) ?_
      refine va_get (D := D) (ci := 12) (v := .ref (wa 0)) (C := RX12) (T := TX12) (N := 35) hx hb hts kb_inX12 hown hK.1 hP 0 rfl rfl 19 (by decide) (hK.2.w ww_5_219 rfl _) (fun _ h9 => h9) rfl dX12_order_20 ?_
      refine lv_bipush (v := (16 : Int32)) hx hb dX12_order_23 (by decide) ?_
      refine lv_iload_n hx hb dX12_order_25 rfl (lv_at hl 1 rfl) ?_
      refine lv_iadd hx hb dX12_order_26 ?_
      obtain ⟨h_3, hf⟩ := kb_if hf
      refine va_iald (D := D) hx hb hK.1 hP 1 0 rfl rfl h_3 dX12_order_27 ?_
      refine lv_if_ne (tgt := 40) hx hb dX12_order_28 (by decide) (fun c_4 => ?_) (fun c_4 => ?_)
      · rw [if_neg c_4] at hf
        refine lv_aload_n hx hb dX12_order_40 rfl (lv_at hl 0 rfl) ?_
        refine lv_aload_n hx hb dX12_order_41 rfl (lv_at hl 0 rfl) ?_
        refine va_get (D := D) (ci := 12) (v := .ref (wa 0)) (C := RX12) (T := TX12) (N := 35) hx hb hts kb_inX12 hown hK.1 hP 0 rfl rfl 19 (by decide) (hK.2.w ww_5_219 rfl _) (fun _ h9 => h9) rfl dX12_order_42 ?_
        refine lv_bipush (v := (16 : Int32)) hx hb dX12_order_45 (by decide) ?_
        refine lv_iload_n hx hb dX12_order_47 rfl (lv_at hl 1 rfl) ?_
        refine lv_iadd hx hb dX12_order_48 ?_
        obtain ⟨h_5, hf⟩ := kb_if hf
        refine va_iald (D := D) hx hb hK.1 hP 1 0 rfl rfl h_5 dX12_order_49 ?_
        obtain ⟨r6, hc6, hf⟩ := kb_bind hf
        refine kb_ci (ws2 := (w_MO dA a none q1 g2 g3 g4 g5 (wa 0) g7 g8 g9 g10 g11 g12 g13 g14 g15 g16 g17 g18 r6.2 ++ (w_W dA wa y_w))) (kb_rV (n := 1) (As := [.int ((yW_r y_w) (((16 : Int32) + v1)).toNatClampNeg)]) (rest := []) hx hb hml hown hK (c_X12_done l D dA H.size a none q1 g2 g3 g4 g5 (wa 0) g7 g8 g9 g10 g11 g12 g13 g14 g15 g16 g17 g18 z0 ((yW_r y_w) (((16 : Int32) + v1)).toNatClampNeg) r6.1 r6.2 hc6) ⟨ww_7_100, ww_7_97, ww_7_99, ws_71, ww_1_12, rfl, by decide, by decide⟩ rfl rfl (by decide +kernel) ⟨Nat.le_of_ble_eq_true rfl, Nat.le_of_ble_eq_true rfl⟩ hP hD hS hA hE [0] rfl (by decide) 0 rfl rfl rfl hl.1 rfl (Nat.le_of_ble_eq_true rfl) dX12_order_50 ⟨Nat.le_of_ble_eq_true rfl, Nat.le_of_ble_eq_true rfl⟩) hP hD hS hA [0] [1] [1, 0] rfl rfl (by decide) (by decide) rfl (by decide) (fun H locs hP hD hS => ?_)
        exact RET _ _ H _ ls 53 hf hP hD hS dX12_order_53
      · rw [if_pos c_4] at hf
        refine lv_aload_n hx hb dX12_order_31 rfl (lv_at hl 0 rfl) ?_
        refine lv_bipush (v := (6 : Int32)) hx hb dX12_order_32 (by decide) ?_
        obtain ⟨r7, hc7, hf⟩ := kb_bind hf
        refine kb_ci (ws2 := (w_MO dA a none q1 g2 g3 g4 g5 (wa 0) g7 g8 g9 g10 g11 g12 g13 g14 g15 g16 g17 g18 r7.2 ++ (w_W dA wa y_w))) (kb_rV (n := 1) (As := [.int (6 : Int32)]) (rest := []) hx hb hml hown hK (c_X12_refused l D dA H.size a none q1 g2 g3 g4 g5 (wa 0) g7 g8 g9 g10 g11 g12 g13 g14 g15 g16 g17 g18 z0 (6 : Int32) r7.1 r7.2 hc7) ⟨ww_6_82, ww_6_79, ww_6_81, ws_46, ww_1_12, rfl, by decide, by decide⟩ rfl rfl (by decide +kernel) ⟨Nat.le_of_ble_eq_true rfl, Nat.le_of_ble_eq_true rfl⟩ hP hD hS hA hE [0] rfl (by decide) 0 rfl rfl rfl hl.1 rfl (Nat.le_of_ble_eq_true rfl) dX12_order_34 ⟨Nat.le_of_ble_eq_true rfl, Nat.le_of_ble_eq_true rfl⟩) hP hD hS hA [0] [1] [1, 0] rfl rfl (by decide) (by decide) rfl (by decide) (fun H locs hP hD hS => ?_)
        refine lv_goto (tgt := 53) hx hb dX12_order_37 (by decide) ?_
        exact RET _ _ H _ ls 53 hf hP hD hS dX12_order_53
    · rw [if_pos c_2] at hf
      refine lv_aload_n hx hb dX12_order_13 rfl (lv_at hl 0 rfl) ?_
      refine lv_iconst (v := (1 : Int32)) hx hb dX12_order_14 (by decide) ?_
      obtain ⟨r8, hc8, hf⟩ := kb_bind hf
      refine kb_ci (ws2 := (w_MO dA a none q1 g2 g3 g4 g5 (wa 0) g7 g8 g9 g10 g11 g12 g13 g14 g15 g16 g17 g18 r8.2 ++ (w_W dA wa y_w))) (kb_rV (n := 1) (As := [.int (1 : Int32)]) (rest := []) hx hb hml hown hK (c_X12_refused l D dA H.size a none q1 g2 g3 g4 g5 (wa 0) g7 g8 g9 g10 g11 g12 g13 g14 g15 g16 g17 g18 z0 (1 : Int32) r8.1 r8.2 hc8) ⟨ww_6_82, ww_6_79, ww_6_81, ws_46, ww_1_12, rfl, by decide, by decide⟩ rfl rfl (by decide +kernel) ⟨Nat.le_of_ble_eq_true rfl, Nat.le_of_ble_eq_true rfl⟩ hP hD hS hA hE [0] rfl (by decide) 0 rfl rfl rfl hl.1 rfl (Nat.le_of_ble_eq_true rfl) dX12_order_15 ⟨Nat.le_of_ble_eq_true rfl, Nat.le_of_ble_eq_true rfl⟩) hP hD hS hA [0] [1] [1, 0] rfl rfl (by decide) (by decide) rfl (by decide) (fun H locs hP hD hS => ?_)
      exact RET _ _ H _ ls 18 hf hP hD hS dX12_order_18
  have E0 : ∀ (H : Heap) (locs : List Loc), va_P D vwCl (w_MO dA a none q1 g2 g3 g4 g5 (wa 0) g7 g8 g9 g10 g11 g12 g13 g14 g15 g16 g17 g18 mo ++ (w_W dA wa y_w)) H → va_D A (w_MO dA a none q1 g2 g3 g4 g5 (wa 0) g7 g8 g9 g10 g11 g12 g13 g14 g15 g16 g17 g18 mo ++ (w_W dA wa y_w)) → va_S A s.heap H locs → W p l e ({ frames := 1, cells := 0, slots := 0, locals := 21 } : Room) s m ([.ref (a 0), .int x0] : List Value).toArray below meth c H locs 0 0 Q (F0 m 0 ls []) := by
    intro H locs hP hD hS
    rw [f_X12_order_n] at hf
    refine lv_aload_n hx hb dX12_order_0 rfl (lv_at hl 0 rfl) ?_
    refine lv_iconst (v := (0 : Int32)) hx hb dX12_order_1 (by decide) ?_
    refine va_put (D := D) (ci := 12) (v := .int (0 : Int32)) (ty := .int) (C := RX12) (T := TX12) (N := 35) hx hb hts kb_inX12 tyX12 tyX12_ok nmX12 hown hK.1 hP hD hS 0 rfl rfl 0 (by decide) (hK.2.w ww_5_200 rfl _) (fun _ h9 => h9) rfl (by decide +kernel) rfl rfl (Nat.le_of_ble_eq_true rfl) dX12_order_2 (fun H locs hP hD hS => ?_)
    have hP : va_P D vwCl (w_MO dA a none q1 g2 g3 g4 g5 (wa 0) g7 g8 g9 g10 g11 g12 g13 g14 g15 g16 g17 g18 (mo_set_thrown mo (0 : Int32)) ++ (w_W dA wa y_w)) H := hP
    have hD : va_D A (w_MO dA a none q1 g2 g3 g4 g5 (wa 0) g7 g8 g9 g10 g11 g12 g13 g14 g15 g16 g17 g18 (mo_set_thrown mo (0 : Int32)) ++ (w_W dA wa y_w)) := hD
    exact B_5 _ _ _ _ _ hf hP hD hS (lv_sub hl [0, 1] rfl)
  exact E0 _ _ hP hD hS

noncomputable def f_X12_shunned_n_b5 (y_w : WT) (v1 : Int32) (z0 : MOT) : Option (Int32 × MOT) := (f_X12_isRider_n z0 v1).bind fun r1 => (if r1 = 0 then (f_X12_refused z0 (1 : Int32)).bind fun r8 => some (r8.1, r8.2) else if kb_in? ((16 : Int32) + v1) 56 then (if ((yW_r y_w) (((16 : Int32) + v1)).toNatClampNeg) = 0 then (f_X12_refused z0 (6 : Int32)).bind fun r7 => some (r7.1, r7.2) else (f_X12_shunnedNow z0 y_w v1).bind fun r5 => (f_X12_done z0 r5).bind fun r6 => some (r6.1, r6.2)) else none)
noncomputable def f_X12_shunned_n (mo : MOT) (y_w : WT) (x0 : Int32) : Option (Int32 × MOT) := f_X12_shunned_n_b5 y_w x0 (mo_set_thrown mo (0 : Int32))
set_option maxHeartbeats 4000000 in
set_option maxRecDepth 100000 in
theorem c_X12_shunned_n (l : Launch) (D : va_G) (dA : Nat → ClassId) (sz : Nat) (a : Nat → Nat) (wa : Nat → Nat) (q1 : Option Nat) (g2 : Nat) (g3 : Nat) (g4 : Nat) (g5 : Nat) (g7 : Nat) (g8 : Nat) (g9 : Nat) (g10 : Nat) (g11 : Nat) (g12 : Nat) (g13 : Nat) (g14 : Nat) (g15 : Nat) (g16 : Nat) (g17 : Nat) (g18 : Nat) (mo : MOT) (y_w : WT) (x0 : Int32) (rv : Int32) (u0 : MOT) (hf : f_X12_shunned_n mo y_w x0 = some (rv, u0)) : kb_Mi l yX12_shunned cX12_shunned 2 (some .int) ({ frames := 1, cells := 0, slots := 0, locals := 21 } : Room) D dA [.ref (a 0), .int x0] sz (w_MO dA a none q1 g2 g3 g4 g5 (wa 0) g7 g8 g9 g10 g11 g12 g13 g14 g15 g16 g17 g18 mo ++ (w_W dA wa y_w)) 0 0 rv (w_MO dA a none q1 g2 g3 g4 g5 (wa 0) g7 g8 g9 g10 g11 g12 g13 g14 g15 g16 g17 g18 u0 ++ (w_W dA wa y_w)) := by
  refine Met.ofW (cc := cX12_shunned) (maxL := 2) (ret := (some .int)) (by decide) rfl ?_
  intro p e s m args below meth c s₁ B hml hv
  obtain ⟨rfl, hsz, hP, hK, hD0, hE⟩ := hv
  have hx := B.exec
  have hb := B.bytes
  have hr := B.returns
  have hown : s.vm.findClass RX12 = some m.cls := findClass_of_methodNamed B.named
  have hlocks := B.notSynchronized
  have hts : ∀ w ∈ kb_gw, w.before ([.ref (a 0), .int x0] : List Value).toArray s = true := fun w hw => hK.2.1 w hw _
  subst hsz
  have hD := hD0.self (sz := s.heap.size)
  generalize hAe : va_A (w_MO dA a none q1 g2 g3 g4 g5 (wa 0) g7 g8 g9 g10 g11 g12 g13 g14 g15 g16 g17 g18 mo ++ (w_W dA wa y_w)) s.heap.size = A at hD hE ⊢
  have hA : ∀ q : Nat, s.heap.size ≤ q → A q := fun q h => by rw [← hAe]; exact Or.inr h
  have hS : va_S A s.heap s.heap [] := va_S.rf
  have hl := lv_entry ([.ref (a 0), .int x0]) (n := 2) (Nat.le_of_ble_eq_true rfl)
  rw [lg_entry_eq]
  generalize (lg_sl ([.ref (a 0), .int x0]) ++ List.replicate (2 - (lg_sl ([.ref (a 0), .int x0])).length) Slot.unset).toArray = ls at hl ⊢
  have hl : lv_has ls 2 [(0, .ref (a 0)), (1, .int x0)] := hl
  generalize hQ : MQ below (va_Qi (fun r (_ : Unit) => r = rv) (kb_B D A (w_MO dA a none q1 g2 g3 g4 g5 (wa 0) g7 g8 g9 g10 g11 g12 g13 g14 g15 g16 g17 g18 u0 ++ (w_W dA wa y_w))) A) ([.ref (a 0), .int x0] : List Value).toArray s 0 0 A = Q
  show W p l e ({ frames := 1, cells := 0, slots := 0, locals := 21 } : Room) s m ([.ref (a 0), .int x0] : List Value).toArray below meth c s.heap [] 0 0 Q (F0 m 0 ls [])
  have RET : ∀ (r2 : Int32) (w0 : MOT) (H : Heap) (locs : List Loc) (ls : Array Slot) (pc : Nat), some (r2, w0) = some (rv, u0) → va_P D vwCl (w_MO dA a none q1 g2 g3 g4 g5 (wa 0) g7 g8 g9 g10 g11 g12 g13 g14 g15 g16 g17 g18 w0 ++ (w_W dA wa y_w)) H → va_D A (w_MO dA a none q1 g2 g3 g4 g5 (wa 0) g7 g8 g9 g10 g11 g12 g13 g14 g15 g16 g17 g18 w0 ++ (w_W dA wa y_w)) → va_S A s.heap H locs → decode cX12_shunned pc = .ok (.ireturn, 1) → W p l e ({ frames := 1, cells := 0, slots := 0, locals := 21 } : Room) s m ([.ref (a 0), .int x0] : List Value).toArray below meth c H locs 0 0 Q (F0 m pc ls [.int r2]) := by
    intro r2 w0 H locs ls pc hq hP hD hS hd
    cases hq
    rw [← hQ]
    exact W.iret hx hb hr (fun t ht hW => ⟨⟨_, (), rfl, rfl, by rw [ht]; exact hP, hD⟩, hS.F ht⟩) hS.2.2 hd
  have B_5 : ∀ (v1 : Int32) (z0 : MOT) (H : Heap) (locs : List Loc) (ls : Array Slot), f_X12_shunned_n_b5 y_w v1 z0 = some (rv, u0) → va_P D vwCl (w_MO dA a none q1 g2 g3 g4 g5 (wa 0) g7 g8 g9 g10 g11 g12 g13 g14 g15 g16 g17 g18 z0 ++ (w_W dA wa y_w)) H → va_D A (w_MO dA a none q1 g2 g3 g4 g5 (wa 0) g7 g8 g9 g10 g11 g12 g13 g14 g15 g16 g17 g18 z0 ++ (w_W dA wa y_w)) → va_S A s.heap H locs → lv_has ls 2 [(0, .ref (a 0)), (1, .int v1)] → W p l e ({ frames := 1, cells := 0, slots := 0, locals := 21 } : Room) s m ([.ref (a 0), .int x0] : List Value).toArray below meth c H locs 0 0 Q (F0 m 5 ls []) := by
    intro v1 z0 H locs ls hf hP hD hS hl
    rw [f_X12_shunned_n_b5] at hf
    refine lv_aload_n hx hb dX12_shunned_5 rfl (lv_at hl 0 rfl) ?_
    refine lv_iload_n hx hb dX12_shunned_6 rfl (lv_at hl 1 rfl) ?_
    obtain ⟨r1, hc1, hf⟩ := kb_bind hf
    refine kb_ci (ws2 := (w_MO dA a none q1 g2 g3 g4 g5 (wa 0) g7 g8 g9 g10 g11 g12 g13 g14 g15 g16 g17 g18 z0 ++ (w_W dA wa y_w))) (kb_rV (n := 1) (As := [.int v1]) (rest := []) hx hb hml hown hK (c_X12_isRider_n l D dA H.size a q1 g2 g3 g4 g5 (wa 0) g7 g8 g9 g10 g11 g12 g13 g14 g15 g16 g17 g18 z0 v1 r1 hc1) ⟨ww_8_5, ww_8_2, ww_8_4, ws_95, ww_1_12, rfl, by decide, by decide⟩ rfl rfl (by decide +kernel) ⟨Nat.le_of_ble_eq_true rfl, Nat.le_of_ble_eq_true rfl⟩ hP hD hS hA hE [0] rfl (by decide) 0 rfl rfl rfl hl.1 rfl (Nat.le_of_ble_eq_true rfl) dX12_shunned_7 ⟨Nat.le_of_ble_eq_true rfl, Nat.le_of_ble_eq_true rfl⟩) hP hD hS hA [0] [1] [1, 0] rfl rfl (by decide) (by decide) rfl (by decide) (fun H locs hP hD hS => ?_)
    refine lv_if_ne (tgt := 19) hx hb dX12_shunned_10 (by decide) (fun c_2 => ?_) (fun c_2 => ?_)
    · rw [if_neg c_2] at hf
      refine lv_aload_n hx hb dX12_shunned_19 rfl (lv_at hl 0 rfl) ?_
      refine va_get (D := D) (ci := 12) (v := .ref (wa 0)) (C := RX12) (T := TX12) (N := 35) hx hb hts kb_inX12 hown hK.1 hP 0 rfl rfl 19 (by decide) (hK.2.w ww_5_219 rfl _) (fun _ h9 => h9) rfl dX12_shunned_20 ?_
      refine lv_bipush (v := (16 : Int32)) hx hb dX12_shunned_23 (by decide) ?_
      refine lv_iload_n hx hb dX12_shunned_25 rfl (lv_at hl 1 rfl) ?_
      refine lv_iadd hx hb dX12_shunned_26 ?_
      obtain ⟨h_3, hf⟩ := kb_if hf
      refine va_iald (D := D) hx hb hK.1 hP 1 0 rfl rfl h_3 dX12_shunned_27 ?_
      refine lv_if_ne (tgt := 40) hx hb dX12_shunned_28 (by decide) (fun c_4 => ?_) (fun c_4 => ?_)
      · rw [if_neg c_4] at hf
        refine lv_aload_n hx hb dX12_shunned_40 rfl (lv_at hl 0 rfl) ?_
        refine lv_aload_n hx hb dX12_shunned_41 rfl (lv_at hl 0 rfl) ?_
        refine lv_iload_n hx hb dX12_shunned_42 rfl (lv_at hl 1 rfl) ?_
        obtain ⟨r5, hc5, hf⟩ := kb_bind hf
        refine kb_ci (ws2 := (w_MO dA a none q1 g2 g3 g4 g5 (wa 0) g7 g8 g9 g10 g11 g12 g13 g14 g15 g16 g17 g18 z0 ++ (w_W dA wa y_w))) (kb_rV (n := 1) (As := [.int v1]) (rest := [.ref (a 0)]) hx hb hml hown hK (c_X12_shunnedNow l D dA H.size a wa none q1 g2 g3 g4 g5 g7 g8 g9 g10 g11 g12 g13 g14 g15 g16 g17 g18 z0 y_w v1 r5 hc5) ⟨ww_8_37, ww_8_34, ww_8_36, ws_97, ww_1_12, rfl, by decide, by decide⟩ rfl rfl (by decide +kernel) ⟨Nat.le_of_ble_eq_true rfl, Nat.le_of_ble_eq_true rfl⟩ hP hD hS hA hE [0, 1] rfl (by decide) 0 rfl rfl rfl hl.1 rfl (Nat.le_of_ble_eq_true rfl) dX12_shunned_43 ⟨Nat.le_of_ble_eq_true rfl, Nat.le_of_ble_eq_true rfl⟩) hP hD hS hA [0, 1] [] [0, 1] rfl rfl (by decide) (by decide) rfl (by decide) (fun H locs hP hD hS => ?_)
        obtain ⟨r6, hc6, hf⟩ := kb_bind hf
        refine kb_ci (ws2 := (w_MO dA a none q1 g2 g3 g4 g5 (wa 0) g7 g8 g9 g10 g11 g12 g13 g14 g15 g16 g17 g18 r6.2 ++ (w_W dA wa y_w))) (kb_rV (n := 1) (As := [.int r5]) (rest := []) hx hb hml hown hK (c_X12_done l D dA H.size a none q1 g2 g3 g4 g5 (wa 0) g7 g8 g9 g10 g11 g12 g13 g14 g15 g16 g17 g18 z0 r5 r6.1 r6.2 hc6) ⟨ww_7_100, ww_7_97, ww_7_99, ws_71, ww_1_12, rfl, by decide, by decide⟩ rfl rfl (by decide +kernel) ⟨Nat.le_of_ble_eq_true rfl, Nat.le_of_ble_eq_true rfl⟩ hP hD hS hA hE [0] rfl (by decide) 0 rfl rfl rfl hl.1 rfl (Nat.le_of_ble_eq_true rfl) dX12_shunned_46 ⟨Nat.le_of_ble_eq_true rfl, Nat.le_of_ble_eq_true rfl⟩) hP hD hS hA [0] [1] [1, 0] rfl rfl (by decide) (by decide) rfl (by decide) (fun H locs hP hD hS => ?_)
        exact RET _ _ H _ ls 49 hf hP hD hS dX12_shunned_49
      · rw [if_pos c_4] at hf
        refine lv_aload_n hx hb dX12_shunned_31 rfl (lv_at hl 0 rfl) ?_
        refine lv_bipush (v := (6 : Int32)) hx hb dX12_shunned_32 (by decide) ?_
        obtain ⟨r7, hc7, hf⟩ := kb_bind hf
        refine kb_ci (ws2 := (w_MO dA a none q1 g2 g3 g4 g5 (wa 0) g7 g8 g9 g10 g11 g12 g13 g14 g15 g16 g17 g18 r7.2 ++ (w_W dA wa y_w))) (kb_rV (n := 1) (As := [.int (6 : Int32)]) (rest := []) hx hb hml hown hK (c_X12_refused l D dA H.size a none q1 g2 g3 g4 g5 (wa 0) g7 g8 g9 g10 g11 g12 g13 g14 g15 g16 g17 g18 z0 (6 : Int32) r7.1 r7.2 hc7) ⟨ww_6_82, ww_6_79, ww_6_81, ws_46, ww_1_12, rfl, by decide, by decide⟩ rfl rfl (by decide +kernel) ⟨Nat.le_of_ble_eq_true rfl, Nat.le_of_ble_eq_true rfl⟩ hP hD hS hA hE [0] rfl (by decide) 0 rfl rfl rfl hl.1 rfl (Nat.le_of_ble_eq_true rfl) dX12_shunned_34 ⟨Nat.le_of_ble_eq_true rfl, Nat.le_of_ble_eq_true rfl⟩) hP hD hS hA [0] [1] [1, 0] rfl rfl (by decide) (by decide) rfl (by decide) (fun H locs hP hD hS => ?_)
        refine lv_goto (tgt := 49) hx hb dX12_shunned_37 (by decide) ?_
        exact RET _ _ H _ ls 49 hf hP hD hS dX12_shunned_49
    · rw [if_pos c_2] at hf
      refine lv_aload_n hx hb dX12_shunned_13 rfl (lv_at hl 0 rfl) ?_
      refine lv_iconst (v := (1 : Int32)) hx hb dX12_shunned_14 (by decide) ?_
      obtain ⟨r8, hc8, hf⟩ := kb_bind hf
      refine kb_ci (ws2 := (w_MO dA a none q1 g2 g3 g4 g5 (wa 0) g7 g8 g9 g10 g11 g12 g13 g14 g15 g16 g17 g18 r8.2 ++ (w_W dA wa y_w))) (kb_rV (n := 1) (As := [.int (1 : Int32)]) (rest := []) hx hb hml hown hK (c_X12_refused l D dA H.size a none q1 g2 g3 g4 g5 (wa 0) g7 g8 g9 g10 g11 g12 g13 g14 g15 g16 g17 g18 z0 (1 : Int32) r8.1 r8.2 hc8) ⟨ww_6_82, ww_6_79, ww_6_81, ws_46, ww_1_12, rfl, by decide, by decide⟩ rfl rfl (by decide +kernel) ⟨Nat.le_of_ble_eq_true rfl, Nat.le_of_ble_eq_true rfl⟩ hP hD hS hA hE [0] rfl (by decide) 0 rfl rfl rfl hl.1 rfl (Nat.le_of_ble_eq_true rfl) dX12_shunned_15 ⟨Nat.le_of_ble_eq_true rfl, Nat.le_of_ble_eq_true rfl⟩) hP hD hS hA [0] [1] [1, 0] rfl rfl (by decide) (by decide) rfl (by decide) (fun H locs hP hD hS => ?_)
      exact RET _ _ H _ ls 18 hf hP hD hS dX12_shunned_18
  have E0 : ∀ (H : Heap) (locs : List Loc), va_P D vwCl (w_MO dA a none q1 g2 g3 g4 g5 (wa 0) g7 g8 g9 g10 g11 g12 g13 g14 g15 g16 g17 g18 mo ++ (w_W dA wa y_w)) H → va_D A (w_MO dA a none q1 g2 g3 g4 g5 (wa 0) g7 g8 g9 g10 g11 g12 g13 g14 g15 g16 g17 g18 mo ++ (w_W dA wa y_w)) → va_S A s.heap H locs → W p l e ({ frames := 1, cells := 0, slots := 0, locals := 21 } : Room) s m ([.ref (a 0), .int x0] : List Value).toArray below meth c H locs 0 0 Q (F0 m 0 ls []) := by
    intro H locs hP hD hS
    rw [f_X12_shunned_n] at hf
    refine lv_aload_n hx hb dX12_shunned_0 rfl (lv_at hl 0 rfl) ?_
    refine lv_iconst (v := (0 : Int32)) hx hb dX12_shunned_1 (by decide) ?_
    refine va_put (D := D) (ci := 12) (v := .int (0 : Int32)) (ty := .int) (C := RX12) (T := TX12) (N := 35) hx hb hts kb_inX12 tyX12 tyX12_ok nmX12 hown hK.1 hP hD hS 0 rfl rfl 0 (by decide) (hK.2.w ww_5_200 rfl _) (fun _ h9 => h9) rfl (by decide +kernel) rfl rfl (Nat.le_of_ble_eq_true rfl) dX12_shunned_2 (fun H locs hP hD hS => ?_)
    have hP : va_P D vwCl (w_MO dA a none q1 g2 g3 g4 g5 (wa 0) g7 g8 g9 g10 g11 g12 g13 g14 g15 g16 g17 g18 (mo_set_thrown mo (0 : Int32)) ++ (w_W dA wa y_w)) H := hP
    have hD : va_D A (w_MO dA a none q1 g2 g3 g4 g5 (wa 0) g7 g8 g9 g10 g11 g12 g13 g14 g15 g16 g17 g18 (mo_set_thrown mo (0 : Int32)) ++ (w_W dA wa y_w)) := hD
    exact B_5 _ _ _ _ _ hf hP hD hS (lv_sub hl [0, 1] rfl)
  exact E0 _ _ hP hD hS

noncomputable def f_X12_given_n_b5 (z0 : MOT) : Option (Int32 × MOT) := (f_X12_refused z0 (1 : Int32)).bind fun r1 => some (r1.1, r1.2)
noncomputable def f_X12_given_n (mo : MOT) : Option (Int32 × MOT) := f_X12_given_n_b5 (mo_set_thrown mo (0 : Int32))
set_option maxHeartbeats 4000000 in
set_option maxRecDepth 100000 in
theorem c_X12_given_n (l : Launch) (D : va_G) (dA : Nat → ClassId) (sz : Nat) (a : Nat → Nat) (q1 : Option Nat) (g2 : Nat) (g3 : Nat) (g4 : Nat) (g5 : Nat) (g6 : Nat) (g7 : Nat) (g8 : Nat) (g9 : Nat) (g10 : Nat) (g11 : Nat) (g12 : Nat) (g13 : Nat) (g14 : Nat) (g15 : Nat) (g16 : Nat) (g17 : Nat) (g18 : Nat) (mo : MOT) (rv : Int32) (u0 : MOT) (hf : f_X12_given_n mo = some (rv, u0)) : kb_Mi l yX12_given cX12_given 1 (some .int) ({ frames := 1, cells := 0, slots := 0, locals := 21 } : Room) D dA [.ref (a 0)] sz (w_MO dA a none q1 g2 g3 g4 g5 g6 g7 g8 g9 g10 g11 g12 g13 g14 g15 g16 g17 g18 mo) 0 0 rv (w_MO dA a none q1 g2 g3 g4 g5 g6 g7 g8 g9 g10 g11 g12 g13 g14 g15 g16 g17 g18 u0) := by
  refine Met.ofW (cc := cX12_given) (maxL := 1) (ret := (some .int)) (by decide) rfl ?_
  intro p e s m args below meth c s₁ B hml hv
  obtain ⟨rfl, hsz, hP, hK, hD0, hE⟩ := hv
  have hx := B.exec
  have hb := B.bytes
  have hr := B.returns
  have hown : s.vm.findClass RX12 = some m.cls := findClass_of_methodNamed B.named
  have hlocks := B.notSynchronized
  have hts : ∀ w ∈ kb_gw, w.before ([.ref (a 0)] : List Value).toArray s = true := fun w hw => hK.2.1 w hw _
  subst hsz
  have hD := hD0.self (sz := s.heap.size)
  generalize hAe : va_A (w_MO dA a none q1 g2 g3 g4 g5 g6 g7 g8 g9 g10 g11 g12 g13 g14 g15 g16 g17 g18 mo) s.heap.size = A at hD hE ⊢
  have hA : ∀ q : Nat, s.heap.size ≤ q → A q := fun q h => by rw [← hAe]; exact Or.inr h
  have hS : va_S A s.heap s.heap [] := va_S.rf
  have hl := lv_entry ([.ref (a 0)]) (n := 1) (Nat.le_of_ble_eq_true rfl)
  rw [lg_entry_eq]
  generalize (lg_sl ([.ref (a 0)]) ++ List.replicate (1 - (lg_sl ([.ref (a 0)])).length) Slot.unset).toArray = ls at hl ⊢
  have hl : lv_has ls 1 [(0, .ref (a 0))] := hl
  generalize hQ : MQ below (va_Qi (fun r (_ : Unit) => r = rv) (kb_B D A (w_MO dA a none q1 g2 g3 g4 g5 g6 g7 g8 g9 g10 g11 g12 g13 g14 g15 g16 g17 g18 u0)) A) ([.ref (a 0)] : List Value).toArray s 0 0 A = Q
  show W p l e ({ frames := 1, cells := 0, slots := 0, locals := 21 } : Room) s m ([.ref (a 0)] : List Value).toArray below meth c s.heap [] 0 0 Q (F0 m 0 ls [])
  have RET : ∀ (r2 : Int32) (w0 : MOT) (H : Heap) (locs : List Loc) (ls : Array Slot) (pc : Nat), some (r2, w0) = some (rv, u0) → va_P D vwCl (w_MO dA a none q1 g2 g3 g4 g5 g6 g7 g8 g9 g10 g11 g12 g13 g14 g15 g16 g17 g18 w0) H → va_D A (w_MO dA a none q1 g2 g3 g4 g5 g6 g7 g8 g9 g10 g11 g12 g13 g14 g15 g16 g17 g18 w0) → va_S A s.heap H locs → decode cX12_given pc = .ok (.ireturn, 1) → W p l e ({ frames := 1, cells := 0, slots := 0, locals := 21 } : Room) s m ([.ref (a 0)] : List Value).toArray below meth c H locs 0 0 Q (F0 m pc ls [.int r2]) := by
    intro r2 w0 H locs ls pc hq hP hD hS hd
    cases hq
    rw [← hQ]
    exact W.iret hx hb hr (fun t ht hW => ⟨⟨_, (), rfl, rfl, by rw [ht]; exact hP, hD⟩, hS.F ht⟩) hS.2.2 hd
  have B_5 : ∀ (z0 : MOT) (H : Heap) (locs : List Loc) (ls : Array Slot), f_X12_given_n_b5 z0 = some (rv, u0) → va_P D vwCl (w_MO dA a none q1 g2 g3 g4 g5 g6 g7 g8 g9 g10 g11 g12 g13 g14 g15 g16 g17 g18 z0) H → va_D A (w_MO dA a none q1 g2 g3 g4 g5 g6 g7 g8 g9 g10 g11 g12 g13 g14 g15 g16 g17 g18 z0) → va_S A s.heap H locs → lv_has ls 1 [(0, .ref (a 0))] → W p l e ({ frames := 1, cells := 0, slots := 0, locals := 21 } : Room) s m ([.ref (a 0)] : List Value).toArray below meth c H locs 0 0 Q (F0 m 5 ls []) := by
    intro z0 H locs ls hf hP hD hS hl
    rw [f_X12_given_n_b5] at hf
    refine lv_aload_n hx hb dX12_given_5 rfl (lv_at hl 0 rfl) ?_
    refine va_get (D := D) (ci := 12) (v := .null) (C := RX12) (T := TX12) (N := 35) hx hb hts kb_inX12 hown hK.1 hP 0 rfl rfl 3 (by decide) (hK.2.w ww_5_203 rfl _) (fun _ h9 => h9) rfl dX12_given_6 ?_
    refine lv_ifnonnullN hx hb dX12_given_9 ?_
    refine lv_aload_n hx hb dX12_given_12 rfl (lv_at hl 0 rfl) ?_
    refine lv_iconst (v := (1 : Int32)) hx hb dX12_given_13 (by decide) ?_
    obtain ⟨r1, hc1, hf⟩ := kb_bind hf
    refine kb_ci (ws2 := (w_MO dA a none q1 g2 g3 g4 g5 g6 g7 g8 g9 g10 g11 g12 g13 g14 g15 g16 g17 g18 r1.2)) (kb_rV (n := 1) (As := [.int (1 : Int32)]) (rest := []) hx hb hml hown hK (c_X12_refused l D dA H.size a none q1 g2 g3 g4 g5 g6 g7 g8 g9 g10 g11 g12 g13 g14 g15 g16 g17 g18 z0 (1 : Int32) r1.1 r1.2 hc1) ⟨ww_6_82, ww_6_79, ww_6_81, ws_46, ww_1_12, rfl, by decide, by decide⟩ rfl rfl (by decide +kernel) ⟨Nat.le_of_ble_eq_true rfl, Nat.le_of_ble_eq_true rfl⟩ hP hD hS hA hE [0] rfl (by decide) 0 rfl rfl rfl hl.1 rfl (Nat.le_of_ble_eq_true rfl) dX12_given_14 ⟨Nat.le_of_ble_eq_true rfl, Nat.le_of_ble_eq_true rfl⟩) hP hD hS hA [0] [] [0] rfl rfl (by decide) (by decide) rfl (by decide) (fun H locs hP hD hS => ?_)
    refine lv_goto (tgt := 31) hx hb dX12_given_17 (by decide) ?_
    exact RET _ _ H _ ls 31 hf hP hD hS dX12_given_31
  have E0 : ∀ (H : Heap) (locs : List Loc), va_P D vwCl (w_MO dA a none q1 g2 g3 g4 g5 g6 g7 g8 g9 g10 g11 g12 g13 g14 g15 g16 g17 g18 mo) H → va_D A (w_MO dA a none q1 g2 g3 g4 g5 g6 g7 g8 g9 g10 g11 g12 g13 g14 g15 g16 g17 g18 mo) → va_S A s.heap H locs → W p l e ({ frames := 1, cells := 0, slots := 0, locals := 21 } : Room) s m ([.ref (a 0)] : List Value).toArray below meth c H locs 0 0 Q (F0 m 0 ls []) := by
    intro H locs hP hD hS
    rw [f_X12_given_n] at hf
    refine lv_aload_n hx hb dX12_given_0 rfl (lv_at hl 0 rfl) ?_
    refine lv_iconst (v := (0 : Int32)) hx hb dX12_given_1 (by decide) ?_
    refine va_put (D := D) (ci := 12) (v := .int (0 : Int32)) (ty := .int) (C := RX12) (T := TX12) (N := 35) hx hb hts kb_inX12 tyX12 tyX12_ok nmX12 hown hK.1 hP hD hS 0 rfl rfl 0 (by decide) (hK.2.w ww_5_200 rfl _) (fun _ h9 => h9) rfl (by decide +kernel) rfl rfl (Nat.le_of_ble_eq_true rfl) dX12_given_2 (fun H locs hP hD hS => ?_)
    have hP : va_P D vwCl (w_MO dA a none q1 g2 g3 g4 g5 g6 g7 g8 g9 g10 g11 g12 g13 g14 g15 g16 g17 g18 (mo_set_thrown mo (0 : Int32))) H := hP
    have hD : va_D A (w_MO dA a none q1 g2 g3 g4 g5 g6 g7 g8 g9 g10 g11 g12 g13 g14 g15 g16 g17 g18 (mo_set_thrown mo (0 : Int32))) := hD
    exact B_5 _ _ _ _ hf hP hD hS (lv_sub hl [0] rfl)
  exact E0 _ _ hP hD hS

noncomputable def f_X12_sorted_n_b5 (z0 : MOT) : Option (Int32 × MOT) := (f_X12_lost z0 (1 : Int32)).bind fun r1 => some (r1.1, r1.2)
noncomputable def f_X12_sorted_n (mo : MOT) : Option (Int32 × MOT) := f_X12_sorted_n_b5 (mo_set_thrown mo (0 : Int32))
set_option maxHeartbeats 4000000 in
set_option maxRecDepth 100000 in
theorem c_X12_sorted_n (l : Launch) (D : va_G) (dA : Nat → ClassId) (sz : Nat) (a : Nat → Nat) (q1 : Option Nat) (g2 : Nat) (g3 : Nat) (g4 : Nat) (g5 : Nat) (g6 : Nat) (g7 : Nat) (g8 : Nat) (g9 : Nat) (g10 : Nat) (g11 : Nat) (g12 : Nat) (g13 : Nat) (g14 : Nat) (g15 : Nat) (g16 : Nat) (g17 : Nat) (g18 : Nat) (mo : MOT) (rv : Int32) (u0 : MOT) (hf : f_X12_sorted_n mo = some (rv, u0)) : kb_Mi l yX12_sorted cX12_sorted 5 (some .int) ({ frames := 2, cells := 0, slots := 0, locals := 42 } : Room) D dA [.ref (a 0)] sz (w_MO dA a none q1 g2 g3 g4 g5 g6 g7 g8 g9 g10 g11 g12 g13 g14 g15 g16 g17 g18 mo) 0 0 rv (w_MO dA a none q1 g2 g3 g4 g5 g6 g7 g8 g9 g10 g11 g12 g13 g14 g15 g16 g17 g18 u0) := by
  refine Met.ofW (cc := cX12_sorted) (maxL := 5) (ret := (some .int)) (by decide) rfl ?_
  intro p e s m args below meth c s₁ B hml hv
  obtain ⟨rfl, hsz, hP, hK, hD0, hE⟩ := hv
  have hx := B.exec
  have hb := B.bytes
  have hr := B.returns
  have hown : s.vm.findClass RX12 = some m.cls := findClass_of_methodNamed B.named
  have hlocks := B.notSynchronized
  have hts : ∀ w ∈ kb_gw, w.before ([.ref (a 0)] : List Value).toArray s = true := fun w hw => hK.2.1 w hw _
  subst hsz
  have hD := hD0.self (sz := s.heap.size)
  generalize hAe : va_A (w_MO dA a none q1 g2 g3 g4 g5 g6 g7 g8 g9 g10 g11 g12 g13 g14 g15 g16 g17 g18 mo) s.heap.size = A at hD hE ⊢
  have hA : ∀ q : Nat, s.heap.size ≤ q → A q := fun q h => by rw [← hAe]; exact Or.inr h
  have hS : va_S A s.heap s.heap [] := va_S.rf
  have hl := lv_entry ([.ref (a 0)]) (n := 5) (Nat.le_of_ble_eq_true rfl)
  rw [lg_entry_eq]
  generalize (lg_sl ([.ref (a 0)]) ++ List.replicate (5 - (lg_sl ([.ref (a 0)])).length) Slot.unset).toArray = ls at hl ⊢
  have hl : lv_has ls 5 [(0, .ref (a 0))] := hl
  generalize hQ : MQ below (va_Qi (fun r (_ : Unit) => r = rv) (kb_B D A (w_MO dA a none q1 g2 g3 g4 g5 g6 g7 g8 g9 g10 g11 g12 g13 g14 g15 g16 g17 g18 u0)) A) ([.ref (a 0)] : List Value).toArray s 0 0 A = Q
  show W p l e ({ frames := 2, cells := 0, slots := 0, locals := 42 } : Room) s m ([.ref (a 0)] : List Value).toArray below meth c s.heap [] 0 0 Q (F0 m 0 ls [])
  have RET : ∀ (r2 : Int32) (w0 : MOT) (H : Heap) (locs : List Loc) (ls : Array Slot) (pc : Nat), some (r2, w0) = some (rv, u0) → va_P D vwCl (w_MO dA a none q1 g2 g3 g4 g5 g6 g7 g8 g9 g10 g11 g12 g13 g14 g15 g16 g17 g18 w0) H → va_D A (w_MO dA a none q1 g2 g3 g4 g5 g6 g7 g8 g9 g10 g11 g12 g13 g14 g15 g16 g17 g18 w0) → va_S A s.heap H locs → decode cX12_sorted pc = .ok (.ireturn, 1) → W p l e ({ frames := 2, cells := 0, slots := 0, locals := 42 } : Room) s m ([.ref (a 0)] : List Value).toArray below meth c H locs 0 0 Q (F0 m pc ls [.int r2]) := by
    intro r2 w0 H locs ls pc hq hP hD hS hd
    cases hq
    rw [← hQ]
    exact W.iret hx hb hr (fun t ht hW => ⟨⟨_, (), rfl, rfl, by rw [ht]; exact hP, hD⟩, hS.F ht⟩) hS.2.2 hd
  have B_5 : ∀ (z0 : MOT) (H : Heap) (locs : List Loc) (ls : Array Slot), f_X12_sorted_n_b5 z0 = some (rv, u0) → va_P D vwCl (w_MO dA a none q1 g2 g3 g4 g5 g6 g7 g8 g9 g10 g11 g12 g13 g14 g15 g16 g17 g18 z0) H → va_D A (w_MO dA a none q1 g2 g3 g4 g5 g6 g7 g8 g9 g10 g11 g12 g13 g14 g15 g16 g17 g18 z0) → va_S A s.heap H locs → lv_has ls 5 [(0, .ref (a 0))] → W p l e ({ frames := 2, cells := 0, slots := 0, locals := 42 } : Room) s m ([.ref (a 0)] : List Value).toArray below meth c H locs 0 0 Q (F0 m 5 ls []) := by
    intro z0 H locs ls hf hP hD hS hl
    rw [f_X12_sorted_n_b5] at hf
    refine lv_aload_n hx hb dX12_sorted_5 rfl (lv_at hl 0 rfl) ?_
    refine va_get (D := D) (ci := 12) (v := .null) (C := RX12) (T := TX12) (N := 35) hx hb hts kb_inX12 hown hK.1 hP 0 rfl rfl 3 (by decide) (hK.2.w ww_5_203 rfl _) (fun _ h9 => h9) rfl dX12_sorted_6 ?_
    refine lv_ifnonnullN hx hb dX12_sorted_9 ?_
    refine lv_aload_n hx hb dX12_sorted_12 rfl (lv_at hl 0 rfl) ?_
    refine lv_iconst (v := (1 : Int32)) hx hb dX12_sorted_13 (by decide) ?_
    obtain ⟨r1, hc1, hf⟩ := kb_bind hf
    refine kb_ci (ws2 := (w_MO dA a none q1 g2 g3 g4 g5 g6 g7 g8 g9 g10 g11 g12 g13 g14 g15 g16 g17 g18 r1.2)) (kb_rV (n := 1) (As := [.int (1 : Int32)]) (rest := []) hx hb hml hown hK (c_X12_lost l D dA H.size a none q1 g2 g3 g4 g5 g6 g7 g8 g9 g10 g11 g12 g13 g14 g15 g16 g17 g18 z0 (1 : Int32) r1.1 r1.2 hc1) ⟨ww_8_49, ww_8_46, ww_8_48, ws_98, ww_1_12, rfl, by decide, by decide⟩ rfl rfl (by decide +kernel) ⟨Nat.le_of_ble_eq_true rfl, Nat.le_of_ble_eq_true rfl⟩ hP hD hS hA hE [0] rfl (by decide) 0 rfl rfl rfl hl.1 rfl (Nat.le_of_ble_eq_true rfl) dX12_sorted_14 ⟨Nat.le_of_ble_eq_true rfl, Nat.le_of_ble_eq_true rfl⟩) hP hD hS hA [0] [] [0] rfl rfl (by decide) (by decide) rfl (by decide) (fun H locs hP hD hS => ?_)
    exact RET _ _ H _ ls 17 hf hP hD hS dX12_sorted_17
  have E0 : ∀ (H : Heap) (locs : List Loc), va_P D vwCl (w_MO dA a none q1 g2 g3 g4 g5 g6 g7 g8 g9 g10 g11 g12 g13 g14 g15 g16 g17 g18 mo) H → va_D A (w_MO dA a none q1 g2 g3 g4 g5 g6 g7 g8 g9 g10 g11 g12 g13 g14 g15 g16 g17 g18 mo) → va_S A s.heap H locs → W p l e ({ frames := 2, cells := 0, slots := 0, locals := 42 } : Room) s m ([.ref (a 0)] : List Value).toArray below meth c H locs 0 0 Q (F0 m 0 ls []) := by
    intro H locs hP hD hS
    rw [f_X12_sorted_n] at hf
    refine lv_aload_n hx hb dX12_sorted_0 rfl (lv_at hl 0 rfl) ?_
    refine lv_iconst (v := (0 : Int32)) hx hb dX12_sorted_1 (by decide) ?_
    refine va_put (D := D) (ci := 12) (v := .int (0 : Int32)) (ty := .int) (C := RX12) (T := TX12) (N := 35) hx hb hts kb_inX12 tyX12 tyX12_ok nmX12 hown hK.1 hP hD hS 0 rfl rfl 0 (by decide) (hK.2.w ww_5_200 rfl _) (fun _ h9 => h9) rfl (by decide +kernel) rfl rfl (Nat.le_of_ble_eq_true rfl) dX12_sorted_2 (fun H locs hP hD hS => ?_)
    have hP : va_P D vwCl (w_MO dA a none q1 g2 g3 g4 g5 g6 g7 g8 g9 g10 g11 g12 g13 g14 g15 g16 g17 g18 (mo_set_thrown mo (0 : Int32))) H := hP
    have hD : va_D A (w_MO dA a none q1 g2 g3 g4 g5 g6 g7 g8 g9 g10 g11 g12 g13 g14 g15 g16 g17 g18 (mo_set_thrown mo (0 : Int32))) := hD
    exact B_5 _ _ _ _ hf hP hD hS (lv_sub hl [0] rfl)
  exact E0 _ _ hP hD hS

noncomputable def f_X12_mark_n_b5 (z0 : MOT) : Option (Int32 × MOT) := (f_X12_refused z0 (1 : Int32)).bind fun r1 => some (r1.1, r1.2)
noncomputable def f_X12_mark_n (mo : MOT) : Option (Int32 × MOT) := f_X12_mark_n_b5 (mo_set_thrown mo (0 : Int32))
set_option maxHeartbeats 4000000 in
set_option maxRecDepth 100000 in
theorem c_X12_mark_n (l : Launch) (D : va_G) (dA : Nat → ClassId) (sz : Nat) (a : Nat → Nat) (q1 : Option Nat) (g2 : Nat) (g3 : Nat) (g4 : Nat) (g5 : Nat) (g6 : Nat) (g7 : Nat) (g8 : Nat) (g9 : Nat) (g10 : Nat) (g11 : Nat) (g12 : Nat) (g13 : Nat) (g14 : Nat) (g15 : Nat) (g16 : Nat) (g17 : Nat) (g18 : Nat) (mo : MOT) (rv : Int32) (u0 : MOT) (hf : f_X12_mark_n mo = some (rv, u0)) : kb_Mi l yX12_mark cX12_mark 2 (some .int) ({ frames := 1, cells := 0, slots := 0, locals := 21 } : Room) D dA [.ref (a 0)] sz (w_MO dA a none q1 g2 g3 g4 g5 g6 g7 g8 g9 g10 g11 g12 g13 g14 g15 g16 g17 g18 mo) 0 0 rv (w_MO dA a none q1 g2 g3 g4 g5 g6 g7 g8 g9 g10 g11 g12 g13 g14 g15 g16 g17 g18 u0) := by
  refine Met.ofW (cc := cX12_mark) (maxL := 2) (ret := (some .int)) (by decide) rfl ?_
  intro p e s m args below meth c s₁ B hml hv
  obtain ⟨rfl, hsz, hP, hK, hD0, hE⟩ := hv
  have hx := B.exec
  have hb := B.bytes
  have hr := B.returns
  have hown : s.vm.findClass RX12 = some m.cls := findClass_of_methodNamed B.named
  have hlocks := B.notSynchronized
  have hts : ∀ w ∈ kb_gw, w.before ([.ref (a 0)] : List Value).toArray s = true := fun w hw => hK.2.1 w hw _
  subst hsz
  have hD := hD0.self (sz := s.heap.size)
  generalize hAe : va_A (w_MO dA a none q1 g2 g3 g4 g5 g6 g7 g8 g9 g10 g11 g12 g13 g14 g15 g16 g17 g18 mo) s.heap.size = A at hD hE ⊢
  have hA : ∀ q : Nat, s.heap.size ≤ q → A q := fun q h => by rw [← hAe]; exact Or.inr h
  have hS : va_S A s.heap s.heap [] := va_S.rf
  have hl := lv_entry ([.ref (a 0)]) (n := 2) (Nat.le_of_ble_eq_true rfl)
  rw [lg_entry_eq]
  generalize (lg_sl ([.ref (a 0)]) ++ List.replicate (2 - (lg_sl ([.ref (a 0)])).length) Slot.unset).toArray = ls at hl ⊢
  have hl : lv_has ls 2 [(0, .ref (a 0))] := hl
  generalize hQ : MQ below (va_Qi (fun r (_ : Unit) => r = rv) (kb_B D A (w_MO dA a none q1 g2 g3 g4 g5 g6 g7 g8 g9 g10 g11 g12 g13 g14 g15 g16 g17 g18 u0)) A) ([.ref (a 0)] : List Value).toArray s 0 0 A = Q
  show W p l e ({ frames := 1, cells := 0, slots := 0, locals := 21 } : Room) s m ([.ref (a 0)] : List Value).toArray below meth c s.heap [] 0 0 Q (F0 m 0 ls [])
  have RET : ∀ (r2 : Int32) (w0 : MOT) (H : Heap) (locs : List Loc) (ls : Array Slot) (pc : Nat), some (r2, w0) = some (rv, u0) → va_P D vwCl (w_MO dA a none q1 g2 g3 g4 g5 g6 g7 g8 g9 g10 g11 g12 g13 g14 g15 g16 g17 g18 w0) H → va_D A (w_MO dA a none q1 g2 g3 g4 g5 g6 g7 g8 g9 g10 g11 g12 g13 g14 g15 g16 g17 g18 w0) → va_S A s.heap H locs → decode cX12_mark pc = .ok (.ireturn, 1) → W p l e ({ frames := 1, cells := 0, slots := 0, locals := 21 } : Room) s m ([.ref (a 0)] : List Value).toArray below meth c H locs 0 0 Q (F0 m pc ls [.int r2]) := by
    intro r2 w0 H locs ls pc hq hP hD hS hd
    cases hq
    rw [← hQ]
    exact W.iret hx hb hr (fun t ht hW => ⟨⟨_, (), rfl, rfl, by rw [ht]; exact hP, hD⟩, hS.F ht⟩) hS.2.2 hd
  have B_5 : ∀ (z0 : MOT) (H : Heap) (locs : List Loc) (ls : Array Slot), f_X12_mark_n_b5 z0 = some (rv, u0) → va_P D vwCl (w_MO dA a none q1 g2 g3 g4 g5 g6 g7 g8 g9 g10 g11 g12 g13 g14 g15 g16 g17 g18 z0) H → va_D A (w_MO dA a none q1 g2 g3 g4 g5 g6 g7 g8 g9 g10 g11 g12 g13 g14 g15 g16 g17 g18 z0) → va_S A s.heap H locs → lv_has ls 2 [(0, .ref (a 0))] → W p l e ({ frames := 1, cells := 0, slots := 0, locals := 21 } : Room) s m ([.ref (a 0)] : List Value).toArray below meth c H locs 0 0 Q (F0 m 5 ls []) := by
    intro z0 H locs ls hf hP hD hS hl
    rw [f_X12_mark_n_b5] at hf
    refine lv_aload_n hx hb dX12_mark_5 rfl (lv_at hl 0 rfl) ?_
    refine va_get (D := D) (ci := 12) (v := .null) (C := RX12) (T := TX12) (N := 35) hx hb hts kb_inX12 hown hK.1 hP 0 rfl rfl 3 (by decide) (hK.2.w ww_5_203 rfl _) (fun _ h9 => h9) rfl dX12_mark_6 ?_
    refine lv_ifnonnullN hx hb dX12_mark_9 ?_
    refine lv_aload_n hx hb dX12_mark_12 rfl (lv_at hl 0 rfl) ?_
    refine lv_iconst (v := (1 : Int32)) hx hb dX12_mark_13 (by decide) ?_
    obtain ⟨r1, hc1, hf⟩ := kb_bind hf
    refine kb_ci (ws2 := (w_MO dA a none q1 g2 g3 g4 g5 g6 g7 g8 g9 g10 g11 g12 g13 g14 g15 g16 g17 g18 r1.2)) (kb_rV (n := 1) (As := [.int (1 : Int32)]) (rest := []) hx hb hml hown hK (c_X12_refused l D dA H.size a none q1 g2 g3 g4 g5 g6 g7 g8 g9 g10 g11 g12 g13 g14 g15 g16 g17 g18 z0 (1 : Int32) r1.1 r1.2 hc1) ⟨ww_6_82, ww_6_79, ww_6_81, ws_46, ww_1_12, rfl, by decide, by decide⟩ rfl rfl (by decide +kernel) ⟨Nat.le_of_ble_eq_true rfl, Nat.le_of_ble_eq_true rfl⟩ hP hD hS hA hE [0] rfl (by decide) 0 rfl rfl rfl hl.1 rfl (Nat.le_of_ble_eq_true rfl) dX12_mark_14 ⟨Nat.le_of_ble_eq_true rfl, Nat.le_of_ble_eq_true rfl⟩) hP hD hS hA [0] [] [0] rfl rfl (by decide) (by decide) rfl (by decide) (fun H locs hP hD hS => ?_)
    exact RET _ _ H _ ls 17 hf hP hD hS dX12_mark_17
  have E0 : ∀ (H : Heap) (locs : List Loc), va_P D vwCl (w_MO dA a none q1 g2 g3 g4 g5 g6 g7 g8 g9 g10 g11 g12 g13 g14 g15 g16 g17 g18 mo) H → va_D A (w_MO dA a none q1 g2 g3 g4 g5 g6 g7 g8 g9 g10 g11 g12 g13 g14 g15 g16 g17 g18 mo) → va_S A s.heap H locs → W p l e ({ frames := 1, cells := 0, slots := 0, locals := 21 } : Room) s m ([.ref (a 0)] : List Value).toArray below meth c H locs 0 0 Q (F0 m 0 ls []) := by
    intro H locs hP hD hS
    rw [f_X12_mark_n] at hf
    refine lv_aload_n hx hb dX12_mark_0 rfl (lv_at hl 0 rfl) ?_
    refine lv_iconst (v := (0 : Int32)) hx hb dX12_mark_1 (by decide) ?_
    refine va_put (D := D) (ci := 12) (v := .int (0 : Int32)) (ty := .int) (C := RX12) (T := TX12) (N := 35) hx hb hts kb_inX12 tyX12 tyX12_ok nmX12 hown hK.1 hP hD hS 0 rfl rfl 0 (by decide) (hK.2.w ww_5_200 rfl _) (fun _ h9 => h9) rfl (by decide +kernel) rfl rfl (Nat.le_of_ble_eq_true rfl) dX12_mark_2 (fun H locs hP hD hS => ?_)
    have hP : va_P D vwCl (w_MO dA a none q1 g2 g3 g4 g5 g6 g7 g8 g9 g10 g11 g12 g13 g14 g15 g16 g17 g18 (mo_set_thrown mo (0 : Int32))) H := hP
    have hD : va_D A (w_MO dA a none q1 g2 g3 g4 g5 g6 g7 g8 g9 g10 g11 g12 g13 g14 g15 g16 g17 g18 (mo_set_thrown mo (0 : Int32))) := hD
    exact B_5 _ _ _ _ hf hP hD hS (lv_sub hl [0] rfl)
  exact E0 _ _ hP hD hS

noncomputable def f_X12_back_n_b24 (z0 : MOT) : Option (Int32 × MOT) := (f_X12_denied z0 (1 : Int32)).bind fun r1 => if kb_01 r1.1 then some (r1.1, r1.2) else none
noncomputable def f_X12_back_n_b5 (v1 : Int32) (z0 : MOT) : Option (Int32 × MOT) := f_X12_back_n_b24 z0
noncomputable def f_X12_back_n (mo : MOT) (x0 : Int32) : Option (Int32 × MOT) := f_X12_back_n_b5 x0 (mo_set_thrown mo (0 : Int32))
set_option maxHeartbeats 4000000 in
set_option maxRecDepth 100000 in
theorem c_X12_back_n (l : Launch) (D : va_G) (dA : Nat → ClassId) (sz : Nat) (a : Nat → Nat) (q1 : Option Nat) (g2 : Nat) (g3 : Nat) (g4 : Nat) (g5 : Nat) (g6 : Nat) (g7 : Nat) (g8 : Nat) (g9 : Nat) (g10 : Nat) (g11 : Nat) (g12 : Nat) (g13 : Nat) (g14 : Nat) (g15 : Nat) (g16 : Nat) (g17 : Nat) (g18 : Nat) (mo : MOT) (x0 : Int32) (rv : Int32) (u0 : MOT) (hf : f_X12_back_n mo x0 = some (rv, u0)) : kb_Mi l yX12_back cX12_back 3 (some .boolean) ({ frames := 2, cells := 0, slots := 0, locals := 42 } : Room) D dA [.ref (a 0), .int x0] sz (w_MO dA a none q1 g2 g3 g4 g5 g6 g7 g8 g9 g10 g11 g12 g13 g14 g15 g16 g17 g18 mo) 0 0 rv (w_MO dA a none q1 g2 g3 g4 g5 g6 g7 g8 g9 g10 g11 g12 g13 g14 g15 g16 g17 g18 u0) := by
  refine Met.ofW (cc := cX12_back) (maxL := 3) (ret := (some .boolean)) (by decide) rfl ?_
  intro p e s m args below meth c s₁ B hml hv
  obtain ⟨rfl, hsz, hP, hK, hD0, hE⟩ := hv
  have hx := B.exec
  have hb := B.bytes
  have hr := B.returns
  have hown : s.vm.findClass RX12 = some m.cls := findClass_of_methodNamed B.named
  have hlocks := B.notSynchronized
  have hts : ∀ w ∈ kb_gw, w.before ([.ref (a 0), .int x0] : List Value).toArray s = true := fun w hw => hK.2.1 w hw _
  subst hsz
  have hD := hD0.self (sz := s.heap.size)
  generalize hAe : va_A (w_MO dA a none q1 g2 g3 g4 g5 g6 g7 g8 g9 g10 g11 g12 g13 g14 g15 g16 g17 g18 mo) s.heap.size = A at hD hE ⊢
  have hA : ∀ q : Nat, s.heap.size ≤ q → A q := fun q h => by rw [← hAe]; exact Or.inr h
  have hS : va_S A s.heap s.heap [] := va_S.rf
  have hl := lv_entry ([.ref (a 0), .int x0]) (n := 3) (Nat.le_of_ble_eq_true rfl)
  rw [lg_entry_eq]
  generalize (lg_sl ([.ref (a 0), .int x0]) ++ List.replicate (3 - (lg_sl ([.ref (a 0), .int x0])).length) Slot.unset).toArray = ls at hl ⊢
  have hl : lv_has ls 3 [(0, .ref (a 0)), (1, .int x0)] := hl
  generalize hQ : MQ below (va_Qi (fun r (_ : Unit) => r = rv) (kb_B D A (w_MO dA a none q1 g2 g3 g4 g5 g6 g7 g8 g9 g10 g11 g12 g13 g14 g15 g16 g17 g18 u0)) A) ([.ref (a 0), .int x0] : List Value).toArray s 0 0 A = Q
  show W p l e ({ frames := 2, cells := 0, slots := 0, locals := 42 } : Room) s m ([.ref (a 0), .int x0] : List Value).toArray below meth c s.heap [] 0 0 Q (F0 m 0 ls [])
  have RET : ∀ (r2 : Int32) (w0 : MOT) (H : Heap) (locs : List Loc) (ls : Array Slot) (pc : Nat), some (r2, w0) = some (rv, u0) → va_P D vwCl (w_MO dA a none q1 g2 g3 g4 g5 g6 g7 g8 g9 g10 g11 g12 g13 g14 g15 g16 g17 g18 w0) H → va_D A (w_MO dA a none q1 g2 g3 g4 g5 g6 g7 g8 g9 g10 g11 g12 g13 g14 g15 g16 g17 g18 w0) → va_S A s.heap H locs → kb_01 r2 → decode cX12_back pc = .ok (.ireturn, 1) → W p l e ({ frames := 2, cells := 0, slots := 0, locals := 42 } : Room) s m ([.ref (a 0), .int x0] : List Value).toArray below meth c H locs 0 0 Q (F0 m pc ls [.int r2]) := by
    intro r2 w0 H locs ls pc hq hP hD hS h01 hd
    cases hq
    rw [← hQ]
    exact W.zret (ty := .boolean) hx hb hr (kb_nz h01) (fun t ht hW => ⟨⟨_, (), rfl, rfl, by rw [ht]; exact hP, hD⟩, hS.F ht⟩) hS.2.2 hd
  have B_24 : ∀ (z0 : MOT) (H : Heap) (locs : List Loc) (ls : Array Slot), f_X12_back_n_b24 z0 = some (rv, u0) → va_P D vwCl (w_MO dA a none q1 g2 g3 g4 g5 g6 g7 g8 g9 g10 g11 g12 g13 g14 g15 g16 g17 g18 z0) H → va_D A (w_MO dA a none q1 g2 g3 g4 g5 g6 g7 g8 g9 g10 g11 g12 g13 g14 g15 g16 g17 g18 z0) → va_S A s.heap H locs → lv_has ls 3 [(0, .ref (a 0))] → W p l e ({ frames := 2, cells := 0, slots := 0, locals := 42 } : Room) s m ([.ref (a 0), .int x0] : List Value).toArray below meth c H locs 0 0 Q (F0 m 24 ls []) := by
    intro z0 H locs ls hf hP hD hS hl
    rw [f_X12_back_n_b24] at hf
    refine lv_aload_n hx hb dX12_back_24 rfl (lv_at hl 0 rfl) ?_
    refine lv_iconst (v := (1 : Int32)) hx hb dX12_back_25 (by decide) ?_
    obtain ⟨r1, hc1, hf⟩ := kb_bind hf
    refine kb_ci (ws2 := (w_MO dA a none q1 g2 g3 g4 g5 g6 g7 g8 g9 g10 g11 g12 g13 g14 g15 g16 g17 g18 r1.2)) (kb_rV (n := 1) (As := [.int (1 : Int32)]) (rest := []) hx hb hml hown hK (c_X12_denied l D dA H.size a none q1 g2 g3 g4 g5 g6 g7 g8 g9 g10 g11 g12 g13 g14 g15 g16 g17 g18 z0 (1 : Int32) r1.1 r1.2 hc1) ⟨ww_8_61, ww_8_58, ww_8_60, ws_99, ww_1_12, rfl, by decide, by decide⟩ rfl rfl (by decide +kernel) ⟨Nat.le_of_ble_eq_true rfl, Nat.le_of_ble_eq_true rfl⟩ hP hD hS hA hE [0] rfl (by decide) 0 rfl rfl rfl hl.1 rfl (Nat.le_of_ble_eq_true rfl) dX12_back_26 ⟨Nat.le_of_ble_eq_true rfl, Nat.le_of_ble_eq_true rfl⟩) hP hD hS hA [0] [] [0] rfl rfl (by decide) (by decide) rfl (by decide) (fun H locs hP hD hS => ?_)
    obtain ⟨h_2, hf⟩ := kb_if hf
    exact RET _ _ H _ ls 29 hf hP hD hS h_2 dX12_back_29
  have B_5 : ∀ (v1 : Int32) (z0 : MOT) (H : Heap) (locs : List Loc) (ls : Array Slot), f_X12_back_n_b5 v1 z0 = some (rv, u0) → va_P D vwCl (w_MO dA a none q1 g2 g3 g4 g5 g6 g7 g8 g9 g10 g11 g12 g13 g14 g15 g16 g17 g18 z0) H → va_D A (w_MO dA a none q1 g2 g3 g4 g5 g6 g7 g8 g9 g10 g11 g12 g13 g14 g15 g16 g17 g18 z0) → va_S A s.heap H locs → lv_has ls 3 [(0, .ref (a 0)), (1, .int v1)] → W p l e ({ frames := 2, cells := 0, slots := 0, locals := 42 } : Room) s m ([.ref (a 0), .int x0] : List Value).toArray below meth c H locs 0 0 Q (F0 m 5 ls []) := by
    intro v1 z0 H locs ls hf hP hD hS hl
    rw [f_X12_back_n_b5] at hf
    refine lv_aload_n hx hb dX12_back_5 rfl (lv_at hl 0 rfl) ?_
    refine va_get (D := D) (ci := 12) (v := .null) (C := RX12) (T := TX12) (N := 35) hx hb hts kb_inX12 hown hK.1 hP 0 rfl rfl 3 (by decide) (hK.2.w ww_5_203 rfl _) (fun _ h9 => h9) rfl dX12_back_6 ?_
    refine lv_ifnullN (tgt := 24) hx hb dX12_back_9 (by decide) ?_
    exact B_24 _ _ _ _ hf hP hD hS (lv_sub hl [0] rfl)
  have E0 : ∀ (H : Heap) (locs : List Loc), va_P D vwCl (w_MO dA a none q1 g2 g3 g4 g5 g6 g7 g8 g9 g10 g11 g12 g13 g14 g15 g16 g17 g18 mo) H → va_D A (w_MO dA a none q1 g2 g3 g4 g5 g6 g7 g8 g9 g10 g11 g12 g13 g14 g15 g16 g17 g18 mo) → va_S A s.heap H locs → W p l e ({ frames := 2, cells := 0, slots := 0, locals := 42 } : Room) s m ([.ref (a 0), .int x0] : List Value).toArray below meth c H locs 0 0 Q (F0 m 0 ls []) := by
    intro H locs hP hD hS
    rw [f_X12_back_n] at hf
    refine lv_aload_n hx hb dX12_back_0 rfl (lv_at hl 0 rfl) ?_
    refine lv_iconst (v := (0 : Int32)) hx hb dX12_back_1 (by decide) ?_
    refine va_put (D := D) (ci := 12) (v := .int (0 : Int32)) (ty := .int) (C := RX12) (T := TX12) (N := 35) hx hb hts kb_inX12 tyX12 tyX12_ok nmX12 hown hK.1 hP hD hS 0 rfl rfl 0 (by decide) (hK.2.w ww_5_200 rfl _) (fun _ h9 => h9) rfl (by decide +kernel) rfl rfl (Nat.le_of_ble_eq_true rfl) dX12_back_2 (fun H locs hP hD hS => ?_)
    have hP : va_P D vwCl (w_MO dA a none q1 g2 g3 g4 g5 g6 g7 g8 g9 g10 g11 g12 g13 g14 g15 g16 g17 g18 (mo_set_thrown mo (0 : Int32))) H := hP
    have hD : va_D A (w_MO dA a none q1 g2 g3 g4 g5 g6 g7 g8 g9 g10 g11 g12 g13 g14 g15 g16 g17 g18 (mo_set_thrown mo (0 : Int32))) := hD
    exact B_5 _ _ _ _ _ hf hP hD hS (lv_sub hl [0, 1] rfl)
  exact E0 _ _ hP hD hS

noncomputable def f_X12_refusesChoice_n_b33 (mo : MOT) (y_w : WT)  : Option (Int32) := some ((5 : Int32))
noncomputable def f_X12_refusesChoice_n (mo : MOT) (y_w : WT) (x0 : Int32) : Option (Int32) := (f_X12_isRider_n mo x0).bind fun r1 => (if r1 = 0 then some ((1 : Int32)) else (f_X12_isSitting mo y_w x0).bind fun r3 => (if r3 = 0 then if kb_in? ((0 : Int32) + x0) 56 then (if ((yW_r y_w) (((0 : Int32) + x0)).toNatClampNeg) = (102 : Int32) then f_X12_refusesChoice_n_b33 mo y_w  else some ((0 : Int32))) else none else f_X12_refusesChoice_n_b33 mo y_w ))
set_option maxHeartbeats 4000000 in
set_option maxRecDepth 100000 in
theorem c_X12_refusesChoice_n (l : Launch) (D : va_G) (dA : Nat → ClassId) (sz : Nat) (a : Nat → Nat) (wa : Nat → Nat) (q1 : Option Nat) (g2 : Nat) (g3 : Nat) (g4 : Nat) (g5 : Nat) (g7 : Nat) (g8 : Nat) (g9 : Nat) (g10 : Nat) (g11 : Nat) (g12 : Nat) (g13 : Nat) (g14 : Nat) (g15 : Nat) (g16 : Nat) (g17 : Nat) (g18 : Nat) (mo : MOT) (y_w : WT) (x0 : Int32) (rv : Int32) (hf : f_X12_refusesChoice_n mo y_w x0 = some (rv)) : kb_Mi l yX12_refusesChoice cX12_refusesChoice 2 (some .int) ({ frames := 1, cells := 0, slots := 0, locals := 21 } : Room) D dA [.ref (a 0), .int x0] sz (w_MO dA a none q1 g2 g3 g4 g5 (wa 0) g7 g8 g9 g10 g11 g12 g13 g14 g15 g16 g17 g18 mo ++ (w_W dA wa y_w)) 0 0 rv (w_MO dA a none q1 g2 g3 g4 g5 (wa 0) g7 g8 g9 g10 g11 g12 g13 g14 g15 g16 g17 g18 mo ++ (w_W dA wa y_w)) := by
  refine Met.ofW (cc := cX12_refusesChoice) (maxL := 2) (ret := (some .int)) (by decide) rfl ?_
  intro p e s m args below meth c s₁ B hml hv
  obtain ⟨rfl, hsz, hP, hK, hD0, hE⟩ := hv
  have hx := B.exec
  have hb := B.bytes
  have hr := B.returns
  have hown : s.vm.findClass RX12 = some m.cls := findClass_of_methodNamed B.named
  have hlocks := B.notSynchronized
  have hts : ∀ w ∈ kb_gw, w.before ([.ref (a 0), .int x0] : List Value).toArray s = true := fun w hw => hK.2.1 w hw _
  subst hsz
  have hD := hD0.self (sz := s.heap.size)
  generalize hAe : va_A (w_MO dA a none q1 g2 g3 g4 g5 (wa 0) g7 g8 g9 g10 g11 g12 g13 g14 g15 g16 g17 g18 mo ++ (w_W dA wa y_w)) s.heap.size = A at hD hE ⊢
  have hA : ∀ q : Nat, s.heap.size ≤ q → A q := fun q h => by rw [← hAe]; exact Or.inr h
  have hS : va_S A s.heap s.heap [] := va_S.rf
  have hl := lv_entry ([.ref (a 0), .int x0]) (n := 2) (Nat.le_of_ble_eq_true rfl)
  rw [lg_entry_eq]
  generalize (lg_sl ([.ref (a 0), .int x0]) ++ List.replicate (2 - (lg_sl ([.ref (a 0), .int x0])).length) Slot.unset).toArray = ls at hl ⊢
  have hl : lv_has ls 2 [(0, .ref (a 0)), (1, .int x0)] := hl
  generalize hQ : MQ below (va_Qi (fun r (_ : Unit) => r = rv) (kb_B D A (w_MO dA a none q1 g2 g3 g4 g5 (wa 0) g7 g8 g9 g10 g11 g12 g13 g14 g15 g16 g17 g18 mo ++ (w_W dA wa y_w))) A) ([.ref (a 0), .int x0] : List Value).toArray s 0 0 A = Q
  show W p l e ({ frames := 1, cells := 0, slots := 0, locals := 21 } : Room) s m ([.ref (a 0), .int x0] : List Value).toArray below meth c s.heap [] 0 0 Q (F0 m 0 ls [])
  have RET : ∀ (r2 : Int32) (H : Heap) (locs : List Loc) (ls : Array Slot) (pc : Nat), some (r2) = some (rv) → va_P D vwCl (w_MO dA a none q1 g2 g3 g4 g5 (wa 0) g7 g8 g9 g10 g11 g12 g13 g14 g15 g16 g17 g18 mo ++ (w_W dA wa y_w)) H → va_D A (w_MO dA a none q1 g2 g3 g4 g5 (wa 0) g7 g8 g9 g10 g11 g12 g13 g14 g15 g16 g17 g18 mo ++ (w_W dA wa y_w)) → va_S A s.heap H locs → decode cX12_refusesChoice pc = .ok (.ireturn, 1) → W p l e ({ frames := 1, cells := 0, slots := 0, locals := 21 } : Room) s m ([.ref (a 0), .int x0] : List Value).toArray below meth c H locs 0 0 Q (F0 m pc ls [.int r2]) := by
    intro r2 H locs ls pc hq hP hD hS hd
    cases hq
    rw [← hQ]
    exact W.iret hx hb hr (fun t ht hW => ⟨⟨_, (), rfl, rfl, by rw [ht]; exact hP, hD⟩, hS.F ht⟩) hS.2.2 hd
  have B_33 : ∀  (H : Heap) (locs : List Loc) (ls : Array Slot), f_X12_refusesChoice_n_b33 mo y_w  = some (rv) → va_P D vwCl (w_MO dA a none q1 g2 g3 g4 g5 (wa 0) g7 g8 g9 g10 g11 g12 g13 g14 g15 g16 g17 g18 mo ++ (w_W dA wa y_w)) H → va_D A (w_MO dA a none q1 g2 g3 g4 g5 (wa 0) g7 g8 g9 g10 g11 g12 g13 g14 g15 g16 g17 g18 mo ++ (w_W dA wa y_w)) → va_S A s.heap H locs → lv_has ls 2 [] → W p l e ({ frames := 1, cells := 0, slots := 0, locals := 21 } : Room) s m ([.ref (a 0), .int x0] : List Value).toArray below meth c H locs 0 0 Q (F0 m 33 ls []) := by
    intro  H locs ls hf hP hD hS hl
    rw [f_X12_refusesChoice_n_b33] at hf
    refine lv_iconst (v := (5 : Int32)) hx hb dX12_refusesChoice_33 (by decide) ?_
    refine lv_goto (tgt := 38) hx hb dX12_refusesChoice_34 (by decide) ?_
    exact RET _ H _ ls 38 hf hP hD hS dX12_refusesChoice_38
  have E0 : ∀ (H : Heap) (locs : List Loc), va_P D vwCl (w_MO dA a none q1 g2 g3 g4 g5 (wa 0) g7 g8 g9 g10 g11 g12 g13 g14 g15 g16 g17 g18 mo ++ (w_W dA wa y_w)) H → va_D A (w_MO dA a none q1 g2 g3 g4 g5 (wa 0) g7 g8 g9 g10 g11 g12 g13 g14 g15 g16 g17 g18 mo ++ (w_W dA wa y_w)) → va_S A s.heap H locs → W p l e ({ frames := 1, cells := 0, slots := 0, locals := 21 } : Room) s m ([.ref (a 0), .int x0] : List Value).toArray below meth c H locs 0 0 Q (F0 m 0 ls []) := by
    intro H locs hP hD hS
    rw [f_X12_refusesChoice_n] at hf
    refine lv_aload_n hx hb dX12_refusesChoice_0 rfl (lv_at hl 0 rfl) ?_
    refine lv_iload_n hx hb dX12_refusesChoice_1 rfl (lv_at hl 1 rfl) ?_
    obtain ⟨r1, hc1, hf⟩ := kb_bind hf
    refine kb_ci (ws2 := (w_MO dA a none q1 g2 g3 g4 g5 (wa 0) g7 g8 g9 g10 g11 g12 g13 g14 g15 g16 g17 g18 mo ++ (w_W dA wa y_w))) (kb_rV (n := 1) (As := [.int x0]) (rest := []) hx hb hml hown hK (c_X12_isRider_n l D dA H.size a q1 g2 g3 g4 g5 (wa 0) g7 g8 g9 g10 g11 g12 g13 g14 g15 g16 g17 g18 mo x0 r1 hc1) ⟨ww_8_5, ww_8_2, ww_8_4, ws_95, ww_1_12, rfl, by decide, by decide⟩ rfl rfl (by decide +kernel) ⟨Nat.le_of_ble_eq_true rfl, Nat.le_of_ble_eq_true rfl⟩ hP hD hS hA hE [0] rfl (by decide) 0 rfl rfl rfl hl.1 rfl (Nat.le_of_ble_eq_true rfl) dX12_refusesChoice_2 ⟨Nat.le_of_ble_eq_true rfl, Nat.le_of_ble_eq_true rfl⟩) hP hD hS hA [0] [1] [1, 0] rfl rfl (by decide) (by decide) rfl (by decide) (fun H locs hP hD hS => ?_)
    refine lv_if_ne (tgt := 12) hx hb dX12_refusesChoice_5 (by decide) (fun c_2 => ?_) (fun c_2 => ?_)
    · rw [if_neg c_2] at hf
      refine lv_aload_n hx hb dX12_refusesChoice_12 rfl (lv_at hl 0 rfl) ?_
      refine lv_iload_n hx hb dX12_refusesChoice_13 rfl (lv_at hl 1 rfl) ?_
      obtain ⟨r3, hc3, hf⟩ := kb_bind hf
      refine kb_ci (ws2 := (w_MO dA a none q1 g2 g3 g4 g5 (wa 0) g7 g8 g9 g10 g11 g12 g13 g14 g15 g16 g17 g18 mo ++ (w_W dA wa y_w))) (kb_rV (n := 1) (As := [.int x0]) (rest := []) hx hb hml hown hK (c_X12_isSitting l D dA H.size a wa none q1 g2 g3 g4 g5 g7 g8 g9 g10 g11 g12 g13 g14 g15 g16 g17 g18 mo y_w x0 r3 hc3) ⟨ww_7_132, ww_7_129, ww_7_131, ws_76, ww_1_12, rfl, by decide, by decide⟩ rfl rfl (by decide +kernel) ⟨Nat.le_of_ble_eq_true rfl, Nat.le_of_ble_eq_true rfl⟩ hP hD hS hA hE [0, 1] rfl (by decide) 0 rfl rfl rfl hl.1 rfl (Nat.le_of_ble_eq_true rfl) dX12_refusesChoice_14 ⟨Nat.le_of_ble_eq_true rfl, Nat.le_of_ble_eq_true rfl⟩) hP hD hS hA [0, 1] [] [0, 1] rfl rfl (by decide) (by decide) rfl (by decide) (fun H locs hP hD hS => ?_)
      refine lv_if_ne (tgt := 33) hx hb dX12_refusesChoice_17 (by decide) (fun c_4 => ?_) (fun c_4 => ?_)
      · rw [if_neg c_4] at hf
        exact B_33 _ _ _ hf hP hD hS (lv_sub hl [] rfl)
      · rw [if_pos c_4] at hf
        refine lv_aload_n hx hb dX12_refusesChoice_20 rfl (lv_at hl 0 rfl) ?_
        refine va_get (D := D) (ci := 12) (v := .ref (wa 0)) (C := RX12) (T := TX12) (N := 35) hx hb hts kb_inX12 hown hK.1 hP 0 rfl rfl 19 (by decide) (hK.2.w ww_5_219 rfl _) (fun _ h9 => h9) rfl dX12_refusesChoice_21 ?_
        refine lv_iconst (v := (0 : Int32)) hx hb dX12_refusesChoice_24 (by decide) ?_
        refine lv_iload_n hx hb dX12_refusesChoice_25 rfl (lv_at hl 1 rfl) ?_
        refine lv_iadd hx hb dX12_refusesChoice_26 ?_
        obtain ⟨h_5, hf⟩ := kb_if hf
        refine va_iald (D := D) hx hb hK.1 hP 1 0 rfl rfl h_5 dX12_refusesChoice_27 ?_
        refine lv_bipush (v := (102 : Int32)) hx hb dX12_refusesChoice_28 (by decide) ?_
        refine lv_icmp_ne (tgt := 37) hx hb dX12_refusesChoice_30 (by decide) (fun c_6 => ?_) (fun c_6 => ?_)
        · rw [if_neg c_6] at hf
          refine lv_iconst (v := (0 : Int32)) hx hb dX12_refusesChoice_37 (by decide) ?_
          exact RET _ H _ ls 38 hf hP hD hS dX12_refusesChoice_38
        · rw [if_pos c_6] at hf
          exact B_33 _ _ _ hf hP hD hS (lv_sub hl [] rfl)
    · rw [if_pos c_2] at hf
      refine lv_iconst (v := (1 : Int32)) hx hb dX12_refusesChoice_8 (by decide) ?_
      refine lv_goto (tgt := 38) hx hb dX12_refusesChoice_9 (by decide) ?_
      exact RET _ H _ ls 38 hf hP hD hS dX12_refusesChoice_38
  exact E0 _ _ hP hD hS

noncomputable def f_X12_choice_n_b5 (y_w : WT) (v1 : Int32) (z0 : MOT) : Option (Int32 × MOT) := (f_X12_refusesChoice_n z0 y_w v1).bind fun r1 => (if r1 ≤ 0 then none else (f_X12_refused z0 r1).bind fun r3 => some (r3.1, r3.2))
noncomputable def f_X12_choice_n (mo : MOT) (y_w : WT) (x0 : Int32) : Option (Int32 × MOT) := f_X12_choice_n_b5 y_w x0 (mo_set_thrown mo (0 : Int32))
set_option maxHeartbeats 4000000 in
set_option maxRecDepth 100000 in
theorem c_X12_choice_n (l : Launch) (D : va_G) (dA : Nat → ClassId) (sz : Nat) (a : Nat → Nat) (wa : Nat → Nat) (q1 : Option Nat) (g2 : Nat) (g3 : Nat) (g4 : Nat) (g5 : Nat) (g7 : Nat) (g8 : Nat) (g9 : Nat) (g10 : Nat) (g11 : Nat) (g12 : Nat) (g13 : Nat) (g14 : Nat) (g15 : Nat) (g16 : Nat) (g17 : Nat) (g18 : Nat) (mo : MOT) (y_w : WT) (x0 : Int32) (rv : Int32) (u0 : MOT) (hf : f_X12_choice_n mo y_w x0 = some (rv, u0)) : kb_Mi l yX12_choice cX12_choice 3 (some .int) ({ frames := 2, cells := 0, slots := 0, locals := 42 } : Room) D dA [.ref (a 0), .int x0] sz (w_MO dA a none q1 g2 g3 g4 g5 (wa 0) g7 g8 g9 g10 g11 g12 g13 g14 g15 g16 g17 g18 mo ++ (w_W dA wa y_w)) 0 0 rv (w_MO dA a none q1 g2 g3 g4 g5 (wa 0) g7 g8 g9 g10 g11 g12 g13 g14 g15 g16 g17 g18 u0 ++ (w_W dA wa y_w)) := by
  refine Met.ofW (cc := cX12_choice) (maxL := 3) (ret := (some .int)) (by decide) rfl ?_
  intro p e s m args below meth c s₁ B hml hv
  obtain ⟨rfl, hsz, hP, hK, hD0, hE⟩ := hv
  have hx := B.exec
  have hb := B.bytes
  have hr := B.returns
  have hown : s.vm.findClass RX12 = some m.cls := findClass_of_methodNamed B.named
  have hlocks := B.notSynchronized
  have hts : ∀ w ∈ kb_gw, w.before ([.ref (a 0), .int x0] : List Value).toArray s = true := fun w hw => hK.2.1 w hw _
  subst hsz
  have hD := hD0.self (sz := s.heap.size)
  generalize hAe : va_A (w_MO dA a none q1 g2 g3 g4 g5 (wa 0) g7 g8 g9 g10 g11 g12 g13 g14 g15 g16 g17 g18 mo ++ (w_W dA wa y_w)) s.heap.size = A at hD hE ⊢
  have hA : ∀ q : Nat, s.heap.size ≤ q → A q := fun q h => by rw [← hAe]; exact Or.inr h
  have hS : va_S A s.heap s.heap [] := va_S.rf
  have hl := lv_entry ([.ref (a 0), .int x0]) (n := 3) (Nat.le_of_ble_eq_true rfl)
  rw [lg_entry_eq]
  generalize (lg_sl ([.ref (a 0), .int x0]) ++ List.replicate (3 - (lg_sl ([.ref (a 0), .int x0])).length) Slot.unset).toArray = ls at hl ⊢
  have hl : lv_has ls 3 [(0, .ref (a 0)), (1, .int x0)] := hl
  generalize hQ : MQ below (va_Qi (fun r (_ : Unit) => r = rv) (kb_B D A (w_MO dA a none q1 g2 g3 g4 g5 (wa 0) g7 g8 g9 g10 g11 g12 g13 g14 g15 g16 g17 g18 u0 ++ (w_W dA wa y_w))) A) ([.ref (a 0), .int x0] : List Value).toArray s 0 0 A = Q
  show W p l e ({ frames := 2, cells := 0, slots := 0, locals := 42 } : Room) s m ([.ref (a 0), .int x0] : List Value).toArray below meth c s.heap [] 0 0 Q (F0 m 0 ls [])
  have RET : ∀ (r2 : Int32) (w0 : MOT) (H : Heap) (locs : List Loc) (ls : Array Slot) (pc : Nat), some (r2, w0) = some (rv, u0) → va_P D vwCl (w_MO dA a none q1 g2 g3 g4 g5 (wa 0) g7 g8 g9 g10 g11 g12 g13 g14 g15 g16 g17 g18 w0 ++ (w_W dA wa y_w)) H → va_D A (w_MO dA a none q1 g2 g3 g4 g5 (wa 0) g7 g8 g9 g10 g11 g12 g13 g14 g15 g16 g17 g18 w0 ++ (w_W dA wa y_w)) → va_S A s.heap H locs → decode cX12_choice pc = .ok (.ireturn, 1) → W p l e ({ frames := 2, cells := 0, slots := 0, locals := 42 } : Room) s m ([.ref (a 0), .int x0] : List Value).toArray below meth c H locs 0 0 Q (F0 m pc ls [.int r2]) := by
    intro r2 w0 H locs ls pc hq hP hD hS hd
    cases hq
    rw [← hQ]
    exact W.iret hx hb hr (fun t ht hW => ⟨⟨_, (), rfl, rfl, by rw [ht]; exact hP, hD⟩, hS.F ht⟩) hS.2.2 hd
  have B_5 : ∀ (v1 : Int32) (z0 : MOT) (H : Heap) (locs : List Loc) (ls : Array Slot), f_X12_choice_n_b5 y_w v1 z0 = some (rv, u0) → va_P D vwCl (w_MO dA a none q1 g2 g3 g4 g5 (wa 0) g7 g8 g9 g10 g11 g12 g13 g14 g15 g16 g17 g18 z0 ++ (w_W dA wa y_w)) H → va_D A (w_MO dA a none q1 g2 g3 g4 g5 (wa 0) g7 g8 g9 g10 g11 g12 g13 g14 g15 g16 g17 g18 z0 ++ (w_W dA wa y_w)) → va_S A s.heap H locs → lv_has ls 3 [(0, .ref (a 0)), (1, .int v1)] → W p l e ({ frames := 2, cells := 0, slots := 0, locals := 42 } : Room) s m ([.ref (a 0), .int x0] : List Value).toArray below meth c H locs 0 0 Q (F0 m 5 ls []) := by
    intro v1 z0 H locs ls hf hP hD hS hl
    rw [f_X12_choice_n_b5] at hf
    refine lv_aload_n hx hb dX12_choice_5 rfl (lv_at hl 0 rfl) ?_
    refine lv_iload_n hx hb dX12_choice_6 rfl (lv_at hl 1 rfl) ?_
    obtain ⟨r1, hc1, hf⟩ := kb_bind hf
    refine kb_ci (ws2 := (w_MO dA a none q1 g2 g3 g4 g5 (wa 0) g7 g8 g9 g10 g11 g12 g13 g14 g15 g16 g17 g18 z0 ++ (w_W dA wa y_w))) (kb_rV (n := 1) (As := [.int v1]) (rest := []) hx hb hml hown hK (c_X12_refusesChoice_n l D dA H.size a wa q1 g2 g3 g4 g5 g7 g8 g9 g10 g11 g12 g13 g14 g15 g16 g17 g18 z0 y_w v1 r1 hc1) ⟨ww_8_73, ww_8_70, ww_8_72, ws_101, ww_1_12, rfl, by decide, by decide⟩ rfl rfl (by decide +kernel) ⟨Nat.le_of_ble_eq_true rfl, Nat.le_of_ble_eq_true rfl⟩ hP hD hS hA hE [0, 1] rfl (by decide) 0 rfl rfl rfl hl.1 rfl (Nat.le_of_ble_eq_true rfl) dX12_choice_7 ⟨Nat.le_of_ble_eq_true rfl, Nat.le_of_ble_eq_true rfl⟩) hP hD hS hA [0, 1] [] [0, 1] rfl rfl (by decide) (by decide) rfl (by decide) (fun H locs hP hD hS => ?_)
    refine lv_istore_n (lv' := [(2, .int r1), (0, .ref (a 0)), (1, .int v1)]) hx hb dX12_choice_10 rfl hl (by decide) rfl (fun ls hl => ?_)
    refine lv_iload_n hx hb dX12_choice_11 rfl (lv_at hl 0 rfl) ?_
    refine lv_if_le (tgt := 23) hx hb dX12_choice_12 (by decide) (fun c_2 => ?_) (fun c_2 => ?_)
    · rw [if_pos c_2] at hf
      refine lv_aload_n hx hb dX12_choice_23 rfl (lv_at hl 1 rfl) ?_
      refine lv_aload_n hx hb dX12_choice_24 rfl (lv_at hl 1 rfl) ?_
      refine lv_iload_n hx hb dX12_choice_25 rfl (lv_at hl 2 rfl) ?_
      cases hf
    · rw [if_neg c_2] at hf
      refine lv_aload_n hx hb dX12_choice_15 rfl (lv_at hl 1 rfl) ?_
      refine lv_iload_n hx hb dX12_choice_16 rfl (lv_at hl 0 rfl) ?_
      obtain ⟨r3, hc3, hf⟩ := kb_bind hf
      refine kb_ci (ws2 := (w_MO dA a none q1 g2 g3 g4 g5 (wa 0) g7 g8 g9 g10 g11 g12 g13 g14 g15 g16 g17 g18 r3.2 ++ (w_W dA wa y_w))) (kb_rV (n := 1) (As := [.int r1]) (rest := []) hx hb hml hown hK (c_X12_refused l D dA H.size a none q1 g2 g3 g4 g5 (wa 0) g7 g8 g9 g10 g11 g12 g13 g14 g15 g16 g17 g18 z0 r1 r3.1 r3.2 hc3) ⟨ww_6_82, ww_6_79, ww_6_81, ws_46, ww_1_12, rfl, by decide, by decide⟩ rfl rfl (by decide +kernel) ⟨Nat.le_of_ble_eq_true rfl, Nat.le_of_ble_eq_true rfl⟩ hP hD hS hA hE [0] rfl (by decide) 0 rfl rfl rfl hl.1 rfl (Nat.le_of_ble_eq_true rfl) dX12_choice_17 ⟨Nat.le_of_ble_eq_true rfl, Nat.le_of_ble_eq_true rfl⟩) hP hD hS hA [0] [1] [1, 0] rfl rfl (by decide) (by decide) rfl (by decide) (fun H locs hP hD hS => ?_)
      refine lv_goto (tgt := 32) hx hb dX12_choice_20 (by decide) ?_
      exact RET _ _ H _ ls 32 hf hP hD hS dX12_choice_32
  have E0 : ∀ (H : Heap) (locs : List Loc), va_P D vwCl (w_MO dA a none q1 g2 g3 g4 g5 (wa 0) g7 g8 g9 g10 g11 g12 g13 g14 g15 g16 g17 g18 mo ++ (w_W dA wa y_w)) H → va_D A (w_MO dA a none q1 g2 g3 g4 g5 (wa 0) g7 g8 g9 g10 g11 g12 g13 g14 g15 g16 g17 g18 mo ++ (w_W dA wa y_w)) → va_S A s.heap H locs → W p l e ({ frames := 2, cells := 0, slots := 0, locals := 42 } : Room) s m ([.ref (a 0), .int x0] : List Value).toArray below meth c H locs 0 0 Q (F0 m 0 ls []) := by
    intro H locs hP hD hS
    rw [f_X12_choice_n] at hf
    refine lv_aload_n hx hb dX12_choice_0 rfl (lv_at hl 0 rfl) ?_
    refine lv_iconst (v := (0 : Int32)) hx hb dX12_choice_1 (by decide) ?_
    refine va_put (D := D) (ci := 12) (v := .int (0 : Int32)) (ty := .int) (C := RX12) (T := TX12) (N := 35) hx hb hts kb_inX12 tyX12 tyX12_ok nmX12 hown hK.1 hP hD hS 0 rfl rfl 0 (by decide) (hK.2.w ww_5_200 rfl _) (fun _ h9 => h9) rfl (by decide +kernel) rfl rfl (Nat.le_of_ble_eq_true rfl) dX12_choice_2 (fun H locs hP hD hS => ?_)
    have hP : va_P D vwCl (w_MO dA a none q1 g2 g3 g4 g5 (wa 0) g7 g8 g9 g10 g11 g12 g13 g14 g15 g16 g17 g18 (mo_set_thrown mo (0 : Int32)) ++ (w_W dA wa y_w)) H := hP
    have hD : va_D A (w_MO dA a none q1 g2 g3 g4 g5 (wa 0) g7 g8 g9 g10 g11 g12 g13 g14 g15 g16 g17 g18 (mo_set_thrown mo (0 : Int32)) ++ (w_W dA wa y_w)) := hD
    exact B_5 _ _ _ _ _ hf hP hD hS (lv_sub hl [0, 1] rfl)
  exact E0 _ _ hP hD hS

noncomputable def f_X12_ties_n_b5 (y_w : WT) (v1 : Int32) (z0 : MOT) : Option (Int32 × MOT) := (f_X12_refusesChoice_n z0 y_w v1).bind fun r1 => (if r1 ≤ 0 then none else (f_X12_refused z0 r1).bind fun r3 => some (r3.1, r3.2))
noncomputable def f_X12_ties_n (mo : MOT) (y_w : WT) (x0 : Int32) : Option (Int32 × MOT) := f_X12_ties_n_b5 y_w x0 (mo_set_thrown mo (0 : Int32))
set_option maxHeartbeats 4000000 in
set_option maxRecDepth 100000 in
theorem c_X12_ties_n (l : Launch) (D : va_G) (dA : Nat → ClassId) (sz : Nat) (a : Nat → Nat) (wa : Nat → Nat) (q1 : Option Nat) (g2 : Nat) (g3 : Nat) (g4 : Nat) (g5 : Nat) (g7 : Nat) (g8 : Nat) (g9 : Nat) (g10 : Nat) (g11 : Nat) (g12 : Nat) (g13 : Nat) (g14 : Nat) (g15 : Nat) (g16 : Nat) (g17 : Nat) (g18 : Nat) (mo : MOT) (y_w : WT) (x0 : Int32) (rv : Int32) (u0 : MOT) (hf : f_X12_ties_n mo y_w x0 = some (rv, u0)) : kb_Mi l yX12_ties cX12_ties 3 (some .int) ({ frames := 2, cells := 0, slots := 0, locals := 42 } : Room) D dA [.ref (a 0), .int x0] sz (w_MO dA a none q1 g2 g3 g4 g5 (wa 0) g7 g8 g9 g10 g11 g12 g13 g14 g15 g16 g17 g18 mo ++ (w_W dA wa y_w)) 0 0 rv (w_MO dA a none q1 g2 g3 g4 g5 (wa 0) g7 g8 g9 g10 g11 g12 g13 g14 g15 g16 g17 g18 u0 ++ (w_W dA wa y_w)) := by
  refine Met.ofW (cc := cX12_ties) (maxL := 3) (ret := (some .int)) (by decide) rfl ?_
  intro p e s m args below meth c s₁ B hml hv
  obtain ⟨rfl, hsz, hP, hK, hD0, hE⟩ := hv
  have hx := B.exec
  have hb := B.bytes
  have hr := B.returns
  have hown : s.vm.findClass RX12 = some m.cls := findClass_of_methodNamed B.named
  have hlocks := B.notSynchronized
  have hts : ∀ w ∈ kb_gw, w.before ([.ref (a 0), .int x0] : List Value).toArray s = true := fun w hw => hK.2.1 w hw _
  subst hsz
  have hD := hD0.self (sz := s.heap.size)
  generalize hAe : va_A (w_MO dA a none q1 g2 g3 g4 g5 (wa 0) g7 g8 g9 g10 g11 g12 g13 g14 g15 g16 g17 g18 mo ++ (w_W dA wa y_w)) s.heap.size = A at hD hE ⊢
  have hA : ∀ q : Nat, s.heap.size ≤ q → A q := fun q h => by rw [← hAe]; exact Or.inr h
  have hS : va_S A s.heap s.heap [] := va_S.rf
  have hl := lv_entry ([.ref (a 0), .int x0]) (n := 3) (Nat.le_of_ble_eq_true rfl)
  rw [lg_entry_eq]
  generalize (lg_sl ([.ref (a 0), .int x0]) ++ List.replicate (3 - (lg_sl ([.ref (a 0), .int x0])).length) Slot.unset).toArray = ls at hl ⊢
  have hl : lv_has ls 3 [(0, .ref (a 0)), (1, .int x0)] := hl
  generalize hQ : MQ below (va_Qi (fun r (_ : Unit) => r = rv) (kb_B D A (w_MO dA a none q1 g2 g3 g4 g5 (wa 0) g7 g8 g9 g10 g11 g12 g13 g14 g15 g16 g17 g18 u0 ++ (w_W dA wa y_w))) A) ([.ref (a 0), .int x0] : List Value).toArray s 0 0 A = Q
  show W p l e ({ frames := 2, cells := 0, slots := 0, locals := 42 } : Room) s m ([.ref (a 0), .int x0] : List Value).toArray below meth c s.heap [] 0 0 Q (F0 m 0 ls [])
  have RET : ∀ (r2 : Int32) (w0 : MOT) (H : Heap) (locs : List Loc) (ls : Array Slot) (pc : Nat), some (r2, w0) = some (rv, u0) → va_P D vwCl (w_MO dA a none q1 g2 g3 g4 g5 (wa 0) g7 g8 g9 g10 g11 g12 g13 g14 g15 g16 g17 g18 w0 ++ (w_W dA wa y_w)) H → va_D A (w_MO dA a none q1 g2 g3 g4 g5 (wa 0) g7 g8 g9 g10 g11 g12 g13 g14 g15 g16 g17 g18 w0 ++ (w_W dA wa y_w)) → va_S A s.heap H locs → decode cX12_ties pc = .ok (.ireturn, 1) → W p l e ({ frames := 2, cells := 0, slots := 0, locals := 42 } : Room) s m ([.ref (a 0), .int x0] : List Value).toArray below meth c H locs 0 0 Q (F0 m pc ls [.int r2]) := by
    intro r2 w0 H locs ls pc hq hP hD hS hd
    cases hq
    rw [← hQ]
    exact W.iret hx hb hr (fun t ht hW => ⟨⟨_, (), rfl, rfl, by rw [ht]; exact hP, hD⟩, hS.F ht⟩) hS.2.2 hd
  have B_5 : ∀ (v1 : Int32) (z0 : MOT) (H : Heap) (locs : List Loc) (ls : Array Slot), f_X12_ties_n_b5 y_w v1 z0 = some (rv, u0) → va_P D vwCl (w_MO dA a none q1 g2 g3 g4 g5 (wa 0) g7 g8 g9 g10 g11 g12 g13 g14 g15 g16 g17 g18 z0 ++ (w_W dA wa y_w)) H → va_D A (w_MO dA a none q1 g2 g3 g4 g5 (wa 0) g7 g8 g9 g10 g11 g12 g13 g14 g15 g16 g17 g18 z0 ++ (w_W dA wa y_w)) → va_S A s.heap H locs → lv_has ls 3 [(0, .ref (a 0)), (1, .int v1)] → W p l e ({ frames := 2, cells := 0, slots := 0, locals := 42 } : Room) s m ([.ref (a 0), .int x0] : List Value).toArray below meth c H locs 0 0 Q (F0 m 5 ls []) := by
    intro v1 z0 H locs ls hf hP hD hS hl
    rw [f_X12_ties_n_b5] at hf
    refine lv_aload_n hx hb dX12_ties_5 rfl (lv_at hl 0 rfl) ?_
    refine lv_iload_n hx hb dX12_ties_6 rfl (lv_at hl 1 rfl) ?_
    obtain ⟨r1, hc1, hf⟩ := kb_bind hf
    refine kb_ci (ws2 := (w_MO dA a none q1 g2 g3 g4 g5 (wa 0) g7 g8 g9 g10 g11 g12 g13 g14 g15 g16 g17 g18 z0 ++ (w_W dA wa y_w))) (kb_rV (n := 1) (As := [.int v1]) (rest := []) hx hb hml hown hK (c_X12_refusesChoice_n l D dA H.size a wa q1 g2 g3 g4 g5 g7 g8 g9 g10 g11 g12 g13 g14 g15 g16 g17 g18 z0 y_w v1 r1 hc1) ⟨ww_8_73, ww_8_70, ww_8_72, ws_101, ww_1_12, rfl, by decide, by decide⟩ rfl rfl (by decide +kernel) ⟨Nat.le_of_ble_eq_true rfl, Nat.le_of_ble_eq_true rfl⟩ hP hD hS hA hE [0, 1] rfl (by decide) 0 rfl rfl rfl hl.1 rfl (Nat.le_of_ble_eq_true rfl) dX12_ties_7 ⟨Nat.le_of_ble_eq_true rfl, Nat.le_of_ble_eq_true rfl⟩) hP hD hS hA [0, 1] [] [0, 1] rfl rfl (by decide) (by decide) rfl (by decide) (fun H locs hP hD hS => ?_)
    refine lv_istore_n (lv' := [(2, .int r1), (0, .ref (a 0)), (1, .int v1)]) hx hb dX12_ties_10 rfl hl (by decide) rfl (fun ls hl => ?_)
    refine lv_iload_n hx hb dX12_ties_11 rfl (lv_at hl 0 rfl) ?_
    refine lv_if_le (tgt := 23) hx hb dX12_ties_12 (by decide) (fun c_2 => ?_) (fun c_2 => ?_)
    · rw [if_pos c_2] at hf
      refine lv_aload_n hx hb dX12_ties_23 rfl (lv_at hl 1 rfl) ?_
      refine lv_aload_n hx hb dX12_ties_24 rfl (lv_at hl 1 rfl) ?_
      refine lv_iload_n hx hb dX12_ties_25 rfl (lv_at hl 2 rfl) ?_
      cases hf
    · rw [if_neg c_2] at hf
      refine lv_aload_n hx hb dX12_ties_15 rfl (lv_at hl 1 rfl) ?_
      refine lv_iload_n hx hb dX12_ties_16 rfl (lv_at hl 0 rfl) ?_
      obtain ⟨r3, hc3, hf⟩ := kb_bind hf
      refine kb_ci (ws2 := (w_MO dA a none q1 g2 g3 g4 g5 (wa 0) g7 g8 g9 g10 g11 g12 g13 g14 g15 g16 g17 g18 r3.2 ++ (w_W dA wa y_w))) (kb_rV (n := 1) (As := [.int r1]) (rest := []) hx hb hml hown hK (c_X12_refused l D dA H.size a none q1 g2 g3 g4 g5 (wa 0) g7 g8 g9 g10 g11 g12 g13 g14 g15 g16 g17 g18 z0 r1 r3.1 r3.2 hc3) ⟨ww_6_82, ww_6_79, ww_6_81, ws_46, ww_1_12, rfl, by decide, by decide⟩ rfl rfl (by decide +kernel) ⟨Nat.le_of_ble_eq_true rfl, Nat.le_of_ble_eq_true rfl⟩ hP hD hS hA hE [0] rfl (by decide) 0 rfl rfl rfl hl.1 rfl (Nat.le_of_ble_eq_true rfl) dX12_ties_17 ⟨Nat.le_of_ble_eq_true rfl, Nat.le_of_ble_eq_true rfl⟩) hP hD hS hA [0] [1] [1, 0] rfl rfl (by decide) (by decide) rfl (by decide) (fun H locs hP hD hS => ?_)
      refine lv_goto (tgt := 49) hx hb dX12_ties_20 (by decide) ?_
      exact RET _ _ H _ ls 49 hf hP hD hS dX12_ties_49
  have E0 : ∀ (H : Heap) (locs : List Loc), va_P D vwCl (w_MO dA a none q1 g2 g3 g4 g5 (wa 0) g7 g8 g9 g10 g11 g12 g13 g14 g15 g16 g17 g18 mo ++ (w_W dA wa y_w)) H → va_D A (w_MO dA a none q1 g2 g3 g4 g5 (wa 0) g7 g8 g9 g10 g11 g12 g13 g14 g15 g16 g17 g18 mo ++ (w_W dA wa y_w)) → va_S A s.heap H locs → W p l e ({ frames := 2, cells := 0, slots := 0, locals := 42 } : Room) s m ([.ref (a 0), .int x0] : List Value).toArray below meth c H locs 0 0 Q (F0 m 0 ls []) := by
    intro H locs hP hD hS
    rw [f_X12_ties_n] at hf
    refine lv_aload_n hx hb dX12_ties_0 rfl (lv_at hl 0 rfl) ?_
    refine lv_iconst (v := (0 : Int32)) hx hb dX12_ties_1 (by decide) ?_
    refine va_put (D := D) (ci := 12) (v := .int (0 : Int32)) (ty := .int) (C := RX12) (T := TX12) (N := 35) hx hb hts kb_inX12 tyX12 tyX12_ok nmX12 hown hK.1 hP hD hS 0 rfl rfl 0 (by decide) (hK.2.w ww_5_200 rfl _) (fun _ h9 => h9) rfl (by decide +kernel) rfl rfl (Nat.le_of_ble_eq_true rfl) dX12_ties_2 (fun H locs hP hD hS => ?_)
    have hP : va_P D vwCl (w_MO dA a none q1 g2 g3 g4 g5 (wa 0) g7 g8 g9 g10 g11 g12 g13 g14 g15 g16 g17 g18 (mo_set_thrown mo (0 : Int32)) ++ (w_W dA wa y_w)) H := hP
    have hD : va_D A (w_MO dA a none q1 g2 g3 g4 g5 (wa 0) g7 g8 g9 g10 g11 g12 g13 g14 g15 g16 g17 g18 (mo_set_thrown mo (0 : Int32)) ++ (w_W dA wa y_w)) := hD
    exact B_5 _ _ _ _ _ hf hP hD hS (lv_sub hl [0, 1] rfl)
  exact E0 _ _ hP hD hS

noncomputable def f_X12_odds_n_b21 (z0 : MOT) : Option (Int64 × MOT) := (f_X12_refused z0 (1 : Int32)).bind fun r3 => some ((r3.1).toInt64, r3.2)
noncomputable def f_X12_odds_n_b5 (v1 : Int32) (v2 : Int32) (z0 : MOT) : Option (Int64 × MOT) := (f_X12_isRider_n z0 v1).bind fun r1 => (if r1 = 0 then f_X12_odds_n_b21 z0 else (f_X12_isSeat_n z0 v2).bind fun r4 => (if r4 = 0 then f_X12_odds_n_b21 z0 else none))
noncomputable def f_X12_odds_n (mo : MOT) (x0 : Int32) (x1 : Int32) : Option (Int64 × MOT) := f_X12_odds_n_b5 x0 x1 (mo_set_thrown mo (0 : Int32))
set_option maxHeartbeats 4000000 in
set_option maxRecDepth 100000 in
theorem c_X12_odds_n (l : Launch) (D : va_G) (dA : Nat → ClassId) (sz : Nat) (a : Nat → Nat) (q1 : Option Nat) (g2 : Nat) (g3 : Nat) (g4 : Nat) (g5 : Nat) (g6 : Nat) (g7 : Nat) (g8 : Nat) (g9 : Nat) (g10 : Nat) (g11 : Nat) (g12 : Nat) (g13 : Nat) (g14 : Nat) (g15 : Nat) (g16 : Nat) (g17 : Nat) (g18 : Nat) (mo : MOT) (x0 : Int32) (x1 : Int32) (rv : Int64) (u0 : MOT) (hf : f_X12_odds_n mo x0 x1 = some (rv, u0)) : kb_Ml l yX12_odds cX12_odds 5 (some .long) ({ frames := 1, cells := 0, slots := 0, locals := 21 } : Room) D dA [.ref (a 0), .int x0, .int x1] sz (w_MO dA a none q1 g2 g3 g4 g5 g6 g7 g8 g9 g10 g11 g12 g13 g14 g15 g16 g17 g18 mo) 0 0 rv (w_MO dA a none q1 g2 g3 g4 g5 g6 g7 g8 g9 g10 g11 g12 g13 g14 g15 g16 g17 g18 u0) := by
  refine Met.ofW (cc := cX12_odds) (maxL := 5) (ret := (some .long)) (by decide) rfl ?_
  intro p e s m args below meth c s₁ B hml hv
  obtain ⟨rfl, hsz, hP, hK, hD0, hE⟩ := hv
  have hx := B.exec
  have hb := B.bytes
  have hr := B.returns
  have hown : s.vm.findClass RX12 = some m.cls := findClass_of_methodNamed B.named
  have hlocks := B.notSynchronized
  have hts : ∀ w ∈ kb_gw, w.before ([.ref (a 0), .int x0, .int x1] : List Value).toArray s = true := fun w hw => hK.2.1 w hw _
  subst hsz
  have hD := hD0.self (sz := s.heap.size)
  generalize hAe : va_A (w_MO dA a none q1 g2 g3 g4 g5 g6 g7 g8 g9 g10 g11 g12 g13 g14 g15 g16 g17 g18 mo) s.heap.size = A at hD hE ⊢
  have hA : ∀ q : Nat, s.heap.size ≤ q → A q := fun q h => by rw [← hAe]; exact Or.inr h
  have hS : va_S A s.heap s.heap [] := va_S.rf
  have hl := lv_entry ([.ref (a 0), .int x0, .int x1]) (n := 5) (Nat.le_of_ble_eq_true rfl)
  rw [lg_entry_eq]
  generalize (lg_sl ([.ref (a 0), .int x0, .int x1]) ++ List.replicate (5 - (lg_sl ([.ref (a 0), .int x0, .int x1])).length) Slot.unset).toArray = ls at hl ⊢
  have hl : lv_has ls 5 [(0, .ref (a 0)), (1, .int x0), (2, .int x1)] := hl
  generalize hQ : MQ below (va_Ql (fun r (_ : Unit) => r = rv) (kb_B D A (w_MO dA a none q1 g2 g3 g4 g5 g6 g7 g8 g9 g10 g11 g12 g13 g14 g15 g16 g17 g18 u0)) A) ([.ref (a 0), .int x0, .int x1] : List Value).toArray s 0 0 A = Q
  show W p l e ({ frames := 1, cells := 0, slots := 0, locals := 21 } : Room) s m ([.ref (a 0), .int x0, .int x1] : List Value).toArray below meth c s.heap [] 0 0 Q (F0 m 0 ls [])
  have RET : ∀ (r2 : Int64) (w0 : MOT) (H : Heap) (locs : List Loc) (ls : Array Slot) (pc : Nat), some (r2, w0) = some (rv, u0) → va_P D vwCl (w_MO dA a none q1 g2 g3 g4 g5 g6 g7 g8 g9 g10 g11 g12 g13 g14 g15 g16 g17 g18 w0) H → va_D A (w_MO dA a none q1 g2 g3 g4 g5 g6 g7 g8 g9 g10 g11 g12 g13 g14 g15 g16 g17 g18 w0) → va_S A s.heap H locs → decode cX12_odds pc = .ok (.lreturn, 1) → W p l e ({ frames := 1, cells := 0, slots := 0, locals := 21 } : Room) s m ([.ref (a 0), .int x0, .int x1] : List Value).toArray below meth c H locs 0 0 Q (F0 m pc ls [.long r2]) := by
    intro r2 w0 H locs ls pc hq hP hD hS hd
    cases hq
    rw [← hQ]
    exact W.lret hx hb hr (fun t ht hW => ⟨⟨_, (), rfl, rfl, by rw [ht]; exact hP, hD⟩, hS.F ht⟩) hS.2.2 hd
  have B_21 : ∀ (z0 : MOT) (H : Heap) (locs : List Loc) (ls : Array Slot), f_X12_odds_n_b21 z0 = some (rv, u0) → va_P D vwCl (w_MO dA a none q1 g2 g3 g4 g5 g6 g7 g8 g9 g10 g11 g12 g13 g14 g15 g16 g17 g18 z0) H → va_D A (w_MO dA a none q1 g2 g3 g4 g5 g6 g7 g8 g9 g10 g11 g12 g13 g14 g15 g16 g17 g18 z0) → va_S A s.heap H locs → lv_has ls 5 [(0, .ref (a 0))] → W p l e ({ frames := 1, cells := 0, slots := 0, locals := 21 } : Room) s m ([.ref (a 0), .int x0, .int x1] : List Value).toArray below meth c H locs 0 0 Q (F0 m 21 ls []) := by
    intro z0 H locs ls hf hP hD hS hl
    rw [f_X12_odds_n_b21] at hf
    refine lv_aload_n hx hb dX12_odds_21 rfl (lv_at hl 0 rfl) ?_
    refine lv_iconst (v := (1 : Int32)) hx hb dX12_odds_22 (by decide) ?_
    obtain ⟨r3, hc3, hf⟩ := kb_bind hf
    refine kb_ci (ws2 := (w_MO dA a none q1 g2 g3 g4 g5 g6 g7 g8 g9 g10 g11 g12 g13 g14 g15 g16 g17 g18 r3.2)) (kb_rV (n := 1) (As := [.int (1 : Int32)]) (rest := []) hx hb hml hown hK (c_X12_refused l D dA H.size a none q1 g2 g3 g4 g5 g6 g7 g8 g9 g10 g11 g12 g13 g14 g15 g16 g17 g18 z0 (1 : Int32) r3.1 r3.2 hc3) ⟨ww_6_82, ww_6_79, ww_6_81, ws_46, ww_1_12, rfl, by decide, by decide⟩ rfl rfl (by decide +kernel) ⟨Nat.le_of_ble_eq_true rfl, Nat.le_of_ble_eq_true rfl⟩ hP hD hS hA hE [0] rfl (by decide) 0 rfl rfl rfl hl.1 rfl (Nat.le_of_ble_eq_true rfl) dX12_odds_23 ⟨Nat.le_of_ble_eq_true rfl, Nat.le_of_ble_eq_true rfl⟩) hP hD hS hA [0] [] [0] rfl rfl (by decide) (by decide) rfl (by decide) (fun H locs hP hD hS => ?_)
    refine lv_i2l hx hb dX12_odds_26 rfl ?_
    exact RET _ _ H _ ls 27 hf hP hD hS dX12_odds_27
  have B_5 : ∀ (v1 : Int32) (v2 : Int32) (z0 : MOT) (H : Heap) (locs : List Loc) (ls : Array Slot), f_X12_odds_n_b5 v1 v2 z0 = some (rv, u0) → va_P D vwCl (w_MO dA a none q1 g2 g3 g4 g5 g6 g7 g8 g9 g10 g11 g12 g13 g14 g15 g16 g17 g18 z0) H → va_D A (w_MO dA a none q1 g2 g3 g4 g5 g6 g7 g8 g9 g10 g11 g12 g13 g14 g15 g16 g17 g18 z0) → va_S A s.heap H locs → lv_has ls 5 [(0, .ref (a 0)), (1, .int v1), (2, .int v2)] → W p l e ({ frames := 1, cells := 0, slots := 0, locals := 21 } : Room) s m ([.ref (a 0), .int x0, .int x1] : List Value).toArray below meth c H locs 0 0 Q (F0 m 5 ls []) := by
    intro v1 v2 z0 H locs ls hf hP hD hS hl
    rw [f_X12_odds_n_b5] at hf
    refine lv_aload_n hx hb dX12_odds_5 rfl (lv_at hl 0 rfl) ?_
    refine lv_iload_n hx hb dX12_odds_6 rfl (lv_at hl 1 rfl) ?_
    obtain ⟨r1, hc1, hf⟩ := kb_bind hf
    refine kb_ci (ws2 := (w_MO dA a none q1 g2 g3 g4 g5 g6 g7 g8 g9 g10 g11 g12 g13 g14 g15 g16 g17 g18 z0)) (kb_rV (n := 1) (As := [.int v1]) (rest := []) hx hb hml hown hK (c_X12_isRider_n l D dA H.size a q1 g2 g3 g4 g5 g6 g7 g8 g9 g10 g11 g12 g13 g14 g15 g16 g17 g18 z0 v1 r1 hc1) ⟨ww_8_5, ww_8_2, ww_8_4, ws_95, ww_1_12, rfl, by decide, by decide⟩ rfl rfl (by decide +kernel) ⟨Nat.le_of_ble_eq_true rfl, Nat.le_of_ble_eq_true rfl⟩ hP hD hS hA hE [0] rfl (by decide) 0 rfl rfl rfl hl.1 rfl (Nat.le_of_ble_eq_true rfl) dX12_odds_7 ⟨Nat.le_of_ble_eq_true rfl, Nat.le_of_ble_eq_true rfl⟩) hP hD hS hA [0] [] [0] rfl rfl (by decide) (by decide) rfl (by decide) (fun H locs hP hD hS => ?_)
    refine lv_if_eq (tgt := 21) hx hb dX12_odds_10 (by decide) (fun c_2 => ?_) (fun c_2 => ?_)
    · rw [if_pos c_2] at hf
      exact B_21 _ _ _ _ hf hP hD hS (lv_sub hl [0] rfl)
    · rw [if_neg c_2] at hf
      refine lv_aload_n hx hb dX12_odds_13 rfl (lv_at hl 0 rfl) ?_
      refine lv_iload_n hx hb dX12_odds_14 rfl (lv_at hl 2 rfl) ?_
      obtain ⟨r4, hc4, hf⟩ := kb_bind hf
      refine kb_ci (ws2 := (w_MO dA a none q1 g2 g3 g4 g5 g6 g7 g8 g9 g10 g11 g12 g13 g14 g15 g16 g17 g18 z0)) (kb_rV (n := 1) (As := [.int v2]) (rest := []) hx hb hml hown hK (c_X12_isSeat_n l D dA H.size a q1 g2 g3 g4 g5 g6 g7 g8 g9 g10 g11 g12 g13 g14 g15 g16 g17 g18 z0 v2 r4 hc4) ⟨ww_7_179, ww_7_176, ww_7_178, ws_84, ww_1_12, rfl, by decide, by decide⟩ rfl rfl (by decide +kernel) ⟨Nat.le_of_ble_eq_true rfl, Nat.le_of_ble_eq_true rfl⟩ hP hD hS hA hE [0] rfl (by decide) 0 rfl rfl rfl hl.1 rfl (Nat.le_of_ble_eq_true rfl) dX12_odds_15 ⟨Nat.le_of_ble_eq_true rfl, Nat.le_of_ble_eq_true rfl⟩) hP hD hS hA [0] [] [0] rfl rfl (by decide) (by decide) rfl (by decide) (fun H locs hP hD hS => ?_)
      refine lv_if_ne (tgt := 28) hx hb dX12_odds_18 (by decide) (fun c_5 => ?_) (fun c_5 => ?_)
      · rw [if_neg c_5] at hf
        refine lv_aload_n hx hb dX12_odds_28 rfl (lv_at hl 0 rfl) ?_
        cases hf
      · rw [if_pos c_5] at hf
        exact B_21 _ _ _ _ hf hP hD hS (lv_sub hl [0] rfl)
  have E0 : ∀ (H : Heap) (locs : List Loc), va_P D vwCl (w_MO dA a none q1 g2 g3 g4 g5 g6 g7 g8 g9 g10 g11 g12 g13 g14 g15 g16 g17 g18 mo) H → va_D A (w_MO dA a none q1 g2 g3 g4 g5 g6 g7 g8 g9 g10 g11 g12 g13 g14 g15 g16 g17 g18 mo) → va_S A s.heap H locs → W p l e ({ frames := 1, cells := 0, slots := 0, locals := 21 } : Room) s m ([.ref (a 0), .int x0, .int x1] : List Value).toArray below meth c H locs 0 0 Q (F0 m 0 ls []) := by
    intro H locs hP hD hS
    rw [f_X12_odds_n] at hf
    refine lv_aload_n hx hb dX12_odds_0 rfl (lv_at hl 0 rfl) ?_
    refine lv_iconst (v := (0 : Int32)) hx hb dX12_odds_1 (by decide) ?_
    refine va_put (D := D) (ci := 12) (v := .int (0 : Int32)) (ty := .int) (C := RX12) (T := TX12) (N := 35) hx hb hts kb_inX12 tyX12 tyX12_ok nmX12 hown hK.1 hP hD hS 0 rfl rfl 0 (by decide) (hK.2.w ww_5_200 rfl _) (fun _ h9 => h9) rfl (by decide +kernel) rfl rfl (Nat.le_of_ble_eq_true rfl) dX12_odds_2 (fun H locs hP hD hS => ?_)
    have hP : va_P D vwCl (w_MO dA a none q1 g2 g3 g4 g5 g6 g7 g8 g9 g10 g11 g12 g13 g14 g15 g16 g17 g18 (mo_set_thrown mo (0 : Int32))) H := hP
    have hD : va_D A (w_MO dA a none q1 g2 g3 g4 g5 g6 g7 g8 g9 g10 g11 g12 g13 g14 g15 g16 g17 g18 (mo_set_thrown mo (0 : Int32))) := hD
    exact B_5 _ _ _ _ _ _ hf hP hD hS (lv_sub hl [0, 1, 2] rfl)
  exact E0 _ _ hP hD hS

noncomputable def f_X12_ways_n_b5 (z0 : MOT) : Option (Int64 × MOT) := (f_X12_refused z0 (1 : Int32)).bind fun r1 => some ((r1.1).toInt64, r1.2)
noncomputable def f_X12_ways_n (mo : MOT) : Option (Int64 × MOT) := f_X12_ways_n_b5 (mo_set_thrown mo (0 : Int32))
set_option maxHeartbeats 4000000 in
set_option maxRecDepth 100000 in
theorem c_X12_ways_n (l : Launch) (D : va_G) (dA : Nat → ClassId) (sz : Nat) (a : Nat → Nat) (q1 : Option Nat) (g2 : Nat) (g3 : Nat) (g4 : Nat) (g5 : Nat) (g6 : Nat) (g7 : Nat) (g8 : Nat) (g9 : Nat) (g10 : Nat) (g11 : Nat) (g12 : Nat) (g13 : Nat) (g14 : Nat) (g15 : Nat) (g16 : Nat) (g17 : Nat) (g18 : Nat) (mo : MOT) (rv : Int64) (u0 : MOT) (hf : f_X12_ways_n mo = some (rv, u0)) : kb_Ml l yX12_ways cX12_ways 4 (some .long) ({ frames := 1, cells := 0, slots := 0, locals := 21 } : Room) D dA [.ref (a 0)] sz (w_MO dA a none q1 g2 g3 g4 g5 g6 g7 g8 g9 g10 g11 g12 g13 g14 g15 g16 g17 g18 mo) 0 0 rv (w_MO dA a none q1 g2 g3 g4 g5 g6 g7 g8 g9 g10 g11 g12 g13 g14 g15 g16 g17 g18 u0) := by
  refine Met.ofW (cc := cX12_ways) (maxL := 4) (ret := (some .long)) (by decide) rfl ?_
  intro p e s m args below meth c s₁ B hml hv
  obtain ⟨rfl, hsz, hP, hK, hD0, hE⟩ := hv
  have hx := B.exec
  have hb := B.bytes
  have hr := B.returns
  have hown : s.vm.findClass RX12 = some m.cls := findClass_of_methodNamed B.named
  have hlocks := B.notSynchronized
  have hts : ∀ w ∈ kb_gw, w.before ([.ref (a 0)] : List Value).toArray s = true := fun w hw => hK.2.1 w hw _
  subst hsz
  have hD := hD0.self (sz := s.heap.size)
  generalize hAe : va_A (w_MO dA a none q1 g2 g3 g4 g5 g6 g7 g8 g9 g10 g11 g12 g13 g14 g15 g16 g17 g18 mo) s.heap.size = A at hD hE ⊢
  have hA : ∀ q : Nat, s.heap.size ≤ q → A q := fun q h => by rw [← hAe]; exact Or.inr h
  have hS : va_S A s.heap s.heap [] := va_S.rf
  have hl := lv_entry ([.ref (a 0)]) (n := 4) (Nat.le_of_ble_eq_true rfl)
  rw [lg_entry_eq]
  generalize (lg_sl ([.ref (a 0)]) ++ List.replicate (4 - (lg_sl ([.ref (a 0)])).length) Slot.unset).toArray = ls at hl ⊢
  have hl : lv_has ls 4 [(0, .ref (a 0))] := hl
  generalize hQ : MQ below (va_Ql (fun r (_ : Unit) => r = rv) (kb_B D A (w_MO dA a none q1 g2 g3 g4 g5 g6 g7 g8 g9 g10 g11 g12 g13 g14 g15 g16 g17 g18 u0)) A) ([.ref (a 0)] : List Value).toArray s 0 0 A = Q
  show W p l e ({ frames := 1, cells := 0, slots := 0, locals := 21 } : Room) s m ([.ref (a 0)] : List Value).toArray below meth c s.heap [] 0 0 Q (F0 m 0 ls [])
  have RET : ∀ (r2 : Int64) (w0 : MOT) (H : Heap) (locs : List Loc) (ls : Array Slot) (pc : Nat), some (r2, w0) = some (rv, u0) → va_P D vwCl (w_MO dA a none q1 g2 g3 g4 g5 g6 g7 g8 g9 g10 g11 g12 g13 g14 g15 g16 g17 g18 w0) H → va_D A (w_MO dA a none q1 g2 g3 g4 g5 g6 g7 g8 g9 g10 g11 g12 g13 g14 g15 g16 g17 g18 w0) → va_S A s.heap H locs → decode cX12_ways pc = .ok (.lreturn, 1) → W p l e ({ frames := 1, cells := 0, slots := 0, locals := 21 } : Room) s m ([.ref (a 0)] : List Value).toArray below meth c H locs 0 0 Q (F0 m pc ls [.long r2]) := by
    intro r2 w0 H locs ls pc hq hP hD hS hd
    cases hq
    rw [← hQ]
    exact W.lret hx hb hr (fun t ht hW => ⟨⟨_, (), rfl, rfl, by rw [ht]; exact hP, hD⟩, hS.F ht⟩) hS.2.2 hd
  have B_5 : ∀ (z0 : MOT) (H : Heap) (locs : List Loc) (ls : Array Slot), f_X12_ways_n_b5 z0 = some (rv, u0) → va_P D vwCl (w_MO dA a none q1 g2 g3 g4 g5 g6 g7 g8 g9 g10 g11 g12 g13 g14 g15 g16 g17 g18 z0) H → va_D A (w_MO dA a none q1 g2 g3 g4 g5 g6 g7 g8 g9 g10 g11 g12 g13 g14 g15 g16 g17 g18 z0) → va_S A s.heap H locs → lv_has ls 4 [(0, .ref (a 0))] → W p l e ({ frames := 1, cells := 0, slots := 0, locals := 21 } : Room) s m ([.ref (a 0)] : List Value).toArray below meth c H locs 0 0 Q (F0 m 5 ls []) := by
    intro z0 H locs ls hf hP hD hS hl
    rw [f_X12_ways_n_b5] at hf
    refine lv_aload_n hx hb dX12_ways_5 rfl (lv_at hl 0 rfl) ?_
    refine va_get (D := D) (ci := 12) (v := .null) (C := RX12) (T := TX12) (N := 35) hx hb hts kb_inX12 hown hK.1 hP 0 rfl rfl 3 (by decide) (hK.2.w ww_5_203 rfl _) (fun _ h9 => h9) rfl dX12_ways_6 ?_
    refine lv_ifnonnullN hx hb dX12_ways_9 ?_
    refine lv_aload_n hx hb dX12_ways_12 rfl (lv_at hl 0 rfl) ?_
    refine lv_iconst (v := (1 : Int32)) hx hb dX12_ways_13 (by decide) ?_
    obtain ⟨r1, hc1, hf⟩ := kb_bind hf
    refine kb_ci (ws2 := (w_MO dA a none q1 g2 g3 g4 g5 g6 g7 g8 g9 g10 g11 g12 g13 g14 g15 g16 g17 g18 r1.2)) (kb_rV (n := 1) (As := [.int (1 : Int32)]) (rest := []) hx hb hml hown hK (c_X12_refused l D dA H.size a none q1 g2 g3 g4 g5 g6 g7 g8 g9 g10 g11 g12 g13 g14 g15 g16 g17 g18 z0 (1 : Int32) r1.1 r1.2 hc1) ⟨ww_6_82, ww_6_79, ww_6_81, ws_46, ww_1_12, rfl, by decide, by decide⟩ rfl rfl (by decide +kernel) ⟨Nat.le_of_ble_eq_true rfl, Nat.le_of_ble_eq_true rfl⟩ hP hD hS hA hE [0] rfl (by decide) 0 rfl rfl rfl hl.1 rfl (Nat.le_of_ble_eq_true rfl) dX12_ways_14 ⟨Nat.le_of_ble_eq_true rfl, Nat.le_of_ble_eq_true rfl⟩) hP hD hS hA [0] [] [0] rfl rfl (by decide) (by decide) rfl (by decide) (fun H locs hP hD hS => ?_)
    refine lv_i2l hx hb dX12_ways_17 rfl ?_
    exact RET _ _ H _ ls 18 hf hP hD hS dX12_ways_18
  have E0 : ∀ (H : Heap) (locs : List Loc), va_P D vwCl (w_MO dA a none q1 g2 g3 g4 g5 g6 g7 g8 g9 g10 g11 g12 g13 g14 g15 g16 g17 g18 mo) H → va_D A (w_MO dA a none q1 g2 g3 g4 g5 g6 g7 g8 g9 g10 g11 g12 g13 g14 g15 g16 g17 g18 mo) → va_S A s.heap H locs → W p l e ({ frames := 1, cells := 0, slots := 0, locals := 21 } : Room) s m ([.ref (a 0)] : List Value).toArray below meth c H locs 0 0 Q (F0 m 0 ls []) := by
    intro H locs hP hD hS
    rw [f_X12_ways_n] at hf
    refine lv_aload_n hx hb dX12_ways_0 rfl (lv_at hl 0 rfl) ?_
    refine lv_iconst (v := (0 : Int32)) hx hb dX12_ways_1 (by decide) ?_
    refine va_put (D := D) (ci := 12) (v := .int (0 : Int32)) (ty := .int) (C := RX12) (T := TX12) (N := 35) hx hb hts kb_inX12 tyX12 tyX12_ok nmX12 hown hK.1 hP hD hS 0 rfl rfl 0 (by decide) (hK.2.w ww_5_200 rfl _) (fun _ h9 => h9) rfl (by decide +kernel) rfl rfl (Nat.le_of_ble_eq_true rfl) dX12_ways_2 (fun H locs hP hD hS => ?_)
    have hP : va_P D vwCl (w_MO dA a none q1 g2 g3 g4 g5 g6 g7 g8 g9 g10 g11 g12 g13 g14 g15 g16 g17 g18 (mo_set_thrown mo (0 : Int32))) H := hP
    have hD : va_D A (w_MO dA a none q1 g2 g3 g4 g5 g6 g7 g8 g9 g10 g11 g12 g13 g14 g15 g16 g17 g18 (mo_set_thrown mo (0 : Int32))) := hD
    exact B_5 _ _ _ _ hf hP hD hS (lv_sub hl [0] rfl)
  exact E0 _ _ hP hD hS

noncomputable def f_X12_monday_n_b5 (v1 : Int32) (z0 : MOT) : Option (Int32 × MOT) := (f_X12_isSeat_n z0 v1).bind fun r1 => (if r1 = 0 then (f_X12_refused z0 (1 : Int32)).bind fun r3 => some (r3.1, r3.2) else none)
noncomputable def f_X12_monday_n (mo : MOT) (x0 : Int32) : Option (Int32 × MOT) := f_X12_monday_n_b5 x0 (mo_set_thrown mo (0 : Int32))
set_option maxHeartbeats 4000000 in
set_option maxRecDepth 100000 in
theorem c_X12_monday_n (l : Launch) (D : va_G) (dA : Nat → ClassId) (sz : Nat) (a : Nat → Nat) (q1 : Option Nat) (g2 : Nat) (g3 : Nat) (g4 : Nat) (g5 : Nat) (g6 : Nat) (g7 : Nat) (g8 : Nat) (g9 : Nat) (g10 : Nat) (g11 : Nat) (g12 : Nat) (g13 : Nat) (g14 : Nat) (g15 : Nat) (g16 : Nat) (g17 : Nat) (g18 : Nat) (mo : MOT) (x0 : Int32) (rv : Int32) (u0 : MOT) (hf : f_X12_monday_n mo x0 = some (rv, u0)) : kb_Mi l yX12_monday cX12_monday 7 (some .int) ({ frames := 1, cells := 0, slots := 0, locals := 21 } : Room) D dA [.ref (a 0), .int x0] sz (w_MO dA a none q1 g2 g3 g4 g5 g6 g7 g8 g9 g10 g11 g12 g13 g14 g15 g16 g17 g18 mo) 0 0 rv (w_MO dA a none q1 g2 g3 g4 g5 g6 g7 g8 g9 g10 g11 g12 g13 g14 g15 g16 g17 g18 u0) := by
  refine Met.ofW (cc := cX12_monday) (maxL := 7) (ret := (some .int)) (by decide) rfl ?_
  intro p e s m args below meth c s₁ B hml hv
  obtain ⟨rfl, hsz, hP, hK, hD0, hE⟩ := hv
  have hx := B.exec
  have hb := B.bytes
  have hr := B.returns
  have hown : s.vm.findClass RX12 = some m.cls := findClass_of_methodNamed B.named
  have hlocks := B.notSynchronized
  have hts : ∀ w ∈ kb_gw, w.before ([.ref (a 0), .int x0] : List Value).toArray s = true := fun w hw => hK.2.1 w hw _
  subst hsz
  have hD := hD0.self (sz := s.heap.size)
  generalize hAe : va_A (w_MO dA a none q1 g2 g3 g4 g5 g6 g7 g8 g9 g10 g11 g12 g13 g14 g15 g16 g17 g18 mo) s.heap.size = A at hD hE ⊢
  have hA : ∀ q : Nat, s.heap.size ≤ q → A q := fun q h => by rw [← hAe]; exact Or.inr h
  have hS : va_S A s.heap s.heap [] := va_S.rf
  have hl := lv_entry ([.ref (a 0), .int x0]) (n := 7) (Nat.le_of_ble_eq_true rfl)
  rw [lg_entry_eq]
  generalize (lg_sl ([.ref (a 0), .int x0]) ++ List.replicate (7 - (lg_sl ([.ref (a 0), .int x0])).length) Slot.unset).toArray = ls at hl ⊢
  have hl : lv_has ls 7 [(0, .ref (a 0)), (1, .int x0)] := hl
  generalize hQ : MQ below (va_Qi (fun r (_ : Unit) => r = rv) (kb_B D A (w_MO dA a none q1 g2 g3 g4 g5 g6 g7 g8 g9 g10 g11 g12 g13 g14 g15 g16 g17 g18 u0)) A) ([.ref (a 0), .int x0] : List Value).toArray s 0 0 A = Q
  show W p l e ({ frames := 1, cells := 0, slots := 0, locals := 21 } : Room) s m ([.ref (a 0), .int x0] : List Value).toArray below meth c s.heap [] 0 0 Q (F0 m 0 ls [])
  have RET : ∀ (r2 : Int32) (w0 : MOT) (H : Heap) (locs : List Loc) (ls : Array Slot) (pc : Nat), some (r2, w0) = some (rv, u0) → va_P D vwCl (w_MO dA a none q1 g2 g3 g4 g5 g6 g7 g8 g9 g10 g11 g12 g13 g14 g15 g16 g17 g18 w0) H → va_D A (w_MO dA a none q1 g2 g3 g4 g5 g6 g7 g8 g9 g10 g11 g12 g13 g14 g15 g16 g17 g18 w0) → va_S A s.heap H locs → decode cX12_monday pc = .ok (.ireturn, 1) → W p l e ({ frames := 1, cells := 0, slots := 0, locals := 21 } : Room) s m ([.ref (a 0), .int x0] : List Value).toArray below meth c H locs 0 0 Q (F0 m pc ls [.int r2]) := by
    intro r2 w0 H locs ls pc hq hP hD hS hd
    cases hq
    rw [← hQ]
    exact W.iret hx hb hr (fun t ht hW => ⟨⟨_, (), rfl, rfl, by rw [ht]; exact hP, hD⟩, hS.F ht⟩) hS.2.2 hd
  have B_5 : ∀ (v1 : Int32) (z0 : MOT) (H : Heap) (locs : List Loc) (ls : Array Slot), f_X12_monday_n_b5 v1 z0 = some (rv, u0) → va_P D vwCl (w_MO dA a none q1 g2 g3 g4 g5 g6 g7 g8 g9 g10 g11 g12 g13 g14 g15 g16 g17 g18 z0) H → va_D A (w_MO dA a none q1 g2 g3 g4 g5 g6 g7 g8 g9 g10 g11 g12 g13 g14 g15 g16 g17 g18 z0) → va_S A s.heap H locs → lv_has ls 7 [(0, .ref (a 0)), (1, .int v1)] → W p l e ({ frames := 1, cells := 0, slots := 0, locals := 21 } : Room) s m ([.ref (a 0), .int x0] : List Value).toArray below meth c H locs 0 0 Q (F0 m 5 ls []) := by
    intro v1 z0 H locs ls hf hP hD hS hl
    rw [f_X12_monday_n_b5] at hf
    refine lv_aload_n hx hb dX12_monday_5 rfl (lv_at hl 0 rfl) ?_
    refine lv_iload_n hx hb dX12_monday_6 rfl (lv_at hl 1 rfl) ?_
    obtain ⟨r1, hc1, hf⟩ := kb_bind hf
    refine kb_ci (ws2 := (w_MO dA a none q1 g2 g3 g4 g5 g6 g7 g8 g9 g10 g11 g12 g13 g14 g15 g16 g17 g18 z0)) (kb_rV (n := 1) (As := [.int v1]) (rest := []) hx hb hml hown hK (c_X12_isSeat_n l D dA H.size a q1 g2 g3 g4 g5 g6 g7 g8 g9 g10 g11 g12 g13 g14 g15 g16 g17 g18 z0 v1 r1 hc1) ⟨ww_7_179, ww_7_176, ww_7_178, ws_84, ww_1_12, rfl, by decide, by decide⟩ rfl rfl (by decide +kernel) ⟨Nat.le_of_ble_eq_true rfl, Nat.le_of_ble_eq_true rfl⟩ hP hD hS hA hE [0] rfl (by decide) 0 rfl rfl rfl hl.1 rfl (Nat.le_of_ble_eq_true rfl) dX12_monday_7 ⟨Nat.le_of_ble_eq_true rfl, Nat.le_of_ble_eq_true rfl⟩) hP hD hS hA [0] [] [0] rfl rfl (by decide) (by decide) rfl (by decide) (fun H locs hP hD hS => ?_)
    refine lv_if_ne (tgt := 19) hx hb dX12_monday_10 (by decide) (fun c_2 => ?_) (fun c_2 => ?_)
    · rw [if_neg c_2] at hf
      refine lv_aload_n hx hb dX12_monday_19 rfl (lv_at hl 0 rfl) ?_
      refine lv_iconst (v := (-1 : Int32)) hx hb dX12_monday_20 (by decide) ?_
      cases hf
    · rw [if_pos c_2] at hf
      refine lv_aload_n hx hb dX12_monday_13 rfl (lv_at hl 0 rfl) ?_
      refine lv_iconst (v := (1 : Int32)) hx hb dX12_monday_14 (by decide) ?_
      obtain ⟨r3, hc3, hf⟩ := kb_bind hf
      refine kb_ci (ws2 := (w_MO dA a none q1 g2 g3 g4 g5 g6 g7 g8 g9 g10 g11 g12 g13 g14 g15 g16 g17 g18 r3.2)) (kb_rV (n := 1) (As := [.int (1 : Int32)]) (rest := []) hx hb hml hown hK (c_X12_refused l D dA H.size a none q1 g2 g3 g4 g5 g6 g7 g8 g9 g10 g11 g12 g13 g14 g15 g16 g17 g18 z0 (1 : Int32) r3.1 r3.2 hc3) ⟨ww_6_82, ww_6_79, ww_6_81, ws_46, ww_1_12, rfl, by decide, by decide⟩ rfl rfl (by decide +kernel) ⟨Nat.le_of_ble_eq_true rfl, Nat.le_of_ble_eq_true rfl⟩ hP hD hS hA hE [0] rfl (by decide) 0 rfl rfl rfl hl.1 rfl (Nat.le_of_ble_eq_true rfl) dX12_monday_15 ⟨Nat.le_of_ble_eq_true rfl, Nat.le_of_ble_eq_true rfl⟩) hP hD hS hA [0] [] [0] rfl rfl (by decide) (by decide) rfl (by decide) (fun H locs hP hD hS => ?_)
      exact RET _ _ H _ ls 18 hf hP hD hS dX12_monday_18
  have E0 : ∀ (H : Heap) (locs : List Loc), va_P D vwCl (w_MO dA a none q1 g2 g3 g4 g5 g6 g7 g8 g9 g10 g11 g12 g13 g14 g15 g16 g17 g18 mo) H → va_D A (w_MO dA a none q1 g2 g3 g4 g5 g6 g7 g8 g9 g10 g11 g12 g13 g14 g15 g16 g17 g18 mo) → va_S A s.heap H locs → W p l e ({ frames := 1, cells := 0, slots := 0, locals := 21 } : Room) s m ([.ref (a 0), .int x0] : List Value).toArray below meth c H locs 0 0 Q (F0 m 0 ls []) := by
    intro H locs hP hD hS
    rw [f_X12_monday_n] at hf
    refine lv_aload_n hx hb dX12_monday_0 rfl (lv_at hl 0 rfl) ?_
    refine lv_iconst (v := (0 : Int32)) hx hb dX12_monday_1 (by decide) ?_
    refine va_put (D := D) (ci := 12) (v := .int (0 : Int32)) (ty := .int) (C := RX12) (T := TX12) (N := 35) hx hb hts kb_inX12 tyX12 tyX12_ok nmX12 hown hK.1 hP hD hS 0 rfl rfl 0 (by decide) (hK.2.w ww_5_200 rfl _) (fun _ h9 => h9) rfl (by decide +kernel) rfl rfl (Nat.le_of_ble_eq_true rfl) dX12_monday_2 (fun H locs hP hD hS => ?_)
    have hP : va_P D vwCl (w_MO dA a none q1 g2 g3 g4 g5 g6 g7 g8 g9 g10 g11 g12 g13 g14 g15 g16 g17 g18 (mo_set_thrown mo (0 : Int32))) H := hP
    have hD : va_D A (w_MO dA a none q1 g2 g3 g4 g5 g6 g7 g8 g9 g10 g11 g12 g13 g14 g15 g16 g17 g18 (mo_set_thrown mo (0 : Int32))) := hD
    exact B_5 _ _ _ _ _ hf hP hD hS (lv_sub hl [0, 1] rfl)
  exact E0 _ _ hP hD hS

noncomputable def f_X12_doorway_n_b26 (y_w : WT) (z0 : MOT) : Option (Int32 × MOT) := (f_X12_refused z0 (1 : Int32)).bind fun r3 => some (r3.1, r3.2)
noncomputable def f_X12_doorway_n_b58 (y_w : WT) (z0 : MOT) : Option (Int32 × MOT) := (f_X12_refused z0 (5 : Int32)).bind fun r9 => some (r9.1, r9.2)
noncomputable def f_X12_doorway_n_b104 (y_w : WT) (k69 : Int32 → Int32 → Int32 → Int32 → MOT → Option (Int32 × MOT)) (v1 : Int32) (v2 : Int32) (v3 : Int32) (v4 : Int32) (v5 : Int32) (s0 : Int32) (z0 : MOT) : Option (Int32 × MOT) := none
noncomputable def f_X12_doorway_n_b99 (y_w : WT) (k69 : Int32 → Int32 → Int32 → Int32 → MOT → Option (Int32 × MOT)) (v1 : Int32) (v2 : Int32) (v3 : Int32) (v4 : Int32) (v5 : Int32) (z0 : MOT) : Option (Int32 × MOT) := f_X12_doorway_n_b104 y_w k69 v1 v2 v3 v4 v5 (1 : Int32) z0
noncomputable def f_X12_doorway_n_b86 (y_w : WT) (k69 : Int32 → Int32 → Int32 → Int32 → MOT → Option (Int32 × MOT)) (v1 : Int32) (v2 : Int32) (v3 : Int32) (v4 : Int32) (s0 : Int32) (z0 : MOT) : Option (Int32 × MOT) := (if v4 = 0 then f_X12_doorway_n_b99 y_w k69 v1 v2 v3 v4 s0 z0 else (if v4 = (2 : Int32) then f_X12_doorway_n_b99 y_w k69 v1 v2 v3 v4 s0 z0 else f_X12_doorway_n_b104 y_w k69 v1 v2 v3 v4 s0 (0 : Int32) z0))
noncomputable def f_X12_doorway_n_b69 (y_w : WT) : Nat → Int32 → Int32 → Int32 → Int32 → MOT → Option (Int32 × MOT)
  | 0, _, _, _, _, _ => none
  | n + 1, v1, v2, v3, v4, z0 => (if (4 : Int32) ≤ v4 then (f_X12_done z0 v3).bind fun r13 => some (r13.1, r13.2) else (if (2 : Int32) ≤ v4 then f_X12_doorway_n_b86 y_w (f_X12_doorway_n_b69 y_w n) v1 v2 v3 v4 (0 : Int32) z0 else f_X12_doorway_n_b86 y_w (f_X12_doorway_n_b69 y_w n) v1 v2 v3 v4 (1 : Int32) z0))
noncomputable def f_X12_doorway_n_b5 (y_w : WT) (v1 : Int32) (v2 : Int32) (z0 : MOT) : Option (Int32 × MOT) := (f_X12_isRider_n z0 v1).bind fun r1 => (if r1 = 0 then f_X12_doorway_n_b26 y_w z0 else (f_X12_isRider_n z0 v2).bind fun r4 => (if r4 = 0 then f_X12_doorway_n_b26 y_w z0 else (if v1 = v2 then f_X12_doorway_n_b26 y_w z0 else if kb_in? ((0 : Int32) + v1) 56 then (if ((yW_r y_w) (((0 : Int32) + v1)).toNatClampNeg) = (101 : Int32) then if kb_in? ((0 : Int32) + v2) 56 then (if ((yW_r y_w) (((0 : Int32) + v2)).toNatClampNeg) = (101 : Int32) then f_X12_doorway_n_b69 y_w 4096 v1 v2 (0 : Int32) (0 : Int32) z0 else f_X12_doorway_n_b58 y_w z0) else none else f_X12_doorway_n_b58 y_w z0) else none)))
noncomputable def f_X12_doorway_n (mo : MOT) (y_w : WT) (x0 : Int32) (x1 : Int32) : Option (Int32 × MOT) := f_X12_doorway_n_b5 y_w x0 x1 (mo_set_thrown mo (0 : Int32))
set_option maxHeartbeats 4000000 in
set_option maxRecDepth 100000 in
theorem c_X12_doorway_n (l : Launch) (D : va_G) (dA : Nat → ClassId) (sz : Nat) (a : Nat → Nat) (wa : Nat → Nat) (q1 : Option Nat) (g2 : Nat) (g3 : Nat) (g4 : Nat) (g5 : Nat) (g7 : Nat) (g8 : Nat) (g9 : Nat) (g10 : Nat) (g11 : Nat) (g12 : Nat) (g13 : Nat) (g14 : Nat) (g15 : Nat) (g16 : Nat) (g17 : Nat) (g18 : Nat) (mo : MOT) (y_w : WT) (x0 : Int32) (x1 : Int32) (rv : Int32) (u0 : MOT) (hf : f_X12_doorway_n mo y_w x0 x1 = some (rv, u0)) : kb_Mi l yX12_doorway cX12_doorway 7 (some .int) ({ frames := 1, cells := 0, slots := 0, locals := 21 } : Room) D dA [.ref (a 0), .int x0, .int x1] sz (w_MO dA a none q1 g2 g3 g4 g5 (wa 0) g7 g8 g9 g10 g11 g12 g13 g14 g15 g16 g17 g18 mo ++ (w_W dA wa y_w)) 0 0 rv (w_MO dA a none q1 g2 g3 g4 g5 (wa 0) g7 g8 g9 g10 g11 g12 g13 g14 g15 g16 g17 g18 u0 ++ (w_W dA wa y_w)) := by
  refine Met.ofW (cc := cX12_doorway) (maxL := 7) (ret := (some .int)) (by decide) rfl ?_
  intro p e s m args below meth c s₁ B hml hv
  obtain ⟨rfl, hsz, hP, hK, hD0, hE⟩ := hv
  have hx := B.exec
  have hb := B.bytes
  have hr := B.returns
  have hown : s.vm.findClass RX12 = some m.cls := findClass_of_methodNamed B.named
  have hlocks := B.notSynchronized
  have hts : ∀ w ∈ kb_gw, w.before ([.ref (a 0), .int x0, .int x1] : List Value).toArray s = true := fun w hw => hK.2.1 w hw _
  subst hsz
  have hD := hD0.self (sz := s.heap.size)
  generalize hAe : va_A (w_MO dA a none q1 g2 g3 g4 g5 (wa 0) g7 g8 g9 g10 g11 g12 g13 g14 g15 g16 g17 g18 mo ++ (w_W dA wa y_w)) s.heap.size = A at hD hE ⊢
  have hA : ∀ q : Nat, s.heap.size ≤ q → A q := fun q h => by rw [← hAe]; exact Or.inr h
  have hS : va_S A s.heap s.heap [] := va_S.rf
  have hl := lv_entry ([.ref (a 0), .int x0, .int x1]) (n := 7) (Nat.le_of_ble_eq_true rfl)
  rw [lg_entry_eq]
  generalize (lg_sl ([.ref (a 0), .int x0, .int x1]) ++ List.replicate (7 - (lg_sl ([.ref (a 0), .int x0, .int x1])).length) Slot.unset).toArray = ls at hl ⊢
  have hl : lv_has ls 7 [(0, .ref (a 0)), (1, .int x0), (2, .int x1)] := hl
  generalize hQ : MQ below (va_Qi (fun r (_ : Unit) => r = rv) (kb_B D A (w_MO dA a none q1 g2 g3 g4 g5 (wa 0) g7 g8 g9 g10 g11 g12 g13 g14 g15 g16 g17 g18 u0 ++ (w_W dA wa y_w))) A) ([.ref (a 0), .int x0, .int x1] : List Value).toArray s 0 0 A = Q
  show W p l e ({ frames := 1, cells := 0, slots := 0, locals := 21 } : Room) s m ([.ref (a 0), .int x0, .int x1] : List Value).toArray below meth c s.heap [] 0 0 Q (F0 m 0 ls [])
  have RET : ∀ (r2 : Int32) (w0 : MOT) (H : Heap) (locs : List Loc) (ls : Array Slot) (pc : Nat), some (r2, w0) = some (rv, u0) → va_P D vwCl (w_MO dA a none q1 g2 g3 g4 g5 (wa 0) g7 g8 g9 g10 g11 g12 g13 g14 g15 g16 g17 g18 w0 ++ (w_W dA wa y_w)) H → va_D A (w_MO dA a none q1 g2 g3 g4 g5 (wa 0) g7 g8 g9 g10 g11 g12 g13 g14 g15 g16 g17 g18 w0 ++ (w_W dA wa y_w)) → va_S A s.heap H locs → decode cX12_doorway pc = .ok (.ireturn, 1) → W p l e ({ frames := 1, cells := 0, slots := 0, locals := 21 } : Room) s m ([.ref (a 0), .int x0, .int x1] : List Value).toArray below meth c H locs 0 0 Q (F0 m pc ls [.int r2]) := by
    intro r2 w0 H locs ls pc hq hP hD hS hd
    cases hq
    rw [← hQ]
    exact W.iret hx hb hr (fun t ht hW => ⟨⟨_, (), rfl, rfl, by rw [ht]; exact hP, hD⟩, hS.F ht⟩) hS.2.2 hd
  have B_26 : ∀ (z0 : MOT) (H : Heap) (locs : List Loc) (ls : Array Slot), f_X12_doorway_n_b26 y_w z0 = some (rv, u0) → va_P D vwCl (w_MO dA a none q1 g2 g3 g4 g5 (wa 0) g7 g8 g9 g10 g11 g12 g13 g14 g15 g16 g17 g18 z0 ++ (w_W dA wa y_w)) H → va_D A (w_MO dA a none q1 g2 g3 g4 g5 (wa 0) g7 g8 g9 g10 g11 g12 g13 g14 g15 g16 g17 g18 z0 ++ (w_W dA wa y_w)) → va_S A s.heap H locs → lv_has ls 7 [(0, .ref (a 0))] → W p l e ({ frames := 1, cells := 0, slots := 0, locals := 21 } : Room) s m ([.ref (a 0), .int x0, .int x1] : List Value).toArray below meth c H locs 0 0 Q (F0 m 26 ls []) := by
    intro z0 H locs ls hf hP hD hS hl
    rw [f_X12_doorway_n_b26] at hf
    refine lv_aload_n hx hb dX12_doorway_26 rfl (lv_at hl 0 rfl) ?_
    refine lv_iconst (v := (1 : Int32)) hx hb dX12_doorway_27 (by decide) ?_
    obtain ⟨r3, hc3, hf⟩ := kb_bind hf
    refine kb_ci (ws2 := (w_MO dA a none q1 g2 g3 g4 g5 (wa 0) g7 g8 g9 g10 g11 g12 g13 g14 g15 g16 g17 g18 r3.2 ++ (w_W dA wa y_w))) (kb_rV (n := 1) (As := [.int (1 : Int32)]) (rest := []) hx hb hml hown hK (c_X12_refused l D dA H.size a none q1 g2 g3 g4 g5 (wa 0) g7 g8 g9 g10 g11 g12 g13 g14 g15 g16 g17 g18 z0 (1 : Int32) r3.1 r3.2 hc3) ⟨ww_6_82, ww_6_79, ww_6_81, ws_46, ww_1_12, rfl, by decide, by decide⟩ rfl rfl (by decide +kernel) ⟨Nat.le_of_ble_eq_true rfl, Nat.le_of_ble_eq_true rfl⟩ hP hD hS hA hE [0] rfl (by decide) 0 rfl rfl rfl hl.1 rfl (Nat.le_of_ble_eq_true rfl) dX12_doorway_28 ⟨Nat.le_of_ble_eq_true rfl, Nat.le_of_ble_eq_true rfl⟩) hP hD hS hA [0] [1] [1, 0] rfl rfl (by decide) (by decide) rfl (by decide) (fun H locs hP hD hS => ?_)
    exact RET _ _ H _ ls 31 hf hP hD hS dX12_doorway_31
  have B_58 : ∀ (z0 : MOT) (H : Heap) (locs : List Loc) (ls : Array Slot), f_X12_doorway_n_b58 y_w z0 = some (rv, u0) → va_P D vwCl (w_MO dA a none q1 g2 g3 g4 g5 (wa 0) g7 g8 g9 g10 g11 g12 g13 g14 g15 g16 g17 g18 z0 ++ (w_W dA wa y_w)) H → va_D A (w_MO dA a none q1 g2 g3 g4 g5 (wa 0) g7 g8 g9 g10 g11 g12 g13 g14 g15 g16 g17 g18 z0 ++ (w_W dA wa y_w)) → va_S A s.heap H locs → lv_has ls 7 [(0, .ref (a 0))] → W p l e ({ frames := 1, cells := 0, slots := 0, locals := 21 } : Room) s m ([.ref (a 0), .int x0, .int x1] : List Value).toArray below meth c H locs 0 0 Q (F0 m 58 ls []) := by
    intro z0 H locs ls hf hP hD hS hl
    rw [f_X12_doorway_n_b58] at hf
    refine lv_aload_n hx hb dX12_doorway_58 rfl (lv_at hl 0 rfl) ?_
    refine lv_iconst (v := (5 : Int32)) hx hb dX12_doorway_59 (by decide) ?_
    obtain ⟨r9, hc9, hf⟩ := kb_bind hf
    refine kb_ci (ws2 := (w_MO dA a none q1 g2 g3 g4 g5 (wa 0) g7 g8 g9 g10 g11 g12 g13 g14 g15 g16 g17 g18 r9.2 ++ (w_W dA wa y_w))) (kb_rV (n := 1) (As := [.int (5 : Int32)]) (rest := []) hx hb hml hown hK (c_X12_refused l D dA H.size a none q1 g2 g3 g4 g5 (wa 0) g7 g8 g9 g10 g11 g12 g13 g14 g15 g16 g17 g18 z0 (5 : Int32) r9.1 r9.2 hc9) ⟨ww_6_82, ww_6_79, ww_6_81, ws_46, ww_1_12, rfl, by decide, by decide⟩ rfl rfl (by decide +kernel) ⟨Nat.le_of_ble_eq_true rfl, Nat.le_of_ble_eq_true rfl⟩ hP hD hS hA hE [0] rfl (by decide) 0 rfl rfl rfl hl.1 rfl (Nat.le_of_ble_eq_true rfl) dX12_doorway_60 ⟨Nat.le_of_ble_eq_true rfl, Nat.le_of_ble_eq_true rfl⟩) hP hD hS hA [0] [1] [1, 0] rfl rfl (by decide) (by decide) rfl (by decide) (fun H locs hP hD hS => ?_)
    exact RET _ _ H _ ls 63 hf hP hD hS dX12_doorway_63
  have B_104 : ∀ (k69 : Int32 → Int32 → Int32 → Int32 → MOT → Option (Int32 × MOT)) (hk69 : ∀ (v1 : Int32) (v2 : Int32) (v3 : Int32) (v4 : Int32) (z0 : MOT) (H : Heap) (locs : List Loc) (ls : Array Slot), k69 v1 v2 v3 v4 z0 = some (rv, u0) → va_P D vwCl (w_MO dA a none q1 g2 g3 g4 g5 (wa 0) g7 g8 g9 g10 g11 g12 g13 g14 g15 g16 g17 g18 z0 ++ (w_W dA wa y_w)) H → va_D A (w_MO dA a none q1 g2 g3 g4 g5 (wa 0) g7 g8 g9 g10 g11 g12 g13 g14 g15 g16 g17 g18 z0 ++ (w_W dA wa y_w)) → va_S A s.heap H locs → lv_has ls 7 [(0, .ref (a 0)), (1, .int v1), (2, .int v2), (3, .int v3), (4, .int v4)] → W p l e ({ frames := 1, cells := 0, slots := 0, locals := 21 } : Room) s m ([.ref (a 0), .int x0, .int x1] : List Value).toArray below meth c H locs 0 0 Q (F0 m 69 ls [])) (v1 : Int32) (v2 : Int32) (v3 : Int32) (v4 : Int32) (v5 : Int32) (s0 : Int32) (z0 : MOT) (H : Heap) (locs : List Loc) (ls : Array Slot), f_X12_doorway_n_b104 y_w k69 v1 v2 v3 v4 v5 s0 z0 = some (rv, u0) → va_P D vwCl (w_MO dA a none q1 g2 g3 g4 g5 (wa 0) g7 g8 g9 g10 g11 g12 g13 g14 g15 g16 g17 g18 z0 ++ (w_W dA wa y_w)) H → va_D A (w_MO dA a none q1 g2 g3 g4 g5 (wa 0) g7 g8 g9 g10 g11 g12 g13 g14 g15 g16 g17 g18 z0 ++ (w_W dA wa y_w)) → va_S A s.heap H locs → lv_has ls 7 [(0, .ref (a 0)), (1, .int v1), (2, .int v2), (3, .int v3), (4, .int v4), (5, .int v5)] → W p l e ({ frames := 1, cells := 0, slots := 0, locals := 21 } : Room) s m ([.ref (a 0), .int x0, .int x1] : List Value).toArray below meth c H locs 0 0 Q (F0 m 104 ls [.int s0]) := by
    intro k69 hk69 v1 v2 v3 v4 v5 s0 z0 H locs ls hf hP hD hS hl
    rw [f_X12_doorway_n_b104] at hf
    refine lv_istore (lv' := [(6, .int s0), (0, .ref (a 0)), (1, .int v1), (2, .int v2), (3, .int v3), (4, .int v4), (5, .int v5)]) hx hb dX12_doorway_104 hl (by decide) rfl (fun ls hl => ?_)
    refine lv_aload_n hx hb dX12_doorway_106 rfl (lv_at hl 1 rfl) ?_
    refine lv_iload_n hx hb dX12_doorway_107 rfl (lv_at hl 2 rfl) ?_
    refine lv_iload hx hb dX12_doorway_108 (lv_at hl 6 rfl) ?_
    refine lv_iload hx hb dX12_doorway_110 (lv_at hl 0 rfl) ?_
    cases hf
  have B_99 : ∀ (k69 : Int32 → Int32 → Int32 → Int32 → MOT → Option (Int32 × MOT)) (hk69 : ∀ (v1 : Int32) (v2 : Int32) (v3 : Int32) (v4 : Int32) (z0 : MOT) (H : Heap) (locs : List Loc) (ls : Array Slot), k69 v1 v2 v3 v4 z0 = some (rv, u0) → va_P D vwCl (w_MO dA a none q1 g2 g3 g4 g5 (wa 0) g7 g8 g9 g10 g11 g12 g13 g14 g15 g16 g17 g18 z0 ++ (w_W dA wa y_w)) H → va_D A (w_MO dA a none q1 g2 g3 g4 g5 (wa 0) g7 g8 g9 g10 g11 g12 g13 g14 g15 g16 g17 g18 z0 ++ (w_W dA wa y_w)) → va_S A s.heap H locs → lv_has ls 7 [(0, .ref (a 0)), (1, .int v1), (2, .int v2), (3, .int v3), (4, .int v4)] → W p l e ({ frames := 1, cells := 0, slots := 0, locals := 21 } : Room) s m ([.ref (a 0), .int x0, .int x1] : List Value).toArray below meth c H locs 0 0 Q (F0 m 69 ls [])) (v1 : Int32) (v2 : Int32) (v3 : Int32) (v4 : Int32) (v5 : Int32) (z0 : MOT) (H : Heap) (locs : List Loc) (ls : Array Slot), f_X12_doorway_n_b99 y_w k69 v1 v2 v3 v4 v5 z0 = some (rv, u0) → va_P D vwCl (w_MO dA a none q1 g2 g3 g4 g5 (wa 0) g7 g8 g9 g10 g11 g12 g13 g14 g15 g16 g17 g18 z0 ++ (w_W dA wa y_w)) H → va_D A (w_MO dA a none q1 g2 g3 g4 g5 (wa 0) g7 g8 g9 g10 g11 g12 g13 g14 g15 g16 g17 g18 z0 ++ (w_W dA wa y_w)) → va_S A s.heap H locs → lv_has ls 7 [(0, .ref (a 0)), (1, .int v1), (2, .int v2), (3, .int v3), (4, .int v4), (5, .int v5)] → W p l e ({ frames := 1, cells := 0, slots := 0, locals := 21 } : Room) s m ([.ref (a 0), .int x0, .int x1] : List Value).toArray below meth c H locs 0 0 Q (F0 m 99 ls []) := by
    intro k69 hk69 v1 v2 v3 v4 v5 z0 H locs ls hf hP hD hS hl
    rw [f_X12_doorway_n_b99] at hf
    refine lv_iconst (v := (1 : Int32)) hx hb dX12_doorway_99 (by decide) ?_
    refine lv_goto (tgt := 104) hx hb dX12_doorway_100 (by decide) ?_
    exact B_104 k69 hk69 _ _ _ _ _ _ _ _ _ _ hf hP hD hS (lv_sub hl [0, 1, 2, 3, 4, 5] rfl)
  have B_86 : ∀ (k69 : Int32 → Int32 → Int32 → Int32 → MOT → Option (Int32 × MOT)) (hk69 : ∀ (v1 : Int32) (v2 : Int32) (v3 : Int32) (v4 : Int32) (z0 : MOT) (H : Heap) (locs : List Loc) (ls : Array Slot), k69 v1 v2 v3 v4 z0 = some (rv, u0) → va_P D vwCl (w_MO dA a none q1 g2 g3 g4 g5 (wa 0) g7 g8 g9 g10 g11 g12 g13 g14 g15 g16 g17 g18 z0 ++ (w_W dA wa y_w)) H → va_D A (w_MO dA a none q1 g2 g3 g4 g5 (wa 0) g7 g8 g9 g10 g11 g12 g13 g14 g15 g16 g17 g18 z0 ++ (w_W dA wa y_w)) → va_S A s.heap H locs → lv_has ls 7 [(0, .ref (a 0)), (1, .int v1), (2, .int v2), (3, .int v3), (4, .int v4)] → W p l e ({ frames := 1, cells := 0, slots := 0, locals := 21 } : Room) s m ([.ref (a 0), .int x0, .int x1] : List Value).toArray below meth c H locs 0 0 Q (F0 m 69 ls [])) (v1 : Int32) (v2 : Int32) (v3 : Int32) (v4 : Int32) (s0 : Int32) (z0 : MOT) (H : Heap) (locs : List Loc) (ls : Array Slot), f_X12_doorway_n_b86 y_w k69 v1 v2 v3 v4 s0 z0 = some (rv, u0) → va_P D vwCl (w_MO dA a none q1 g2 g3 g4 g5 (wa 0) g7 g8 g9 g10 g11 g12 g13 g14 g15 g16 g17 g18 z0 ++ (w_W dA wa y_w)) H → va_D A (w_MO dA a none q1 g2 g3 g4 g5 (wa 0) g7 g8 g9 g10 g11 g12 g13 g14 g15 g16 g17 g18 z0 ++ (w_W dA wa y_w)) → va_S A s.heap H locs → lv_has ls 7 [(0, .ref (a 0)), (1, .int v1), (2, .int v2), (3, .int v3), (4, .int v4)] → W p l e ({ frames := 1, cells := 0, slots := 0, locals := 21 } : Room) s m ([.ref (a 0), .int x0, .int x1] : List Value).toArray below meth c H locs 0 0 Q (F0 m 86 ls [.int s0]) := by
    intro k69 hk69 v1 v2 v3 v4 s0 z0 H locs ls hf hP hD hS hl
    rw [f_X12_doorway_n_b86] at hf
    refine lv_istore (lv' := [(5, .int s0), (0, .ref (a 0)), (1, .int v1), (2, .int v2), (3, .int v3), (4, .int v4)]) hx hb dX12_doorway_86 hl (by decide) rfl (fun ls hl => ?_)
    refine lv_iload hx hb dX12_doorway_88 (lv_at hl 5 rfl) ?_
    refine lv_if_eq (tgt := 99) hx hb dX12_doorway_90 (by decide) (fun c_15 => ?_) (fun c_15 => ?_)
    · rw [if_pos c_15] at hf
      exact B_99 k69 hk69 _ _ _ _ _ _ _ _ _ hf hP hD hS (lv_sub hl [1, 2, 3, 4, 5, 0] rfl)
    · rw [if_neg c_15] at hf
      refine lv_iload hx hb dX12_doorway_93 (lv_at hl 5 rfl) ?_
      refine lv_iconst (v := (2 : Int32)) hx hb dX12_doorway_95 (by decide) ?_
      refine lv_icmp_ne (tgt := 103) hx hb dX12_doorway_96 (by decide) (fun c_16 => ?_) (fun c_16 => ?_)
      · rw [if_neg c_16] at hf
        refine lv_iconst (v := (0 : Int32)) hx hb dX12_doorway_103 (by decide) ?_
        exact B_104 k69 hk69 _ _ _ _ _ _ _ _ _ _ hf hP hD hS (lv_sub hl [1, 2, 3, 4, 5, 0] rfl)
      · rw [if_pos c_16] at hf
        exact B_99 k69 hk69 _ _ _ _ _ _ _ _ _ hf hP hD hS (lv_sub hl [1, 2, 3, 4, 5, 0] rfl)
  have B_69 : ∀ (n : Nat) (v1 : Int32) (v2 : Int32) (v3 : Int32) (v4 : Int32) (z0 : MOT) (H : Heap) (locs : List Loc) (ls : Array Slot), f_X12_doorway_n_b69 y_w n v1 v2 v3 v4 z0 = some (rv, u0) → va_P D vwCl (w_MO dA a none q1 g2 g3 g4 g5 (wa 0) g7 g8 g9 g10 g11 g12 g13 g14 g15 g16 g17 g18 z0 ++ (w_W dA wa y_w)) H → va_D A (w_MO dA a none q1 g2 g3 g4 g5 (wa 0) g7 g8 g9 g10 g11 g12 g13 g14 g15 g16 g17 g18 z0 ++ (w_W dA wa y_w)) → va_S A s.heap H locs → lv_has ls 7 [(0, .ref (a 0)), (1, .int v1), (2, .int v2), (3, .int v3), (4, .int v4)] → W p l e ({ frames := 1, cells := 0, slots := 0, locals := 21 } : Room) s m ([.ref (a 0), .int x0, .int x1] : List Value).toArray below meth c H locs 0 0 Q (F0 m 69 ls []) := by
    intro n
    induction n with
    | zero =>
      intro v1 v2 v3 v4 z0 H locs ls hf
      exact absurd hf (by simp [f_X12_doorway_n_b69])
    | succ n ih =>
      intro v1 v2 v3 v4 z0 H locs ls hf hP hD hS hl
      rw [f_X12_doorway_n_b69] at hf
      refine lv_iload hx hb dX12_doorway_69 (lv_at hl 4 rfl) ?_
      refine lv_iconst (v := (4 : Int32)) hx hb dX12_doorway_71 (by decide) ?_
      refine lv_icmp_ge (tgt := 143) hx hb dX12_doorway_72 (by decide) (fun c_12 => ?_) (fun c_12 => ?_)
      · rw [if_pos c_12] at hf
        refine lv_aload_n hx hb dX12_doorway_143 rfl (lv_at hl 0 rfl) ?_
        refine lv_iload_n hx hb dX12_doorway_144 rfl (lv_at hl 3 rfl) ?_
        obtain ⟨r13, hc13, hf⟩ := kb_bind hf
        refine kb_ci (ws2 := (w_MO dA a none q1 g2 g3 g4 g5 (wa 0) g7 g8 g9 g10 g11 g12 g13 g14 g15 g16 g17 g18 r13.2 ++ (w_W dA wa y_w))) (kb_rV (n := 1) (As := [.int v3]) (rest := []) hx hb hml hown hK (c_X12_done l D dA H.size a none q1 g2 g3 g4 g5 (wa 0) g7 g8 g9 g10 g11 g12 g13 g14 g15 g16 g17 g18 z0 v3 r13.1 r13.2 hc13) ⟨ww_7_100, ww_7_97, ww_7_99, ws_71, ww_1_12, rfl, by decide, by decide⟩ rfl rfl (by decide +kernel) ⟨Nat.le_of_ble_eq_true rfl, Nat.le_of_ble_eq_true rfl⟩ hP hD hS hA hE [0] rfl (by decide) 0 rfl rfl rfl hl.1 rfl (Nat.le_of_ble_eq_true rfl) dX12_doorway_145 ⟨Nat.le_of_ble_eq_true rfl, Nat.le_of_ble_eq_true rfl⟩) hP hD hS hA [0] [1] [1, 0] rfl rfl (by decide) (by decide) rfl (by decide) (fun H locs hP hD hS => ?_)
        exact RET _ _ H _ ls 148 hf hP hD hS dX12_doorway_148
      · rw [if_neg c_12] at hf
        refine lv_iload hx hb dX12_doorway_75 (lv_at hl 4 rfl) ?_
        refine lv_iconst (v := (2 : Int32)) hx hb dX12_doorway_77 (by decide) ?_
        refine lv_icmp_ge (tgt := 85) hx hb dX12_doorway_78 (by decide) (fun c_14 => ?_) (fun c_14 => ?_)
        · rw [if_pos c_14] at hf
          refine lv_iconst (v := (0 : Int32)) hx hb dX12_doorway_85 (by decide) ?_
          exact B_86 (f_X12_doorway_n_b69 y_w n) ih _ _ _ _ _ _ _ _ _ hf hP hD hS (lv_sub hl [0, 1, 2, 3, 4] rfl)
        · rw [if_neg c_14] at hf
          refine lv_iconst (v := (1 : Int32)) hx hb dX12_doorway_81 (by decide) ?_
          refine lv_goto (tgt := 86) hx hb dX12_doorway_82 (by decide) ?_
          exact B_86 (f_X12_doorway_n_b69 y_w n) ih _ _ _ _ _ _ _ _ _ hf hP hD hS (lv_sub hl [0, 1, 2, 3, 4] rfl)
  have B_5 : ∀ (v1 : Int32) (v2 : Int32) (z0 : MOT) (H : Heap) (locs : List Loc) (ls : Array Slot), f_X12_doorway_n_b5 y_w v1 v2 z0 = some (rv, u0) → va_P D vwCl (w_MO dA a none q1 g2 g3 g4 g5 (wa 0) g7 g8 g9 g10 g11 g12 g13 g14 g15 g16 g17 g18 z0 ++ (w_W dA wa y_w)) H → va_D A (w_MO dA a none q1 g2 g3 g4 g5 (wa 0) g7 g8 g9 g10 g11 g12 g13 g14 g15 g16 g17 g18 z0 ++ (w_W dA wa y_w)) → va_S A s.heap H locs → lv_has ls 7 [(0, .ref (a 0)), (1, .int v1), (2, .int v2)] → W p l e ({ frames := 1, cells := 0, slots := 0, locals := 21 } : Room) s m ([.ref (a 0), .int x0, .int x1] : List Value).toArray below meth c H locs 0 0 Q (F0 m 5 ls []) := by
    intro v1 v2 z0 H locs ls hf hP hD hS hl
    rw [f_X12_doorway_n_b5] at hf
    refine lv_aload_n hx hb dX12_doorway_5 rfl (lv_at hl 0 rfl) ?_
    refine lv_iload_n hx hb dX12_doorway_6 rfl (lv_at hl 1 rfl) ?_
    obtain ⟨r1, hc1, hf⟩ := kb_bind hf
    refine kb_ci (ws2 := (w_MO dA a none q1 g2 g3 g4 g5 (wa 0) g7 g8 g9 g10 g11 g12 g13 g14 g15 g16 g17 g18 z0 ++ (w_W dA wa y_w))) (kb_rV (n := 1) (As := [.int v1]) (rest := []) hx hb hml hown hK (c_X12_isRider_n l D dA H.size a q1 g2 g3 g4 g5 (wa 0) g7 g8 g9 g10 g11 g12 g13 g14 g15 g16 g17 g18 z0 v1 r1 hc1) ⟨ww_8_5, ww_8_2, ww_8_4, ws_95, ww_1_12, rfl, by decide, by decide⟩ rfl rfl (by decide +kernel) ⟨Nat.le_of_ble_eq_true rfl, Nat.le_of_ble_eq_true rfl⟩ hP hD hS hA hE [0] rfl (by decide) 0 rfl rfl rfl hl.1 rfl (Nat.le_of_ble_eq_true rfl) dX12_doorway_7 ⟨Nat.le_of_ble_eq_true rfl, Nat.le_of_ble_eq_true rfl⟩) hP hD hS hA [0] [1] [1, 0] rfl rfl (by decide) (by decide) rfl (by decide) (fun H locs hP hD hS => ?_)
    refine lv_if_eq (tgt := 26) hx hb dX12_doorway_10 (by decide) (fun c_2 => ?_) (fun c_2 => ?_)
    · rw [if_pos c_2] at hf
      exact B_26 _ _ _ _ hf hP hD hS (lv_sub hl [0] rfl)
    · rw [if_neg c_2] at hf
      refine lv_aload_n hx hb dX12_doorway_13 rfl (lv_at hl 0 rfl) ?_
      refine lv_iload_n hx hb dX12_doorway_14 rfl (lv_at hl 2 rfl) ?_
      obtain ⟨r4, hc4, hf⟩ := kb_bind hf
      refine kb_ci (ws2 := (w_MO dA a none q1 g2 g3 g4 g5 (wa 0) g7 g8 g9 g10 g11 g12 g13 g14 g15 g16 g17 g18 z0 ++ (w_W dA wa y_w))) (kb_rV (n := 1) (As := [.int v2]) (rest := []) hx hb hml hown hK (c_X12_isRider_n l D dA H.size a q1 g2 g3 g4 g5 (wa 0) g7 g8 g9 g10 g11 g12 g13 g14 g15 g16 g17 g18 z0 v2 r4 hc4) ⟨ww_8_5, ww_8_2, ww_8_4, ws_95, ww_1_12, rfl, by decide, by decide⟩ rfl rfl (by decide +kernel) ⟨Nat.le_of_ble_eq_true rfl, Nat.le_of_ble_eq_true rfl⟩ hP hD hS hA hE [0] rfl (by decide) 0 rfl rfl rfl hl.1 rfl (Nat.le_of_ble_eq_true rfl) dX12_doorway_15 ⟨Nat.le_of_ble_eq_true rfl, Nat.le_of_ble_eq_true rfl⟩) hP hD hS hA [0] [1] [1, 0] rfl rfl (by decide) (by decide) rfl (by decide) (fun H locs hP hD hS => ?_)
      refine lv_if_eq (tgt := 26) hx hb dX12_doorway_18 (by decide) (fun c_5 => ?_) (fun c_5 => ?_)
      · rw [if_pos c_5] at hf
        exact B_26 _ _ _ _ hf hP hD hS (lv_sub hl [0] rfl)
      · rw [if_neg c_5] at hf
        refine lv_iload_n hx hb dX12_doorway_21 rfl (lv_at hl 1 rfl) ?_
        refine lv_iload_n hx hb dX12_doorway_22 rfl (lv_at hl 2 rfl) ?_
        refine lv_icmp_ne (tgt := 32) hx hb dX12_doorway_23 (by decide) (fun c_6 => ?_) (fun c_6 => ?_)
        · rw [if_neg c_6] at hf
          refine lv_aload_n hx hb dX12_doorway_32 rfl (lv_at hl 0 rfl) ?_
          refine va_get (D := D) (ci := 12) (v := .ref (wa 0)) (C := RX12) (T := TX12) (N := 35) hx hb hts kb_inX12 hown hK.1 hP 0 rfl rfl 19 (by decide) (hK.2.w ww_5_219 rfl _) (fun _ h9 => h9) rfl dX12_doorway_33 ?_
          refine lv_iconst (v := (0 : Int32)) hx hb dX12_doorway_36 (by decide) ?_
          refine lv_iload_n hx hb dX12_doorway_37 rfl (lv_at hl 1 rfl) ?_
          refine lv_iadd hx hb dX12_doorway_38 ?_
          obtain ⟨h_7, hf⟩ := kb_if hf
          refine va_iald (D := D) hx hb hK.1 hP 1 0 rfl rfl h_7 dX12_doorway_39 ?_
          refine lv_bipush (v := (101 : Int32)) hx hb dX12_doorway_40 (by decide) ?_
          refine lv_icmp_ne (tgt := 58) hx hb dX12_doorway_42 (by decide) (fun c_8 => ?_) (fun c_8 => ?_)
          · rw [if_neg c_8] at hf
            exact B_58 _ _ _ _ hf hP hD hS (lv_sub hl [0] rfl)
          · rw [if_pos c_8] at hf
            refine lv_aload_n hx hb dX12_doorway_45 rfl (lv_at hl 0 rfl) ?_
            refine va_get (D := D) (ci := 12) (v := .ref (wa 0)) (C := RX12) (T := TX12) (N := 35) hx hb hts kb_inX12 hown hK.1 hP 0 rfl rfl 19 (by decide) (hK.2.w ww_5_219 rfl _) (fun _ h9 => h9) rfl dX12_doorway_46 ?_
            refine lv_iconst (v := (0 : Int32)) hx hb dX12_doorway_49 (by decide) ?_
            refine lv_iload_n hx hb dX12_doorway_50 rfl (lv_at hl 2 rfl) ?_
            refine lv_iadd hx hb dX12_doorway_51 ?_
            obtain ⟨h_10, hf⟩ := kb_if hf
            refine va_iald (D := D) hx hb hK.1 hP 1 0 rfl rfl h_10 dX12_doorway_52 ?_
            refine lv_bipush (v := (101 : Int32)) hx hb dX12_doorway_53 (by decide) ?_
            refine lv_icmp_eq (tgt := 64) hx hb dX12_doorway_55 (by decide) (fun c_11 => ?_) (fun c_11 => ?_)
            · rw [if_pos c_11] at hf
              refine lv_iconst (v := (0 : Int32)) hx hb dX12_doorway_64 (by decide) ?_
              refine lv_istore_n (lv' := [(3, .int (0 : Int32)), (0, .ref (a 0)), (1, .int v1), (2, .int v2)]) hx hb dX12_doorway_65 rfl hl (by decide) rfl (fun ls hl => ?_)
              refine lv_iconst (v := (0 : Int32)) hx hb dX12_doorway_66 (by decide) ?_
              refine lv_istore (lv' := [(4, .int (0 : Int32)), (3, .int (0 : Int32)), (0, .ref (a 0)), (1, .int v1), (2, .int v2)]) hx hb dX12_doorway_67 hl (by decide) rfl (fun ls hl => ?_)
              exact B_69 4096 _ _ _ _ _ _ _ _ hf hP hD hS (lv_sub hl [2, 3, 4, 1, 0] rfl)
            · rw [if_neg c_11] at hf
              exact B_58 _ _ _ _ hf hP hD hS (lv_sub hl [0] rfl)
        · rw [if_pos c_6] at hf
          exact B_26 _ _ _ _ hf hP hD hS (lv_sub hl [0] rfl)
  have E0 : ∀ (H : Heap) (locs : List Loc), va_P D vwCl (w_MO dA a none q1 g2 g3 g4 g5 (wa 0) g7 g8 g9 g10 g11 g12 g13 g14 g15 g16 g17 g18 mo ++ (w_W dA wa y_w)) H → va_D A (w_MO dA a none q1 g2 g3 g4 g5 (wa 0) g7 g8 g9 g10 g11 g12 g13 g14 g15 g16 g17 g18 mo ++ (w_W dA wa y_w)) → va_S A s.heap H locs → W p l e ({ frames := 1, cells := 0, slots := 0, locals := 21 } : Room) s m ([.ref (a 0), .int x0, .int x1] : List Value).toArray below meth c H locs 0 0 Q (F0 m 0 ls []) := by
    intro H locs hP hD hS
    rw [f_X12_doorway_n] at hf
    refine lv_aload_n hx hb dX12_doorway_0 rfl (lv_at hl 0 rfl) ?_
    refine lv_iconst (v := (0 : Int32)) hx hb dX12_doorway_1 (by decide) ?_
    refine va_put (D := D) (ci := 12) (v := .int (0 : Int32)) (ty := .int) (C := RX12) (T := TX12) (N := 35) hx hb hts kb_inX12 tyX12 tyX12_ok nmX12 hown hK.1 hP hD hS 0 rfl rfl 0 (by decide) (hK.2.w ww_5_200 rfl _) (fun _ h9 => h9) rfl (by decide +kernel) rfl rfl (Nat.le_of_ble_eq_true rfl) dX12_doorway_2 (fun H locs hP hD hS => ?_)
    have hP : va_P D vwCl (w_MO dA a none q1 g2 g3 g4 g5 (wa 0) g7 g8 g9 g10 g11 g12 g13 g14 g15 g16 g17 g18 (mo_set_thrown mo (0 : Int32)) ++ (w_W dA wa y_w)) H := hP
    have hD : va_D A (w_MO dA a none q1 g2 g3 g4 g5 (wa 0) g7 g8 g9 g10 g11 g12 g13 g14 g15 g16 g17 g18 (mo_set_thrown mo (0 : Int32)) ++ (w_W dA wa y_w)) := hD
    exact B_5 _ _ _ _ _ _ hf hP hD hS (lv_sub hl [0, 1, 2] rfl)
  exact E0 _ _ hP hD hS

noncomputable def f_X12_film_n_b5 (v1 : Int32) (v2 : Int32) (z0 : MOT) : Option (Int32 × MOT) := (f_X12_isSeat_n z0 v2).bind fun r1 => (if r1 = 0 then (f_X12_refused z0 (1 : Int32)).bind fun r3 => some (r3.1, r3.2) else none)
noncomputable def f_X12_film_n (mo : MOT) (x0 : Int32) (x1 : Int32) : Option (Int32 × MOT) := f_X12_film_n_b5 x0 x1 (mo_set_thrown mo (0 : Int32))
set_option maxHeartbeats 4000000 in
set_option maxRecDepth 100000 in
theorem c_X12_film_n (l : Launch) (D : va_G) (dA : Nat → ClassId) (sz : Nat) (a : Nat → Nat) (q1 : Option Nat) (g2 : Nat) (g3 : Nat) (g4 : Nat) (g5 : Nat) (g6 : Nat) (g7 : Nat) (g8 : Nat) (g9 : Nat) (g10 : Nat) (g11 : Nat) (g12 : Nat) (g13 : Nat) (g14 : Nat) (g15 : Nat) (g16 : Nat) (g17 : Nat) (g18 : Nat) (mo : MOT) (x0 : Int32) (x1 : Int32) (rv : Int32) (u0 : MOT) (hf : f_X12_film_n mo x0 x1 = some (rv, u0)) : kb_Mi l yX12_film cX12_film 3 (some .int) ({ frames := 1, cells := 0, slots := 0, locals := 21 } : Room) D dA [.ref (a 0), .int x0, .int x1] sz (w_MO dA a none q1 g2 g3 g4 g5 g6 g7 g8 g9 g10 g11 g12 g13 g14 g15 g16 g17 g18 mo) 0 0 rv (w_MO dA a none q1 g2 g3 g4 g5 g6 g7 g8 g9 g10 g11 g12 g13 g14 g15 g16 g17 g18 u0) := by
  refine Met.ofW (cc := cX12_film) (maxL := 3) (ret := (some .int)) (by decide) rfl ?_
  intro p e s m args below meth c s₁ B hml hv
  obtain ⟨rfl, hsz, hP, hK, hD0, hE⟩ := hv
  have hx := B.exec
  have hb := B.bytes
  have hr := B.returns
  have hown : s.vm.findClass RX12 = some m.cls := findClass_of_methodNamed B.named
  have hlocks := B.notSynchronized
  have hts : ∀ w ∈ kb_gw, w.before ([.ref (a 0), .int x0, .int x1] : List Value).toArray s = true := fun w hw => hK.2.1 w hw _
  subst hsz
  have hD := hD0.self (sz := s.heap.size)
  generalize hAe : va_A (w_MO dA a none q1 g2 g3 g4 g5 g6 g7 g8 g9 g10 g11 g12 g13 g14 g15 g16 g17 g18 mo) s.heap.size = A at hD hE ⊢
  have hA : ∀ q : Nat, s.heap.size ≤ q → A q := fun q h => by rw [← hAe]; exact Or.inr h
  have hS : va_S A s.heap s.heap [] := va_S.rf
  have hl := lv_entry ([.ref (a 0), .int x0, .int x1]) (n := 3) (Nat.le_of_ble_eq_true rfl)
  rw [lg_entry_eq]
  generalize (lg_sl ([.ref (a 0), .int x0, .int x1]) ++ List.replicate (3 - (lg_sl ([.ref (a 0), .int x0, .int x1])).length) Slot.unset).toArray = ls at hl ⊢
  have hl : lv_has ls 3 [(0, .ref (a 0)), (1, .int x0), (2, .int x1)] := hl
  generalize hQ : MQ below (va_Qi (fun r (_ : Unit) => r = rv) (kb_B D A (w_MO dA a none q1 g2 g3 g4 g5 g6 g7 g8 g9 g10 g11 g12 g13 g14 g15 g16 g17 g18 u0)) A) ([.ref (a 0), .int x0, .int x1] : List Value).toArray s 0 0 A = Q
  show W p l e ({ frames := 1, cells := 0, slots := 0, locals := 21 } : Room) s m ([.ref (a 0), .int x0, .int x1] : List Value).toArray below meth c s.heap [] 0 0 Q (F0 m 0 ls [])
  have RET : ∀ (r2 : Int32) (w0 : MOT) (H : Heap) (locs : List Loc) (ls : Array Slot) (pc : Nat), some (r2, w0) = some (rv, u0) → va_P D vwCl (w_MO dA a none q1 g2 g3 g4 g5 g6 g7 g8 g9 g10 g11 g12 g13 g14 g15 g16 g17 g18 w0) H → va_D A (w_MO dA a none q1 g2 g3 g4 g5 g6 g7 g8 g9 g10 g11 g12 g13 g14 g15 g16 g17 g18 w0) → va_S A s.heap H locs → decode cX12_film pc = .ok (.ireturn, 1) → W p l e ({ frames := 1, cells := 0, slots := 0, locals := 21 } : Room) s m ([.ref (a 0), .int x0, .int x1] : List Value).toArray below meth c H locs 0 0 Q (F0 m pc ls [.int r2]) := by
    intro r2 w0 H locs ls pc hq hP hD hS hd
    cases hq
    rw [← hQ]
    exact W.iret hx hb hr (fun t ht hW => ⟨⟨_, (), rfl, rfl, by rw [ht]; exact hP, hD⟩, hS.F ht⟩) hS.2.2 hd
  have B_5 : ∀ (v1 : Int32) (v2 : Int32) (z0 : MOT) (H : Heap) (locs : List Loc) (ls : Array Slot), f_X12_film_n_b5 v1 v2 z0 = some (rv, u0) → va_P D vwCl (w_MO dA a none q1 g2 g3 g4 g5 g6 g7 g8 g9 g10 g11 g12 g13 g14 g15 g16 g17 g18 z0) H → va_D A (w_MO dA a none q1 g2 g3 g4 g5 g6 g7 g8 g9 g10 g11 g12 g13 g14 g15 g16 g17 g18 z0) → va_S A s.heap H locs → lv_has ls 3 [(0, .ref (a 0)), (1, .int v1), (2, .int v2)] → W p l e ({ frames := 1, cells := 0, slots := 0, locals := 21 } : Room) s m ([.ref (a 0), .int x0, .int x1] : List Value).toArray below meth c H locs 0 0 Q (F0 m 5 ls []) := by
    intro v1 v2 z0 H locs ls hf hP hD hS hl
    rw [f_X12_film_n_b5] at hf
    refine lv_aload_n hx hb dX12_film_5 rfl (lv_at hl 0 rfl) ?_
    refine lv_iload_n hx hb dX12_film_6 rfl (lv_at hl 2 rfl) ?_
    obtain ⟨r1, hc1, hf⟩ := kb_bind hf
    refine kb_ci (ws2 := (w_MO dA a none q1 g2 g3 g4 g5 g6 g7 g8 g9 g10 g11 g12 g13 g14 g15 g16 g17 g18 z0)) (kb_rV (n := 1) (As := [.int v2]) (rest := []) hx hb hml hown hK (c_X12_isSeat_n l D dA H.size a q1 g2 g3 g4 g5 g6 g7 g8 g9 g10 g11 g12 g13 g14 g15 g16 g17 g18 z0 v2 r1 hc1) ⟨ww_7_179, ww_7_176, ww_7_178, ws_84, ww_1_12, rfl, by decide, by decide⟩ rfl rfl (by decide +kernel) ⟨Nat.le_of_ble_eq_true rfl, Nat.le_of_ble_eq_true rfl⟩ hP hD hS hA hE [0] rfl (by decide) 0 rfl rfl rfl hl.1 rfl (Nat.le_of_ble_eq_true rfl) dX12_film_7 ⟨Nat.le_of_ble_eq_true rfl, Nat.le_of_ble_eq_true rfl⟩) hP hD hS hA [0] [] [0] rfl rfl (by decide) (by decide) rfl (by decide) (fun H locs hP hD hS => ?_)
    refine lv_if_ne (tgt := 19) hx hb dX12_film_10 (by decide) (fun c_2 => ?_) (fun c_2 => ?_)
    · rw [if_neg c_2] at hf
      refine lv_iload_n hx hb dX12_film_19 rfl (lv_at hl 1 rfl) ?_
      refine lv_aload_n hx hb dX12_film_20 rfl (lv_at hl 0 rfl) ?_
      cases hf
    · rw [if_pos c_2] at hf
      refine lv_aload_n hx hb dX12_film_13 rfl (lv_at hl 0 rfl) ?_
      refine lv_iconst (v := (1 : Int32)) hx hb dX12_film_14 (by decide) ?_
      obtain ⟨r3, hc3, hf⟩ := kb_bind hf
      refine kb_ci (ws2 := (w_MO dA a none q1 g2 g3 g4 g5 g6 g7 g8 g9 g10 g11 g12 g13 g14 g15 g16 g17 g18 r3.2)) (kb_rV (n := 1) (As := [.int (1 : Int32)]) (rest := []) hx hb hml hown hK (c_X12_refused l D dA H.size a none q1 g2 g3 g4 g5 g6 g7 g8 g9 g10 g11 g12 g13 g14 g15 g16 g17 g18 z0 (1 : Int32) r3.1 r3.2 hc3) ⟨ww_6_82, ww_6_79, ww_6_81, ws_46, ww_1_12, rfl, by decide, by decide⟩ rfl rfl (by decide +kernel) ⟨Nat.le_of_ble_eq_true rfl, Nat.le_of_ble_eq_true rfl⟩ hP hD hS hA hE [0] rfl (by decide) 0 rfl rfl rfl hl.1 rfl (Nat.le_of_ble_eq_true rfl) dX12_film_15 ⟨Nat.le_of_ble_eq_true rfl, Nat.le_of_ble_eq_true rfl⟩) hP hD hS hA [0] [] [0] rfl rfl (by decide) (by decide) rfl (by decide) (fun H locs hP hD hS => ?_)
      exact RET _ _ H _ ls 18 hf hP hD hS dX12_film_18
  have E0 : ∀ (H : Heap) (locs : List Loc), va_P D vwCl (w_MO dA a none q1 g2 g3 g4 g5 g6 g7 g8 g9 g10 g11 g12 g13 g14 g15 g16 g17 g18 mo) H → va_D A (w_MO dA a none q1 g2 g3 g4 g5 g6 g7 g8 g9 g10 g11 g12 g13 g14 g15 g16 g17 g18 mo) → va_S A s.heap H locs → W p l e ({ frames := 1, cells := 0, slots := 0, locals := 21 } : Room) s m ([.ref (a 0), .int x0, .int x1] : List Value).toArray below meth c H locs 0 0 Q (F0 m 0 ls []) := by
    intro H locs hP hD hS
    rw [f_X12_film_n] at hf
    refine lv_aload_n hx hb dX12_film_0 rfl (lv_at hl 0 rfl) ?_
    refine lv_iconst (v := (0 : Int32)) hx hb dX12_film_1 (by decide) ?_
    refine va_put (D := D) (ci := 12) (v := .int (0 : Int32)) (ty := .int) (C := RX12) (T := TX12) (N := 35) hx hb hts kb_inX12 tyX12 tyX12_ok nmX12 hown hK.1 hP hD hS 0 rfl rfl 0 (by decide) (hK.2.w ww_5_200 rfl _) (fun _ h9 => h9) rfl (by decide +kernel) rfl rfl (Nat.le_of_ble_eq_true rfl) dX12_film_2 (fun H locs hP hD hS => ?_)
    have hP : va_P D vwCl (w_MO dA a none q1 g2 g3 g4 g5 g6 g7 g8 g9 g10 g11 g12 g13 g14 g15 g16 g17 g18 (mo_set_thrown mo (0 : Int32))) H := hP
    have hD : va_D A (w_MO dA a none q1 g2 g3 g4 g5 g6 g7 g8 g9 g10 g11 g12 g13 g14 g15 g16 g17 g18 (mo_set_thrown mo (0 : Int32))) := hD
    exact B_5 _ _ _ _ _ _ hf hP hD hS (lv_sub hl [0, 1, 2] rfl)
  exact E0 _ _ hP hD hS

noncomputable def f_X12_agrees_n_b5 (v1 : Int32) (z0 : MOT) : Option (Int32 × MOT) := (f_X12_isRule_n z0 v1).bind fun r1 => (if r1 = 0 then (f_X12_refused z0 (1 : Int32)).bind fun r3 => some (r3.1, r3.2) else none)
noncomputable def f_X12_agrees_n (mo : MOT) (x0 : Int32) : Option (Int32 × MOT) := f_X12_agrees_n_b5 x0 (mo_set_thrown mo (0 : Int32))
set_option maxHeartbeats 4000000 in
set_option maxRecDepth 100000 in
theorem c_X12_agrees_n (l : Launch) (D : va_G) (dA : Nat → ClassId) (sz : Nat) (a : Nat → Nat) (q1 : Option Nat) (g2 : Nat) (g3 : Nat) (g4 : Nat) (g5 : Nat) (g6 : Nat) (g7 : Nat) (g8 : Nat) (g9 : Nat) (g10 : Nat) (g11 : Nat) (g12 : Nat) (g13 : Nat) (g14 : Nat) (g15 : Nat) (g16 : Nat) (g17 : Nat) (g18 : Nat) (mo : MOT) (x0 : Int32) (rv : Int32) (u0 : MOT) (hf : f_X12_agrees_n mo x0 = some (rv, u0)) : kb_Mi l yX12_agrees cX12_agrees 2 (some .int) ({ frames := 1, cells := 0, slots := 0, locals := 21 } : Room) D dA [.ref (a 0), .int x0] sz (w_MO dA a none q1 g2 g3 g4 g5 g6 g7 g8 g9 g10 g11 g12 g13 g14 g15 g16 g17 g18 mo) 0 0 rv (w_MO dA a none q1 g2 g3 g4 g5 g6 g7 g8 g9 g10 g11 g12 g13 g14 g15 g16 g17 g18 u0) := by
  refine Met.ofW (cc := cX12_agrees) (maxL := 2) (ret := (some .int)) (by decide) rfl ?_
  intro p e s m args below meth c s₁ B hml hv
  obtain ⟨rfl, hsz, hP, hK, hD0, hE⟩ := hv
  have hx := B.exec
  have hb := B.bytes
  have hr := B.returns
  have hown : s.vm.findClass RX12 = some m.cls := findClass_of_methodNamed B.named
  have hlocks := B.notSynchronized
  have hts : ∀ w ∈ kb_gw, w.before ([.ref (a 0), .int x0] : List Value).toArray s = true := fun w hw => hK.2.1 w hw _
  subst hsz
  have hD := hD0.self (sz := s.heap.size)
  generalize hAe : va_A (w_MO dA a none q1 g2 g3 g4 g5 g6 g7 g8 g9 g10 g11 g12 g13 g14 g15 g16 g17 g18 mo) s.heap.size = A at hD hE ⊢
  have hA : ∀ q : Nat, s.heap.size ≤ q → A q := fun q h => by rw [← hAe]; exact Or.inr h
  have hS : va_S A s.heap s.heap [] := va_S.rf
  have hl := lv_entry ([.ref (a 0), .int x0]) (n := 2) (Nat.le_of_ble_eq_true rfl)
  rw [lg_entry_eq]
  generalize (lg_sl ([.ref (a 0), .int x0]) ++ List.replicate (2 - (lg_sl ([.ref (a 0), .int x0])).length) Slot.unset).toArray = ls at hl ⊢
  have hl : lv_has ls 2 [(0, .ref (a 0)), (1, .int x0)] := hl
  generalize hQ : MQ below (va_Qi (fun r (_ : Unit) => r = rv) (kb_B D A (w_MO dA a none q1 g2 g3 g4 g5 g6 g7 g8 g9 g10 g11 g12 g13 g14 g15 g16 g17 g18 u0)) A) ([.ref (a 0), .int x0] : List Value).toArray s 0 0 A = Q
  show W p l e ({ frames := 1, cells := 0, slots := 0, locals := 21 } : Room) s m ([.ref (a 0), .int x0] : List Value).toArray below meth c s.heap [] 0 0 Q (F0 m 0 ls [])
  have RET : ∀ (r2 : Int32) (w0 : MOT) (H : Heap) (locs : List Loc) (ls : Array Slot) (pc : Nat), some (r2, w0) = some (rv, u0) → va_P D vwCl (w_MO dA a none q1 g2 g3 g4 g5 g6 g7 g8 g9 g10 g11 g12 g13 g14 g15 g16 g17 g18 w0) H → va_D A (w_MO dA a none q1 g2 g3 g4 g5 g6 g7 g8 g9 g10 g11 g12 g13 g14 g15 g16 g17 g18 w0) → va_S A s.heap H locs → decode cX12_agrees pc = .ok (.ireturn, 1) → W p l e ({ frames := 1, cells := 0, slots := 0, locals := 21 } : Room) s m ([.ref (a 0), .int x0] : List Value).toArray below meth c H locs 0 0 Q (F0 m pc ls [.int r2]) := by
    intro r2 w0 H locs ls pc hq hP hD hS hd
    cases hq
    rw [← hQ]
    exact W.iret hx hb hr (fun t ht hW => ⟨⟨_, (), rfl, rfl, by rw [ht]; exact hP, hD⟩, hS.F ht⟩) hS.2.2 hd
  have B_5 : ∀ (v1 : Int32) (z0 : MOT) (H : Heap) (locs : List Loc) (ls : Array Slot), f_X12_agrees_n_b5 v1 z0 = some (rv, u0) → va_P D vwCl (w_MO dA a none q1 g2 g3 g4 g5 g6 g7 g8 g9 g10 g11 g12 g13 g14 g15 g16 g17 g18 z0) H → va_D A (w_MO dA a none q1 g2 g3 g4 g5 g6 g7 g8 g9 g10 g11 g12 g13 g14 g15 g16 g17 g18 z0) → va_S A s.heap H locs → lv_has ls 2 [(0, .ref (a 0)), (1, .int v1)] → W p l e ({ frames := 1, cells := 0, slots := 0, locals := 21 } : Room) s m ([.ref (a 0), .int x0] : List Value).toArray below meth c H locs 0 0 Q (F0 m 5 ls []) := by
    intro v1 z0 H locs ls hf hP hD hS hl
    rw [f_X12_agrees_n_b5] at hf
    refine lv_aload_n hx hb dX12_agrees_5 rfl (lv_at hl 0 rfl) ?_
    refine lv_iload_n hx hb dX12_agrees_6 rfl (lv_at hl 1 rfl) ?_
    obtain ⟨r1, hc1, hf⟩ := kb_bind hf
    refine kb_ci (ws2 := (w_MO dA a none q1 g2 g3 g4 g5 g6 g7 g8 g9 g10 g11 g12 g13 g14 g15 g16 g17 g18 z0)) (kb_rV (n := 1) (As := [.int v1]) (rest := []) hx hb hml hown hK (c_X12_isRule_n l D dA H.size a q1 g2 g3 g4 g5 g6 g7 g8 g9 g10 g11 g12 g13 g14 g15 g16 g17 g18 z0 v1 r1 hc1) ⟨ww_8_146, ww_8_143, ww_8_145, ws_111, ww_1_12, rfl, by decide, by decide⟩ rfl rfl (by decide +kernel) ⟨Nat.le_of_ble_eq_true rfl, Nat.le_of_ble_eq_true rfl⟩ hP hD hS hA hE [0] rfl (by decide) 0 rfl rfl rfl hl.1 rfl (Nat.le_of_ble_eq_true rfl) dX12_agrees_7 ⟨Nat.le_of_ble_eq_true rfl, Nat.le_of_ble_eq_true rfl⟩) hP hD hS hA [0] [] [0] rfl rfl (by decide) (by decide) rfl (by decide) (fun H locs hP hD hS => ?_)
    refine lv_if_eq (tgt := 25) hx hb dX12_agrees_10 (by decide) (fun c_2 => ?_) (fun c_2 => ?_)
    · rw [if_pos c_2] at hf
      refine lv_aload_n hx hb dX12_agrees_25 rfl (lv_at hl 0 rfl) ?_
      refine lv_iconst (v := (1 : Int32)) hx hb dX12_agrees_26 (by decide) ?_
      obtain ⟨r3, hc3, hf⟩ := kb_bind hf
      refine kb_ci (ws2 := (w_MO dA a none q1 g2 g3 g4 g5 g6 g7 g8 g9 g10 g11 g12 g13 g14 g15 g16 g17 g18 r3.2)) (kb_rV (n := 1) (As := [.int (1 : Int32)]) (rest := []) hx hb hml hown hK (c_X12_refused l D dA H.size a none q1 g2 g3 g4 g5 g6 g7 g8 g9 g10 g11 g12 g13 g14 g15 g16 g17 g18 z0 (1 : Int32) r3.1 r3.2 hc3) ⟨ww_6_82, ww_6_79, ww_6_81, ws_46, ww_1_12, rfl, by decide, by decide⟩ rfl rfl (by decide +kernel) ⟨Nat.le_of_ble_eq_true rfl, Nat.le_of_ble_eq_true rfl⟩ hP hD hS hA hE [0] rfl (by decide) 0 rfl rfl rfl hl.1 rfl (Nat.le_of_ble_eq_true rfl) dX12_agrees_27 ⟨Nat.le_of_ble_eq_true rfl, Nat.le_of_ble_eq_true rfl⟩) hP hD hS hA [0] [] [0] rfl rfl (by decide) (by decide) rfl (by decide) (fun H locs hP hD hS => ?_)
      exact RET _ _ H _ ls 30 hf hP hD hS dX12_agrees_30
    · rw [if_neg c_2] at hf
      refine lv_aload_n hx hb dX12_agrees_13 rfl (lv_at hl 0 rfl) ?_
      refine lv_aload_n hx hb dX12_agrees_14 rfl (lv_at hl 0 rfl) ?_
      refine lv_iload_n hx hb dX12_agrees_15 rfl (lv_at hl 1 rfl) ?_
      cases hf
  have E0 : ∀ (H : Heap) (locs : List Loc), va_P D vwCl (w_MO dA a none q1 g2 g3 g4 g5 g6 g7 g8 g9 g10 g11 g12 g13 g14 g15 g16 g17 g18 mo) H → va_D A (w_MO dA a none q1 g2 g3 g4 g5 g6 g7 g8 g9 g10 g11 g12 g13 g14 g15 g16 g17 g18 mo) → va_S A s.heap H locs → W p l e ({ frames := 1, cells := 0, slots := 0, locals := 21 } : Room) s m ([.ref (a 0), .int x0] : List Value).toArray below meth c H locs 0 0 Q (F0 m 0 ls []) := by
    intro H locs hP hD hS
    rw [f_X12_agrees_n] at hf
    refine lv_aload_n hx hb dX12_agrees_0 rfl (lv_at hl 0 rfl) ?_
    refine lv_iconst (v := (0 : Int32)) hx hb dX12_agrees_1 (by decide) ?_
    refine va_put (D := D) (ci := 12) (v := .int (0 : Int32)) (ty := .int) (C := RX12) (T := TX12) (N := 35) hx hb hts kb_inX12 tyX12 tyX12_ok nmX12 hown hK.1 hP hD hS 0 rfl rfl 0 (by decide) (hK.2.w ww_5_200 rfl _) (fun _ h9 => h9) rfl (by decide +kernel) rfl rfl (Nat.le_of_ble_eq_true rfl) dX12_agrees_2 (fun H locs hP hD hS => ?_)
    have hP : va_P D vwCl (w_MO dA a none q1 g2 g3 g4 g5 g6 g7 g8 g9 g10 g11 g12 g13 g14 g15 g16 g17 g18 (mo_set_thrown mo (0 : Int32))) H := hP
    have hD : va_D A (w_MO dA a none q1 g2 g3 g4 g5 g6 g7 g8 g9 g10 g11 g12 g13 g14 g15 g16 g17 g18 (mo_set_thrown mo (0 : Int32))) := hD
    exact B_5 _ _ _ _ _ hf hP hD hS (lv_sub hl [0, 1] rfl)
  exact E0 _ _ hP hD hS

noncomputable def f_X12_likely_n_b5 (z0 : MOT) : Option (Int32 × MOT) := (f_X12_refused z0 (1 : Int32)).bind fun r1 => some (r1.1, r1.2)
noncomputable def f_X12_likely_n (mo : MOT) : Option (Int32 × MOT) := f_X12_likely_n_b5 (mo_set_thrown mo (0 : Int32))
set_option maxHeartbeats 4000000 in
set_option maxRecDepth 100000 in
theorem c_X12_likely_n (l : Launch) (D : va_G) (dA : Nat → ClassId) (sz : Nat) (a : Nat → Nat) (q1 : Option Nat) (g2 : Nat) (g3 : Nat) (g4 : Nat) (g5 : Nat) (g6 : Nat) (g7 : Nat) (g8 : Nat) (g9 : Nat) (g10 : Nat) (g11 : Nat) (g12 : Nat) (g13 : Nat) (g14 : Nat) (g15 : Nat) (g16 : Nat) (g17 : Nat) (g18 : Nat) (mo : MOT) (rv : Int32) (u0 : MOT) (hf : f_X12_likely_n mo = some (rv, u0)) : kb_Mi l yX12_likely cX12_likely 3 (some .int) ({ frames := 1, cells := 0, slots := 0, locals := 21 } : Room) D dA [.ref (a 0)] sz (w_MO dA a none q1 g2 g3 g4 g5 g6 g7 g8 g9 g10 g11 g12 g13 g14 g15 g16 g17 g18 mo) 0 0 rv (w_MO dA a none q1 g2 g3 g4 g5 g6 g7 g8 g9 g10 g11 g12 g13 g14 g15 g16 g17 g18 u0) := by
  refine Met.ofW (cc := cX12_likely) (maxL := 3) (ret := (some .int)) (by decide) rfl ?_
  intro p e s m args below meth c s₁ B hml hv
  obtain ⟨rfl, hsz, hP, hK, hD0, hE⟩ := hv
  have hx := B.exec
  have hb := B.bytes
  have hr := B.returns
  have hown : s.vm.findClass RX12 = some m.cls := findClass_of_methodNamed B.named
  have hlocks := B.notSynchronized
  have hts : ∀ w ∈ kb_gw, w.before ([.ref (a 0)] : List Value).toArray s = true := fun w hw => hK.2.1 w hw _
  subst hsz
  have hD := hD0.self (sz := s.heap.size)
  generalize hAe : va_A (w_MO dA a none q1 g2 g3 g4 g5 g6 g7 g8 g9 g10 g11 g12 g13 g14 g15 g16 g17 g18 mo) s.heap.size = A at hD hE ⊢
  have hA : ∀ q : Nat, s.heap.size ≤ q → A q := fun q h => by rw [← hAe]; exact Or.inr h
  have hS : va_S A s.heap s.heap [] := va_S.rf
  have hl := lv_entry ([.ref (a 0)]) (n := 3) (Nat.le_of_ble_eq_true rfl)
  rw [lg_entry_eq]
  generalize (lg_sl ([.ref (a 0)]) ++ List.replicate (3 - (lg_sl ([.ref (a 0)])).length) Slot.unset).toArray = ls at hl ⊢
  have hl : lv_has ls 3 [(0, .ref (a 0))] := hl
  generalize hQ : MQ below (va_Qi (fun r (_ : Unit) => r = rv) (kb_B D A (w_MO dA a none q1 g2 g3 g4 g5 g6 g7 g8 g9 g10 g11 g12 g13 g14 g15 g16 g17 g18 u0)) A) ([.ref (a 0)] : List Value).toArray s 0 0 A = Q
  show W p l e ({ frames := 1, cells := 0, slots := 0, locals := 21 } : Room) s m ([.ref (a 0)] : List Value).toArray below meth c s.heap [] 0 0 Q (F0 m 0 ls [])
  have RET : ∀ (r2 : Int32) (w0 : MOT) (H : Heap) (locs : List Loc) (ls : Array Slot) (pc : Nat), some (r2, w0) = some (rv, u0) → va_P D vwCl (w_MO dA a none q1 g2 g3 g4 g5 g6 g7 g8 g9 g10 g11 g12 g13 g14 g15 g16 g17 g18 w0) H → va_D A (w_MO dA a none q1 g2 g3 g4 g5 g6 g7 g8 g9 g10 g11 g12 g13 g14 g15 g16 g17 g18 w0) → va_S A s.heap H locs → decode cX12_likely pc = .ok (.ireturn, 1) → W p l e ({ frames := 1, cells := 0, slots := 0, locals := 21 } : Room) s m ([.ref (a 0)] : List Value).toArray below meth c H locs 0 0 Q (F0 m pc ls [.int r2]) := by
    intro r2 w0 H locs ls pc hq hP hD hS hd
    cases hq
    rw [← hQ]
    exact W.iret hx hb hr (fun t ht hW => ⟨⟨_, (), rfl, rfl, by rw [ht]; exact hP, hD⟩, hS.F ht⟩) hS.2.2 hd
  have B_5 : ∀ (z0 : MOT) (H : Heap) (locs : List Loc) (ls : Array Slot), f_X12_likely_n_b5 z0 = some (rv, u0) → va_P D vwCl (w_MO dA a none q1 g2 g3 g4 g5 g6 g7 g8 g9 g10 g11 g12 g13 g14 g15 g16 g17 g18 z0) H → va_D A (w_MO dA a none q1 g2 g3 g4 g5 g6 g7 g8 g9 g10 g11 g12 g13 g14 g15 g16 g17 g18 z0) → va_S A s.heap H locs → lv_has ls 3 [(0, .ref (a 0))] → W p l e ({ frames := 1, cells := 0, slots := 0, locals := 21 } : Room) s m ([.ref (a 0)] : List Value).toArray below meth c H locs 0 0 Q (F0 m 5 ls []) := by
    intro z0 H locs ls hf hP hD hS hl
    rw [f_X12_likely_n_b5] at hf
    refine lv_aload_n hx hb dX12_likely_5 rfl (lv_at hl 0 rfl) ?_
    refine va_get (D := D) (ci := 12) (v := .null) (C := RX12) (T := TX12) (N := 35) hx hb hts kb_inX12 hown hK.1 hP 0 rfl rfl 3 (by decide) (hK.2.w ww_5_203 rfl _) (fun _ h9 => h9) rfl dX12_likely_6 ?_
    refine lv_ifnonnullN hx hb dX12_likely_9 ?_
    refine lv_aload_n hx hb dX12_likely_12 rfl (lv_at hl 0 rfl) ?_
    refine lv_iconst (v := (1 : Int32)) hx hb dX12_likely_13 (by decide) ?_
    obtain ⟨r1, hc1, hf⟩ := kb_bind hf
    refine kb_ci (ws2 := (w_MO dA a none q1 g2 g3 g4 g5 g6 g7 g8 g9 g10 g11 g12 g13 g14 g15 g16 g17 g18 r1.2)) (kb_rV (n := 1) (As := [.int (1 : Int32)]) (rest := []) hx hb hml hown hK (c_X12_refused l D dA H.size a none q1 g2 g3 g4 g5 g6 g7 g8 g9 g10 g11 g12 g13 g14 g15 g16 g17 g18 z0 (1 : Int32) r1.1 r1.2 hc1) ⟨ww_6_82, ww_6_79, ww_6_81, ws_46, ww_1_12, rfl, by decide, by decide⟩ rfl rfl (by decide +kernel) ⟨Nat.le_of_ble_eq_true rfl, Nat.le_of_ble_eq_true rfl⟩ hP hD hS hA hE [0] rfl (by decide) 0 rfl rfl rfl hl.1 rfl (Nat.le_of_ble_eq_true rfl) dX12_likely_14 ⟨Nat.le_of_ble_eq_true rfl, Nat.le_of_ble_eq_true rfl⟩) hP hD hS hA [0] [] [0] rfl rfl (by decide) (by decide) rfl (by decide) (fun H locs hP hD hS => ?_)
    exact RET _ _ H _ ls 17 hf hP hD hS dX12_likely_17
  have E0 : ∀ (H : Heap) (locs : List Loc), va_P D vwCl (w_MO dA a none q1 g2 g3 g4 g5 g6 g7 g8 g9 g10 g11 g12 g13 g14 g15 g16 g17 g18 mo) H → va_D A (w_MO dA a none q1 g2 g3 g4 g5 g6 g7 g8 g9 g10 g11 g12 g13 g14 g15 g16 g17 g18 mo) → va_S A s.heap H locs → W p l e ({ frames := 1, cells := 0, slots := 0, locals := 21 } : Room) s m ([.ref (a 0)] : List Value).toArray below meth c H locs 0 0 Q (F0 m 0 ls []) := by
    intro H locs hP hD hS
    rw [f_X12_likely_n] at hf
    refine lv_aload_n hx hb dX12_likely_0 rfl (lv_at hl 0 rfl) ?_
    refine lv_iconst (v := (0 : Int32)) hx hb dX12_likely_1 (by decide) ?_
    refine va_put (D := D) (ci := 12) (v := .int (0 : Int32)) (ty := .int) (C := RX12) (T := TX12) (N := 35) hx hb hts kb_inX12 tyX12 tyX12_ok nmX12 hown hK.1 hP hD hS 0 rfl rfl 0 (by decide) (hK.2.w ww_5_200 rfl _) (fun _ h9 => h9) rfl (by decide +kernel) rfl rfl (Nat.le_of_ble_eq_true rfl) dX12_likely_2 (fun H locs hP hD hS => ?_)
    have hP : va_P D vwCl (w_MO dA a none q1 g2 g3 g4 g5 g6 g7 g8 g9 g10 g11 g12 g13 g14 g15 g16 g17 g18 (mo_set_thrown mo (0 : Int32))) H := hP
    have hD : va_D A (w_MO dA a none q1 g2 g3 g4 g5 g6 g7 g8 g9 g10 g11 g12 g13 g14 g15 g16 g17 g18 (mo_set_thrown mo (0 : Int32))) := hD
    exact B_5 _ _ _ _ hf hP hD hS (lv_sub hl [0] rfl)
  exact E0 _ _ hP hD hS

noncomputable def f_X12_dealt_n_b5 (v1 : Int32) (z0 : MOT) : Option (Int32 × MOT) := (f_X12_isRider_n z0 v1).bind fun r1 => (if r1 = 0 then (f_X12_refused z0 (1 : Int32)).bind fun r3 => some (r3.1, r3.2) else none)
noncomputable def f_X12_dealt_n (mo : MOT) (x0 : Int32) : Option (Int32 × MOT) := f_X12_dealt_n_b5 x0 (mo_set_thrown mo (0 : Int32))
set_option maxHeartbeats 4000000 in
set_option maxRecDepth 100000 in
theorem c_X12_dealt_n (l : Launch) (D : va_G) (dA : Nat → ClassId) (sz : Nat) (a : Nat → Nat) (q1 : Option Nat) (g2 : Nat) (g3 : Nat) (g4 : Nat) (g5 : Nat) (g6 : Nat) (g7 : Nat) (g8 : Nat) (g9 : Nat) (g10 : Nat) (g11 : Nat) (g12 : Nat) (g13 : Nat) (g14 : Nat) (g15 : Nat) (g16 : Nat) (g17 : Nat) (g18 : Nat) (mo : MOT) (x0 : Int32) (rv : Int32) (u0 : MOT) (hf : f_X12_dealt_n mo x0 = some (rv, u0)) : kb_Mi l yX12_dealt cX12_dealt 4 (some .int) ({ frames := 1, cells := 0, slots := 0, locals := 21 } : Room) D dA [.ref (a 0), .int x0] sz (w_MO dA a none q1 g2 g3 g4 g5 g6 g7 g8 g9 g10 g11 g12 g13 g14 g15 g16 g17 g18 mo) 0 0 rv (w_MO dA a none q1 g2 g3 g4 g5 g6 g7 g8 g9 g10 g11 g12 g13 g14 g15 g16 g17 g18 u0) := by
  refine Met.ofW (cc := cX12_dealt) (maxL := 4) (ret := (some .int)) (by decide) rfl ?_
  intro p e s m args below meth c s₁ B hml hv
  obtain ⟨rfl, hsz, hP, hK, hD0, hE⟩ := hv
  have hx := B.exec
  have hb := B.bytes
  have hr := B.returns
  have hown : s.vm.findClass RX12 = some m.cls := findClass_of_methodNamed B.named
  have hlocks := B.notSynchronized
  have hts : ∀ w ∈ kb_gw, w.before ([.ref (a 0), .int x0] : List Value).toArray s = true := fun w hw => hK.2.1 w hw _
  subst hsz
  have hD := hD0.self (sz := s.heap.size)
  generalize hAe : va_A (w_MO dA a none q1 g2 g3 g4 g5 g6 g7 g8 g9 g10 g11 g12 g13 g14 g15 g16 g17 g18 mo) s.heap.size = A at hD hE ⊢
  have hA : ∀ q : Nat, s.heap.size ≤ q → A q := fun q h => by rw [← hAe]; exact Or.inr h
  have hS : va_S A s.heap s.heap [] := va_S.rf
  have hl := lv_entry ([.ref (a 0), .int x0]) (n := 4) (Nat.le_of_ble_eq_true rfl)
  rw [lg_entry_eq]
  generalize (lg_sl ([.ref (a 0), .int x0]) ++ List.replicate (4 - (lg_sl ([.ref (a 0), .int x0])).length) Slot.unset).toArray = ls at hl ⊢
  have hl : lv_has ls 4 [(0, .ref (a 0)), (1, .int x0)] := hl
  generalize hQ : MQ below (va_Qi (fun r (_ : Unit) => r = rv) (kb_B D A (w_MO dA a none q1 g2 g3 g4 g5 g6 g7 g8 g9 g10 g11 g12 g13 g14 g15 g16 g17 g18 u0)) A) ([.ref (a 0), .int x0] : List Value).toArray s 0 0 A = Q
  show W p l e ({ frames := 1, cells := 0, slots := 0, locals := 21 } : Room) s m ([.ref (a 0), .int x0] : List Value).toArray below meth c s.heap [] 0 0 Q (F0 m 0 ls [])
  have RET : ∀ (r2 : Int32) (w0 : MOT) (H : Heap) (locs : List Loc) (ls : Array Slot) (pc : Nat), some (r2, w0) = some (rv, u0) → va_P D vwCl (w_MO dA a none q1 g2 g3 g4 g5 g6 g7 g8 g9 g10 g11 g12 g13 g14 g15 g16 g17 g18 w0) H → va_D A (w_MO dA a none q1 g2 g3 g4 g5 g6 g7 g8 g9 g10 g11 g12 g13 g14 g15 g16 g17 g18 w0) → va_S A s.heap H locs → decode cX12_dealt pc = .ok (.ireturn, 1) → W p l e ({ frames := 1, cells := 0, slots := 0, locals := 21 } : Room) s m ([.ref (a 0), .int x0] : List Value).toArray below meth c H locs 0 0 Q (F0 m pc ls [.int r2]) := by
    intro r2 w0 H locs ls pc hq hP hD hS hd
    cases hq
    rw [← hQ]
    exact W.iret hx hb hr (fun t ht hW => ⟨⟨_, (), rfl, rfl, by rw [ht]; exact hP, hD⟩, hS.F ht⟩) hS.2.2 hd
  have B_5 : ∀ (v1 : Int32) (z0 : MOT) (H : Heap) (locs : List Loc) (ls : Array Slot), f_X12_dealt_n_b5 v1 z0 = some (rv, u0) → va_P D vwCl (w_MO dA a none q1 g2 g3 g4 g5 g6 g7 g8 g9 g10 g11 g12 g13 g14 g15 g16 g17 g18 z0) H → va_D A (w_MO dA a none q1 g2 g3 g4 g5 g6 g7 g8 g9 g10 g11 g12 g13 g14 g15 g16 g17 g18 z0) → va_S A s.heap H locs → lv_has ls 4 [(0, .ref (a 0)), (1, .int v1)] → W p l e ({ frames := 1, cells := 0, slots := 0, locals := 21 } : Room) s m ([.ref (a 0), .int x0] : List Value).toArray below meth c H locs 0 0 Q (F0 m 5 ls []) := by
    intro v1 z0 H locs ls hf hP hD hS hl
    rw [f_X12_dealt_n_b5] at hf
    refine lv_aload_n hx hb dX12_dealt_5 rfl (lv_at hl 0 rfl) ?_
    refine lv_iload_n hx hb dX12_dealt_6 rfl (lv_at hl 1 rfl) ?_
    obtain ⟨r1, hc1, hf⟩ := kb_bind hf
    refine kb_ci (ws2 := (w_MO dA a none q1 g2 g3 g4 g5 g6 g7 g8 g9 g10 g11 g12 g13 g14 g15 g16 g17 g18 z0)) (kb_rV (n := 1) (As := [.int v1]) (rest := []) hx hb hml hown hK (c_X12_isRider_n l D dA H.size a q1 g2 g3 g4 g5 g6 g7 g8 g9 g10 g11 g12 g13 g14 g15 g16 g17 g18 z0 v1 r1 hc1) ⟨ww_8_5, ww_8_2, ww_8_4, ws_95, ww_1_12, rfl, by decide, by decide⟩ rfl rfl (by decide +kernel) ⟨Nat.le_of_ble_eq_true rfl, Nat.le_of_ble_eq_true rfl⟩ hP hD hS hA hE [0] rfl (by decide) 0 rfl rfl rfl hl.1 rfl (Nat.le_of_ble_eq_true rfl) dX12_dealt_7 ⟨Nat.le_of_ble_eq_true rfl, Nat.le_of_ble_eq_true rfl⟩) hP hD hS hA [0] [] [0] rfl rfl (by decide) (by decide) rfl (by decide) (fun H locs hP hD hS => ?_)
    refine lv_if_ne (tgt := 19) hx hb dX12_dealt_10 (by decide) (fun c_2 => ?_) (fun c_2 => ?_)
    · rw [if_neg c_2] at hf
      refine lv_aload_n hx hb dX12_dealt_19 rfl (lv_at hl 0 rfl) ?_
      refine va_get (D := D) (ci := 12) (v := .null) (C := RX12) (T := TX12) (N := 35) hx hb hts kb_inX12 hown hK.1 hP 0 rfl rfl 3 (by decide) (hK.2.w ww_5_203 rfl _) (fun _ h9 => h9) rfl dX12_dealt_20 ?_
      cases hf
    · rw [if_pos c_2] at hf
      refine lv_aload_n hx hb dX12_dealt_13 rfl (lv_at hl 0 rfl) ?_
      refine lv_iconst (v := (1 : Int32)) hx hb dX12_dealt_14 (by decide) ?_
      obtain ⟨r3, hc3, hf⟩ := kb_bind hf
      refine kb_ci (ws2 := (w_MO dA a none q1 g2 g3 g4 g5 g6 g7 g8 g9 g10 g11 g12 g13 g14 g15 g16 g17 g18 r3.2)) (kb_rV (n := 1) (As := [.int (1 : Int32)]) (rest := []) hx hb hml hown hK (c_X12_refused l D dA H.size a none q1 g2 g3 g4 g5 g6 g7 g8 g9 g10 g11 g12 g13 g14 g15 g16 g17 g18 z0 (1 : Int32) r3.1 r3.2 hc3) ⟨ww_6_82, ww_6_79, ww_6_81, ws_46, ww_1_12, rfl, by decide, by decide⟩ rfl rfl (by decide +kernel) ⟨Nat.le_of_ble_eq_true rfl, Nat.le_of_ble_eq_true rfl⟩ hP hD hS hA hE [0] rfl (by decide) 0 rfl rfl rfl hl.1 rfl (Nat.le_of_ble_eq_true rfl) dX12_dealt_15 ⟨Nat.le_of_ble_eq_true rfl, Nat.le_of_ble_eq_true rfl⟩) hP hD hS hA [0] [] [0] rfl rfl (by decide) (by decide) rfl (by decide) (fun H locs hP hD hS => ?_)
      exact RET _ _ H _ ls 18 hf hP hD hS dX12_dealt_18
  have E0 : ∀ (H : Heap) (locs : List Loc), va_P D vwCl (w_MO dA a none q1 g2 g3 g4 g5 g6 g7 g8 g9 g10 g11 g12 g13 g14 g15 g16 g17 g18 mo) H → va_D A (w_MO dA a none q1 g2 g3 g4 g5 g6 g7 g8 g9 g10 g11 g12 g13 g14 g15 g16 g17 g18 mo) → va_S A s.heap H locs → W p l e ({ frames := 1, cells := 0, slots := 0, locals := 21 } : Room) s m ([.ref (a 0), .int x0] : List Value).toArray below meth c H locs 0 0 Q (F0 m 0 ls []) := by
    intro H locs hP hD hS
    rw [f_X12_dealt_n] at hf
    refine lv_aload_n hx hb dX12_dealt_0 rfl (lv_at hl 0 rfl) ?_
    refine lv_iconst (v := (0 : Int32)) hx hb dX12_dealt_1 (by decide) ?_
    refine va_put (D := D) (ci := 12) (v := .int (0 : Int32)) (ty := .int) (C := RX12) (T := TX12) (N := 35) hx hb hts kb_inX12 tyX12 tyX12_ok nmX12 hown hK.1 hP hD hS 0 rfl rfl 0 (by decide) (hK.2.w ww_5_200 rfl _) (fun _ h9 => h9) rfl (by decide +kernel) rfl rfl (Nat.le_of_ble_eq_true rfl) dX12_dealt_2 (fun H locs hP hD hS => ?_)
    have hP : va_P D vwCl (w_MO dA a none q1 g2 g3 g4 g5 g6 g7 g8 g9 g10 g11 g12 g13 g14 g15 g16 g17 g18 (mo_set_thrown mo (0 : Int32))) H := hP
    have hD : va_D A (w_MO dA a none q1 g2 g3 g4 g5 g6 g7 g8 g9 g10 g11 g12 g13 g14 g15 g16 g17 g18 (mo_set_thrown mo (0 : Int32))) := hD
    exact B_5 _ _ _ _ _ hf hP hD hS (lv_sub hl [0, 1] rfl)
  exact E0 _ _ hP hD hS

noncomputable def f_X12_deals_n_b5 (z0 : MOT) : Option (Int32 × MOT) := (f_X12_refused z0 (1 : Int32)).bind fun r1 => some (r1.1, r1.2)
noncomputable def f_X12_deals_n (mo : MOT) : Option (Int32 × MOT) := f_X12_deals_n_b5 (mo_set_thrown mo (0 : Int32))
set_option maxHeartbeats 4000000 in
set_option maxRecDepth 100000 in
theorem c_X12_deals_n (l : Launch) (D : va_G) (dA : Nat → ClassId) (sz : Nat) (a : Nat → Nat) (q1 : Option Nat) (g2 : Nat) (g3 : Nat) (g4 : Nat) (g5 : Nat) (g6 : Nat) (g7 : Nat) (g8 : Nat) (g9 : Nat) (g10 : Nat) (g11 : Nat) (g12 : Nat) (g13 : Nat) (g14 : Nat) (g15 : Nat) (g16 : Nat) (g17 : Nat) (g18 : Nat) (mo : MOT) (rv : Int32) (u0 : MOT) (hf : f_X12_deals_n mo = some (rv, u0)) : kb_Mi l yX12_deals cX12_deals 1 (some .int) ({ frames := 1, cells := 0, slots := 0, locals := 21 } : Room) D dA [.ref (a 0)] sz (w_MO dA a none q1 g2 g3 g4 g5 g6 g7 g8 g9 g10 g11 g12 g13 g14 g15 g16 g17 g18 mo) 0 0 rv (w_MO dA a none q1 g2 g3 g4 g5 g6 g7 g8 g9 g10 g11 g12 g13 g14 g15 g16 g17 g18 u0) := by
  refine Met.ofW (cc := cX12_deals) (maxL := 1) (ret := (some .int)) (by decide) rfl ?_
  intro p e s m args below meth c s₁ B hml hv
  obtain ⟨rfl, hsz, hP, hK, hD0, hE⟩ := hv
  have hx := B.exec
  have hb := B.bytes
  have hr := B.returns
  have hown : s.vm.findClass RX12 = some m.cls := findClass_of_methodNamed B.named
  have hlocks := B.notSynchronized
  have hts : ∀ w ∈ kb_gw, w.before ([.ref (a 0)] : List Value).toArray s = true := fun w hw => hK.2.1 w hw _
  subst hsz
  have hD := hD0.self (sz := s.heap.size)
  generalize hAe : va_A (w_MO dA a none q1 g2 g3 g4 g5 g6 g7 g8 g9 g10 g11 g12 g13 g14 g15 g16 g17 g18 mo) s.heap.size = A at hD hE ⊢
  have hA : ∀ q : Nat, s.heap.size ≤ q → A q := fun q h => by rw [← hAe]; exact Or.inr h
  have hS : va_S A s.heap s.heap [] := va_S.rf
  have hl := lv_entry ([.ref (a 0)]) (n := 1) (Nat.le_of_ble_eq_true rfl)
  rw [lg_entry_eq]
  generalize (lg_sl ([.ref (a 0)]) ++ List.replicate (1 - (lg_sl ([.ref (a 0)])).length) Slot.unset).toArray = ls at hl ⊢
  have hl : lv_has ls 1 [(0, .ref (a 0))] := hl
  generalize hQ : MQ below (va_Qi (fun r (_ : Unit) => r = rv) (kb_B D A (w_MO dA a none q1 g2 g3 g4 g5 g6 g7 g8 g9 g10 g11 g12 g13 g14 g15 g16 g17 g18 u0)) A) ([.ref (a 0)] : List Value).toArray s 0 0 A = Q
  show W p l e ({ frames := 1, cells := 0, slots := 0, locals := 21 } : Room) s m ([.ref (a 0)] : List Value).toArray below meth c s.heap [] 0 0 Q (F0 m 0 ls [])
  have RET : ∀ (r2 : Int32) (w0 : MOT) (H : Heap) (locs : List Loc) (ls : Array Slot) (pc : Nat), some (r2, w0) = some (rv, u0) → va_P D vwCl (w_MO dA a none q1 g2 g3 g4 g5 g6 g7 g8 g9 g10 g11 g12 g13 g14 g15 g16 g17 g18 w0) H → va_D A (w_MO dA a none q1 g2 g3 g4 g5 g6 g7 g8 g9 g10 g11 g12 g13 g14 g15 g16 g17 g18 w0) → va_S A s.heap H locs → decode cX12_deals pc = .ok (.ireturn, 1) → W p l e ({ frames := 1, cells := 0, slots := 0, locals := 21 } : Room) s m ([.ref (a 0)] : List Value).toArray below meth c H locs 0 0 Q (F0 m pc ls [.int r2]) := by
    intro r2 w0 H locs ls pc hq hP hD hS hd
    cases hq
    rw [← hQ]
    exact W.iret hx hb hr (fun t ht hW => ⟨⟨_, (), rfl, rfl, by rw [ht]; exact hP, hD⟩, hS.F ht⟩) hS.2.2 hd
  have B_5 : ∀ (z0 : MOT) (H : Heap) (locs : List Loc) (ls : Array Slot), f_X12_deals_n_b5 z0 = some (rv, u0) → va_P D vwCl (w_MO dA a none q1 g2 g3 g4 g5 g6 g7 g8 g9 g10 g11 g12 g13 g14 g15 g16 g17 g18 z0) H → va_D A (w_MO dA a none q1 g2 g3 g4 g5 g6 g7 g8 g9 g10 g11 g12 g13 g14 g15 g16 g17 g18 z0) → va_S A s.heap H locs → lv_has ls 1 [(0, .ref (a 0))] → W p l e ({ frames := 1, cells := 0, slots := 0, locals := 21 } : Room) s m ([.ref (a 0)] : List Value).toArray below meth c H locs 0 0 Q (F0 m 5 ls []) := by
    intro z0 H locs ls hf hP hD hS hl
    rw [f_X12_deals_n_b5] at hf
    refine lv_aload_n hx hb dX12_deals_5 rfl (lv_at hl 0 rfl) ?_
    refine va_get (D := D) (ci := 12) (v := .null) (C := RX12) (T := TX12) (N := 35) hx hb hts kb_inX12 hown hK.1 hP 0 rfl rfl 3 (by decide) (hK.2.w ww_5_203 rfl _) (fun _ h9 => h9) rfl dX12_deals_6 ?_
    refine lv_ifnonnullN hx hb dX12_deals_9 ?_
    refine lv_aload_n hx hb dX12_deals_12 rfl (lv_at hl 0 rfl) ?_
    refine lv_iconst (v := (1 : Int32)) hx hb dX12_deals_13 (by decide) ?_
    obtain ⟨r1, hc1, hf⟩ := kb_bind hf
    refine kb_ci (ws2 := (w_MO dA a none q1 g2 g3 g4 g5 g6 g7 g8 g9 g10 g11 g12 g13 g14 g15 g16 g17 g18 r1.2)) (kb_rV (n := 1) (As := [.int (1 : Int32)]) (rest := []) hx hb hml hown hK (c_X12_refused l D dA H.size a none q1 g2 g3 g4 g5 g6 g7 g8 g9 g10 g11 g12 g13 g14 g15 g16 g17 g18 z0 (1 : Int32) r1.1 r1.2 hc1) ⟨ww_6_82, ww_6_79, ww_6_81, ws_46, ww_1_12, rfl, by decide, by decide⟩ rfl rfl (by decide +kernel) ⟨Nat.le_of_ble_eq_true rfl, Nat.le_of_ble_eq_true rfl⟩ hP hD hS hA hE [0] rfl (by decide) 0 rfl rfl rfl hl.1 rfl (Nat.le_of_ble_eq_true rfl) dX12_deals_14 ⟨Nat.le_of_ble_eq_true rfl, Nat.le_of_ble_eq_true rfl⟩) hP hD hS hA [0] [] [0] rfl rfl (by decide) (by decide) rfl (by decide) (fun H locs hP hD hS => ?_)
    exact RET _ _ H _ ls 17 hf hP hD hS dX12_deals_17
  have E0 : ∀ (H : Heap) (locs : List Loc), va_P D vwCl (w_MO dA a none q1 g2 g3 g4 g5 g6 g7 g8 g9 g10 g11 g12 g13 g14 g15 g16 g17 g18 mo) H → va_D A (w_MO dA a none q1 g2 g3 g4 g5 g6 g7 g8 g9 g10 g11 g12 g13 g14 g15 g16 g17 g18 mo) → va_S A s.heap H locs → W p l e ({ frames := 1, cells := 0, slots := 0, locals := 21 } : Room) s m ([.ref (a 0)] : List Value).toArray below meth c H locs 0 0 Q (F0 m 0 ls []) := by
    intro H locs hP hD hS
    rw [f_X12_deals_n] at hf
    refine lv_aload_n hx hb dX12_deals_0 rfl (lv_at hl 0 rfl) ?_
    refine lv_iconst (v := (0 : Int32)) hx hb dX12_deals_1 (by decide) ?_
    refine va_put (D := D) (ci := 12) (v := .int (0 : Int32)) (ty := .int) (C := RX12) (T := TX12) (N := 35) hx hb hts kb_inX12 tyX12 tyX12_ok nmX12 hown hK.1 hP hD hS 0 rfl rfl 0 (by decide) (hK.2.w ww_5_200 rfl _) (fun _ h9 => h9) rfl (by decide +kernel) rfl rfl (Nat.le_of_ble_eq_true rfl) dX12_deals_2 (fun H locs hP hD hS => ?_)
    have hP : va_P D vwCl (w_MO dA a none q1 g2 g3 g4 g5 g6 g7 g8 g9 g10 g11 g12 g13 g14 g15 g16 g17 g18 (mo_set_thrown mo (0 : Int32))) H := hP
    have hD : va_D A (w_MO dA a none q1 g2 g3 g4 g5 g6 g7 g8 g9 g10 g11 g12 g13 g14 g15 g16 g17 g18 (mo_set_thrown mo (0 : Int32))) := hD
    exact B_5 _ _ _ _ hf hP hD hS (lv_sub hl [0] rfl)
  exact E0 _ _ hP hD hS

noncomputable def f_X12_layout_n_b35 (z0 : MOT) : Option (Int32 × MOT) := (f_X12_refused z0 (1 : Int32)).bind fun r3 => some (r3.1, r3.2)
noncomputable def f_X12_layout_n_b5 (v1 : Int32) (v2 : Int32) (z0 : MOT) : Option (Int32 × MOT) := (f_X12_isForm_n z0 v1).bind fun r1 => (if r1 = 0 then f_X12_layout_n_b35 z0 else (f_X12_in v2 (0 : Int32) (3 : Int32)).bind fun r4 => (if r4 = 0 then f_X12_layout_n_b35 z0 else none))
noncomputable def f_X12_layout_n (mo : MOT) (x0 : Int32) (x1 : Int32) : Option (Int32 × MOT) := f_X12_layout_n_b5 x0 x1 (mo_set_thrown mo (0 : Int32))
set_option maxHeartbeats 4000000 in
set_option maxRecDepth 100000 in
theorem c_X12_layout_n (l : Launch) (D : va_G) (dA : Nat → ClassId) (sz : Nat) (a : Nat → Nat) (q1 : Option Nat) (g2 : Nat) (g3 : Nat) (g4 : Nat) (g5 : Nat) (g6 : Nat) (g7 : Nat) (g8 : Nat) (g9 : Nat) (g10 : Nat) (g11 : Nat) (g12 : Nat) (g13 : Nat) (g14 : Nat) (g15 : Nat) (g16 : Nat) (g17 : Nat) (g18 : Nat) (mo : MOT) (x0 : Int32) (x1 : Int32) (rv : Int32) (u0 : MOT) (hf : f_X12_layout_n mo x0 x1 = some (rv, u0)) : kb_Mi l yX12_layout cX12_layout 3 (some .int) ({ frames := 1, cells := 0, slots := 0, locals := 22 } : Room) D dA [.ref (a 0), .int x0, .int x1] sz (w_MO dA a none q1 g2 g3 g4 g5 g6 g7 g8 g9 g10 g11 g12 g13 g14 g15 g16 g17 g18 mo) 0 0 rv (w_MO dA a none q1 g2 g3 g4 g5 g6 g7 g8 g9 g10 g11 g12 g13 g14 g15 g16 g17 g18 u0) := by
  refine Met.ofW (cc := cX12_layout) (maxL := 3) (ret := (some .int)) (by decide) rfl ?_
  intro p e s m args below meth c s₁ B hml hv
  obtain ⟨rfl, hsz, hP, hK, hD0, hE⟩ := hv
  have hx := B.exec
  have hb := B.bytes
  have hr := B.returns
  have hown : s.vm.findClass RX12 = some m.cls := findClass_of_methodNamed B.named
  have hlocks := B.notSynchronized
  have hts : ∀ w ∈ kb_gw, w.before ([.ref (a 0), .int x0, .int x1] : List Value).toArray s = true := fun w hw => hK.2.1 w hw _
  subst hsz
  have hD := hD0.self (sz := s.heap.size)
  generalize hAe : va_A (w_MO dA a none q1 g2 g3 g4 g5 g6 g7 g8 g9 g10 g11 g12 g13 g14 g15 g16 g17 g18 mo) s.heap.size = A at hD hE ⊢
  have hA : ∀ q : Nat, s.heap.size ≤ q → A q := fun q h => by rw [← hAe]; exact Or.inr h
  have hS : va_S A s.heap s.heap [] := va_S.rf
  have hl := lv_entry ([.ref (a 0), .int x0, .int x1]) (n := 3) (Nat.le_of_ble_eq_true rfl)
  rw [lg_entry_eq]
  generalize (lg_sl ([.ref (a 0), .int x0, .int x1]) ++ List.replicate (3 - (lg_sl ([.ref (a 0), .int x0, .int x1])).length) Slot.unset).toArray = ls at hl ⊢
  have hl : lv_has ls 3 [(0, .ref (a 0)), (1, .int x0), (2, .int x1)] := hl
  generalize hQ : MQ below (va_Qi (fun r (_ : Unit) => r = rv) (kb_B D A (w_MO dA a none q1 g2 g3 g4 g5 g6 g7 g8 g9 g10 g11 g12 g13 g14 g15 g16 g17 g18 u0)) A) ([.ref (a 0), .int x0, .int x1] : List Value).toArray s 0 0 A = Q
  show W p l e ({ frames := 1, cells := 0, slots := 0, locals := 22 } : Room) s m ([.ref (a 0), .int x0, .int x1] : List Value).toArray below meth c s.heap [] 0 0 Q (F0 m 0 ls [])
  have RET : ∀ (r2 : Int32) (w0 : MOT) (H : Heap) (locs : List Loc) (ls : Array Slot) (pc : Nat), some (r2, w0) = some (rv, u0) → va_P D vwCl (w_MO dA a none q1 g2 g3 g4 g5 g6 g7 g8 g9 g10 g11 g12 g13 g14 g15 g16 g17 g18 w0) H → va_D A (w_MO dA a none q1 g2 g3 g4 g5 g6 g7 g8 g9 g10 g11 g12 g13 g14 g15 g16 g17 g18 w0) → va_S A s.heap H locs → decode cX12_layout pc = .ok (.ireturn, 1) → W p l e ({ frames := 1, cells := 0, slots := 0, locals := 22 } : Room) s m ([.ref (a 0), .int x0, .int x1] : List Value).toArray below meth c H locs 0 0 Q (F0 m pc ls [.int r2]) := by
    intro r2 w0 H locs ls pc hq hP hD hS hd
    cases hq
    rw [← hQ]
    exact W.iret hx hb hr (fun t ht hW => ⟨⟨_, (), rfl, rfl, by rw [ht]; exact hP, hD⟩, hS.F ht⟩) hS.2.2 hd
  have B_35 : ∀ (z0 : MOT) (H : Heap) (locs : List Loc) (ls : Array Slot), f_X12_layout_n_b35 z0 = some (rv, u0) → va_P D vwCl (w_MO dA a none q1 g2 g3 g4 g5 g6 g7 g8 g9 g10 g11 g12 g13 g14 g15 g16 g17 g18 z0) H → va_D A (w_MO dA a none q1 g2 g3 g4 g5 g6 g7 g8 g9 g10 g11 g12 g13 g14 g15 g16 g17 g18 z0) → va_S A s.heap H locs → lv_has ls 3 [(0, .ref (a 0))] → W p l e ({ frames := 1, cells := 0, slots := 0, locals := 22 } : Room) s m ([.ref (a 0), .int x0, .int x1] : List Value).toArray below meth c H locs 0 0 Q (F0 m 35 ls []) := by
    intro z0 H locs ls hf hP hD hS hl
    rw [f_X12_layout_n_b35] at hf
    refine lv_aload_n hx hb dX12_layout_35 rfl (lv_at hl 0 rfl) ?_
    refine lv_iconst (v := (1 : Int32)) hx hb dX12_layout_36 (by decide) ?_
    obtain ⟨r3, hc3, hf⟩ := kb_bind hf
    refine kb_ci (ws2 := (w_MO dA a none q1 g2 g3 g4 g5 g6 g7 g8 g9 g10 g11 g12 g13 g14 g15 g16 g17 g18 r3.2)) (kb_rV (n := 1) (As := [.int (1 : Int32)]) (rest := []) hx hb hml hown hK (c_X12_refused l D dA H.size a none q1 g2 g3 g4 g5 g6 g7 g8 g9 g10 g11 g12 g13 g14 g15 g16 g17 g18 z0 (1 : Int32) r3.1 r3.2 hc3) ⟨ww_6_82, ww_6_79, ww_6_81, ws_46, ww_1_12, rfl, by decide, by decide⟩ rfl rfl (by decide +kernel) ⟨Nat.le_of_ble_eq_true rfl, Nat.le_of_ble_eq_true rfl⟩ hP hD hS hA hE [0] rfl (by decide) 0 rfl rfl rfl hl.1 rfl (Nat.le_of_ble_eq_true rfl) dX12_layout_37 ⟨Nat.le_of_ble_eq_true rfl, Nat.le_of_ble_eq_true rfl⟩) hP hD hS hA [0] [] [0] rfl rfl (by decide) (by decide) rfl (by decide) (fun H locs hP hD hS => ?_)
    exact RET _ _ H _ ls 40 hf hP hD hS dX12_layout_40
  have B_5 : ∀ (v1 : Int32) (v2 : Int32) (z0 : MOT) (H : Heap) (locs : List Loc) (ls : Array Slot), f_X12_layout_n_b5 v1 v2 z0 = some (rv, u0) → va_P D vwCl (w_MO dA a none q1 g2 g3 g4 g5 g6 g7 g8 g9 g10 g11 g12 g13 g14 g15 g16 g17 g18 z0) H → va_D A (w_MO dA a none q1 g2 g3 g4 g5 g6 g7 g8 g9 g10 g11 g12 g13 g14 g15 g16 g17 g18 z0) → va_S A s.heap H locs → lv_has ls 3 [(0, .ref (a 0)), (1, .int v1), (2, .int v2)] → W p l e ({ frames := 1, cells := 0, slots := 0, locals := 22 } : Room) s m ([.ref (a 0), .int x0, .int x1] : List Value).toArray below meth c H locs 0 0 Q (F0 m 5 ls []) := by
    intro v1 v2 z0 H locs ls hf hP hD hS hl
    rw [f_X12_layout_n_b5] at hf
    refine lv_aload_n hx hb dX12_layout_5 rfl (lv_at hl 0 rfl) ?_
    refine lv_iload_n hx hb dX12_layout_6 rfl (lv_at hl 1 rfl) ?_
    obtain ⟨r1, hc1, hf⟩ := kb_bind hf
    refine kb_ci (ws2 := (w_MO dA a none q1 g2 g3 g4 g5 g6 g7 g8 g9 g10 g11 g12 g13 g14 g15 g16 g17 g18 z0)) (kb_rV (n := 1) (As := [.int v1]) (rest := []) hx hb hml hown hK (c_X12_isForm_n l D dA H.size a q1 g2 g3 g4 g5 g6 g7 g8 g9 g10 g11 g12 g13 g14 g15 g16 g17 g18 z0 v1 r1 hc1) ⟨ww_8_198, ww_8_195, ww_8_197, ws_117, ww_1_12, rfl, by decide, by decide⟩ rfl rfl (by decide +kernel) ⟨Nat.le_of_ble_eq_true rfl, Nat.le_of_ble_eq_true rfl⟩ hP hD hS hA hE [0] rfl (by decide) 0 rfl rfl rfl hl.1 rfl (Nat.le_of_ble_eq_true rfl) dX12_layout_7 ⟨Nat.le_of_ble_eq_true rfl, Nat.le_of_ble_eq_true rfl⟩) hP hD hS hA [0] [] [0] rfl rfl (by decide) (by decide) rfl (by decide) (fun H locs hP hD hS => ?_)
    refine lv_if_eq (tgt := 35) hx hb dX12_layout_10 (by decide) (fun c_2 => ?_) (fun c_2 => ?_)
    · rw [if_pos c_2] at hf
      exact B_35 _ _ _ _ hf hP hD hS (lv_sub hl [0] rfl)
    · rw [if_neg c_2] at hf
      refine lv_iload_n hx hb dX12_layout_13 rfl (lv_at hl 2 rfl) ?_
      refine lv_iconst (v := (0 : Int32)) hx hb dX12_layout_14 (by decide) ?_
      refine lv_iconst (v := (3 : Int32)) hx hb dX12_layout_15 (by decide) ?_
      obtain ⟨r4, hc4, hf⟩ := kb_bind hf
      refine kb_ci (ws2 := (w_MO dA a none q1 g2 g3 g4 g5 g6 g7 g8 g9 g10 g11 g12 g13 g14 g15 g16 g17 g18 z0)) (kb_rS (n := 3) (As := [.int v2, .int (0 : Int32), .int (3 : Int32)]) (rest := []) hx hb hml hown hK (c_X12_in l D dA H.size v2 (0 : Int32) (3 : Int32) r4 hc4) ⟨ww_7_2, ww_7_0, ww_7_1, ww_1_12, by decide, by decide⟩ rfl rfl (by decide +kernel) ⟨Nat.le_of_ble_eq_true rfl, Nat.le_of_ble_eq_true rfl⟩ hP hD hS hA hE [] rfl (by decide) rfl hl.1 rfl (Nat.le_of_ble_eq_true rfl) dX12_layout_16 ⟨Nat.le_of_ble_eq_true rfl, Nat.le_of_ble_eq_true rfl⟩) hP hD hS hA [] [0] [0] rfl rfl (by decide) (by decide) rfl (by decide) (fun H locs hP hD hS => ?_)
      refine lv_if_eq (tgt := 35) hx hb dX12_layout_19 (by decide) (fun c_5 => ?_) (fun c_5 => ?_)
      · rw [if_pos c_5] at hf
        exact B_35 _ _ _ _ hf hP hD hS (lv_sub hl [0] rfl)
      · rw [if_neg c_5] at hf
        refine lv_aload_n hx hb dX12_layout_22 rfl (lv_at hl 0 rfl) ?_
        refine lv_aload_n hx hb dX12_layout_23 rfl (lv_at hl 0 rfl) ?_
        refine lv_iload_n hx hb dX12_layout_24 rfl (lv_at hl 1 rfl) ?_
        refine lv_iload_n hx hb dX12_layout_25 rfl (lv_at hl 2 rfl) ?_
        cases hf
  have E0 : ∀ (H : Heap) (locs : List Loc), va_P D vwCl (w_MO dA a none q1 g2 g3 g4 g5 g6 g7 g8 g9 g10 g11 g12 g13 g14 g15 g16 g17 g18 mo) H → va_D A (w_MO dA a none q1 g2 g3 g4 g5 g6 g7 g8 g9 g10 g11 g12 g13 g14 g15 g16 g17 g18 mo) → va_S A s.heap H locs → W p l e ({ frames := 1, cells := 0, slots := 0, locals := 22 } : Room) s m ([.ref (a 0), .int x0, .int x1] : List Value).toArray below meth c H locs 0 0 Q (F0 m 0 ls []) := by
    intro H locs hP hD hS
    rw [f_X12_layout_n] at hf
    refine lv_aload_n hx hb dX12_layout_0 rfl (lv_at hl 0 rfl) ?_
    refine lv_iconst (v := (0 : Int32)) hx hb dX12_layout_1 (by decide) ?_
    refine va_put (D := D) (ci := 12) (v := .int (0 : Int32)) (ty := .int) (C := RX12) (T := TX12) (N := 35) hx hb hts kb_inX12 tyX12 tyX12_ok nmX12 hown hK.1 hP hD hS 0 rfl rfl 0 (by decide) (hK.2.w ww_5_200 rfl _) (fun _ h9 => h9) rfl (by decide +kernel) rfl rfl (Nat.le_of_ble_eq_true rfl) dX12_layout_2 (fun H locs hP hD hS => ?_)
    have hP : va_P D vwCl (w_MO dA a none q1 g2 g3 g4 g5 g6 g7 g8 g9 g10 g11 g12 g13 g14 g15 g16 g17 g18 (mo_set_thrown mo (0 : Int32))) H := hP
    have hD : va_D A (w_MO dA a none q1 g2 g3 g4 g5 g6 g7 g8 g9 g10 g11 g12 g13 g14 g15 g16 g17 g18 (mo_set_thrown mo (0 : Int32))) := hD
    exact B_5 _ _ _ _ _ _ hf hP hD hS (lv_sub hl [0, 1, 2] rfl)
  exact E0 _ _ hP hD hS

noncomputable def f_X12_beats_n_b47 (z0 : MOT) : Option (Int32 × MOT) := (f_X12_refused z0 (1 : Int32)).bind fun r3 => some (r3.1, r3.2)
noncomputable def f_X12_beats_n_b5 (v1 : Int32) (v2 : Int32) (z0 : MOT) : Option (Int32 × MOT) := (f_X12_isForm_n z0 v1).bind fun r1 => (if r1 = 0 then f_X12_beats_n_b47 z0 else (f_X12_isForm_n z0 v2).bind fun r4 => (if r4 = 0 then f_X12_beats_n_b47 z0 else (if v1 = v2 then f_X12_beats_n_b47 z0 else none)))
noncomputable def f_X12_beats_n (mo : MOT) (x0 : Int32) (x1 : Int32) : Option (Int32 × MOT) := f_X12_beats_n_b5 x0 x1 (mo_set_thrown mo (0 : Int32))
set_option maxHeartbeats 4000000 in
set_option maxRecDepth 100000 in
theorem c_X12_beats_n (l : Launch) (D : va_G) (dA : Nat → ClassId) (sz : Nat) (a : Nat → Nat) (q1 : Option Nat) (g2 : Nat) (g3 : Nat) (g4 : Nat) (g5 : Nat) (g6 : Nat) (g7 : Nat) (g8 : Nat) (g9 : Nat) (g10 : Nat) (g11 : Nat) (g12 : Nat) (g13 : Nat) (g14 : Nat) (g15 : Nat) (g16 : Nat) (g17 : Nat) (g18 : Nat) (mo : MOT) (x0 : Int32) (x1 : Int32) (rv : Int32) (u0 : MOT) (hf : f_X12_beats_n mo x0 x1 = some (rv, u0)) : kb_Mi l yX12_beats cX12_beats 3 (some .int) ({ frames := 1, cells := 0, slots := 0, locals := 21 } : Room) D dA [.ref (a 0), .int x0, .int x1] sz (w_MO dA a none q1 g2 g3 g4 g5 g6 g7 g8 g9 g10 g11 g12 g13 g14 g15 g16 g17 g18 mo) 0 0 rv (w_MO dA a none q1 g2 g3 g4 g5 g6 g7 g8 g9 g10 g11 g12 g13 g14 g15 g16 g17 g18 u0) := by
  refine Met.ofW (cc := cX12_beats) (maxL := 3) (ret := (some .int)) (by decide) rfl ?_
  intro p e s m args below meth c s₁ B hml hv
  obtain ⟨rfl, hsz, hP, hK, hD0, hE⟩ := hv
  have hx := B.exec
  have hb := B.bytes
  have hr := B.returns
  have hown : s.vm.findClass RX12 = some m.cls := findClass_of_methodNamed B.named
  have hlocks := B.notSynchronized
  have hts : ∀ w ∈ kb_gw, w.before ([.ref (a 0), .int x0, .int x1] : List Value).toArray s = true := fun w hw => hK.2.1 w hw _
  subst hsz
  have hD := hD0.self (sz := s.heap.size)
  generalize hAe : va_A (w_MO dA a none q1 g2 g3 g4 g5 g6 g7 g8 g9 g10 g11 g12 g13 g14 g15 g16 g17 g18 mo) s.heap.size = A at hD hE ⊢
  have hA : ∀ q : Nat, s.heap.size ≤ q → A q := fun q h => by rw [← hAe]; exact Or.inr h
  have hS : va_S A s.heap s.heap [] := va_S.rf
  have hl := lv_entry ([.ref (a 0), .int x0, .int x1]) (n := 3) (Nat.le_of_ble_eq_true rfl)
  rw [lg_entry_eq]
  generalize (lg_sl ([.ref (a 0), .int x0, .int x1]) ++ List.replicate (3 - (lg_sl ([.ref (a 0), .int x0, .int x1])).length) Slot.unset).toArray = ls at hl ⊢
  have hl : lv_has ls 3 [(0, .ref (a 0)), (1, .int x0), (2, .int x1)] := hl
  generalize hQ : MQ below (va_Qi (fun r (_ : Unit) => r = rv) (kb_B D A (w_MO dA a none q1 g2 g3 g4 g5 g6 g7 g8 g9 g10 g11 g12 g13 g14 g15 g16 g17 g18 u0)) A) ([.ref (a 0), .int x0, .int x1] : List Value).toArray s 0 0 A = Q
  show W p l e ({ frames := 1, cells := 0, slots := 0, locals := 21 } : Room) s m ([.ref (a 0), .int x0, .int x1] : List Value).toArray below meth c s.heap [] 0 0 Q (F0 m 0 ls [])
  have RET : ∀ (r2 : Int32) (w0 : MOT) (H : Heap) (locs : List Loc) (ls : Array Slot) (pc : Nat), some (r2, w0) = some (rv, u0) → va_P D vwCl (w_MO dA a none q1 g2 g3 g4 g5 g6 g7 g8 g9 g10 g11 g12 g13 g14 g15 g16 g17 g18 w0) H → va_D A (w_MO dA a none q1 g2 g3 g4 g5 g6 g7 g8 g9 g10 g11 g12 g13 g14 g15 g16 g17 g18 w0) → va_S A s.heap H locs → decode cX12_beats pc = .ok (.ireturn, 1) → W p l e ({ frames := 1, cells := 0, slots := 0, locals := 21 } : Room) s m ([.ref (a 0), .int x0, .int x1] : List Value).toArray below meth c H locs 0 0 Q (F0 m pc ls [.int r2]) := by
    intro r2 w0 H locs ls pc hq hP hD hS hd
    cases hq
    rw [← hQ]
    exact W.iret hx hb hr (fun t ht hW => ⟨⟨_, (), rfl, rfl, by rw [ht]; exact hP, hD⟩, hS.F ht⟩) hS.2.2 hd
  have B_47 : ∀ (z0 : MOT) (H : Heap) (locs : List Loc) (ls : Array Slot), f_X12_beats_n_b47 z0 = some (rv, u0) → va_P D vwCl (w_MO dA a none q1 g2 g3 g4 g5 g6 g7 g8 g9 g10 g11 g12 g13 g14 g15 g16 g17 g18 z0) H → va_D A (w_MO dA a none q1 g2 g3 g4 g5 g6 g7 g8 g9 g10 g11 g12 g13 g14 g15 g16 g17 g18 z0) → va_S A s.heap H locs → lv_has ls 3 [(0, .ref (a 0))] → W p l e ({ frames := 1, cells := 0, slots := 0, locals := 21 } : Room) s m ([.ref (a 0), .int x0, .int x1] : List Value).toArray below meth c H locs 0 0 Q (F0 m 47 ls []) := by
    intro z0 H locs ls hf hP hD hS hl
    rw [f_X12_beats_n_b47] at hf
    refine lv_aload_n hx hb dX12_beats_47 rfl (lv_at hl 0 rfl) ?_
    refine lv_iconst (v := (1 : Int32)) hx hb dX12_beats_48 (by decide) ?_
    obtain ⟨r3, hc3, hf⟩ := kb_bind hf
    refine kb_ci (ws2 := (w_MO dA a none q1 g2 g3 g4 g5 g6 g7 g8 g9 g10 g11 g12 g13 g14 g15 g16 g17 g18 r3.2)) (kb_rV (n := 1) (As := [.int (1 : Int32)]) (rest := []) hx hb hml hown hK (c_X12_refused l D dA H.size a none q1 g2 g3 g4 g5 g6 g7 g8 g9 g10 g11 g12 g13 g14 g15 g16 g17 g18 z0 (1 : Int32) r3.1 r3.2 hc3) ⟨ww_6_82, ww_6_79, ww_6_81, ws_46, ww_1_12, rfl, by decide, by decide⟩ rfl rfl (by decide +kernel) ⟨Nat.le_of_ble_eq_true rfl, Nat.le_of_ble_eq_true rfl⟩ hP hD hS hA hE [0] rfl (by decide) 0 rfl rfl rfl hl.1 rfl (Nat.le_of_ble_eq_true rfl) dX12_beats_49 ⟨Nat.le_of_ble_eq_true rfl, Nat.le_of_ble_eq_true rfl⟩) hP hD hS hA [0] [] [0] rfl rfl (by decide) (by decide) rfl (by decide) (fun H locs hP hD hS => ?_)
    exact RET _ _ H _ ls 52 hf hP hD hS dX12_beats_52
  have B_5 : ∀ (v1 : Int32) (v2 : Int32) (z0 : MOT) (H : Heap) (locs : List Loc) (ls : Array Slot), f_X12_beats_n_b5 v1 v2 z0 = some (rv, u0) → va_P D vwCl (w_MO dA a none q1 g2 g3 g4 g5 g6 g7 g8 g9 g10 g11 g12 g13 g14 g15 g16 g17 g18 z0) H → va_D A (w_MO dA a none q1 g2 g3 g4 g5 g6 g7 g8 g9 g10 g11 g12 g13 g14 g15 g16 g17 g18 z0) → va_S A s.heap H locs → lv_has ls 3 [(0, .ref (a 0)), (1, .int v1), (2, .int v2)] → W p l e ({ frames := 1, cells := 0, slots := 0, locals := 21 } : Room) s m ([.ref (a 0), .int x0, .int x1] : List Value).toArray below meth c H locs 0 0 Q (F0 m 5 ls []) := by
    intro v1 v2 z0 H locs ls hf hP hD hS hl
    rw [f_X12_beats_n_b5] at hf
    refine lv_aload_n hx hb dX12_beats_5 rfl (lv_at hl 0 rfl) ?_
    refine lv_iload_n hx hb dX12_beats_6 rfl (lv_at hl 1 rfl) ?_
    obtain ⟨r1, hc1, hf⟩ := kb_bind hf
    refine kb_ci (ws2 := (w_MO dA a none q1 g2 g3 g4 g5 g6 g7 g8 g9 g10 g11 g12 g13 g14 g15 g16 g17 g18 z0)) (kb_rV (n := 1) (As := [.int v1]) (rest := []) hx hb hml hown hK (c_X12_isForm_n l D dA H.size a q1 g2 g3 g4 g5 g6 g7 g8 g9 g10 g11 g12 g13 g14 g15 g16 g17 g18 z0 v1 r1 hc1) ⟨ww_8_198, ww_8_195, ww_8_197, ws_117, ww_1_12, rfl, by decide, by decide⟩ rfl rfl (by decide +kernel) ⟨Nat.le_of_ble_eq_true rfl, Nat.le_of_ble_eq_true rfl⟩ hP hD hS hA hE [0] rfl (by decide) 0 rfl rfl rfl hl.1 rfl (Nat.le_of_ble_eq_true rfl) dX12_beats_7 ⟨Nat.le_of_ble_eq_true rfl, Nat.le_of_ble_eq_true rfl⟩) hP hD hS hA [0] [] [0] rfl rfl (by decide) (by decide) rfl (by decide) (fun H locs hP hD hS => ?_)
    refine lv_if_eq (tgt := 47) hx hb dX12_beats_10 (by decide) (fun c_2 => ?_) (fun c_2 => ?_)
    · rw [if_pos c_2] at hf
      exact B_47 _ _ _ _ hf hP hD hS (lv_sub hl [0] rfl)
    · rw [if_neg c_2] at hf
      refine lv_aload_n hx hb dX12_beats_13 rfl (lv_at hl 0 rfl) ?_
      refine lv_iload_n hx hb dX12_beats_14 rfl (lv_at hl 2 rfl) ?_
      obtain ⟨r4, hc4, hf⟩ := kb_bind hf
      refine kb_ci (ws2 := (w_MO dA a none q1 g2 g3 g4 g5 g6 g7 g8 g9 g10 g11 g12 g13 g14 g15 g16 g17 g18 z0)) (kb_rV (n := 1) (As := [.int v2]) (rest := []) hx hb hml hown hK (c_X12_isForm_n l D dA H.size a q1 g2 g3 g4 g5 g6 g7 g8 g9 g10 g11 g12 g13 g14 g15 g16 g17 g18 z0 v2 r4 hc4) ⟨ww_8_198, ww_8_195, ww_8_197, ws_117, ww_1_12, rfl, by decide, by decide⟩ rfl rfl (by decide +kernel) ⟨Nat.le_of_ble_eq_true rfl, Nat.le_of_ble_eq_true rfl⟩ hP hD hS hA hE [0] rfl (by decide) 0 rfl rfl rfl hl.1 rfl (Nat.le_of_ble_eq_true rfl) dX12_beats_15 ⟨Nat.le_of_ble_eq_true rfl, Nat.le_of_ble_eq_true rfl⟩) hP hD hS hA [0] [] [0] rfl rfl (by decide) (by decide) rfl (by decide) (fun H locs hP hD hS => ?_)
      refine lv_if_eq (tgt := 47) hx hb dX12_beats_18 (by decide) (fun c_5 => ?_) (fun c_5 => ?_)
      · rw [if_pos c_5] at hf
        exact B_47 _ _ _ _ hf hP hD hS (lv_sub hl [0] rfl)
      · rw [if_neg c_5] at hf
        refine lv_iload_n hx hb dX12_beats_21 rfl (lv_at hl 1 rfl) ?_
        refine lv_iload_n hx hb dX12_beats_22 rfl (lv_at hl 2 rfl) ?_
        refine lv_icmp_eq (tgt := 47) hx hb dX12_beats_23 (by decide) (fun c_6 => ?_) (fun c_6 => ?_)
        · rw [if_pos c_6] at hf
          exact B_47 _ _ _ _ hf hP hD hS (lv_sub hl [0] rfl)
        · rw [if_neg c_6] at hf
          refine lv_aload_n hx hb dX12_beats_26 rfl (lv_at hl 0 rfl) ?_
          refine lv_aload_n hx hb dX12_beats_27 rfl (lv_at hl 0 rfl) ?_
          refine lv_iload_n hx hb dX12_beats_28 rfl (lv_at hl 1 rfl) ?_
          refine lv_iload_n hx hb dX12_beats_29 rfl (lv_at hl 2 rfl) ?_
          cases hf
  have E0 : ∀ (H : Heap) (locs : List Loc), va_P D vwCl (w_MO dA a none q1 g2 g3 g4 g5 g6 g7 g8 g9 g10 g11 g12 g13 g14 g15 g16 g17 g18 mo) H → va_D A (w_MO dA a none q1 g2 g3 g4 g5 g6 g7 g8 g9 g10 g11 g12 g13 g14 g15 g16 g17 g18 mo) → va_S A s.heap H locs → W p l e ({ frames := 1, cells := 0, slots := 0, locals := 21 } : Room) s m ([.ref (a 0), .int x0, .int x1] : List Value).toArray below meth c H locs 0 0 Q (F0 m 0 ls []) := by
    intro H locs hP hD hS
    rw [f_X12_beats_n] at hf
    refine lv_aload_n hx hb dX12_beats_0 rfl (lv_at hl 0 rfl) ?_
    refine lv_iconst (v := (0 : Int32)) hx hb dX12_beats_1 (by decide) ?_
    refine va_put (D := D) (ci := 12) (v := .int (0 : Int32)) (ty := .int) (C := RX12) (T := TX12) (N := 35) hx hb hts kb_inX12 tyX12 tyX12_ok nmX12 hown hK.1 hP hD hS 0 rfl rfl 0 (by decide) (hK.2.w ww_5_200 rfl _) (fun _ h9 => h9) rfl (by decide +kernel) rfl rfl (Nat.le_of_ble_eq_true rfl) dX12_beats_2 (fun H locs hP hD hS => ?_)
    have hP : va_P D vwCl (w_MO dA a none q1 g2 g3 g4 g5 g6 g7 g8 g9 g10 g11 g12 g13 g14 g15 g16 g17 g18 (mo_set_thrown mo (0 : Int32))) H := hP
    have hD : va_D A (w_MO dA a none q1 g2 g3 g4 g5 g6 g7 g8 g9 g10 g11 g12 g13 g14 g15 g16 g17 g18 (mo_set_thrown mo (0 : Int32))) := hD
    exact B_5 _ _ _ _ _ _ hf hP hD hS (lv_sub hl [0, 1, 2] rfl)
  exact E0 _ _ hP hD hS

noncomputable def f_X12_unbeaten_n_b5 (z0 : MOT) : Option (Int32 × MOT) := (f_X12_refused z0 (1 : Int32)).bind fun r1 => some (r1.1, r1.2)
noncomputable def f_X12_unbeaten_n (mo : MOT) : Option (Int32 × MOT) := f_X12_unbeaten_n_b5 (mo_set_thrown mo (0 : Int32))
set_option maxHeartbeats 4000000 in
set_option maxRecDepth 100000 in
theorem c_X12_unbeaten_n (l : Launch) (D : va_G) (dA : Nat → ClassId) (sz : Nat) (a : Nat → Nat) (q1 : Option Nat) (g2 : Nat) (g3 : Nat) (g4 : Nat) (g5 : Nat) (g6 : Nat) (g7 : Nat) (g8 : Nat) (g9 : Nat) (g10 : Nat) (g11 : Nat) (g12 : Nat) (g13 : Nat) (g14 : Nat) (g15 : Nat) (g16 : Nat) (g17 : Nat) (g18 : Nat) (mo : MOT) (rv : Int32) (u0 : MOT) (hf : f_X12_unbeaten_n mo = some (rv, u0)) : kb_Mi l yX12_unbeaten cX12_unbeaten 4 (some .int) ({ frames := 1, cells := 0, slots := 0, locals := 21 } : Room) D dA [.ref (a 0)] sz (w_MO dA a none q1 g2 g3 g4 g5 g6 g7 g8 g9 g10 g11 g12 g13 g14 g15 g16 g17 g18 mo) 0 0 rv (w_MO dA a none q1 g2 g3 g4 g5 g6 g7 g8 g9 g10 g11 g12 g13 g14 g15 g16 g17 g18 u0) := by
  refine Met.ofW (cc := cX12_unbeaten) (maxL := 4) (ret := (some .int)) (by decide) rfl ?_
  intro p e s m args below meth c s₁ B hml hv
  obtain ⟨rfl, hsz, hP, hK, hD0, hE⟩ := hv
  have hx := B.exec
  have hb := B.bytes
  have hr := B.returns
  have hown : s.vm.findClass RX12 = some m.cls := findClass_of_methodNamed B.named
  have hlocks := B.notSynchronized
  have hts : ∀ w ∈ kb_gw, w.before ([.ref (a 0)] : List Value).toArray s = true := fun w hw => hK.2.1 w hw _
  subst hsz
  have hD := hD0.self (sz := s.heap.size)
  generalize hAe : va_A (w_MO dA a none q1 g2 g3 g4 g5 g6 g7 g8 g9 g10 g11 g12 g13 g14 g15 g16 g17 g18 mo) s.heap.size = A at hD hE ⊢
  have hA : ∀ q : Nat, s.heap.size ≤ q → A q := fun q h => by rw [← hAe]; exact Or.inr h
  have hS : va_S A s.heap s.heap [] := va_S.rf
  have hl := lv_entry ([.ref (a 0)]) (n := 4) (Nat.le_of_ble_eq_true rfl)
  rw [lg_entry_eq]
  generalize (lg_sl ([.ref (a 0)]) ++ List.replicate (4 - (lg_sl ([.ref (a 0)])).length) Slot.unset).toArray = ls at hl ⊢
  have hl : lv_has ls 4 [(0, .ref (a 0))] := hl
  generalize hQ : MQ below (va_Qi (fun r (_ : Unit) => r = rv) (kb_B D A (w_MO dA a none q1 g2 g3 g4 g5 g6 g7 g8 g9 g10 g11 g12 g13 g14 g15 g16 g17 g18 u0)) A) ([.ref (a 0)] : List Value).toArray s 0 0 A = Q
  show W p l e ({ frames := 1, cells := 0, slots := 0, locals := 21 } : Room) s m ([.ref (a 0)] : List Value).toArray below meth c s.heap [] 0 0 Q (F0 m 0 ls [])
  have RET : ∀ (r2 : Int32) (w0 : MOT) (H : Heap) (locs : List Loc) (ls : Array Slot) (pc : Nat), some (r2, w0) = some (rv, u0) → va_P D vwCl (w_MO dA a none q1 g2 g3 g4 g5 g6 g7 g8 g9 g10 g11 g12 g13 g14 g15 g16 g17 g18 w0) H → va_D A (w_MO dA a none q1 g2 g3 g4 g5 g6 g7 g8 g9 g10 g11 g12 g13 g14 g15 g16 g17 g18 w0) → va_S A s.heap H locs → decode cX12_unbeaten pc = .ok (.ireturn, 1) → W p l e ({ frames := 1, cells := 0, slots := 0, locals := 21 } : Room) s m ([.ref (a 0)] : List Value).toArray below meth c H locs 0 0 Q (F0 m pc ls [.int r2]) := by
    intro r2 w0 H locs ls pc hq hP hD hS hd
    cases hq
    rw [← hQ]
    exact W.iret hx hb hr (fun t ht hW => ⟨⟨_, (), rfl, rfl, by rw [ht]; exact hP, hD⟩, hS.F ht⟩) hS.2.2 hd
  have B_5 : ∀ (z0 : MOT) (H : Heap) (locs : List Loc) (ls : Array Slot), f_X12_unbeaten_n_b5 z0 = some (rv, u0) → va_P D vwCl (w_MO dA a none q1 g2 g3 g4 g5 g6 g7 g8 g9 g10 g11 g12 g13 g14 g15 g16 g17 g18 z0) H → va_D A (w_MO dA a none q1 g2 g3 g4 g5 g6 g7 g8 g9 g10 g11 g12 g13 g14 g15 g16 g17 g18 z0) → va_S A s.heap H locs → lv_has ls 4 [(0, .ref (a 0))] → W p l e ({ frames := 1, cells := 0, slots := 0, locals := 21 } : Room) s m ([.ref (a 0)] : List Value).toArray below meth c H locs 0 0 Q (F0 m 5 ls []) := by
    intro z0 H locs ls hf hP hD hS hl
    rw [f_X12_unbeaten_n_b5] at hf
    refine lv_aload_n hx hb dX12_unbeaten_5 rfl (lv_at hl 0 rfl) ?_
    refine va_get (D := D) (ci := 12) (v := .null) (C := RX12) (T := TX12) (N := 35) hx hb hts kb_inX12 hown hK.1 hP 0 rfl rfl 3 (by decide) (hK.2.w ww_5_203 rfl _) (fun _ h9 => h9) rfl dX12_unbeaten_6 ?_
    refine lv_ifnonnullN hx hb dX12_unbeaten_9 ?_
    refine lv_aload_n hx hb dX12_unbeaten_12 rfl (lv_at hl 0 rfl) ?_
    refine lv_iconst (v := (1 : Int32)) hx hb dX12_unbeaten_13 (by decide) ?_
    obtain ⟨r1, hc1, hf⟩ := kb_bind hf
    refine kb_ci (ws2 := (w_MO dA a none q1 g2 g3 g4 g5 g6 g7 g8 g9 g10 g11 g12 g13 g14 g15 g16 g17 g18 r1.2)) (kb_rV (n := 1) (As := [.int (1 : Int32)]) (rest := []) hx hb hml hown hK (c_X12_refused l D dA H.size a none q1 g2 g3 g4 g5 g6 g7 g8 g9 g10 g11 g12 g13 g14 g15 g16 g17 g18 z0 (1 : Int32) r1.1 r1.2 hc1) ⟨ww_6_82, ww_6_79, ww_6_81, ws_46, ww_1_12, rfl, by decide, by decide⟩ rfl rfl (by decide +kernel) ⟨Nat.le_of_ble_eq_true rfl, Nat.le_of_ble_eq_true rfl⟩ hP hD hS hA hE [0] rfl (by decide) 0 rfl rfl rfl hl.1 rfl (Nat.le_of_ble_eq_true rfl) dX12_unbeaten_14 ⟨Nat.le_of_ble_eq_true rfl, Nat.le_of_ble_eq_true rfl⟩) hP hD hS hA [0] [] [0] rfl rfl (by decide) (by decide) rfl (by decide) (fun H locs hP hD hS => ?_)
    exact RET _ _ H _ ls 17 hf hP hD hS dX12_unbeaten_17
  have E0 : ∀ (H : Heap) (locs : List Loc), va_P D vwCl (w_MO dA a none q1 g2 g3 g4 g5 g6 g7 g8 g9 g10 g11 g12 g13 g14 g15 g16 g17 g18 mo) H → va_D A (w_MO dA a none q1 g2 g3 g4 g5 g6 g7 g8 g9 g10 g11 g12 g13 g14 g15 g16 g17 g18 mo) → va_S A s.heap H locs → W p l e ({ frames := 1, cells := 0, slots := 0, locals := 21 } : Room) s m ([.ref (a 0)] : List Value).toArray below meth c H locs 0 0 Q (F0 m 0 ls []) := by
    intro H locs hP hD hS
    rw [f_X12_unbeaten_n] at hf
    refine lv_aload_n hx hb dX12_unbeaten_0 rfl (lv_at hl 0 rfl) ?_
    refine lv_iconst (v := (0 : Int32)) hx hb dX12_unbeaten_1 (by decide) ?_
    refine va_put (D := D) (ci := 12) (v := .int (0 : Int32)) (ty := .int) (C := RX12) (T := TX12) (N := 35) hx hb hts kb_inX12 tyX12 tyX12_ok nmX12 hown hK.1 hP hD hS 0 rfl rfl 0 (by decide) (hK.2.w ww_5_200 rfl _) (fun _ h9 => h9) rfl (by decide +kernel) rfl rfl (Nat.le_of_ble_eq_true rfl) dX12_unbeaten_2 (fun H locs hP hD hS => ?_)
    have hP : va_P D vwCl (w_MO dA a none q1 g2 g3 g4 g5 g6 g7 g8 g9 g10 g11 g12 g13 g14 g15 g16 g17 g18 (mo_set_thrown mo (0 : Int32))) H := hP
    have hD : va_D A (w_MO dA a none q1 g2 g3 g4 g5 g6 g7 g8 g9 g10 g11 g12 g13 g14 g15 g16 g17 g18 (mo_set_thrown mo (0 : Int32))) := hD
    exact B_5 _ _ _ _ hf hP hD hS (lv_sub hl [0] rfl)
  exact E0 _ _ hP hD hS

noncomputable def f_X12_seat_n_b38 (z0 : MOT) : Option (Int32 × MOT) := (f_X12_refused z0 (1 : Int32)).bind fun r1 => some (r1.1, r1.2)
noncomputable def f_X12_seat_n_b5 (v1 : Int32) (v2 : Int32) (z0 : MOT) : Option (Int32 × MOT) := f_X12_seat_n_b38 z0
noncomputable def f_X12_seat_n (mo : MOT) (x0 : Int32) (x1 : Int32) : Option (Int32 × MOT) := f_X12_seat_n_b5 x0 x1 (mo_set_thrown mo (0 : Int32))
set_option maxHeartbeats 4000000 in
set_option maxRecDepth 100000 in
theorem c_X12_seat_n (l : Launch) (D : va_G) (dA : Nat → ClassId) (sz : Nat) (a : Nat → Nat) (q1 : Option Nat) (g2 : Nat) (g3 : Nat) (g4 : Nat) (g5 : Nat) (g6 : Nat) (g7 : Nat) (g8 : Nat) (g9 : Nat) (g10 : Nat) (g11 : Nat) (g12 : Nat) (g13 : Nat) (g14 : Nat) (g15 : Nat) (g16 : Nat) (g17 : Nat) (g18 : Nat) (mo : MOT) (x0 : Int32) (x1 : Int32) (rv : Int32) (u0 : MOT) (hf : f_X12_seat_n mo x0 x1 = some (rv, u0)) : kb_Mi l yX12_seat cX12_seat 3 (some .int) ({ frames := 1, cells := 0, slots := 0, locals := 21 } : Room) D dA [.ref (a 0), .int x0, .int x1] sz (w_MO dA a none q1 g2 g3 g4 g5 g6 g7 g8 g9 g10 g11 g12 g13 g14 g15 g16 g17 g18 mo) 0 0 rv (w_MO dA a none q1 g2 g3 g4 g5 g6 g7 g8 g9 g10 g11 g12 g13 g14 g15 g16 g17 g18 u0) := by
  refine Met.ofW (cc := cX12_seat) (maxL := 3) (ret := (some .int)) (by decide) rfl ?_
  intro p e s m args below meth c s₁ B hml hv
  obtain ⟨rfl, hsz, hP, hK, hD0, hE⟩ := hv
  have hx := B.exec
  have hb := B.bytes
  have hr := B.returns
  have hown : s.vm.findClass RX12 = some m.cls := findClass_of_methodNamed B.named
  have hlocks := B.notSynchronized
  have hts : ∀ w ∈ kb_gw, w.before ([.ref (a 0), .int x0, .int x1] : List Value).toArray s = true := fun w hw => hK.2.1 w hw _
  subst hsz
  have hD := hD0.self (sz := s.heap.size)
  generalize hAe : va_A (w_MO dA a none q1 g2 g3 g4 g5 g6 g7 g8 g9 g10 g11 g12 g13 g14 g15 g16 g17 g18 mo) s.heap.size = A at hD hE ⊢
  have hA : ∀ q : Nat, s.heap.size ≤ q → A q := fun q h => by rw [← hAe]; exact Or.inr h
  have hS : va_S A s.heap s.heap [] := va_S.rf
  have hl := lv_entry ([.ref (a 0), .int x0, .int x1]) (n := 3) (Nat.le_of_ble_eq_true rfl)
  rw [lg_entry_eq]
  generalize (lg_sl ([.ref (a 0), .int x0, .int x1]) ++ List.replicate (3 - (lg_sl ([.ref (a 0), .int x0, .int x1])).length) Slot.unset).toArray = ls at hl ⊢
  have hl : lv_has ls 3 [(0, .ref (a 0)), (1, .int x0), (2, .int x1)] := hl
  generalize hQ : MQ below (va_Qi (fun r (_ : Unit) => r = rv) (kb_B D A (w_MO dA a none q1 g2 g3 g4 g5 g6 g7 g8 g9 g10 g11 g12 g13 g14 g15 g16 g17 g18 u0)) A) ([.ref (a 0), .int x0, .int x1] : List Value).toArray s 0 0 A = Q
  show W p l e ({ frames := 1, cells := 0, slots := 0, locals := 21 } : Room) s m ([.ref (a 0), .int x0, .int x1] : List Value).toArray below meth c s.heap [] 0 0 Q (F0 m 0 ls [])
  have RET : ∀ (r2 : Int32) (w0 : MOT) (H : Heap) (locs : List Loc) (ls : Array Slot) (pc : Nat), some (r2, w0) = some (rv, u0) → va_P D vwCl (w_MO dA a none q1 g2 g3 g4 g5 g6 g7 g8 g9 g10 g11 g12 g13 g14 g15 g16 g17 g18 w0) H → va_D A (w_MO dA a none q1 g2 g3 g4 g5 g6 g7 g8 g9 g10 g11 g12 g13 g14 g15 g16 g17 g18 w0) → va_S A s.heap H locs → decode cX12_seat pc = .ok (.ireturn, 1) → W p l e ({ frames := 1, cells := 0, slots := 0, locals := 21 } : Room) s m ([.ref (a 0), .int x0, .int x1] : List Value).toArray below meth c H locs 0 0 Q (F0 m pc ls [.int r2]) := by
    intro r2 w0 H locs ls pc hq hP hD hS hd
    cases hq
    rw [← hQ]
    exact W.iret hx hb hr (fun t ht hW => ⟨⟨_, (), rfl, rfl, by rw [ht]; exact hP, hD⟩, hS.F ht⟩) hS.2.2 hd
  have B_38 : ∀ (z0 : MOT) (H : Heap) (locs : List Loc) (ls : Array Slot), f_X12_seat_n_b38 z0 = some (rv, u0) → va_P D vwCl (w_MO dA a none q1 g2 g3 g4 g5 g6 g7 g8 g9 g10 g11 g12 g13 g14 g15 g16 g17 g18 z0) H → va_D A (w_MO dA a none q1 g2 g3 g4 g5 g6 g7 g8 g9 g10 g11 g12 g13 g14 g15 g16 g17 g18 z0) → va_S A s.heap H locs → lv_has ls 3 [(0, .ref (a 0))] → W p l e ({ frames := 1, cells := 0, slots := 0, locals := 21 } : Room) s m ([.ref (a 0), .int x0, .int x1] : List Value).toArray below meth c H locs 0 0 Q (F0 m 38 ls []) := by
    intro z0 H locs ls hf hP hD hS hl
    rw [f_X12_seat_n_b38] at hf
    refine lv_aload_n hx hb dX12_seat_38 rfl (lv_at hl 0 rfl) ?_
    refine lv_iconst (v := (1 : Int32)) hx hb dX12_seat_39 (by decide) ?_
    obtain ⟨r1, hc1, hf⟩ := kb_bind hf
    refine kb_ci (ws2 := (w_MO dA a none q1 g2 g3 g4 g5 g6 g7 g8 g9 g10 g11 g12 g13 g14 g15 g16 g17 g18 r1.2)) (kb_rV (n := 1) (As := [.int (1 : Int32)]) (rest := []) hx hb hml hown hK (c_X12_refused l D dA H.size a none q1 g2 g3 g4 g5 g6 g7 g8 g9 g10 g11 g12 g13 g14 g15 g16 g17 g18 z0 (1 : Int32) r1.1 r1.2 hc1) ⟨ww_6_82, ww_6_79, ww_6_81, ws_46, ww_1_12, rfl, by decide, by decide⟩ rfl rfl (by decide +kernel) ⟨Nat.le_of_ble_eq_true rfl, Nat.le_of_ble_eq_true rfl⟩ hP hD hS hA hE [0] rfl (by decide) 0 rfl rfl rfl hl.1 rfl (Nat.le_of_ble_eq_true rfl) dX12_seat_40 ⟨Nat.le_of_ble_eq_true rfl, Nat.le_of_ble_eq_true rfl⟩) hP hD hS hA [0] [] [0] rfl rfl (by decide) (by decide) rfl (by decide) (fun H locs hP hD hS => ?_)
    exact RET _ _ H _ ls 43 hf hP hD hS dX12_seat_43
  have B_5 : ∀ (v1 : Int32) (v2 : Int32) (z0 : MOT) (H : Heap) (locs : List Loc) (ls : Array Slot), f_X12_seat_n_b5 v1 v2 z0 = some (rv, u0) → va_P D vwCl (w_MO dA a none q1 g2 g3 g4 g5 g6 g7 g8 g9 g10 g11 g12 g13 g14 g15 g16 g17 g18 z0) H → va_D A (w_MO dA a none q1 g2 g3 g4 g5 g6 g7 g8 g9 g10 g11 g12 g13 g14 g15 g16 g17 g18 z0) → va_S A s.heap H locs → lv_has ls 3 [(0, .ref (a 0)), (1, .int v1), (2, .int v2)] → W p l e ({ frames := 1, cells := 0, slots := 0, locals := 21 } : Room) s m ([.ref (a 0), .int x0, .int x1] : List Value).toArray below meth c H locs 0 0 Q (F0 m 5 ls []) := by
    intro v1 v2 z0 H locs ls hf hP hD hS hl
    rw [f_X12_seat_n_b5] at hf
    refine lv_aload_n hx hb dX12_seat_5 rfl (lv_at hl 0 rfl) ?_
    refine va_get (D := D) (ci := 12) (v := .null) (C := RX12) (T := TX12) (N := 35) hx hb hts kb_inX12 hown hK.1 hP 0 rfl rfl 3 (by decide) (hK.2.w ww_5_203 rfl _) (fun _ h9 => h9) rfl dX12_seat_6 ?_
    refine lv_ifnullN (tgt := 38) hx hb dX12_seat_9 (by decide) ?_
    exact B_38 _ _ _ _ hf hP hD hS (lv_sub hl [0] rfl)
  have E0 : ∀ (H : Heap) (locs : List Loc), va_P D vwCl (w_MO dA a none q1 g2 g3 g4 g5 g6 g7 g8 g9 g10 g11 g12 g13 g14 g15 g16 g17 g18 mo) H → va_D A (w_MO dA a none q1 g2 g3 g4 g5 g6 g7 g8 g9 g10 g11 g12 g13 g14 g15 g16 g17 g18 mo) → va_S A s.heap H locs → W p l e ({ frames := 1, cells := 0, slots := 0, locals := 21 } : Room) s m ([.ref (a 0), .int x0, .int x1] : List Value).toArray below meth c H locs 0 0 Q (F0 m 0 ls []) := by
    intro H locs hP hD hS
    rw [f_X12_seat_n] at hf
    refine lv_aload_n hx hb dX12_seat_0 rfl (lv_at hl 0 rfl) ?_
    refine lv_iconst (v := (0 : Int32)) hx hb dX12_seat_1 (by decide) ?_
    refine va_put (D := D) (ci := 12) (v := .int (0 : Int32)) (ty := .int) (C := RX12) (T := TX12) (N := 35) hx hb hts kb_inX12 tyX12 tyX12_ok nmX12 hown hK.1 hP hD hS 0 rfl rfl 0 (by decide) (hK.2.w ww_5_200 rfl _) (fun _ h9 => h9) rfl (by decide +kernel) rfl rfl (Nat.le_of_ble_eq_true rfl) dX12_seat_2 (fun H locs hP hD hS => ?_)
    have hP : va_P D vwCl (w_MO dA a none q1 g2 g3 g4 g5 g6 g7 g8 g9 g10 g11 g12 g13 g14 g15 g16 g17 g18 (mo_set_thrown mo (0 : Int32))) H := hP
    have hD : va_D A (w_MO dA a none q1 g2 g3 g4 g5 g6 g7 g8 g9 g10 g11 g12 g13 g14 g15 g16 g17 g18 (mo_set_thrown mo (0 : Int32))) := hD
    exact B_5 _ _ _ _ _ _ hf hP hD hS (lv_sub hl [0, 1, 2] rfl)
  exact E0 _ _ hP hD hS

noncomputable def f_X12_rider_n_b5 (v1 : Int32) (v2 : Int32) (z0 : MOT) : Option (Int32 × MOT) := (f_X12_isRider_n z0 v1).bind fun r1 => (if r1 = 0 then some ((-1 : Int32), z0) else (f_X12_in v2 (0 : Int32) (7 : Int32)).bind fun r3 => (if r3 = 0 then some ((-1 : Int32), z0) else (if v2 = (0 : Int32) then none else (if v2 = (1 : Int32) then none else (if v2 = (2 : Int32) then none else (if v2 = (3 : Int32) then none else (if v2 = (4 : Int32) then none else (if v2 = (5 : Int32) then none else (if v2 = (6 : Int32) then none else none)))))))))
noncomputable def f_X12_rider_n (mo : MOT) (x0 : Int32) (x1 : Int32) : Option (Int32 × MOT) := f_X12_rider_n_b5 x0 x1 (mo_set_thrown mo (0 : Int32))
set_option maxHeartbeats 4000000 in
set_option maxRecDepth 100000 in
theorem c_X12_rider_n (l : Launch) (D : va_G) (dA : Nat → ClassId) (sz : Nat) (a : Nat → Nat) (q1 : Option Nat) (g2 : Nat) (g3 : Nat) (g4 : Nat) (g5 : Nat) (g6 : Nat) (g7 : Nat) (g8 : Nat) (g9 : Nat) (g10 : Nat) (g11 : Nat) (g12 : Nat) (g13 : Nat) (g14 : Nat) (g15 : Nat) (g16 : Nat) (g17 : Nat) (g18 : Nat) (mo : MOT) (x0 : Int32) (x1 : Int32) (rv : Int32) (u0 : MOT) (hf : f_X12_rider_n mo x0 x1 = some (rv, u0)) : kb_Mi l yX12_rider cX12_rider 3 (some .int) ({ frames := 1, cells := 0, slots := 0, locals := 22 } : Room) D dA [.ref (a 0), .int x0, .int x1] sz (w_MO dA a none q1 g2 g3 g4 g5 g6 g7 g8 g9 g10 g11 g12 g13 g14 g15 g16 g17 g18 mo) 0 0 rv (w_MO dA a none q1 g2 g3 g4 g5 g6 g7 g8 g9 g10 g11 g12 g13 g14 g15 g16 g17 g18 u0) := by
  refine Met.ofW (cc := cX12_rider) (maxL := 3) (ret := (some .int)) (by decide) rfl ?_
  intro p e s m args below meth c s₁ B hml hv
  obtain ⟨rfl, hsz, hP, hK, hD0, hE⟩ := hv
  have hx := B.exec
  have hb := B.bytes
  have hr := B.returns
  have hown : s.vm.findClass RX12 = some m.cls := findClass_of_methodNamed B.named
  have hlocks := B.notSynchronized
  have hts : ∀ w ∈ kb_gw, w.before ([.ref (a 0), .int x0, .int x1] : List Value).toArray s = true := fun w hw => hK.2.1 w hw _
  subst hsz
  have hD := hD0.self (sz := s.heap.size)
  generalize hAe : va_A (w_MO dA a none q1 g2 g3 g4 g5 g6 g7 g8 g9 g10 g11 g12 g13 g14 g15 g16 g17 g18 mo) s.heap.size = A at hD hE ⊢
  have hA : ∀ q : Nat, s.heap.size ≤ q → A q := fun q h => by rw [← hAe]; exact Or.inr h
  have hS : va_S A s.heap s.heap [] := va_S.rf
  have hl := lv_entry ([.ref (a 0), .int x0, .int x1]) (n := 3) (Nat.le_of_ble_eq_true rfl)
  rw [lg_entry_eq]
  generalize (lg_sl ([.ref (a 0), .int x0, .int x1]) ++ List.replicate (3 - (lg_sl ([.ref (a 0), .int x0, .int x1])).length) Slot.unset).toArray = ls at hl ⊢
  have hl : lv_has ls 3 [(0, .ref (a 0)), (1, .int x0), (2, .int x1)] := hl
  generalize hQ : MQ below (va_Qi (fun r (_ : Unit) => r = rv) (kb_B D A (w_MO dA a none q1 g2 g3 g4 g5 g6 g7 g8 g9 g10 g11 g12 g13 g14 g15 g16 g17 g18 u0)) A) ([.ref (a 0), .int x0, .int x1] : List Value).toArray s 0 0 A = Q
  show W p l e ({ frames := 1, cells := 0, slots := 0, locals := 22 } : Room) s m ([.ref (a 0), .int x0, .int x1] : List Value).toArray below meth c s.heap [] 0 0 Q (F0 m 0 ls [])
  have RET : ∀ (r2 : Int32) (w0 : MOT) (H : Heap) (locs : List Loc) (ls : Array Slot) (pc : Nat), some (r2, w0) = some (rv, u0) → va_P D vwCl (w_MO dA a none q1 g2 g3 g4 g5 g6 g7 g8 g9 g10 g11 g12 g13 g14 g15 g16 g17 g18 w0) H → va_D A (w_MO dA a none q1 g2 g3 g4 g5 g6 g7 g8 g9 g10 g11 g12 g13 g14 g15 g16 g17 g18 w0) → va_S A s.heap H locs → decode cX12_rider pc = .ok (.ireturn, 1) → W p l e ({ frames := 1, cells := 0, slots := 0, locals := 22 } : Room) s m ([.ref (a 0), .int x0, .int x1] : List Value).toArray below meth c H locs 0 0 Q (F0 m pc ls [.int r2]) := by
    intro r2 w0 H locs ls pc hq hP hD hS hd
    cases hq
    rw [← hQ]
    exact W.iret hx hb hr (fun t ht hW => ⟨⟨_, (), rfl, rfl, by rw [ht]; exact hP, hD⟩, hS.F ht⟩) hS.2.2 hd
  have B_5 : ∀ (v1 : Int32) (v2 : Int32) (z0 : MOT) (H : Heap) (locs : List Loc) (ls : Array Slot), f_X12_rider_n_b5 v1 v2 z0 = some (rv, u0) → va_P D vwCl (w_MO dA a none q1 g2 g3 g4 g5 g6 g7 g8 g9 g10 g11 g12 g13 g14 g15 g16 g17 g18 z0) H → va_D A (w_MO dA a none q1 g2 g3 g4 g5 g6 g7 g8 g9 g10 g11 g12 g13 g14 g15 g16 g17 g18 z0) → va_S A s.heap H locs → lv_has ls 3 [(0, .ref (a 0)), (1, .int v1), (2, .int v2)] → W p l e ({ frames := 1, cells := 0, slots := 0, locals := 22 } : Room) s m ([.ref (a 0), .int x0, .int x1] : List Value).toArray below meth c H locs 0 0 Q (F0 m 5 ls []) := by
    intro v1 v2 z0 H locs ls hf hP hD hS hl
    rw [f_X12_rider_n_b5] at hf
    refine lv_aload_n hx hb dX12_rider_5 rfl (lv_at hl 0 rfl) ?_
    refine lv_iload_n hx hb dX12_rider_6 rfl (lv_at hl 1 rfl) ?_
    obtain ⟨r1, hc1, hf⟩ := kb_bind hf
    refine kb_ci (ws2 := (w_MO dA a none q1 g2 g3 g4 g5 g6 g7 g8 g9 g10 g11 g12 g13 g14 g15 g16 g17 g18 z0)) (kb_rV (n := 1) (As := [.int v1]) (rest := []) hx hb hml hown hK (c_X12_isRider_n l D dA H.size a q1 g2 g3 g4 g5 g6 g7 g8 g9 g10 g11 g12 g13 g14 g15 g16 g17 g18 z0 v1 r1 hc1) ⟨ww_8_5, ww_8_2, ww_8_4, ws_95, ww_1_12, rfl, by decide, by decide⟩ rfl rfl (by decide +kernel) ⟨Nat.le_of_ble_eq_true rfl, Nat.le_of_ble_eq_true rfl⟩ hP hD hS hA hE [0] rfl (by decide) 0 rfl rfl rfl hl.1 rfl (Nat.le_of_ble_eq_true rfl) dX12_rider_7 ⟨Nat.le_of_ble_eq_true rfl, Nat.le_of_ble_eq_true rfl⟩) hP hD hS hA [0] [] [0] rfl rfl (by decide) (by decide) rfl (by decide) (fun H locs hP hD hS => ?_)
    refine lv_if_eq (tgt := 23) hx hb dX12_rider_10 (by decide) (fun c_2 => ?_) (fun c_2 => ?_)
    · rw [if_pos c_2] at hf
      refine lv_iconst (v := (-1 : Int32)) hx hb dX12_rider_23 (by decide) ?_
      exact RET _ _ H _ ls 24 hf hP hD hS dX12_rider_24
    · rw [if_neg c_2] at hf
      refine lv_iload_n hx hb dX12_rider_13 rfl (lv_at hl 2 rfl) ?_
      refine lv_iconst (v := (0 : Int32)) hx hb dX12_rider_14 (by decide) ?_
      refine lv_bipush (v := (7 : Int32)) hx hb dX12_rider_15 (by decide) ?_
      obtain ⟨r3, hc3, hf⟩ := kb_bind hf
      refine kb_ci (ws2 := (w_MO dA a none q1 g2 g3 g4 g5 g6 g7 g8 g9 g10 g11 g12 g13 g14 g15 g16 g17 g18 z0)) (kb_rS (n := 3) (As := [.int v2, .int (0 : Int32), .int (7 : Int32)]) (rest := []) hx hb hml hown hK (c_X12_in l D dA H.size v2 (0 : Int32) (7 : Int32) r3 hc3) ⟨ww_7_2, ww_7_0, ww_7_1, ww_1_12, by decide, by decide⟩ rfl rfl (by decide +kernel) ⟨Nat.le_of_ble_eq_true rfl, Nat.le_of_ble_eq_true rfl⟩ hP hD hS hA hE [] rfl (by decide) rfl hl.1 rfl (Nat.le_of_ble_eq_true rfl) dX12_rider_17 ⟨Nat.le_of_ble_eq_true rfl, Nat.le_of_ble_eq_true rfl⟩) hP hD hS hA [] [0] [0] rfl rfl (by decide) (by decide) rfl (by decide) (fun H locs hP hD hS => ?_)
      refine lv_if_ne (tgt := 25) hx hb dX12_rider_20 (by decide) (fun c_4 => ?_) (fun c_4 => ?_)
      · rw [if_neg c_4] at hf
        refine lv_iload_n hx hb dX12_rider_25 rfl (lv_at hl 2 rfl) ?_
        by_cases c_5 : v2 = (0 : Int32)
        · rw [if_pos c_5] at hf
          refine lv_tableIn (tgt := 68) hx hb dX12_rider_26 (by rw [c_5]; decide) (by rw [c_5]; decide) (by rw [c_5]; rfl) (by decide) ?_
          refine lv_aload_n hx hb dX12_rider_68 rfl (lv_at hl 0 rfl) ?_
          refine va_get (D := D) (ci := 12) (v := .null) (C := RX12) (T := TX12) (N := 35) hx hb hts kb_inX12 hown hK.1 hP 0 rfl rfl 3 (by decide) (hK.2.w ww_5_203 rfl _) (fun _ h9 => h9) rfl dX12_rider_69 ?_
          cases hf
        · rw [if_neg c_5] at hf
          by_cases c_6 : v2 = (1 : Int32)
          · rw [if_pos c_6] at hf
            refine lv_tableIn (tgt := 78) hx hb dX12_rider_26 (by rw [c_6]; decide) (by rw [c_6]; decide) (by rw [c_6]; rfl) (by decide) ?_
            refine lv_aload_n hx hb dX12_rider_78 rfl (lv_at hl 0 rfl) ?_
            refine va_get (D := D) (ci := 12) (v := .null) (C := RX12) (T := TX12) (N := 35) hx hb hts kb_inX12 hown hK.1 hP 0 rfl rfl 3 (by decide) (hK.2.w ww_5_203 rfl _) (fun _ h9 => h9) rfl dX12_rider_79 ?_
            cases hf
          · rw [if_neg c_6] at hf
            by_cases c_7 : v2 = (2 : Int32)
            · rw [if_pos c_7] at hf
              refine lv_tableIn (tgt := 88) hx hb dX12_rider_26 (by rw [c_7]; decide) (by rw [c_7]; decide) (by rw [c_7]; rfl) (by decide) ?_
              refine lv_aload_n hx hb dX12_rider_88 rfl (lv_at hl 0 rfl) ?_
              refine va_get (D := D) (ci := 12) (v := .null) (C := RX12) (T := TX12) (N := 35) hx hb hts kb_inX12 hown hK.1 hP 0 rfl rfl 3 (by decide) (hK.2.w ww_5_203 rfl _) (fun _ h9 => h9) rfl dX12_rider_89 ?_
              cases hf
            · rw [if_neg c_7] at hf
              by_cases c_8 : v2 = (3 : Int32)
              · rw [if_pos c_8] at hf
                refine lv_tableIn (tgt := 98) hx hb dX12_rider_26 (by rw [c_8]; decide) (by rw [c_8]; decide) (by rw [c_8]; rfl) (by decide) ?_
                refine lv_aload_n hx hb dX12_rider_98 rfl (lv_at hl 0 rfl) ?_
                refine va_get (D := D) (ci := 12) (v := .null) (C := RX12) (T := TX12) (N := 35) hx hb hts kb_inX12 hown hK.1 hP 0 rfl rfl 3 (by decide) (hK.2.w ww_5_203 rfl _) (fun _ h9 => h9) rfl dX12_rider_99 ?_
                cases hf
              · rw [if_neg c_8] at hf
                by_cases c_9 : v2 = (4 : Int32)
                · rw [if_pos c_9] at hf
                  refine lv_tableIn (tgt := 108) hx hb dX12_rider_26 (by rw [c_9]; decide) (by rw [c_9]; decide) (by rw [c_9]; rfl) (by decide) ?_
                  refine lv_aload_n hx hb dX12_rider_108 rfl (lv_at hl 0 rfl) ?_
                  refine va_get (D := D) (ci := 12) (v := .null) (C := RX12) (T := TX12) (N := 35) hx hb hts kb_inX12 hown hK.1 hP 0 rfl rfl 3 (by decide) (hK.2.w ww_5_203 rfl _) (fun _ h9 => h9) rfl dX12_rider_109 ?_
                  cases hf
                · rw [if_neg c_9] at hf
                  by_cases c_10 : v2 = (5 : Int32)
                  · rw [if_pos c_10] at hf
                    refine lv_tableIn (tgt := 118) hx hb dX12_rider_26 (by rw [c_10]; decide) (by rw [c_10]; decide) (by rw [c_10]; rfl) (by decide) ?_
                    refine lv_aload_n hx hb dX12_rider_118 rfl (lv_at hl 0 rfl) ?_
                    refine va_get (D := D) (ci := 12) (v := .null) (C := RX12) (T := TX12) (N := 35) hx hb hts kb_inX12 hown hK.1 hP 0 rfl rfl 3 (by decide) (hK.2.w ww_5_203 rfl _) (fun _ h9 => h9) rfl dX12_rider_119 ?_
                    cases hf
                  · rw [if_neg c_10] at hf
                    by_cases c_11 : v2 = (6 : Int32)
                    · rw [if_pos c_11] at hf
                      refine lv_tableIn (tgt := 136) hx hb dX12_rider_26 (by rw [c_11]; decide) (by rw [c_11]; decide) (by rw [c_11]; rfl) (by decide) ?_
                      refine lv_aload_n hx hb dX12_rider_136 rfl (lv_at hl 0 rfl) ?_
                      refine va_get (D := D) (ci := 12) (v := .null) (C := RX12) (T := TX12) (N := 35) hx hb hts kb_inX12 hown hK.1 hP 0 rfl rfl 3 (by decide) (hK.2.w ww_5_203 rfl _) (fun _ h9 => h9) rfl dX12_rider_137 ?_
                      cases hf
                    · rw [if_neg c_11] at hf
                      refine lv_tableOut (tgt := 154) hx hb dX12_rider_26 (kb_sw 0 6 (fun k q1 q2 => by
                          rcases (show k = 0 ∨ k = 1 ∨ k = 2 ∨ k = 3 ∨ k = 4 ∨ k = 5 ∨ k = 6 by omega) with rfl | rfl | rfl | rfl | rfl | rfl | rfl
                          · exact fun e => c_5 (e.trans (by decide))
                          · exact fun e => c_6 (e.trans (by decide))
                          · exact fun e => c_7 (e.trans (by decide))
                          · exact fun e => c_8 (e.trans (by decide))
                          · exact fun e => c_9 (e.trans (by decide))
                          · exact fun e => c_10 (e.trans (by decide))
                          · exact fun e => c_11 (e.trans (by decide)))) (by decide) ?_
                      refine lv_aload_n hx hb dX12_rider_154 rfl (lv_at hl 0 rfl) ?_
                      refine va_get (D := D) (ci := 12) (v := .null) (C := RX12) (T := TX12) (N := 35) hx hb hts kb_inX12 hown hK.1 hP 0 rfl rfl 3 (by decide) (hK.2.w ww_5_203 rfl _) (fun _ h9 => h9) rfl dX12_rider_155 ?_
                      cases hf
      · rw [if_pos c_4] at hf
        refine lv_iconst (v := (-1 : Int32)) hx hb dX12_rider_23 (by decide) ?_
        exact RET _ _ H _ ls 24 hf hP hD hS dX12_rider_24
  have E0 : ∀ (H : Heap) (locs : List Loc), va_P D vwCl (w_MO dA a none q1 g2 g3 g4 g5 g6 g7 g8 g9 g10 g11 g12 g13 g14 g15 g16 g17 g18 mo) H → va_D A (w_MO dA a none q1 g2 g3 g4 g5 g6 g7 g8 g9 g10 g11 g12 g13 g14 g15 g16 g17 g18 mo) → va_S A s.heap H locs → W p l e ({ frames := 1, cells := 0, slots := 0, locals := 22 } : Room) s m ([.ref (a 0), .int x0, .int x1] : List Value).toArray below meth c H locs 0 0 Q (F0 m 0 ls []) := by
    intro H locs hP hD hS
    rw [f_X12_rider_n] at hf
    refine lv_aload_n hx hb dX12_rider_0 rfl (lv_at hl 0 rfl) ?_
    refine lv_iconst (v := (0 : Int32)) hx hb dX12_rider_1 (by decide) ?_
    refine va_put (D := D) (ci := 12) (v := .int (0 : Int32)) (ty := .int) (C := RX12) (T := TX12) (N := 35) hx hb hts kb_inX12 tyX12 tyX12_ok nmX12 hown hK.1 hP hD hS 0 rfl rfl 0 (by decide) (hK.2.w ww_5_200 rfl _) (fun _ h9 => h9) rfl (by decide +kernel) rfl rfl (Nat.le_of_ble_eq_true rfl) dX12_rider_2 (fun H locs hP hD hS => ?_)
    have hP : va_P D vwCl (w_MO dA a none q1 g2 g3 g4 g5 g6 g7 g8 g9 g10 g11 g12 g13 g14 g15 g16 g17 g18 (mo_set_thrown mo (0 : Int32))) H := hP
    have hD : va_D A (w_MO dA a none q1 g2 g3 g4 g5 g6 g7 g8 g9 g10 g11 g12 g13 g14 g15 g16 g17 g18 (mo_set_thrown mo (0 : Int32))) := hD
    exact B_5 _ _ _ _ _ _ hf hP hD hS (lv_sub hl [0, 1, 2] rfl)
  exact E0 _ _ hP hD hS

noncomputable def f_X12_way_n_b46 (z0 : MOT) : Option (Int32 × MOT) := some ((-1 : Int32), z0)
noncomputable def f_X12_way_n_b5 (v1 : Int32) (v2 : Int32) (z0 : MOT) : Option (Int32 × MOT) := (f_X12_isRule_n z0 v1).bind fun r1 => (if r1 = 0 then f_X12_way_n_b46 z0 else (if v2 < 0 then f_X12_way_n_b46 z0 else none))
noncomputable def f_X12_way_n (mo : MOT) (x0 : Int32) (x1 : Int32) : Option (Int32 × MOT) := f_X12_way_n_b5 x0 x1 (mo_set_thrown mo (0 : Int32))
set_option maxHeartbeats 4000000 in
set_option maxRecDepth 100000 in
theorem c_X12_way_n (l : Launch) (D : va_G) (dA : Nat → ClassId) (sz : Nat) (a : Nat → Nat) (q1 : Option Nat) (g2 : Nat) (g3 : Nat) (g4 : Nat) (g5 : Nat) (g6 : Nat) (g7 : Nat) (g8 : Nat) (g9 : Nat) (g10 : Nat) (g11 : Nat) (g12 : Nat) (g13 : Nat) (g14 : Nat) (g15 : Nat) (g16 : Nat) (g17 : Nat) (g18 : Nat) (mo : MOT) (x0 : Int32) (x1 : Int32) (rv : Int32) (u0 : MOT) (hf : f_X12_way_n mo x0 x1 = some (rv, u0)) : kb_Mi l yX12_way cX12_way 3 (some .int) ({ frames := 1, cells := 0, slots := 0, locals := 21 } : Room) D dA [.ref (a 0), .int x0, .int x1] sz (w_MO dA a none q1 g2 g3 g4 g5 g6 g7 g8 g9 g10 g11 g12 g13 g14 g15 g16 g17 g18 mo) 0 0 rv (w_MO dA a none q1 g2 g3 g4 g5 g6 g7 g8 g9 g10 g11 g12 g13 g14 g15 g16 g17 g18 u0) := by
  refine Met.ofW (cc := cX12_way) (maxL := 3) (ret := (some .int)) (by decide) rfl ?_
  intro p e s m args below meth c s₁ B hml hv
  obtain ⟨rfl, hsz, hP, hK, hD0, hE⟩ := hv
  have hx := B.exec
  have hb := B.bytes
  have hr := B.returns
  have hown : s.vm.findClass RX12 = some m.cls := findClass_of_methodNamed B.named
  have hlocks := B.notSynchronized
  have hts : ∀ w ∈ kb_gw, w.before ([.ref (a 0), .int x0, .int x1] : List Value).toArray s = true := fun w hw => hK.2.1 w hw _
  subst hsz
  have hD := hD0.self (sz := s.heap.size)
  generalize hAe : va_A (w_MO dA a none q1 g2 g3 g4 g5 g6 g7 g8 g9 g10 g11 g12 g13 g14 g15 g16 g17 g18 mo) s.heap.size = A at hD hE ⊢
  have hA : ∀ q : Nat, s.heap.size ≤ q → A q := fun q h => by rw [← hAe]; exact Or.inr h
  have hS : va_S A s.heap s.heap [] := va_S.rf
  have hl := lv_entry ([.ref (a 0), .int x0, .int x1]) (n := 3) (Nat.le_of_ble_eq_true rfl)
  rw [lg_entry_eq]
  generalize (lg_sl ([.ref (a 0), .int x0, .int x1]) ++ List.replicate (3 - (lg_sl ([.ref (a 0), .int x0, .int x1])).length) Slot.unset).toArray = ls at hl ⊢
  have hl : lv_has ls 3 [(0, .ref (a 0)), (1, .int x0), (2, .int x1)] := hl
  generalize hQ : MQ below (va_Qi (fun r (_ : Unit) => r = rv) (kb_B D A (w_MO dA a none q1 g2 g3 g4 g5 g6 g7 g8 g9 g10 g11 g12 g13 g14 g15 g16 g17 g18 u0)) A) ([.ref (a 0), .int x0, .int x1] : List Value).toArray s 0 0 A = Q
  show W p l e ({ frames := 1, cells := 0, slots := 0, locals := 21 } : Room) s m ([.ref (a 0), .int x0, .int x1] : List Value).toArray below meth c s.heap [] 0 0 Q (F0 m 0 ls [])
  have RET : ∀ (r2 : Int32) (w0 : MOT) (H : Heap) (locs : List Loc) (ls : Array Slot) (pc : Nat), some (r2, w0) = some (rv, u0) → va_P D vwCl (w_MO dA a none q1 g2 g3 g4 g5 g6 g7 g8 g9 g10 g11 g12 g13 g14 g15 g16 g17 g18 w0) H → va_D A (w_MO dA a none q1 g2 g3 g4 g5 g6 g7 g8 g9 g10 g11 g12 g13 g14 g15 g16 g17 g18 w0) → va_S A s.heap H locs → decode cX12_way pc = .ok (.ireturn, 1) → W p l e ({ frames := 1, cells := 0, slots := 0, locals := 21 } : Room) s m ([.ref (a 0), .int x0, .int x1] : List Value).toArray below meth c H locs 0 0 Q (F0 m pc ls [.int r2]) := by
    intro r2 w0 H locs ls pc hq hP hD hS hd
    cases hq
    rw [← hQ]
    exact W.iret hx hb hr (fun t ht hW => ⟨⟨_, (), rfl, rfl, by rw [ht]; exact hP, hD⟩, hS.F ht⟩) hS.2.2 hd
  have B_46 : ∀ (z0 : MOT) (H : Heap) (locs : List Loc) (ls : Array Slot), f_X12_way_n_b46 z0 = some (rv, u0) → va_P D vwCl (w_MO dA a none q1 g2 g3 g4 g5 g6 g7 g8 g9 g10 g11 g12 g13 g14 g15 g16 g17 g18 z0) H → va_D A (w_MO dA a none q1 g2 g3 g4 g5 g6 g7 g8 g9 g10 g11 g12 g13 g14 g15 g16 g17 g18 z0) → va_S A s.heap H locs → lv_has ls 3 [] → W p l e ({ frames := 1, cells := 0, slots := 0, locals := 21 } : Room) s m ([.ref (a 0), .int x0, .int x1] : List Value).toArray below meth c H locs 0 0 Q (F0 m 46 ls []) := by
    intro z0 H locs ls hf hP hD hS hl
    rw [f_X12_way_n_b46] at hf
    refine lv_iconst (v := (-1 : Int32)) hx hb dX12_way_46 (by decide) ?_
    exact RET _ _ H _ ls 47 hf hP hD hS dX12_way_47
  have B_5 : ∀ (v1 : Int32) (v2 : Int32) (z0 : MOT) (H : Heap) (locs : List Loc) (ls : Array Slot), f_X12_way_n_b5 v1 v2 z0 = some (rv, u0) → va_P D vwCl (w_MO dA a none q1 g2 g3 g4 g5 g6 g7 g8 g9 g10 g11 g12 g13 g14 g15 g16 g17 g18 z0) H → va_D A (w_MO dA a none q1 g2 g3 g4 g5 g6 g7 g8 g9 g10 g11 g12 g13 g14 g15 g16 g17 g18 z0) → va_S A s.heap H locs → lv_has ls 3 [(0, .ref (a 0)), (1, .int v1), (2, .int v2)] → W p l e ({ frames := 1, cells := 0, slots := 0, locals := 21 } : Room) s m ([.ref (a 0), .int x0, .int x1] : List Value).toArray below meth c H locs 0 0 Q (F0 m 5 ls []) := by
    intro v1 v2 z0 H locs ls hf hP hD hS hl
    rw [f_X12_way_n_b5] at hf
    refine lv_aload_n hx hb dX12_way_5 rfl (lv_at hl 0 rfl) ?_
    refine lv_iload_n hx hb dX12_way_6 rfl (lv_at hl 1 rfl) ?_
    obtain ⟨r1, hc1, hf⟩ := kb_bind hf
    refine kb_ci (ws2 := (w_MO dA a none q1 g2 g3 g4 g5 g6 g7 g8 g9 g10 g11 g12 g13 g14 g15 g16 g17 g18 z0)) (kb_rV (n := 1) (As := [.int v1]) (rest := []) hx hb hml hown hK (c_X12_isRule_n l D dA H.size a q1 g2 g3 g4 g5 g6 g7 g8 g9 g10 g11 g12 g13 g14 g15 g16 g17 g18 z0 v1 r1 hc1) ⟨ww_8_146, ww_8_143, ww_8_145, ws_111, ww_1_12, rfl, by decide, by decide⟩ rfl rfl (by decide +kernel) ⟨Nat.le_of_ble_eq_true rfl, Nat.le_of_ble_eq_true rfl⟩ hP hD hS hA hE [0] rfl (by decide) 0 rfl rfl rfl hl.1 rfl (Nat.le_of_ble_eq_true rfl) dX12_way_7 ⟨Nat.le_of_ble_eq_true rfl, Nat.le_of_ble_eq_true rfl⟩) hP hD hS hA [0] [] [0] rfl rfl (by decide) (by decide) rfl (by decide) (fun H locs hP hD hS => ?_)
    refine lv_if_eq (tgt := 46) hx hb dX12_way_10 (by decide) (fun c_2 => ?_) (fun c_2 => ?_)
    · rw [if_pos c_2] at hf
      exact B_46 _ _ _ _ hf hP hD hS (lv_sub hl [] rfl)
    · rw [if_neg c_2] at hf
      refine lv_iload_n hx hb dX12_way_13 rfl (lv_at hl 2 rfl) ?_
      refine lv_if_lt (tgt := 46) hx hb dX12_way_14 (by decide) (fun c_3 => ?_) (fun c_3 => ?_)
      · rw [if_pos c_3] at hf
        exact B_46 _ _ _ _ hf hP hD hS (lv_sub hl [] rfl)
      · rw [if_neg c_3] at hf
        refine lv_iload_n hx hb dX12_way_17 rfl (lv_at hl 2 rfl) ?_
        refine lv_aload_n hx hb dX12_way_18 rfl (lv_at hl 0 rfl) ?_
        refine va_get (D := D) (ci := 12) (v := .null) (C := RX12) (T := TX12) (N := 35) hx hb hts kb_inX12 hown hK.1 hP 0 rfl rfl 3 (by decide) (hK.2.w ww_5_203 rfl _) (fun _ h9 => h9) rfl dX12_way_19 ?_
        cases hf
  have E0 : ∀ (H : Heap) (locs : List Loc), va_P D vwCl (w_MO dA a none q1 g2 g3 g4 g5 g6 g7 g8 g9 g10 g11 g12 g13 g14 g15 g16 g17 g18 mo) H → va_D A (w_MO dA a none q1 g2 g3 g4 g5 g6 g7 g8 g9 g10 g11 g12 g13 g14 g15 g16 g17 g18 mo) → va_S A s.heap H locs → W p l e ({ frames := 1, cells := 0, slots := 0, locals := 21 } : Room) s m ([.ref (a 0), .int x0, .int x1] : List Value).toArray below meth c H locs 0 0 Q (F0 m 0 ls []) := by
    intro H locs hP hD hS
    rw [f_X12_way_n] at hf
    refine lv_aload_n hx hb dX12_way_0 rfl (lv_at hl 0 rfl) ?_
    refine lv_iconst (v := (0 : Int32)) hx hb dX12_way_1 (by decide) ?_
    refine va_put (D := D) (ci := 12) (v := .int (0 : Int32)) (ty := .int) (C := RX12) (T := TX12) (N := 35) hx hb hts kb_inX12 tyX12 tyX12_ok nmX12 hown hK.1 hP hD hS 0 rfl rfl 0 (by decide) (hK.2.w ww_5_200 rfl _) (fun _ h9 => h9) rfl (by decide +kernel) rfl rfl (Nat.le_of_ble_eq_true rfl) dX12_way_2 (fun H locs hP hD hS => ?_)
    have hP : va_P D vwCl (w_MO dA a none q1 g2 g3 g4 g5 g6 g7 g8 g9 g10 g11 g12 g13 g14 g15 g16 g17 g18 (mo_set_thrown mo (0 : Int32))) H := hP
    have hD : va_D A (w_MO dA a none q1 g2 g3 g4 g5 g6 g7 g8 g9 g10 g11 g12 g13 g14 g15 g16 g17 g18 (mo_set_thrown mo (0 : Int32))) := hD
    exact B_5 _ _ _ _ _ _ hf hP hD hS (lv_sub hl [0, 1, 2] rfl)
  exact E0 _ _ hP hD hS

noncomputable def f_X12_led_n_b64 (z0 : MOT) : Option (Int32 × MOT) := some ((0 : Int32), z0)
noncomputable def f_X12_led_n_b59 (z0 : MOT) : Option (Int32 × MOT) := f_X12_led_n_b64 (mo_set_thrown z0 (1 : Int32))
noncomputable def f_X12_led_n_b9 : Nat → Int32 → Int32 → Int32 → MOT → Option (Int32 × MOT)
  | 0, _, _, _, _ => none
  | n + 1, v1, v2, v3, z0 => f_X12_led_n_b59 z0
noncomputable def f_X12_led_n_b5 (v1 : Int32) (z0 : MOT) : Option (Int32 × MOT) := f_X12_led_n_b9 4096 v1 (0 : Int32) (0 : Int32) z0
noncomputable def f_X12_led_n (mo : MOT) (x0 : Int32) : Option (Int32 × MOT) := f_X12_led_n_b5 x0 (mo_set_thrown mo (0 : Int32))
set_option maxHeartbeats 4000000 in
set_option maxRecDepth 100000 in
theorem c_X12_led_n (l : Launch) (D : va_G) (dA : Nat → ClassId) (sz : Nat) (a : Nat → Nat) (q1 : Option Nat) (g2 : Nat) (g3 : Nat) (g4 : Nat) (g5 : Nat) (g6 : Nat) (g7 : Nat) (g8 : Nat) (g9 : Nat) (g10 : Nat) (g11 : Nat) (g12 : Nat) (g13 : Nat) (g14 : Nat) (g15 : Nat) (g16 : Nat) (g17 : Nat) (g18 : Nat) (mo : MOT) (x0 : Int32) (rv : Int32) (u0 : MOT) (hf : f_X12_led_n mo x0 = some (rv, u0)) : kb_Mi l yX12_led cX12_led 4 (some .int) ({ frames := 0, cells := 0, slots := 0, locals := 0 } : Room) D dA [.ref (a 0), .int x0] sz (w_MO dA a none q1 g2 g3 g4 g5 g6 g7 g8 g9 g10 g11 g12 g13 g14 g15 g16 g17 g18 mo) 0 0 rv (w_MO dA a none q1 g2 g3 g4 g5 g6 g7 g8 g9 g10 g11 g12 g13 g14 g15 g16 g17 g18 u0) := by
  refine Met.ofW (cc := cX12_led) (maxL := 4) (ret := (some .int)) (by decide) rfl ?_
  intro p e s m args below meth c s₁ B hml hv
  obtain ⟨rfl, hsz, hP, hK, hD0, hE⟩ := hv
  have hx := B.exec
  have hb := B.bytes
  have hr := B.returns
  have hown : s.vm.findClass RX12 = some m.cls := findClass_of_methodNamed B.named
  have hlocks := B.notSynchronized
  have hts : ∀ w ∈ kb_gw, w.before ([.ref (a 0), .int x0] : List Value).toArray s = true := fun w hw => hK.2.1 w hw _
  subst hsz
  have hD := hD0.self (sz := s.heap.size)
  generalize hAe : va_A (w_MO dA a none q1 g2 g3 g4 g5 g6 g7 g8 g9 g10 g11 g12 g13 g14 g15 g16 g17 g18 mo) s.heap.size = A at hD hE ⊢
  have hA : ∀ q : Nat, s.heap.size ≤ q → A q := fun q h => by rw [← hAe]; exact Or.inr h
  have hS : va_S A s.heap s.heap [] := va_S.rf
  have hl := lv_entry ([.ref (a 0), .int x0]) (n := 4) (Nat.le_of_ble_eq_true rfl)
  rw [lg_entry_eq]
  generalize (lg_sl ([.ref (a 0), .int x0]) ++ List.replicate (4 - (lg_sl ([.ref (a 0), .int x0])).length) Slot.unset).toArray = ls at hl ⊢
  have hl : lv_has ls 4 [(0, .ref (a 0)), (1, .int x0)] := hl
  generalize hQ : MQ below (va_Qi (fun r (_ : Unit) => r = rv) (kb_B D A (w_MO dA a none q1 g2 g3 g4 g5 g6 g7 g8 g9 g10 g11 g12 g13 g14 g15 g16 g17 g18 u0)) A) ([.ref (a 0), .int x0] : List Value).toArray s 0 0 A = Q
  show W p l e ({ frames := 0, cells := 0, slots := 0, locals := 0 } : Room) s m ([.ref (a 0), .int x0] : List Value).toArray below meth c s.heap [] 0 0 Q (F0 m 0 ls [])
  have RET : ∀ (r2 : Int32) (w0 : MOT) (H : Heap) (locs : List Loc) (ls : Array Slot) (pc : Nat), some (r2, w0) = some (rv, u0) → va_P D vwCl (w_MO dA a none q1 g2 g3 g4 g5 g6 g7 g8 g9 g10 g11 g12 g13 g14 g15 g16 g17 g18 w0) H → va_D A (w_MO dA a none q1 g2 g3 g4 g5 g6 g7 g8 g9 g10 g11 g12 g13 g14 g15 g16 g17 g18 w0) → va_S A s.heap H locs → decode cX12_led pc = .ok (.ireturn, 1) → W p l e ({ frames := 0, cells := 0, slots := 0, locals := 0 } : Room) s m ([.ref (a 0), .int x0] : List Value).toArray below meth c H locs 0 0 Q (F0 m pc ls [.int r2]) := by
    intro r2 w0 H locs ls pc hq hP hD hS hd
    cases hq
    rw [← hQ]
    exact W.iret hx hb hr (fun t ht hW => ⟨⟨_, (), rfl, rfl, by rw [ht]; exact hP, hD⟩, hS.F ht⟩) hS.2.2 hd
  have B_64 : ∀ (z0 : MOT) (H : Heap) (locs : List Loc) (ls : Array Slot), f_X12_led_n_b64 z0 = some (rv, u0) → va_P D vwCl (w_MO dA a none q1 g2 g3 g4 g5 g6 g7 g8 g9 g10 g11 g12 g13 g14 g15 g16 g17 g18 z0) H → va_D A (w_MO dA a none q1 g2 g3 g4 g5 g6 g7 g8 g9 g10 g11 g12 g13 g14 g15 g16 g17 g18 z0) → va_S A s.heap H locs → lv_has ls 4 [] → W p l e ({ frames := 0, cells := 0, slots := 0, locals := 0 } : Room) s m ([.ref (a 0), .int x0] : List Value).toArray below meth c H locs 0 0 Q (F0 m 64 ls []) := by
    intro z0 H locs ls hf hP hD hS hl
    rw [f_X12_led_n_b64] at hf
    refine lv_iconst (v := (0 : Int32)) hx hb dX12_led_64 (by decide) ?_
    exact RET _ _ H _ ls 65 hf hP hD hS dX12_led_65
  have B_59 : ∀ (z0 : MOT) (H : Heap) (locs : List Loc) (ls : Array Slot), f_X12_led_n_b59 z0 = some (rv, u0) → va_P D vwCl (w_MO dA a none q1 g2 g3 g4 g5 g6 g7 g8 g9 g10 g11 g12 g13 g14 g15 g16 g17 g18 z0) H → va_D A (w_MO dA a none q1 g2 g3 g4 g5 g6 g7 g8 g9 g10 g11 g12 g13 g14 g15 g16 g17 g18 z0) → va_S A s.heap H locs → lv_has ls 4 [(0, .ref (a 0))] → W p l e ({ frames := 0, cells := 0, slots := 0, locals := 0 } : Room) s m ([.ref (a 0), .int x0] : List Value).toArray below meth c H locs 0 0 Q (F0 m 59 ls []) := by
    intro z0 H locs ls hf hP hD hS hl
    rw [f_X12_led_n_b59] at hf
    refine lv_aload_n hx hb dX12_led_59 rfl (lv_at hl 0 rfl) ?_
    refine lv_iconst (v := (1 : Int32)) hx hb dX12_led_60 (by decide) ?_
    refine va_put (D := D) (ci := 12) (v := .int (1 : Int32)) (ty := .int) (C := RX12) (T := TX12) (N := 35) hx hb hts kb_inX12 tyX12 tyX12_ok nmX12 hown hK.1 hP hD hS 0 rfl rfl 0 (by decide) (hK.2.w ww_5_200 rfl _) (fun _ h9 => h9) rfl (by decide +kernel) rfl rfl (Nat.le_of_ble_eq_true rfl) dX12_led_61 (fun H locs hP hD hS => ?_)
    have hP : va_P D vwCl (w_MO dA a none q1 g2 g3 g4 g5 g6 g7 g8 g9 g10 g11 g12 g13 g14 g15 g16 g17 g18 (mo_set_thrown z0 (1 : Int32))) H := hP
    have hD : va_D A (w_MO dA a none q1 g2 g3 g4 g5 g6 g7 g8 g9 g10 g11 g12 g13 g14 g15 g16 g17 g18 (mo_set_thrown z0 (1 : Int32))) := hD
    exact B_64 _ _ _ _ hf hP hD hS (lv_sub hl [] rfl)
  have B_9 : ∀ (n : Nat) (v1 : Int32) (v2 : Int32) (v3 : Int32) (z0 : MOT) (H : Heap) (locs : List Loc) (ls : Array Slot), f_X12_led_n_b9 n v1 v2 v3 z0 = some (rv, u0) → va_P D vwCl (w_MO dA a none q1 g2 g3 g4 g5 g6 g7 g8 g9 g10 g11 g12 g13 g14 g15 g16 g17 g18 z0) H → va_D A (w_MO dA a none q1 g2 g3 g4 g5 g6 g7 g8 g9 g10 g11 g12 g13 g14 g15 g16 g17 g18 z0) → va_S A s.heap H locs → lv_has ls 4 [(0, .ref (a 0)), (1, .int v1), (2, .int v2), (3, .int v3)] → W p l e ({ frames := 0, cells := 0, slots := 0, locals := 0 } : Room) s m ([.ref (a 0), .int x0] : List Value).toArray below meth c H locs 0 0 Q (F0 m 9 ls []) := by
    intro n
    induction n with
    | zero =>
      intro v1 v2 v3 z0 H locs ls hf
      exact absurd hf (by simp [f_X12_led_n_b9])
    | succ n ih =>
      intro v1 v2 v3 z0 H locs ls hf hP hD hS hl
      rw [f_X12_led_n_b9] at hf
      refine lv_aload_n hx hb dX12_led_9 rfl (lv_at hl 0 rfl) ?_
      refine va_get (D := D) (ci := 12) (v := .null) (C := RX12) (T := TX12) (N := 35) hx hb hts kb_inX12 hown hK.1 hP 0 rfl rfl 3 (by decide) (hK.2.w ww_5_203 rfl _) (fun _ h9 => h9) rfl dX12_led_10 ?_
      refine lv_ifnullN (tgt := 59) hx hb dX12_led_13 (by decide) ?_
      exact B_59 _ _ _ _ hf hP hD hS (lv_sub hl [0] rfl)
  have B_5 : ∀ (v1 : Int32) (z0 : MOT) (H : Heap) (locs : List Loc) (ls : Array Slot), f_X12_led_n_b5 v1 z0 = some (rv, u0) → va_P D vwCl (w_MO dA a none q1 g2 g3 g4 g5 g6 g7 g8 g9 g10 g11 g12 g13 g14 g15 g16 g17 g18 z0) H → va_D A (w_MO dA a none q1 g2 g3 g4 g5 g6 g7 g8 g9 g10 g11 g12 g13 g14 g15 g16 g17 g18 z0) → va_S A s.heap H locs → lv_has ls 4 [(0, .ref (a 0)), (1, .int v1)] → W p l e ({ frames := 0, cells := 0, slots := 0, locals := 0 } : Room) s m ([.ref (a 0), .int x0] : List Value).toArray below meth c H locs 0 0 Q (F0 m 5 ls []) := by
    intro v1 z0 H locs ls hf hP hD hS hl
    rw [f_X12_led_n_b5] at hf
    refine lv_iconst (v := (0 : Int32)) hx hb dX12_led_5 (by decide) ?_
    refine lv_istore_n (lv' := [(2, .int (0 : Int32)), (0, .ref (a 0)), (1, .int v1)]) hx hb dX12_led_6 rfl hl (by decide) rfl (fun ls hl => ?_)
    refine lv_iconst (v := (0 : Int32)) hx hb dX12_led_7 (by decide) ?_
    refine lv_istore_n (lv' := [(3, .int (0 : Int32)), (2, .int (0 : Int32)), (0, .ref (a 0)), (1, .int v1)]) hx hb dX12_led_8 rfl hl (by decide) rfl (fun ls hl => ?_)
    exact B_9 4096 _ _ _ _ _ _ _ hf hP hD hS (lv_sub hl [2, 3, 1, 0] rfl)
  have E0 : ∀ (H : Heap) (locs : List Loc), va_P D vwCl (w_MO dA a none q1 g2 g3 g4 g5 g6 g7 g8 g9 g10 g11 g12 g13 g14 g15 g16 g17 g18 mo) H → va_D A (w_MO dA a none q1 g2 g3 g4 g5 g6 g7 g8 g9 g10 g11 g12 g13 g14 g15 g16 g17 g18 mo) → va_S A s.heap H locs → W p l e ({ frames := 0, cells := 0, slots := 0, locals := 0 } : Room) s m ([.ref (a 0), .int x0] : List Value).toArray below meth c H locs 0 0 Q (F0 m 0 ls []) := by
    intro H locs hP hD hS
    rw [f_X12_led_n] at hf
    refine lv_aload_n hx hb dX12_led_0 rfl (lv_at hl 0 rfl) ?_
    refine lv_iconst (v := (0 : Int32)) hx hb dX12_led_1 (by decide) ?_
    refine va_put (D := D) (ci := 12) (v := .int (0 : Int32)) (ty := .int) (C := RX12) (T := TX12) (N := 35) hx hb hts kb_inX12 tyX12 tyX12_ok nmX12 hown hK.1 hP hD hS 0 rfl rfl 0 (by decide) (hK.2.w ww_5_200 rfl _) (fun _ h9 => h9) rfl (by decide +kernel) rfl rfl (Nat.le_of_ble_eq_true rfl) dX12_led_2 (fun H locs hP hD hS => ?_)
    have hP : va_P D vwCl (w_MO dA a none q1 g2 g3 g4 g5 g6 g7 g8 g9 g10 g11 g12 g13 g14 g15 g16 g17 g18 (mo_set_thrown mo (0 : Int32))) H := hP
    have hD : va_D A (w_MO dA a none q1 g2 g3 g4 g5 g6 g7 g8 g9 g10 g11 g12 g13 g14 g15 g16 g17 g18 (mo_set_thrown mo (0 : Int32))) := hD
    exact B_5 _ _ _ _ _ hf hP hD hS (lv_sub hl [0, 1] rfl)
  exact E0 _ _ hP hD hS

noncomputable def f_X12_size_n_b5 (v1 : Int32) (z0 : MOT) : Option (Int32 × MOT) := (if v1 = (9 : Int32) then some ((mo_taped z0), z0) else (f_X12_in v1 (0 : Int32) (8 : Int32)).bind fun r2 => (if r2 = 0 then some ((-1 : Int32), z0) else some ((0 : Int32), z0)))
noncomputable def f_X12_size_n (mo : MOT) (x0 : Int32) : Option (Int32 × MOT) := f_X12_size_n_b5 x0 (mo_set_thrown mo (0 : Int32))
set_option maxHeartbeats 4000000 in
set_option maxRecDepth 100000 in
theorem c_X12_size_n (l : Launch) (D : va_G) (dA : Nat → ClassId) (sz : Nat) (a : Nat → Nat) (q1 : Option Nat) (g2 : Nat) (g3 : Nat) (g4 : Nat) (g5 : Nat) (g6 : Nat) (g7 : Nat) (g8 : Nat) (g9 : Nat) (g10 : Nat) (g11 : Nat) (g12 : Nat) (g13 : Nat) (g14 : Nat) (g15 : Nat) (g16 : Nat) (g17 : Nat) (g18 : Nat) (mo : MOT) (x0 : Int32) (rv : Int32) (u0 : MOT) (hf : f_X12_size_n mo x0 = some (rv, u0)) : kb_Mi l yX12_size cX12_size 2 (some .int) ({ frames := 1, cells := 0, slots := 0, locals := 22 } : Room) D dA [.ref (a 0), .int x0] sz (w_MO dA a none q1 g2 g3 g4 g5 g6 g7 g8 g9 g10 g11 g12 g13 g14 g15 g16 g17 g18 mo) 0 0 rv (w_MO dA a none q1 g2 g3 g4 g5 g6 g7 g8 g9 g10 g11 g12 g13 g14 g15 g16 g17 g18 u0) := by
  refine Met.ofW (cc := cX12_size) (maxL := 2) (ret := (some .int)) (by decide) rfl ?_
  intro p e s m args below meth c s₁ B hml hv
  obtain ⟨rfl, hsz, hP, hK, hD0, hE⟩ := hv
  have hx := B.exec
  have hb := B.bytes
  have hr := B.returns
  have hown : s.vm.findClass RX12 = some m.cls := findClass_of_methodNamed B.named
  have hlocks := B.notSynchronized
  have hts : ∀ w ∈ kb_gw, w.before ([.ref (a 0), .int x0] : List Value).toArray s = true := fun w hw => hK.2.1 w hw _
  subst hsz
  have hD := hD0.self (sz := s.heap.size)
  generalize hAe : va_A (w_MO dA a none q1 g2 g3 g4 g5 g6 g7 g8 g9 g10 g11 g12 g13 g14 g15 g16 g17 g18 mo) s.heap.size = A at hD hE ⊢
  have hA : ∀ q : Nat, s.heap.size ≤ q → A q := fun q h => by rw [← hAe]; exact Or.inr h
  have hS : va_S A s.heap s.heap [] := va_S.rf
  have hl := lv_entry ([.ref (a 0), .int x0]) (n := 2) (Nat.le_of_ble_eq_true rfl)
  rw [lg_entry_eq]
  generalize (lg_sl ([.ref (a 0), .int x0]) ++ List.replicate (2 - (lg_sl ([.ref (a 0), .int x0])).length) Slot.unset).toArray = ls at hl ⊢
  have hl : lv_has ls 2 [(0, .ref (a 0)), (1, .int x0)] := hl
  generalize hQ : MQ below (va_Qi (fun r (_ : Unit) => r = rv) (kb_B D A (w_MO dA a none q1 g2 g3 g4 g5 g6 g7 g8 g9 g10 g11 g12 g13 g14 g15 g16 g17 g18 u0)) A) ([.ref (a 0), .int x0] : List Value).toArray s 0 0 A = Q
  show W p l e ({ frames := 1, cells := 0, slots := 0, locals := 22 } : Room) s m ([.ref (a 0), .int x0] : List Value).toArray below meth c s.heap [] 0 0 Q (F0 m 0 ls [])
  have RET : ∀ (r2 : Int32) (w0 : MOT) (H : Heap) (locs : List Loc) (ls : Array Slot) (pc : Nat), some (r2, w0) = some (rv, u0) → va_P D vwCl (w_MO dA a none q1 g2 g3 g4 g5 g6 g7 g8 g9 g10 g11 g12 g13 g14 g15 g16 g17 g18 w0) H → va_D A (w_MO dA a none q1 g2 g3 g4 g5 g6 g7 g8 g9 g10 g11 g12 g13 g14 g15 g16 g17 g18 w0) → va_S A s.heap H locs → decode cX12_size pc = .ok (.ireturn, 1) → W p l e ({ frames := 1, cells := 0, slots := 0, locals := 22 } : Room) s m ([.ref (a 0), .int x0] : List Value).toArray below meth c H locs 0 0 Q (F0 m pc ls [.int r2]) := by
    intro r2 w0 H locs ls pc hq hP hD hS hd
    cases hq
    rw [← hQ]
    exact W.iret hx hb hr (fun t ht hW => ⟨⟨_, (), rfl, rfl, by rw [ht]; exact hP, hD⟩, hS.F ht⟩) hS.2.2 hd
  have B_5 : ∀ (v1 : Int32) (z0 : MOT) (H : Heap) (locs : List Loc) (ls : Array Slot), f_X12_size_n_b5 v1 z0 = some (rv, u0) → va_P D vwCl (w_MO dA a none q1 g2 g3 g4 g5 g6 g7 g8 g9 g10 g11 g12 g13 g14 g15 g16 g17 g18 z0) H → va_D A (w_MO dA a none q1 g2 g3 g4 g5 g6 g7 g8 g9 g10 g11 g12 g13 g14 g15 g16 g17 g18 z0) → va_S A s.heap H locs → lv_has ls 2 [(0, .ref (a 0)), (1, .int v1)] → W p l e ({ frames := 1, cells := 0, slots := 0, locals := 22 } : Room) s m ([.ref (a 0), .int x0] : List Value).toArray below meth c H locs 0 0 Q (F0 m 5 ls []) := by
    intro v1 z0 H locs ls hf hP hD hS hl
    rw [f_X12_size_n_b5] at hf
    refine lv_iload_n hx hb dX12_size_5 rfl (lv_at hl 1 rfl) ?_
    refine lv_bipush (v := (9 : Int32)) hx hb dX12_size_6 (by decide) ?_
    refine lv_icmp_ne (tgt := 16) hx hb dX12_size_8 (by decide) (fun c_1 => ?_) (fun c_1 => ?_)
    · rw [if_neg c_1] at hf
      refine lv_iload_n hx hb dX12_size_16 rfl (lv_at hl 1 rfl) ?_
      refine lv_iconst (v := (0 : Int32)) hx hb dX12_size_17 (by decide) ?_
      refine lv_bipush (v := (8 : Int32)) hx hb dX12_size_18 (by decide) ?_
      obtain ⟨r2, hc2, hf⟩ := kb_bind hf
      refine kb_ci (ws2 := (w_MO dA a none q1 g2 g3 g4 g5 g6 g7 g8 g9 g10 g11 g12 g13 g14 g15 g16 g17 g18 z0)) (kb_rS (n := 3) (As := [.int v1, .int (0 : Int32), .int (8 : Int32)]) (rest := []) hx hb hml hown hK (c_X12_in l D dA H.size v1 (0 : Int32) (8 : Int32) r2 hc2) ⟨ww_7_2, ww_7_0, ww_7_1, ww_1_12, by decide, by decide⟩ rfl rfl (by decide +kernel) ⟨Nat.le_of_ble_eq_true rfl, Nat.le_of_ble_eq_true rfl⟩ hP hD hS hA hE [] rfl (by decide) rfl hl.1 rfl (Nat.le_of_ble_eq_true rfl) dX12_size_20 ⟨Nat.le_of_ble_eq_true rfl, Nat.le_of_ble_eq_true rfl⟩) hP hD hS hA [] [0] [0] rfl rfl (by decide) (by decide) rfl (by decide) (fun H locs hP hD hS => ?_)
      refine lv_if_ne (tgt := 28) hx hb dX12_size_23 (by decide) (fun c_3 => ?_) (fun c_3 => ?_)
      · rw [if_neg c_3] at hf
        refine lv_aload_n hx hb dX12_size_28 rfl (lv_at hl 0 rfl) ?_
        refine va_get (D := D) (ci := 12) (v := .null) (C := RX12) (T := TX12) (N := 35) hx hb hts kb_inX12 hown hK.1 hP 0 rfl rfl 3 (by decide) (hK.2.w ww_5_203 rfl _) (fun _ h9 => h9) rfl dX12_size_29 ?_
        refine lv_ifnonnullN hx hb dX12_size_32 ?_
        refine lv_iconst (v := (0 : Int32)) hx hb dX12_size_35 (by decide) ?_
        exact RET _ _ H _ ls 36 hf hP hD hS dX12_size_36
      · rw [if_pos c_3] at hf
        refine lv_iconst (v := (-1 : Int32)) hx hb dX12_size_26 (by decide) ?_
        exact RET _ _ H _ ls 27 hf hP hD hS dX12_size_27
    · rw [if_pos c_1] at hf
      refine lv_aload_n hx hb dX12_size_11 rfl (lv_at hl 0 rfl) ?_
      refine va_get (D := D) (ci := 12) (v := .int (mo_taped z0)) (C := RX12) (T := TX12) (N := 35) hx hb hts kb_inX12 hown hK.1 hP 0 rfl rfl 6 (by decide) (hK.2.w ww_5_206 rfl _) (fun _ h9 => h9) rfl dX12_size_12 ?_
      exact RET _ _ H _ ls 15 hf hP hD hS dX12_size_15
  have E0 : ∀ (H : Heap) (locs : List Loc), va_P D vwCl (w_MO dA a none q1 g2 g3 g4 g5 g6 g7 g8 g9 g10 g11 g12 g13 g14 g15 g16 g17 g18 mo) H → va_D A (w_MO dA a none q1 g2 g3 g4 g5 g6 g7 g8 g9 g10 g11 g12 g13 g14 g15 g16 g17 g18 mo) → va_S A s.heap H locs → W p l e ({ frames := 1, cells := 0, slots := 0, locals := 22 } : Room) s m ([.ref (a 0), .int x0] : List Value).toArray below meth c H locs 0 0 Q (F0 m 0 ls []) := by
    intro H locs hP hD hS
    rw [f_X12_size_n] at hf
    refine lv_aload_n hx hb dX12_size_0 rfl (lv_at hl 0 rfl) ?_
    refine lv_iconst (v := (0 : Int32)) hx hb dX12_size_1 (by decide) ?_
    refine va_put (D := D) (ci := 12) (v := .int (0 : Int32)) (ty := .int) (C := RX12) (T := TX12) (N := 35) hx hb hts kb_inX12 tyX12 tyX12_ok nmX12 hown hK.1 hP hD hS 0 rfl rfl 0 (by decide) (hK.2.w ww_5_200 rfl _) (fun _ h9 => h9) rfl (by decide +kernel) rfl rfl (Nat.le_of_ble_eq_true rfl) dX12_size_2 (fun H locs hP hD hS => ?_)
    have hP : va_P D vwCl (w_MO dA a none q1 g2 g3 g4 g5 g6 g7 g8 g9 g10 g11 g12 g13 g14 g15 g16 g17 g18 (mo_set_thrown mo (0 : Int32))) H := hP
    have hD : va_D A (w_MO dA a none q1 g2 g3 g4 g5 g6 g7 g8 g9 g10 g11 g12 g13 g14 g15 g16 g17 g18 (mo_set_thrown mo (0 : Int32))) := hD
    exact B_5 _ _ _ _ _ hf hP hD hS (lv_sub hl [0, 1] rfl)
  exact E0 _ _ hP hD hS
