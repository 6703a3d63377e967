noncomputable def f_X10_holdsBit (x0 : Int32) (x1 : Int32) : Option (Int32) := (if ((x0 >>> (x1 &&& 31)) &&& (1 : Int32)) = (1 : Int32) then some ((1 : Int32)) else some ((0 : Int32)))
set_option maxHeartbeats 4000000 in
set_option maxRecDepth 100000 in
theorem c_X10_holdsBit (l : Launch) (D : va_G) (dA : Nat → ClassId) (sz : Nat) (x0 : Int32) (x1 : Int32) (rv : Int32) (hf : f_X10_holdsBit x0 x1 = some (rv)) : kb_Mi l yX10_holdsBit cX10_holdsBit 2 (some .boolean) ({ frames := 0, cells := 0, slots := 0, locals := 0 } : Room) D dA [.int x0, .int x1] sz ([] : va_W) 0 0 rv ([] : va_W) := by
  refine Met.ofW (cc := cX10_holdsBit) (maxL := 2) (ret := (some .boolean)) (by decide) rfl ?_
  intro p e s m args below meth c s₁ B hml hv
  obtain ⟨rfl, hsz, hP, hK, hD0, hE⟩ := hv
  have hx := B.exec
  have hb := B.bytes
  have hr := B.returns
  have hown : s.vm.findClass RX10 = some m.cls := findClass_of_methodNamed B.named
  have hlocks := B.notSynchronized
  have hts : ∀ w ∈ kb_gw, w.before ([.int x0, .int x1] : List Value).toArray s = true := fun w hw => hK.2.1 w hw _
  subst hsz
  have hD := hD0.self (sz := s.heap.size)
  generalize hAe : va_A ([] : va_W) s.heap.size = A at hD hE ⊢
  have hA : ∀ q : Nat, s.heap.size ≤ q → A q := fun q h => by rw [← hAe]; exact Or.inr h
  have hS : va_S A s.heap s.heap [] := va_S.rf
  have hl := lv_entry ([.int x0, .int x1]) (n := 2) (Nat.le_of_ble_eq_true rfl)
  rw [lg_entry_eq]
  generalize (lg_sl ([.int x0, .int x1]) ++ List.replicate (2 - (lg_sl ([.int x0, .int x1])).length) Slot.unset).toArray = ls at hl ⊢
  have hl : lv_has ls 2 [(0, .int x0), (1, .int x1)] := hl
  generalize hQ : MQ below (va_Qi (fun r (_ : Unit) => r = rv) (kb_B D A ([] : va_W)) A) ([.int x0, .int x1] : List Value).toArray s 0 0 A = Q
  show W p l e ({ frames := 0, cells := 0, slots := 0, locals := 0 } : Room) s m ([.int x0, .int x1] : List Value).toArray below meth c s.heap [] 0 0 Q (F0 m 0 ls [])
  have RET : ∀ (r2 : Int32) (H : Heap) (locs : List Loc) (ls : Array Slot) (pc : Nat), some (r2) = some (rv) → va_P D vwCl ([] : va_W) H → va_D A ([] : va_W) → va_S A s.heap H locs → kb_01 r2 → decode cX10_holdsBit pc = .ok (.ireturn, 1) → W p l e ({ frames := 0, cells := 0, slots := 0, locals := 0 } : Room) s m ([.int x0, .int x1] : List Value).toArray below meth c H locs 0 0 Q (F0 m pc ls [.int r2]) := by
    intro r2 H locs ls pc hq hP hD hS h01 hd
    cases hq
    rw [← hQ]
    exact W.zret (ty := .boolean) hx hb hr (kb_nz h01) (fun t ht hW => ⟨⟨_, (), rfl, rfl, by rw [ht]; exact hP, hD⟩, hS.F ht⟩) hS.2.2 hd
  have E0 : ∀ (H : Heap) (locs : List Loc), va_P D vwCl ([] : va_W) H → va_D A ([] : va_W) → va_S A s.heap H locs → W p l e ({ frames := 0, cells := 0, slots := 0, locals := 0 } : Room) s m ([.int x0, .int x1] : List Value).toArray below meth c H locs 0 0 Q (F0 m 0 ls []) := by
    intro H locs hP hD hS
    rw [f_X10_holdsBit] at hf
    refine lv_iload_n hx hb dX10_holdsBit_0 rfl (lv_at hl 0 rfl) ?_
    refine lv_iload_n hx hb dX10_holdsBit_1 rfl (lv_at hl 1 rfl) ?_
    refine lv_ishr hx hb dX10_holdsBit_2 ?_
    refine lv_iconst (v := (1 : Int32)) hx hb dX10_holdsBit_3 (by decide) ?_
    refine lv_iand hx hb dX10_holdsBit_4 ?_
    refine lv_iconst (v := (1 : Int32)) hx hb dX10_holdsBit_5 (by decide) ?_
    refine lv_icmp_ne (tgt := 13) hx hb dX10_holdsBit_6 (by decide) (fun c_1 => ?_) (fun c_1 => ?_)
    · rw [if_neg c_1] at hf
      refine lv_iconst (v := (0 : Int32)) hx hb dX10_holdsBit_13 (by decide) ?_
      exact RET _ H _ ls 14 hf hP hD hS (by decide) dX10_holdsBit_14
    · rw [if_pos c_1] at hf
      refine lv_iconst (v := (1 : Int32)) hx hb dX10_holdsBit_9 (by decide) ?_
      refine lv_goto (tgt := 14) hx hb dX10_holdsBit_10 (by decide) ?_
      exact RET _ H _ ls 14 hf hP hD hS (by decide) dX10_holdsBit_14
  exact E0 _ _ hP hD hS

noncomputable def f_X10_gap (x0 : Int32) (x1 : Int32) : Option (Int32) := (if x1 ≤ x0 then some ((x0 - x1)) else some ((x1 - x0)))
set_option maxHeartbeats 4000000 in
set_option maxRecDepth 100000 in
theorem c_X10_gap (l : Launch) (D : va_G) (dA : Nat → ClassId) (sz : Nat) (x0 : Int32) (x1 : Int32) (rv : Int32) (hf : f_X10_gap x0 x1 = some (rv)) : kb_Mi l yX10_gap cX10_gap 2 (some .int) ({ frames := 0, cells := 0, slots := 0, locals := 0 } : Room) D dA [.int x0, .int x1] sz ([] : va_W) 0 0 rv ([] : va_W) := by
  refine Met.ofW (cc := cX10_gap) (maxL := 2) (ret := (some .int)) (by decide) rfl ?_
  intro p e s m args below meth c s₁ B hml hv
  obtain ⟨rfl, hsz, hP, hK, hD0, hE⟩ := hv
  have hx := B.exec
  have hb := B.bytes
  have hr := B.returns
  have hown : s.vm.findClass RX10 = some m.cls := findClass_of_methodNamed B.named
  have hlocks := B.notSynchronized
  have hts : ∀ w ∈ kb_gw, w.before ([.int x0, .int x1] : List Value).toArray s = true := fun w hw => hK.2.1 w hw _
  subst hsz
  have hD := hD0.self (sz := s.heap.size)
  generalize hAe : va_A ([] : va_W) s.heap.size = A at hD hE ⊢
  have hA : ∀ q : Nat, s.heap.size ≤ q → A q := fun q h => by rw [← hAe]; exact Or.inr h
  have hS : va_S A s.heap s.heap [] := va_S.rf
  have hl := lv_entry ([.int x0, .int x1]) (n := 2) (Nat.le_of_ble_eq_true rfl)
  rw [lg_entry_eq]
  generalize (lg_sl ([.int x0, .int x1]) ++ List.replicate (2 - (lg_sl ([.int x0, .int x1])).length) Slot.unset).toArray = ls at hl ⊢
  have hl : lv_has ls 2 [(0, .int x0), (1, .int x1)] := hl
  generalize hQ : MQ below (va_Qi (fun r (_ : Unit) => r = rv) (kb_B D A ([] : va_W)) A) ([.int x0, .int x1] : List Value).toArray s 0 0 A = Q
  show W p l e ({ frames := 0, cells := 0, slots := 0, locals := 0 } : Room) s m ([.int x0, .int x1] : List Value).toArray below meth c s.heap [] 0 0 Q (F0 m 0 ls [])
  have RET : ∀ (r2 : Int32) (H : Heap) (locs : List Loc) (ls : Array Slot) (pc : Nat), some (r2) = some (rv) → va_P D vwCl ([] : va_W) H → va_D A ([] : va_W) → va_S A s.heap H locs → decode cX10_gap pc = .ok (.ireturn, 1) → W p l e ({ frames := 0, cells := 0, slots := 0, locals := 0 } : Room) s m ([.int x0, .int x1] : List Value).toArray below meth c H locs 0 0 Q (F0 m pc ls [.int r2]) := by
    intro r2 H locs ls pc hq hP hD hS hd
    cases hq
    rw [← hQ]
    exact W.iret hx hb hr (fun t ht hW => ⟨⟨_, (), rfl, rfl, by rw [ht]; exact hP, hD⟩, hS.F ht⟩) hS.2.2 hd
  have E0 : ∀ (H : Heap) (locs : List Loc), va_P D vwCl ([] : va_W) H → va_D A ([] : va_W) → va_S A s.heap H locs → W p l e ({ frames := 0, cells := 0, slots := 0, locals := 0 } : Room) s m ([.int x0, .int x1] : List Value).toArray below meth c H locs 0 0 Q (F0 m 0 ls []) := by
    intro H locs hP hD hS
    rw [f_X10_gap] at hf
    refine lv_iload_n hx hb dX10_gap_0 rfl (lv_at hl 0 rfl) ?_
    refine lv_iload_n hx hb dX10_gap_1 rfl (lv_at hl 1 rfl) ?_
    refine lv_icmp_ge (tgt := 11) hx hb dX10_gap_2 (by decide) (fun c_1 => ?_) (fun c_1 => ?_)
    · rw [if_pos c_1] at hf
      refine lv_iload_n hx hb dX10_gap_11 rfl (lv_at hl 0 rfl) ?_
      refine lv_iload_n hx hb dX10_gap_12 rfl (lv_at hl 1 rfl) ?_
      refine lv_isub hx hb dX10_gap_13 ?_
      exact RET _ H _ ls 14 hf hP hD hS dX10_gap_14
    · rw [if_neg c_1] at hf
      refine lv_iload_n hx hb dX10_gap_5 rfl (lv_at hl 1 rfl) ?_
      refine lv_iload_n hx hb dX10_gap_6 rfl (lv_at hl 0 rfl) ?_
      refine lv_isub hx hb dX10_gap_7 ?_
      refine lv_goto (tgt := 14) hx hb dX10_gap_8 (by decide) ?_
      exact RET _ H _ ls 14 hf hP hD hS dX10_gap_14
  exact E0 _ _ hP hD hS

noncomputable def f_X10_isForm_b13  : Option (Int32) := some ((0 : Int32))
noncomputable def f_X10_isForm (x0 : Int32) : Option (Int32) := (if x0 < 0 then f_X10_isForm_b13  else (if (3 : Int32) ≤ x0 then f_X10_isForm_b13  else some ((1 : Int32))))
set_option maxHeartbeats 4000000 in
set_option maxRecDepth 100000 in
theorem c_X10_isForm (l : Launch) (D : va_G) (dA : Nat → ClassId) (sz : Nat) (x0 : Int32) (rv : Int32) (hf : f_X10_isForm x0 = some (rv)) : kb_Mi l yX10_isForm cX10_isForm 1 (some .boolean) ({ frames := 0, cells := 0, slots := 0, locals := 0 } : Room) D dA [.int x0] sz ([] : va_W) 0 0 rv ([] : va_W) := by
  refine Met.ofW (cc := cX10_isForm) (maxL := 1) (ret := (some .boolean)) (by decide) rfl ?_
  intro p e s m args below meth c s₁ B hml hv
  obtain ⟨rfl, hsz, hP, hK, hD0, hE⟩ := hv
  have hx := B.exec
  have hb := B.bytes
  have hr := B.returns
  have hown : s.vm.findClass RX10 = some m.cls := findClass_of_methodNamed B.named
  have hlocks := B.notSynchronized
  have hts : ∀ w ∈ kb_gw, w.before ([.int x0] : List Value).toArray s = true := fun w hw => hK.2.1 w hw _
  subst hsz
  have hD := hD0.self (sz := s.heap.size)
  generalize hAe : va_A ([] : va_W) s.heap.size = A at hD hE ⊢
  have hA : ∀ q : Nat, s.heap.size ≤ q → A q := fun q h => by rw [← hAe]; exact Or.inr h
  have hS : va_S A s.heap s.heap [] := va_S.rf
  have hl := lv_entry ([.int x0]) (n := 1) (Nat.le_of_ble_eq_true rfl)
  rw [lg_entry_eq]
  generalize (lg_sl ([.int x0]) ++ List.replicate (1 - (lg_sl ([.int x0])).length) Slot.unset).toArray = ls at hl ⊢
  have hl : lv_has ls 1 [(0, .int x0)] := hl
  generalize hQ : MQ below (va_Qi (fun r (_ : Unit) => r = rv) (kb_B D A ([] : va_W)) A) ([.int x0] : List Value).toArray s 0 0 A = Q
  show W p l e ({ frames := 0, cells := 0, slots := 0, locals := 0 } : Room) s m ([.int x0] : List Value).toArray below meth c s.heap [] 0 0 Q (F0 m 0 ls [])
  have RET : ∀ (r2 : Int32) (H : Heap) (locs : List Loc) (ls : Array Slot) (pc : Nat), some (r2) = some (rv) → va_P D vwCl ([] : va_W) H → va_D A ([] : va_W) → va_S A s.heap H locs → kb_01 r2 → decode cX10_isForm pc = .ok (.ireturn, 1) → W p l e ({ frames := 0, cells := 0, slots := 0, locals := 0 } : Room) s m ([.int x0] : List Value).toArray below meth c H locs 0 0 Q (F0 m pc ls [.int r2]) := by
    intro r2 H locs ls pc hq hP hD hS h01 hd
    cases hq
    rw [← hQ]
    exact W.zret (ty := .boolean) hx hb hr (kb_nz h01) (fun t ht hW => ⟨⟨_, (), rfl, rfl, by rw [ht]; exact hP, hD⟩, hS.F ht⟩) hS.2.2 hd
  have B_13 : ∀  (H : Heap) (locs : List Loc) (ls : Array Slot), f_X10_isForm_b13  = some (rv) → va_P D vwCl ([] : va_W) H → va_D A ([] : va_W) → va_S A s.heap H locs → lv_has ls 1 [] → W p l e ({ frames := 0, cells := 0, slots := 0, locals := 0 } : Room) s m ([.int x0] : List Value).toArray below meth c H locs 0 0 Q (F0 m 13 ls []) := by
    intro  H locs ls hf hP hD hS hl
    rw [f_X10_isForm_b13] at hf
    refine lv_iconst (v := (0 : Int32)) hx hb dX10_isForm_13 (by decide) ?_
    exact RET _ H _ ls 14 hf hP hD hS (by decide) dX10_isForm_14
  have E0 : ∀ (H : Heap) (locs : List Loc), va_P D vwCl ([] : va_W) H → va_D A ([] : va_W) → va_S A s.heap H locs → W p l e ({ frames := 0, cells := 0, slots := 0, locals := 0 } : Room) s m ([.int x0] : List Value).toArray below meth c H locs 0 0 Q (F0 m 0 ls []) := by
    intro H locs hP hD hS
    rw [f_X10_isForm] at hf
    refine lv_iload_n hx hb dX10_isForm_0 rfl (lv_at hl 0 rfl) ?_
    refine lv_if_lt (tgt := 13) hx hb dX10_isForm_1 (by decide) (fun c_1 => ?_) (fun c_1 => ?_)
    · rw [if_pos c_1] at hf
      exact B_13 _ _ _ hf hP hD hS (lv_sub hl [] rfl)
    · rw [if_neg c_1] at hf
      refine lv_iload_n hx hb dX10_isForm_4 rfl (lv_at hl 0 rfl) ?_
      refine lv_iconst (v := (3 : Int32)) hx hb dX10_isForm_5 (by decide) ?_
      refine lv_icmp_ge (tgt := 13) hx hb dX10_isForm_6 (by decide) (fun c_2 => ?_) (fun c_2 => ?_)
      · rw [if_pos c_2] at hf
        exact B_13 _ _ _ hf hP hD hS (lv_sub hl [] rfl)
      · rw [if_neg c_2] at hf
        refine lv_iconst (v := (1 : Int32)) hx hb dX10_isForm_9 (by decide) ?_
        refine lv_goto (tgt := 14) hx hb dX10_isForm_10 (by decide) ?_
        exact RET _ H _ ls 14 hf hP hD hS (by decide) dX10_isForm_14
  exact E0 _ _ hP hD hS

noncomputable def f_X10_isPlaces_b15  : Option (Int32) := some ((0 : Int32))
noncomputable def f_X10_isPlaces (x0 : Int32) : Option (Int32) := (if x0 < (1 : Int32) then f_X10_isPlaces_b15  else (if (40 : Int32) < x0 then f_X10_isPlaces_b15  else some ((1 : Int32))))
set_option maxHeartbeats 4000000 in
set_option maxRecDepth 100000 in
theorem c_X10_isPlaces (l : Launch) (D : va_G) (dA : Nat → ClassId) (sz : Nat) (x0 : Int32) (rv : Int32) (hf : f_X10_isPlaces x0 = some (rv)) : kb_Mi l yX10_isPlaces cX10_isPlaces 1 (some .boolean) ({ frames := 0, cells := 0, slots := 0, locals := 0 } : Room) D dA [.int x0] sz ([] : va_W) 0 0 rv ([] : va_W) := by
  refine Met.ofW (cc := cX10_isPlaces) (maxL := 1) (ret := (some .boolean)) (by decide) rfl ?_
  intro p e s m args below meth c s₁ B hml hv
  obtain ⟨rfl, hsz, hP, hK, hD0, hE⟩ := hv
  have hx := B.exec
  have hb := B.bytes
  have hr := B.returns
  have hown : s.vm.findClass RX10 = some m.cls := findClass_of_methodNamed B.named
  have hlocks := B.notSynchronized
  have hts : ∀ w ∈ kb_gw, w.before ([.int x0] : List Value).toArray s = true := fun w hw => hK.2.1 w hw _
  subst hsz
  have hD := hD0.self (sz := s.heap.size)
  generalize hAe : va_A ([] : va_W) s.heap.size = A at hD hE ⊢
  have hA : ∀ q : Nat, s.heap.size ≤ q → A q := fun q h => by rw [← hAe]; exact Or.inr h
  have hS : va_S A s.heap s.heap [] := va_S.rf
  have hl := lv_entry ([.int x0]) (n := 1) (Nat.le_of_ble_eq_true rfl)
  rw [lg_entry_eq]
  generalize (lg_sl ([.int x0]) ++ List.replicate (1 - (lg_sl ([.int x0])).length) Slot.unset).toArray = ls at hl ⊢
  have hl : lv_has ls 1 [(0, .int x0)] := hl
  generalize hQ : MQ below (va_Qi (fun r (_ : Unit) => r = rv) (kb_B D A ([] : va_W)) A) ([.int x0] : List Value).toArray s 0 0 A = Q
  show W p l e ({ frames := 0, cells := 0, slots := 0, locals := 0 } : Room) s m ([.int x0] : List Value).toArray below meth c s.heap [] 0 0 Q (F0 m 0 ls [])
  have RET : ∀ (r2 : Int32) (H : Heap) (locs : List Loc) (ls : Array Slot) (pc : Nat), some (r2) = some (rv) → va_P D vwCl ([] : va_W) H → va_D A ([] : va_W) → va_S A s.heap H locs → kb_01 r2 → decode cX10_isPlaces pc = .ok (.ireturn, 1) → W p l e ({ frames := 0, cells := 0, slots := 0, locals := 0 } : Room) s m ([.int x0] : List Value).toArray below meth c H locs 0 0 Q (F0 m pc ls [.int r2]) := by
    intro r2 H locs ls pc hq hP hD hS h01 hd
    cases hq
    rw [← hQ]
    exact W.zret (ty := .boolean) hx hb hr (kb_nz h01) (fun t ht hW => ⟨⟨_, (), rfl, rfl, by rw [ht]; exact hP, hD⟩, hS.F ht⟩) hS.2.2 hd
  have B_15 : ∀  (H : Heap) (locs : List Loc) (ls : Array Slot), f_X10_isPlaces_b15  = some (rv) → va_P D vwCl ([] : va_W) H → va_D A ([] : va_W) → va_S A s.heap H locs → lv_has ls 1 [] → W p l e ({ frames := 0, cells := 0, slots := 0, locals := 0 } : Room) s m ([.int x0] : List Value).toArray below meth c H locs 0 0 Q (F0 m 15 ls []) := by
    intro  H locs ls hf hP hD hS hl
    rw [f_X10_isPlaces_b15] at hf
    refine lv_iconst (v := (0 : Int32)) hx hb dX10_isPlaces_15 (by decide) ?_
    exact RET _ H _ ls 16 hf hP hD hS (by decide) dX10_isPlaces_16
  have E0 : ∀ (H : Heap) (locs : List Loc), va_P D vwCl ([] : va_W) H → va_D A ([] : va_W) → va_S A s.heap H locs → W p l e ({ frames := 0, cells := 0, slots := 0, locals := 0 } : Room) s m ([.int x0] : List Value).toArray below meth c H locs 0 0 Q (F0 m 0 ls []) := by
    intro H locs hP hD hS
    rw [f_X10_isPlaces] at hf
    refine lv_iload_n hx hb dX10_isPlaces_0 rfl (lv_at hl 0 rfl) ?_
    refine lv_iconst (v := (1 : Int32)) hx hb dX10_isPlaces_1 (by decide) ?_
    refine lv_icmp_lt (tgt := 15) hx hb dX10_isPlaces_2 (by decide) (fun c_1 => ?_) (fun c_1 => ?_)
    · rw [if_pos c_1] at hf
      exact B_15 _ _ _ hf hP hD hS (lv_sub hl [] rfl)
    · rw [if_neg c_1] at hf
      refine lv_iload_n hx hb dX10_isPlaces_5 rfl (lv_at hl 0 rfl) ?_
      refine lv_bipush (v := (40 : Int32)) hx hb dX10_isPlaces_6 (by decide) ?_
      refine lv_icmp_gt (tgt := 15) hx hb dX10_isPlaces_8 (by decide) (fun c_2 => ?_) (fun c_2 => ?_)
      · rw [if_pos c_2] at hf
        exact B_15 _ _ _ hf hP hD hS (lv_sub hl [] rfl)
      · rw [if_neg c_2] at hf
        refine lv_iconst (v := (1 : Int32)) hx hb dX10_isPlaces_11 (by decide) ?_
        refine lv_goto (tgt := 16) hx hb dX10_isPlaces_12 (by decide) ?_
        exact RET _ H _ ls 16 hf hP hD hS (by decide) dX10_isPlaces_16
  exact E0 _ _ hP hD hS

noncomputable def f_X10_lowestBit_b2 : Nat → Int32 → Int32 → Option (Int32)
  | 0, _, _ => none
  | n + 1, v0, v1 => (if (20 : Int32) ≤ v1 then some ((-2 : Int32)) else (f_X10_holdsBit v0 v1).bind fun r2 => (if r2 = 0 then f_X10_lowestBit_b2 n v0 (v1 + (1 : Int32)) else some (v1)))
noncomputable def f_X10_lowestBit (x0 : Int32) : Option (Int32) := f_X10_lowestBit_b2 4096 x0 (0 : Int32)
set_option maxHeartbeats 4000000 in
set_option maxRecDepth 100000 in
theorem c_X10_lowestBit (l : Launch) (D : va_G) (dA : Nat → ClassId) (sz : Nat) (x0 : Int32) (rv : Int32) (hf : f_X10_lowestBit x0 = some (rv)) : kb_Mi l yX10_lowestBit cX10_lowestBit 2 (some .int) ({ frames := 1, cells := 0, slots := 0, locals := 21 } : Room) D dA [.int x0] sz ([] : va_W) 0 0 rv ([] : va_W) := by
  refine Met.ofW (cc := cX10_lowestBit) (maxL := 2) (ret := (some .int)) (by decide) rfl ?_
  intro p e s m args below meth c s₁ B hml hv
  obtain ⟨rfl, hsz, hP, hK, hD0, hE⟩ := hv
  have hx := B.exec
  have hb := B.bytes
  have hr := B.returns
  have hown : s.vm.findClass RX10 = some m.cls := findClass_of_methodNamed B.named
  have hlocks := B.notSynchronized
  have hts : ∀ w ∈ kb_gw, w.before ([.int x0] : List Value).toArray s = true := fun w hw => hK.2.1 w hw _
  subst hsz
  have hD := hD0.self (sz := s.heap.size)
  generalize hAe : va_A ([] : va_W) s.heap.size = A at hD hE ⊢
  have hA : ∀ q : Nat, s.heap.size ≤ q → A q := fun q h => by rw [← hAe]; exact Or.inr h
  have hS : va_S A s.heap s.heap [] := va_S.rf
  have hl := lv_entry ([.int x0]) (n := 2) (Nat.le_of_ble_eq_true rfl)
  rw [lg_entry_eq]
  generalize (lg_sl ([.int x0]) ++ List.replicate (2 - (lg_sl ([.int x0])).length) Slot.unset).toArray = ls at hl ⊢
  have hl : lv_has ls 2 [(0, .int x0)] := hl
  generalize hQ : MQ below (va_Qi (fun r (_ : Unit) => r = rv) (kb_B D A ([] : va_W)) A) ([.int x0] : List Value).toArray s 0 0 A = Q
  show W p l e ({ frames := 1, cells := 0, slots := 0, locals := 21 } : Room) s m ([.int x0] : List Value).toArray below meth c s.heap [] 0 0 Q (F0 m 0 ls [])
  have RET : ∀ (r2 : Int32) (H : Heap) (locs : List Loc) (ls : Array Slot) (pc : Nat), some (r2) = some (rv) → va_P D vwCl ([] : va_W) H → va_D A ([] : va_W) → va_S A s.heap H locs → decode cX10_lowestBit pc = .ok (.ireturn, 1) → W p l e ({ frames := 1, cells := 0, slots := 0, locals := 21 } : Room) s m ([.int x0] : List Value).toArray below meth c H locs 0 0 Q (F0 m pc ls [.int r2]) := by
    intro r2 H locs ls pc hq hP hD hS hd
    cases hq
    rw [← hQ]
    exact W.iret hx hb hr (fun t ht hW => ⟨⟨_, (), rfl, rfl, by rw [ht]; exact hP, hD⟩, hS.F ht⟩) hS.2.2 hd
  have B_2 : ∀ (n : Nat) (v0 : Int32) (v1 : Int32) (H : Heap) (locs : List Loc) (ls : Array Slot), f_X10_lowestBit_b2 n v0 v1 = some (rv) → va_P D vwCl ([] : va_W) H → va_D A ([] : va_W) → va_S A s.heap H locs → lv_has ls 2 [(0, .int v0), (1, .int v1)] → W p l e ({ frames := 1, cells := 0, slots := 0, locals := 21 } : Room) s m ([.int x0] : List Value).toArray below meth c H locs 0 0 Q (F0 m 2 ls []) := by
    intro n
    induction n with
    | zero =>
      intro v0 v1 H locs ls hf
      exact absurd hf (by simp [f_X10_lowestBit_b2])
    | succ n ih =>
      intro v0 v1 H locs ls hf hP hD hS hl
      rw [f_X10_lowestBit_b2] at hf
      refine lv_iload_n hx hb dX10_lowestBit_2 rfl (lv_at hl 1 rfl) ?_
      refine lv_bipush (v := (20 : Int32)) hx hb dX10_lowestBit_3 (by decide) ?_
      refine lv_icmp_ge (tgt := 24) hx hb dX10_lowestBit_5 (by decide) (fun c_1 => ?_) (fun c_1 => ?_)
      · rw [if_pos c_1] at hf
        refine lv_bipush (v := (-2 : Int32)) hx hb dX10_lowestBit_24 (by decide) ?_
        exact RET _ H _ ls 26 hf hP hD hS dX10_lowestBit_26
      · rw [if_neg c_1] at hf
        refine lv_iload_n hx hb dX10_lowestBit_8 rfl (lv_at hl 0 rfl) ?_
        refine lv_iload_n hx hb dX10_lowestBit_9 rfl (lv_at hl 1 rfl) ?_
        obtain ⟨r2, hc2, hf⟩ := kb_bind hf
        refine kb_ci (ws2 := ([] : va_W)) (kb_rS (n := 2) (As := [.int v0, .int v1]) (rest := []) hx hb hml hown hK (c_X10_holdsBit l D dA H.size v0 v1 r2 hc2) ⟨ww_3_158, ww_4_55, ww_3_157, ww_1_1, by decide, by decide⟩ rfl rfl (by decide +kernel) ⟨Nat.le_of_ble_eq_true rfl, Nat.le_of_ble_eq_true rfl⟩ hP hD hS hA hE [] rfl (by decide) rfl hl.1 rfl (Nat.le_of_ble_eq_true rfl) dX10_lowestBit_10 ⟨Nat.le_of_ble_eq_true rfl, Nat.le_of_ble_eq_true rfl⟩) hP hD hS hA [] [] [] rfl rfl (by decide) (by decide) rfl (by decide) (fun H locs hP hD hS => ?_)
        refine lv_if_eq (tgt := 18) hx hb dX10_lowestBit_13 (by decide) (fun c_3 => ?_) (fun c_3 => ?_)
        · rw [if_pos c_3] at hf
          refine lv_iinc (v := (v1 + (1 : Int32))) (lv' := [(1, .int (v1 + (1 : Int32))), (0, .int v0)]) hx hb dX10_lowestBit_18 hl (k := 1) rfl (by rfl) (by decide) rfl (fun ls hl => ?_)
          refine lv_goto (tgt := 2) hx hb dX10_lowestBit_21 (by decide) ?_
          exact ih _ _ _ _ _ hf hP hD hS (lv_sub hl [1, 0] rfl)
        · rw [if_neg c_3] at hf
          refine lv_iload_n hx hb dX10_lowestBit_16 rfl (lv_at hl 1 rfl) ?_
          exact RET _ H _ ls 17 hf hP hD hS dX10_lowestBit_17
  have E0 : ∀ (H : Heap) (locs : List Loc), va_P D vwCl ([] : va_W) H → va_D A ([] : va_W) → va_S A s.heap H locs → W p l e ({ frames := 1, cells := 0, slots := 0, locals := 21 } : Room) s m ([.int x0] : List Value).toArray below meth c H locs 0 0 Q (F0 m 0 ls []) := by
    intro H locs hP hD hS
    rw [f_X10_lowestBit] at hf
    refine lv_iconst (v := (0 : Int32)) hx hb dX10_lowestBit_0 (by decide) ?_
    refine lv_istore_n (lv' := [(1, .int (0 : Int32)), (0, .int x0)]) hx hb dX10_lowestBit_1 rfl hl (by decide) rfl (fun ls hl => ?_)
    exact B_2 4096 _ _ _ _ _ hf hP hD hS (lv_sub hl [1, 0] rfl)
  exact E0 _ _ hP hD hS

noncomputable def f_X0_isIn_b23  : Option (Int32) := some ((1 : Int32))
noncomputable def f_X0_isIn_b27  : Option (Int32) := some ((0 : Int32))
noncomputable def f_X0_isIn (x0 : Int32) (x1 : Int32) : Option (Int32) := (if x0 = 0 then f_X0_isIn_b23  else (if x1 = 0 then f_X0_isIn_b23  else (if x1 = (3 : Int32) then f_X0_isIn_b23  else (if x0 = (1 : Int32) then (if x1 = (2 : Int32) then f_X0_isIn_b23  else f_X0_isIn_b27 ) else f_X0_isIn_b27 ))))
set_option maxHeartbeats 4000000 in
set_option maxRecDepth 100000 in
theorem c_X0_isIn (l : Launch) (D : va_G) (dA : Nat → ClassId) (sz : Nat) (x0 : Int32) (x1 : Int32) (rv : Int32) (hf : f_X0_isIn x0 x1 = some (rv)) : kb_Mi l yX0_isIn cX0_isIn 2 (some .boolean) ({ frames := 0, cells := 0, slots := 0, locals := 0 } : Room) D dA [.int x0, .int x1] sz ([] : va_W) 0 0 rv ([] : va_W) := by
  refine Met.ofW (cc := cX0_isIn) (maxL := 2) (ret := (some .boolean)) (by decide) rfl ?_
  intro p e s m args below meth c s₁ B hml hv
  obtain ⟨rfl, hsz, hP, hK, hD0, hE⟩ := hv
  have hx := B.exec
  have hb := B.bytes
  have hr := B.returns
  have hown : s.vm.findClass RX0 = some m.cls := findClass_of_methodNamed B.named
  have hlocks := B.notSynchronized
  have hts : ∀ w ∈ kb_gw, w.before ([.int x0, .int x1] : List Value).toArray s = true := fun w hw => hK.2.1 w hw _
  subst hsz
  have hD := hD0.self (sz := s.heap.size)
  generalize hAe : va_A ([] : va_W) s.heap.size = A at hD hE ⊢
  have hA : ∀ q : Nat, s.heap.size ≤ q → A q := fun q h => by rw [← hAe]; exact Or.inr h
  have hS : va_S A s.heap s.heap [] := va_S.rf
  have hl := lv_entry ([.int x0, .int x1]) (n := 2) (Nat.le_of_ble_eq_true rfl)
  rw [lg_entry_eq]
  generalize (lg_sl ([.int x0, .int x1]) ++ List.replicate (2 - (lg_sl ([.int x0, .int x1])).length) Slot.unset).toArray = ls at hl ⊢
  have hl : lv_has ls 2 [(0, .int x0), (1, .int x1)] := hl
  generalize hQ : MQ below (va_Qi (fun r (_ : Unit) => r = rv) (kb_B D A ([] : va_W)) A) ([.int x0, .int x1] : List Value).toArray s 0 0 A = Q
  show W p l e ({ frames := 0, cells := 0, slots := 0, locals := 0 } : Room) s m ([.int x0, .int x1] : List Value).toArray below meth c s.heap [] 0 0 Q (F0 m 0 ls [])
  have RET : ∀ (r2 : Int32) (H : Heap) (locs : List Loc) (ls : Array Slot) (pc : Nat), some (r2) = some (rv) → va_P D vwCl ([] : va_W) H → va_D A ([] : va_W) → va_S A s.heap H locs → kb_01 r2 → decode cX0_isIn pc = .ok (.ireturn, 1) → W p l e ({ frames := 0, cells := 0, slots := 0, locals := 0 } : Room) s m ([.int x0, .int x1] : List Value).toArray below meth c H locs 0 0 Q (F0 m pc ls [.int r2]) := by
    intro r2 H locs ls pc hq hP hD hS h01 hd
    cases hq
    rw [← hQ]
    exact W.zret (ty := .boolean) hx hb hr (kb_nz h01) (fun t ht hW => ⟨⟨_, (), rfl, rfl, by rw [ht]; exact hP, hD⟩, hS.F ht⟩) hS.2.2 hd
  have B_23 : ∀  (H : Heap) (locs : List Loc) (ls : Array Slot), f_X0_isIn_b23  = some (rv) → va_P D vwCl ([] : va_W) H → va_D A ([] : va_W) → va_S A s.heap H locs → lv_has ls 2 [] → W p l e ({ frames := 0, cells := 0, slots := 0, locals := 0 } : Room) s m ([.int x0, .int x1] : List Value).toArray below meth c H locs 0 0 Q (F0 m 23 ls []) := by
    intro  H locs ls hf hP hD hS hl
    rw [f_X0_isIn_b23] at hf
    refine lv_iconst (v := (1 : Int32)) hx hb dX0_isIn_23 (by decide) ?_
    refine lv_goto (tgt := 28) hx hb dX0_isIn_24 (by decide) ?_
    exact RET _ H _ ls 28 hf hP hD hS (by decide) dX0_isIn_28
  have B_27 : ∀  (H : Heap) (locs : List Loc) (ls : Array Slot), f_X0_isIn_b27  = some (rv) → va_P D vwCl ([] : va_W) H → va_D A ([] : va_W) → va_S A s.heap H locs → lv_has ls 2 [] → W p l e ({ frames := 0, cells := 0, slots := 0, locals := 0 } : Room) s m ([.int x0, .int x1] : List Value).toArray below meth c H locs 0 0 Q (F0 m 27 ls []) := by
    intro  H locs ls hf hP hD hS hl
    rw [f_X0_isIn_b27] at hf
    refine lv_iconst (v := (0 : Int32)) hx hb dX0_isIn_27 (by decide) ?_
    exact RET _ H _ ls 28 hf hP hD hS (by decide) dX0_isIn_28
  have E0 : ∀ (H : Heap) (locs : List Loc), va_P D vwCl ([] : va_W) H → va_D A ([] : va_W) → va_S A s.heap H locs → W p l e ({ frames := 0, cells := 0, slots := 0, locals := 0 } : Room) s m ([.int x0, .int x1] : List Value).toArray below meth c H locs 0 0 Q (F0 m 0 ls []) := by
    intro H locs hP hD hS
    rw [f_X0_isIn] at hf
    refine lv_iload_n hx hb dX0_isIn_0 rfl (lv_at hl 0 rfl) ?_
    refine lv_if_eq (tgt := 23) hx hb dX0_isIn_1 (by decide) (fun c_1 => ?_) (fun c_1 => ?_)
    · rw [if_pos c_1] at hf
      exact B_23 _ _ _ hf hP hD hS (lv_sub hl [] rfl)
    · rw [if_neg c_1] at hf
      refine lv_iload_n hx hb dX0_isIn_4 rfl (lv_at hl 1 rfl) ?_
      refine lv_if_eq (tgt := 23) hx hb dX0_isIn_5 (by decide) (fun c_2 => ?_) (fun c_2 => ?_)
      · rw [if_pos c_2] at hf
        exact B_23 _ _ _ hf hP hD hS (lv_sub hl [] rfl)
      · rw [if_neg c_2] at hf
        refine lv_iload_n hx hb dX0_isIn_8 rfl (lv_at hl 1 rfl) ?_
        refine lv_iconst (v := (3 : Int32)) hx hb dX0_isIn_9 (by decide) ?_
        refine lv_icmp_eq (tgt := 23) hx hb dX0_isIn_10 (by decide) (fun c_3 => ?_) (fun c_3 => ?_)
        · rw [if_pos c_3] at hf
          exact B_23 _ _ _ hf hP hD hS (lv_sub hl [] rfl)
        · rw [if_neg c_3] at hf
          refine lv_iload_n hx hb dX0_isIn_13 rfl (lv_at hl 0 rfl) ?_
          refine lv_iconst (v := (1 : Int32)) hx hb dX0_isIn_14 (by decide) ?_
          refine lv_icmp_ne (tgt := 27) hx hb dX0_isIn_15 (by decide) (fun c_4 => ?_) (fun c_4 => ?_)
          · rw [if_neg c_4] at hf
            exact B_27 _ _ _ hf hP hD hS (lv_sub hl [] rfl)
          · rw [if_pos c_4] at hf
            refine lv_iload_n hx hb dX0_isIn_18 rfl (lv_at hl 1 rfl) ?_
            refine lv_iconst (v := (2 : Int32)) hx hb dX0_isIn_19 (by decide) ?_
            refine lv_icmp_ne (tgt := 27) hx hb dX0_isIn_20 (by decide) (fun c_5 => ?_) (fun c_5 => ?_)
            · rw [if_neg c_5] at hf
              exact B_27 _ _ _ hf hP hD hS (lv_sub hl [] rfl)
            · rw [if_pos c_5] at hf
              exact B_23 _ _ _ hf hP hD hS (lv_sub hl [] rfl)
  exact E0 _ _ hP hD hS

noncomputable def f_X0_isWindow_b9  : Option (Int32) := some ((1 : Int32))
noncomputable def f_X0_isWindow (x0 : Int32) : Option (Int32) := (if x0 = 0 then f_X0_isWindow_b9  else (if x0 = (3 : Int32) then f_X0_isWindow_b9  else some ((0 : Int32))))
set_option maxHeartbeats 4000000 in
set_option maxRecDepth 100000 in
theorem c_X0_isWindow (l : Launch) (D : va_G) (dA : Nat → ClassId) (sz : Nat) (x0 : Int32) (rv : Int32) (hf : f_X0_isWindow x0 = some (rv)) : kb_Mi l yX0_isWindow cX0_isWindow 1 (some .boolean) ({ frames := 0, cells := 0, slots := 0, locals := 0 } : Room) D dA [.int x0] sz ([] : va_W) 0 0 rv ([] : va_W) := by
  refine Met.ofW (cc := cX0_isWindow) (maxL := 1) (ret := (some .boolean)) (by decide) rfl ?_
  intro p e s m args below meth c s₁ B hml hv
  obtain ⟨rfl, hsz, hP, hK, hD0, hE⟩ := hv
  have hx := B.exec
  have hb := B.bytes
  have hr := B.returns
  have hown : s.vm.findClass RX0 = some m.cls := findClass_of_methodNamed B.named
  have hlocks := B.notSynchronized
  have hts : ∀ w ∈ kb_gw, w.before ([.int x0] : List Value).toArray s = true := fun w hw => hK.2.1 w hw _
  subst hsz
  have hD := hD0.self (sz := s.heap.size)
  generalize hAe : va_A ([] : va_W) s.heap.size = A at hD hE ⊢
  have hA : ∀ q : Nat, s.heap.size ≤ q → A q := fun q h => by rw [← hAe]; exact Or.inr h
  have hS : va_S A s.heap s.heap [] := va_S.rf
  have hl := lv_entry ([.int x0]) (n := 1) (Nat.le_of_ble_eq_true rfl)
  rw [lg_entry_eq]
  generalize (lg_sl ([.int x0]) ++ List.replicate (1 - (lg_sl ([.int x0])).length) Slot.unset).toArray = ls at hl ⊢
  have hl : lv_has ls 1 [(0, .int x0)] := hl
  generalize hQ : MQ below (va_Qi (fun r (_ : Unit) => r = rv) (kb_B D A ([] : va_W)) A) ([.int x0] : List Value).toArray s 0 0 A = Q
  show W p l e ({ frames := 0, cells := 0, slots := 0, locals := 0 } : Room) s m ([.int x0] : List Value).toArray below meth c s.heap [] 0 0 Q (F0 m 0 ls [])
  have RET : ∀ (r2 : Int32) (H : Heap) (locs : List Loc) (ls : Array Slot) (pc : Nat), some (r2) = some (rv) → va_P D vwCl ([] : va_W) H → va_D A ([] : va_W) → va_S A s.heap H locs → kb_01 r2 → decode cX0_isWindow pc = .ok (.ireturn, 1) → W p l e ({ frames := 0, cells := 0, slots := 0, locals := 0 } : Room) s m ([.int x0] : List Value).toArray below meth c H locs 0 0 Q (F0 m pc ls [.int r2]) := by
    intro r2 H locs ls pc hq hP hD hS h01 hd
    cases hq
    rw [← hQ]
    exact W.zret (ty := .boolean) hx hb hr (kb_nz h01) (fun t ht hW => ⟨⟨_, (), rfl, rfl, by rw [ht]; exact hP, hD⟩, hS.F ht⟩) hS.2.2 hd
  have B_9 : ∀  (H : Heap) (locs : List Loc) (ls : Array Slot), f_X0_isWindow_b9  = some (rv) → va_P D vwCl ([] : va_W) H → va_D A ([] : va_W) → va_S A s.heap H locs → lv_has ls 1 [] → W p l e ({ frames := 0, cells := 0, slots := 0, locals := 0 } : Room) s m ([.int x0] : List Value).toArray below meth c H locs 0 0 Q (F0 m 9 ls []) := by
    intro  H locs ls hf hP hD hS hl
    rw [f_X0_isWindow_b9] at hf
    refine lv_iconst (v := (1 : Int32)) hx hb dX0_isWindow_9 (by decide) ?_
    refine lv_goto (tgt := 14) hx hb dX0_isWindow_10 (by decide) ?_
    exact RET _ H _ ls 14 hf hP hD hS (by decide) dX0_isWindow_14
  have E0 : ∀ (H : Heap) (locs : List Loc), va_P D vwCl ([] : va_W) H → va_D A ([] : va_W) → va_S A s.heap H locs → W p l e ({ frames := 0, cells := 0, slots := 0, locals := 0 } : Room) s m ([.int x0] : List Value).toArray below meth c H locs 0 0 Q (F0 m 0 ls []) := by
    intro H locs hP hD hS
    rw [f_X0_isWindow] at hf
    refine lv_iload_n hx hb dX0_isWindow_0 rfl (lv_at hl 0 rfl) ?_
    refine lv_if_eq (tgt := 9) hx hb dX0_isWindow_1 (by decide) (fun c_1 => ?_) (fun c_1 => ?_)
    · rw [if_pos c_1] at hf
      exact B_9 _ _ _ hf hP hD hS (lv_sub hl [] rfl)
    · rw [if_neg c_1] at hf
      refine lv_iload_n hx hb dX0_isWindow_4 rfl (lv_at hl 0 rfl) ?_
      refine lv_iconst (v := (3 : Int32)) hx hb dX0_isWindow_5 (by decide) ?_
      refine lv_icmp_ne (tgt := 13) hx hb dX0_isWindow_6 (by decide) (fun c_2 => ?_) (fun c_2 => ?_)
      · rw [if_neg c_2] at hf
        refine lv_iconst (v := (0 : Int32)) hx hb dX0_isWindow_13 (by decide) ?_
        exact RET _ H _ ls 14 hf hP hD hS (by decide) dX0_isWindow_14
      · rw [if_pos c_2] at hf
        exact B_9 _ _ _ hf hP hD hS (lv_sub hl [] rfl)
  exact E0 _ _ hP hD hS

noncomputable def f_X0_isAisle_b24  : Option (Int32) := some ((1 : Int32))
noncomputable def f_X0_isAisle_b28  : Option (Int32) := some ((0 : Int32))
noncomputable def f_X0_isAisle (x0 : Int32) (x1 : Int32) : Option (Int32) := (if x1 = (1 : Int32) then f_X0_isAisle_b24  else (if x1 = (2 : Int32) then f_X0_isAisle_b24  else (if x0 = (2 : Int32) then f_X0_isAisle_b24  else (if x0 = (1 : Int32) then (if x1 = 0 then f_X0_isAisle_b24  else f_X0_isAisle_b28 ) else f_X0_isAisle_b28 ))))
set_option maxHeartbeats 4000000 in
set_option maxRecDepth 100000 in
theorem c_X0_isAisle (l : Launch) (D : va_G) (dA : Nat → ClassId) (sz : Nat) (x0 : Int32) (x1 : Int32) (rv : Int32) (hf : f_X0_isAisle x0 x1 = some (rv)) : kb_Mi l yX0_isAisle cX0_isAisle 2 (some .boolean) ({ frames := 0, cells := 0, slots := 0, locals := 0 } : Room) D dA [.int x0, .int x1] sz ([] : va_W) 0 0 rv ([] : va_W) := by
  refine Met.ofW (cc := cX0_isAisle) (maxL := 2) (ret := (some .boolean)) (by decide) rfl ?_
  intro p e s m args below meth c s₁ B hml hv
  obtain ⟨rfl, hsz, hP, hK, hD0, hE⟩ := hv
  have hx := B.exec
  have hb := B.bytes
  have hr := B.returns
  have hown : s.vm.findClass RX0 = some m.cls := findClass_of_methodNamed B.named
  have hlocks := B.notSynchronized
  have hts : ∀ w ∈ kb_gw, w.before ([.int x0, .int x1] : List Value).toArray s = true := fun w hw => hK.2.1 w hw _
  subst hsz
  have hD := hD0.self (sz := s.heap.size)
  generalize hAe : va_A ([] : va_W) s.heap.size = A at hD hE ⊢
  have hA : ∀ q : Nat, s.heap.size ≤ q → A q := fun q h => by rw [← hAe]; exact Or.inr h
  have hS : va_S A s.heap s.heap [] := va_S.rf
  have hl := lv_entry ([.int x0, .int x1]) (n := 2) (Nat.le_of_ble_eq_true rfl)
  rw [lg_entry_eq]
  generalize (lg_sl ([.int x0, .int x1]) ++ List.replicate (2 - (lg_sl ([.int x0, .int x1])).length) Slot.unset).toArray = ls at hl ⊢
  have hl : lv_has ls 2 [(0, .int x0), (1, .int x1)] := hl
  generalize hQ : MQ below (va_Qi (fun r (_ : Unit) => r = rv) (kb_B D A ([] : va_W)) A) ([.int x0, .int x1] : List Value).toArray s 0 0 A = Q
  show W p l e ({ frames := 0, cells := 0, slots := 0, locals := 0 } : Room) s m ([.int x0, .int x1] : List Value).toArray below meth c s.heap [] 0 0 Q (F0 m 0 ls [])
  have RET : ∀ (r2 : Int32) (H : Heap) (locs : List Loc) (ls : Array Slot) (pc : Nat), some (r2) = some (rv) → va_P D vwCl ([] : va_W) H → va_D A ([] : va_W) → va_S A s.heap H locs → kb_01 r2 → decode cX0_isAisle pc = .ok (.ireturn, 1) → W p l e ({ frames := 0, cells := 0, slots := 0, locals := 0 } : Room) s m ([.int x0, .int x1] : List Value).toArray below meth c H locs 0 0 Q (F0 m pc ls [.int r2]) := by
    intro r2 H locs ls pc hq hP hD hS h01 hd
    cases hq
    rw [← hQ]
    exact W.zret (ty := .boolean) hx hb hr (kb_nz h01) (fun t ht hW => ⟨⟨_, (), rfl, rfl, by rw [ht]; exact hP, hD⟩, hS.F ht⟩) hS.2.2 hd
  have B_24 : ∀  (H : Heap) (locs : List Loc) (ls : Array Slot), f_X0_isAisle_b24  = some (rv) → va_P D vwCl ([] : va_W) H → va_D A ([] : va_W) → va_S A s.heap H locs → lv_has ls 2 [] → W p l e ({ frames := 0, cells := 0, slots := 0, locals := 0 } : Room) s m ([.int x0, .int x1] : List Value).toArray below meth c H locs 0 0 Q (F0 m 24 ls []) := by
    intro  H locs ls hf hP hD hS hl
    rw [f_X0_isAisle_b24] at hf
    refine lv_iconst (v := (1 : Int32)) hx hb dX0_isAisle_24 (by decide) ?_
    refine lv_goto (tgt := 29) hx hb dX0_isAisle_25 (by decide) ?_
    exact RET _ H _ ls 29 hf hP hD hS (by decide) dX0_isAisle_29
  have B_28 : ∀  (H : Heap) (locs : List Loc) (ls : Array Slot), f_X0_isAisle_b28  = some (rv) → va_P D vwCl ([] : va_W) H → va_D A ([] : va_W) → va_S A s.heap H locs → lv_has ls 2 [] → W p l e ({ frames := 0, cells := 0, slots := 0, locals := 0 } : Room) s m ([.int x0, .int x1] : List Value).toArray below meth c H locs 0 0 Q (F0 m 28 ls []) := by
    intro  H locs ls hf hP hD hS hl
    rw [f_X0_isAisle_b28] at hf
    refine lv_iconst (v := (0 : Int32)) hx hb dX0_isAisle_28 (by decide) ?_
    exact RET _ H _ ls 29 hf hP hD hS (by decide) dX0_isAisle_29
  have E0 : ∀ (H : Heap) (locs : List Loc), va_P D vwCl ([] : va_W) H → va_D A ([] : va_W) → va_S A s.heap H locs → W p l e ({ frames := 0, cells := 0, slots := 0, locals := 0 } : Room) s m ([.int x0, .int x1] : List Value).toArray below meth c H locs 0 0 Q (F0 m 0 ls []) := by
    intro H locs hP hD hS
    rw [f_X0_isAisle] at hf
    refine lv_iload_n hx hb dX0_isAisle_0 rfl (lv_at hl 1 rfl) ?_
    refine lv_iconst (v := (1 : Int32)) hx hb dX0_isAisle_1 (by decide) ?_
    refine lv_icmp_eq (tgt := 24) hx hb dX0_isAisle_2 (by decide) (fun c_1 => ?_) (fun c_1 => ?_)
    · rw [if_pos c_1] at hf
      exact B_24 _ _ _ hf hP hD hS (lv_sub hl [] rfl)
    · rw [if_neg c_1] at hf
      refine lv_iload_n hx hb dX0_isAisle_5 rfl (lv_at hl 1 rfl) ?_
      refine lv_iconst (v := (2 : Int32)) hx hb dX0_isAisle_6 (by decide) ?_
      refine lv_icmp_eq (tgt := 24) hx hb dX0_isAisle_7 (by decide) (fun c_2 => ?_) (fun c_2 => ?_)
      · rw [if_pos c_2] at hf
        exact B_24 _ _ _ hf hP hD hS (lv_sub hl [] rfl)
      · rw [if_neg c_2] at hf
        refine lv_iload_n hx hb dX0_isAisle_10 rfl (lv_at hl 0 rfl) ?_
        refine lv_iconst (v := (2 : Int32)) hx hb dX0_isAisle_11 (by decide) ?_
        refine lv_icmp_eq (tgt := 24) hx hb dX0_isAisle_12 (by decide) (fun c_3 => ?_) (fun c_3 => ?_)
        · rw [if_pos c_3] at hf
          exact B_24 _ _ _ hf hP hD hS (lv_sub hl [] rfl)
        · rw [if_neg c_3] at hf
          refine lv_iload_n hx hb dX0_isAisle_15 rfl (lv_at hl 0 rfl) ?_
          refine lv_iconst (v := (1 : Int32)) hx hb dX0_isAisle_16 (by decide) ?_
          refine lv_icmp_ne (tgt := 28) hx hb dX0_isAisle_17 (by decide) (fun c_4 => ?_) (fun c_4 => ?_)
          · rw [if_neg c_4] at hf
            exact B_28 _ _ _ hf hP hD hS (lv_sub hl [] rfl)
          · rw [if_pos c_4] at hf
            refine lv_iload_n hx hb dX0_isAisle_20 rfl (lv_at hl 1 rfl) ?_
            refine lv_if_ne (tgt := 28) hx hb dX0_isAisle_21 (by decide) (fun c_5 => ?_) (fun c_5 => ?_)
            · rw [if_neg c_5] at hf
              exact B_28 _ _ _ hf hP hD hS (lv_sub hl [] rfl)
            · rw [if_pos c_5] at hf
              exact B_24 _ _ _ hf hP hD hS (lv_sub hl [] rfl)
  exact E0 _ _ hP hD hS

noncomputable def f_X0_isPaired_b22  : Option (Int32) := some ((0 : Int32))
noncomputable def f_X0_isPaired (x0 : Int32) (x1 : Int32) : Option (Int32) := (f_X0_isIn x0 x1).bind fun r1 => (if r1 = 0 then f_X0_isPaired_b22  else (f_X0_isIn x0 (x1 ^^^ (1 : Int32))).bind fun r3 => (if r3 = 0 then f_X0_isPaired_b22  else some ((1 : Int32))))
set_option maxHeartbeats 4000000 in
set_option maxRecDepth 100000 in
theorem c_X0_isPaired (l : Launch) (D : va_G) (dA : Nat → ClassId) (sz : Nat) (x0 : Int32) (x1 : Int32) (rv : Int32) (hf : f_X0_isPaired x0 x1 = some (rv)) : kb_Mi l yX0_isPaired cX0_isPaired 2 (some .boolean) ({ frames := 1, cells := 0, slots := 0, locals := 21 } : Room) D dA [.int x0, .int x1] sz ([] : va_W) 0 0 rv ([] : va_W) := by
  refine Met.ofW (cc := cX0_isPaired) (maxL := 2) (ret := (some .boolean)) (by decide) rfl ?_
  intro p e s m args below meth c s₁ B hml hv
  obtain ⟨rfl, hsz, hP, hK, hD0, hE⟩ := hv
  have hx := B.exec
  have hb := B.bytes
  have hr := B.returns
  have hown : s.vm.findClass RX0 = some m.cls := findClass_of_methodNamed B.named
  have hlocks := B.notSynchronized
  have hts : ∀ w ∈ kb_gw, w.before ([.int x0, .int x1] : List Value).toArray s = true := fun w hw => hK.2.1 w hw _
  subst hsz
  have hD := hD0.self (sz := s.heap.size)
  generalize hAe : va_A ([] : va_W) s.heap.size = A at hD hE ⊢
  have hA : ∀ q : Nat, s.heap.size ≤ q → A q := fun q h => by rw [← hAe]; exact Or.inr h
  have hS : va_S A s.heap s.heap [] := va_S.rf
  have hl := lv_entry ([.int x0, .int x1]) (n := 2) (Nat.le_of_ble_eq_true rfl)
  rw [lg_entry_eq]
  generalize (lg_sl ([.int x0, .int x1]) ++ List.replicate (2 - (lg_sl ([.int x0, .int x1])).length) Slot.unset).toArray = ls at hl ⊢
  have hl : lv_has ls 2 [(0, .int x0), (1, .int x1)] := hl
  generalize hQ : MQ below (va_Qi (fun r (_ : Unit) => r = rv) (kb_B D A ([] : va_W)) A) ([.int x0, .int x1] : List Value).toArray s 0 0 A = Q
  show W p l e ({ frames := 1, cells := 0, slots := 0, locals := 21 } : Room) s m ([.int x0, .int x1] : List Value).toArray below meth c s.heap [] 0 0 Q (F0 m 0 ls [])
  have RET : ∀ (r2 : Int32) (H : Heap) (locs : List Loc) (ls : Array Slot) (pc : Nat), some (r2) = some (rv) → va_P D vwCl ([] : va_W) H → va_D A ([] : va_W) → va_S A s.heap H locs → kb_01 r2 → decode cX0_isPaired pc = .ok (.ireturn, 1) → W p l e ({ frames := 1, cells := 0, slots := 0, locals := 21 } : Room) s m ([.int x0, .int x1] : List Value).toArray below meth c H locs 0 0 Q (F0 m pc ls [.int r2]) := by
    intro r2 H locs ls pc hq hP hD hS h01 hd
    cases hq
    rw [← hQ]
    exact W.zret (ty := .boolean) hx hb hr (kb_nz h01) (fun t ht hW => ⟨⟨_, (), rfl, rfl, by rw [ht]; exact hP, hD⟩, hS.F ht⟩) hS.2.2 hd
  have B_22 : ∀  (H : Heap) (locs : List Loc) (ls : Array Slot), f_X0_isPaired_b22  = some (rv) → va_P D vwCl ([] : va_W) H → va_D A ([] : va_W) → va_S A s.heap H locs → lv_has ls 2 [] → W p l e ({ frames := 1, cells := 0, slots := 0, locals := 21 } : Room) s m ([.int x0, .int x1] : List Value).toArray below meth c H locs 0 0 Q (F0 m 22 ls []) := by
    intro  H locs ls hf hP hD hS hl
    rw [f_X0_isPaired_b22] at hf
    refine lv_iconst (v := (0 : Int32)) hx hb dX0_isPaired_22 (by decide) ?_
    exact RET _ H _ ls 23 hf hP hD hS (by decide) dX0_isPaired_23
  have E0 : ∀ (H : Heap) (locs : List Loc), va_P D vwCl ([] : va_W) H → va_D A ([] : va_W) → va_S A s.heap H locs → W p l e ({ frames := 1, cells := 0, slots := 0, locals := 21 } : Room) s m ([.int x0, .int x1] : List Value).toArray below meth c H locs 0 0 Q (F0 m 0 ls []) := by
    intro H locs hP hD hS
    rw [f_X0_isPaired] at hf
    refine lv_iload_n hx hb dX0_isPaired_0 rfl (lv_at hl 0 rfl) ?_
    refine lv_iload_n hx hb dX0_isPaired_1 rfl (lv_at hl 1 rfl) ?_
    obtain ⟨r1, hc1, hf⟩ := kb_bind hf
    refine kb_ci (ws2 := ([] : va_W)) (kb_rS (n := 2) (As := [.int x0, .int x1]) (rest := []) hx hb hml hown hK (c_X0_isIn l D dA H.size x0 x1 r1 hc1) ⟨ww_3_81, ww_3_79, ww_3_80, ww_1_4, by decide, by decide⟩ rfl rfl (by decide +kernel) ⟨Nat.le_of_ble_eq_true rfl, Nat.le_of_ble_eq_true rfl⟩ hP hD hS hA hE [] rfl (by decide) rfl hl.1 rfl (Nat.le_of_ble_eq_true rfl) dX0_isPaired_2 ⟨Nat.le_of_ble_eq_true rfl, Nat.le_of_ble_eq_true rfl⟩) hP hD hS hA [] [] [] rfl rfl (by decide) (by decide) rfl (by decide) (fun H locs hP hD hS => ?_)
    refine lv_if_eq (tgt := 22) hx hb dX0_isPaired_5 (by decide) (fun c_2 => ?_) (fun c_2 => ?_)
    · rw [if_pos c_2] at hf
      exact B_22 _ _ _ hf hP hD hS (lv_sub hl [] rfl)
    · rw [if_neg c_2] at hf
      refine lv_iload_n hx hb dX0_isPaired_8 rfl (lv_at hl 0 rfl) ?_
      refine lv_iload_n hx hb dX0_isPaired_9 rfl (lv_at hl 1 rfl) ?_
      refine lv_iconst (v := (1 : Int32)) hx hb dX0_isPaired_10 (by decide) ?_
      refine lv_ixor hx hb dX0_isPaired_11 ?_
      obtain ⟨r3, hc3, hf⟩ := kb_bind hf
      refine kb_ci (ws2 := ([] : va_W)) (kb_rS (n := 2) (As := [.int x0, .int (x1 ^^^ (1 : Int32))]) (rest := []) hx hb hml hown hK (c_X0_isIn l D dA H.size x0 (x1 ^^^ (1 : Int32)) r3 hc3) ⟨ww_3_81, ww_3_79, ww_3_80, ww_1_4, by decide, by decide⟩ rfl rfl (by decide +kernel) ⟨Nat.le_of_ble_eq_true rfl, Nat.le_of_ble_eq_true rfl⟩ hP hD hS hA hE [] rfl (by decide) rfl hl.1 rfl (Nat.le_of_ble_eq_true rfl) dX0_isPaired_12 ⟨Nat.le_of_ble_eq_true rfl, Nat.le_of_ble_eq_true rfl⟩) hP hD hS hA [] [] [] rfl rfl (by decide) (by decide) rfl (by decide) (fun H locs hP hD hS => ?_)
      refine lv_if_eq (tgt := 22) hx hb dX0_isPaired_15 (by decide) (fun c_4 => ?_) (fun c_4 => ?_)
      · rw [if_pos c_4] at hf
        exact B_22 _ _ _ hf hP hD hS (lv_sub hl [] rfl)
      · rw [if_neg c_4] at hf
        refine lv_iconst (v := (1 : Int32)) hx hb dX0_isPaired_18 (by decide) ?_
        refine lv_goto (tgt := 23) hx hb dX0_isPaired_19 (by decide) ?_
        exact RET _ H _ ls 23 hf hP hD hS (by decide) dX0_isPaired_23
  exact E0 _ _ hP hD hS
