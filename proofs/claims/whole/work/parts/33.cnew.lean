set_option maxHeartbeats 4000000 in
set_option maxRecDepth 100000 in
theorem c_X0_init (l : Launch) (D : va_G) (dA : Nat → ClassId) (sz : Nat) (t : Nat → Nat) : kb_FMv l yX0_init cX0_init 1 none ({ frames := 1, cells := 1, slots := 20, locals := 24 } : Room) D dA [.ref (t 0)] sz (w_oX0 dA t none ((0 : Int32), (0 : Int32), (0 : Int32), (0 : Int32), (0 : Int32), (0 : Int32), (0 : Int32))) 1 20 (fun (ph2 : Nat → Nat) => (w_Cab dA (kb_c (t 0) ph2) ((0 : Int32), (0 : Int32), (0 : Int32), (0 : Int32), (0 : Int32), (0 : Int32), (0 : Int32), (fun _ => (0 : Int32))))) := by
  refine Met.ofW (cc := cX0_init) (maxL := 1) (ret := none) (by decide) rfl ?_
  intro p e s m args below meth c s₁ B hml hv
  obtain ⟨rfl, hsz, hP, hK, hD0, hE⟩ := hv
  have hx := B.exec
  have hb := B.bytes
  have hr := B.returns
  have hown : s.vm.findClass RX0 = some m.cls := findClass_of_methodNamed B.named
  have hlocks := B.notSynchronized
  have hin : meth.name = "<init>" := (name_of_methodNamed B.named B.method).1
  have hts : ∀ w ∈ kb_gw, w.before ([.ref (t 0)] : List Value).toArray s = true := fun w hw => hK.2.1 w hw _
  subst hsz
  have hD := hD0.self (sz := s.heap.size)
  generalize hAe : va_A (w_oX0 dA t none ((0 : Int32), (0 : Int32), (0 : Int32), (0 : Int32), (0 : Int32), (0 : Int32), (0 : Int32))) s.heap.size = A at hD hE ⊢
  have hA : ∀ q : Nat, s.heap.size ≤ q → A q := fun q h => by rw [← hAe]; exact Or.inr h
  have hS : va_S A s.heap s.heap [] := va_S.rf
  have hl := lv_entry ([.ref (t 0)]) (n := 1) (Nat.le_of_ble_eq_true rfl)
  rw [lg_entry_eq]
  generalize (lg_sl ([.ref (t 0)]) ++ List.replicate (1 - (lg_sl ([.ref (t 0)])).length) Slot.unset).toArray = ls at hl ⊢
  have hl : lv_has ls 1 [(0, .ref (t 0))] := hl
  generalize hQ : MQ below (va_Qv (fun (_ : Nat → Nat) => True) (fun ph2 => kb_B D A (w_Cab dA (kb_c (t 0) ph2) ((0 : Int32), (0 : Int32), (0 : Int32), (0 : Int32), (0 : Int32), (0 : Int32), (0 : Int32), (fun _ => (0 : Int32)))) ()) A) ([.ref (t 0)] : List Value).toArray s 1 20 A = Q
  have E0 : ∀ (H : Heap) (locs : List Loc), va_P D vwCl (w_oX0 dA t none ((0 : Int32), (0 : Int32), (0 : Int32), (0 : Int32), (0 : Int32), (0 : Int32), (0 : Int32))) H → va_D A (w_oX0 dA t none ((0 : Int32), (0 : Int32), (0 : Int32), (0 : Int32), (0 : Int32), (0 : Int32), (0 : Int32))) → va_S A s.heap H locs → W p l e ({ frames := 1, cells := 1, slots := 20, locals := 24 } : Room) s m ([.ref (t 0)] : List Value).toArray below meth c H locs 0 0 Q (F0 m 0 ls []) := by
    intro H locs hP hD hS
    refine lv_aload_n hx hb dX0_init_0 rfl (lv_at hl 0 rfl) ?_
    refine W.objInit hx hb hown (hK.2.w ww_1_85 rfl _) (hK.2.w ww_1_31 rfl _) (hK.2.w ww_1_32 rfl _) rfl (by rw [hml]; exact hl.1) rfl dX0_init_1 (Nat.le_of_ble_eq_true rfl) (Nat.le_of_ble_eq_true rfl) ?_
    refine W.eq (g2 := F0 m 4 ls []) rfl ?_
    refine lv_aload_n hx hb dX0_init_4 rfl (lv_at hl 0 rfl) ?_
    refine lv_bipush (v := (20 : Int32)) hx hb dX0_init_5 (by decide) ?_
    refine kb_newa (dA := dA) (ty := .int) (a0 := (20, .inl (fun _ => (0 : Int32)))) hx hb (hK.2.w ww_1_129 rfl _) rfl hK hP hD hS hA (fun _ => rfl) (by decide) (by decide) (by decide) (Nat.le_of_ble_eq_true rfl) (Nat.le_of_ble_eq_true rfl) dX0_init_7 0 rfl (fun q1 H hP hD hS => ?_)
    have hP : va_P D vwCl (w_oX0 dA t none ((0 : Int32), (0 : Int32), (0 : Int32), (0 : Int32), (0 : Int32), (0 : Int32), (0 : Int32)) ++ (w_rint20 dA (fun _ => q1) (fun _ => (0 : Int32)))) H := hP
    have hD : va_D A (w_oX0 dA t none ((0 : Int32), (0 : Int32), (0 : Int32), (0 : Int32), (0 : Int32), (0 : Int32), (0 : Int32)) ++ (w_rint20 dA (fun _ => q1) (fun _ => (0 : Int32)))) := hD
    refine va_putF (D := D) (ci := 0) (v := .ref ((fun _ => q1) 0)) (ty := .array .int) (C := RX0) (T := TX0) (N := 8) hx hb hts kb_inX0 tyX0 tyX0_ok nmX0 hown hK.1 hP hD hS 0 rfl rfl 7 (by decide) (hK.2.w ww_1_108 rfl _) (fun _ h9 => h9) rfl hin rfl (by decide +kernel) rfl rfl (Nat.le_of_ble_eq_true rfl) dX0_init_9 (fun H locs hP hD hS => ?_)
    have hP : va_P D vwCl (w_oX0 dA t (some ((fun _ => q1) 0)) ((0 : Int32), (0 : Int32), (0 : Int32), (0 : Int32), (0 : Int32), (0 : Int32), (0 : Int32)) ++ (w_rint20 dA (fun _ => q1) (fun _ => (0 : Int32)))) H := hP
    have hD : va_D A (w_oX0 dA t (some ((fun _ => q1) 0)) ((0 : Int32), (0 : Int32), (0 : Int32), (0 : Int32), (0 : Int32), (0 : Int32), (0 : Int32)) ++ (w_rint20 dA (fun _ => q1) (fun _ => (0 : Int32)))) := hD
    have hP := va_P.sub hP [0, 1] rfl
    have hD := hD.sub (ws' := [0, 1].filterMap (fun i => ((w_oX0 dA t (some ((fun _ => q1) 0)) ((0 : Int32), (0 : Int32), (0 : Int32), (0 : Int32), (0 : Int32), (0 : Int32), (0 : Int32)) ++ (w_rint20 dA (fun _ => q1) (fun _ => (0 : Int32)))))[i]?)) [0, 1] (by decide) rfl
    have hP : va_P D vwCl (w_Cab dA (kb_c (t 0) (kb_ph [((fun _ => q1) 0)])) ((0 : Int32), (0 : Int32), (0 : Int32), (0 : Int32), (0 : Int32), (0 : Int32), (0 : Int32), (fun _ => (0 : Int32)))) H := hP
    have hD : va_D A (w_Cab dA (kb_c (t 0) (kb_ph [((fun _ => q1) 0)])) ((0 : Int32), (0 : Int32), (0 : Int32), (0 : Int32), (0 : Int32), (0 : Int32), (0 : Int32), (fun _ => (0 : Int32)))) := hD
    rw [← hQ]
    refine W.widen (k := 1) (n := 20) (Nat.le_of_ble_eq_true rfl) (Nat.le_of_ble_eq_true rfl) ?_
    exact W.vret hx hb hr (fun t ht hW => ⟨⟨(kb_ph [((fun _ => q1) 0)]), rfl, trivial, by rw [ht]; exact hP, hD⟩, hS.F ht⟩) hS.2.2 dX0_init_12
  exact E0 _ _ hP hD hS

set_option maxHeartbeats 4000000 in
set_option maxRecDepth 100000 in
theorem c_X8_init (l : Launch) (D : va_G) (dA : Nat → ClassId) (sz : Nat) (t : Nat → Nat) : kb_FMv l yX8_init cX8_init 1 none ({ frames := 1, cells := 1, slots := 4, locals := 24 } : Room) D dA [.ref (t 0)] sz (w_oX8 dA t none ((0 : Int64), (0 : Int32))) 1 4 (fun (ph2 : Nat → Nat) => (w_Rule1 dA (kb_c (t 0) ph2) ((0 : Int64), (0 : Int32), (fun _ => (0 : Int32))))) := by
  refine Met.ofW (cc := cX8_init) (maxL := 1) (ret := none) (by decide) rfl ?_
  intro p e s m args below meth c s₁ B hml hv
  obtain ⟨rfl, hsz, hP, hK, hD0, hE⟩ := hv
  have hx := B.exec
  have hb := B.bytes
  have hr := B.returns
  have hown : s.vm.findClass RX8 = some m.cls := findClass_of_methodNamed B.named
  have hlocks := B.notSynchronized
  have hin : meth.name = "<init>" := (name_of_methodNamed B.named B.method).1
  have hts : ∀ w ∈ kb_gw, w.before ([.ref (t 0)] : List Value).toArray s = true := fun w hw => hK.2.1 w hw _
  subst hsz
  have hD := hD0.self (sz := s.heap.size)
  generalize hAe : va_A (w_oX8 dA t none ((0 : Int64), (0 : Int32))) s.heap.size = A at hD hE ⊢
  have hA : ∀ q : Nat, s.heap.size ≤ q → A q := fun q h => by rw [← hAe]; exact Or.inr h
  have hS : va_S A s.heap s.heap [] := va_S.rf
  have hl := lv_entry ([.ref (t 0)]) (n := 1) (Nat.le_of_ble_eq_true rfl)
  rw [lg_entry_eq]
  generalize (lg_sl ([.ref (t 0)]) ++ List.replicate (1 - (lg_sl ([.ref (t 0)])).length) Slot.unset).toArray = ls at hl ⊢
  have hl : lv_has ls 1 [(0, .ref (t 0))] := hl
  generalize hQ : MQ below (va_Qv (fun (_ : Nat → Nat) => True) (fun ph2 => kb_B D A (w_Rule1 dA (kb_c (t 0) ph2) ((0 : Int64), (0 : Int32), (fun _ => (0 : Int32)))) ()) A) ([.ref (t 0)] : List Value).toArray s 1 4 A = Q
  have E0 : ∀ (H : Heap) (locs : List Loc), va_P D vwCl (w_oX8 dA t none ((0 : Int64), (0 : Int32))) H → va_D A (w_oX8 dA t none ((0 : Int64), (0 : Int32))) → va_S A s.heap H locs → W p l e ({ frames := 1, cells := 1, slots := 4, locals := 24 } : Room) s m ([.ref (t 0)] : List Value).toArray below meth c H locs 0 0 Q (F0 m 0 ls []) := by
    intro H locs hP hD hS
    refine lv_aload_n hx hb dX8_init_0 rfl (lv_at hl 0 rfl) ?_
    refine W.objInit hx hb hown (hK.2.w ww_1_138 rfl _) (hK.2.w ww_1_31 rfl _) (hK.2.w ww_1_32 rfl _) rfl (by rw [hml]; exact hl.1) rfl dX8_init_1 (Nat.le_of_ble_eq_true rfl) (Nat.le_of_ble_eq_true rfl) ?_
    refine W.eq (g2 := F0 m 4 ls []) rfl ?_
    refine lv_aload_n hx hb dX8_init_4 rfl (lv_at hl 0 rfl) ?_
    refine lv_iconst (v := (4 : Int32)) hx hb dX8_init_5 (by decide) ?_
    refine kb_newa (dA := dA) (ty := .int) (a0 := (4, .inl (fun _ => (0 : Int32)))) hx hb (hK.2.w ww_1_129 rfl _) rfl hK hP hD hS hA (fun _ => rfl) (by decide) (by decide) (by decide) (Nat.le_of_ble_eq_true rfl) (Nat.le_of_ble_eq_true rfl) dX8_init_6 0 rfl (fun q1 H hP hD hS => ?_)
    have hP : va_P D vwCl (w_oX8 dA t none ((0 : Int64), (0 : Int32)) ++ (w_rint4 dA (fun _ => q1) (fun _ => (0 : Int32)))) H := hP
    have hD : va_D A (w_oX8 dA t none ((0 : Int64), (0 : Int32)) ++ (w_rint4 dA (fun _ => q1) (fun _ => (0 : Int32)))) := hD
    refine va_putF (D := D) (ci := 8) (v := .ref ((fun _ => q1) 0)) (ty := .array .int) (C := RX8) (T := TX8) (N := 3) hx hb hts kb_inX8 tyX8 tyX8_ok nmX8 hown hK.1 hP hD hS 0 rfl rfl 2 (by decide) (hK.2.w ww_1_145 rfl _) (fun _ h9 => h9) rfl hin rfl (by decide +kernel) rfl rfl (Nat.le_of_ble_eq_true rfl) dX8_init_8 (fun H locs hP hD hS => ?_)
    have hP : va_P D vwCl (w_oX8 dA t (some ((fun _ => q1) 0)) ((0 : Int64), (0 : Int32)) ++ (w_rint4 dA (fun _ => q1) (fun _ => (0 : Int32)))) H := hP
    have hD : va_D A (w_oX8 dA t (some ((fun _ => q1) 0)) ((0 : Int64), (0 : Int32)) ++ (w_rint4 dA (fun _ => q1) (fun _ => (0 : Int32)))) := hD
    have hP := va_P.sub hP [0, 1] rfl
    have hD := hD.sub (ws' := [0, 1].filterMap (fun i => ((w_oX8 dA t (some ((fun _ => q1) 0)) ((0 : Int64), (0 : Int32)) ++ (w_rint4 dA (fun _ => q1) (fun _ => (0 : Int32)))))[i]?)) [0, 1] (by decide) rfl
    have hP : va_P D vwCl (w_Rule1 dA (kb_c (t 0) (kb_ph [((fun _ => q1) 0)])) ((0 : Int64), (0 : Int32), (fun _ => (0 : Int32)))) H := hP
    have hD : va_D A (w_Rule1 dA (kb_c (t 0) (kb_ph [((fun _ => q1) 0)])) ((0 : Int64), (0 : Int32), (fun _ => (0 : Int32)))) := hD
    rw [← hQ]
    refine W.widen (k := 1) (n := 4) (Nat.le_of_ble_eq_true rfl) (Nat.le_of_ble_eq_true rfl) ?_
    exact W.vret hx hb hr (fun t ht hW => ⟨⟨(kb_ph [((fun _ => q1) 0)]), rfl, trivial, by rw [ht]; exact hP, hD⟩, hS.F ht⟩) hS.2.2 dX8_init_11
  exact E0 _ _ hP hD hS

set_option maxHeartbeats 4000000 in
set_option maxRecDepth 100000 in
theorem c_X7_init (l : Launch) (D : va_G) (dA : Nat → ClassId) (sz : Nat) (t : Nat → Nat) : kb_FMv l yX7_init cX7_init 1 none ({ frames := 1, cells := 0, slots := 0, locals := 24 } : Room) D dA [.ref (t 0)] sz (w_oX7 dA t ((0 : Int64), (0 : Int32), (0 : Int32), (0 : Int32), (0 : Int32), (0 : Int32), (0 : Int32), (0 : Int32), (0 : Int32), (0 : Int32))) 0 0 (fun (ph2 : Nat → Nat) => (w_Rider1 dA (kb_c (t 0) ph2) ((0 : Int64), (0 : Int32), (0 : Int32), (0 : Int32), (0 : Int32), (0 : Int32), (0 : Int32), (0 : Int32), (0 : Int32), (0 : Int32)))) := by
  refine Met.ofW (cc := cX7_init) (maxL := 1) (ret := none) (by decide) rfl ?_
  intro p e s m args below meth c s₁ B hml hv
  obtain ⟨rfl, hsz, hP, hK, hD0, hE⟩ := hv
  have hx := B.exec
  have hb := B.bytes
  have hr := B.returns
  have hown : s.vm.findClass RX7 = some m.cls := findClass_of_methodNamed B.named
  have hlocks := B.notSynchronized
  have hin : meth.name = "<init>" := (name_of_methodNamed B.named B.method).1
  have hts : ∀ w ∈ kb_gw, w.before ([.ref (t 0)] : List Value).toArray s = true := fun w hw => hK.2.1 w hw _
  subst hsz
  have hD := hD0.self (sz := s.heap.size)
  generalize hAe : va_A (w_oX7 dA t ((0 : Int64), (0 : Int32), (0 : Int32), (0 : Int32), (0 : Int32), (0 : Int32), (0 : Int32), (0 : Int32), (0 : Int32), (0 : Int32))) s.heap.size = A at hD hE ⊢
  have hA : ∀ q : Nat, s.heap.size ≤ q → A q := fun q h => by rw [← hAe]; exact Or.inr h
  have hS : va_S A s.heap s.heap [] := va_S.rf
  have hl := lv_entry ([.ref (t 0)]) (n := 1) (Nat.le_of_ble_eq_true rfl)
  rw [lg_entry_eq]
  generalize (lg_sl ([.ref (t 0)]) ++ List.replicate (1 - (lg_sl ([.ref (t 0)])).length) Slot.unset).toArray = ls at hl ⊢
  have hl : lv_has ls 1 [(0, .ref (t 0))] := hl
  generalize hQ : MQ below (va_Qv (fun (_ : Nat → Nat) => True) (fun ph2 => kb_B D A (w_Rider1 dA (kb_c (t 0) ph2) ((0 : Int64), (0 : Int32), (0 : Int32), (0 : Int32), (0 : Int32), (0 : Int32), (0 : Int32), (0 : Int32), (0 : Int32), (0 : Int32))) ()) A) ([.ref (t 0)] : List Value).toArray s 0 0 A = Q
  have E0 : ∀ (H : Heap) (locs : List Loc), va_P D vwCl (w_oX7 dA t ((0 : Int64), (0 : Int32), (0 : Int32), (0 : Int32), (0 : Int32), (0 : Int32), (0 : Int32), (0 : Int32), (0 : Int32), (0 : Int32))) H → va_D A (w_oX7 dA t ((0 : Int64), (0 : Int32), (0 : Int32), (0 : Int32), (0 : Int32), (0 : Int32), (0 : Int32), (0 : Int32), (0 : Int32), (0 : Int32))) → va_S A s.heap H locs → W p l e ({ frames := 1, cells := 0, slots := 0, locals := 24 } : Room) s m ([.ref (t 0)] : List Value).toArray below meth c H locs 0 0 Q (F0 m 0 ls []) := by
    intro H locs hP hD hS
    refine lv_aload_n hx hb dX7_init_0 rfl (lv_at hl 0 rfl) ?_
    refine W.objInit hx hb hown (hK.2.w ww_1_160 rfl _) (hK.2.w ww_1_31 rfl _) (hK.2.w ww_1_32 rfl _) rfl (by rw [hml]; exact hl.1) rfl dX7_init_1 (Nat.le_of_ble_eq_true rfl) (Nat.le_of_ble_eq_true rfl) ?_
    refine W.eq (g2 := F0 m 4 ls []) rfl ?_
    have hP := va_P.sub hP [0] rfl
    have hD := hD.sub (ws' := [0].filterMap (fun i => ((w_oX7 dA t ((0 : Int64), (0 : Int32), (0 : Int32), (0 : Int32), (0 : Int32), (0 : Int32), (0 : Int32), (0 : Int32), (0 : Int32), (0 : Int32))))[i]?)) [0] (by decide) rfl
    have hP : va_P D vwCl (w_Rider1 dA (kb_c (t 0) (kb_ph [])) ((0 : Int64), (0 : Int32), (0 : Int32), (0 : Int32), (0 : Int32), (0 : Int32), (0 : Int32), (0 : Int32), (0 : Int32), (0 : Int32))) H := hP
    have hD : va_D A (w_Rider1 dA (kb_c (t 0) (kb_ph [])) ((0 : Int64), (0 : Int32), (0 : Int32), (0 : Int32), (0 : Int32), (0 : Int32), (0 : Int32), (0 : Int32), (0 : Int32), (0 : Int32))) := hD
    rw [← hQ]
    refine W.widen (k := 0) (n := 0) (Nat.le_of_ble_eq_true rfl) (Nat.le_of_ble_eq_true rfl) ?_
    exact W.vret hx hb hr (fun t ht hW => ⟨⟨(kb_ph []), rfl, trivial, by rw [ht]; exact hP, hD⟩, hS.F ht⟩) hS.2.2 dX7_init_4
  exact E0 _ _ hP hD hS

set_option maxHeartbeats 4000000 in
set_option maxRecDepth 100000 in
theorem c_X4_init (l : Launch) (D : va_G) (dA : Nat → ClassId) (sz : Nat) (t : Nat → Nat) : kb_FMv l yX4_init cX4_init 1 none ({ frames := 1, cells := 1, slots := 900, locals := 24 } : Room) D dA [.ref (t 0)] sz (w_oX4 dA t none ((0 : Int32), (0 : Int32), (0 : Int32), (0 : Int32), (0 : Int32), (0 : Int32), (0 : Int32), (0 : Int32), (0 : Int64))) 1 900 (fun (ph2 : Nat → Nat) => (w_Parser dA (kb_c (t 0) ph2) ((0 : Int32), (0 : Int32), (0 : Int32), (fun _ => (0 : Int32)), (0 : Int32), (0 : Int32), (0 : Int32), (0 : Int32), (0 : Int32), (0 : Int64)))) := by
  refine Met.ofW (cc := cX4_init) (maxL := 1) (ret := none) (by decide) rfl ?_
  intro p e s m args below meth c s₁ B hml hv
  obtain ⟨rfl, hsz, hP, hK, hD0, hE⟩ := hv
  have hx := B.exec
  have hb := B.bytes
  have hr := B.returns
  have hown : s.vm.findClass RX4 = some m.cls := findClass_of_methodNamed B.named
  have hlocks := B.notSynchronized
  have hin : meth.name = "<init>" := (name_of_methodNamed B.named B.method).1
  have hts : ∀ w ∈ kb_gw, w.before ([.ref (t 0)] : List Value).toArray s = true := fun w hw => hK.2.1 w hw _
  subst hsz
  have hD := hD0.self (sz := s.heap.size)
  generalize hAe : va_A (w_oX4 dA t none ((0 : Int32), (0 : Int32), (0 : Int32), (0 : Int32), (0 : Int32), (0 : Int32), (0 : Int32), (0 : Int32), (0 : Int64))) s.heap.size = A at hD hE ⊢
  have hA : ∀ q : Nat, s.heap.size ≤ q → A q := fun q h => by rw [← hAe]; exact Or.inr h
  have hS : va_S A s.heap s.heap [] := va_S.rf
  have hl := lv_entry ([.ref (t 0)]) (n := 1) (Nat.le_of_ble_eq_true rfl)
  rw [lg_entry_eq]
  generalize (lg_sl ([.ref (t 0)]) ++ List.replicate (1 - (lg_sl ([.ref (t 0)])).length) Slot.unset).toArray = ls at hl ⊢
  have hl : lv_has ls 1 [(0, .ref (t 0))] := hl
  generalize hQ : MQ below (va_Qv (fun (_ : Nat → Nat) => True) (fun ph2 => kb_B D A (w_Parser dA (kb_c (t 0) ph2) ((0 : Int32), (0 : Int32), (0 : Int32), (fun _ => (0 : Int32)), (0 : Int32), (0 : Int32), (0 : Int32), (0 : Int32), (0 : Int32), (0 : Int64))) ()) A) ([.ref (t 0)] : List Value).toArray s 1 900 A = Q
  have E0 : ∀ (H : Heap) (locs : List Loc), va_P D vwCl (w_oX4 dA t none ((0 : Int32), (0 : Int32), (0 : Int32), (0 : Int32), (0 : Int32), (0 : Int32), (0 : Int32), (0 : Int32), (0 : Int64))) H → va_D A (w_oX4 dA t none ((0 : Int32), (0 : Int32), (0 : Int32), (0 : Int32), (0 : Int32), (0 : Int32), (0 : Int32), (0 : Int32), (0 : Int64))) → va_S A s.heap H locs → W p l e ({ frames := 1, cells := 1, slots := 900, locals := 24 } : Room) s m ([.ref (t 0)] : List Value).toArray below meth c H locs 0 0 Q (F0 m 0 ls []) := by
    intro H locs hP hD hS
    refine lv_aload_n hx hb dX4_init_0 rfl (lv_at hl 0 rfl) ?_
    refine W.objInit hx hb hown (hK.2.w ww_1_38 rfl _) (hK.2.w ww_1_31 rfl _) (hK.2.w ww_1_32 rfl _) rfl (by rw [hml]; exact hl.1) rfl dX4_init_1 (Nat.le_of_ble_eq_true rfl) (Nat.le_of_ble_eq_true rfl) ?_
    refine W.eq (g2 := F0 m 4 ls []) rfl ?_
    refine lv_aload_n hx hb dX4_init_4 rfl (lv_at hl 0 rfl) ?_
    refine lv_sipush (v := (900 : Int32)) hx hb dX4_init_5 (by decide) ?_
    refine kb_newa (dA := dA) (ty := .byte) (a0 := (900, .inl (fun _ => (0 : Int32)))) hx hb (hK.2.w ww_1_73 rfl _) rfl hK hP hD hS hA (fun _ => rfl) (by decide) (by decide) (by decide) (Nat.le_of_ble_eq_true rfl) (Nat.le_of_ble_eq_true rfl) dX4_init_8 1 rfl (fun q1 H hP hD hS => ?_)
    have hP : va_P D vwCl (w_oX4 dA t none ((0 : Int32), (0 : Int32), (0 : Int32), (0 : Int32), (0 : Int32), (0 : Int32), (0 : Int32), (0 : Int32), (0 : Int64)) ++ (w_rbyte900 dA (fun _ => q1) (fun _ => (0 : Int32)))) H := hP
    have hD : va_D A (w_oX4 dA t none ((0 : Int32), (0 : Int32), (0 : Int32), (0 : Int32), (0 : Int32), (0 : Int32), (0 : Int32), (0 : Int32), (0 : Int64)) ++ (w_rbyte900 dA (fun _ => q1) (fun _ => (0 : Int32)))) := hD
    refine va_putF (D := D) (ci := 4) (v := .ref ((fun _ => q1) 0)) (ty := .array .byte) (C := RX4) (T := TX4) (N := 10) hx hb hts kb_inX4 tyX4 tyX4_ok nmX4 hown hK.1 hP hD hS 0 rfl rfl 3 (by decide) (hK.2.w ww_1_45 rfl _) (fun _ h9 => h9) rfl hin rfl (by decide +kernel) rfl rfl (Nat.le_of_ble_eq_true rfl) dX4_init_10 (fun H locs hP hD hS => ?_)
    have hP : va_P D vwCl (w_oX4 dA t (some ((fun _ => q1) 0)) ((0 : Int32), (0 : Int32), (0 : Int32), (0 : Int32), (0 : Int32), (0 : Int32), (0 : Int32), (0 : Int32), (0 : Int64)) ++ (w_rbyte900 dA (fun _ => q1) (fun _ => (0 : Int32)))) H := hP
    have hD : va_D A (w_oX4 dA t (some ((fun _ => q1) 0)) ((0 : Int32), (0 : Int32), (0 : Int32), (0 : Int32), (0 : Int32), (0 : Int32), (0 : Int32), (0 : Int32), (0 : Int64)) ++ (w_rbyte900 dA (fun _ => q1) (fun _ => (0 : Int32)))) := hD
    have hP := va_P.sub hP [0, 1] rfl
    have hD := hD.sub (ws' := [0, 1].filterMap (fun i => ((w_oX4 dA t (some ((fun _ => q1) 0)) ((0 : Int32), (0 : Int32), (0 : Int32), (0 : Int32), (0 : Int32), (0 : Int32), (0 : Int32), (0 : Int32), (0 : Int64)) ++ (w_rbyte900 dA (fun _ => q1) (fun _ => (0 : Int32)))))[i]?)) [0, 1] (by decide) rfl
    have hP : va_P D vwCl (w_Parser dA (kb_c (t 0) (kb_ph [((fun _ => q1) 0)])) ((0 : Int32), (0 : Int32), (0 : Int32), (fun _ => (0 : Int32)), (0 : Int32), (0 : Int32), (0 : Int32), (0 : Int32), (0 : Int32), (0 : Int64))) H := hP
    have hD : va_D A (w_Parser dA (kb_c (t 0) (kb_ph [((fun _ => q1) 0)])) ((0 : Int32), (0 : Int32), (0 : Int32), (fun _ => (0 : Int32)), (0 : Int32), (0 : Int32), (0 : Int32), (0 : Int32), (0 : Int32), (0 : Int64))) := hD
    rw [← hQ]
    refine W.widen (k := 1) (n := 900) (Nat.le_of_ble_eq_true rfl) (Nat.le_of_ble_eq_true rfl) ?_
    exact W.vret hx hb hr (fun t ht hW => ⟨⟨(kb_ph [((fun _ => q1) 0)]), rfl, trivial, by rw [ht]; exact hP, hD⟩, hS.F ht⟩) hS.2.2 dX4_init_13
  exact E0 _ _ hP hD hS

set_option maxHeartbeats 4000000 in
set_option maxRecDepth 100000 in
theorem c_X2_init (l : Launch) (D : va_G) (dA : Nat → ClassId) (sz : Nat) (t : Nat → Nat) : kb_FMv l yX2_init cX2_init 1 none ({ frames := 1, cells := 2, slots := 24, locals := 24 } : Room) D dA [.ref (t 0)] sz (w_oX2 dA t none none (0 : Int32)) 2 24 (fun (ph2 : Nat → Nat) => (w_Films dA (kb_c (t 0) ph2) ((fun _ => (0 : Int32)), (fun _ => (0 : Int32)), (0 : Int32)))) := by
  refine Met.ofW (cc := cX2_init) (maxL := 1) (ret := none) (by decide) rfl ?_
  intro p e s m args below meth c s₁ B hml hv
  obtain ⟨rfl, hsz, hP, hK, hD0, hE⟩ := hv
  have hx := B.exec
  have hb := B.bytes
  have hr := B.returns
  have hown : s.vm.findClass RX2 = some m.cls := findClass_of_methodNamed B.named
  have hlocks := B.notSynchronized
  have hin : meth.name = "<init>" := (name_of_methodNamed B.named B.method).1
  have hts : ∀ w ∈ kb_gw, w.before ([.ref (t 0)] : List Value).toArray s = true := fun w hw => hK.2.1 w hw _
  subst hsz
  have hD := hD0.self (sz := s.heap.size)
  generalize hAe : va_A (w_oX2 dA t none none (0 : Int32)) s.heap.size = A at hD hE ⊢
  have hA : ∀ q : Nat, s.heap.size ≤ q → A q := fun q h => by rw [← hAe]; exact Or.inr h
  have hS : va_S A s.heap s.heap [] := va_S.rf
  have hl := lv_entry ([.ref (t 0)]) (n := 1) (Nat.le_of_ble_eq_true rfl)
  rw [lg_entry_eq]
  generalize (lg_sl ([.ref (t 0)]) ++ List.replicate (1 - (lg_sl ([.ref (t 0)])).length) Slot.unset).toArray = ls at hl ⊢
  have hl : lv_has ls 1 [(0, .ref (t 0))] := hl
  generalize hQ : MQ below (va_Qv (fun (_ : Nat → Nat) => True) (fun ph2 => kb_B D A (w_Films dA (kb_c (t 0) ph2) ((fun _ => (0 : Int32)), (fun _ => (0 : Int32)), (0 : Int32))) ()) A) ([.ref (t 0)] : List Value).toArray s 2 24 A = Q
  have E0 : ∀ (H : Heap) (locs : List Loc), va_P D vwCl (w_oX2 dA t none none (0 : Int32)) H → va_D A (w_oX2 dA t none none (0 : Int32)) → va_S A s.heap H locs → W p l e ({ frames := 1, cells := 2, slots := 24, locals := 24 } : Room) s m ([.ref (t 0)] : List Value).toArray below meth c H locs 0 0 Q (F0 m 0 ls []) := by
    intro H locs hP hD hS
    refine lv_aload_n hx hb dX2_init_0 rfl (lv_at hl 0 rfl) ?_
    refine W.objInit hx hb hown (hK.2.w ww_2_28 rfl _) (hK.2.w ww_1_31 rfl _) (hK.2.w ww_1_32 rfl _) rfl (by rw [hml]; exact hl.1) rfl dX2_init_1 (Nat.le_of_ble_eq_true rfl) (Nat.le_of_ble_eq_true rfl) ?_
    refine W.eq (g2 := F0 m 4 ls []) rfl ?_
    refine lv_aload_n hx hb dX2_init_4 rfl (lv_at hl 0 rfl) ?_
    refine lv_bipush (v := (12 : Int32)) hx hb dX2_init_5 (by decide) ?_
    refine kb_newa (dA := dA) (ty := .int) (a0 := (12, .inl (fun _ => (0 : Int32)))) hx hb (hK.2.w ww_1_129 rfl _) rfl hK hP hD hS hA (fun _ => rfl) (by decide) (by decide) (by decide) (Nat.le_of_ble_eq_true rfl) (Nat.le_of_ble_eq_true rfl) dX2_init_7 0 rfl (fun q1 H hP hD hS => ?_)
    have hP : va_P D vwCl (w_oX2 dA t none none (0 : Int32) ++ (w_rint12 dA (fun _ => q1) (fun _ => (0 : Int32)))) H := hP
    have hD : va_D A (w_oX2 dA t none none (0 : Int32) ++ (w_rint12 dA (fun _ => q1) (fun _ => (0 : Int32)))) := hD
    refine va_putF (D := D) (ci := 2) (v := .ref ((fun _ => q1) 0)) (ty := .array .int) (C := RX2) (T := TX2) (N := 3) hx hb hts kb_inX2 tyX2 tyX2_ok nmX2 hown hK.1 hP hD hS 0 rfl rfl 0 (by decide) (hK.2.w ww_2_29 rfl _) (fun _ h9 => h9) rfl hin rfl (by decide +kernel) rfl rfl (Nat.le_of_ble_eq_true rfl) dX2_init_9 (fun H locs hP hD hS => ?_)
    have hP : va_P D vwCl (w_oX2 dA t (some ((fun _ => q1) 0)) none (0 : Int32) ++ (w_rint12 dA (fun _ => q1) (fun _ => (0 : Int32)))) H := hP
    have hD : va_D A (w_oX2 dA t (some ((fun _ => q1) 0)) none (0 : Int32) ++ (w_rint12 dA (fun _ => q1) (fun _ => (0 : Int32)))) := hD
    refine lv_aload_n hx hb dX2_init_12 rfl (lv_at hl 0 rfl) ?_
    refine lv_bipush (v := (12 : Int32)) hx hb dX2_init_13 (by decide) ?_
    refine kb_newa (dA := dA) (ty := .int) (a0 := (12, .inl (fun _ => (0 : Int32)))) hx hb (hK.2.w ww_1_129 rfl _) rfl hK hP hD hS hA (fun _ => rfl) (by decide) (by decide) (by decide) (Nat.le_of_ble_eq_true rfl) (Nat.le_of_ble_eq_true rfl) dX2_init_15 0 rfl (fun q2 H hP hD hS => ?_)
    have hP : va_P D vwCl (w_oX2 dA t (some ((fun _ => q1) 0)) none (0 : Int32) ++ (w_rint12 dA (fun _ => q1) (fun _ => (0 : Int32)) ++ (w_rint12 dA (fun _ => q2) (fun _ => (0 : Int32))))) H := hP
    have hD : va_D A (w_oX2 dA t (some ((fun _ => q1) 0)) none (0 : Int32) ++ (w_rint12 dA (fun _ => q1) (fun _ => (0 : Int32)) ++ (w_rint12 dA (fun _ => q2) (fun _ => (0 : Int32))))) := hD
    refine va_putF (D := D) (ci := 2) (v := .ref ((fun _ => q2) 0)) (ty := .array .int) (C := RX2) (T := TX2) (N := 3) hx hb hts kb_inX2 tyX2 tyX2_ok nmX2 hown hK.1 hP hD hS 0 rfl rfl 1 (by decide) (hK.2.w ww_2_30 rfl _) (fun _ h9 => h9) rfl hin rfl (by decide +kernel) rfl rfl (Nat.le_of_ble_eq_true rfl) dX2_init_17 (fun H locs hP hD hS => ?_)
    have hP : va_P D vwCl (w_oX2 dA t (some ((fun _ => q1) 0)) (some ((fun _ => q2) 0)) (0 : Int32) ++ (w_rint12 dA (fun _ => q1) (fun _ => (0 : Int32)) ++ (w_rint12 dA (fun _ => q2) (fun _ => (0 : Int32))))) H := hP
    have hD : va_D A (w_oX2 dA t (some ((fun _ => q1) 0)) (some ((fun _ => q2) 0)) (0 : Int32) ++ (w_rint12 dA (fun _ => q1) (fun _ => (0 : Int32)) ++ (w_rint12 dA (fun _ => q2) (fun _ => (0 : Int32))))) := hD
    have hP := va_P.sub hP [0, 1, 2] rfl
    have hD := hD.sub (ws' := [0, 1, 2].filterMap (fun i => ((w_oX2 dA t (some ((fun _ => q1) 0)) (some ((fun _ => q2) 0)) (0 : Int32) ++ (w_rint12 dA (fun _ => q1) (fun _ => (0 : Int32)) ++ (w_rint12 dA (fun _ => q2) (fun _ => (0 : Int32))))))[i]?)) [0, 1, 2] (by decide) rfl
    have hP : va_P D vwCl (w_Films dA (kb_c (t 0) (kb_ph [((fun _ => q1) 0), ((fun _ => q2) 0)])) ((fun _ => (0 : Int32)), (fun _ => (0 : Int32)), (0 : Int32))) H := hP
    have hD : va_D A (w_Films dA (kb_c (t 0) (kb_ph [((fun _ => q1) 0), ((fun _ => q2) 0)])) ((fun _ => (0 : Int32)), (fun _ => (0 : Int32)), (0 : Int32))) := hD
    rw [← hQ]
    refine W.widen (k := 2) (n := 24) (Nat.le_of_ble_eq_true rfl) (Nat.le_of_ble_eq_true rfl) ?_
    exact W.vret hx hb hr (fun t ht hW => ⟨⟨(kb_ph [((fun _ => q1) 0), ((fun _ => q2) 0)]), rfl, trivial, by rw [ht]; exact hP, hD⟩, hS.F ht⟩) hS.2.2 dX2_init_20
  exact E0 _ _ hP hD hS

set_option maxHeartbeats 4000000 in
set_option maxRecDepth 100000 in
theorem c_X9_init (l : Launch) (D : va_G) (dA : Nat → ClassId) (sz : Nat) (t : Nat → Nat) (e0 : Nat) : kb_FMv l yX9_init cX9_init 2 none ({ frames := 1, cells := 2, slots := 29, locals := 24 } : Room) D dA [.ref (t 0), .ref e0] sz (w_oX9 dA t none none none (0 : Int32)) 2 29 (fun (ph2 : Nat → Nat) => (w_Scene dA (kb_c (t 0) ph2) e0 ((fun _ => (0 : Int32)), (fun _ => (0 : Int32))))) := by
  refine Met.ofW (cc := cX9_init) (maxL := 2) (ret := none) (by decide) rfl ?_
  intro p e s m args below meth c s₁ B hml hv
  obtain ⟨rfl, hsz, hP, hK, hD0, hE⟩ := hv
  have hx := B.exec
  have hb := B.bytes
  have hr := B.returns
  have hown : s.vm.findClass RX9 = some m.cls := findClass_of_methodNamed B.named
  have hlocks := B.notSynchronized
  have hin : meth.name = "<init>" := (name_of_methodNamed B.named B.method).1
  have hts : ∀ w ∈ kb_gw, w.before ([.ref (t 0), .ref e0] : List Value).toArray s = true := fun w hw => hK.2.1 w hw _
  subst hsz
  have hD := hD0.self (sz := s.heap.size)
  generalize hAe : va_A (w_oX9 dA t none none none (0 : Int32)) s.heap.size = A at hD hE ⊢
  have hA : ∀ q : Nat, s.heap.size ≤ q → A q := fun q h => by rw [← hAe]; exact Or.inr h
  have hS : va_S A s.heap s.heap [] := va_S.rf
  have hl := lv_entry ([.ref (t 0), .ref e0]) (n := 2) (Nat.le_of_ble_eq_true rfl)
  rw [lg_entry_eq]
  generalize (lg_sl ([.ref (t 0), .ref e0]) ++ List.replicate (2 - (lg_sl ([.ref (t 0), .ref e0])).length) Slot.unset).toArray = ls at hl ⊢
  have hl : lv_has ls 2 [(0, .ref (t 0)), (1, .ref e0)] := hl
  generalize hQ : MQ below (va_Qv (fun (_ : Nat → Nat) => True) (fun ph2 => kb_B D A (w_Scene dA (kb_c (t 0) ph2) e0 ((fun _ => (0 : Int32)), (fun _ => (0 : Int32)))) ()) A) ([.ref (t 0), .ref e0] : List Value).toArray s 2 29 A = Q
  have E0 : ∀ (H : Heap) (locs : List Loc), va_P D vwCl (w_oX9 dA t none none none (0 : Int32)) H → va_D A (w_oX9 dA t none none none (0 : Int32)) → va_S A s.heap H locs → W p l e ({ frames := 1, cells := 2, slots := 29, locals := 24 } : Room) s m ([.ref (t 0), .ref e0] : List Value).toArray below meth c H locs 0 0 Q (F0 m 0 ls []) := by
    intro H locs hP hD hS
    refine lv_aload_n hx hb dX9_init_0 rfl (lv_at hl 0 rfl) ?_
    refine W.objInit hx hb hown (hK.2.w ww_2_50 rfl _) (hK.2.w ww_1_31 rfl _) (hK.2.w ww_1_32 rfl _) rfl (by rw [hml]; exact hl.1) rfl dX9_init_1 (Nat.le_of_ble_eq_true rfl) (Nat.le_of_ble_eq_true rfl) ?_
    refine W.eq (g2 := F0 m 4 ls []) rfl ?_
    refine lv_aload_n hx hb dX9_init_4 rfl (lv_at hl 0 rfl) ?_
    refine lv_bipush (v := (20 : Int32)) hx hb dX9_init_5 (by decide) ?_
    refine kb_newa (dA := dA) (ty := .int) (a0 := (20, .inl (fun _ => (0 : Int32)))) hx hb (hK.2.w ww_1_129 rfl _) rfl hK hP hD hS hA (fun _ => rfl) (by decide) (by decide) (by decide) (Nat.le_of_ble_eq_true rfl) (Nat.le_of_ble_eq_true rfl) dX9_init_7 0 rfl (fun q1 H hP hD hS => ?_)
    have hP : va_P D vwCl (w_oX9 dA t none none none (0 : Int32) ++ (w_rint20 dA (fun _ => q1) (fun _ => (0 : Int32)))) H := hP
    have hD : va_D A (w_oX9 dA t none none none (0 : Int32) ++ (w_rint20 dA (fun _ => q1) (fun _ => (0 : Int32)))) := hD
    refine va_putF (D := D) (ci := 9) (v := .ref ((fun _ => q1) 0)) (ty := .array .int) (C := RX9) (T := TX9) (N := 3) hx hb hts kb_inX9 tyX9 tyX9_ok nmX9 hown hK.1 hP hD hS 0 rfl rfl 0 (by decide) (hK.2.w ww_2_51 rfl _) (fun _ h9 => h9) rfl hin rfl (by decide +kernel) rfl rfl (Nat.le_of_ble_eq_true rfl) dX9_init_9 (fun H locs hP hD hS => ?_)
    have hP : va_P D vwCl (w_oX9 dA t (some ((fun _ => q1) 0)) none none (0 : Int32) ++ (w_rint20 dA (fun _ => q1) (fun _ => (0 : Int32)))) H := hP
    have hD : va_D A (w_oX9 dA t (some ((fun _ => q1) 0)) none none (0 : Int32) ++ (w_rint20 dA (fun _ => q1) (fun _ => (0 : Int32)))) := hD
    refine lv_aload_n hx hb dX9_init_12 rfl (lv_at hl 0 rfl) ?_
    refine lv_bipush (v := (9 : Int32)) hx hb dX9_init_13 (by decide) ?_
    refine kb_newa (dA := dA) (ty := .int) (a0 := (9, .inl (fun _ => (0 : Int32)))) hx hb (hK.2.w ww_1_129 rfl _) rfl hK hP hD hS hA (fun _ => rfl) (by decide) (by decide) (by decide) (Nat.le_of_ble_eq_true rfl) (Nat.le_of_ble_eq_true rfl) dX9_init_15 0 rfl (fun q2 H hP hD hS => ?_)
    have hP : va_P D vwCl (w_oX9 dA t (some ((fun _ => q1) 0)) none none (0 : Int32) ++ (w_rint20 dA (fun _ => q1) (fun _ => (0 : Int32)) ++ (w_rint9 dA (fun _ => q2) (fun _ => (0 : Int32))))) H := hP
    have hD : va_D A (w_oX9 dA t (some ((fun _ => q1) 0)) none none (0 : Int32) ++ (w_rint20 dA (fun _ => q1) (fun _ => (0 : Int32)) ++ (w_rint9 dA (fun _ => q2) (fun _ => (0 : Int32))))) := hD
    refine va_putF (D := D) (ci := 9) (v := .ref ((fun _ => q2) 0)) (ty := .array .int) (C := RX9) (T := TX9) (N := 3) hx hb hts kb_inX9 tyX9 tyX9_ok nmX9 hown hK.1 hP hD hS 0 rfl rfl 1 (by decide) (hK.2.w ww_2_55 rfl _) (fun _ h9 => h9) rfl hin rfl (by decide +kernel) rfl rfl (Nat.le_of_ble_eq_true rfl) dX9_init_17 (fun H locs hP hD hS => ?_)
    have hP : va_P D vwCl (w_oX9 dA t (some ((fun _ => q1) 0)) (some ((fun _ => q2) 0)) none (0 : Int32) ++ (w_rint20 dA (fun _ => q1) (fun _ => (0 : Int32)) ++ (w_rint9 dA (fun _ => q2) (fun _ => (0 : Int32))))) H := hP
    have hD : va_D A (w_oX9 dA t (some ((fun _ => q1) 0)) (some ((fun _ => q2) 0)) none (0 : Int32) ++ (w_rint20 dA (fun _ => q1) (fun _ => (0 : Int32)) ++ (w_rint9 dA (fun _ => q2) (fun _ => (0 : Int32))))) := hD
    refine lv_aload_n hx hb dX9_init_20 rfl (lv_at hl 0 rfl) ?_
    refine lv_aload_n hx hb dX9_init_21 rfl (lv_at hl 1 rfl) ?_
    refine va_put (D := D) (ci := 9) (v := .ref e0) (ty := .object "BusSeats$Cabin") (C := RX9) (T := TX9) (N := 3) hx hb hts kb_inX9 tyX9 tyX9_ok nmX9 hown hK.1 hP hD hS 0 rfl rfl 2 (by decide) (hK.2.w ww_2_58 rfl _) (fun _ h9 => h9) rfl (by decide +kernel) rfl rfl (Nat.le_of_ble_eq_true rfl) dX9_init_22 (fun H locs hP hD hS => ?_)
    have hP : va_P D vwCl (w_oX9 dA t (some ((fun _ => q1) 0)) (some ((fun _ => q2) 0)) (some e0) (0 : Int32) ++ (w_rint20 dA (fun _ => q1) (fun _ => (0 : Int32)) ++ (w_rint9 dA (fun _ => q2) (fun _ => (0 : Int32))))) H := hP
    have hD : va_D A (w_oX9 dA t (some ((fun _ => q1) 0)) (some ((fun _ => q2) 0)) (some e0) (0 : Int32) ++ (w_rint20 dA (fun _ => q1) (fun _ => (0 : Int32)) ++ (w_rint9 dA (fun _ => q2) (fun _ => (0 : Int32))))) := hD
    have hP := va_P.sub hP [0, 1, 2] rfl
    have hD := hD.sub (ws' := [0, 1, 2].filterMap (fun i => ((w_oX9 dA t (some ((fun _ => q1) 0)) (some ((fun _ => q2) 0)) (some e0) (0 : Int32) ++ (w_rint20 dA (fun _ => q1) (fun _ => (0 : Int32)) ++ (w_rint9 dA (fun _ => q2) (fun _ => (0 : Int32))))))[i]?)) [0, 1, 2] (by decide) rfl
    have hP : va_P D vwCl (w_Scene dA (kb_c (t 0) (kb_ph [((fun _ => q1) 0), ((fun _ => q2) 0)])) e0 ((fun _ => (0 : Int32)), (fun _ => (0 : Int32)))) H := hP
    have hD : va_D A (w_Scene dA (kb_c (t 0) (kb_ph [((fun _ => q1) 0), ((fun _ => q2) 0)])) e0 ((fun _ => (0 : Int32)), (fun _ => (0 : Int32)))) := hD
    rw [← hQ]
    refine W.widen (k := 2) (n := 29) (Nat.le_of_ble_eq_true rfl) (Nat.le_of_ble_eq_true rfl) ?_
    exact W.vret hx hb hr (fun t ht hW => ⟨⟨(kb_ph [((fun _ => q1) 0), ((fun _ => q2) 0)]), rfl, trivial, by rw [ht]; exact hP, hD⟩, hS.F ht⟩) hS.2.2 dX9_init_25
  exact E0 _ _ hP hD hS

set_option maxHeartbeats 4000000 in
set_option maxRecDepth 100000 in
theorem c_X3_init (l : Launch) (D : va_G) (dA : Nat → ClassId) (sz : Nat) (t : Nat → Nat) (e0 : Nat) : kb_FMv l yX3_init cX3_init 2 none ({ frames := 1, cells := 1, slots := 8, locals := 24 } : Room) D dA [.ref (t 0), .ref e0] sz (w_oX3 dA t none none (0 : Int32)) 1 8 (fun (ph2 : Nat → Nat) => (w_Odds dA (kb_c (t 0) ph2) e0 ((fun _ => (0 : Int32)), (0 : Int32)))) := by
  refine Met.ofW (cc := cX3_init) (maxL := 2) (ret := none) (by decide) rfl ?_
  intro p e s m args below meth c s₁ B hml hv
  obtain ⟨rfl, hsz, hP, hK, hD0, hE⟩ := hv
  have hx := B.exec
  have hb := B.bytes
  have hr := B.returns
  have hown : s.vm.findClass RX3 = some m.cls := findClass_of_methodNamed B.named
  have hlocks := B.notSynchronized
  have hin : meth.name = "<init>" := (name_of_methodNamed B.named B.method).1
  have hts : ∀ w ∈ kb_gw, w.before ([.ref (t 0), .ref e0] : List Value).toArray s = true := fun w hw => hK.2.1 w hw _
  subst hsz
  have hD := hD0.self (sz := s.heap.size)
  generalize hAe : va_A (w_oX3 dA t none none (0 : Int32)) s.heap.size = A at hD hE ⊢
  have hA : ∀ q : Nat, s.heap.size ≤ q → A q := fun q h => by rw [← hAe]; exact Or.inr h
  have hS : va_S A s.heap s.heap [] := va_S.rf
  have hl := lv_entry ([.ref (t 0), .ref e0]) (n := 2) (Nat.le_of_ble_eq_true rfl)
  rw [lg_entry_eq]
  generalize (lg_sl ([.ref (t 0), .ref e0]) ++ List.replicate (2 - (lg_sl ([.ref (t 0), .ref e0])).length) Slot.unset).toArray = ls at hl ⊢
  have hl : lv_has ls 2 [(0, .ref (t 0)), (1, .ref e0)] := hl
  generalize hQ : MQ below (va_Qv (fun (_ : Nat → Nat) => True) (fun ph2 => kb_B D A (w_Odds dA (kb_c (t 0) ph2) e0 ((fun _ => (0 : Int32)), (0 : Int32))) ()) A) ([.ref (t 0), .ref e0] : List Value).toArray s 1 8 A = Q
  have E0 : ∀ (H : Heap) (locs : List Loc), va_P D vwCl (w_oX3 dA t none none (0 : Int32)) H → va_D A (w_oX3 dA t none none (0 : Int32)) → va_S A s.heap H locs → W p l e ({ frames := 1, cells := 1, slots := 8, locals := 24 } : Room) s m ([.ref (t 0), .ref e0] : List Value).toArray below meth c H locs 0 0 Q (F0 m 0 ls []) := by
    intro H locs hP hD hS
    refine lv_aload_n hx hb dX3_init_0 rfl (lv_at hl 0 rfl) ?_
    refine W.objInit hx hb hown (hK.2.w ww_2_116 rfl _) (hK.2.w ww_1_31 rfl _) (hK.2.w ww_1_32 rfl _) rfl (by rw [hml]; exact hl.1) rfl dX3_init_1 (Nat.le_of_ble_eq_true rfl) (Nat.le_of_ble_eq_true rfl) ?_
    refine W.eq (g2 := F0 m 4 ls []) rfl ?_
    refine lv_aload_n hx hb dX3_init_4 rfl (lv_at hl 0 rfl) ?_
    refine lv_bipush (v := (8 : Int32)) hx hb dX3_init_5 (by decide) ?_
    refine kb_newa (dA := dA) (ty := .int) (a0 := (8, .inl (fun _ => (0 : Int32)))) hx hb (hK.2.w ww_1_129 rfl _) rfl hK hP hD hS hA (fun _ => rfl) (by decide) (by decide) (by decide) (Nat.le_of_ble_eq_true rfl) (Nat.le_of_ble_eq_true rfl) dX3_init_7 0 rfl (fun q1 H hP hD hS => ?_)
    have hP : va_P D vwCl (w_oX3 dA t none none (0 : Int32) ++ (w_rint8 dA (fun _ => q1) (fun _ => (0 : Int32)))) H := hP
    have hD : va_D A (w_oX3 dA t none none (0 : Int32) ++ (w_rint8 dA (fun _ => q1) (fun _ => (0 : Int32)))) := hD
    refine va_putF (D := D) (ci := 3) (v := .ref ((fun _ => q1) 0)) (ty := .array .int) (C := RX3) (T := TX3) (N := 3) hx hb hts kb_inX3 tyX3 tyX3_ok nmX3 hown hK.1 hP hD hS 0 rfl rfl 1 (by decide) (hK.2.w ww_2_118 rfl _) (fun _ h9 => h9) rfl hin rfl (by decide +kernel) rfl rfl (Nat.le_of_ble_eq_true rfl) dX3_init_9 (fun H locs hP hD hS => ?_)
    have hP : va_P D vwCl (w_oX3 dA t none (some ((fun _ => q1) 0)) (0 : Int32) ++ (w_rint8 dA (fun _ => q1) (fun _ => (0 : Int32)))) H := hP
    have hD : va_D A (w_oX3 dA t none (some ((fun _ => q1) 0)) (0 : Int32) ++ (w_rint8 dA (fun _ => q1) (fun _ => (0 : Int32)))) := hD
    refine lv_aload_n hx hb dX3_init_12 rfl (lv_at hl 0 rfl) ?_
    refine lv_aload_n hx hb dX3_init_13 rfl (lv_at hl 1 rfl) ?_
    refine va_putF (D := D) (ci := 3) (v := .ref e0) (ty := .array (.object "BusSeats$Ride")) (C := RX3) (T := TX3) (N := 3) hx hb hts kb_inX3 tyX3 tyX3_ok nmX3 hown hK.1 hP hD hS 0 rfl rfl 0 (by decide) (hK.2.w ww_2_117 rfl _) (fun _ h9 => h9) rfl hin rfl (by decide +kernel) rfl rfl (Nat.le_of_ble_eq_true rfl) dX3_init_14 (fun H locs hP hD hS => ?_)
    have hP : va_P D vwCl (w_oX3 dA t (some e0) (some ((fun _ => q1) 0)) (0 : Int32) ++ (w_rint8 dA (fun _ => q1) (fun _ => (0 : Int32)))) H := hP
    have hD : va_D A (w_oX3 dA t (some e0) (some ((fun _ => q1) 0)) (0 : Int32) ++ (w_rint8 dA (fun _ => q1) (fun _ => (0 : Int32)))) := hD
    have hP := va_P.sub hP [0, 1] rfl
    have hD := hD.sub (ws' := [0, 1].filterMap (fun i => ((w_oX3 dA t (some e0) (some ((fun _ => q1) 0)) (0 : Int32) ++ (w_rint8 dA (fun _ => q1) (fun _ => (0 : Int32)))))[i]?)) [0, 1] (by decide) rfl
    have hP : va_P D vwCl (w_Odds dA (kb_c (t 0) (kb_ph [((fun _ => q1) 0)])) e0 ((fun _ => (0 : Int32)), (0 : Int32))) H := hP
    have hD : va_D A (w_Odds dA (kb_c (t 0) (kb_ph [((fun _ => q1) 0)])) e0 ((fun _ => (0 : Int32)), (0 : Int32))) := hD
    rw [← hQ]
    refine W.widen (k := 1) (n := 8) (Nat.le_of_ble_eq_true rfl) (Nat.le_of_ble_eq_true rfl) ?_
    exact W.vret hx hb hr (fun t ht hW => ⟨⟨(kb_ph [((fun _ => q1) 0)]), rfl, trivial, by rw [ht]; exact hP, hD⟩, hS.F ht⟩) hS.2.2 dX3_init_17
  exact E0 _ _ hP hD hS

set_option maxHeartbeats 4000000 in
set_option maxRecDepth 100000 in
theorem c_X1_init (l : Launch) (D : va_G) (dA : Nat → ClassId) (sz : Nat) (t : Nat → Nat) (e0 : Nat) : kb_FMv l yX1_init cX1_init 2 none ({ frames := 1, cells := 3, slots := 22, locals := 24 } : Room) D dA [.ref (t 0), .ref e0] sz (w_oX1 dA t none none none none (0 : Int32)) 3 22 (fun (ph2 : Nat → Nat) => (w_Deals dA (kb_c (t 0) ph2) e0 ((0 : Int32), (fun _ => (0 : Int32)), (fun _ => (0 : Int32)), (fun _ => (0 : Int32))))) := by
  refine Met.ofW (cc := cX1_init) (maxL := 2) (ret := none) (by decide) rfl ?_
  intro p e s m args below meth c s₁ B hml hv
  obtain ⟨rfl, hsz, hP, hK, hD0, hE⟩ := hv
  have hx := B.exec
  have hb := B.bytes
  have hr := B.returns
  have hown : s.vm.findClass RX1 = some m.cls := findClass_of_methodNamed B.named
  have hlocks := B.notSynchronized
  have hin : meth.name = "<init>" := (name_of_methodNamed B.named B.method).1
  have hts : ∀ w ∈ kb_gw, w.before ([.ref (t 0), .ref e0] : List Value).toArray s = true := fun w hw => hK.2.1 w hw _
  subst hsz
  have hD := hD0.self (sz := s.heap.size)
  generalize hAe : va_A (w_oX1 dA t none none none none (0 : Int32)) s.heap.size = A at hD hE ⊢
  have hA : ∀ q : Nat, s.heap.size ≤ q → A q := fun q h => by rw [← hAe]; exact Or.inr h
  have hS : va_S A s.heap s.heap [] := va_S.rf
  have hl := lv_entry ([.ref (t 0), .ref e0]) (n := 2) (Nat.le_of_ble_eq_true rfl)
  rw [lg_entry_eq]
  generalize (lg_sl ([.ref (t 0), .ref e0]) ++ List.replicate (2 - (lg_sl ([.ref (t 0), .ref e0])).length) Slot.unset).toArray = ls at hl ⊢
  have hl : lv_has ls 2 [(0, .ref (t 0)), (1, .ref e0)] := hl
  generalize hQ : MQ below (va_Qv (fun (_ : Nat → Nat) => True) (fun ph2 => kb_B D A (w_Deals dA (kb_c (t 0) ph2) e0 ((0 : Int32), (fun _ => (0 : Int32)), (fun _ => (0 : Int32)), (fun _ => (0 : Int32)))) ()) A) ([.ref (t 0), .ref e0] : List Value).toArray s 3 22 A = Q
  have E0 : ∀ (H : Heap) (locs : List Loc), va_P D vwCl (w_oX1 dA t none none none none (0 : Int32)) H → va_D A (w_oX1 dA t none none none none (0 : Int32)) → va_S A s.heap H locs → W p l e ({ frames := 1, cells := 3, slots := 22, locals := 24 } : Room) s m ([.ref (t 0), .ref e0] : List Value).toArray below meth c H locs 0 0 Q (F0 m 0 ls []) := by
    intro H locs hP hD hS
    refine lv_aload_n hx hb dX1_init_0 rfl (lv_at hl 0 rfl) ?_
    refine W.objInit hx hb hown (hK.2.w ww_2_132 rfl _) (hK.2.w ww_1_31 rfl _) (hK.2.w ww_1_32 rfl _) rfl (by rw [hml]; exact hl.1) rfl dX1_init_1 (Nat.le_of_ble_eq_true rfl) (Nat.le_of_ble_eq_true rfl) ?_
    refine W.eq (g2 := F0 m 4 ls []) rfl ?_
    refine lv_aload_n hx hb dX1_init_4 rfl (lv_at hl 0 rfl) ?_
    refine lv_bipush (v := (8 : Int32)) hx hb dX1_init_5 (by decide) ?_
    refine kb_newa (dA := dA) (ty := .int) (a0 := (8, .inl (fun _ => (0 : Int32)))) hx hb (hK.2.w ww_1_129 rfl _) rfl hK hP hD hS hA (fun _ => rfl) (by decide) (by decide) (by decide) (Nat.le_of_ble_eq_true rfl) (Nat.le_of_ble_eq_true rfl) dX1_init_7 0 rfl (fun q1 H hP hD hS => ?_)
    have hP : va_P D vwCl (w_oX1 dA t none none none none (0 : Int32) ++ (w_rint8 dA (fun _ => q1) (fun _ => (0 : Int32)))) H := hP
    have hD : va_D A (w_oX1 dA t none none none none (0 : Int32) ++ (w_rint8 dA (fun _ => q1) (fun _ => (0 : Int32)))) := hD
    refine va_putF (D := D) (ci := 1) (v := .ref ((fun _ => q1) 0)) (ty := .array .int) (C := RX1) (T := TX1) (N := 5) hx hb hts kb_inX1 tyX1 tyX1_ok nmX1 hown hK.1 hP hD hS 0 rfl rfl 1 (by decide) (hK.2.w ww_2_135 rfl _) (fun _ h9 => h9) rfl hin rfl (by decide +kernel) rfl rfl (Nat.le_of_ble_eq_true rfl) dX1_init_9 (fun H locs hP hD hS => ?_)
    have hP : va_P D vwCl (w_oX1 dA t (some ((fun _ => q1) 0)) none none none (0 : Int32) ++ (w_rint8 dA (fun _ => q1) (fun _ => (0 : Int32)))) H := hP
    have hD : va_D A (w_oX1 dA t (some ((fun _ => q1) 0)) none none none (0 : Int32) ++ (w_rint8 dA (fun _ => q1) (fun _ => (0 : Int32)))) := hD
    refine lv_aload_n hx hb dX1_init_12 rfl (lv_at hl 0 rfl) ?_
    refine lv_bipush (v := (8 : Int32)) hx hb dX1_init_13 (by decide) ?_
    refine kb_newa (dA := dA) (ty := .int) (a0 := (8, .inl (fun _ => (0 : Int32)))) hx hb (hK.2.w ww_1_129 rfl _) rfl hK hP hD hS hA (fun _ => rfl) (by decide) (by decide) (by decide) (Nat.le_of_ble_eq_true rfl) (Nat.le_of_ble_eq_true rfl) dX1_init_15 0 rfl (fun q2 H hP hD hS => ?_)
    have hP : va_P D vwCl (w_oX1 dA t (some ((fun _ => q1) 0)) none none none (0 : Int32) ++ (w_rint8 dA (fun _ => q1) (fun _ => (0 : Int32)) ++ (w_rint8 dA (fun _ => q2) (fun _ => (0 : Int32))))) H := hP
    have hD : va_D A (w_oX1 dA t (some ((fun _ => q1) 0)) none none none (0 : Int32) ++ (w_rint8 dA (fun _ => q1) (fun _ => (0 : Int32)) ++ (w_rint8 dA (fun _ => q2) (fun _ => (0 : Int32))))) := hD
    refine va_putF (D := D) (ci := 1) (v := .ref ((fun _ => q2) 0)) (ty := .array .int) (C := RX1) (T := TX1) (N := 5) hx hb hts kb_inX1 tyX1 tyX1_ok nmX1 hown hK.1 hP hD hS 0 rfl rfl 2 (by decide) (hK.2.w ww_2_137 rfl _) (fun _ h9 => h9) rfl hin rfl (by decide +kernel) rfl rfl (Nat.le_of_ble_eq_true rfl) dX1_init_17 (fun H locs hP hD hS => ?_)
    have hP : va_P D vwCl (w_oX1 dA t (some ((fun _ => q1) 0)) (some ((fun _ => q2) 0)) none none (0 : Int32) ++ (w_rint8 dA (fun _ => q1) (fun _ => (0 : Int32)) ++ (w_rint8 dA (fun _ => q2) (fun _ => (0 : Int32))))) H := hP
    have hD : va_D A (w_oX1 dA t (some ((fun _ => q1) 0)) (some ((fun _ => q2) 0)) none none (0 : Int32) ++ (w_rint8 dA (fun _ => q1) (fun _ => (0 : Int32)) ++ (w_rint8 dA (fun _ => q2) (fun _ => (0 : Int32))))) := hD
    refine lv_aload_n hx hb dX1_init_20 rfl (lv_at hl 0 rfl) ?_
    refine lv_bipush (v := (6 : Int32)) hx hb dX1_init_21 (by decide) ?_
    refine kb_newa (dA := dA) (ty := .int) (a0 := (6, .inl (fun _ => (0 : Int32)))) hx hb (hK.2.w ww_1_129 rfl _) rfl hK hP hD hS hA (fun _ => rfl) (by decide) (by decide) (by decide) (Nat.le_of_ble_eq_true rfl) (Nat.le_of_ble_eq_true rfl) dX1_init_23 0 rfl (fun q3 H hP hD hS => ?_)
    have hP : va_P D vwCl (w_oX1 dA t (some ((fun _ => q1) 0)) (some ((fun _ => q2) 0)) none none (0 : Int32) ++ (w_rint8 dA (fun _ => q1) (fun _ => (0 : Int32)) ++ (w_rint8 dA (fun _ => q2) (fun _ => (0 : Int32)) ++ (w_rint6 dA (fun _ => q3) (fun _ => (0 : Int32)))))) H := hP
    have hD : va_D A (w_oX1 dA t (some ((fun _ => q1) 0)) (some ((fun _ => q2) 0)) none none (0 : Int32) ++ (w_rint8 dA (fun _ => q1) (fun _ => (0 : Int32)) ++ (w_rint8 dA (fun _ => q2) (fun _ => (0 : Int32)) ++ (w_rint6 dA (fun _ => q3) (fun _ => (0 : Int32)))))) := hD
    refine va_putF (D := D) (ci := 1) (v := .ref ((fun _ => q3) 0)) (ty := .array .int) (C := RX1) (T := TX1) (N := 5) hx hb hts kb_inX1 tyX1 tyX1_ok nmX1 hown hK.1 hP hD hS 0 rfl rfl 3 (by decide) (hK.2.w ww_2_139 rfl _) (fun _ h9 => h9) rfl hin rfl (by decide +kernel) rfl rfl (Nat.le_of_ble_eq_true rfl) dX1_init_25 (fun H locs hP hD hS => ?_)
    have hP : va_P D vwCl (w_oX1 dA t (some ((fun _ => q1) 0)) (some ((fun _ => q2) 0)) (some ((fun _ => q3) 0)) none (0 : Int32) ++ (w_rint8 dA (fun _ => q1) (fun _ => (0 : Int32)) ++ (w_rint8 dA (fun _ => q2) (fun _ => (0 : Int32)) ++ (w_rint6 dA (fun _ => q3) (fun _ => (0 : Int32)))))) H := hP
    have hD : va_D A (w_oX1 dA t (some ((fun _ => q1) 0)) (some ((fun _ => q2) 0)) (some ((fun _ => q3) 0)) none (0 : Int32) ++ (w_rint8 dA (fun _ => q1) (fun _ => (0 : Int32)) ++ (w_rint8 dA (fun _ => q2) (fun _ => (0 : Int32)) ++ (w_rint6 dA (fun _ => q3) (fun _ => (0 : Int32)))))) := hD
    refine lv_aload_n hx hb dX1_init_28 rfl (lv_at hl 0 rfl) ?_
    refine lv_aload_n hx hb dX1_init_29 rfl (lv_at hl 1 rfl) ?_
    refine va_putF (D := D) (ci := 1) (v := .ref e0) (ty := .object "BusSeats$Ride") (C := RX1) (T := TX1) (N := 5) hx hb hts kb_inX1 tyX1 tyX1_ok nmX1 hown hK.1 hP hD hS 0 rfl rfl 4 (by decide) (hK.2.w ww_2_140 rfl _) (fun _ h9 => h9) rfl hin rfl (by decide +kernel) rfl rfl (Nat.le_of_ble_eq_true rfl) dX1_init_30 (fun H locs hP hD hS => ?_)
    have hP : va_P D vwCl (w_oX1 dA t (some ((fun _ => q1) 0)) (some ((fun _ => q2) 0)) (some ((fun _ => q3) 0)) (some e0) (0 : Int32) ++ (w_rint8 dA (fun _ => q1) (fun _ => (0 : Int32)) ++ (w_rint8 dA (fun _ => q2) (fun _ => (0 : Int32)) ++ (w_rint6 dA (fun _ => q3) (fun _ => (0 : Int32)))))) H := hP
    have hD : va_D A (w_oX1 dA t (some ((fun _ => q1) 0)) (some ((fun _ => q2) 0)) (some ((fun _ => q3) 0)) (some e0) (0 : Int32) ++ (w_rint8 dA (fun _ => q1) (fun _ => (0 : Int32)) ++ (w_rint8 dA (fun _ => q2) (fun _ => (0 : Int32)) ++ (w_rint6 dA (fun _ => q3) (fun _ => (0 : Int32)))))) := hD
    have hP := va_P.sub hP [0, 1, 2, 3] rfl
    have hD := hD.sub (ws' := [0, 1, 2, 3].filterMap (fun i => ((w_oX1 dA t (some ((fun _ => q1) 0)) (some ((fun _ => q2) 0)) (some ((fun _ => q3) 0)) (some e0) (0 : Int32) ++ (w_rint8 dA (fun _ => q1) (fun _ => (0 : Int32)) ++ (w_rint8 dA (fun _ => q2) (fun _ => (0 : Int32)) ++ (w_rint6 dA (fun _ => q3) (fun _ => (0 : Int32)))))))[i]?)) [0, 1, 2, 3] (by decide) rfl
    have hP : va_P D vwCl (w_Deals dA (kb_c (t 0) (kb_ph [((fun _ => q1) 0), ((fun _ => q2) 0), ((fun _ => q3) 0)])) e0 ((0 : Int32), (fun _ => (0 : Int32)), (fun _ => (0 : Int32)), (fun _ => (0 : Int32)))) H := hP
    have hD : va_D A (w_Deals dA (kb_c (t 0) (kb_ph [((fun _ => q1) 0), ((fun _ => q2) 0), ((fun _ => q3) 0)])) e0 ((0 : Int32), (fun _ => (0 : Int32)), (fun _ => (0 : Int32)), (fun _ => (0 : Int32)))) := hD
    rw [← hQ]
    refine W.widen (k := 3) (n := 22) (Nat.le_of_ble_eq_true rfl) (Nat.le_of_ble_eq_true rfl) ?_
    exact W.vret hx hb hr (fun t ht hW => ⟨⟨(kb_ph [((fun _ => q1) 0), ((fun _ => q2) 0), ((fun _ => q3) 0)]), rfl, trivial, by rw [ht]; exact hP, hD⟩, hS.F ht⟩) hS.2.2 dX1_init_33
  exact E0 _ _ hP hD hS
