noncomputable def f_X9_besideOf (sc : SceneT) (cb : CabT) (x0 : Int32) : Option (Int32) := if kb_in? x0 20 then (if ((cb_beside cb) (x0).toNatClampNeg) = (-2 : Int32) then some ((-2 : Int32)) else if kb_in? ((cb_beside cb) (x0).toNatClampNeg) 20 then some (((sc_sitter sc) (((cb_beside cb) (x0).toNatClampNeg)).toNatClampNeg)) else none) else none
set_option maxHeartbeats 4000000 in
set_option maxRecDepth 100000 in
theorem c_X9_besideOf (l : Launch) (D : va_G) (dA : Nat → ClassId) (sz : Nat) (a : Nat → Nat) (ca : Nat → Nat) (sc : SceneT) (cb : CabT) (x0 : Int32) (rv : Int32) (hf : f_X9_besideOf sc cb x0 = some (rv)) : kb_Mi l yX9_besideOf cX9_besideOf 3 (some .int) ({ frames := 0, cells := 0, slots := 0, locals := 0 } : Room) D dA [.ref (a 0), .int x0] sz (w_Scene dA a (ca 0) sc ++ (w_Cab dA ca cb)) 0 0 rv (w_Scene dA a (ca 0) sc ++ (w_Cab dA ca cb)) := by
  refine Met.ofW (cc := cX9_besideOf) (maxL := 3) (ret := (some .int)) (by decide) rfl ?_
  intro p e s m args below meth c s₁ B hml hv
  obtain ⟨rfl, hsz, hP, hK, hD0, hE⟩ := hv
  have hx := B.exec
  have hb := B.bytes
  have hr := B.returns
  have hown : s.vm.findClass RX9 = some m.cls := findClass_of_methodNamed B.named
  have hlocks := B.notSynchronized
  have hts : ∀ w ∈ kb_gw, w.before ([.ref (a 0), .int x0] : List Value).toArray s = true := fun w hw => hK.2.1 w hw _
  subst hsz
  have hD := hD0.self (sz := s.heap.size)
  generalize hAe : va_A (w_Scene dA a (ca 0) sc ++ (w_Cab dA ca cb)) s.heap.size = A at hD hE ⊢
  have hA : ∀ q : Nat, s.heap.size ≤ q → A q := fun q h => by rw [← hAe]; exact Or.inr h
  have hS : va_S A s.heap s.heap [] := va_S.rf
  have hl := lv_entry ([.ref (a 0), .int x0]) (n := 3) (Nat.le_of_ble_eq_true rfl)
  rw [lg_entry_eq]
  generalize (lg_sl ([.ref (a 0), .int x0]) ++ List.replicate (3 - (lg_sl ([.ref (a 0), .int x0])).length) Slot.unset).toArray = ls at hl ⊢
  have hl : lv_has ls 3 [(0, .ref (a 0)), (1, .int x0)] := hl
  generalize hQ : MQ below (va_Qi (fun r (_ : Unit) => r = rv) (kb_B D A (w_Scene dA a (ca 0) sc ++ (w_Cab dA ca cb))) A) ([.ref (a 0), .int x0] : List Value).toArray s 0 0 A = Q
  show W p l e ({ frames := 0, cells := 0, slots := 0, locals := 0 } : Room) s m ([.ref (a 0), .int x0] : List Value).toArray below meth c s.heap [] 0 0 Q (F0 m 0 ls [])
  have RET : ∀ (r2 : Int32) (H : Heap) (locs : List Loc) (ls : Array Slot) (pc : Nat), some (r2) = some (rv) → va_P D vwCl (w_Scene dA a (ca 0) sc ++ (w_Cab dA ca cb)) H → va_D A (w_Scene dA a (ca 0) sc ++ (w_Cab dA ca cb)) → va_S A s.heap H locs → decode cX9_besideOf pc = .ok (.ireturn, 1) → W p l e ({ frames := 0, cells := 0, slots := 0, locals := 0 } : Room) s m ([.ref (a 0), .int x0] : List Value).toArray below meth c H locs 0 0 Q (F0 m pc ls [.int r2]) := by
    intro r2 H locs ls pc hq hP hD hS hd
    cases hq
    rw [← hQ]
    exact W.iret hx hb hr (fun t ht hW => ⟨⟨_, (), rfl, rfl, by rw [ht]; exact hP, hD⟩, hS.F ht⟩) hS.2.2 hd
  have E0 : ∀ (H : Heap) (locs : List Loc), va_P D vwCl (w_Scene dA a (ca 0) sc ++ (w_Cab dA ca cb)) H → va_D A (w_Scene dA a (ca 0) sc ++ (w_Cab dA ca cb)) → va_S A s.heap H locs → W p l e ({ frames := 0, cells := 0, slots := 0, locals := 0 } : Room) s m ([.ref (a 0), .int x0] : List Value).toArray below meth c H locs 0 0 Q (F0 m 0 ls []) := by
    intro H locs hP hD hS
    rw [f_X9_besideOf] at hf
    refine lv_aload_n hx hb dX9_besideOf_0 rfl (lv_at hl 0 rfl) ?_
    refine va_get (D := D) (ci := 9) (v := .ref (ca 0)) (C := RX9) (T := TX9) (N := 3) hx hb hts kb_inX9 hown hK.1 hP 0 rfl rfl 2 (by decide) (hK.2.w ww_2_58 rfl _) (fun _ h9 => h9) rfl dX9_besideOf_1 ?_
    refine va_get (D := D) (ci := 0) (v := .ref (ca 1)) (C := RX0) (T := TX0) (N := 8) hx hb hts kb_inX0 hown hK.1 hP 3 rfl rfl 7 (by decide) (hK.2.w ww_1_109 rfl _) (fun _ h9 => h9) rfl dX9_besideOf_4 ?_
    refine lv_iload_n hx hb dX9_besideOf_7 rfl (lv_at hl 1 rfl) ?_
    obtain ⟨h_1, hf⟩ := kb_if hf
    refine va_iald (D := D) hx hb hK.1 hP 4 0 rfl rfl h_1 dX9_besideOf_8 ?_
    refine lv_istore_n (lv' := [(2, .int ((cb_beside cb) (x0).toNatClampNeg)), (0, .ref (a 0)), (1, .int x0)]) hx hb dX9_besideOf_9 rfl hl (by decide) rfl (fun ls hl => ?_)
    refine lv_iload_n hx hb dX9_besideOf_10 rfl (lv_at hl 0 rfl) ?_
    refine lv_bipush (v := (-2 : Int32)) hx hb dX9_besideOf_11 (by decide) ?_
    refine lv_icmp_ne (tgt := 21) hx hb dX9_besideOf_13 (by decide) (fun c_2 => ?_) (fun c_2 => ?_)
    · rw [if_neg c_2] at hf
      refine lv_aload_n hx hb dX9_besideOf_21 rfl (lv_at hl 1 rfl) ?_
      refine va_get (D := D) (ci := 9) (v := .ref (a 1)) (C := RX9) (T := TX9) (N := 3) hx hb hts kb_inX9 hown hK.1 hP 0 rfl rfl 0 (by decide) (hK.2.w ww_2_51 rfl _) (fun _ h9 => h9) rfl dX9_besideOf_22 ?_
      refine lv_iload_n hx hb dX9_besideOf_25 rfl (lv_at hl 0 rfl) ?_
      obtain ⟨h_3, hf⟩ := kb_if hf
      refine va_iald (D := D) hx hb hK.1 hP 1 0 rfl rfl h_3 dX9_besideOf_26 ?_
      exact RET _ H _ ls 27 hf hP hD hS dX9_besideOf_27
    · rw [if_pos c_2] at hf
      refine lv_bipush (v := (-2 : Int32)) hx hb dX9_besideOf_16 (by decide) ?_
      refine lv_goto (tgt := 27) hx hb dX9_besideOf_18 (by decide) ?_
      exact RET _ H _ ls 27 hf hP hD hS dX9_besideOf_27
  exact E0 _ _ hP hD hS

noncomputable def f_X9_nearest_b83 (sc : SceneT) (cb : CabT) (k5 : Int32 → Int32 → Int32 → Option (Int32)) (v1 : Int32) (v3 : Int32) (s0 : Int32) : Option (Int32) := k5 v1 s0 (v3 + (1 : Int32))
noncomputable def f_X9_nearest_b68 (sc : SceneT) (cb : CabT) (k5 : Int32 → Int32 → Int32 → Option (Int32)) (v1 : Int32) (v2 : Int32) (v3 : Int32) (s0 : Int32) (s1 : Int32) : Option (Int32) := (if v2 ≤ (s1 + s0) then f_X9_nearest_b83 sc cb k5 v1 v3 v2 else f_X9_nearest_b83 sc cb k5 v1 v3 (s1 + s0))
noncomputable def f_X9_nearest_b54 (sc : SceneT) (cb : CabT) (k5 : Int32 → Int32 → Int32 → Option (Int32)) (v1 : Int32) (v2 : Int32) (v3 : Int32) (v5 : Int32) (s0 : Int32) (s1 : Int32) : Option (Int32) := (if 0 ≤ v5 then f_X9_nearest_b68 sc cb k5 v1 v2 v3 v5 (s1 * s0) else f_X9_nearest_b68 sc cb k5 v1 v2 v3 (-v5) (s1 * s0))
noncomputable def f_X9_nearest_b5 (sc : SceneT) (cb : CabT) : Nat → Int32 → Int32 → Int32 → Option (Int32)
  | 0, _, _, _ => none
  | n + 1, v1, v2, v3 => (if (20 : Int32) ≤ v3 then some (v2) else if kb_in? v3 20 then (if ((sc_sitter sc) (v3).toNatClampNeg) = (-2 : Int32) then f_X9_nearest_b5 sc cb n v1 v2 (v3 + (1 : Int32)) else (if 0 ≤ ((v3 / (4 : Int32)) - (v1 / (4 : Int32))) then f_X9_nearest_b54 sc cb (f_X9_nearest_b5 sc cb n) v1 v2 v3 ((v3 - v3 / (4 : Int32) * (4 : Int32)) - (v1 - v1 / (4 : Int32) * (4 : Int32))) ((v3 / (4 : Int32)) - (v1 / (4 : Int32))) (2 : Int32) else f_X9_nearest_b54 sc cb (f_X9_nearest_b5 sc cb n) v1 v2 v3 ((v3 - v3 / (4 : Int32) * (4 : Int32)) - (v1 - v1 / (4 : Int32) * (4 : Int32))) (-((v3 / (4 : Int32)) - (v1 / (4 : Int32)))) (2 : Int32))) else none)
noncomputable def f_X9_nearest (sc : SceneT) (cb : CabT) (x0 : Int32) : Option (Int32) := f_X9_nearest_b5 sc cb 4096 x0 (99 : Int32) (0 : Int32)
set_option maxHeartbeats 4000000 in
set_option maxRecDepth 100000 in
theorem c_X9_nearest (l : Launch) (D : va_G) (dA : Nat → ClassId) (sz : Nat) (a : Nat → Nat) (ca : Nat → Nat) (sc : SceneT) (cb : CabT) (x0 : Int32) (rv : Int32) (hf : f_X9_nearest sc cb x0 = some (rv)) : kb_Mi l yX9_nearest cX9_nearest 7 (some .int) ({ frames := 0, cells := 0, slots := 0, locals := 0 } : Room) D dA [.ref (a 0), .int x0] sz (w_Scene dA a (ca 0) sc ++ (w_Cab dA ca cb)) 0 0 rv (w_Scene dA a (ca 0) sc ++ (w_Cab dA ca cb)) := by
  refine Met.ofW (cc := cX9_nearest) (maxL := 7) (ret := (some .int)) (by decide) rfl ?_
  intro p e s m args below meth c s₁ B hml hv
  obtain ⟨rfl, hsz, hP, hK, hD0, hE⟩ := hv
  have hx := B.exec
  have hb := B.bytes
  have hr := B.returns
  have hown : s.vm.findClass RX9 = some m.cls := findClass_of_methodNamed B.named
  have hlocks := B.notSynchronized
  have hts : ∀ w ∈ kb_gw, w.before ([.ref (a 0), .int x0] : List Value).toArray s = true := fun w hw => hK.2.1 w hw _
  subst hsz
  have hD := hD0.self (sz := s.heap.size)
  generalize hAe : va_A (w_Scene dA a (ca 0) sc ++ (w_Cab dA ca cb)) s.heap.size = A at hD hE ⊢
  have hA : ∀ q : Nat, s.heap.size ≤ q → A q := fun q h => by rw [← hAe]; exact Or.inr h
  have hS : va_S A s.heap s.heap [] := va_S.rf
  have hl := lv_entry ([.ref (a 0), .int x0]) (n := 7) (Nat.le_of_ble_eq_true rfl)
  rw [lg_entry_eq]
  generalize (lg_sl ([.ref (a 0), .int x0]) ++ List.replicate (7 - (lg_sl ([.ref (a 0), .int x0])).length) Slot.unset).toArray = ls at hl ⊢
  have hl : lv_has ls 7 [(0, .ref (a 0)), (1, .int x0)] := hl
  generalize hQ : MQ below (va_Qi (fun r (_ : Unit) => r = rv) (kb_B D A (w_Scene dA a (ca 0) sc ++ (w_Cab dA ca cb))) A) ([.ref (a 0), .int x0] : List Value).toArray s 0 0 A = Q
  show W p l e ({ frames := 0, cells := 0, slots := 0, locals := 0 } : Room) s m ([.ref (a 0), .int x0] : List Value).toArray below meth c s.heap [] 0 0 Q (F0 m 0 ls [])
  have RET : ∀ (r2 : Int32) (H : Heap) (locs : List Loc) (ls : Array Slot) (pc : Nat), some (r2) = some (rv) → va_P D vwCl (w_Scene dA a (ca 0) sc ++ (w_Cab dA ca cb)) H → va_D A (w_Scene dA a (ca 0) sc ++ (w_Cab dA ca cb)) → va_S A s.heap H locs → decode cX9_nearest pc = .ok (.ireturn, 1) → W p l e ({ frames := 0, cells := 0, slots := 0, locals := 0 } : Room) s m ([.ref (a 0), .int x0] : List Value).toArray below meth c H locs 0 0 Q (F0 m pc ls [.int r2]) := by
    intro r2 H locs ls pc hq hP hD hS hd
    cases hq
    rw [← hQ]
    exact W.iret hx hb hr (fun t ht hW => ⟨⟨_, (), rfl, rfl, by rw [ht]; exact hP, hD⟩, hS.F ht⟩) hS.2.2 hd
  have B_83 : ∀ (k5 : Int32 → Int32 → Int32 → Option (Int32)) (hk5 : ∀ (v1 : Int32) (v2 : Int32) (v3 : Int32) (H : Heap) (locs : List Loc) (ls : Array Slot), k5 v1 v2 v3 = some (rv) → va_P D vwCl (w_Scene dA a (ca 0) sc ++ (w_Cab dA ca cb)) H → va_D A (w_Scene dA a (ca 0) sc ++ (w_Cab dA ca cb)) → va_S A s.heap H locs → lv_has ls 7 [(0, .ref (a 0)), (1, .int v1), (2, .int v2), (3, .int v3)] → W p l e ({ frames := 0, cells := 0, slots := 0, locals := 0 } : Room) s m ([.ref (a 0), .int x0] : List Value).toArray below meth c H locs 0 0 Q (F0 m 5 ls [])) (v1 : Int32) (v3 : Int32) (s0 : Int32) (H : Heap) (locs : List Loc) (ls : Array Slot), f_X9_nearest_b83 sc cb k5 v1 v3 s0 = some (rv) → va_P D vwCl (w_Scene dA a (ca 0) sc ++ (w_Cab dA ca cb)) H → va_D A (w_Scene dA a (ca 0) sc ++ (w_Cab dA ca cb)) → va_S A s.heap H locs → lv_has ls 7 [(0, .ref (a 0)), (1, .int v1), (3, .int v3)] → W p l e ({ frames := 0, cells := 0, slots := 0, locals := 0 } : Room) s m ([.ref (a 0), .int x0] : List Value).toArray below meth c H locs 0 0 Q (F0 m 83 ls [.int s0]) := by
    intro k5 hk5 v1 v3 s0 H locs ls hf hP hD hS hl
    rw [f_X9_nearest_b83] at hf
    refine lv_istore_n (lv' := [(2, .int s0), (0, .ref (a 0)), (1, .int v1), (3, .int v3)]) hx hb dX9_nearest_83 rfl hl (by decide) rfl (fun ls hl => ?_)
    refine lv_iinc (v := (v3 + (1 : Int32))) (lv' := [(3, .int (v3 + (1 : Int32))), (2, .int s0), (0, .ref (a 0)), (1, .int v1)]) hx hb dX9_nearest_84 hl (k := 3) rfl (by rfl) (by decide) rfl (fun ls hl => ?_)
    refine lv_goto (tgt := 5) hx hb dX9_nearest_87 (by decide) ?_
    exact hk5 _ _ _ _ _ _ hf hP hD hS (lv_sub hl [2, 3, 1, 0] rfl)
  have B_68 : ∀ (k5 : Int32 → Int32 → Int32 → Option (Int32)) (hk5 : ∀ (v1 : Int32) (v2 : Int32) (v3 : Int32) (H : Heap) (locs : List Loc) (ls : Array Slot), k5 v1 v2 v3 = some (rv) → va_P D vwCl (w_Scene dA a (ca 0) sc ++ (w_Cab dA ca cb)) H → va_D A (w_Scene dA a (ca 0) sc ++ (w_Cab dA ca cb)) → va_S A s.heap H locs → lv_has ls 7 [(0, .ref (a 0)), (1, .int v1), (2, .int v2), (3, .int v3)] → W p l e ({ frames := 0, cells := 0, slots := 0, locals := 0 } : Room) s m ([.ref (a 0), .int x0] : List Value).toArray below meth c H locs 0 0 Q (F0 m 5 ls [])) (v1 : Int32) (v2 : Int32) (v3 : Int32) (s0 : Int32) (s1 : Int32) (H : Heap) (locs : List Loc) (ls : Array Slot), f_X9_nearest_b68 sc cb k5 v1 v2 v3 s0 s1 = some (rv) → va_P D vwCl (w_Scene dA a (ca 0) sc ++ (w_Cab dA ca cb)) H → va_D A (w_Scene dA a (ca 0) sc ++ (w_Cab dA ca cb)) → va_S A s.heap H locs → lv_has ls 7 [(0, .ref (a 0)), (1, .int v1), (2, .int v2), (3, .int v3)] → W p l e ({ frames := 0, cells := 0, slots := 0, locals := 0 } : Room) s m ([.ref (a 0), .int x0] : List Value).toArray below meth c H locs 0 0 Q (F0 m 68 ls [.int s0, .int s1]) := by
    intro k5 hk5 v1 v2 v3 s0 s1 H locs ls hf hP hD hS hl
    rw [f_X9_nearest_b68] at hf
    refine lv_iadd hx hb dX9_nearest_68 ?_
    refine lv_istore (lv' := [(6, .int (s1 + s0)), (0, .ref (a 0)), (1, .int v1), (2, .int v2), (3, .int v3)]) hx hb dX9_nearest_69 hl (by decide) rfl (fun ls hl => ?_)
    refine lv_iload hx hb dX9_nearest_71 (lv_at hl 0 rfl) ?_
    refine lv_iload_n hx hb dX9_nearest_73 rfl (lv_at hl 3 rfl) ?_
    refine lv_icmp_ge (tgt := 82) hx hb dX9_nearest_74 (by decide) (fun c_6 => ?_) (fun c_6 => ?_)
    · rw [if_pos c_6] at hf
      refine lv_iload_n hx hb dX9_nearest_82 rfl (lv_at hl 3 rfl) ?_
      exact B_83 k5 hk5 _ _ _ _ _ _ hf hP hD hS (lv_sub hl [1, 2, 4] rfl)
    · rw [if_neg c_6] at hf
      refine lv_iload hx hb dX9_nearest_77 (lv_at hl 0 rfl) ?_
      refine lv_goto (tgt := 83) hx hb dX9_nearest_79 (by decide) ?_
      exact B_83 k5 hk5 _ _ _ _ _ _ hf hP hD hS (lv_sub hl [1, 2, 4] rfl)
  have B_54 : ∀ (k5 : Int32 → Int32 → Int32 → Option (Int32)) (hk5 : ∀ (v1 : Int32) (v2 : Int32) (v3 : Int32) (H : Heap) (locs : List Loc) (ls : Array Slot), k5 v1 v2 v3 = some (rv) → va_P D vwCl (w_Scene dA a (ca 0) sc ++ (w_Cab dA ca cb)) H → va_D A (w_Scene dA a (ca 0) sc ++ (w_Cab dA ca cb)) → va_S A s.heap H locs → lv_has ls 7 [(0, .ref (a 0)), (1, .int v1), (2, .int v2), (3, .int v3)] → W p l e ({ frames := 0, cells := 0, slots := 0, locals := 0 } : Room) s m ([.ref (a 0), .int x0] : List Value).toArray below meth c H locs 0 0 Q (F0 m 5 ls [])) (v1 : Int32) (v2 : Int32) (v3 : Int32) (v5 : Int32) (s0 : Int32) (s1 : Int32) (H : Heap) (locs : List Loc) (ls : Array Slot), f_X9_nearest_b54 sc cb k5 v1 v2 v3 v5 s0 s1 = some (rv) → va_P D vwCl (w_Scene dA a (ca 0) sc ++ (w_Cab dA ca cb)) H → va_D A (w_Scene dA a (ca 0) sc ++ (w_Cab dA ca cb)) → va_S A s.heap H locs → lv_has ls 7 [(0, .ref (a 0)), (1, .int v1), (2, .int v2), (3, .int v3), (5, .int v5)] → W p l e ({ frames := 0, cells := 0, slots := 0, locals := 0 } : Room) s m ([.ref (a 0), .int x0] : List Value).toArray below meth c H locs 0 0 Q (F0 m 54 ls [.int s0, .int s1]) := by
    intro k5 hk5 v1 v2 v3 v5 s0 s1 H locs ls hf hP hD hS hl
    rw [f_X9_nearest_b54] at hf
    refine lv_imul hx hb dX9_nearest_54 ?_
    refine lv_iload hx hb dX9_nearest_55 (lv_at hl 4 rfl) ?_
    refine lv_if_ge (tgt := 66) hx hb dX9_nearest_57 (by decide) (fun c_5 => ?_) (fun c_5 => ?_)
    · rw [if_pos c_5] at hf
      refine lv_iload hx hb dX9_nearest_66 (lv_at hl 4 rfl) ?_
      exact B_68 k5 hk5 _ _ _ _ _ _ _ _ hf hP hD hS (lv_sub hl [0, 1, 2, 3] rfl)
    · rw [if_neg c_5] at hf
      refine lv_iload hx hb dX9_nearest_60 (lv_at hl 4 rfl) ?_
      refine lv_ineg hx hb dX9_nearest_62 ?_
      refine lv_goto (tgt := 68) hx hb dX9_nearest_63 (by decide) ?_
      exact B_68 k5 hk5 _ _ _ _ _ _ _ _ hf hP hD hS (lv_sub hl [0, 1, 2, 3] rfl)
  have B_5 : ∀ (n : Nat) (v1 : Int32) (v2 : Int32) (v3 : Int32) (H : Heap) (locs : List Loc) (ls : Array Slot), f_X9_nearest_b5 sc cb n v1 v2 v3 = some (rv) → va_P D vwCl (w_Scene dA a (ca 0) sc ++ (w_Cab dA ca cb)) H → va_D A (w_Scene dA a (ca 0) sc ++ (w_Cab dA ca cb)) → va_S A s.heap H locs → lv_has ls 7 [(0, .ref (a 0)), (1, .int v1), (2, .int v2), (3, .int v3)] → W p l e ({ frames := 0, cells := 0, slots := 0, locals := 0 } : Room) s m ([.ref (a 0), .int x0] : List Value).toArray below meth c H locs 0 0 Q (F0 m 5 ls []) := by
    intro n
    induction n with
    | zero =>
      intro v1 v2 v3 H locs ls hf
      exact absurd hf (by simp [f_X9_nearest_b5])
    | succ n ih =>
      intro v1 v2 v3 H locs ls hf hP hD hS hl
      rw [f_X9_nearest_b5] at hf
      refine lv_iload_n hx hb dX9_nearest_5 rfl (lv_at hl 3 rfl) ?_
      refine lv_bipush (v := (20 : Int32)) hx hb dX9_nearest_6 (by decide) ?_
      refine lv_icmp_ge (tgt := 90) hx hb dX9_nearest_8 (by decide) (fun c_1 => ?_) (fun c_1 => ?_)
      · rw [if_pos c_1] at hf
        refine lv_iload_n hx hb dX9_nearest_90 rfl (lv_at hl 2 rfl) ?_
        exact RET _ H _ ls 91 hf hP hD hS dX9_nearest_91
      · rw [if_neg c_1] at hf
        refine lv_aload_n hx hb dX9_nearest_11 rfl (lv_at hl 0 rfl) ?_
        refine va_get (D := D) (ci := 9) (v := .ref (a 1)) (C := RX9) (T := TX9) (N := 3) hx hb hts kb_inX9 hown hK.1 hP 0 rfl rfl 0 (by decide) (hK.2.w ww_2_51 rfl _) (fun _ h9 => h9) rfl dX9_nearest_12 ?_
        refine lv_iload_n hx hb dX9_nearest_15 rfl (lv_at hl 3 rfl) ?_
        obtain ⟨h_2, hf⟩ := kb_if hf
        refine va_iald (D := D) hx hb hK.1 hP 1 0 rfl rfl h_2 dX9_nearest_16 ?_
        refine lv_bipush (v := (-2 : Int32)) hx hb dX9_nearest_17 (by decide) ?_
        refine lv_icmp_eq (tgt := 84) hx hb dX9_nearest_19 (by decide) (fun c_3 => ?_) (fun c_3 => ?_)
        · rw [if_pos c_3] at hf
          refine lv_iinc (v := (v3 + (1 : Int32))) (lv' := [(3, .int (v3 + (1 : Int32))), (0, .ref (a 0)), (1, .int v1), (2, .int v2)]) hx hb dX9_nearest_84 hl (k := 3) rfl (by rfl) (by decide) rfl (fun ls hl => ?_)
          refine lv_goto (tgt := 5) hx hb dX9_nearest_87 (by decide) ?_
          exact ih _ _ _ _ _ _ hf hP hD hS (lv_sub hl [1, 2, 3, 0] rfl)
        · rw [if_neg c_3] at hf
          refine lv_iload_n hx hb dX9_nearest_22 rfl (lv_at hl 3 rfl) ?_
          refine lv_iconst (v := (4 : Int32)) hx hb dX9_nearest_23 (by decide) ?_
          refine lv_idiv hx hb dX9_nearest_24 (by decide) ?_
          refine lv_iload_n hx hb dX9_nearest_25 rfl (lv_at hl 1 rfl) ?_
          refine lv_iconst (v := (4 : Int32)) hx hb dX9_nearest_26 (by decide) ?_
          refine lv_idiv hx hb dX9_nearest_27 (by decide) ?_
          refine lv_isub hx hb dX9_nearest_28 ?_
          refine lv_istore (lv' := [(4, .int ((v3 / (4 : Int32)) - (v1 / (4 : Int32)))), (0, .ref (a 0)), (1, .int v1), (2, .int v2), (3, .int v3)]) hx hb dX9_nearest_29 hl (by decide) rfl (fun ls hl => ?_)
          refine lv_iload_n hx hb dX9_nearest_31 rfl (lv_at hl 4 rfl) ?_
          refine lv_iconst (v := (4 : Int32)) hx hb dX9_nearest_32 (by decide) ?_
          refine lv_irem hx hb dX9_nearest_33 (by decide) ?_
          refine lv_iload_n hx hb dX9_nearest_34 rfl (lv_at hl 2 rfl) ?_
          refine lv_iconst (v := (4 : Int32)) hx hb dX9_nearest_35 (by decide) ?_
          refine lv_irem hx hb dX9_nearest_36 (by decide) ?_
          refine lv_isub hx hb dX9_nearest_37 ?_
          refine lv_istore (lv' := [(5, .int ((v3 - v3 / (4 : Int32) * (4 : Int32)) - (v1 - v1 / (4 : Int32) * (4 : Int32)))), (4, .int ((v3 / (4 : Int32)) - (v1 / (4 : Int32)))), (0, .ref (a 0)), (1, .int v1), (2, .int v2), (3, .int v3)]) hx hb dX9_nearest_38 hl (by decide) rfl (fun ls hl => ?_)
          refine lv_iconst (v := (2 : Int32)) hx hb dX9_nearest_40 (by decide) ?_
          refine lv_iload hx hb dX9_nearest_41 (lv_at hl 1 rfl) ?_
          refine lv_if_ge (tgt := 52) hx hb dX9_nearest_43 (by decide) (fun c_4 => ?_) (fun c_4 => ?_)
          · rw [if_pos c_4] at hf
            refine lv_iload hx hb dX9_nearest_52 (lv_at hl 1 rfl) ?_
            exact B_54 (f_X9_nearest_b5 sc cb n) ih _ _ _ _ _ _ _ _ _ hf hP hD hS (lv_sub hl [2, 3, 4, 5, 0] rfl)
          · rw [if_neg c_4] at hf
            refine lv_iload hx hb dX9_nearest_46 (lv_at hl 1 rfl) ?_
            refine lv_ineg hx hb dX9_nearest_48 ?_
            refine lv_goto (tgt := 54) hx hb dX9_nearest_49 (by decide) ?_
            exact B_54 (f_X9_nearest_b5 sc cb n) ih _ _ _ _ _ _ _ _ _ hf hP hD hS (lv_sub hl [2, 3, 4, 5, 0] rfl)
  have E0 : ∀ (H : Heap) (locs : List Loc), va_P D vwCl (w_Scene dA a (ca 0) sc ++ (w_Cab dA ca cb)) H → va_D A (w_Scene dA a (ca 0) sc ++ (w_Cab dA ca cb)) → va_S A s.heap H locs → W p l e ({ frames := 0, cells := 0, slots := 0, locals := 0 } : Room) s m ([.ref (a 0), .int x0] : List Value).toArray below meth c H locs 0 0 Q (F0 m 0 ls []) := by
    intro H locs hP hD hS
    rw [f_X9_nearest] at hf
    refine lv_bipush (v := (99 : Int32)) hx hb dX9_nearest_0 (by decide) ?_
    refine lv_istore_n (lv' := [(2, .int (99 : Int32)), (0, .ref (a 0)), (1, .int x0)]) hx hb dX9_nearest_2 rfl hl (by decide) rfl (fun ls hl => ?_)
    refine lv_iconst (v := (0 : Int32)) hx hb dX9_nearest_3 (by decide) ?_
    refine lv_istore_n (lv' := [(3, .int (0 : Int32)), (2, .int (99 : Int32)), (0, .ref (a 0)), (1, .int x0)]) hx hb dX9_nearest_4 rfl hl (by decide) rfl (fun ls hl => ?_)
    exact B_5 4096 _ _ _ _ _ _ hf hP hD hS (lv_sub hl [2, 3, 1, 0] rfl)
  exact E0 _ _ hP hD hS

noncomputable def f_X9_worth_b184 (sc : SceneT) (cb : CabT)  : Option (Int32) := some ((0 : Int32))
noncomputable def f_X9_worth (sc : SceneT) (cb : CabT) (x0 : Int32) (x1 : Int32) (x2 : Int32) (x3 : Int32) : Option (Int32) := (f_X9_besideOf sc cb x1).bind fun r1 => (if x0 = (0 : Int32) then (if r1 = (-2 : Int32) then some ((1 : Int32)) else some ((0 : Int32))) else (if x0 = (1 : Int32) then (f_X9_nearest sc cb x1).bind fun r5 => some (r5) else (if x0 = (2 : Int32) then (f_X0_isWindow (x1 - x1 / (4 : Int32) * (4 : Int32))).bind fun r7 => (if r7 = 0 then some ((0 : Int32)) else some ((1 : Int32))) else (if x0 = (3 : Int32) then (f_X0_isAisle (cb_form cb) (x1 - x1 / (4 : Int32) * (4 : Int32))).bind fun r10 => (if r10 = 0 then some ((0 : Int32)) else some ((1 : Int32))) else (if x0 = (4 : Int32) then some ((-(x1 / (4 : Int32)))) else (if x0 = (5 : Int32) then some ((x1 / (4 : Int32))) else (if x0 = (6 : Int32) then (f_X0_isSunny cb x1).bind fun r15 => (if r15 = 0 then some ((1 : Int32)) else some ((0 : Int32))) else (if x0 = (7 : Int32) then (if r1 = (-2 : Int32) then some ((-5 : Int32)) else if kb_in? r1 9 then (f_X10_gap x2 ((sc_looks sc) (r1).toNatClampNeg)).bind fun r20 => some ((-r20)) else none) else (if r1 = (-2 : Int32) then f_X9_worth_b184 sc cb  else (f_X10_holdsBit x3 r1).bind fun r22 => (if r22 = 0 then f_X9_worth_b184 sc cb  else some ((1 : Int32))))))))))))
set_option maxHeartbeats 4000000 in
set_option maxRecDepth 100000 in
theorem c_X9_worth (l : Launch) (D : va_G) (dA : Nat → ClassId) (sz : Nat) (a : Nat → Nat) (ca : Nat → Nat) (sc : SceneT) (cb : CabT) (x0 : Int32) (x1 : Int32) (x2 : Int32) (x3 : Int32) (rv : Int32) (hf : f_X9_worth sc cb x0 x1 x2 x3 = some (rv)) : kb_Mi l yX9_worth cX9_worth 6 (some .int) ({ frames := 1, cells := 0, slots := 0, locals := 26 } : Room) D dA [.ref (a 0), .int x0, .int x1, .int x2, .int x3] sz (w_Scene dA a (ca 0) sc ++ (w_Cab dA ca cb)) 0 0 rv (w_Scene dA a (ca 0) sc ++ (w_Cab dA ca cb)) := by
  refine Met.ofW (cc := cX9_worth) (maxL := 6) (ret := (some .int)) (by decide) rfl ?_
  intro p e s m args below meth c s₁ B hml hv
  obtain ⟨rfl, hsz, hP, hK, hD0, hE⟩ := hv
  have hx := B.exec
  have hb := B.bytes
  have hr := B.returns
  have hown : s.vm.findClass RX9 = some m.cls := findClass_of_methodNamed B.named
  have hlocks := B.notSynchronized
  have hts : ∀ w ∈ kb_gw, w.before ([.ref (a 0), .int x0, .int x1, .int x2, .int x3] : List Value).toArray s = true := fun w hw => hK.2.1 w hw _
  subst hsz
  have hD := hD0.self (sz := s.heap.size)
  generalize hAe : va_A (w_Scene dA a (ca 0) sc ++ (w_Cab dA ca cb)) s.heap.size = A at hD hE ⊢
  have hA : ∀ q : Nat, s.heap.size ≤ q → A q := fun q h => by rw [← hAe]; exact Or.inr h
  have hS : va_S A s.heap s.heap [] := va_S.rf
  have hl := lv_entry ([.ref (a 0), .int x0, .int x1, .int x2, .int x3]) (n := 6) (Nat.le_of_ble_eq_true rfl)
  rw [lg_entry_eq]
  generalize (lg_sl ([.ref (a 0), .int x0, .int x1, .int x2, .int x3]) ++ List.replicate (6 - (lg_sl ([.ref (a 0), .int x0, .int x1, .int x2, .int x3])).length) Slot.unset).toArray = ls at hl ⊢
  have hl : lv_has ls 6 [(0, .ref (a 0)), (1, .int x0), (2, .int x1), (3, .int x2), (4, .int x3)] := hl
  generalize hQ : MQ below (va_Qi (fun r (_ : Unit) => r = rv) (kb_B D A (w_Scene dA a (ca 0) sc ++ (w_Cab dA ca cb))) A) ([.ref (a 0), .int x0, .int x1, .int x2, .int x3] : List Value).toArray s 0 0 A = Q
  show W p l e ({ frames := 1, cells := 0, slots := 0, locals := 26 } : Room) s m ([.ref (a 0), .int x0, .int x1, .int x2, .int x3] : List Value).toArray below meth c s.heap [] 0 0 Q (F0 m 0 ls [])
  have RET : ∀ (r2 : Int32) (H : Heap) (locs : List Loc) (ls : Array Slot) (pc : Nat), some (r2) = some (rv) → va_P D vwCl (w_Scene dA a (ca 0) sc ++ (w_Cab dA ca cb)) H → va_D A (w_Scene dA a (ca 0) sc ++ (w_Cab dA ca cb)) → va_S A s.heap H locs → decode cX9_worth pc = .ok (.ireturn, 1) → W p l e ({ frames := 1, cells := 0, slots := 0, locals := 26 } : Room) s m ([.ref (a 0), .int x0, .int x1, .int x2, .int x3] : List Value).toArray below meth c H locs 0 0 Q (F0 m pc ls [.int r2]) := by
    intro r2 H locs ls pc hq hP hD hS hd
    cases hq
    rw [← hQ]
    exact W.iret hx hb hr (fun t ht hW => ⟨⟨_, (), rfl, rfl, by rw [ht]; exact hP, hD⟩, hS.F ht⟩) hS.2.2 hd
  have B_184 : ∀  (H : Heap) (locs : List Loc) (ls : Array Slot), f_X9_worth_b184 sc cb  = some (rv) → va_P D vwCl (w_Scene dA a (ca 0) sc ++ (w_Cab dA ca cb)) H → va_D A (w_Scene dA a (ca 0) sc ++ (w_Cab dA ca cb)) → va_S A s.heap H locs → lv_has ls 6 [] → W p l e ({ frames := 1, cells := 0, slots := 0, locals := 26 } : Room) s m ([.ref (a 0), .int x0, .int x1, .int x2, .int x3] : List Value).toArray below meth c H locs 0 0 Q (F0 m 184 ls []) := by
    intro  H locs ls hf hP hD hS hl
    rw [f_X9_worth_b184] at hf
    refine lv_iconst (v := (0 : Int32)) hx hb dX9_worth_184 (by decide) ?_
    exact RET _ H _ ls 185 hf hP hD hS dX9_worth_185
  have E0 : ∀ (H : Heap) (locs : List Loc), va_P D vwCl (w_Scene dA a (ca 0) sc ++ (w_Cab dA ca cb)) H → va_D A (w_Scene dA a (ca 0) sc ++ (w_Cab dA ca cb)) → va_S A s.heap H locs → W p l e ({ frames := 1, cells := 0, slots := 0, locals := 26 } : Room) s m ([.ref (a 0), .int x0, .int x1, .int x2, .int x3] : List Value).toArray below meth c H locs 0 0 Q (F0 m 0 ls []) := by
    intro H locs hP hD hS
    rw [f_X9_worth] at hf
    refine lv_aload_n hx hb dX9_worth_0 rfl (lv_at hl 0 rfl) ?_
    refine lv_iload_n hx hb dX9_worth_1 rfl (lv_at hl 2 rfl) ?_
    obtain ⟨r1, hc1, hf⟩ := kb_bind hf
    refine kb_ci (ws2 := (w_Scene dA a (ca 0) sc ++ (w_Cab dA ca cb))) (kb_rV (n := 1) (As := [.int x1]) (rest := []) hx hb hml hown hK (c_X9_besideOf l D dA H.size a ca sc cb x1 r1 hc1) ⟨ww_3_212, ww_4_36, ww_3_210, ww_3_211, ww_1_9, rfl, by decide, by decide⟩ rfl rfl (by decide +kernel) ⟨Nat.le_of_ble_eq_true rfl, Nat.le_of_ble_eq_true rfl⟩ hP hD hS hA hE [0, 1, 2, 3, 4] rfl (by decide) 0 rfl rfl rfl hl.1 rfl (Nat.le_of_ble_eq_true rfl) dX9_worth_2 ⟨Nat.le_of_ble_eq_true rfl, Nat.le_of_ble_eq_true rfl⟩) hP hD hS hA [0, 1, 2, 3, 4] [] [0, 1, 2, 3, 4] rfl rfl (by decide) (by decide) rfl (by decide) (fun H locs hP hD hS => ?_)
    refine lv_istore (lv' := [(5, .int r1), (0, .ref (a 0)), (1, .int x0), (2, .int x1), (3, .int x2), (4, .int x3)]) hx hb dX9_worth_5 hl (by decide) rfl (fun ls hl => ?_)
    refine lv_iload_n hx hb dX9_worth_7 rfl (lv_at hl 2 rfl) ?_
    by_cases c_2 : x0 = (0 : Int32)
    · rw [if_pos c_2] at hf
      refine lv_tableIn (tgt := 56) hx hb dX9_worth_8 (by rw [c_2]; decide) (by rw [c_2]; decide) (by rw [c_2]; rfl) (by decide) ?_
      refine lv_iload hx hb dX9_worth_56 (lv_at hl 0 rfl) ?_
      refine lv_bipush (v := (-2 : Int32)) hx hb dX9_worth_58 (by decide) ?_
      refine lv_icmp_ne (tgt := 67) hx hb dX9_worth_60 (by decide) (fun c_3 => ?_) (fun c_3 => ?_)
      · rw [if_neg c_3] at hf
        refine lv_iconst (v := (0 : Int32)) hx hb dX9_worth_67 (by decide) ?_
        exact RET _ H _ ls 68 hf hP hD hS dX9_worth_68
      · rw [if_pos c_3] at hf
        refine lv_iconst (v := (1 : Int32)) hx hb dX9_worth_63 (by decide) ?_
        refine lv_goto (tgt := 68) hx hb dX9_worth_64 (by decide) ?_
        exact RET _ H _ ls 68 hf hP hD hS dX9_worth_68
    · rw [if_neg c_2] at hf
      by_cases c_4 : x0 = (1 : Int32)
      · rw [if_pos c_4] at hf
        refine lv_tableIn (tgt := 69) hx hb dX9_worth_8 (by rw [c_4]; decide) (by rw [c_4]; decide) (by rw [c_4]; rfl) (by decide) ?_
        refine lv_aload_n hx hb dX9_worth_69 rfl (lv_at hl 1 rfl) ?_
        refine lv_iload_n hx hb dX9_worth_70 rfl (lv_at hl 3 rfl) ?_
        obtain ⟨r5, hc5, hf⟩ := kb_bind hf
        refine kb_ci (ws2 := (w_Scene dA a (ca 0) sc ++ (w_Cab dA ca cb))) (kb_rV (n := 1) (As := [.int x1]) (rest := []) hx hb hml hown hK (c_X9_nearest l D dA H.size a ca sc cb x1 r5 hc5) ⟨ww_4_40, ww_4_37, ww_4_39, ws_32, ww_1_9, rfl, by decide, by decide⟩ rfl rfl (by decide +kernel) ⟨Nat.le_of_ble_eq_true rfl, Nat.le_of_ble_eq_true rfl⟩ hP hD hS hA hE [0, 1, 2, 3, 4] rfl (by decide) 0 rfl rfl rfl hl.1 rfl (Nat.le_of_ble_eq_true rfl) dX9_worth_71 ⟨Nat.le_of_ble_eq_true rfl, Nat.le_of_ble_eq_true rfl⟩) hP hD hS hA [0, 1, 2, 3, 4] [] [0, 1, 2, 3, 4] rfl rfl (by decide) (by decide) rfl (by decide) (fun H locs hP hD hS => ?_)
        exact RET _ H _ ls 74 hf hP hD hS dX9_worth_74
      · rw [if_neg c_4] at hf
        by_cases c_6 : x0 = (2 : Int32)
        · rw [if_pos c_6] at hf
          refine lv_tableIn (tgt := 75) hx hb dX9_worth_8 (by rw [c_6]; decide) (by rw [c_6]; decide) (by rw [c_6]; rfl) (by decide) ?_
          refine lv_iload_n hx hb dX9_worth_75 rfl (lv_at hl 3 rfl) ?_
          refine lv_iconst (v := (4 : Int32)) hx hb dX9_worth_76 (by decide) ?_
          refine lv_irem hx hb dX9_worth_77 (by decide) ?_
          obtain ⟨r7, hc7, hf⟩ := kb_bind hf
          refine kb_ci (ws2 := (w_Scene dA a (ca 0) sc ++ (w_Cab dA ca cb))) (kb_rS (n := 1) (As := [.int (x1 - x1 / (4 : Int32) * (4 : Int32))]) (rest := []) hx hb hml hown hK (c_X0_isWindow l D dA H.size (x1 - x1 / (4 : Int32) * (4 : Int32)) r7 hc7) ⟨ww_3_226, ww_4_41, ww_3_225, ww_1_4, by decide, by decide⟩ rfl rfl (by decide +kernel) ⟨Nat.le_of_ble_eq_true rfl, Nat.le_of_ble_eq_true rfl⟩ hP hD hS hA hE [] rfl (by decide) rfl hl.1 rfl (Nat.le_of_ble_eq_true rfl) dX9_worth_78 ⟨Nat.le_of_ble_eq_true rfl, Nat.le_of_ble_eq_true rfl⟩) hP hD hS hA [] [0, 1, 2, 3, 4] [0, 1, 2, 3, 4] rfl rfl (by decide) (by decide) rfl (by decide) (fun H locs hP hD hS => ?_)
          refine lv_if_eq (tgt := 88) hx hb dX9_worth_81 (by decide) (fun c_8 => ?_) (fun c_8 => ?_)
          · rw [if_pos c_8] at hf
            refine lv_iconst (v := (0 : Int32)) hx hb dX9_worth_88 (by decide) ?_
            exact RET _ H _ ls 89 hf hP hD hS dX9_worth_89
          · rw [if_neg c_8] at hf
            refine lv_iconst (v := (1 : Int32)) hx hb dX9_worth_84 (by decide) ?_
            refine lv_goto (tgt := 89) hx hb dX9_worth_85 (by decide) ?_
            exact RET _ H _ ls 89 hf hP hD hS dX9_worth_89
        · rw [if_neg c_6] at hf
          by_cases c_9 : x0 = (3 : Int32)
          · rw [if_pos c_9] at hf
            refine lv_tableIn (tgt := 90) hx hb dX9_worth_8 (by rw [c_9]; decide) (by rw [c_9]; decide) (by rw [c_9]; rfl) (by decide) ?_
            refine lv_aload_n hx hb dX9_worth_90 rfl (lv_at hl 1 rfl) ?_
            refine va_get (D := D) (ci := 9) (v := .ref (ca 0)) (C := RX9) (T := TX9) (N := 3) hx hb hts kb_inX9 hown hK.1 hP 0 rfl rfl 2 (by decide) (hK.2.w ww_2_58 rfl _) (fun _ h9 => h9) rfl dX9_worth_91 ?_
            refine va_get (D := D) (ci := 0) (v := .int (cb_form cb)) (C := RX0) (T := TX0) (N := 8) hx hb hts kb_inX0 hown hK.1 hP 3 rfl rfl 1 (by decide) (hK.2.w ww_1_91 rfl _) (fun _ h9 => h9) rfl dX9_worth_94 ?_
            refine lv_iload_n hx hb dX9_worth_97 rfl (lv_at hl 3 rfl) ?_
            refine lv_iconst (v := (4 : Int32)) hx hb dX9_worth_98 (by decide) ?_
            refine lv_irem hx hb dX9_worth_99 (by decide) ?_
            obtain ⟨r10, hc10, hf⟩ := kb_bind hf
            refine kb_ci (ws2 := (w_Scene dA a (ca 0) sc ++ (w_Cab dA ca cb))) (kb_rS (n := 2) (As := [.int (cb_form cb), .int (x1 - x1 / (4 : Int32) * (4 : Int32))]) (rest := []) hx hb hml hown hK (c_X0_isAisle l D dA H.size (cb_form cb) (x1 - x1 / (4 : Int32) * (4 : Int32)) r10 hc10) ⟨ww_3_229, ww_4_42, ww_3_228, ww_1_4, by decide, by decide⟩ rfl rfl (by decide +kernel) ⟨Nat.le_of_ble_eq_true rfl, Nat.le_of_ble_eq_true rfl⟩ hP hD hS hA hE [] rfl (by decide) rfl hl.1 rfl (Nat.le_of_ble_eq_true rfl) dX9_worth_100 ⟨Nat.le_of_ble_eq_true rfl, Nat.le_of_ble_eq_true rfl⟩) hP hD hS hA [] [0, 1, 2, 3, 4] [0, 1, 2, 3, 4] rfl rfl (by decide) (by decide) rfl (by decide) (fun H locs hP hD hS => ?_)
            refine lv_if_eq (tgt := 110) hx hb dX9_worth_103 (by decide) (fun c_11 => ?_) (fun c_11 => ?_)
            · rw [if_pos c_11] at hf
              refine lv_iconst (v := (0 : Int32)) hx hb dX9_worth_110 (by decide) ?_
              exact RET _ H _ ls 111 hf hP hD hS dX9_worth_111
            · rw [if_neg c_11] at hf
              refine lv_iconst (v := (1 : Int32)) hx hb dX9_worth_106 (by decide) ?_
              refine lv_goto (tgt := 111) hx hb dX9_worth_107 (by decide) ?_
              exact RET _ H _ ls 111 hf hP hD hS dX9_worth_111
          · rw [if_neg c_9] at hf
            by_cases c_12 : x0 = (4 : Int32)
            · rw [if_pos c_12] at hf
              refine lv_tableIn (tgt := 112) hx hb dX9_worth_8 (by rw [c_12]; decide) (by rw [c_12]; decide) (by rw [c_12]; rfl) (by decide) ?_
              refine lv_iload_n hx hb dX9_worth_112 rfl (lv_at hl 3 rfl) ?_
              refine lv_iconst (v := (4 : Int32)) hx hb dX9_worth_113 (by decide) ?_
              refine lv_idiv hx hb dX9_worth_114 (by decide) ?_
              refine lv_ineg hx hb dX9_worth_115 ?_
              exact RET _ H _ ls 116 hf hP hD hS dX9_worth_116
            · rw [if_neg c_12] at hf
              by_cases c_13 : x0 = (5 : Int32)
              · rw [if_pos c_13] at hf
                refine lv_tableIn (tgt := 117) hx hb dX9_worth_8 (by rw [c_13]; decide) (by rw [c_13]; decide) (by rw [c_13]; rfl) (by decide) ?_
                refine lv_iload_n hx hb dX9_worth_117 rfl (lv_at hl 3 rfl) ?_
                refine lv_iconst (v := (4 : Int32)) hx hb dX9_worth_118 (by decide) ?_
                refine lv_idiv hx hb dX9_worth_119 (by decide) ?_
                exact RET _ H _ ls 120 hf hP hD hS dX9_worth_120
              · rw [if_neg c_13] at hf
                by_cases c_14 : x0 = (6 : Int32)
                · rw [if_pos c_14] at hf
                  refine lv_tableIn (tgt := 121) hx hb dX9_worth_8 (by rw [c_14]; decide) (by rw [c_14]; decide) (by rw [c_14]; rfl) (by decide) ?_
                  refine lv_aload_n hx hb dX9_worth_121 rfl (lv_at hl 1 rfl) ?_
                  refine va_get (D := D) (ci := 9) (v := .ref (ca 0)) (C := RX9) (T := TX9) (N := 3) hx hb hts kb_inX9 hown hK.1 hP 0 rfl rfl 2 (by decide) (hK.2.w ww_2_58 rfl _) (fun _ h9 => h9) rfl dX9_worth_122 ?_
                  refine lv_iload_n hx hb dX9_worth_125 rfl (lv_at hl 3 rfl) ?_
                  obtain ⟨r15, hc15, hf⟩ := kb_bind hf
                  refine kb_ci (ws2 := (w_Scene dA a (ca 0) sc ++ (w_Cab dA ca cb))) (kb_rV (n := 1) (As := [.int x1]) (rest := []) hx hb hml hown hK (c_X0_isSunny l D dA H.size ca cb x1 r15 hc15) ⟨ww_4_46, ww_4_43, ww_4_44, ww_4_45, ww_1_4, rfl, by decide, by decide⟩ rfl rfl (by decide +kernel) ⟨Nat.le_of_ble_eq_true rfl, Nat.le_of_ble_eq_true rfl⟩ hP hD hS hA hE [3, 4] rfl (by decide) 0 rfl rfl rfl hl.1 rfl (Nat.le_of_ble_eq_true rfl) dX9_worth_126 ⟨Nat.le_of_ble_eq_true rfl, Nat.le_of_ble_eq_true rfl⟩) hP hD hS hA [3, 4] [0, 1, 2] [0, 1, 2, 3, 4] rfl rfl (by decide) (by decide) rfl (by decide) (fun H locs hP hD hS => ?_)
                  refine lv_if_eq (tgt := 136) hx hb dX9_worth_129 (by decide) (fun c_16 => ?_) (fun c_16 => ?_)
                  · rw [if_pos c_16] at hf
                    refine lv_iconst (v := (1 : Int32)) hx hb dX9_worth_136 (by decide) ?_
                    exact RET _ H _ ls 137 hf hP hD hS dX9_worth_137
                  · rw [if_neg c_16] at hf
                    refine lv_iconst (v := (0 : Int32)) hx hb dX9_worth_132 (by decide) ?_
                    refine lv_goto (tgt := 137) hx hb dX9_worth_133 (by decide) ?_
                    exact RET _ H _ ls 137 hf hP hD hS dX9_worth_137
                · rw [if_neg c_14] at hf
                  by_cases c_17 : x0 = (7 : Int32)
                  · rw [if_pos c_17] at hf
                    refine lv_tableIn (tgt := 138) hx hb dX9_worth_8 (by rw [c_17]; decide) (by rw [c_17]; decide) (by rw [c_17]; rfl) (by decide) ?_
                    refine lv_iload hx hb dX9_worth_138 (lv_at hl 0 rfl) ?_
                    refine lv_bipush (v := (-2 : Int32)) hx hb dX9_worth_140 (by decide) ?_
                    refine lv_icmp_ne (tgt := 150) hx hb dX9_worth_142 (by decide) (fun c_18 => ?_) (fun c_18 => ?_)
                    · rw [if_neg c_18] at hf
                      refine lv_iload_n hx hb dX9_worth_150 rfl (lv_at hl 4 rfl) ?_
                      refine lv_aload_n hx hb dX9_worth_151 rfl (lv_at hl 1 rfl) ?_
                      refine va_get (D := D) (ci := 9) (v := .ref (a 2)) (C := RX9) (T := TX9) (N := 3) hx hb hts kb_inX9 hown hK.1 hP 0 rfl rfl 1 (by decide) (hK.2.w ww_2_55 rfl _) (fun _ h9 => h9) rfl dX9_worth_152 ?_
                      refine lv_iload hx hb dX9_worth_155 (lv_at hl 0 rfl) ?_
                      obtain ⟨h_19, hf⟩ := kb_if hf
                      refine va_iald (D := D) hx hb hK.1 hP 2 0 rfl rfl h_19 dX9_worth_157 ?_
                      obtain ⟨r20, hc20, hf⟩ := kb_bind hf
                      refine kb_ci (ws2 := (w_Scene dA a (ca 0) sc ++ (w_Cab dA ca cb))) (kb_rSN (n := 2) (As := [.int x2, .int ((sc_looks sc) (r1).toNatClampNeg)]) (rest := []) hx hb hml hown hK (c_X10_gap l D dA H.size x2 ((sc_looks sc) (r1).toNatClampNeg) r20 hc20) ⟨ww_3_219, ww_4_47, ww_3_218, ww_1_1, by decide, by decide⟩ rfl rfl (by decide +kernel) ⟨Nat.le_of_ble_eq_true rfl, Nat.le_of_ble_eq_true rfl⟩ hP hD hS hA hE [] rfl (by decide) rfl hl.1 rfl (Nat.le_of_ble_eq_true rfl) dX9_worth_158 ⟨Nat.le_of_ble_eq_true rfl, Nat.le_of_ble_eq_true rfl⟩) hP hD hS hA [] [0, 1, 2, 3, 4] [0, 1, 2, 3, 4] rfl rfl (by decide) (by decide) rfl (by decide) (fun H locs hP hD hS => ?_)
                      refine lv_ineg hx hb dX9_worth_161 ?_
                      exact RET _ H _ ls 162 hf hP hD hS dX9_worth_162
                    · rw [if_pos c_18] at hf
                      refine lv_bipush (v := (-5 : Int32)) hx hb dX9_worth_145 (by decide) ?_
                      refine lv_goto (tgt := 162) hx hb dX9_worth_147 (by decide) ?_
                      exact RET _ H _ ls 162 hf hP hD hS dX9_worth_162
                  · rw [if_neg c_17] at hf
                    refine lv_tableOut (tgt := 163) hx hb dX9_worth_8 (kb_sw 0 7 (fun k q1 q2 => by
                        rcases (show k = 0 ∨ k = 1 ∨ k = 2 ∨ k = 3 ∨ k = 4 ∨ k = 5 ∨ k = 6 ∨ k = 7 by omega) with rfl | rfl | rfl | rfl | rfl | rfl | rfl | rfl
                        · exact fun e => c_2 (e.trans (by decide))
                        · exact fun e => c_4 (e.trans (by decide))
                        · exact fun e => c_6 (e.trans (by decide))
                        · exact fun e => c_9 (e.trans (by decide))
                        · exact fun e => c_12 (e.trans (by decide))
                        · exact fun e => c_13 (e.trans (by decide))
                        · exact fun e => c_14 (e.trans (by decide))
                        · exact fun e => c_17 (e.trans (by decide)))) (by decide) ?_
                    refine lv_iload hx hb dX9_worth_163 (lv_at hl 0 rfl) ?_
                    refine lv_bipush (v := (-2 : Int32)) hx hb dX9_worth_165 (by decide) ?_
                    refine lv_icmp_eq (tgt := 184) hx hb dX9_worth_167 (by decide) (fun c_21 => ?_) (fun c_21 => ?_)
                    · rw [if_pos c_21] at hf
                      exact B_184 _ _ _ hf hP hD hS (lv_sub hl [] rfl)
                    · rw [if_neg c_21] at hf
                      refine lv_iload hx hb dX9_worth_170 (lv_at hl 5 rfl) ?_
                      refine lv_iload hx hb dX9_worth_172 (lv_at hl 0 rfl) ?_
                      obtain ⟨r22, hc22, hf⟩ := kb_bind hf
                      refine kb_ci (ws2 := (w_Scene dA a (ca 0) sc ++ (w_Cab dA ca cb))) (kb_rSN (n := 2) (As := [.int x3, .int r1]) (rest := []) hx hb hml hown hK (c_X10_holdsBit l D dA H.size x3 r1 r22 hc22) ⟨ww_3_158, ww_4_31, ww_3_157, ww_1_1, by decide, by decide⟩ rfl rfl (by decide +kernel) ⟨Nat.le_of_ble_eq_true rfl, Nat.le_of_ble_eq_true rfl⟩ hP hD hS hA hE [] rfl (by decide) rfl hl.1 rfl (Nat.le_of_ble_eq_true rfl) dX9_worth_174 ⟨Nat.le_of_ble_eq_true rfl, Nat.le_of_ble_eq_true rfl⟩) hP hD hS hA [] [0, 1, 2, 3, 4] [0, 1, 2, 3, 4] rfl rfl (by decide) (by decide) rfl (by decide) (fun H locs hP hD hS => ?_)
                      refine lv_if_eq (tgt := 184) hx hb dX9_worth_177 (by decide) (fun c_23 => ?_) (fun c_23 => ?_)
                      · rw [if_pos c_23] at hf
                        exact B_184 _ _ _ hf hP hD hS (lv_sub hl [] rfl)
                      · rw [if_neg c_23] at hf
                        refine lv_iconst (v := (1 : Int32)) hx hb dX9_worth_180 (by decide) ?_
                        refine lv_goto (tgt := 185) hx hb dX9_worth_181 (by decide) ?_
                        exact RET _ H _ ls 185 hf hP hD hS dX9_worth_185
  exact E0 _ _ hP hD hS

noncomputable def f_X9_best_b77 (sc : SceneT) (cb : CabT) (ru : RulesT) (k7 : Nat → Int32 → Int32 → Int32 → Int32 → Option (Int32)) (k26 : Nat → Int32 → Int32 → Int32 → Int32 → Int32 → Int32 → Int32 → Option (Int32)) (i1 : Nat) (v2 : Int32) (v3 : Int32) (v5 : Int32) (v6 : Int32) (v7 : Int32) (v8 : Int32) (v9 : Int32) (v10 : Int32) : Option (Int32) := (if v10 = v8 then k26 i1 v2 v3 v5 v6 (v7 ||| ((1 : Int32) <<< (v9 &&& 31))) v8 (v9 + (1 : Int32)) else k26 i1 v2 v3 v5 v6 v7 v8 (v9 + (1 : Int32)))
noncomputable def f_X9_best_b26 (sc : SceneT) (cb : CabT) (ru : RulesT) (k7 : Nat → Int32 → Int32 → Int32 → Int32 → Option (Int32)) : Nat → Nat → Int32 → Int32 → Int32 → Int32 → Int32 → Int32 → Int32 → Option (Int32)
  | 0, _, _, _, _, _, _, _, _ => none
  | n + 1, i1, v2, v3, v5, v6, v7, v8, v9 => (if (20 : Int32) ≤ v9 then k7 i1 v2 v3 v7 (v6 + (1 : Int32)) else (f_X10_holdsBit v5 v9).bind fun r3 => (if r3 = 0 then f_X9_best_b26 sc cb ru k7 n i1 v2 v3 v5 v6 v7 v8 (v9 + (1 : Int32)) else if kb_in? v6 4 then (f_X9_worth sc cb (((ru_wanted ru) i1) (v6).toNatClampNeg) v9 v2 v3).bind fun r6 => (if r6 ≤ v8 then f_X9_best_b77 sc cb ru k7 (f_X9_best_b26 sc cb ru k7 n) i1 v2 v3 v5 v6 v7 v8 v9 r6 else f_X9_best_b77 sc cb ru k7 (f_X9_best_b26 sc cb ru k7 n) i1 v2 v3 v5 v6 (0 : Int32) r6 v9 r6) else none))
noncomputable def f_X9_best_b7 (sc : SceneT) (cb : CabT) (ru : RulesT) : Nat → Nat → Int32 → Int32 → Int32 → Int32 → Option (Int32)
  | 0, _, _, _, _, _ => none
  | n + 1, i1, v2, v3, v5, v6 => (if ((ru_count ru) i1) ≤ v6 then some (v5) else f_X9_best_b26 sc cb ru (f_X9_best_b7 sc cb ru n) 4096 i1 v2 v3 v5 v6 (0 : Int32) (-100 : Int32) (0 : Int32))
noncomputable def f_X9_best (sc : SceneT) (cb : CabT) (ru : RulesT) (ix0 : Nat) (x1 : Int32) (x2 : Int32) (x3 : Int32) : Option (Int32) := f_X9_best_b7 sc cb ru 4096 ix0 x1 x2 x3 (0 : Int32)
set_option maxHeartbeats 4000000 in
set_option maxRecDepth 100000 in
theorem c_X9_best (l : Launch) (D : va_G) (dA : Nat → ClassId) (sz : Nat) (a : Nat → Nat) (ca : Nat → Nat) (ua : Nat → Nat) (sc : SceneT) (cb : CabT) (ru : RulesT) (ix0 : Nat) (hix0 : ix0 < 4) (x1 : Int32) (x2 : Int32) (x3 : Int32) (rv : Int32) (hf : f_X9_best sc cb ru ix0 x1 x2 x3 = some (rv)) : kb_Mi l yX9_best cX9_best 11 (some .int) ({ frames := 2, cells := 0, slots := 0, locals := 51 } : Room) D dA [.ref (a 0), .ref (ua ix0), .int x1, .int x2, .int x3] sz (w_Scene dA a (ca 0) sc ++ (w_Cab dA ca cb ++ (w_Rules dA ua ru))) 0 0 rv (w_Scene dA a (ca 0) sc ++ (w_Cab dA ca cb ++ (w_Rules dA ua ru))) := by
  refine Met.ofW (cc := cX9_best) (maxL := 11) (ret := (some .int)) (by decide) rfl ?_
  intro p e s m args below meth c s₁ B hml hv
  obtain ⟨rfl, hsz, hP, hK, hD0, hE⟩ := hv
  have hx := B.exec
  have hb := B.bytes
  have hr := B.returns
  have hown : s.vm.findClass RX9 = some m.cls := findClass_of_methodNamed B.named
  have hlocks := B.notSynchronized
  have hts : ∀ w ∈ kb_gw, w.before ([.ref (a 0), .ref (ua ix0), .int x1, .int x2, .int x3] : List Value).toArray s = true := fun w hw => hK.2.1 w hw _
  subst hsz
  have hD := hD0.self (sz := s.heap.size)
  generalize hAe : va_A (w_Scene dA a (ca 0) sc ++ (w_Cab dA ca cb ++ (w_Rules dA ua ru))) s.heap.size = A at hD hE ⊢
  have hA : ∀ q : Nat, s.heap.size ≤ q → A q := fun q h => by rw [← hAe]; exact Or.inr h
  have hS : va_S A s.heap s.heap [] := va_S.rf
  have hl := lv_entry ([.ref (a 0), .ref (ua ix0), .int x1, .int x2, .int x3]) (n := 11) (Nat.le_of_ble_eq_true rfl)
  rw [lg_entry_eq]
  generalize (lg_sl ([.ref (a 0), .ref (ua ix0), .int x1, .int x2, .int x3]) ++ List.replicate (11 - (lg_sl ([.ref (a 0), .ref (ua ix0), .int x1, .int x2, .int x3])).length) Slot.unset).toArray = ls at hl ⊢
  have hl : lv_has ls 11 [(0, .ref (a 0)), (1, .ref (ua ix0)), (2, .int x1), (3, .int x2), (4, .int x3)] := hl
  generalize hQ : MQ below (va_Qi (fun r (_ : Unit) => r = rv) (kb_B D A (w_Scene dA a (ca 0) sc ++ (w_Cab dA ca cb ++ (w_Rules dA ua ru)))) A) ([.ref (a 0), .ref (ua ix0), .int x1, .int x2, .int x3] : List Value).toArray s 0 0 A = Q
  show W p l e ({ frames := 2, cells := 0, slots := 0, locals := 51 } : Room) s m ([.ref (a 0), .ref (ua ix0), .int x1, .int x2, .int x3] : List Value).toArray below meth c s.heap [] 0 0 Q (F0 m 0 ls [])
  have RET : ∀ (r2 : Int32) (H : Heap) (locs : List Loc) (ls : Array Slot) (pc : Nat), some (r2) = some (rv) → va_P D vwCl (w_Scene dA a (ca 0) sc ++ (w_Cab dA ca cb ++ (w_Rules dA ua ru))) H → va_D A (w_Scene dA a (ca 0) sc ++ (w_Cab dA ca cb ++ (w_Rules dA ua ru))) → va_S A s.heap H locs → decode cX9_best pc = .ok (.ireturn, 1) → W p l e ({ frames := 2, cells := 0, slots := 0, locals := 51 } : Room) s m ([.ref (a 0), .ref (ua ix0), .int x1, .int x2, .int x3] : List Value).toArray below meth c H locs 0 0 Q (F0 m pc ls [.int r2]) := by
    intro r2 H locs ls pc hq hP hD hS hd
    cases hq
    rw [← hQ]
    exact W.iret hx hb hr (fun t ht hW => ⟨⟨_, (), rfl, rfl, by rw [ht]; exact hP, hD⟩, hS.F ht⟩) hS.2.2 hd
  have B_77 : ∀ (k7 : Nat → Int32 → Int32 → Int32 → Int32 → Option (Int32)) (hk7 : ∀ (i1 : Nat) (v2 : Int32) (v3 : Int32) (v5 : Int32) (v6 : Int32) (H : Heap) (locs : List Loc) (ls : Array Slot), i1 < 4 → k7 i1 v2 v3 v5 v6 = some (rv) → va_P D vwCl (w_Scene dA a (ca 0) sc ++ (w_Cab dA ca cb ++ (w_Rules dA ua ru))) H → va_D A (w_Scene dA a (ca 0) sc ++ (w_Cab dA ca cb ++ (w_Rules dA ua ru))) → va_S A s.heap H locs → lv_has ls 11 [(0, .ref (a 0)), (1, .ref (ua i1)), (2, .int v2), (3, .int v3), (5, .int v5), (6, .int v6)] → W p l e ({ frames := 2, cells := 0, slots := 0, locals := 51 } : Room) s m ([.ref (a 0), .ref (ua ix0), .int x1, .int x2, .int x3] : List Value).toArray below meth c H locs 0 0 Q (F0 m 7 ls [])) (k26 : Nat → Int32 → Int32 → Int32 → Int32 → Int32 → Int32 → Int32 → Option (Int32)) (hk26 : ∀ (i1 : Nat) (v2 : Int32) (v3 : Int32) (v5 : Int32) (v6 : Int32) (v7 : Int32) (v8 : Int32) (v9 : Int32) (H : Heap) (locs : List Loc) (ls : Array Slot), i1 < 4 → k26 i1 v2 v3 v5 v6 v7 v8 v9 = some (rv) → va_P D vwCl (w_Scene dA a (ca 0) sc ++ (w_Cab dA ca cb ++ (w_Rules dA ua ru))) H → va_D A (w_Scene dA a (ca 0) sc ++ (w_Cab dA ca cb ++ (w_Rules dA ua ru))) → va_S A s.heap H locs → lv_has ls 11 [(0, .ref (a 0)), (1, .ref (ua i1)), (2, .int v2), (3, .int v3), (5, .int v5), (6, .int v6), (7, .int v7), (8, .int v8), (9, .int v9)] → W p l e ({ frames := 2, cells := 0, slots := 0, locals := 51 } : Room) s m ([.ref (a 0), .ref (ua ix0), .int x1, .int x2, .int x3] : List Value).toArray below meth c H locs 0 0 Q (F0 m 26 ls [])) (i1 : Nat) (v2 : Int32) (v3 : Int32) (v5 : Int32) (v6 : Int32) (v7 : Int32) (v8 : Int32) (v9 : Int32) (v10 : Int32) (H : Heap) (locs : List Loc) (ls : Array Slot), i1 < 4 → f_X9_best_b77 sc cb ru k7 k26 i1 v2 v3 v5 v6 v7 v8 v9 v10 = some (rv) → va_P D vwCl (w_Scene dA a (ca 0) sc ++ (w_Cab dA ca cb ++ (w_Rules dA ua ru))) H → va_D A (w_Scene dA a (ca 0) sc ++ (w_Cab dA ca cb ++ (w_Rules dA ua ru))) → va_S A s.heap H locs → lv_has ls 11 [(0, .ref (a 0)), (1, .ref (ua i1)), (2, .int v2), (3, .int v3), (5, .int v5), (6, .int v6), (7, .int v7), (8, .int v8), (9, .int v9), (10, .int v10)] → W p l e ({ frames := 2, cells := 0, slots := 0, locals := 51 } : Room) s m ([.ref (a 0), .ref (ua ix0), .int x1, .int x2, .int x3] : List Value).toArray below meth c H locs 0 0 Q (F0 m 77 ls []) := by
    intro k7 hk7 k26 hk26 i1 v2 v3 v5 v6 v7 v8 v9 v10 H locs ls hi1 hf hP hD hS hl
    rw [f_X9_best_b77] at hf
    refine lv_iload hx hb dX9_best_77 (lv_at hl 9 rfl) ?_
    refine lv_iload hx hb dX9_best_79 (lv_at hl 7 rfl) ?_
    refine lv_icmp_ne (tgt := 93) hx hb dX9_best_81 (by decide) (fun c_8 => ?_) (fun c_8 => ?_)
    · rw [if_neg c_8] at hf
      refine lv_iinc (v := (v9 + (1 : Int32))) (lv' := [(9, .int (v9 + (1 : Int32))), (0, .ref (a 0)), (1, .ref (ua i1)), (2, .int v2), (3, .int v3), (5, .int v5), (6, .int v6), (7, .int v7), (8, .int v8), (10, .int v10)]) hx hb dX9_best_93 hl (k := 8) rfl (by rfl) (by decide) rfl (fun ls hl => ?_)
      refine lv_goto (tgt := 26) hx hb dX9_best_96 (by decide) ?_
      exact hk26 _ _ _ _ _ _ _ _ _ _ _ hi1 hf hP hD hS (lv_sub hl [1, 2, 3, 4, 5, 6, 7, 8, 0] rfl)
    · rw [if_pos c_8] at hf
      refine lv_iload hx hb dX9_best_84 (lv_at hl 6 rfl) ?_
      refine lv_iconst (v := (1 : Int32)) hx hb dX9_best_86 (by decide) ?_
      refine lv_iload hx hb dX9_best_87 (lv_at hl 8 rfl) ?_
      refine lv_ishl hx hb dX9_best_89 ?_
      refine lv_ior hx hb dX9_best_90 ?_
      refine lv_istore (lv' := [(7, .int (v7 ||| ((1 : Int32) <<< (v9 &&& 31)))), (0, .ref (a 0)), (1, .ref (ua i1)), (2, .int v2), (3, .int v3), (5, .int v5), (6, .int v6), (8, .int v8), (9, .int v9), (10, .int v10)]) hx hb dX9_best_91 hl (by decide) rfl (fun ls hl => ?_)
      refine lv_iinc (v := (v9 + (1 : Int32))) (lv' := [(9, .int (v9 + (1 : Int32))), (7, .int (v7 ||| ((1 : Int32) <<< (v9 &&& 31)))), (0, .ref (a 0)), (1, .ref (ua i1)), (2, .int v2), (3, .int v3), (5, .int v5), (6, .int v6), (8, .int v8), (10, .int v10)]) hx hb dX9_best_93 hl (k := 8) rfl (by rfl) (by decide) rfl (fun ls hl => ?_)
      refine lv_goto (tgt := 26) hx hb dX9_best_96 (by decide) ?_
      exact hk26 _ _ _ _ _ _ _ _ _ _ _ hi1 hf hP hD hS (lv_sub hl [2, 3, 4, 5, 6, 7, 1, 8, 0] rfl)
  have B_26 : ∀ (k7 : Nat → Int32 → Int32 → Int32 → Int32 → Option (Int32)) (hk7 : ∀ (i1 : Nat) (v2 : Int32) (v3 : Int32) (v5 : Int32) (v6 : Int32) (H : Heap) (locs : List Loc) (ls : Array Slot), i1 < 4 → k7 i1 v2 v3 v5 v6 = some (rv) → va_P D vwCl (w_Scene dA a (ca 0) sc ++ (w_Cab dA ca cb ++ (w_Rules dA ua ru))) H → va_D A (w_Scene dA a (ca 0) sc ++ (w_Cab dA ca cb ++ (w_Rules dA ua ru))) → va_S A s.heap H locs → lv_has ls 11 [(0, .ref (a 0)), (1, .ref (ua i1)), (2, .int v2), (3, .int v3), (5, .int v5), (6, .int v6)] → W p l e ({ frames := 2, cells := 0, slots := 0, locals := 51 } : Room) s m ([.ref (a 0), .ref (ua ix0), .int x1, .int x2, .int x3] : List Value).toArray below meth c H locs 0 0 Q (F0 m 7 ls [])) (n : Nat) (i1 : Nat) (v2 : Int32) (v3 : Int32) (v5 : Int32) (v6 : Int32) (v7 : Int32) (v8 : Int32) (v9 : Int32) (H : Heap) (locs : List Loc) (ls : Array Slot), i1 < 4 → f_X9_best_b26 sc cb ru k7 n i1 v2 v3 v5 v6 v7 v8 v9 = some (rv) → va_P D vwCl (w_Scene dA a (ca 0) sc ++ (w_Cab dA ca cb ++ (w_Rules dA ua ru))) H → va_D A (w_Scene dA a (ca 0) sc ++ (w_Cab dA ca cb ++ (w_Rules dA ua ru))) → va_S A s.heap H locs → lv_has ls 11 [(0, .ref (a 0)), (1, .ref (ua i1)), (2, .int v2), (3, .int v3), (5, .int v5), (6, .int v6), (7, .int v7), (8, .int v8), (9, .int v9)] → W p l e ({ frames := 2, cells := 0, slots := 0, locals := 51 } : Room) s m ([.ref (a 0), .ref (ua ix0), .int x1, .int x2, .int x3] : List Value).toArray below meth c H locs 0 0 Q (F0 m 26 ls []) := by
    intro k7 hk7 n
    induction n with
    | zero =>
      intro i1 v2 v3 v5 v6 v7 v8 v9 H locs ls hi1 hf
      exact absurd hf (by simp [f_X9_best_b26])
    | succ n ih =>
      intro i1 v2 v3 v5 v6 v7 v8 v9 H locs ls hi1 hf hP hD hS hl
      rw [f_X9_best_b26] at hf
      refine lv_iload hx hb dX9_best_26 (lv_at hl 8 rfl) ?_
      refine lv_bipush (v := (20 : Int32)) hx hb dX9_best_28 (by decide) ?_
      refine lv_icmp_ge (tgt := 99) hx hb dX9_best_30 (by decide) (fun c_2 => ?_) (fun c_2 => ?_)
      · rw [if_pos c_2] at hf
        refine lv_iload hx hb dX9_best_99 (lv_at hl 6 rfl) ?_
        refine lv_istore (lv' := [(5, .int v7), (0, .ref (a 0)), (1, .ref (ua i1)), (2, .int v2), (3, .int v3), (6, .int v6), (7, .int v7), (8, .int v8), (9, .int v9)]) hx hb dX9_best_101 hl (by decide) rfl (fun ls hl => ?_)
        refine lv_iinc (v := (v6 + (1 : Int32))) (lv' := [(6, .int (v6 + (1 : Int32))), (5, .int v7), (0, .ref (a 0)), (1, .ref (ua i1)), (2, .int v2), (3, .int v3), (7, .int v7), (8, .int v8), (9, .int v9)]) hx hb dX9_best_103 hl (k := 5) rfl (by rfl) (by decide) rfl (fun ls hl => ?_)
        refine lv_goto (tgt := 7) hx hb dX9_best_106 (by decide) ?_
        exact hk7 _ _ _ _ _ _ _ _ hi1 hf hP hD hS (lv_sub hl [2, 3, 4, 5, 1, 0] rfl)
      · rw [if_neg c_2] at hf
        refine lv_iload hx hb dX9_best_33 (lv_at hl 4 rfl) ?_
        refine lv_iload hx hb dX9_best_35 (lv_at hl 8 rfl) ?_
        obtain ⟨r3, hc3, hf⟩ := kb_bind hf
        refine kb_ci (ws2 := (w_Scene dA a (ca 0) sc ++ (w_Cab dA ca cb ++ (w_Rules dA ua ru)))) (kb_rSN (n := 2) (As := [.int v5, .int v9]) (rest := []) hx hb hml hown hK (c_X10_holdsBit l D dA H.size v5 v9 r3 hc3) ⟨ww_3_158, ww_4_31, ww_3_157, ww_1_1, by decide, by decide⟩ rfl rfl (by decide +kernel) ⟨Nat.le_of_ble_eq_true rfl, Nat.le_of_ble_eq_true rfl⟩ hP hD hS hA hE [] rfl (by decide) rfl hl.1 rfl (Nat.le_of_ble_eq_true rfl) dX9_best_37 ⟨Nat.le_of_ble_eq_true rfl, Nat.le_of_ble_eq_true rfl⟩) hP hD hS hA [] [0, 1, 2, 3, 4, 5, 6, 7, 8, 9, 10, 11, 12] [0, 1, 2, 3, 4, 5, 6, 7, 8, 9, 10, 11, 12] rfl rfl (by decide) (by decide) rfl (by decide) (fun H locs hP hD hS => ?_)
        refine lv_if_ne (tgt := 46) hx hb dX9_best_40 (by decide) (fun c_4 => ?_) (fun c_4 => ?_)
        · rw [if_neg c_4] at hf
          refine lv_aload_n hx hb dX9_best_46 rfl (lv_at hl 0 rfl) ?_
          refine lv_aload_n hx hb dX9_best_47 rfl (lv_at hl 1 rfl) ?_
          refine va_get (D := D) (ci := 8) (v := .ref (ua (4 + i1))) (C := RX8) (T := TX8) (N := 3) hx hb hts kb_inX8 hown hK.1 hP (3 + (2 + i1)) (kb_at rfl (kb_at rfl (at_Rules_0 dA ua ru i1 hi1))) rfl 2 (by decide) (hK.2.w ww_1_146 rfl _) (fun _ h9 => h9) rfl dX9_best_48 ?_
          refine lv_iload hx hb dX9_best_51 (lv_at hl 5 rfl) ?_
          obtain ⟨h_5, hf⟩ := kb_if hf
          refine va_iald (D := D) hx hb hK.1 hP (3 + (2 + (4 + i1))) 0 (kb_at rfl (kb_at rfl (at_Rules_4 dA ua ru i1 hi1))) rfl h_5 dX9_best_53 ?_
          refine lv_iload hx hb dX9_best_54 (lv_at hl 8 rfl) ?_
          refine lv_iload_n hx hb dX9_best_56 rfl (lv_at hl 2 rfl) ?_
          refine lv_iload_n hx hb dX9_best_57 rfl (lv_at hl 3 rfl) ?_
          obtain ⟨r6, hc6, hf⟩ := kb_bind hf
          refine kb_ci (ws2 := (w_Scene dA a (ca 0) sc ++ (w_Cab dA ca cb ++ (w_Rules dA ua ru)))) (kb_rV (n := 4) (As := [.int (((ru_wanted ru) i1) (v6).toNatClampNeg), .int v9, .int v2, .int v3]) (rest := []) hx hb hml hown hK (c_X9_worth l D dA H.size a ca sc cb (((ru_wanted ru) i1) (v6).toNatClampNeg) v9 v2 v3 r6 hc6) ⟨ww_4_35, ww_4_32, ww_4_34, ws_31, ww_1_9, rfl, by decide, by decide⟩ rfl rfl (by decide +kernel) ⟨Nat.le_of_ble_eq_true rfl, Nat.le_of_ble_eq_true rfl⟩ hP hD hS hA hE [0, 1, 2, 3, 4] rfl (by decide) 0 rfl rfl rfl hl.1 rfl (Nat.le_of_ble_eq_true rfl) dX9_best_58 ⟨Nat.le_of_ble_eq_true rfl, Nat.le_of_ble_eq_true rfl⟩) hP hD hS hA [0, 1, 2, 3, 4] [5, 6, 7, 8, 9, 10, 11, 12] [8, 9, 10, 11, 12, 0, 1, 2, 3, 4, 5, 6, 7] rfl rfl (by decide) (by decide) rfl (by decide) (fun H locs hP hD hS => ?_)
          refine lv_istore (lv' := [(10, .int r6), (0, .ref (a 0)), (1, .ref (ua i1)), (2, .int v2), (3, .int v3), (5, .int v5), (6, .int v6), (7, .int v7), (8, .int v8), (9, .int v9)]) hx hb dX9_best_61 hl (by decide) rfl (fun ls hl => ?_)
          refine lv_iload hx hb dX9_best_63 (lv_at hl 0 rfl) ?_
          refine lv_iload hx hb dX9_best_65 (lv_at hl 8 rfl) ?_
          refine lv_icmp_le (tgt := 77) hx hb dX9_best_67 (by decide) (fun c_7 => ?_) (fun c_7 => ?_)
          · rw [if_pos c_7] at hf
            exact B_77 k7 hk7 (f_X9_best_b26 sc cb ru k7 n) ih _ _ _ _ _ _ _ _ _ _ _ _ hi1 hf hP hD hS (lv_sub hl [1, 2, 3, 4, 5, 6, 7, 8, 9, 0] rfl)
          · rw [if_neg c_7] at hf
            refine lv_iload hx hb dX9_best_70 (lv_at hl 0 rfl) ?_
            refine lv_istore (lv' := [(8, .int r6), (10, .int r6), (0, .ref (a 0)), (1, .ref (ua i1)), (2, .int v2), (3, .int v3), (5, .int v5), (6, .int v6), (7, .int v7), (9, .int v9)]) hx hb dX9_best_72 hl (by decide) rfl (fun ls hl => ?_)
            refine lv_iconst (v := (0 : Int32)) hx hb dX9_best_74 (by decide) ?_
            refine lv_istore (lv' := [(7, .int (0 : Int32)), (8, .int r6), (10, .int r6), (0, .ref (a 0)), (1, .ref (ua i1)), (2, .int v2), (3, .int v3), (5, .int v5), (6, .int v6), (9, .int v9)]) hx hb dX9_best_75 hl (by decide) rfl (fun ls hl => ?_)
            exact B_77 k7 hk7 (f_X9_best_b26 sc cb ru k7 n) ih _ _ _ _ _ _ _ _ _ _ _ _ hi1 hf hP hD hS (lv_sub hl [3, 4, 5, 6, 7, 8, 0, 1, 9, 2] rfl)
        · rw [if_pos c_4] at hf
          refine lv_goto (tgt := 93) hx hb dX9_best_43 (by decide) ?_
          refine lv_iinc (v := (v9 + (1 : Int32))) (lv' := [(9, .int (v9 + (1 : Int32))), (0, .ref (a 0)), (1, .ref (ua i1)), (2, .int v2), (3, .int v3), (5, .int v5), (6, .int v6), (7, .int v7), (8, .int v8)]) hx hb dX9_best_93 hl (k := 8) rfl (by rfl) (by decide) rfl (fun ls hl => ?_)
          refine lv_goto (tgt := 26) hx hb dX9_best_96 (by decide) ?_
          exact ih _ _ _ _ _ _ _ _ _ _ _ hi1 hf hP hD hS (lv_sub hl [1, 2, 3, 4, 5, 6, 7, 8, 0] rfl)
  have B_7 : ∀ (n : Nat) (i1 : Nat) (v2 : Int32) (v3 : Int32) (v5 : Int32) (v6 : Int32) (H : Heap) (locs : List Loc) (ls : Array Slot), i1 < 4 → f_X9_best_b7 sc cb ru n i1 v2 v3 v5 v6 = some (rv) → va_P D vwCl (w_Scene dA a (ca 0) sc ++ (w_Cab dA ca cb ++ (w_Rules dA ua ru))) H → va_D A (w_Scene dA a (ca 0) sc ++ (w_Cab dA ca cb ++ (w_Rules dA ua ru))) → va_S A s.heap H locs → lv_has ls 11 [(0, .ref (a 0)), (1, .ref (ua i1)), (2, .int v2), (3, .int v3), (5, .int v5), (6, .int v6)] → W p l e ({ frames := 2, cells := 0, slots := 0, locals := 51 } : Room) s m ([.ref (a 0), .ref (ua ix0), .int x1, .int x2, .int x3] : List Value).toArray below meth c H locs 0 0 Q (F0 m 7 ls []) := by
    intro n
    induction n with
    | zero =>
      intro i1 v2 v3 v5 v6 H locs ls hi1 hf
      exact absurd hf (by simp [f_X9_best_b7])
    | succ n ih =>
      intro i1 v2 v3 v5 v6 H locs ls hi1 hf hP hD hS hl
      rw [f_X9_best_b7] at hf
      refine lv_iload hx hb dX9_best_7 (lv_at hl 5 rfl) ?_
      refine lv_aload_n hx hb dX9_best_9 rfl (lv_at hl 1 rfl) ?_
      refine va_get (D := D) (ci := 8) (v := .int ((ru_count ru) i1)) (C := RX8) (T := TX8) (N := 3) hx hb hts kb_inX8 hown hK.1 hP (3 + (2 + i1)) (kb_at rfl (kb_at rfl (at_Rules_0 dA ua ru i1 hi1))) rfl 1 (by decide) (hK.2.w ww_1_142 rfl _) (fun _ h9 => h9) rfl dX9_best_10 ?_
      refine lv_icmp_ge (tgt := 109) hx hb dX9_best_13 (by decide) (fun c_1 => ?_) (fun c_1 => ?_)
      · rw [if_pos c_1] at hf
        refine lv_iload hx hb dX9_best_109 (lv_at hl 4 rfl) ?_
        exact RET _ H _ ls 111 hf hP hD hS dX9_best_111
      · rw [if_neg c_1] at hf
        refine lv_iconst (v := (0 : Int32)) hx hb dX9_best_16 (by decide) ?_
        refine lv_istore (lv' := [(7, .int (0 : Int32)), (0, .ref (a 0)), (1, .ref (ua i1)), (2, .int v2), (3, .int v3), (5, .int v5), (6, .int v6)]) hx hb dX9_best_17 hl (by decide) rfl (fun ls hl => ?_)
        refine lv_bipush (v := (-100 : Int32)) hx hb dX9_best_19 (by decide) ?_
        refine lv_istore (lv' := [(8, .int (-100 : Int32)), (7, .int (0 : Int32)), (0, .ref (a 0)), (1, .ref (ua i1)), (2, .int v2), (3, .int v3), (5, .int v5), (6, .int v6)]) hx hb dX9_best_21 hl (by decide) rfl (fun ls hl => ?_)
        refine lv_iconst (v := (0 : Int32)) hx hb dX9_best_23 (by decide) ?_
        refine lv_istore (lv' := [(9, .int (0 : Int32)), (8, .int (-100 : Int32)), (7, .int (0 : Int32)), (0, .ref (a 0)), (1, .ref (ua i1)), (2, .int v2), (3, .int v3), (5, .int v5), (6, .int v6)]) hx hb dX9_best_24 hl (by decide) rfl (fun ls hl => ?_)
        exact B_26 (f_X9_best_b7 sc cb ru n) ih 4096 _ _ _ _ _ _ _ _ _ _ _ hi1 hf hP hD hS (lv_sub hl [3, 4, 5, 6, 7, 8, 2, 1, 0] rfl)
  have E0 : ∀ (H : Heap) (locs : List Loc), va_P D vwCl (w_Scene dA a (ca 0) sc ++ (w_Cab dA ca cb ++ (w_Rules dA ua ru))) H → va_D A (w_Scene dA a (ca 0) sc ++ (w_Cab dA ca cb ++ (w_Rules dA ua ru))) → va_S A s.heap H locs → W p l e ({ frames := 2, cells := 0, slots := 0, locals := 51 } : Room) s m ([.ref (a 0), .ref (ua ix0), .int x1, .int x2, .int x3] : List Value).toArray below meth c H locs 0 0 Q (F0 m 0 ls []) := by
    intro H locs hP hD hS
    rw [f_X9_best] at hf
    refine lv_iload hx hb dX9_best_0 (lv_at hl 4 rfl) ?_
    refine lv_istore (lv' := [(5, .int x3), (0, .ref (a 0)), (1, .ref (ua ix0)), (2, .int x1), (3, .int x2), (4, .int x3)]) hx hb dX9_best_2 hl (by decide) rfl (fun ls hl => ?_)
    refine lv_iconst (v := (0 : Int32)) hx hb dX9_best_4 (by decide) ?_
    refine lv_istore (lv' := [(6, .int (0 : Int32)), (5, .int x3), (0, .ref (a 0)), (1, .ref (ua ix0)), (2, .int x1), (3, .int x2), (4, .int x3)]) hx hb dX9_best_5 hl (by decide) rfl (fun ls hl => ?_)
    exact B_7 4096 _ _ _ _ _ _ _ _ hix0 hf hP hD hS (lv_sub hl [2, 3, 4, 5, 1, 0] rfl)
  exact E0 _ _ hP hD hS
