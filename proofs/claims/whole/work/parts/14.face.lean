noncomputable def f_X10_refused (tp : TopT) (x0 : Int32) : Option (Int32 × TopT) := some ((-1 : Int32), (tp_set_latestTrouble tp x0))
set_option maxHeartbeats 4000000 in
set_option maxRecDepth 100000 in
theorem c_X10_refused (l : Launch) (D : va_G) (dA : Nat → ClassId) (sz : Nat) (t : Nat → Nat) (g0 : Nat) (g1 : Nat) (g2 : Nat) (g3 : Nat) (g4 : Nat) (g5 : Nat) (g6 : Nat) (g7 : Nat) (g8 : Nat) (tp : TopT) (x0 : Int32) (rv : Int32) (u0 : TopT) (hf : f_X10_refused tp x0 = some (rv, u0)) : kb_Mi l yX10_refused cX10_refused 2 (some .int) ({ frames := 0, cells := 0, slots := 0, locals := 0 } : Room) D dA [.ref (t 0), .int x0] sz (w_Top dA t g0 g1 g2 g3 g4 g5 g6 g7 g8 tp) 0 0 rv (w_Top dA t g0 g1 g2 g3 g4 g5 g6 g7 g8 u0) := by
  refine Met.ofW (cc := cX10_refused) (maxL := 2) (ret := (some .int)) (by decide) rfl ?_
  intro p e s m args below meth c s₁ B hml hv
  obtain ⟨rfl, hsz, hP, hK, hD0, hE⟩ := hv
  have hx := B.exec
  have hb := B.bytes
  have hr := B.returns
  have hown : s.vm.findClass RX10 = some m.cls := findClass_of_methodNamed B.named
  have hlocks := B.notSynchronized
  have hts : ∀ w ∈ kb_gw, w.before ([.ref (t 0), .int x0] : List Value).toArray s = true := fun w hw => hK.2.1 w hw _
  subst hsz
  have hD := hD0.self (sz := s.heap.size)
  generalize hAe : va_A (w_Top dA t g0 g1 g2 g3 g4 g5 g6 g7 g8 tp) s.heap.size = A at hD hE ⊢
  have hA : ∀ q : Nat, s.heap.size ≤ q → A q := fun q h => by rw [← hAe]; exact Or.inr h
  have hS : va_S A s.heap s.heap [] := va_S.rf
  have hl := lv_entry ([.ref (t 0), .int x0]) (n := 2) (Nat.le_of_ble_eq_true rfl)
  rw [lg_entry_eq]
  generalize (lg_sl ([.ref (t 0), .int x0]) ++ List.replicate (2 - (lg_sl ([.ref (t 0), .int x0])).length) Slot.unset).toArray = ls at hl ⊢
  have hl : lv_has ls 2 [(0, .ref (t 0)), (1, .int x0)] := hl
  generalize hQ : MQ below (va_Qi (fun r (_ : Unit) => r = rv) (kb_B D A (w_Top dA t g0 g1 g2 g3 g4 g5 g6 g7 g8 u0)) A) ([.ref (t 0), .int x0] : List Value).toArray s 0 0 A = Q
  show W p l e ({ frames := 0, cells := 0, slots := 0, locals := 0 } : Room) s m ([.ref (t 0), .int x0] : List Value).toArray below meth c s.heap [] 0 0 Q (F0 m 0 ls [])
  have RET : ∀ (r2 : Int32) (w0 : TopT) (H : Heap) (locs : List Loc) (ls : Array Slot) (pc : Nat), some (r2, w0) = some (rv, u0) → va_P D vwCl (w_Top dA t g0 g1 g2 g3 g4 g5 g6 g7 g8 w0) H → va_D A (w_Top dA t g0 g1 g2 g3 g4 g5 g6 g7 g8 w0) → va_S A s.heap H locs → decode cX10_refused pc = .ok (.ireturn, 1) → W p l e ({ frames := 0, cells := 0, slots := 0, locals := 0 } : Room) s m ([.ref (t 0), .int x0] : List Value).toArray below meth c H locs 0 0 Q (F0 m pc ls [.int r2]) := by
    intro r2 w0 H locs ls pc hq hP hD hS hd
    cases hq
    rw [← hQ]
    exact W.iret hx hb hr (fun t ht hW => ⟨⟨_, (), rfl, rfl, by rw [ht]; exact hP, hD⟩, hS.F ht⟩) hS.2.2 hd
  have E0 : ∀ (H : Heap) (locs : List Loc), va_P D vwCl (w_Top dA t g0 g1 g2 g3 g4 g5 g6 g7 g8 tp) H → va_D A (w_Top dA t g0 g1 g2 g3 g4 g5 g6 g7 g8 tp) → va_S A s.heap H locs → W p l e ({ frames := 0, cells := 0, slots := 0, locals := 0 } : Room) s m ([.ref (t 0), .int x0] : List Value).toArray below meth c H locs 0 0 Q (F0 m 0 ls []) := by
    intro H locs hP hD hS
    rw [f_X10_refused] at hf
    refine lv_aload_n hx hb dX10_refused_0 rfl (lv_at hl 0 rfl) ?_
    refine lv_iload_n hx hb dX10_refused_1 rfl (lv_at hl 1 rfl) ?_
    refine va_put (D := D) (ci := 10) (v := .int x0) (ty := .int) (C := RX10) (T := TX10) (N := 12) hx hb hts kb_inX10 tyX10 tyX10_ok nmX10 hown hK.1 hP hD hS 0 rfl rfl 11 (by decide) (hK.2.w ww_2_163 rfl _) (fun _ h9 => h9) rfl (by decide +kernel) rfl rfl (Nat.le_of_ble_eq_true rfl) dX10_refused_2 (fun H locs hP hD hS => ?_)
    have hP : va_P D vwCl (w_Top dA t g0 g1 g2 g3 g4 g5 g6 g7 g8 (tp_set_latestTrouble tp x0)) H := hP
    have hD : va_D A (w_Top dA t g0 g1 g2 g3 g4 g5 g6 g7 g8 (tp_set_latestTrouble tp x0)) := hD
    refine lv_iconst (v := (-1 : Int32)) hx hb dX10_refused_5 (by decide) ?_
    exact RET _ _ H _ ls 6 hf hP hD hS dX10_refused_6
  exact E0 _ _ hP hD hS

noncomputable def f_X10_answered (tp : TopT) (x0 : Int32) : Option (Int32 × TopT) := some (x0, (tp_set_latestTrouble tp (0 : Int32)))
set_option maxHeartbeats 4000000 in
set_option maxRecDepth 100000 in
theorem c_X10_answered (l : Launch) (D : va_G) (dA : Nat → ClassId) (sz : Nat) (t : Nat → Nat) (g0 : Nat) (g1 : Nat) (g2 : Nat) (g3 : Nat) (g4 : Nat) (g5 : Nat) (g6 : Nat) (g7 : Nat) (g8 : Nat) (tp : TopT) (x0 : Int32) (rv : Int32) (u0 : TopT) (hf : f_X10_answered tp x0 = some (rv, u0)) : kb_Mi l yX10_answered cX10_answered 2 (some .int) ({ frames := 0, cells := 0, slots := 0, locals := 0 } : Room) D dA [.ref (t 0), .int x0] sz (w_Top dA t g0 g1 g2 g3 g4 g5 g6 g7 g8 tp) 0 0 rv (w_Top dA t g0 g1 g2 g3 g4 g5 g6 g7 g8 u0) := by
  refine Met.ofW (cc := cX10_answered) (maxL := 2) (ret := (some .int)) (by decide) rfl ?_
  intro p e s m args below meth c s₁ B hml hv
  obtain ⟨rfl, hsz, hP, hK, hD0, hE⟩ := hv
  have hx := B.exec
  have hb := B.bytes
  have hr := B.returns
  have hown : s.vm.findClass RX10 = some m.cls := findClass_of_methodNamed B.named
  have hlocks := B.notSynchronized
  have hts : ∀ w ∈ kb_gw, w.before ([.ref (t 0), .int x0] : List Value).toArray s = true := fun w hw => hK.2.1 w hw _
  subst hsz
  have hD := hD0.self (sz := s.heap.size)
  generalize hAe : va_A (w_Top dA t g0 g1 g2 g3 g4 g5 g6 g7 g8 tp) s.heap.size = A at hD hE ⊢
  have hA : ∀ q : Nat, s.heap.size ≤ q → A q := fun q h => by rw [← hAe]; exact Or.inr h
  have hS : va_S A s.heap s.heap [] := va_S.rf
  have hl := lv_entry ([.ref (t 0), .int x0]) (n := 2) (Nat.le_of_ble_eq_true rfl)
  rw [lg_entry_eq]
  generalize (lg_sl ([.ref (t 0), .int x0]) ++ List.replicate (2 - (lg_sl ([.ref (t 0), .int x0])).length) Slot.unset).toArray = ls at hl ⊢
  have hl : lv_has ls 2 [(0, .ref (t 0)), (1, .int x0)] := hl
  generalize hQ : MQ below (va_Qi (fun r (_ : Unit) => r = rv) (kb_B D A (w_Top dA t g0 g1 g2 g3 g4 g5 g6 g7 g8 u0)) A) ([.ref (t 0), .int x0] : List Value).toArray s 0 0 A = Q
  show W p l e ({ frames := 0, cells := 0, slots := 0, locals := 0 } : Room) s m ([.ref (t 0), .int x0] : List Value).toArray below meth c s.heap [] 0 0 Q (F0 m 0 ls [])
  have RET : ∀ (r2 : Int32) (w0 : TopT) (H : Heap) (locs : List Loc) (ls : Array Slot) (pc : Nat), some (r2, w0) = some (rv, u0) → va_P D vwCl (w_Top dA t g0 g1 g2 g3 g4 g5 g6 g7 g8 w0) H → va_D A (w_Top dA t g0 g1 g2 g3 g4 g5 g6 g7 g8 w0) → va_S A s.heap H locs → decode cX10_answered pc = .ok (.ireturn, 1) → W p l e ({ frames := 0, cells := 0, slots := 0, locals := 0 } : Room) s m ([.ref (t 0), .int x0] : List Value).toArray below meth c H locs 0 0 Q (F0 m pc ls [.int r2]) := by
    intro r2 w0 H locs ls pc hq hP hD hS hd
    cases hq
    rw [← hQ]
    exact W.iret hx hb hr (fun t ht hW => ⟨⟨_, (), rfl, rfl, by rw [ht]; exact hP, hD⟩, hS.F ht⟩) hS.2.2 hd
  have E0 : ∀ (H : Heap) (locs : List Loc), va_P D vwCl (w_Top dA t g0 g1 g2 g3 g4 g5 g6 g7 g8 tp) H → va_D A (w_Top dA t g0 g1 g2 g3 g4 g5 g6 g7 g8 tp) → va_S A s.heap H locs → W p l e ({ frames := 0, cells := 0, slots := 0, locals := 0 } : Room) s m ([.ref (t 0), .int x0] : List Value).toArray below meth c H locs 0 0 Q (F0 m 0 ls []) := by
    intro H locs hP hD hS
    rw [f_X10_answered] at hf
    refine lv_aload_n hx hb dX10_answered_0 rfl (lv_at hl 0 rfl) ?_
    refine lv_iconst (v := (0 : Int32)) hx hb dX10_answered_1 (by decide) ?_
    refine va_put (D := D) (ci := 10) (v := .int (0 : Int32)) (ty := .int) (C := RX10) (T := TX10) (N := 12) hx hb hts kb_inX10 tyX10 tyX10_ok nmX10 hown hK.1 hP hD hS 0 rfl rfl 11 (by decide) (hK.2.w ww_2_163 rfl _) (fun _ h9 => h9) rfl (by decide +kernel) rfl rfl (Nat.le_of_ble_eq_true rfl) dX10_answered_2 (fun H locs hP hD hS => ?_)
    have hP : va_P D vwCl (w_Top dA t g0 g1 g2 g3 g4 g5 g6 g7 g8 (tp_set_latestTrouble tp (0 : Int32))) H := hP
    have hD : va_D A (w_Top dA t g0 g1 g2 g3 g4 g5 g6 g7 g8 (tp_set_latestTrouble tp (0 : Int32))) := hD
    refine lv_iload_n hx hb dX10_answered_5 rfl (lv_at hl 1 rfl) ?_
    exact RET _ _ H _ ls 6 hf hP hD hS dX10_answered_6
  exact E0 _ _ hP hD hS

noncomputable def f_X10_isRider_b26 (tp : TopT) (pl : PlanT)  : Option (Int32) := some ((0 : Int32))
noncomputable def f_X10_isRider (tp : TopT) (pl : PlanT) (x0 : Int32) : Option (Int32) := (if (tp_hasBus tp) = 0 then f_X10_isRider_b26 tp pl  else (if x0 < 0 then f_X10_isRider_b26 tp pl  else (if (pl_riderCount pl) ≤ x0 then f_X10_isRider_b26 tp pl  else some ((1 : Int32)))))
set_option maxHeartbeats 4000000 in
set_option maxRecDepth 100000 in
theorem c_X10_isRider (l : Launch) (D : va_G) (dA : Nat → ClassId) (sz : Nat) (t : Nat → Nat) (pa : Nat → Nat) (g0 : Nat) (g2 : Nat) (g3 : Nat) (g4 : Nat) (g5 : Nat) (g6 : Nat) (g7 : Nat) (g8 : Nat) (tp : TopT) (pl : PlanT) (x0 : Int32) (rv : Int32) (hf : f_X10_isRider tp pl x0 = some (rv)) : kb_Mi l yX10_isRider cX10_isRider 2 (some .boolean) ({ frames := 0, cells := 0, slots := 0, locals := 0 } : Room) D dA [.ref (t 0), .int x0] sz (w_Top dA t g0 (pa 0) g2 g3 g4 g5 g6 g7 g8 tp ++ (w_Plan dA pa pl)) 0 0 rv (w_Top dA t g0 (pa 0) g2 g3 g4 g5 g6 g7 g8 tp ++ (w_Plan dA pa pl)) := by
  refine Met.ofW (cc := cX10_isRider) (maxL := 2) (ret := (some .boolean)) (by decide) rfl ?_
  intro p e s m args below meth c s₁ B hml hv
  obtain ⟨rfl, hsz, hP, hK, hD0, hE⟩ := hv
  have hx := B.exec
  have hb := B.bytes
  have hr := B.returns
  have hown : s.vm.findClass RX10 = some m.cls := findClass_of_methodNamed B.named
  have hlocks := B.notSynchronized
  have hts : ∀ w ∈ kb_gw, w.before ([.ref (t 0), .int x0] : List Value).toArray s = true := fun w hw => hK.2.1 w hw _
  subst hsz
  have hD := hD0.self (sz := s.heap.size)
  generalize hAe : va_A (w_Top dA t g0 (pa 0) g2 g3 g4 g5 g6 g7 g8 tp ++ (w_Plan dA pa pl)) s.heap.size = A at hD hE ⊢
  have hA : ∀ q : Nat, s.heap.size ≤ q → A q := fun q h => by rw [← hAe]; exact Or.inr h
  have hS : va_S A s.heap s.heap [] := va_S.rf
  have hl := lv_entry ([.ref (t 0), .int x0]) (n := 2) (Nat.le_of_ble_eq_true rfl)
  rw [lg_entry_eq]
  generalize (lg_sl ([.ref (t 0), .int x0]) ++ List.replicate (2 - (lg_sl ([.ref (t 0), .int x0])).length) Slot.unset).toArray = ls at hl ⊢
  have hl : lv_has ls 2 [(0, .ref (t 0)), (1, .int x0)] := hl
  generalize hQ : MQ below (va_Qi (fun r (_ : Unit) => r = rv) (kb_B D A (w_Top dA t g0 (pa 0) g2 g3 g4 g5 g6 g7 g8 tp ++ (w_Plan dA pa pl))) A) ([.ref (t 0), .int x0] : List Value).toArray s 0 0 A = Q
  show W p l e ({ frames := 0, cells := 0, slots := 0, locals := 0 } : Room) s m ([.ref (t 0), .int x0] : List Value).toArray below meth c s.heap [] 0 0 Q (F0 m 0 ls [])
  have RET : ∀ (r2 : Int32) (H : Heap) (locs : List Loc) (ls : Array Slot) (pc : Nat), some (r2) = some (rv) → va_P D vwCl (w_Top dA t g0 (pa 0) g2 g3 g4 g5 g6 g7 g8 tp ++ (w_Plan dA pa pl)) H → va_D A (w_Top dA t g0 (pa 0) g2 g3 g4 g5 g6 g7 g8 tp ++ (w_Plan dA pa pl)) → va_S A s.heap H locs → kb_01 r2 → decode cX10_isRider pc = .ok (.ireturn, 1) → W p l e ({ frames := 0, cells := 0, slots := 0, locals := 0 } : Room) s m ([.ref (t 0), .int x0] : List Value).toArray below meth c H locs 0 0 Q (F0 m pc ls [.int r2]) := by
    intro r2 H locs ls pc hq hP hD hS h01 hd
    cases hq
    rw [← hQ]
    exact W.zret (ty := .boolean) hx hb hr (kb_nz h01) (fun t ht hW => ⟨⟨_, (), rfl, rfl, by rw [ht]; exact hP, hD⟩, hS.F ht⟩) hS.2.2 hd
  have B_26 : ∀  (H : Heap) (locs : List Loc) (ls : Array Slot), f_X10_isRider_b26 tp pl  = some (rv) → va_P D vwCl (w_Top dA t g0 (pa 0) g2 g3 g4 g5 g6 g7 g8 tp ++ (w_Plan dA pa pl)) H → va_D A (w_Top dA t g0 (pa 0) g2 g3 g4 g5 g6 g7 g8 tp ++ (w_Plan dA pa pl)) → va_S A s.heap H locs → lv_has ls 2 [] → W p l e ({ frames := 0, cells := 0, slots := 0, locals := 0 } : Room) s m ([.ref (t 0), .int x0] : List Value).toArray below meth c H locs 0 0 Q (F0 m 26 ls []) := by
    intro  H locs ls hf hP hD hS hl
    rw [f_X10_isRider_b26] at hf
    refine lv_iconst (v := (0 : Int32)) hx hb dX10_isRider_26 (by decide) ?_
    exact RET _ H _ ls 27 hf hP hD hS (by decide) dX10_isRider_27
  have E0 : ∀ (H : Heap) (locs : List Loc), va_P D vwCl (w_Top dA t g0 (pa 0) g2 g3 g4 g5 g6 g7 g8 tp ++ (w_Plan dA pa pl)) H → va_D A (w_Top dA t g0 (pa 0) g2 g3 g4 g5 g6 g7 g8 tp ++ (w_Plan dA pa pl)) → va_S A s.heap H locs → W p l e ({ frames := 0, cells := 0, slots := 0, locals := 0 } : Room) s m ([.ref (t 0), .int x0] : List Value).toArray below meth c H locs 0 0 Q (F0 m 0 ls []) := by
    intro H locs hP hD hS
    rw [f_X10_isRider] at hf
    refine lv_aload_n hx hb dX10_isRider_0 rfl (lv_at hl 0 rfl) ?_
    refine va_get (D := D) (ci := 10) (v := .int (tp_hasBus tp)) (C := RX10) (T := TX10) (N := 12) hx hb hts kb_inX10 hown hK.1 hP 0 rfl rfl 3 (by decide) (hK.2.w ww_2_155 rfl _) (fun _ h9 => h9) rfl dX10_isRider_1 ?_
    refine lv_if_eq (tgt := 26) hx hb dX10_isRider_4 (by decide) (fun c_1 => ?_) (fun c_1 => ?_)
    · rw [if_pos c_1] at hf
      exact B_26 _ _ _ hf hP hD hS (lv_sub hl [] rfl)
    · rw [if_neg c_1] at hf
      refine lv_iload_n hx hb dX10_isRider_7 rfl (lv_at hl 1 rfl) ?_
      refine lv_if_lt (tgt := 26) hx hb dX10_isRider_8 (by decide) (fun c_2 => ?_) (fun c_2 => ?_)
      · rw [if_pos c_2] at hf
        exact B_26 _ _ _ hf hP hD hS (lv_sub hl [] rfl)
      · rw [if_neg c_2] at hf
        refine lv_iload_n hx hb dX10_isRider_11 rfl (lv_at hl 1 rfl) ?_
        refine lv_aload_n hx hb dX10_isRider_12 rfl (lv_at hl 0 rfl) ?_
        refine va_get (D := D) (ci := 10) (v := .ref (pa 0)) (C := RX10) (T := TX10) (N := 12) hx hb hts kb_inX10 hown hK.1 hP 0 rfl rfl 1 (by decide) (hK.2.w ww_2_153 rfl _) (fun _ h9 => h9) rfl dX10_isRider_13 ?_
        refine va_get (D := D) (ci := 5) (v := .int (pl_riderCount pl)) (C := RX5) (T := TX5) (N := 8) hx hb hts kb_inX5 hown hK.1 hP 1 rfl rfl 5 (by decide) (hK.2.w ww_1_236 rfl _) (fun _ h9 => h9) rfl dX10_isRider_16 ?_
        refine lv_icmp_ge (tgt := 26) hx hb dX10_isRider_19 (by decide) (fun c_3 => ?_) (fun c_3 => ?_)
        · rw [if_pos c_3] at hf
          exact B_26 _ _ _ hf hP hD hS (lv_sub hl [] rfl)
        · rw [if_neg c_3] at hf
          refine lv_iconst (v := (1 : Int32)) hx hb dX10_isRider_22 (by decide) ?_
          refine lv_goto (tgt := 27) hx hb dX10_isRider_23 (by decide) ?_
          exact RET _ H _ ls 27 hf hP hD hS (by decide) dX10_isRider_27
  exact E0 _ _ hP hD hS

noncomputable def f_X10_isRule_b26 (tp : TopT) (pl : PlanT)  : Option (Int32) := some ((0 : Int32))
noncomputable def f_X10_isRule (tp : TopT) (pl : PlanT) (x0 : Int32) : Option (Int32) := (if (tp_hasBus tp) = 0 then f_X10_isRule_b26 tp pl  else (if x0 < 0 then f_X10_isRule_b26 tp pl  else (if (pl_ruleCount pl) ≤ x0 then f_X10_isRule_b26 tp pl  else some ((1 : Int32)))))
set_option maxHeartbeats 4000000 in
set_option maxRecDepth 100000 in
theorem c_X10_isRule (l : Launch) (D : va_G) (dA : Nat → ClassId) (sz : Nat) (t : Nat → Nat) (pa : Nat → Nat) (g0 : Nat) (g2 : Nat) (g3 : Nat) (g4 : Nat) (g5 : Nat) (g6 : Nat) (g7 : Nat) (g8 : Nat) (tp : TopT) (pl : PlanT) (x0 : Int32) (rv : Int32) (hf : f_X10_isRule tp pl x0 = some (rv)) : kb_Mi l yX10_isRule cX10_isRule 2 (some .boolean) ({ frames := 0, cells := 0, slots := 0, locals := 0 } : Room) D dA [.ref (t 0), .int x0] sz (w_Top dA t g0 (pa 0) g2 g3 g4 g5 g6 g7 g8 tp ++ (w_Plan dA pa pl)) 0 0 rv (w_Top dA t g0 (pa 0) g2 g3 g4 g5 g6 g7 g8 tp ++ (w_Plan dA pa pl)) := by
  refine Met.ofW (cc := cX10_isRule) (maxL := 2) (ret := (some .boolean)) (by decide) rfl ?_
  intro p e s m args below meth c s₁ B hml hv
  obtain ⟨rfl, hsz, hP, hK, hD0, hE⟩ := hv
  have hx := B.exec
  have hb := B.bytes
  have hr := B.returns
  have hown : s.vm.findClass RX10 = some m.cls := findClass_of_methodNamed B.named
  have hlocks := B.notSynchronized
  have hts : ∀ w ∈ kb_gw, w.before ([.ref (t 0), .int x0] : List Value).toArray s = true := fun w hw => hK.2.1 w hw _
  subst hsz
  have hD := hD0.self (sz := s.heap.size)
  generalize hAe : va_A (w_Top dA t g0 (pa 0) g2 g3 g4 g5 g6 g7 g8 tp ++ (w_Plan dA pa pl)) s.heap.size = A at hD hE ⊢
  have hA : ∀ q : Nat, s.heap.size ≤ q → A q := fun q h => by rw [← hAe]; exact Or.inr h
  have hS : va_S A s.heap s.heap [] := va_S.rf
  have hl := lv_entry ([.ref (t 0), .int x0]) (n := 2) (Nat.le_of_ble_eq_true rfl)
  rw [lg_entry_eq]
  generalize (lg_sl ([.ref (t 0), .int x0]) ++ List.replicate (2 - (lg_sl ([.ref (t 0), .int x0])).length) Slot.unset).toArray = ls at hl ⊢
  have hl : lv_has ls 2 [(0, .ref (t 0)), (1, .int x0)] := hl
  generalize hQ : MQ below (va_Qi (fun r (_ : Unit) => r = rv) (kb_B D A (w_Top dA t g0 (pa 0) g2 g3 g4 g5 g6 g7 g8 tp ++ (w_Plan dA pa pl))) A) ([.ref (t 0), .int x0] : List Value).toArray s 0 0 A = Q
  show W p l e ({ frames := 0, cells := 0, slots := 0, locals := 0 } : Room) s m ([.ref (t 0), .int x0] : List Value).toArray below meth c s.heap [] 0 0 Q (F0 m 0 ls [])
  have RET : ∀ (r2 : Int32) (H : Heap) (locs : List Loc) (ls : Array Slot) (pc : Nat), some (r2) = some (rv) → va_P D vwCl (w_Top dA t g0 (pa 0) g2 g3 g4 g5 g6 g7 g8 tp ++ (w_Plan dA pa pl)) H → va_D A (w_Top dA t g0 (pa 0) g2 g3 g4 g5 g6 g7 g8 tp ++ (w_Plan dA pa pl)) → va_S A s.heap H locs → kb_01 r2 → decode cX10_isRule pc = .ok (.ireturn, 1) → W p l e ({ frames := 0, cells := 0, slots := 0, locals := 0 } : Room) s m ([.ref (t 0), .int x0] : List Value).toArray below meth c H locs 0 0 Q (F0 m pc ls [.int r2]) := by
    intro r2 H locs ls pc hq hP hD hS h01 hd
    cases hq
    rw [← hQ]
    exact W.zret (ty := .boolean) hx hb hr (kb_nz h01) (fun t ht hW => ⟨⟨_, (), rfl, rfl, by rw [ht]; exact hP, hD⟩, hS.F ht⟩) hS.2.2 hd
  have B_26 : ∀  (H : Heap) (locs : List Loc) (ls : Array Slot), f_X10_isRule_b26 tp pl  = some (rv) → va_P D vwCl (w_Top dA t g0 (pa 0) g2 g3 g4 g5 g6 g7 g8 tp ++ (w_Plan dA pa pl)) H → va_D A (w_Top dA t g0 (pa 0) g2 g3 g4 g5 g6 g7 g8 tp ++ (w_Plan dA pa pl)) → va_S A s.heap H locs → lv_has ls 2 [] → W p l e ({ frames := 0, cells := 0, slots := 0, locals := 0 } : Room) s m ([.ref (t 0), .int x0] : List Value).toArray below meth c H locs 0 0 Q (F0 m 26 ls []) := by
    intro  H locs ls hf hP hD hS hl
    rw [f_X10_isRule_b26] at hf
    refine lv_iconst (v := (0 : Int32)) hx hb dX10_isRule_26 (by decide) ?_
    exact RET _ H _ ls 27 hf hP hD hS (by decide) dX10_isRule_27
  have E0 : ∀ (H : Heap) (locs : List Loc), va_P D vwCl (w_Top dA t g0 (pa 0) g2 g3 g4 g5 g6 g7 g8 tp ++ (w_Plan dA pa pl)) H → va_D A (w_Top dA t g0 (pa 0) g2 g3 g4 g5 g6 g7 g8 tp ++ (w_Plan dA pa pl)) → va_S A s.heap H locs → W p l e ({ frames := 0, cells := 0, slots := 0, locals := 0 } : Room) s m ([.ref (t 0), .int x0] : List Value).toArray below meth c H locs 0 0 Q (F0 m 0 ls []) := by
    intro H locs hP hD hS
    rw [f_X10_isRule] at hf
    refine lv_aload_n hx hb dX10_isRule_0 rfl (lv_at hl 0 rfl) ?_
    refine va_get (D := D) (ci := 10) (v := .int (tp_hasBus tp)) (C := RX10) (T := TX10) (N := 12) hx hb hts kb_inX10 hown hK.1 hP 0 rfl rfl 3 (by decide) (hK.2.w ww_2_155 rfl _) (fun _ h9 => h9) rfl dX10_isRule_1 ?_
    refine lv_if_eq (tgt := 26) hx hb dX10_isRule_4 (by decide) (fun c_1 => ?_) (fun c_1 => ?_)
    · rw [if_pos c_1] at hf
      exact B_26 _ _ _ hf hP hD hS (lv_sub hl [] rfl)
    · rw [if_neg c_1] at hf
      refine lv_iload_n hx hb dX10_isRule_7 rfl (lv_at hl 1 rfl) ?_
      refine lv_if_lt (tgt := 26) hx hb dX10_isRule_8 (by decide) (fun c_2 => ?_) (fun c_2 => ?_)
      · rw [if_pos c_2] at hf
        exact B_26 _ _ _ hf hP hD hS (lv_sub hl [] rfl)
      · rw [if_neg c_2] at hf
        refine lv_iload_n hx hb dX10_isRule_11 rfl (lv_at hl 1 rfl) ?_
        refine lv_aload_n hx hb dX10_isRule_12 rfl (lv_at hl 0 rfl) ?_
        refine va_get (D := D) (ci := 10) (v := .ref (pa 0)) (C := RX10) (T := TX10) (N := 12) hx hb hts kb_inX10 hown hK.1 hP 0 rfl rfl 1 (by decide) (hK.2.w ww_2_153 rfl _) (fun _ h9 => h9) rfl dX10_isRule_13 ?_
        refine va_get (D := D) (ci := 5) (v := .int (pl_ruleCount pl)) (C := RX5) (T := TX5) (N := 8) hx hb hts kb_inX5 hown hK.1 hP 1 rfl rfl 4 (by decide) (hK.2.w ww_1_231 rfl _) (fun _ h9 => h9) rfl dX10_isRule_16 ?_
        refine lv_icmp_ge (tgt := 26) hx hb dX10_isRule_19 (by decide) (fun c_3 => ?_) (fun c_3 => ?_)
        · rw [if_pos c_3] at hf
          exact B_26 _ _ _ hf hP hD hS (lv_sub hl [] rfl)
        · rw [if_neg c_3] at hf
          refine lv_iconst (v := (1 : Int32)) hx hb dX10_isRule_22 (by decide) ?_
          refine lv_goto (tgt := 27) hx hb dX10_isRule_23 (by decide) ?_
          exact RET _ H _ ls 27 hf hP hD hS (by decide) dX10_isRule_27
  exact E0 _ _ hP hD hS

noncomputable def f_X10_isSeat_b38 (tp : TopT) (pl : PlanT)  : Option (Int32) := some ((0 : Int32))
noncomputable def f_X10_isSeat (tp : TopT) (pl : PlanT) (x0 : Int32) : Option (Int32) := (if (tp_hasBus tp) = 0 then f_X10_isSeat_b38 tp pl  else (if x0 < 0 then f_X10_isSeat_b38 tp pl  else (if (20 : Int32) ≤ x0 then f_X10_isSeat_b38 tp pl  else (f_X10_holdsBit (cb_seats (pl_cab pl)) x0).bind fun r4 => (if r4 = 0 then f_X10_isSeat_b38 tp pl  else some ((1 : Int32))))))
set_option maxHeartbeats 4000000 in
set_option maxRecDepth 100000 in
theorem c_X10_isSeat (l : Launch) (D : va_G) (dA : Nat → ClassId) (sz : Nat) (t : Nat → Nat) (pa : Nat → Nat) (g0 : Nat) (g2 : Nat) (g3 : Nat) (g4 : Nat) (g5 : Nat) (g6 : Nat) (g7 : Nat) (g8 : Nat) (tp : TopT) (pl : PlanT) (x0 : Int32) (rv : Int32) (hf : f_X10_isSeat tp pl x0 = some (rv)) : kb_Mi l yX10_isSeat cX10_isSeat 2 (some .boolean) ({ frames := 1, cells := 0, slots := 0, locals := 21 } : Room) D dA [.ref (t 0), .int x0] sz (w_Top dA t g0 (pa 0) g2 g3 g4 g5 g6 g7 g8 tp ++ (w_Plan dA pa pl)) 0 0 rv (w_Top dA t g0 (pa 0) g2 g3 g4 g5 g6 g7 g8 tp ++ (w_Plan dA pa pl)) := by
  refine Met.ofW (cc := cX10_isSeat) (maxL := 2) (ret := (some .boolean)) (by decide) rfl ?_
  intro p e s m args below meth c s₁ B hml hv
  obtain ⟨rfl, hsz, hP, hK, hD0, hE⟩ := hv
  have hx := B.exec
  have hb := B.bytes
  have hr := B.returns
  have hown : s.vm.findClass RX10 = some m.cls := findClass_of_methodNamed B.named
  have hlocks := B.notSynchronized
  have hts : ∀ w ∈ kb_gw, w.before ([.ref (t 0), .int x0] : List Value).toArray s = true := fun w hw => hK.2.1 w hw _
  subst hsz
  have hD := hD0.self (sz := s.heap.size)
  generalize hAe : va_A (w_Top dA t g0 (pa 0) g2 g3 g4 g5 g6 g7 g8 tp ++ (w_Plan dA pa pl)) s.heap.size = A at hD hE ⊢
  have hA : ∀ q : Nat, s.heap.size ≤ q → A q := fun q h => by rw [← hAe]; exact Or.inr h
  have hS : va_S A s.heap s.heap [] := va_S.rf
  have hl := lv_entry ([.ref (t 0), .int x0]) (n := 2) (Nat.le_of_ble_eq_true rfl)
  rw [lg_entry_eq]
  generalize (lg_sl ([.ref (t 0), .int x0]) ++ List.replicate (2 - (lg_sl ([.ref (t 0), .int x0])).length) Slot.unset).toArray = ls at hl ⊢
  have hl : lv_has ls 2 [(0, .ref (t 0)), (1, .int x0)] := hl
  generalize hQ : MQ below (va_Qi (fun r (_ : Unit) => r = rv) (kb_B D A (w_Top dA t g0 (pa 0) g2 g3 g4 g5 g6 g7 g8 tp ++ (w_Plan dA pa pl))) A) ([.ref (t 0), .int x0] : List Value).toArray s 0 0 A = Q
  show W p l e ({ frames := 1, cells := 0, slots := 0, locals := 21 } : Room) s m ([.ref (t 0), .int x0] : List Value).toArray below meth c s.heap [] 0 0 Q (F0 m 0 ls [])
  have RET : ∀ (r2 : Int32) (H : Heap) (locs : List Loc) (ls : Array Slot) (pc : Nat), some (r2) = some (rv) → va_P D vwCl (w_Top dA t g0 (pa 0) g2 g3 g4 g5 g6 g7 g8 tp ++ (w_Plan dA pa pl)) H → va_D A (w_Top dA t g0 (pa 0) g2 g3 g4 g5 g6 g7 g8 tp ++ (w_Plan dA pa pl)) → va_S A s.heap H locs → kb_01 r2 → decode cX10_isSeat pc = .ok (.ireturn, 1) → W p l e ({ frames := 1, cells := 0, slots := 0, locals := 21 } : Room) s m ([.ref (t 0), .int x0] : List Value).toArray below meth c H locs 0 0 Q (F0 m pc ls [.int r2]) := by
    intro r2 H locs ls pc hq hP hD hS h01 hd
    cases hq
    rw [← hQ]
    exact W.zret (ty := .boolean) hx hb hr (kb_nz h01) (fun t ht hW => ⟨⟨_, (), rfl, rfl, by rw [ht]; exact hP, hD⟩, hS.F ht⟩) hS.2.2 hd
  have B_38 : ∀  (H : Heap) (locs : List Loc) (ls : Array Slot), f_X10_isSeat_b38 tp pl  = some (rv) → va_P D vwCl (w_Top dA t g0 (pa 0) g2 g3 g4 g5 g6 g7 g8 tp ++ (w_Plan dA pa pl)) H → va_D A (w_Top dA t g0 (pa 0) g2 g3 g4 g5 g6 g7 g8 tp ++ (w_Plan dA pa pl)) → va_S A s.heap H locs → lv_has ls 2 [] → W p l e ({ frames := 1, cells := 0, slots := 0, locals := 21 } : Room) s m ([.ref (t 0), .int x0] : List Value).toArray below meth c H locs 0 0 Q (F0 m 38 ls []) := by
    intro  H locs ls hf hP hD hS hl
    rw [f_X10_isSeat_b38] at hf
    refine lv_iconst (v := (0 : Int32)) hx hb dX10_isSeat_38 (by decide) ?_
    exact RET _ H _ ls 39 hf hP hD hS (by decide) dX10_isSeat_39
  have E0 : ∀ (H : Heap) (locs : List Loc), va_P D vwCl (w_Top dA t g0 (pa 0) g2 g3 g4 g5 g6 g7 g8 tp ++ (w_Plan dA pa pl)) H → va_D A (w_Top dA t g0 (pa 0) g2 g3 g4 g5 g6 g7 g8 tp ++ (w_Plan dA pa pl)) → va_S A s.heap H locs → W p l e ({ frames := 1, cells := 0, slots := 0, locals := 21 } : Room) s m ([.ref (t 0), .int x0] : List Value).toArray below meth c H locs 0 0 Q (F0 m 0 ls []) := by
    intro H locs hP hD hS
    rw [f_X10_isSeat] at hf
    refine lv_aload_n hx hb dX10_isSeat_0 rfl (lv_at hl 0 rfl) ?_
    refine va_get (D := D) (ci := 10) (v := .int (tp_hasBus tp)) (C := RX10) (T := TX10) (N := 12) hx hb hts kb_inX10 hown hK.1 hP 0 rfl rfl 3 (by decide) (hK.2.w ww_2_155 rfl _) (fun _ h9 => h9) rfl dX10_isSeat_1 ?_
    refine lv_if_eq (tgt := 38) hx hb dX10_isSeat_4 (by decide) (fun c_1 => ?_) (fun c_1 => ?_)
    · rw [if_pos c_1] at hf
      exact B_38 _ _ _ hf hP hD hS (lv_sub hl [] rfl)
    · rw [if_neg c_1] at hf
      refine lv_iload_n hx hb dX10_isSeat_7 rfl (lv_at hl 1 rfl) ?_
      refine lv_if_lt (tgt := 38) hx hb dX10_isSeat_8 (by decide) (fun c_2 => ?_) (fun c_2 => ?_)
      · rw [if_pos c_2] at hf
        exact B_38 _ _ _ hf hP hD hS (lv_sub hl [] rfl)
      · rw [if_neg c_2] at hf
        refine lv_iload_n hx hb dX10_isSeat_11 rfl (lv_at hl 1 rfl) ?_
        refine lv_bipush (v := (20 : Int32)) hx hb dX10_isSeat_12 (by decide) ?_
        refine lv_icmp_ge (tgt := 38) hx hb dX10_isSeat_14 (by decide) (fun c_3 => ?_) (fun c_3 => ?_)
        · rw [if_pos c_3] at hf
          exact B_38 _ _ _ hf hP hD hS (lv_sub hl [] rfl)
        · rw [if_neg c_3] at hf
          refine lv_aload_n hx hb dX10_isSeat_17 rfl (lv_at hl 0 rfl) ?_
          refine va_get (D := D) (ci := 10) (v := .ref (pa 0)) (C := RX10) (T := TX10) (N := 12) hx hb hts kb_inX10 hown hK.1 hP 0 rfl rfl 1 (by decide) (hK.2.w ww_2_153 rfl _) (fun _ h9 => h9) rfl dX10_isSeat_18 ?_
          refine va_get (D := D) (ci := 5) (v := .ref (pa 1)) (C := RX5) (T := TX5) (N := 8) hx hb hts kb_inX5 hown hK.1 hP 1 rfl rfl 0 (by decide) (hK.2.w ww_1_215 rfl _) (fun _ h9 => h9) rfl dX10_isSeat_21 ?_
          refine va_get (D := D) (ci := 0) (v := .int (cb_seats (pl_cab pl))) (C := RX0) (T := TX0) (N := 8) hx hb hts kb_inX0 hown hK.1 hP 2 rfl rfl 6 (by decide) (hK.2.w ww_1_107 rfl _) (fun _ h9 => h9) rfl dX10_isSeat_24 ?_
          refine lv_iload_n hx hb dX10_isSeat_27 rfl (lv_at hl 1 rfl) ?_
          obtain ⟨r4, hc4, hf⟩ := kb_bind hf
          refine kb_ci (ws2 := (w_Top dA t g0 (pa 0) g2 g3 g4 g5 g6 g7 g8 tp ++ (w_Plan dA pa pl))) (kb_rS (n := 2) (As := [.int (cb_seats (pl_cab pl)), .int x0]) (rest := []) hx hb hml hown hK (c_X10_holdsBit l D dA H.size (cb_seats (pl_cab pl)) x0 r4 hc4) ⟨ww_3_158, ww_4_55, ww_3_157, ww_1_1, by decide, by decide⟩ rfl rfl (by decide +kernel) ⟨Nat.le_of_ble_eq_true rfl, Nat.le_of_ble_eq_true rfl⟩ hP hD hS hA hE [] rfl (by decide) rfl hl.1 rfl (Nat.le_of_ble_eq_true rfl) dX10_isSeat_28 ⟨Nat.le_of_ble_eq_true rfl, Nat.le_of_ble_eq_true rfl⟩) hP hD hS hA [] [0, 1, 2, 3, 4, 5, 6, 7, 8, 9, 10, 11, 12, 13, 14, 15, 16, 17, 18, 19, 20, 21] [0, 1, 2, 3, 4, 5, 6, 7, 8, 9, 10, 11, 12, 13, 14, 15, 16, 17, 18, 19, 20, 21] rfl rfl (by decide) (by decide) rfl (by decide) (fun H locs hP hD hS => ?_)
          refine lv_if_eq (tgt := 38) hx hb dX10_isSeat_31 (by decide) (fun c_5 => ?_) (fun c_5 => ?_)
          · rw [if_pos c_5] at hf
            exact B_38 _ _ _ hf hP hD hS (lv_sub hl [] rfl)
          · rw [if_neg c_5] at hf
            refine lv_iconst (v := (1 : Int32)) hx hb dX10_isSeat_34 (by decide) ?_
            refine lv_goto (tgt := 39) hx hb dX10_isSeat_35 (by decide) ?_
            exact RET _ H _ ls 39 hf hP hD hS (by decide) dX10_isSeat_39
  exact E0 _ _ hP hD hS

noncomputable def f_X10_feed_b51 (tp : TopT) (v5 : Int32) (z1 : ParserT) : Option (Int32 × ParserT) := (f_X4_append z1 v5).bind fun r6 => some ((ps_length r6), r6)
noncomputable def f_X10_feed_b34 (tp : TopT) (v3 : Int32) (v4 : Int32) (v5 : Int32) (z1 : ParserT) : Option (Int32 × ParserT) := (f_X4_append z1 v3).bind fun r4 => (f_X4_append r4 v4).bind fun r5 => f_X10_feed_b51 tp v5 r5
noncomputable def f_X10_feed (tp : TopT) (ps : ParserT) (x0 : Int32) (x1 : Int32) (x2 : Int32) (x3 : Int32) (x4 : Int32) : Option (Int32 × ParserT) := (if ((ps_length ps) + (20 : Int32)) ≤ (900 : Int32) then (f_X4_append ps x0).bind fun r2 => (f_X4_append r2 x1).bind fun r3 => f_X10_feed_b34 tp x2 x3 x4 r3 else some ((-1 : Int32), ps))
set_option maxHeartbeats 4000000 in
set_option maxRecDepth 100000 in
theorem c_X10_feed (l : Launch) (D : va_G) (dA : Nat → ClassId) (sz : Nat) (t : Nat → Nat) (a : Nat → Nat) (g1 : Nat) (g2 : Nat) (g3 : Nat) (g4 : Nat) (g5 : Nat) (g6 : Nat) (g7 : Nat) (g8 : Nat) (tp : TopT) (ps : ParserT) (x0 : Int32) (x1 : Int32) (x2 : Int32) (x3 : Int32) (x4 : Int32) (rv : Int32) (u1 : ParserT) (hf : f_X10_feed tp ps x0 x1 x2 x3 x4 = some (rv, u1)) : kb_Mi l yX10_feed cX10_feed 6 (some .int) ({ frames := 1, cells := 0, slots := 0, locals := 22 } : Room) D dA [.ref (t 0), .int x0, .int x1, .int x2, .int x3, .int x4] sz (w_Top dA t (a 0) g1 g2 g3 g4 g5 g6 g7 g8 tp ++ (w_Parser dA a ps)) 0 0 rv (w_Top dA t (a 0) g1 g2 g3 g4 g5 g6 g7 g8 tp ++ (w_Parser dA a u1)) := by
  refine Met.ofW (cc := cX10_feed) (maxL := 6) (ret := (some .int)) (by decide) rfl ?_
  intro p e s m args below meth c s₁ B hml hv
  obtain ⟨rfl, hsz, hP, hK, hD0, hE⟩ := hv
  have hx := B.exec
  have hb := B.bytes
  have hr := B.returns
  have hown : s.vm.findClass RX10 = some m.cls := findClass_of_methodNamed B.named
  have hlocks := B.notSynchronized
  have hts : ∀ w ∈ kb_gw, w.before ([.ref (t 0), .int x0, .int x1, .int x2, .int x3, .int x4] : List Value).toArray s = true := fun w hw => hK.2.1 w hw _
  subst hsz
  have hD := hD0.self (sz := s.heap.size)
  generalize hAe : va_A (w_Top dA t (a 0) g1 g2 g3 g4 g5 g6 g7 g8 tp ++ (w_Parser dA a ps)) s.heap.size = A at hD hE ⊢
  have hA : ∀ q : Nat, s.heap.size ≤ q → A q := fun q h => by rw [← hAe]; exact Or.inr h
  have hS : va_S A s.heap s.heap [] := va_S.rf
  have hl := lv_entry ([.ref (t 0), .int x0, .int x1, .int x2, .int x3, .int x4]) (n := 6) (Nat.le_of_ble_eq_true rfl)
  rw [lg_entry_eq]
  generalize (lg_sl ([.ref (t 0), .int x0, .int x1, .int x2, .int x3, .int x4]) ++ List.replicate (6 - (lg_sl ([.ref (t 0), .int x0, .int x1, .int x2, .int x3, .int x4])).length) Slot.unset).toArray = ls at hl ⊢
  have hl : lv_has ls 6 [(0, .ref (t 0)), (1, .int x0), (2, .int x1), (3, .int x2), (4, .int x3), (5, .int x4)] := hl
  generalize hQ : MQ below (va_Qi (fun r (_ : Unit) => r = rv) (kb_B D A (w_Top dA t (a 0) g1 g2 g3 g4 g5 g6 g7 g8 tp ++ (w_Parser dA a u1))) A) ([.ref (t 0), .int x0, .int x1, .int x2, .int x3, .int x4] : List Value).toArray s 0 0 A = Q
  show W p l e ({ frames := 1, cells := 0, slots := 0, locals := 22 } : Room) s m ([.ref (t 0), .int x0, .int x1, .int x2, .int x3, .int x4] : List Value).toArray below meth c s.heap [] 0 0 Q (F0 m 0 ls [])
  have RET : ∀ (r2 : Int32) (w1 : ParserT) (H : Heap) (locs : List Loc) (ls : Array Slot) (pc : Nat), some (r2, w1) = some (rv, u1) → va_P D vwCl (w_Top dA t (a 0) g1 g2 g3 g4 g5 g6 g7 g8 tp ++ (w_Parser dA a w1)) H → va_D A (w_Top dA t (a 0) g1 g2 g3 g4 g5 g6 g7 g8 tp ++ (w_Parser dA a w1)) → va_S A s.heap H locs → decode cX10_feed pc = .ok (.ireturn, 1) → W p l e ({ frames := 1, cells := 0, slots := 0, locals := 22 } : Room) s m ([.ref (t 0), .int x0, .int x1, .int x2, .int x3, .int x4] : List Value).toArray below meth c H locs 0 0 Q (F0 m pc ls [.int r2]) := by
    intro r2 w1 H locs ls pc hq hP hD hS hd
    cases hq
    rw [← hQ]
    exact W.iret hx hb hr (fun t ht hW => ⟨⟨_, (), rfl, rfl, by rw [ht]; exact hP, hD⟩, hS.F ht⟩) hS.2.2 hd
  have B_51 : ∀ (v5 : Int32) (z1 : ParserT) (H : Heap) (locs : List Loc) (ls : Array Slot), f_X10_feed_b51 tp v5 z1 = some (rv, u1) → va_P D vwCl (w_Top dA t (a 0) g1 g2 g3 g4 g5 g6 g7 g8 tp ++ (w_Parser dA a z1)) H → va_D A (w_Top dA t (a 0) g1 g2 g3 g4 g5 g6 g7 g8 tp ++ (w_Parser dA a z1)) → va_S A s.heap H locs → lv_has ls 6 [(0, .ref (t 0)), (5, .int v5)] → W p l e ({ frames := 1, cells := 0, slots := 0, locals := 22 } : Room) s m ([.ref (t 0), .int x0, .int x1, .int x2, .int x3, .int x4] : List Value).toArray below meth c H locs 0 0 Q (F0 m 51 ls []) := by
    intro v5 z1 H locs ls hf hP hD hS hl
    rw [f_X10_feed_b51] at hf
    refine lv_aload_n hx hb dX10_feed_51 rfl (lv_at hl 0 rfl) ?_
    refine va_get (D := D) (ci := 10) (v := .ref (a 0)) (C := RX10) (T := TX10) (N := 12) hx hb hts kb_inX10 hown hK.1 hP 0 rfl rfl 0 (by decide) (hK.2.w ww_2_152 rfl _) (fun _ h9 => h9) rfl dX10_feed_52 ?_
    refine lv_iload hx hb dX10_feed_55 (lv_at hl 1 rfl) ?_
    obtain ⟨r6, hc6, hf⟩ := kb_bind hf
    refine kb_cv (ws2 := (w_Top dA t (a 0) g1 g2 g3 g4 g5 g6 g7 g8 tp ++ (w_Parser dA a r6))) (kb_rV (n := 1) (As := [.int v5]) (rest := []) hx hb hml hown hK (c_X4_append l D dA H.size a z1 v5 r6 hc6) ⟨ww_2_196, ww_2_193, ww_2_194, ww_2_195, ww_1_2, rfl, by decide, by decide⟩ rfl rfl (by decide +kernel) ⟨Nat.le_of_ble_eq_true rfl, Nat.le_of_ble_eq_true rfl⟩ hP hD hS hA hE [1, 2] rfl (by decide) 0 rfl rfl rfl hl.1 rfl (Nat.le_of_ble_eq_true rfl) dX10_feed_57 ⟨Nat.le_of_ble_eq_true rfl, Nat.le_of_ble_eq_true rfl⟩) hP hD hS hA [1, 2] [0] [0, 1, 2] rfl rfl (by decide) (by decide) rfl (by decide) (fun H locs hP hD hS => ?_)
    refine lv_aload_n hx hb dX10_feed_60 rfl (lv_at hl 0 rfl) ?_
    refine va_get (D := D) (ci := 10) (v := .ref (a 0)) (C := RX10) (T := TX10) (N := 12) hx hb hts kb_inX10 hown hK.1 hP 0 rfl rfl 0 (by decide) (hK.2.w ww_2_152 rfl _) (fun _ h9 => h9) rfl dX10_feed_61 ?_
    refine va_get (D := D) (ci := 4) (v := .int (ps_length r6)) (C := RX4) (T := TX4) (N := 10) hx hb hts kb_inX4 hown hK.1 hP 1 rfl rfl 0 (by decide) (hK.2.w ww_1_39 rfl _) (fun _ h9 => h9) rfl dX10_feed_64 ?_
    exact RET _ _ H _ ls 67 hf hP hD hS dX10_feed_67
  have B_34 : ∀ (v3 : Int32) (v4 : Int32) (v5 : Int32) (z1 : ParserT) (H : Heap) (locs : List Loc) (ls : Array Slot), f_X10_feed_b34 tp v3 v4 v5 z1 = some (rv, u1) → va_P D vwCl (w_Top dA t (a 0) g1 g2 g3 g4 g5 g6 g7 g8 tp ++ (w_Parser dA a z1)) H → va_D A (w_Top dA t (a 0) g1 g2 g3 g4 g5 g6 g7 g8 tp ++ (w_Parser dA a z1)) → va_S A s.heap H locs → lv_has ls 6 [(0, .ref (t 0)), (3, .int v3), (4, .int v4), (5, .int v5)] → W p l e ({ frames := 1, cells := 0, slots := 0, locals := 22 } : Room) s m ([.ref (t 0), .int x0, .int x1, .int x2, .int x3, .int x4] : List Value).toArray below meth c H locs 0 0 Q (F0 m 34 ls []) := by
    intro v3 v4 v5 z1 H locs ls hf hP hD hS hl
    rw [f_X10_feed_b34] at hf
    refine lv_aload_n hx hb dX10_feed_34 rfl (lv_at hl 0 rfl) ?_
    refine va_get (D := D) (ci := 10) (v := .ref (a 0)) (C := RX10) (T := TX10) (N := 12) hx hb hts kb_inX10 hown hK.1 hP 0 rfl rfl 0 (by decide) (hK.2.w ww_2_152 rfl _) (fun _ h9 => h9) rfl dX10_feed_35 ?_
    refine lv_iload_n hx hb dX10_feed_38 rfl (lv_at hl 1 rfl) ?_
    obtain ⟨r4, hc4, hf⟩ := kb_bind hf
    refine kb_cv (ws2 := (w_Top dA t (a 0) g1 g2 g3 g4 g5 g6 g7 g8 tp ++ (w_Parser dA a r4))) (kb_rV (n := 1) (As := [.int v3]) (rest := []) hx hb hml hown hK (c_X4_append l D dA H.size a z1 v3 r4 hc4) ⟨ww_2_196, ww_2_193, ww_2_194, ww_2_195, ww_1_2, rfl, by decide, by decide⟩ rfl rfl (by decide +kernel) ⟨Nat.le_of_ble_eq_true rfl, Nat.le_of_ble_eq_true rfl⟩ hP hD hS hA hE [1, 2] rfl (by decide) 0 rfl rfl rfl hl.1 rfl (Nat.le_of_ble_eq_true rfl) dX10_feed_39 ⟨Nat.le_of_ble_eq_true rfl, Nat.le_of_ble_eq_true rfl⟩) hP hD hS hA [1, 2] [0] [0, 1, 2] rfl rfl (by decide) (by decide) rfl (by decide) (fun H locs hP hD hS => ?_)
    refine lv_aload_n hx hb dX10_feed_42 rfl (lv_at hl 0 rfl) ?_
    refine va_get (D := D) (ci := 10) (v := .ref (a 0)) (C := RX10) (T := TX10) (N := 12) hx hb hts kb_inX10 hown hK.1 hP 0 rfl rfl 0 (by decide) (hK.2.w ww_2_152 rfl _) (fun _ h9 => h9) rfl dX10_feed_43 ?_
    refine lv_iload hx hb dX10_feed_46 (lv_at hl 2 rfl) ?_
    obtain ⟨r5, hc5, hf⟩ := kb_bind hf
    refine kb_cv (ws2 := (w_Top dA t (a 0) g1 g2 g3 g4 g5 g6 g7 g8 tp ++ (w_Parser dA a r5))) (kb_rV (n := 1) (As := [.int v4]) (rest := []) hx hb hml hown hK (c_X4_append l D dA H.size a r4 v4 r5 hc5) ⟨ww_2_196, ww_2_193, ww_2_194, ww_2_195, ww_1_2, rfl, by decide, by decide⟩ rfl rfl (by decide +kernel) ⟨Nat.le_of_ble_eq_true rfl, Nat.le_of_ble_eq_true rfl⟩ hP hD hS hA hE [1, 2] rfl (by decide) 0 rfl rfl rfl hl.1 rfl (Nat.le_of_ble_eq_true rfl) dX10_feed_48 ⟨Nat.le_of_ble_eq_true rfl, Nat.le_of_ble_eq_true rfl⟩) hP hD hS hA [1, 2] [0] [0, 1, 2] rfl rfl (by decide) (by decide) rfl (by decide) (fun H locs hP hD hS => ?_)
    exact B_51 _ _ _ _ _ hf hP hD hS (lv_sub hl [0, 3] rfl)
  have E0 : ∀ (H : Heap) (locs : List Loc), va_P D vwCl (w_Top dA t (a 0) g1 g2 g3 g4 g5 g6 g7 g8 tp ++ (w_Parser dA a ps)) H → va_D A (w_Top dA t (a 0) g1 g2 g3 g4 g5 g6 g7 g8 tp ++ (w_Parser dA a ps)) → va_S A s.heap H locs → W p l e ({ frames := 1, cells := 0, slots := 0, locals := 22 } : Room) s m ([.ref (t 0), .int x0, .int x1, .int x2, .int x3, .int x4] : List Value).toArray below meth c H locs 0 0 Q (F0 m 0 ls []) := by
    intro H locs hP hD hS
    rw [f_X10_feed] at hf
    refine lv_aload_n hx hb dX10_feed_0 rfl (lv_at hl 0 rfl) ?_
    refine va_get (D := D) (ci := 10) (v := .ref (a 0)) (C := RX10) (T := TX10) (N := 12) hx hb hts kb_inX10 hown hK.1 hP 0 rfl rfl 0 (by decide) (hK.2.w ww_2_152 rfl _) (fun _ h9 => h9) rfl dX10_feed_1 ?_
    refine va_get (D := D) (ci := 4) (v := .int (ps_length ps)) (C := RX4) (T := TX4) (N := 10) hx hb hts kb_inX4 hown hK.1 hP 1 rfl rfl 0 (by decide) (hK.2.w ww_1_39 rfl _) (fun _ h9 => h9) rfl dX10_feed_4 ?_
    refine lv_bipush (v := (20 : Int32)) hx hb dX10_feed_7 (by decide) ?_
    refine lv_iadd hx hb dX10_feed_9 ?_
    refine lv_sipush (v := (900 : Int32)) hx hb dX10_feed_10 (by decide) ?_
    refine lv_icmp_le (tgt := 18) hx hb dX10_feed_13 (by decide) (fun c_1 => ?_) (fun c_1 => ?_)
    · rw [if_pos c_1] at hf
      refine lv_aload_n hx hb dX10_feed_18 rfl (lv_at hl 0 rfl) ?_
      refine va_get (D := D) (ci := 10) (v := .ref (a 0)) (C := RX10) (T := TX10) (N := 12) hx hb hts kb_inX10 hown hK.1 hP 0 rfl rfl 0 (by decide) (hK.2.w ww_2_152 rfl _) (fun _ h9 => h9) rfl dX10_feed_19 ?_
      refine lv_iload_n hx hb dX10_feed_22 rfl (lv_at hl 1 rfl) ?_
      obtain ⟨r2, hc2, hf⟩ := kb_bind hf
      refine kb_cv (ws2 := (w_Top dA t (a 0) g1 g2 g3 g4 g5 g6 g7 g8 tp ++ (w_Parser dA a r2))) (kb_rV (n := 1) (As := [.int x0]) (rest := []) hx hb hml hown hK (c_X4_append l D dA H.size a ps x0 r2 hc2) ⟨ww_2_196, ww_2_193, ww_2_194, ww_2_195, ww_1_2, rfl, by decide, by decide⟩ rfl rfl (by decide +kernel) ⟨Nat.le_of_ble_eq_true rfl, Nat.le_of_ble_eq_true rfl⟩ hP hD hS hA hE [1, 2] rfl (by decide) 0 rfl rfl rfl hl.1 rfl (Nat.le_of_ble_eq_true rfl) dX10_feed_23 ⟨Nat.le_of_ble_eq_true rfl, Nat.le_of_ble_eq_true rfl⟩) hP hD hS hA [1, 2] [0] [0, 1, 2] rfl rfl (by decide) (by decide) rfl (by decide) (fun H locs hP hD hS => ?_)
      refine lv_aload_n hx hb dX10_feed_26 rfl (lv_at hl 0 rfl) ?_
      refine va_get (D := D) (ci := 10) (v := .ref (a 0)) (C := RX10) (T := TX10) (N := 12) hx hb hts kb_inX10 hown hK.1 hP 0 rfl rfl 0 (by decide) (hK.2.w ww_2_152 rfl _) (fun _ h9 => h9) rfl dX10_feed_27 ?_
      refine lv_iload_n hx hb dX10_feed_30 rfl (lv_at hl 2 rfl) ?_
      obtain ⟨r3, hc3, hf⟩ := kb_bind hf
      refine kb_cv (ws2 := (w_Top dA t (a 0) g1 g2 g3 g4 g5 g6 g7 g8 tp ++ (w_Parser dA a r3))) (kb_rV (n := 1) (As := [.int x1]) (rest := []) hx hb hml hown hK (c_X4_append l D dA H.size a r2 x1 r3 hc3) ⟨ww_2_196, ww_2_193, ww_2_194, ww_2_195, ww_1_2, rfl, by decide, by decide⟩ rfl rfl (by decide +kernel) ⟨Nat.le_of_ble_eq_true rfl, Nat.le_of_ble_eq_true rfl⟩ hP hD hS hA hE [1, 2] rfl (by decide) 0 rfl rfl rfl hl.1 rfl (Nat.le_of_ble_eq_true rfl) dX10_feed_31 ⟨Nat.le_of_ble_eq_true rfl, Nat.le_of_ble_eq_true rfl⟩) hP hD hS hA [1, 2] [0] [0, 1, 2] rfl rfl (by decide) (by decide) rfl (by decide) (fun H locs hP hD hS => ?_)
      exact B_34 _ _ _ _ _ _ _ hf hP hD hS (lv_sub hl [0, 3, 4, 5] rfl)
    · rw [if_neg c_1] at hf
      refine lv_iconst (v := (-1 : Int32)) hx hb dX10_feed_16 (by decide) ?_
      exact RET _ _ H _ ls 17 hf hP hD hS dX10_feed_17
  exact E0 _ _ hP hD hS

noncomputable def f_X10_fault (tp : TopT) (ps : ParserT) : Option (Int32) := some ((ps_fault ps))
set_option maxHeartbeats 4000000 in
set_option maxRecDepth 100000 in
theorem c_X10_fault (l : Launch) (D : va_G) (dA : Nat → ClassId) (sz : Nat) (t : Nat → Nat) (a : Nat → Nat) (g1 : Nat) (g2 : Nat) (g3 : Nat) (g4 : Nat) (g5 : Nat) (g6 : Nat) (g7 : Nat) (g8 : Nat) (tp : TopT) (ps : ParserT) (rv : Int32) (hf : f_X10_fault tp ps = some (rv)) : kb_Mi l yX10_fault cX10_fault 1 (some .int) ({ frames := 0, cells := 0, slots := 0, locals := 0 } : Room) D dA [.ref (t 0)] sz (w_Top dA t (a 0) g1 g2 g3 g4 g5 g6 g7 g8 tp ++ (w_Parser dA a ps)) 0 0 rv (w_Top dA t (a 0) g1 g2 g3 g4 g5 g6 g7 g8 tp ++ (w_Parser dA a ps)) := by
  refine Met.ofW (cc := cX10_fault) (maxL := 1) (ret := (some .int)) (by decide) rfl ?_
  intro p e s m args below meth c s₁ B hml hv
  obtain ⟨rfl, hsz, hP, hK, hD0, hE⟩ := hv
  have hx := B.exec
  have hb := B.bytes
  have hr := B.returns
  have hown : s.vm.findClass RX10 = some m.cls := findClass_of_methodNamed B.named
  have hlocks := B.notSynchronized
  have hts : ∀ w ∈ kb_gw, w.before ([.ref (t 0)] : List Value).toArray s = true := fun w hw => hK.2.1 w hw _
  subst hsz
  have hD := hD0.self (sz := s.heap.size)
  generalize hAe : va_A (w_Top dA t (a 0) g1 g2 g3 g4 g5 g6 g7 g8 tp ++ (w_Parser dA a ps)) s.heap.size = A at hD hE ⊢
  have hA : ∀ q : Nat, s.heap.size ≤ q → A q := fun q h => by rw [← hAe]; exact Or.inr h
  have hS : va_S A s.heap s.heap [] := va_S.rf
  have hl := lv_entry ([.ref (t 0)]) (n := 1) (Nat.le_of_ble_eq_true rfl)
  rw [lg_entry_eq]
  generalize (lg_sl ([.ref (t 0)]) ++ List.replicate (1 - (lg_sl ([.ref (t 0)])).length) Slot.unset).toArray = ls at hl ⊢
  have hl : lv_has ls 1 [(0, .ref (t 0))] := hl
  generalize hQ : MQ below (va_Qi (fun r (_ : Unit) => r = rv) (kb_B D A (w_Top dA t (a 0) g1 g2 g3 g4 g5 g6 g7 g8 tp ++ (w_Parser dA a ps))) A) ([.ref (t 0)] : List Value).toArray s 0 0 A = Q
  show W p l e ({ frames := 0, cells := 0, slots := 0, locals := 0 } : Room) s m ([.ref (t 0)] : List Value).toArray below meth c s.heap [] 0 0 Q (F0 m 0 ls [])
  have RET : ∀ (r2 : Int32) (H : Heap) (locs : List Loc) (ls : Array Slot) (pc : Nat), some (r2) = some (rv) → va_P D vwCl (w_Top dA t (a 0) g1 g2 g3 g4 g5 g6 g7 g8 tp ++ (w_Parser dA a ps)) H → va_D A (w_Top dA t (a 0) g1 g2 g3 g4 g5 g6 g7 g8 tp ++ (w_Parser dA a ps)) → va_S A s.heap H locs → decode cX10_fault pc = .ok (.ireturn, 1) → W p l e ({ frames := 0, cells := 0, slots := 0, locals := 0 } : Room) s m ([.ref (t 0)] : List Value).toArray below meth c H locs 0 0 Q (F0 m pc ls [.int r2]) := by
    intro r2 H locs ls pc hq hP hD hS hd
    cases hq
    rw [← hQ]
    exact W.iret hx hb hr (fun t ht hW => ⟨⟨_, (), rfl, rfl, by rw [ht]; exact hP, hD⟩, hS.F ht⟩) hS.2.2 hd
  have E0 : ∀ (H : Heap) (locs : List Loc), va_P D vwCl (w_Top dA t (a 0) g1 g2 g3 g4 g5 g6 g7 g8 tp ++ (w_Parser dA a ps)) H → va_D A (w_Top dA t (a 0) g1 g2 g3 g4 g5 g6 g7 g8 tp ++ (w_Parser dA a ps)) → va_S A s.heap H locs → W p l e ({ frames := 0, cells := 0, slots := 0, locals := 0 } : Room) s m ([.ref (t 0)] : List Value).toArray below meth c H locs 0 0 Q (F0 m 0 ls []) := by
    intro H locs hP hD hS
    rw [f_X10_fault] at hf
    refine lv_aload_n hx hb dX10_fault_0 rfl (lv_at hl 0 rfl) ?_
    refine va_get (D := D) (ci := 10) (v := .ref (a 0)) (C := RX10) (T := TX10) (N := 12) hx hb hts kb_inX10 hown hK.1 hP 0 rfl rfl 0 (by decide) (hK.2.w ww_2_152 rfl _) (fun _ h9 => h9) rfl dX10_fault_1 ?_
    refine va_get (D := D) (ci := 4) (v := .int (ps_fault ps)) (C := RX4) (T := TX4) (N := 10) hx hb hts kb_inX4 hown hK.1 hP 1 rfl rfl 1 (by decide) (hK.2.w ww_1_42 rfl _) (fun _ h9 => h9) rfl dX10_fault_4 ?_
    exact RET _ H _ ls 7 hf hP hD hS dX10_fault_7
  exact E0 _ _ hP hD hS

noncomputable def f_X10_where (tp : TopT) (ps : ParserT) : Option (Int32) := (if (tp_latestTrouble tp) = (4 : Int32) then some ((ps_place ps)) else some ((-1 : Int32)))
set_option maxHeartbeats 4000000 in
set_option maxRecDepth 100000 in
theorem c_X10_where (l : Launch) (D : va_G) (dA : Nat → ClassId) (sz : Nat) (t : Nat → Nat) (a : Nat → Nat) (g1 : Nat) (g2 : Nat) (g3 : Nat) (g4 : Nat) (g5 : Nat) (g6 : Nat) (g7 : Nat) (g8 : Nat) (tp : TopT) (ps : ParserT) (rv : Int32) (hf : f_X10_where tp ps = some (rv)) : kb_Mi l yX10_where cX10_where 1 (some .int) ({ frames := 0, cells := 0, slots := 0, locals := 0 } : Room) D dA [.ref (t 0)] sz (w_Top dA t (a 0) g1 g2 g3 g4 g5 g6 g7 g8 tp ++ (w_Parser dA a ps)) 0 0 rv (w_Top dA t (a 0) g1 g2 g3 g4 g5 g6 g7 g8 tp ++ (w_Parser dA a ps)) := by
  refine Met.ofW (cc := cX10_where) (maxL := 1) (ret := (some .int)) (by decide) rfl ?_
  intro p e s m args below meth c s₁ B hml hv
  obtain ⟨rfl, hsz, hP, hK, hD0, hE⟩ := hv
  have hx := B.exec
  have hb := B.bytes
  have hr := B.returns
  have hown : s.vm.findClass RX10 = some m.cls := findClass_of_methodNamed B.named
  have hlocks := B.notSynchronized
  have hts : ∀ w ∈ kb_gw, w.before ([.ref (t 0)] : List Value).toArray s = true := fun w hw => hK.2.1 w hw _
  subst hsz
  have hD := hD0.self (sz := s.heap.size)
  generalize hAe : va_A (w_Top dA t (a 0) g1 g2 g3 g4 g5 g6 g7 g8 tp ++ (w_Parser dA a ps)) s.heap.size = A at hD hE ⊢
  have hA : ∀ q : Nat, s.heap.size ≤ q → A q := fun q h => by rw [← hAe]; exact Or.inr h
  have hS : va_S A s.heap s.heap [] := va_S.rf
  have hl := lv_entry ([.ref (t 0)]) (n := 1) (Nat.le_of_ble_eq_true rfl)
  rw [lg_entry_eq]
  generalize (lg_sl ([.ref (t 0)]) ++ List.replicate (1 - (lg_sl ([.ref (t 0)])).length) Slot.unset).toArray = ls at hl ⊢
  have hl : lv_has ls 1 [(0, .ref (t 0))] := hl
  generalize hQ : MQ below (va_Qi (fun r (_ : Unit) => r = rv) (kb_B D A (w_Top dA t (a 0) g1 g2 g3 g4 g5 g6 g7 g8 tp ++ (w_Parser dA a ps))) A) ([.ref (t 0)] : List Value).toArray s 0 0 A = Q
  show W p l e ({ frames := 0, cells := 0, slots := 0, locals := 0 } : Room) s m ([.ref (t 0)] : List Value).toArray below meth c s.heap [] 0 0 Q (F0 m 0 ls [])
  have RET : ∀ (r2 : Int32) (H : Heap) (locs : List Loc) (ls : Array Slot) (pc : Nat), some (r2) = some (rv) → va_P D vwCl (w_Top dA t (a 0) g1 g2 g3 g4 g5 g6 g7 g8 tp ++ (w_Parser dA a ps)) H → va_D A (w_Top dA t (a 0) g1 g2 g3 g4 g5 g6 g7 g8 tp ++ (w_Parser dA a ps)) → va_S A s.heap H locs → decode cX10_where pc = .ok (.ireturn, 1) → W p l e ({ frames := 0, cells := 0, slots := 0, locals := 0 } : Room) s m ([.ref (t 0)] : List Value).toArray below meth c H locs 0 0 Q (F0 m pc ls [.int r2]) := by
    intro r2 H locs ls pc hq hP hD hS hd
    cases hq
    rw [← hQ]
    exact W.iret hx hb hr (fun t ht hW => ⟨⟨_, (), rfl, rfl, by rw [ht]; exact hP, hD⟩, hS.F ht⟩) hS.2.2 hd
  have E0 : ∀ (H : Heap) (locs : List Loc), va_P D vwCl (w_Top dA t (a 0) g1 g2 g3 g4 g5 g6 g7 g8 tp ++ (w_Parser dA a ps)) H → va_D A (w_Top dA t (a 0) g1 g2 g3 g4 g5 g6 g7 g8 tp ++ (w_Parser dA a ps)) → va_S A s.heap H locs → W p l e ({ frames := 0, cells := 0, slots := 0, locals := 0 } : Room) s m ([.ref (t 0)] : List Value).toArray below meth c H locs 0 0 Q (F0 m 0 ls []) := by
    intro H locs hP hD hS
    rw [f_X10_where] at hf
    refine lv_aload_n hx hb dX10_where_0 rfl (lv_at hl 0 rfl) ?_
    refine va_get (D := D) (ci := 10) (v := .int (tp_latestTrouble tp)) (C := RX10) (T := TX10) (N := 12) hx hb hts kb_inX10 hown hK.1 hP 0 rfl rfl 11 (by decide) (hK.2.w ww_2_163 rfl _) (fun _ h9 => h9) rfl dX10_where_1 ?_
    refine lv_iconst (v := (4 : Int32)) hx hb dX10_where_4 (by decide) ?_
    refine lv_icmp_ne (tgt := 18) hx hb dX10_where_5 (by decide) (fun c_1 => ?_) (fun c_1 => ?_)
    · rw [if_neg c_1] at hf
      refine lv_iconst (v := (-1 : Int32)) hx hb dX10_where_18 (by decide) ?_
      exact RET _ H _ ls 19 hf hP hD hS dX10_where_19
    · rw [if_pos c_1] at hf
      refine lv_aload_n hx hb dX10_where_8 rfl (lv_at hl 0 rfl) ?_
      refine va_get (D := D) (ci := 10) (v := .ref (a 0)) (C := RX10) (T := TX10) (N := 12) hx hb hts kb_inX10 hown hK.1 hP 0 rfl rfl 0 (by decide) (hK.2.w ww_2_152 rfl _) (fun _ h9 => h9) rfl dX10_where_9 ?_
      refine va_get (D := D) (ci := 4) (v := .int (ps_place ps)) (C := RX4) (T := TX4) (N := 10) hx hb hts kb_inX4 hown hK.1 hP 1 rfl rfl 2 (by decide) (hK.2.w ww_1_44 rfl _) (fun _ h9 => h9) rfl dX10_where_12 ?_
      refine lv_goto (tgt := 19) hx hb dX10_where_15 (by decide) ?_
      exact RET _ H _ ls 19 hf hP hD hS dX10_where_19
  exact E0 _ _ hP hD hS

noncomputable def f_X10_seconds_b22 (rd : RideT) (pl : PlanT) (z0 : TopT) : Option (Int32 × TopT) := (f_X10_refused z0 (1 : Int32)).bind fun r2 => some (r2.1, r2.2)
noncomputable def f_X10_seconds (tp : TopT) (rd : RideT) (pl : PlanT) (x0 : Int32) : Option (Int32 × TopT) := (if (tp_hasBus tp) = 0 then f_X10_seconds_b22 rd pl tp else (if x0 < 0 then f_X10_seconds_b22 rd pl tp else (if x0 < (rd_stops rd) then if kb_in? x0 12 then (f_X10_answered tp ((rd_spent rd) (x0).toNatClampNeg)).bind fun r6 => some (r6.1, r6.2) else none else f_X10_seconds_b22 rd pl tp)))
set_option maxHeartbeats 4000000 in
set_option maxRecDepth 100000 in
theorem c_X10_seconds (l : Launch) (D : va_G) (dA : Nat → ClassId) (sz : Nat) (t : Nat → Nat) (a : Nat → Nat) (pa : Nat → Nat) (g0 : Nat) (g2 : Nat) (g4 : Nat) (g5 : Nat) (g6 : Nat) (g7 : Nat) (g8 : Nat) (tp : TopT) (rd : RideT) (pl : PlanT) (x0 : Int32) (rv : Int32) (u0 : TopT) (hf : f_X10_seconds tp rd pl x0 = some (rv, u0)) : kb_Mi l yX10_seconds cX10_seconds 2 (some .int) ({ frames := 1, cells := 0, slots := 0, locals := 21 } : Room) D dA [.ref (t 0), .int x0] sz (w_Top dA t g0 (pa 0) g2 (a 0) g4 g5 g6 g7 g8 tp ++ (w_Ride dA a (pa 0) (pa 1) rd ++ (w_Plan dA pa pl))) 0 0 rv (w_Top dA t g0 (pa 0) g2 (a 0) g4 g5 g6 g7 g8 u0 ++ (w_Ride dA a (pa 0) (pa 1) rd ++ (w_Plan dA pa pl))) := by
  refine Met.ofW (cc := cX10_seconds) (maxL := 2) (ret := (some .int)) (by decide) rfl ?_
  intro p e s m args below meth c s₁ B hml hv
  obtain ⟨rfl, hsz, hP, hK, hD0, hE⟩ := hv
  have hx := B.exec
  have hb := B.bytes
  have hr := B.returns
  have hown : s.vm.findClass RX10 = some m.cls := findClass_of_methodNamed B.named
  have hlocks := B.notSynchronized
  have hts : ∀ w ∈ kb_gw, w.before ([.ref (t 0), .int x0] : List Value).toArray s = true := fun w hw => hK.2.1 w hw _
  subst hsz
  have hD := hD0.self (sz := s.heap.size)
  generalize hAe : va_A (w_Top dA t g0 (pa 0) g2 (a 0) g4 g5 g6 g7 g8 tp ++ (w_Ride dA a (pa 0) (pa 1) rd ++ (w_Plan dA pa pl))) s.heap.size = A at hD hE ⊢
  have hA : ∀ q : Nat, s.heap.size ≤ q → A q := fun q h => by rw [← hAe]; exact Or.inr h
  have hS : va_S A s.heap s.heap [] := va_S.rf
  have hl := lv_entry ([.ref (t 0), .int x0]) (n := 2) (Nat.le_of_ble_eq_true rfl)
  rw [lg_entry_eq]
  generalize (lg_sl ([.ref (t 0), .int x0]) ++ List.replicate (2 - (lg_sl ([.ref (t 0), .int x0])).length) Slot.unset).toArray = ls at hl ⊢
  have hl : lv_has ls 2 [(0, .ref (t 0)), (1, .int x0)] := hl
  generalize hQ : MQ below (va_Qi (fun r (_ : Unit) => r = rv) (kb_B D A (w_Top dA t g0 (pa 0) g2 (a 0) g4 g5 g6 g7 g8 u0 ++ (w_Ride dA a (pa 0) (pa 1) rd ++ (w_Plan dA pa pl)))) A) ([.ref (t 0), .int x0] : List Value).toArray s 0 0 A = Q
  show W p l e ({ frames := 1, cells := 0, slots := 0, locals := 21 } : Room) s m ([.ref (t 0), .int x0] : List Value).toArray below meth c s.heap [] 0 0 Q (F0 m 0 ls [])
  have RET : ∀ (r2 : Int32) (w0 : TopT) (H : Heap) (locs : List Loc) (ls : Array Slot) (pc : Nat), some (r2, w0) = some (rv, u0) → va_P D vwCl (w_Top dA t g0 (pa 0) g2 (a 0) g4 g5 g6 g7 g8 w0 ++ (w_Ride dA a (pa 0) (pa 1) rd ++ (w_Plan dA pa pl))) H → va_D A (w_Top dA t g0 (pa 0) g2 (a 0) g4 g5 g6 g7 g8 w0 ++ (w_Ride dA a (pa 0) (pa 1) rd ++ (w_Plan dA pa pl))) → va_S A s.heap H locs → decode cX10_seconds pc = .ok (.ireturn, 1) → W p l e ({ frames := 1, cells := 0, slots := 0, locals := 21 } : Room) s m ([.ref (t 0), .int x0] : List Value).toArray below meth c H locs 0 0 Q (F0 m pc ls [.int r2]) := by
    intro r2 w0 H locs ls pc hq hP hD hS hd
    cases hq
    rw [← hQ]
    exact W.iret hx hb hr (fun t ht hW => ⟨⟨_, (), rfl, rfl, by rw [ht]; exact hP, hD⟩, hS.F ht⟩) hS.2.2 hd
  have B_22 : ∀ (z0 : TopT) (H : Heap) (locs : List Loc) (ls : Array Slot), f_X10_seconds_b22 rd pl z0 = some (rv, u0) → va_P D vwCl (w_Top dA t g0 (pa 0) g2 (a 0) g4 g5 g6 g7 g8 z0 ++ (w_Ride dA a (pa 0) (pa 1) rd ++ (w_Plan dA pa pl))) H → va_D A (w_Top dA t g0 (pa 0) g2 (a 0) g4 g5 g6 g7 g8 z0 ++ (w_Ride dA a (pa 0) (pa 1) rd ++ (w_Plan dA pa pl))) → va_S A s.heap H locs → lv_has ls 2 [(0, .ref (t 0))] → W p l e ({ frames := 1, cells := 0, slots := 0, locals := 21 } : Room) s m ([.ref (t 0), .int x0] : List Value).toArray below meth c H locs 0 0 Q (F0 m 22 ls []) := by
    intro z0 H locs ls hf hP hD hS hl
    rw [f_X10_seconds_b22] at hf
    refine lv_aload_n hx hb dX10_seconds_22 rfl (lv_at hl 0 rfl) ?_
    refine lv_iconst (v := (1 : Int32)) hx hb dX10_seconds_23 (by decide) ?_
    obtain ⟨r2, hc2, hf⟩ := kb_bind hf
    refine kb_ci (ws2 := (w_Top dA t g0 (pa 0) g2 (a 0) g4 g5 g6 g7 g8 r2.2 ++ (w_Ride dA a (pa 0) (pa 1) rd ++ (w_Plan dA pa pl)))) (kb_rV (n := 1) (As := [.int (1 : Int32)]) (rest := []) hx hb hml hown hK (c_X10_refused l D dA H.size t g0 (pa 0) g2 (a 0) g4 g5 g6 g7 g8 z0 (1 : Int32) r2.1 r2.2 hc2) ⟨ww_2_204, ww_2_201, ww_2_203, ws_0, ww_1_1, rfl, by decide, by decide⟩ rfl rfl (by decide +kernel) ⟨Nat.le_of_ble_eq_true rfl, Nat.le_of_ble_eq_true rfl⟩ hP hD hS hA hE [0] rfl (by decide) 0 rfl rfl rfl hl.1 rfl (Nat.le_of_ble_eq_true rfl) dX10_seconds_24 ⟨Nat.le_of_ble_eq_true rfl, Nat.le_of_ble_eq_true rfl⟩) hP hD hS hA [0] [1, 2, 3, 4, 5, 6, 7, 8, 9, 10, 11, 12, 13, 14, 15, 16, 17, 18, 19, 20, 21, 22, 23, 24, 25, 26, 27, 28, 29, 30] [30, 0, 1, 2, 3, 4, 5, 6, 7, 8, 9, 10, 11, 12, 13, 14, 15, 16, 17, 18, 19, 20, 21, 22, 23, 24, 25, 26, 27, 28, 29] rfl rfl (by decide) (by decide) rfl (by decide) (fun H locs hP hD hS => ?_)
    exact RET _ _ H _ ls 27 hf hP hD hS dX10_seconds_27
  have E0 : ∀ (H : Heap) (locs : List Loc), va_P D vwCl (w_Top dA t g0 (pa 0) g2 (a 0) g4 g5 g6 g7 g8 tp ++ (w_Ride dA a (pa 0) (pa 1) rd ++ (w_Plan dA pa pl))) H → va_D A (w_Top dA t g0 (pa 0) g2 (a 0) g4 g5 g6 g7 g8 tp ++ (w_Ride dA a (pa 0) (pa 1) rd ++ (w_Plan dA pa pl))) → va_S A s.heap H locs → W p l e ({ frames := 1, cells := 0, slots := 0, locals := 21 } : Room) s m ([.ref (t 0), .int x0] : List Value).toArray below meth c H locs 0 0 Q (F0 m 0 ls []) := by
    intro H locs hP hD hS
    rw [f_X10_seconds] at hf
    refine lv_aload_n hx hb dX10_seconds_0 rfl (lv_at hl 0 rfl) ?_
    refine va_get (D := D) (ci := 10) (v := .int (tp_hasBus tp)) (C := RX10) (T := TX10) (N := 12) hx hb hts kb_inX10 hown hK.1 hP 0 rfl rfl 3 (by decide) (hK.2.w ww_2_155 rfl _) (fun _ h9 => h9) rfl dX10_seconds_1 ?_
    refine lv_if_eq (tgt := 22) hx hb dX10_seconds_4 (by decide) (fun c_1 => ?_) (fun c_1 => ?_)
    · rw [if_pos c_1] at hf
      exact B_22 _ _ _ _ hf hP hD hS (lv_sub hl [0] rfl)
    · rw [if_neg c_1] at hf
      refine lv_iload_n hx hb dX10_seconds_7 rfl (lv_at hl 1 rfl) ?_
      refine lv_if_lt (tgt := 22) hx hb dX10_seconds_8 (by decide) (fun c_3 => ?_) (fun c_3 => ?_)
      · rw [if_pos c_3] at hf
        exact B_22 _ _ _ _ hf hP hD hS (lv_sub hl [0] rfl)
      · rw [if_neg c_3] at hf
        refine lv_iload_n hx hb dX10_seconds_11 rfl (lv_at hl 1 rfl) ?_
        refine lv_aload_n hx hb dX10_seconds_12 rfl (lv_at hl 0 rfl) ?_
        refine va_get (D := D) (ci := 10) (v := .ref (a 0)) (C := RX10) (T := TX10) (N := 12) hx hb hts kb_inX10 hown hK.1 hP 0 rfl rfl 4 (by decide) (hK.2.w ww_2_156 rfl _) (fun _ h9 => h9) rfl dX10_seconds_13 ?_
        refine va_get (D := D) (ci := 6) (v := .int (rd_stops rd)) (C := RX6) (T := TX6) (N := 11) hx hb hts kb_inX6 hown hK.1 hP 1 rfl rfl 10 (by decide) (hK.2.w ww_2_85 rfl _) (fun _ h9 => h9) rfl dX10_seconds_16 ?_
        refine lv_icmp_lt (tgt := 28) hx hb dX10_seconds_19 (by decide) (fun c_4 => ?_) (fun c_4 => ?_)
        · rw [if_pos c_4] at hf
          refine lv_aload_n hx hb dX10_seconds_28 rfl (lv_at hl 0 rfl) ?_
          refine lv_aload_n hx hb dX10_seconds_29 rfl (lv_at hl 0 rfl) ?_
          refine va_get (D := D) (ci := 10) (v := .ref (a 0)) (C := RX10) (T := TX10) (N := 12) hx hb hts kb_inX10 hown hK.1 hP 0 rfl rfl 4 (by decide) (hK.2.w ww_2_156 rfl _) (fun _ h9 => h9) rfl dX10_seconds_30 ?_
          refine va_get (D := D) (ci := 6) (v := .ref (a 7)) (C := RX6) (T := TX6) (N := 11) hx hb hts kb_inX6 hown hK.1 hP 1 rfl rfl 5 (by decide) (hK.2.w ww_2_78 rfl _) (fun _ h9 => h9) rfl dX10_seconds_33 ?_
          refine lv_iload_n hx hb dX10_seconds_36 rfl (lv_at hl 1 rfl) ?_
          obtain ⟨h_5, hf⟩ := kb_if hf
          refine va_iald (D := D) hx hb hK.1 hP 8 0 rfl rfl h_5 dX10_seconds_37 ?_
          obtain ⟨r6, hc6, hf⟩ := kb_bind hf
          refine kb_ci (ws2 := (w_Top dA t g0 (pa 0) g2 (a 0) g4 g5 g6 g7 g8 r6.2 ++ (w_Ride dA a (pa 0) (pa 1) rd ++ (w_Plan dA pa pl)))) (kb_rV (n := 1) (As := [.int ((rd_spent rd) (x0).toNatClampNeg)]) (rest := []) hx hb hml hown hK (c_X10_answered l D dA H.size t g0 (pa 0) g2 (a 0) g4 g5 g6 g7 g8 tp ((rd_spent rd) (x0).toNatClampNeg) r6.1 r6.2 hc6) ⟨ww_3_184, ww_3_181, ww_3_183, ws_22, ww_1_1, rfl, by decide, by decide⟩ rfl rfl (by decide +kernel) ⟨Nat.le_of_ble_eq_true rfl, Nat.le_of_ble_eq_true rfl⟩ hP hD hS hA hE [0] rfl (by decide) 0 rfl rfl rfl hl.1 rfl (Nat.le_of_ble_eq_true rfl) dX10_seconds_38 ⟨Nat.le_of_ble_eq_true rfl, Nat.le_of_ble_eq_true rfl⟩) hP hD hS hA [0] [1, 2, 3, 4, 5, 6, 7, 8, 9, 10, 11, 12, 13, 14, 15, 16, 17, 18, 19, 20, 21, 22, 23, 24, 25, 26, 27, 28, 29, 30] [30, 0, 1, 2, 3, 4, 5, 6, 7, 8, 9, 10, 11, 12, 13, 14, 15, 16, 17, 18, 19, 20, 21, 22, 23, 24, 25, 26, 27, 28, 29] rfl rfl (by decide) (by decide) rfl (by decide) (fun H locs hP hD hS => ?_)
          exact RET _ _ H _ ls 41 hf hP hD hS dX10_seconds_41
        · rw [if_neg c_4] at hf
          exact B_22 _ _ _ _ hf hP hD hS (lv_sub hl [0] rfl)
  exact E0 _ _ hP hD hS

noncomputable def f_X10_at (tp : TopT) (rd : RideT) (pl : PlanT) (x0 : Int32) : Option (Int32 × TopT) := (f_X10_isRider tp pl x0).bind fun r1 => (if r1 = 0 then (f_X10_refused tp (1 : Int32)).bind fun r5 => some (r5.1, r5.2) else if kb_in? x0 8 then (f_X10_answered tp ((rd_place rd) (x0).toNatClampNeg)).bind fun r4 => some (r4.1, r4.2) else none)
set_option maxHeartbeats 4000000 in
set_option maxRecDepth 100000 in
theorem c_X10_at (l : Launch) (D : va_G) (dA : Nat → ClassId) (sz : Nat) (t : Nat → Nat) (a : Nat → Nat) (pa : Nat → Nat) (g0 : Nat) (g2 : Nat) (g4 : Nat) (g5 : Nat) (g6 : Nat) (g7 : Nat) (g8 : Nat) (tp : TopT) (rd : RideT) (pl : PlanT) (x0 : Int32) (rv : Int32) (u0 : TopT) (hf : f_X10_at tp rd pl x0 = some (rv, u0)) : kb_Mi l yX10_at cX10_at 2 (some .int) ({ frames := 1, cells := 0, slots := 0, locals := 21 } : Room) D dA [.ref (t 0), .int x0] sz (w_Top dA t g0 (pa 0) g2 (a 0) g4 g5 g6 g7 g8 tp ++ (w_Ride dA a (pa 0) (pa 1) rd ++ (w_Plan dA pa pl))) 0 0 rv (w_Top dA t g0 (pa 0) g2 (a 0) g4 g5 g6 g7 g8 u0 ++ (w_Ride dA a (pa 0) (pa 1) rd ++ (w_Plan dA pa pl))) := by
  refine Met.ofW (cc := cX10_at) (maxL := 2) (ret := (some .int)) (by decide) rfl ?_
  intro p e s m args below meth c s₁ B hml hv
  obtain ⟨rfl, hsz, hP, hK, hD0, hE⟩ := hv
  have hx := B.exec
  have hb := B.bytes
  have hr := B.returns
  have hown : s.vm.findClass RX10 = some m.cls := findClass_of_methodNamed B.named
  have hlocks := B.notSynchronized
  have hts : ∀ w ∈ kb_gw, w.before ([.ref (t 0), .int x0] : List Value).toArray s = true := fun w hw => hK.2.1 w hw _
  subst hsz
  have hD := hD0.self (sz := s.heap.size)
  generalize hAe : va_A (w_Top dA t g0 (pa 0) g2 (a 0) g4 g5 g6 g7 g8 tp ++ (w_Ride dA a (pa 0) (pa 1) rd ++ (w_Plan dA pa pl))) s.heap.size = A at hD hE ⊢
  have hA : ∀ q : Nat, s.heap.size ≤ q → A q := fun q h => by rw [← hAe]; exact Or.inr h
  have hS : va_S A s.heap s.heap [] := va_S.rf
  have hl := lv_entry ([.ref (t 0), .int x0]) (n := 2) (Nat.le_of_ble_eq_true rfl)
  rw [lg_entry_eq]
  generalize (lg_sl ([.ref (t 0), .int x0]) ++ List.replicate (2 - (lg_sl ([.ref (t 0), .int x0])).length) Slot.unset).toArray = ls at hl ⊢
  have hl : lv_has ls 2 [(0, .ref (t 0)), (1, .int x0)] := hl
  generalize hQ : MQ below (va_Qi (fun r (_ : Unit) => r = rv) (kb_B D A (w_Top dA t g0 (pa 0) g2 (a 0) g4 g5 g6 g7 g8 u0 ++ (w_Ride dA a (pa 0) (pa 1) rd ++ (w_Plan dA pa pl)))) A) ([.ref (t 0), .int x0] : List Value).toArray s 0 0 A = Q
  show W p l e ({ frames := 1, cells := 0, slots := 0, locals := 21 } : Room) s m ([.ref (t 0), .int x0] : List Value).toArray below meth c s.heap [] 0 0 Q (F0 m 0 ls [])
  have RET : ∀ (r2 : Int32) (w0 : TopT) (H : Heap) (locs : List Loc) (ls : Array Slot) (pc : Nat), some (r2, w0) = some (rv, u0) → va_P D vwCl (w_Top dA t g0 (pa 0) g2 (a 0) g4 g5 g6 g7 g8 w0 ++ (w_Ride dA a (pa 0) (pa 1) rd ++ (w_Plan dA pa pl))) H → va_D A (w_Top dA t g0 (pa 0) g2 (a 0) g4 g5 g6 g7 g8 w0 ++ (w_Ride dA a (pa 0) (pa 1) rd ++ (w_Plan dA pa pl))) → va_S A s.heap H locs → decode cX10_at pc = .ok (.ireturn, 1) → W p l e ({ frames := 1, cells := 0, slots := 0, locals := 21 } : Room) s m ([.ref (t 0), .int x0] : List Value).toArray below meth c H locs 0 0 Q (F0 m pc ls [.int r2]) := by
    intro r2 w0 H locs ls pc hq hP hD hS hd
    cases hq
    rw [← hQ]
    exact W.iret hx hb hr (fun t ht hW => ⟨⟨_, (), rfl, rfl, by rw [ht]; exact hP, hD⟩, hS.F ht⟩) hS.2.2 hd
  have E0 : ∀ (H : Heap) (locs : List Loc), va_P D vwCl (w_Top dA t g0 (pa 0) g2 (a 0) g4 g5 g6 g7 g8 tp ++ (w_Ride dA a (pa 0) (pa 1) rd ++ (w_Plan dA pa pl))) H → va_D A (w_Top dA t g0 (pa 0) g2 (a 0) g4 g5 g6 g7 g8 tp ++ (w_Ride dA a (pa 0) (pa 1) rd ++ (w_Plan dA pa pl))) → va_S A s.heap H locs → W p l e ({ frames := 1, cells := 0, slots := 0, locals := 21 } : Room) s m ([.ref (t 0), .int x0] : List Value).toArray below meth c H locs 0 0 Q (F0 m 0 ls []) := by
    intro H locs hP hD hS
    rw [f_X10_at] at hf
    refine lv_aload_n hx hb dX10_at_0 rfl (lv_at hl 0 rfl) ?_
    refine lv_iload_n hx hb dX10_at_1 rfl (lv_at hl 1 rfl) ?_
    obtain ⟨r1, hc1, hf⟩ := kb_bind hf
    refine kb_ci (ws2 := (w_Top dA t g0 (pa 0) g2 (a 0) g4 g5 g6 g7 g8 tp ++ (w_Ride dA a (pa 0) (pa 1) rd ++ (w_Plan dA pa pl)))) (kb_rV (n := 1) (As := [.int x0]) (rest := []) hx hb hml hown hK (c_X10_isRider l D dA H.size t pa g0 g2 (a 0) g4 g5 g6 g7 g8 tp pl x0 r1 hc1) ⟨ww_4_75, ww_4_72, ww_4_74, ws_33, ww_1_1, rfl, by decide, by decide⟩ rfl rfl (by decide +kernel) ⟨Nat.le_of_ble_eq_true rfl, Nat.le_of_ble_eq_true rfl⟩ hP hD hS hA hE [0, 10, 11, 12, 13, 14, 15, 16, 17, 18, 19, 20, 21, 22, 23, 24, 25, 26, 27, 28, 29, 30] rfl (by decide) 0 rfl rfl rfl hl.1 rfl (Nat.le_of_ble_eq_true rfl) dX10_at_2 ⟨Nat.le_of_ble_eq_true rfl, Nat.le_of_ble_eq_true rfl⟩) hP hD hS hA [0, 10, 11, 12, 13, 14, 15, 16, 17, 18, 19, 20, 21, 22, 23, 24, 25, 26, 27, 28, 29, 30] [1, 2, 3, 4, 5, 6, 7, 8, 9] [9, 0, 1, 2, 3, 4, 5, 6, 7, 8, 10, 11, 12, 13, 14, 15, 16, 17, 18, 19, 20, 21, 22, 23, 24, 25, 26, 27, 28, 29, 30] rfl rfl (by decide) (by decide) rfl (by decide) (fun H locs hP hD hS => ?_)
    refine lv_if_ne (tgt := 14) hx hb dX10_at_5 (by decide) (fun c_2 => ?_) (fun c_2 => ?_)
    · rw [if_neg c_2] at hf
      refine lv_aload_n hx hb dX10_at_14 rfl (lv_at hl 0 rfl) ?_
      refine lv_aload_n hx hb dX10_at_15 rfl (lv_at hl 0 rfl) ?_
      refine va_get (D := D) (ci := 10) (v := .ref (a 0)) (C := RX10) (T := TX10) (N := 12) hx hb hts kb_inX10 hown hK.1 hP 0 rfl rfl 4 (by decide) (hK.2.w ww_2_156 rfl _) (fun _ h9 => h9) rfl dX10_at_16 ?_
      refine va_get (D := D) (ci := 6) (v := .ref (a 4)) (C := RX6) (T := TX6) (N := 11) hx hb hts kb_inX6 hown hK.1 hP 1 rfl rfl 2 (by decide) (hK.2.w ww_2_71 rfl _) (fun _ h9 => h9) rfl dX10_at_19 ?_
      refine lv_iload_n hx hb dX10_at_22 rfl (lv_at hl 1 rfl) ?_
      obtain ⟨h_3, hf⟩ := kb_if hf
      refine va_iald (D := D) hx hb hK.1 hP 5 0 rfl rfl h_3 dX10_at_23 ?_
      obtain ⟨r4, hc4, hf⟩ := kb_bind hf
      refine kb_ci (ws2 := (w_Top dA t g0 (pa 0) g2 (a 0) g4 g5 g6 g7 g8 r4.2 ++ (w_Ride dA a (pa 0) (pa 1) rd ++ (w_Plan dA pa pl)))) (kb_rV (n := 1) (As := [.int ((rd_place rd) (x0).toNatClampNeg)]) (rest := []) hx hb hml hown hK (c_X10_answered l D dA H.size t g0 (pa 0) g2 (a 0) g4 g5 g6 g7 g8 tp ((rd_place rd) (x0).toNatClampNeg) r4.1 r4.2 hc4) ⟨ww_3_184, ww_3_181, ww_3_183, ws_22, ww_1_1, rfl, by decide, by decide⟩ rfl rfl (by decide +kernel) ⟨Nat.le_of_ble_eq_true rfl, Nat.le_of_ble_eq_true rfl⟩ hP hD hS hA hE [0] rfl (by decide) 0 rfl rfl rfl hl.1 rfl (Nat.le_of_ble_eq_true rfl) dX10_at_24 ⟨Nat.le_of_ble_eq_true rfl, Nat.le_of_ble_eq_true rfl⟩) hP hD hS hA [0] [1, 2, 3, 4, 5, 6, 7, 8, 9, 10, 11, 12, 13, 14, 15, 16, 17, 18, 19, 20, 21, 22, 23, 24, 25, 26, 27, 28, 29, 30] [30, 0, 1, 2, 3, 4, 5, 6, 7, 8, 9, 10, 11, 12, 13, 14, 15, 16, 17, 18, 19, 20, 21, 22, 23, 24, 25, 26, 27, 28, 29] rfl rfl (by decide) (by decide) rfl (by decide) (fun H locs hP hD hS => ?_)
      exact RET _ _ H _ ls 27 hf hP hD hS dX10_at_27
    · rw [if_pos c_2] at hf
      refine lv_aload_n hx hb dX10_at_8 rfl (lv_at hl 0 rfl) ?_
      refine lv_iconst (v := (1 : Int32)) hx hb dX10_at_9 (by decide) ?_
      obtain ⟨r5, hc5, hf⟩ := kb_bind hf
      refine kb_ci (ws2 := (w_Top dA t g0 (pa 0) g2 (a 0) g4 g5 g6 g7 g8 r5.2 ++ (w_Ride dA a (pa 0) (pa 1) rd ++ (w_Plan dA pa pl)))) (kb_rV (n := 1) (As := [.int (1 : Int32)]) (rest := []) hx hb hml hown hK (c_X10_refused l D dA H.size t g0 (pa 0) g2 (a 0) g4 g5 g6 g7 g8 tp (1 : Int32) r5.1 r5.2 hc5) ⟨ww_2_204, ww_2_201, ww_2_203, ws_0, ww_1_1, rfl, by decide, by decide⟩ rfl rfl (by decide +kernel) ⟨Nat.le_of_ble_eq_true rfl, Nat.le_of_ble_eq_true rfl⟩ hP hD hS hA hE [0] rfl (by decide) 0 rfl rfl rfl hl.1 rfl (Nat.le_of_ble_eq_true rfl) dX10_at_10 ⟨Nat.le_of_ble_eq_true rfl, Nat.le_of_ble_eq_true rfl⟩) hP hD hS hA [0] [1, 2, 3, 4, 5, 6, 7, 8, 9, 10, 11, 12, 13, 14, 15, 16, 17, 18, 19, 20, 21, 22, 23, 24, 25, 26, 27, 28, 29, 30] [30, 0, 1, 2, 3, 4, 5, 6, 7, 8, 9, 10, 11, 12, 13, 14, 15, 16, 17, 18, 19, 20, 21, 22, 23, 24, 25, 26, 27, 28, 29] rfl rfl (by decide) (by decide) rfl (by decide) (fun H locs hP hD hS => ?_)
      exact RET _ _ H _ ls 13 hf hP hD hS dX10_at_13
  exact E0 _ _ hP hD hS

noncomputable def f_X10_sits (tp : TopT) (rd : RideT) (pl : PlanT) (x0 : Int32) : Option (Int32 × TopT) := (f_X10_isSeat tp pl x0).bind fun r1 => (if r1 = 0 then (f_X10_refused tp (1 : Int32)).bind fun r5 => some (r5.1, r5.2) else if kb_in? x0 20 then (f_X10_answered tp ((sc_sitter (rd_scene rd)) (x0).toNatClampNeg)).bind fun r4 => some (r4.1, r4.2) else none)
set_option maxHeartbeats 4000000 in
set_option maxRecDepth 100000 in
theorem c_X10_sits (l : Launch) (D : va_G) (dA : Nat → ClassId) (sz : Nat) (t : Nat → Nat) (a : Nat → Nat) (pa : Nat → Nat) (g0 : Nat) (g2 : Nat) (g4 : Nat) (g5 : Nat) (g6 : Nat) (g7 : Nat) (g8 : Nat) (tp : TopT) (rd : RideT) (pl : PlanT) (x0 : Int32) (rv : Int32) (u0 : TopT) (hf : f_X10_sits tp rd pl x0 = some (rv, u0)) : kb_Mi l yX10_sits cX10_sits 2 (some .int) ({ frames := 2, cells := 0, slots := 0, locals := 42 } : Room) D dA [.ref (t 0), .int x0] sz (w_Top dA t g0 (pa 0) g2 (a 0) g4 g5 g6 g7 g8 tp ++ (w_Ride dA a (pa 0) (pa 1) rd ++ (w_Plan dA pa pl))) 0 0 rv (w_Top dA t g0 (pa 0) g2 (a 0) g4 g5 g6 g7 g8 u0 ++ (w_Ride dA a (pa 0) (pa 1) rd ++ (w_Plan dA pa pl))) := by
  refine Met.ofW (cc := cX10_sits) (maxL := 2) (ret := (some .int)) (by decide) rfl ?_
  intro p e s m args below meth c s₁ B hml hv
  obtain ⟨rfl, hsz, hP, hK, hD0, hE⟩ := hv
  have hx := B.exec
  have hb := B.bytes
  have hr := B.returns
  have hown : s.vm.findClass RX10 = some m.cls := findClass_of_methodNamed B.named
  have hlocks := B.notSynchronized
  have hts : ∀ w ∈ kb_gw, w.before ([.ref (t 0), .int x0] : List Value).toArray s = true := fun w hw => hK.2.1 w hw _
  subst hsz
  have hD := hD0.self (sz := s.heap.size)
  generalize hAe : va_A (w_Top dA t g0 (pa 0) g2 (a 0) g4 g5 g6 g7 g8 tp ++ (w_Ride dA a (pa 0) (pa 1) rd ++ (w_Plan dA pa pl))) s.heap.size = A at hD hE ⊢
  have hA : ∀ q : Nat, s.heap.size ≤ q → A q := fun q h => by rw [← hAe]; exact Or.inr h
  have hS : va_S A s.heap s.heap [] := va_S.rf
  have hl := lv_entry ([.ref (t 0), .int x0]) (n := 2) (Nat.le_of_ble_eq_true rfl)
  rw [lg_entry_eq]
  generalize (lg_sl ([.ref (t 0), .int x0]) ++ List.replicate (2 - (lg_sl ([.ref (t 0), .int x0])).length) Slot.unset).toArray = ls at hl ⊢
  have hl : lv_has ls 2 [(0, .ref (t 0)), (1, .int x0)] := hl
  generalize hQ : MQ below (va_Qi (fun r (_ : Unit) => r = rv) (kb_B D A (w_Top dA t g0 (pa 0) g2 (a 0) g4 g5 g6 g7 g8 u0 ++ (w_Ride dA a (pa 0) (pa 1) rd ++ (w_Plan dA pa pl)))) A) ([.ref (t 0), .int x0] : List Value).toArray s 0 0 A = Q
  show W p l e ({ frames := 2, cells := 0, slots := 0, locals := 42 } : Room) s m ([.ref (t 0), .int x0] : List Value).toArray below meth c s.heap [] 0 0 Q (F0 m 0 ls [])
  have RET : ∀ (r2 : Int32) (w0 : TopT) (H : Heap) (locs : List Loc) (ls : Array Slot) (pc : Nat), some (r2, w0) = some (rv, u0) → va_P D vwCl (w_Top dA t g0 (pa 0) g2 (a 0) g4 g5 g6 g7 g8 w0 ++ (w_Ride dA a (pa 0) (pa 1) rd ++ (w_Plan dA pa pl))) H → va_D A (w_Top dA t g0 (pa 0) g2 (a 0) g4 g5 g6 g7 g8 w0 ++ (w_Ride dA a (pa 0) (pa 1) rd ++ (w_Plan dA pa pl))) → va_S A s.heap H locs → decode cX10_sits pc = .ok (.ireturn, 1) → W p l e ({ frames := 2, cells := 0, slots := 0, locals := 42 } : Room) s m ([.ref (t 0), .int x0] : List Value).toArray below meth c H locs 0 0 Q (F0 m pc ls [.int r2]) := by
    intro r2 w0 H locs ls pc hq hP hD hS hd
    cases hq
    rw [← hQ]
    exact W.iret hx hb hr (fun t ht hW => ⟨⟨_, (), rfl, rfl, by rw [ht]; exact hP, hD⟩, hS.F ht⟩) hS.2.2 hd
  have E0 : ∀ (H : Heap) (locs : List Loc), va_P D vwCl (w_Top dA t g0 (pa 0) g2 (a 0) g4 g5 g6 g7 g8 tp ++ (w_Ride dA a (pa 0) (pa 1) rd ++ (w_Plan dA pa pl))) H → va_D A (w_Top dA t g0 (pa 0) g2 (a 0) g4 g5 g6 g7 g8 tp ++ (w_Ride dA a (pa 0) (pa 1) rd ++ (w_Plan dA pa pl))) → va_S A s.heap H locs → W p l e ({ frames := 2, cells := 0, slots := 0, locals := 42 } : Room) s m ([.ref (t 0), .int x0] : List Value).toArray below meth c H locs 0 0 Q (F0 m 0 ls []) := by
    intro H locs hP hD hS
    rw [f_X10_sits] at hf
    refine lv_aload_n hx hb dX10_sits_0 rfl (lv_at hl 0 rfl) ?_
    refine lv_iload_n hx hb dX10_sits_1 rfl (lv_at hl 1 rfl) ?_
    obtain ⟨r1, hc1, hf⟩ := kb_bind hf
    refine kb_ci (ws2 := (w_Top dA t g0 (pa 0) g2 (a 0) g4 g5 g6 g7 g8 tp ++ (w_Ride dA a (pa 0) (pa 1) rd ++ (w_Plan dA pa pl)))) (kb_rV (n := 1) (As := [.int x0]) (rest := []) hx hb hml hown hK (c_X10_isSeat l D dA H.size t pa g0 g2 (a 0) g4 g5 g6 g7 g8 tp pl x0 r1 hc1) ⟨ww_4_83, ww_4_80, ww_4_82, ws_34, ww_1_1, rfl, by decide, by decide⟩ rfl rfl (by decide +kernel) ⟨Nat.le_of_ble_eq_true rfl, Nat.le_of_ble_eq_true rfl⟩ hP hD hS hA hE [0, 10, 11, 12, 13, 14, 15, 16, 17, 18, 19, 20, 21, 22, 23, 24, 25, 26, 27, 28, 29, 30] rfl (by decide) 0 rfl rfl rfl hl.1 rfl (Nat.le_of_ble_eq_true rfl) dX10_sits_2 ⟨Nat.le_of_ble_eq_true rfl, Nat.le_of_ble_eq_true rfl⟩) hP hD hS hA [0, 10, 11, 12, 13, 14, 15, 16, 17, 18, 19, 20, 21, 22, 23, 24, 25, 26, 27, 28, 29, 30] [1, 2, 3, 4, 5, 6, 7, 8, 9] [9, 0, 1, 2, 3, 4, 5, 6, 7, 8, 10, 11, 12, 13, 14, 15, 16, 17, 18, 19, 20, 21, 22, 23, 24, 25, 26, 27, 28, 29, 30] rfl rfl (by decide) (by decide) rfl (by decide) (fun H locs hP hD hS => ?_)
    refine lv_if_ne (tgt := 14) hx hb dX10_sits_5 (by decide) (fun c_2 => ?_) (fun c_2 => ?_)
    · rw [if_neg c_2] at hf
      refine lv_aload_n hx hb dX10_sits_14 rfl (lv_at hl 0 rfl) ?_
      refine lv_aload_n hx hb dX10_sits_15 rfl (lv_at hl 0 rfl) ?_
      refine va_get (D := D) (ci := 10) (v := .ref (a 0)) (C := RX10) (T := TX10) (N := 12) hx hb hts kb_inX10 hown hK.1 hP 0 rfl rfl 4 (by decide) (hK.2.w ww_2_156 rfl _) (fun _ h9 => h9) rfl dX10_sits_16 ?_
      refine va_get (D := D) (ci := 6) (v := .ref (a 1)) (C := RX6) (T := TX6) (N := 11) hx hb hts kb_inX6 hown hK.1 hP 1 rfl rfl 1 (by decide) (hK.2.w ww_2_69 rfl _) (fun _ h9 => h9) rfl dX10_sits_19 ?_
      refine va_get (D := D) (ci := 9) (v := .ref (a 2)) (C := RX9) (T := TX9) (N := 3) hx hb hts kb_inX9 hown hK.1 hP 2 rfl rfl 0 (by decide) (hK.2.w ww_2_53 rfl _) (fun _ h9 => h9) rfl dX10_sits_22 ?_
      refine lv_iload_n hx hb dX10_sits_25 rfl (lv_at hl 1 rfl) ?_
      obtain ⟨h_3, hf⟩ := kb_if hf
      refine va_iald (D := D) hx hb hK.1 hP 3 0 rfl rfl h_3 dX10_sits_26 ?_
      obtain ⟨r4, hc4, hf⟩ := kb_bind hf
      refine kb_ci (ws2 := (w_Top dA t g0 (pa 0) g2 (a 0) g4 g5 g6 g7 g8 r4.2 ++ (w_Ride dA a (pa 0) (pa 1) rd ++ (w_Plan dA pa pl)))) (kb_rV (n := 1) (As := [.int ((sc_sitter (rd_scene rd)) (x0).toNatClampNeg)]) (rest := []) hx hb hml hown hK (c_X10_answered l D dA H.size t g0 (pa 0) g2 (a 0) g4 g5 g6 g7 g8 tp ((sc_sitter (rd_scene rd)) (x0).toNatClampNeg) r4.1 r4.2 hc4) ⟨ww_3_184, ww_3_181, ww_3_183, ws_22, ww_1_1, rfl, by decide, by decide⟩ rfl rfl (by decide +kernel) ⟨Nat.le_of_ble_eq_true rfl, Nat.le_of_ble_eq_true rfl⟩ hP hD hS hA hE [0] rfl (by decide) 0 rfl rfl rfl hl.1 rfl (Nat.le_of_ble_eq_true rfl) dX10_sits_27 ⟨Nat.le_of_ble_eq_true rfl, Nat.le_of_ble_eq_true rfl⟩) hP hD hS hA [0] [1, 2, 3, 4, 5, 6, 7, 8, 9, 10, 11, 12, 13, 14, 15, 16, 17, 18, 19, 20, 21, 22, 23, 24, 25, 26, 27, 28, 29, 30] [30, 0, 1, 2, 3, 4, 5, 6, 7, 8, 9, 10, 11, 12, 13, 14, 15, 16, 17, 18, 19, 20, 21, 22, 23, 24, 25, 26, 27, 28, 29] rfl rfl (by decide) (by decide) rfl (by decide) (fun H locs hP hD hS => ?_)
      exact RET _ _ H _ ls 30 hf hP hD hS dX10_sits_30
    · rw [if_pos c_2] at hf
      refine lv_aload_n hx hb dX10_sits_8 rfl (lv_at hl 0 rfl) ?_
      refine lv_iconst (v := (1 : Int32)) hx hb dX10_sits_9 (by decide) ?_
      obtain ⟨r5, hc5, hf⟩ := kb_bind hf
      refine kb_ci (ws2 := (w_Top dA t g0 (pa 0) g2 (a 0) g4 g5 g6 g7 g8 r5.2 ++ (w_Ride dA a (pa 0) (pa 1) rd ++ (w_Plan dA pa pl)))) (kb_rV (n := 1) (As := [.int (1 : Int32)]) (rest := []) hx hb hml hown hK (c_X10_refused l D dA H.size t g0 (pa 0) g2 (a 0) g4 g5 g6 g7 g8 tp (1 : Int32) r5.1 r5.2 hc5) ⟨ww_2_204, ww_2_201, ww_2_203, ws_0, ww_1_1, rfl, by decide, by decide⟩ rfl rfl (by decide +kernel) ⟨Nat.le_of_ble_eq_true rfl, Nat.le_of_ble_eq_true rfl⟩ hP hD hS hA hE [0] rfl (by decide) 0 rfl rfl rfl hl.1 rfl (Nat.le_of_ble_eq_true rfl) dX10_sits_10 ⟨Nat.le_of_ble_eq_true rfl, Nat.le_of_ble_eq_true rfl⟩) hP hD hS hA [0] [1, 2, 3, 4, 5, 6, 7, 8, 9, 10, 11, 12, 13, 14, 15, 16, 17, 18, 19, 20, 21, 22, 23, 24, 25, 26, 27, 28, 29, 30] [30, 0, 1, 2, 3, 4, 5, 6, 7, 8, 9, 10, 11, 12, 13, 14, 15, 16, 17, 18, 19, 20, 21, 22, 23, 24, 25, 26, 27, 28, 29] rfl rfl (by decide) (by decide) rfl (by decide) (fun H locs hP hD hS => ?_)
      exact RET _ _ H _ ls 13 hf hP hD hS dX10_sits_13
  exact E0 _ _ hP hD hS

noncomputable def f_X10_bag (tp : TopT) (rd : RideT) (pl : PlanT) (x0 : Int32) : Option (Int32 × TopT) := (f_X10_isSeat tp pl x0).bind fun r1 => (if r1 = 0 then (f_X10_refused tp (1 : Int32)).bind fun r5 => some (r5.1, r5.2) else if kb_in? x0 20 then (f_X10_answered tp ((rd_luggage rd) (x0).toNatClampNeg)).bind fun r4 => some (r4.1, r4.2) else none)
set_option maxHeartbeats 4000000 in
set_option maxRecDepth 100000 in
theorem c_X10_bag (l : Launch) (D : va_G) (dA : Nat → ClassId) (sz : Nat) (t : Nat → Nat) (a : Nat → Nat) (pa : Nat → Nat) (g0 : Nat) (g2 : Nat) (g4 : Nat) (g5 : Nat) (g6 : Nat) (g7 : Nat) (g8 : Nat) (tp : TopT) (rd : RideT) (pl : PlanT) (x0 : Int32) (rv : Int32) (u0 : TopT) (hf : f_X10_bag tp rd pl x0 = some (rv, u0)) : kb_Mi l yX10_bag cX10_bag 2 (some .int) ({ frames := 2, cells := 0, slots := 0, locals := 42 } : Room) D dA [.ref (t 0), .int x0] sz (w_Top dA t g0 (pa 0) g2 (a 0) g4 g5 g6 g7 g8 tp ++ (w_Ride dA a (pa 0) (pa 1) rd ++ (w_Plan dA pa pl))) 0 0 rv (w_Top dA t g0 (pa 0) g2 (a 0) g4 g5 g6 g7 g8 u0 ++ (w_Ride dA a (pa 0) (pa 1) rd ++ (w_Plan dA pa pl))) := by
  refine Met.ofW (cc := cX10_bag) (maxL := 2) (ret := (some .int)) (by decide) rfl ?_
  intro p e s m args below meth c s₁ B hml hv
  obtain ⟨rfl, hsz, hP, hK, hD0, hE⟩ := hv
  have hx := B.exec
  have hb := B.bytes
  have hr := B.returns
  have hown : s.vm.findClass RX10 = some m.cls := findClass_of_methodNamed B.named
  have hlocks := B.notSynchronized
  have hts : ∀ w ∈ kb_gw, w.before ([.ref (t 0), .int x0] : List Value).toArray s = true := fun w hw => hK.2.1 w hw _
  subst hsz
  have hD := hD0.self (sz := s.heap.size)
  generalize hAe : va_A (w_Top dA t g0 (pa 0) g2 (a 0) g4 g5 g6 g7 g8 tp ++ (w_Ride dA a (pa 0) (pa 1) rd ++ (w_Plan dA pa pl))) s.heap.size = A at hD hE ⊢
  have hA : ∀ q : Nat, s.heap.size ≤ q → A q := fun q h => by rw [← hAe]; exact Or.inr h
  have hS : va_S A s.heap s.heap [] := va_S.rf
  have hl := lv_entry ([.ref (t 0), .int x0]) (n := 2) (Nat.le_of_ble_eq_true rfl)
  rw [lg_entry_eq]
  generalize (lg_sl ([.ref (t 0), .int x0]) ++ List.replicate (2 - (lg_sl ([.ref (t 0), .int x0])).length) Slot.unset).toArray = ls at hl ⊢
  have hl : lv_has ls 2 [(0, .ref (t 0)), (1, .int x0)] := hl
  generalize hQ : MQ below (va_Qi (fun r (_ : Unit) => r = rv) (kb_B D A (w_Top dA t g0 (pa 0) g2 (a 0) g4 g5 g6 g7 g8 u0 ++ (w_Ride dA a (pa 0) (pa 1) rd ++ (w_Plan dA pa pl)))) A) ([.ref (t 0), .int x0] : List Value).toArray s 0 0 A = Q
  show W p l e ({ frames := 2, cells := 0, slots := 0, locals := 42 } : Room) s m ([.ref (t 0), .int x0] : List Value).toArray below meth c s.heap [] 0 0 Q (F0 m 0 ls [])
  have RET : ∀ (r2 : Int32) (w0 : TopT) (H : Heap) (locs : List Loc) (ls : Array Slot) (pc : Nat), some (r2, w0) = some (rv, u0) → va_P D vwCl (w_Top dA t g0 (pa 0) g2 (a 0) g4 g5 g6 g7 g8 w0 ++ (w_Ride dA a (pa 0) (pa 1) rd ++ (w_Plan dA pa pl))) H → va_D A (w_Top dA t g0 (pa 0) g2 (a 0) g4 g5 g6 g7 g8 w0 ++ (w_Ride dA a (pa 0) (pa 1) rd ++ (w_Plan dA pa pl))) → va_S A s.heap H locs → decode cX10_bag pc = .ok (.ireturn, 1) → W p l e ({ frames := 2, cells := 0, slots := 0, locals := 42 } : Room) s m ([.ref (t 0), .int x0] : List Value).toArray below meth c H locs 0 0 Q (F0 m pc ls [.int r2]) := by
    intro r2 w0 H locs ls pc hq hP hD hS hd
    cases hq
    rw [← hQ]
    exact W.iret hx hb hr (fun t ht hW => ⟨⟨_, (), rfl, rfl, by rw [ht]; exact hP, hD⟩, hS.F ht⟩) hS.2.2 hd
  have E0 : ∀ (H : Heap) (locs : List Loc), va_P D vwCl (w_Top dA t g0 (pa 0) g2 (a 0) g4 g5 g6 g7 g8 tp ++ (w_Ride dA a (pa 0) (pa 1) rd ++ (w_Plan dA pa pl))) H → va_D A (w_Top dA t g0 (pa 0) g2 (a 0) g4 g5 g6 g7 g8 tp ++ (w_Ride dA a (pa 0) (pa 1) rd ++ (w_Plan dA pa pl))) → va_S A s.heap H locs → W p l e ({ frames := 2, cells := 0, slots := 0, locals := 42 } : Room) s m ([.ref (t 0), .int x0] : List Value).toArray below meth c H locs 0 0 Q (F0 m 0 ls []) := by
    intro H locs hP hD hS
    rw [f_X10_bag] at hf
    refine lv_aload_n hx hb dX10_bag_0 rfl (lv_at hl 0 rfl) ?_
    refine lv_iload_n hx hb dX10_bag_1 rfl (lv_at hl 1 rfl) ?_
    obtain ⟨r1, hc1, hf⟩ := kb_bind hf
    refine kb_ci (ws2 := (w_Top dA t g0 (pa 0) g2 (a 0) g4 g5 g6 g7 g8 tp ++ (w_Ride dA a (pa 0) (pa 1) rd ++ (w_Plan dA pa pl)))) (kb_rV (n := 1) (As := [.int x0]) (rest := []) hx hb hml hown hK (c_X10_isSeat l D dA H.size t pa g0 g2 (a 0) g4 g5 g6 g7 g8 tp pl x0 r1 hc1) ⟨ww_4_83, ww_4_80, ww_4_82, ws_34, ww_1_1, rfl, by decide, by decide⟩ rfl rfl (by decide +kernel) ⟨Nat.le_of_ble_eq_true rfl, Nat.le_of_ble_eq_true rfl⟩ hP hD hS hA hE [0, 10, 11, 12, 13, 14, 15, 16, 17, 18, 19, 20, 21, 22, 23, 24, 25, 26, 27, 28, 29, 30] rfl (by decide) 0 rfl rfl rfl hl.1 rfl (Nat.le_of_ble_eq_true rfl) dX10_bag_2 ⟨Nat.le_of_ble_eq_true rfl, Nat.le_of_ble_eq_true rfl⟩) hP hD hS hA [0, 10, 11, 12, 13, 14, 15, 16, 17, 18, 19, 20, 21, 22, 23, 24, 25, 26, 27, 28, 29, 30] [1, 2, 3, 4, 5, 6, 7, 8, 9] [9, 0, 1, 2, 3, 4, 5, 6, 7, 8, 10, 11, 12, 13, 14, 15, 16, 17, 18, 19, 20, 21, 22, 23, 24, 25, 26, 27, 28, 29, 30] rfl rfl (by decide) (by decide) rfl (by decide) (fun H locs hP hD hS => ?_)
    refine lv_if_ne (tgt := 14) hx hb dX10_bag_5 (by decide) (fun c_2 => ?_) (fun c_2 => ?_)
    · rw [if_neg c_2] at hf
      refine lv_aload_n hx hb dX10_bag_14 rfl (lv_at hl 0 rfl) ?_
      refine lv_aload_n hx hb dX10_bag_15 rfl (lv_at hl 0 rfl) ?_
      refine va_get (D := D) (ci := 10) (v := .ref (a 0)) (C := RX10) (T := TX10) (N := 12) hx hb hts kb_inX10 hown hK.1 hP 0 rfl rfl 4 (by decide) (hK.2.w ww_2_156 rfl _) (fun _ h9 => h9) rfl dX10_bag_16 ?_
      refine va_get (D := D) (ci := 6) (v := .ref (a 5)) (C := RX6) (T := TX6) (N := 11) hx hb hts kb_inX6 hown hK.1 hP 1 rfl rfl 3 (by decide) (hK.2.w ww_2_73 rfl _) (fun _ h9 => h9) rfl dX10_bag_19 ?_
      refine lv_iload_n hx hb dX10_bag_22 rfl (lv_at hl 1 rfl) ?_
      obtain ⟨h_3, hf⟩ := kb_if hf
      refine va_iald (D := D) hx hb hK.1 hP 6 0 rfl rfl h_3 dX10_bag_23 ?_
      obtain ⟨r4, hc4, hf⟩ := kb_bind hf
      refine kb_ci (ws2 := (w_Top dA t g0 (pa 0) g2 (a 0) g4 g5 g6 g7 g8 r4.2 ++ (w_Ride dA a (pa 0) (pa 1) rd ++ (w_Plan dA pa pl)))) (kb_rV (n := 1) (As := [.int ((rd_luggage rd) (x0).toNatClampNeg)]) (rest := []) hx hb hml hown hK (c_X10_answered l D dA H.size t g0 (pa 0) g2 (a 0) g4 g5 g6 g7 g8 tp ((rd_luggage rd) (x0).toNatClampNeg) r4.1 r4.2 hc4) ⟨ww_3_184, ww_3_181, ww_3_183, ws_22, ww_1_1, rfl, by decide, by decide⟩ rfl rfl (by decide +kernel) ⟨Nat.le_of_ble_eq_true rfl, Nat.le_of_ble_eq_true rfl⟩ hP hD hS hA hE [0] rfl (by decide) 0 rfl rfl rfl hl.1 rfl (Nat.le_of_ble_eq_true rfl) dX10_bag_24 ⟨Nat.le_of_ble_eq_true rfl, Nat.le_of_ble_eq_true rfl⟩) hP hD hS hA [0] [1, 2, 3, 4, 5, 6, 7, 8, 9, 10, 11, 12, 13, 14, 15, 16, 17, 18, 19, 20, 21, 22, 23, 24, 25, 26, 27, 28, 29, 30] [30, 0, 1, 2, 3, 4, 5, 6, 7, 8, 9, 10, 11, 12, 13, 14, 15, 16, 17, 18, 19, 20, 21, 22, 23, 24, 25, 26, 27, 28, 29] rfl rfl (by decide) (by decide) rfl (by decide) (fun H locs hP hD hS => ?_)
      exact RET _ _ H _ ls 27 hf hP hD hS dX10_bag_27
    · rw [if_pos c_2] at hf
      refine lv_aload_n hx hb dX10_bag_8 rfl (lv_at hl 0 rfl) ?_
      refine lv_iconst (v := (1 : Int32)) hx hb dX10_bag_9 (by decide) ?_
      obtain ⟨r5, hc5, hf⟩ := kb_bind hf
      refine kb_ci (ws2 := (w_Top dA t g0 (pa 0) g2 (a 0) g4 g5 g6 g7 g8 r5.2 ++ (w_Ride dA a (pa 0) (pa 1) rd ++ (w_Plan dA pa pl)))) (kb_rV (n := 1) (As := [.int (1 : Int32)]) (rest := []) hx hb hml hown hK (c_X10_refused l D dA H.size t g0 (pa 0) g2 (a 0) g4 g5 g6 g7 g8 tp (1 : Int32) r5.1 r5.2 hc5) ⟨ww_2_204, ww_2_201, ww_2_203, ws_0, ww_1_1, rfl, by decide, by decide⟩ rfl rfl (by decide +kernel) ⟨Nat.le_of_ble_eq_true rfl, Nat.le_of_ble_eq_true rfl⟩ hP hD hS hA hE [0] rfl (by decide) 0 rfl rfl rfl hl.1 rfl (Nat.le_of_ble_eq_true rfl) dX10_bag_10 ⟨Nat.le_of_ble_eq_true rfl, Nat.le_of_ble_eq_true rfl⟩) hP hD hS hA [0] [1, 2, 3, 4, 5, 6, 7, 8, 9, 10, 11, 12, 13, 14, 15, 16, 17, 18, 19, 20, 21, 22, 23, 24, 25, 26, 27, 28, 29, 30] [30, 0, 1, 2, 3, 4, 5, 6, 7, 8, 9, 10, 11, 12, 13, 14, 15, 16, 17, 18, 19, 20, 21, 22, 23, 24, 25, 26, 27, 28, 29] rfl rfl (by decide) (by decide) rfl (by decide) (fun H locs hP hD hS => ?_)
      exact RET _ _ H _ ls 13 hf hP hD hS dX10_bag_13
  exact E0 _ _ hP hD hS

noncomputable def f_X10_standing (tp : TopT) (rd : RideT) (pl : PlanT) : Option (Int32 × TopT) := (if (tp_hasBus tp) = 0 then (f_X10_refused tp (1 : Int32)).bind fun r4 => some (r4.1, r4.2) else (f_X6_standers rd pl).bind fun r2 => (f_X10_answered tp r2).bind fun r3 => some (r3.1, r3.2))
set_option maxHeartbeats 4000000 in
set_option maxRecDepth 100000 in
theorem c_X10_standing (l : Launch) (D : va_G) (dA : Nat → ClassId) (sz : Nat) (t : Nat → Nat) (a : Nat → Nat) (pa : Nat → Nat) (g0 : Nat) (g2 : Nat) (g4 : Nat) (g5 : Nat) (g6 : Nat) (g7 : Nat) (g8 : Nat) (tp : TopT) (rd : RideT) (pl : PlanT) (rv : Int32) (u0 : TopT) (hf : f_X10_standing tp rd pl = some (rv, u0)) : kb_Mi l yX10_standing cX10_standing 1 (some .int) ({ frames := 1, cells := 0, slots := 0, locals := 22 } : Room) D dA [.ref (t 0)] sz (w_Top dA t g0 (pa 0) g2 (a 0) g4 g5 g6 g7 g8 tp ++ (w_Ride dA a (pa 0) (pa 1) rd ++ (w_Plan dA pa pl))) 0 0 rv (w_Top dA t g0 (pa 0) g2 (a 0) g4 g5 g6 g7 g8 u0 ++ (w_Ride dA a (pa 0) (pa 1) rd ++ (w_Plan dA pa pl))) := by
  refine Met.ofW (cc := cX10_standing) (maxL := 1) (ret := (some .int)) (by decide) rfl ?_
  intro p e s m args below meth c s₁ B hml hv
  obtain ⟨rfl, hsz, hP, hK, hD0, hE⟩ := hv
  have hx := B.exec
  have hb := B.bytes
  have hr := B.returns
  have hown : s.vm.findClass RX10 = some m.cls := findClass_of_methodNamed B.named
  have hlocks := B.notSynchronized
  have hts : ∀ w ∈ kb_gw, w.before ([.ref (t 0)] : List Value).toArray s = true := fun w hw => hK.2.1 w hw _
  subst hsz
  have hD := hD0.self (sz := s.heap.size)
  generalize hAe : va_A (w_Top dA t g0 (pa 0) g2 (a 0) g4 g5 g6 g7 g8 tp ++ (w_Ride dA a (pa 0) (pa 1) rd ++ (w_Plan dA pa pl))) s.heap.size = A at hD hE ⊢
  have hA : ∀ q : Nat, s.heap.size ≤ q → A q := fun q h => by rw [← hAe]; exact Or.inr h
  have hS : va_S A s.heap s.heap [] := va_S.rf
  have hl := lv_entry ([.ref (t 0)]) (n := 1) (Nat.le_of_ble_eq_true rfl)
  rw [lg_entry_eq]
  generalize (lg_sl ([.ref (t 0)]) ++ List.replicate (1 - (lg_sl ([.ref (t 0)])).length) Slot.unset).toArray = ls at hl ⊢
  have hl : lv_has ls 1 [(0, .ref (t 0))] := hl
  generalize hQ : MQ below (va_Qi (fun r (_ : Unit) => r = rv) (kb_B D A (w_Top dA t g0 (pa 0) g2 (a 0) g4 g5 g6 g7 g8 u0 ++ (w_Ride dA a (pa 0) (pa 1) rd ++ (w_Plan dA pa pl)))) A) ([.ref (t 0)] : List Value).toArray s 0 0 A = Q
  show W p l e ({ frames := 1, cells := 0, slots := 0, locals := 22 } : Room) s m ([.ref (t 0)] : List Value).toArray below meth c s.heap [] 0 0 Q (F0 m 0 ls [])
  have RET : ∀ (r2 : Int32) (w0 : TopT) (H : Heap) (locs : List Loc) (ls : Array Slot) (pc : Nat), some (r2, w0) = some (rv, u0) → va_P D vwCl (w_Top dA t g0 (pa 0) g2 (a 0) g4 g5 g6 g7 g8 w0 ++ (w_Ride dA a (pa 0) (pa 1) rd ++ (w_Plan dA pa pl))) H → va_D A (w_Top dA t g0 (pa 0) g2 (a 0) g4 g5 g6 g7 g8 w0 ++ (w_Ride dA a (pa 0) (pa 1) rd ++ (w_Plan dA pa pl))) → va_S A s.heap H locs → decode cX10_standing pc = .ok (.ireturn, 1) → W p l e ({ frames := 1, cells := 0, slots := 0, locals := 22 } : Room) s m ([.ref (t 0)] : List Value).toArray below meth c H locs 0 0 Q (F0 m pc ls [.int r2]) := by
    intro r2 w0 H locs ls pc hq hP hD hS hd
    cases hq
    rw [← hQ]
    exact W.iret hx hb hr (fun t ht hW => ⟨⟨_, (), rfl, rfl, by rw [ht]; exact hP, hD⟩, hS.F ht⟩) hS.2.2 hd
  have E0 : ∀ (H : Heap) (locs : List Loc), va_P D vwCl (w_Top dA t g0 (pa 0) g2 (a 0) g4 g5 g6 g7 g8 tp ++ (w_Ride dA a (pa 0) (pa 1) rd ++ (w_Plan dA pa pl))) H → va_D A (w_Top dA t g0 (pa 0) g2 (a 0) g4 g5 g6 g7 g8 tp ++ (w_Ride dA a (pa 0) (pa 1) rd ++ (w_Plan dA pa pl))) → va_S A s.heap H locs → W p l e ({ frames := 1, cells := 0, slots := 0, locals := 22 } : Room) s m ([.ref (t 0)] : List Value).toArray below meth c H locs 0 0 Q (F0 m 0 ls []) := by
    intro H locs hP hD hS
    rw [f_X10_standing] at hf
    refine lv_aload_n hx hb dX10_standing_0 rfl (lv_at hl 0 rfl) ?_
    refine va_get (D := D) (ci := 10) (v := .int (tp_hasBus tp)) (C := RX10) (T := TX10) (N := 12) hx hb hts kb_inX10 hown hK.1 hP 0 rfl rfl 3 (by decide) (hK.2.w ww_2_155 rfl _) (fun _ h9 => h9) rfl dX10_standing_1 ?_
    refine lv_if_ne (tgt := 13) hx hb dX10_standing_4 (by decide) (fun c_1 => ?_) (fun c_1 => ?_)
    · rw [if_neg c_1] at hf
      refine lv_aload_n hx hb dX10_standing_13 rfl (lv_at hl 0 rfl) ?_
      refine lv_aload_n hx hb dX10_standing_14 rfl (lv_at hl 0 rfl) ?_
      refine va_get (D := D) (ci := 10) (v := .ref (a 0)) (C := RX10) (T := TX10) (N := 12) hx hb hts kb_inX10 hown hK.1 hP 0 rfl rfl 4 (by decide) (hK.2.w ww_2_156 rfl _) (fun _ h9 => h9) rfl dX10_standing_15 ?_
      obtain ⟨r2, hc2, hf⟩ := kb_bind hf
      refine kb_ci (ws2 := (w_Top dA t g0 (pa 0) g2 (a 0) g4 g5 g6 g7 g8 tp ++ (w_Ride dA a (pa 0) (pa 1) rd ++ (w_Plan dA pa pl)))) (kb_rV (n := 0) (As := []) (rest := [.ref (t 0)]) hx hb hml hown hK (c_X6_standers l D dA H.size a pa rd pl r2 hc2) ⟨ww_4_95, ww_4_92, ww_4_93, ww_4_94, ww_1_8, rfl, by decide, by decide⟩ rfl rfl (by decide +kernel) ⟨Nat.le_of_ble_eq_true rfl, Nat.le_of_ble_eq_true rfl⟩ hP hD hS hA hE [1, 2, 3, 4, 5, 6, 7, 8, 9, 10, 11, 12, 13, 14, 15, 16, 17, 18, 19, 20, 21, 22, 23, 24, 25, 26, 27, 28, 29, 30] rfl (by decide) 0 rfl rfl rfl hl.1 rfl (Nat.le_of_ble_eq_true rfl) dX10_standing_18 ⟨Nat.le_of_ble_eq_true rfl, Nat.le_of_ble_eq_true rfl⟩) hP hD hS hA [1, 2, 3, 4, 5, 6, 7, 8, 9, 10, 11, 12, 13, 14, 15, 16, 17, 18, 19, 20, 21, 22, 23, 24, 25, 26, 27, 28, 29, 30] [0] [0, 1, 2, 3, 4, 5, 6, 7, 8, 9, 10, 11, 12, 13, 14, 15, 16, 17, 18, 19, 20, 21, 22, 23, 24, 25, 26, 27, 28, 29, 30] rfl rfl (by decide) (by decide) rfl (by decide) (fun H locs hP hD hS => ?_)
      obtain ⟨r3, hc3, hf⟩ := kb_bind hf
      refine kb_ci (ws2 := (w_Top dA t g0 (pa 0) g2 (a 0) g4 g5 g6 g7 g8 r3.2 ++ (w_Ride dA a (pa 0) (pa 1) rd ++ (w_Plan dA pa pl)))) (kb_rV (n := 1) (As := [.int r2]) (rest := []) hx hb hml hown hK (c_X10_answered l D dA H.size t g0 (pa 0) g2 (a 0) g4 g5 g6 g7 g8 tp r2 r3.1 r3.2 hc3) ⟨ww_3_184, ww_3_181, ww_3_183, ws_22, ww_1_1, rfl, by decide, by decide⟩ rfl rfl (by decide +kernel) ⟨Nat.le_of_ble_eq_true rfl, Nat.le_of_ble_eq_true rfl⟩ hP hD hS hA hE [0] rfl (by decide) 0 rfl rfl rfl hl.1 rfl (Nat.le_of_ble_eq_true rfl) dX10_standing_21 ⟨Nat.le_of_ble_eq_true rfl, Nat.le_of_ble_eq_true rfl⟩) hP hD hS hA [0] [1, 2, 3, 4, 5, 6, 7, 8, 9, 10, 11, 12, 13, 14, 15, 16, 17, 18, 19, 20, 21, 22, 23, 24, 25, 26, 27, 28, 29, 30] [30, 0, 1, 2, 3, 4, 5, 6, 7, 8, 9, 10, 11, 12, 13, 14, 15, 16, 17, 18, 19, 20, 21, 22, 23, 24, 25, 26, 27, 28, 29] rfl rfl (by decide) (by decide) rfl (by decide) (fun H locs hP hD hS => ?_)
      exact RET _ _ H _ ls 24 hf hP hD hS dX10_standing_24
    · rw [if_pos c_1] at hf
      refine lv_aload_n hx hb dX10_standing_7 rfl (lv_at hl 0 rfl) ?_
      refine lv_iconst (v := (1 : Int32)) hx hb dX10_standing_8 (by decide) ?_
      obtain ⟨r4, hc4, hf⟩ := kb_bind hf
      refine kb_ci (ws2 := (w_Top dA t g0 (pa 0) g2 (a 0) g4 g5 g6 g7 g8 r4.2 ++ (w_Ride dA a (pa 0) (pa 1) rd ++ (w_Plan dA pa pl)))) (kb_rV (n := 1) (As := [.int (1 : Int32)]) (rest := []) hx hb hml hown hK (c_X10_refused l D dA H.size t g0 (pa 0) g2 (a 0) g4 g5 g6 g7 g8 tp (1 : Int32) r4.1 r4.2 hc4) ⟨ww_2_204, ww_2_201, ww_2_203, ws_0, ww_1_1, rfl, by decide, by decide⟩ rfl rfl (by decide +kernel) ⟨Nat.le_of_ble_eq_true rfl, Nat.le_of_ble_eq_true rfl⟩ hP hD hS hA hE [0] rfl (by decide) 0 rfl rfl rfl hl.1 rfl (Nat.le_of_ble_eq_true rfl) dX10_standing_9 ⟨Nat.le_of_ble_eq_true rfl, Nat.le_of_ble_eq_true rfl⟩) hP hD hS hA [0] [1, 2, 3, 4, 5, 6, 7, 8, 9, 10, 11, 12, 13, 14, 15, 16, 17, 18, 19, 20, 21, 22, 23, 24, 25, 26, 27, 28, 29, 30] [30, 0, 1, 2, 3, 4, 5, 6, 7, 8, 9, 10, 11, 12, 13, 14, 15, 16, 17, 18, 19, 20, 21, 22, 23, 24, 25, 26, 27, 28, 29] rfl rfl (by decide) (by decide) rfl (by decide) (fun H locs hP hD hS => ?_)
      exact RET _ _ H _ ls 12 hf hP hD hS dX10_standing_12
  exact E0 _ _ hP hD hS

noncomputable def f_X10_free (tp : TopT) (rd : RideT) (pl : PlanT) : Option (Int32 × TopT) := (if (tp_hasBus tp) = 0 then (f_X10_refused tp (1 : Int32)).bind fun r4 => some (r4.1, r4.2) else (f_X6_freeSeats rd pl).bind fun r2 => (f_X10_answered tp r2).bind fun r3 => some (r3.1, r3.2))
set_option maxHeartbeats 4000000 in
set_option maxRecDepth 100000 in
theorem c_X10_free (l : Launch) (D : va_G) (dA : Nat → ClassId) (sz : Nat) (t : Nat → Nat) (a : Nat → Nat) (pa : Nat → Nat) (g0 : Nat) (g2 : Nat) (g4 : Nat) (g5 : Nat) (g6 : Nat) (g7 : Nat) (g8 : Nat) (tp : TopT) (rd : RideT) (pl : PlanT) (rv : Int32) (u0 : TopT) (hf : f_X10_free tp rd pl = some (rv, u0)) : kb_Mi l yX10_free cX10_free 1 (some .int) ({ frames := 2, cells := 0, slots := 0, locals := 43 } : Room) D dA [.ref (t 0)] sz (w_Top dA t g0 (pa 0) g2 (a 0) g4 g5 g6 g7 g8 tp ++ (w_Ride dA a (pa 0) (pa 1) rd ++ (w_Plan dA pa pl))) 0 0 rv (w_Top dA t g0 (pa 0) g2 (a 0) g4 g5 g6 g7 g8 u0 ++ (w_Ride dA a (pa 0) (pa 1) rd ++ (w_Plan dA pa pl))) := by
  refine Met.ofW (cc := cX10_free) (maxL := 1) (ret := (some .int)) (by decide) rfl ?_
  intro p e s m args below meth c s₁ B hml hv
  obtain ⟨rfl, hsz, hP, hK, hD0, hE⟩ := hv
  have hx := B.exec
  have hb := B.bytes
  have hr := B.returns
  have hown : s.vm.findClass RX10 = some m.cls := findClass_of_methodNamed B.named
  have hlocks := B.notSynchronized
  have hts : ∀ w ∈ kb_gw, w.before ([.ref (t 0)] : List Value).toArray s = true := fun w hw => hK.2.1 w hw _
  subst hsz
  have hD := hD0.self (sz := s.heap.size)
  generalize hAe : va_A (w_Top dA t g0 (pa 0) g2 (a 0) g4 g5 g6 g7 g8 tp ++ (w_Ride dA a (pa 0) (pa 1) rd ++ (w_Plan dA pa pl))) s.heap.size = A at hD hE ⊢
  have hA : ∀ q : Nat, s.heap.size ≤ q → A q := fun q h => by rw [← hAe]; exact Or.inr h
  have hS : va_S A s.heap s.heap [] := va_S.rf
  have hl := lv_entry ([.ref (t 0)]) (n := 1) (Nat.le_of_ble_eq_true rfl)
  rw [lg_entry_eq]
  generalize (lg_sl ([.ref (t 0)]) ++ List.replicate (1 - (lg_sl ([.ref (t 0)])).length) Slot.unset).toArray = ls at hl ⊢
  have hl : lv_has ls 1 [(0, .ref (t 0))] := hl
  generalize hQ : MQ below (va_Qi (fun r (_ : Unit) => r = rv) (kb_B D A (w_Top dA t g0 (pa 0) g2 (a 0) g4 g5 g6 g7 g8 u0 ++ (w_Ride dA a (pa 0) (pa 1) rd ++ (w_Plan dA pa pl)))) A) ([.ref (t 0)] : List Value).toArray s 0 0 A = Q
  show W p l e ({ frames := 2, cells := 0, slots := 0, locals := 43 } : Room) s m ([.ref (t 0)] : List Value).toArray below meth c s.heap [] 0 0 Q (F0 m 0 ls [])
  have RET : ∀ (r2 : Int32) (w0 : TopT) (H : Heap) (locs : List Loc) (ls : Array Slot) (pc : Nat), some (r2, w0) = some (rv, u0) → va_P D vwCl (w_Top dA t g0 (pa 0) g2 (a 0) g4 g5 g6 g7 g8 w0 ++ (w_Ride dA a (pa 0) (pa 1) rd ++ (w_Plan dA pa pl))) H → va_D A (w_Top dA t g0 (pa 0) g2 (a 0) g4 g5 g6 g7 g8 w0 ++ (w_Ride dA a (pa 0) (pa 1) rd ++ (w_Plan dA pa pl))) → va_S A s.heap H locs → decode cX10_free pc = .ok (.ireturn, 1) → W p l e ({ frames := 2, cells := 0, slots := 0, locals := 43 } : Room) s m ([.ref (t 0)] : List Value).toArray below meth c H locs 0 0 Q (F0 m pc ls [.int r2]) := by
    intro r2 w0 H locs ls pc hq hP hD hS hd
    cases hq
    rw [← hQ]
    exact W.iret hx hb hr (fun t ht hW => ⟨⟨_, (), rfl, rfl, by rw [ht]; exact hP, hD⟩, hS.F ht⟩) hS.2.2 hd
  have E0 : ∀ (H : Heap) (locs : List Loc), va_P D vwCl (w_Top dA t g0 (pa 0) g2 (a 0) g4 g5 g6 g7 g8 tp ++ (w_Ride dA a (pa 0) (pa 1) rd ++ (w_Plan dA pa pl))) H → va_D A (w_Top dA t g0 (pa 0) g2 (a 0) g4 g5 g6 g7 g8 tp ++ (w_Ride dA a (pa 0) (pa 1) rd ++ (w_Plan dA pa pl))) → va_S A s.heap H locs → W p l e ({ frames := 2, cells := 0, slots := 0, locals := 43 } : Room) s m ([.ref (t 0)] : List Value).toArray below meth c H locs 0 0 Q (F0 m 0 ls []) := by
    intro H locs hP hD hS
    rw [f_X10_free] at hf
    refine lv_aload_n hx hb dX10_free_0 rfl (lv_at hl 0 rfl) ?_
    refine va_get (D := D) (ci := 10) (v := .int (tp_hasBus tp)) (C := RX10) (T := TX10) (N := 12) hx hb hts kb_inX10 hown hK.1 hP 0 rfl rfl 3 (by decide) (hK.2.w ww_2_155 rfl _) (fun _ h9 => h9) rfl dX10_free_1 ?_
    refine lv_if_ne (tgt := 13) hx hb dX10_free_4 (by decide) (fun c_1 => ?_) (fun c_1 => ?_)
    · rw [if_neg c_1] at hf
      refine lv_aload_n hx hb dX10_free_13 rfl (lv_at hl 0 rfl) ?_
      refine lv_aload_n hx hb dX10_free_14 rfl (lv_at hl 0 rfl) ?_
      refine va_get (D := D) (ci := 10) (v := .ref (a 0)) (C := RX10) (T := TX10) (N := 12) hx hb hts kb_inX10 hown hK.1 hP 0 rfl rfl 4 (by decide) (hK.2.w ww_2_156 rfl _) (fun _ h9 => h9) rfl dX10_free_15 ?_
      obtain ⟨r2, hc2, hf⟩ := kb_bind hf
      refine kb_ci (ws2 := (w_Top dA t g0 (pa 0) g2 (a 0) g4 g5 g6 g7 g8 tp ++ (w_Ride dA a (pa 0) (pa 1) rd ++ (w_Plan dA pa pl)))) (kb_rV (n := 0) (As := []) (rest := [.ref (t 0)]) hx hb hml hown hK (c_X6_freeSeats l D dA H.size a pa rd pl r2 hc2) ⟨ww_4_22, ww_4_100, ww_4_20, ww_4_21, ww_1_8, rfl, by decide, by decide⟩ rfl rfl (by decide +kernel) ⟨Nat.le_of_ble_eq_true rfl, Nat.le_of_ble_eq_true rfl⟩ hP hD hS hA hE [1, 2, 3, 4, 5, 6, 7, 8, 9, 10, 11, 12, 13, 14, 15, 16, 17, 18, 19, 20, 21, 22, 23, 24, 25, 26, 27, 28, 29, 30] rfl (by decide) 0 rfl rfl rfl hl.1 rfl (Nat.le_of_ble_eq_true rfl) dX10_free_18 ⟨Nat.le_of_ble_eq_true rfl, Nat.le_of_ble_eq_true rfl⟩) hP hD hS hA [1, 2, 3, 4, 5, 6, 7, 8, 9, 10, 11, 12, 13, 14, 15, 16, 17, 18, 19, 20, 21, 22, 23, 24, 25, 26, 27, 28, 29, 30] [0] [0, 1, 2, 3, 4, 5, 6, 7, 8, 9, 10, 11, 12, 13, 14, 15, 16, 17, 18, 19, 20, 21, 22, 23, 24, 25, 26, 27, 28, 29, 30] rfl rfl (by decide) (by decide) rfl (by decide) (fun H locs hP hD hS => ?_)
      obtain ⟨r3, hc3, hf⟩ := kb_bind hf
      refine kb_ci (ws2 := (w_Top dA t g0 (pa 0) g2 (a 0) g4 g5 g6 g7 g8 r3.2 ++ (w_Ride dA a (pa 0) (pa 1) rd ++ (w_Plan dA pa pl)))) (kb_rV (n := 1) (As := [.int r2]) (rest := []) hx hb hml hown hK (c_X10_answered l D dA H.size t g0 (pa 0) g2 (a 0) g4 g5 g6 g7 g8 tp r2 r3.1 r3.2 hc3) ⟨ww_3_184, ww_3_181, ww_3_183, ws_22, ww_1_1, rfl, by decide, by decide⟩ rfl rfl (by decide +kernel) ⟨Nat.le_of_ble_eq_true rfl, Nat.le_of_ble_eq_true rfl⟩ hP hD hS hA hE [0] rfl (by decide) 0 rfl rfl rfl hl.1 rfl (Nat.le_of_ble_eq_true rfl) dX10_free_21 ⟨Nat.le_of_ble_eq_true rfl, Nat.le_of_ble_eq_true rfl⟩) hP hD hS hA [0] [1, 2, 3, 4, 5, 6, 7, 8, 9, 10, 11, 12, 13, 14, 15, 16, 17, 18, 19, 20, 21, 22, 23, 24, 25, 26, 27, 28, 29, 30] [30, 0, 1, 2, 3, 4, 5, 6, 7, 8, 9, 10, 11, 12, 13, 14, 15, 16, 17, 18, 19, 20, 21, 22, 23, 24, 25, 26, 27, 28, 29] rfl rfl (by decide) (by decide) rfl (by decide) (fun H locs hP hD hS => ?_)
      exact RET _ _ H _ ls 24 hf hP hD hS dX10_free_24
    · rw [if_pos c_1] at hf
      refine lv_aload_n hx hb dX10_free_7 rfl (lv_at hl 0 rfl) ?_
      refine lv_iconst (v := (1 : Int32)) hx hb dX10_free_8 (by decide) ?_
      obtain ⟨r4, hc4, hf⟩ := kb_bind hf
      refine kb_ci (ws2 := (w_Top dA t g0 (pa 0) g2 (a 0) g4 g5 g6 g7 g8 r4.2 ++ (w_Ride dA a (pa 0) (pa 1) rd ++ (w_Plan dA pa pl)))) (kb_rV (n := 1) (As := [.int (1 : Int32)]) (rest := []) hx hb hml hown hK (c_X10_refused l D dA H.size t g0 (pa 0) g2 (a 0) g4 g5 g6 g7 g8 tp (1 : Int32) r4.1 r4.2 hc4) ⟨ww_2_204, ww_2_201, ww_2_203, ws_0, ww_1_1, rfl, by decide, by decide⟩ rfl rfl (by decide +kernel) ⟨Nat.le_of_ble_eq_true rfl, Nat.le_of_ble_eq_true rfl⟩ hP hD hS hA hE [0] rfl (by decide) 0 rfl rfl rfl hl.1 rfl (Nat.le_of_ble_eq_true rfl) dX10_free_9 ⟨Nat.le_of_ble_eq_true rfl, Nat.le_of_ble_eq_true rfl⟩) hP hD hS hA [0] [1, 2, 3, 4, 5, 6, 7, 8, 9, 10, 11, 12, 13, 14, 15, 16, 17, 18, 19, 20, 21, 22, 23, 24, 25, 26, 27, 28, 29, 30] [30, 0, 1, 2, 3, 4, 5, 6, 7, 8, 9, 10, 11, 12, 13, 14, 15, 16, 17, 18, 19, 20, 21, 22, 23, 24, 25, 26, 27, 28, 29] rfl rfl (by decide) (by decide) rfl (by decide) (fun H locs hP hD hS => ?_)
      exact RET _ _ H _ ls 12 hf hP hD hS dX10_free_12
  exact E0 _ _ hP hD hS

noncomputable def f_X10_order (tp : TopT) (rd : RideT) (pl : PlanT) (x0 : Int32) : Option (Int32 × TopT) := (f_X10_isRider tp pl x0).bind fun r1 => (if r1 = 0 then (f_X10_refused tp (1 : Int32)).bind fun r8 => some (r8.1, r8.2) else if kb_in? x0 8 then (if ((rd_turn rd) (x0).toNatClampNeg) = 0 then (f_X10_refused tp (6 : Int32)).bind fun r7 => some (r7.1, r7.2) else if kb_in? x0 8 then (f_X10_answered tp ((rd_turn rd) (x0).toNatClampNeg)).bind fun r6 => some (r6.1, r6.2) else none) else none)
set_option maxHeartbeats 4000000 in
set_option maxRecDepth 100000 in
theorem c_X10_order (l : Launch) (D : va_G) (dA : Nat → ClassId) (sz : Nat) (t : Nat → Nat) (a : Nat → Nat) (pa : Nat → Nat) (g0 : Nat) (g2 : Nat) (g4 : Nat) (g5 : Nat) (g6 : Nat) (g7 : Nat) (g8 : Nat) (tp : TopT) (rd : RideT) (pl : PlanT) (x0 : Int32) (rv : Int32) (u0 : TopT) (hf : f_X10_order tp rd pl x0 = some (rv, u0)) : kb_Mi l yX10_order cX10_order 2 (some .int) ({ frames := 1, cells := 0, slots := 0, locals := 21 } : Room) D dA [.ref (t 0), .int x0] sz (w_Top dA t g0 (pa 0) g2 (a 0) g4 g5 g6 g7 g8 tp ++ (w_Ride dA a (pa 0) (pa 1) rd ++ (w_Plan dA pa pl))) 0 0 rv (w_Top dA t g0 (pa 0) g2 (a 0) g4 g5 g6 g7 g8 u0 ++ (w_Ride dA a (pa 0) (pa 1) rd ++ (w_Plan dA pa pl))) := by
  refine Met.ofW (cc := cX10_order) (maxL := 2) (ret := (some .int)) (by decide) rfl ?_
  intro p e s m args below meth c s₁ B hml hv
  obtain ⟨rfl, hsz, hP, hK, hD0, hE⟩ := hv
  have hx := B.exec
  have hb := B.bytes
  have hr := B.returns
  have hown : s.vm.findClass RX10 = some m.cls := findClass_of_methodNamed B.named
  have hlocks := B.notSynchronized
  have hts : ∀ w ∈ kb_gw, w.before ([.ref (t 0), .int x0] : List Value).toArray s = true := fun w hw => hK.2.1 w hw _
  subst hsz
  have hD := hD0.self (sz := s.heap.size)
  generalize hAe : va_A (w_Top dA t g0 (pa 0) g2 (a 0) g4 g5 g6 g7 g8 tp ++ (w_Ride dA a (pa 0) (pa 1) rd ++ (w_Plan dA pa pl))) s.heap.size = A at hD hE ⊢
  have hA : ∀ q : Nat, s.heap.size ≤ q → A q := fun q h => by rw [← hAe]; exact Or.inr h
  have hS : va_S A s.heap s.heap [] := va_S.rf
  have hl := lv_entry ([.ref (t 0), .int x0]) (n := 2) (Nat.le_of_ble_eq_true rfl)
  rw [lg_entry_eq]
  generalize (lg_sl ([.ref (t 0), .int x0]) ++ List.replicate (2 - (lg_sl ([.ref (t 0), .int x0])).length) Slot.unset).toArray = ls at hl ⊢
  have hl : lv_has ls 2 [(0, .ref (t 0)), (1, .int x0)] := hl
  generalize hQ : MQ below (va_Qi (fun r (_ : Unit) => r = rv) (kb_B D A (w_Top dA t g0 (pa 0) g2 (a 0) g4 g5 g6 g7 g8 u0 ++ (w_Ride dA a (pa 0) (pa 1) rd ++ (w_Plan dA pa pl)))) A) ([.ref (t 0), .int x0] : List Value).toArray s 0 0 A = Q
  show W p l e ({ frames := 1, cells := 0, slots := 0, locals := 21 } : Room) s m ([.ref (t 0), .int x0] : List Value).toArray below meth c s.heap [] 0 0 Q (F0 m 0 ls [])
  have RET : ∀ (r2 : Int32) (w0 : TopT) (H : Heap) (locs : List Loc) (ls : Array Slot) (pc : Nat), some (r2, w0) = some (rv, u0) → va_P D vwCl (w_Top dA t g0 (pa 0) g2 (a 0) g4 g5 g6 g7 g8 w0 ++ (w_Ride dA a (pa 0) (pa 1) rd ++ (w_Plan dA pa pl))) H → va_D A (w_Top dA t g0 (pa 0) g2 (a 0) g4 g5 g6 g7 g8 w0 ++ (w_Ride dA a (pa 0) (pa 1) rd ++ (w_Plan dA pa pl))) → va_S A s.heap H locs → decode cX10_order pc = .ok (.ireturn, 1) → W p l e ({ frames := 1, cells := 0, slots := 0, locals := 21 } : Room) s m ([.ref (t 0), .int x0] : List Value).toArray below meth c H locs 0 0 Q (F0 m pc ls [.int r2]) := by
    intro r2 w0 H locs ls pc hq hP hD hS hd
    cases hq
    rw [← hQ]
    exact W.iret hx hb hr (fun t ht hW => ⟨⟨_, (), rfl, rfl, by rw [ht]; exact hP, hD⟩, hS.F ht⟩) hS.2.2 hd
  have E0 : ∀ (H : Heap) (locs : List Loc), va_P D vwCl (w_Top dA t g0 (pa 0) g2 (a 0) g4 g5 g6 g7 g8 tp ++ (w_Ride dA a (pa 0) (pa 1) rd ++ (w_Plan dA pa pl))) H → va_D A (w_Top dA t g0 (pa 0) g2 (a 0) g4 g5 g6 g7 g8 tp ++ (w_Ride dA a (pa 0) (pa 1) rd ++ (w_Plan dA pa pl))) → va_S A s.heap H locs → W p l e ({ frames := 1, cells := 0, slots := 0, locals := 21 } : Room) s m ([.ref (t 0), .int x0] : List Value).toArray below meth c H locs 0 0 Q (F0 m 0 ls []) := by
    intro H locs hP hD hS
    rw [f_X10_order] at hf
    refine lv_aload_n hx hb dX10_order_0 rfl (lv_at hl 0 rfl) ?_
    refine lv_iload_n hx hb dX10_order_1 rfl (lv_at hl 1 rfl) ?_
    obtain ⟨r1, hc1, hf⟩ := kb_bind hf
    refine kb_ci (ws2 := (w_Top dA t g0 (pa 0) g2 (a 0) g4 g5 g6 g7 g8 tp ++ (w_Ride dA a (pa 0) (pa 1) rd ++ (w_Plan dA pa pl)))) (kb_rV (n := 1) (As := [.int x0]) (rest := []) hx hb hml hown hK (c_X10_isRider l D dA H.size t pa g0 g2 (a 0) g4 g5 g6 g7 g8 tp pl x0 r1 hc1) ⟨ww_4_75, ww_4_72, ww_4_74, ws_33, ww_1_1, rfl, by decide, by decide⟩ rfl rfl (by decide +kernel) ⟨Nat.le_of_ble_eq_true rfl, Nat.le_of_ble_eq_true rfl⟩ hP hD hS hA hE [0, 10, 11, 12, 13, 14, 15, 16, 17, 18, 19, 20, 21, 22, 23, 24, 25, 26, 27, 28, 29, 30] rfl (by decide) 0 rfl rfl rfl hl.1 rfl (Nat.le_of_ble_eq_true rfl) dX10_order_2 ⟨Nat.le_of_ble_eq_true rfl, Nat.le_of_ble_eq_true rfl⟩) hP hD hS hA [0, 10, 11, 12, 13, 14, 15, 16, 17, 18, 19, 20, 21, 22, 23, 24, 25, 26, 27, 28, 29, 30] [1, 2, 3, 4, 5, 6, 7, 8, 9] [9, 0, 1, 2, 3, 4, 5, 6, 7, 8, 10, 11, 12, 13, 14, 15, 16, 17, 18, 19, 20, 21, 22, 23, 24, 25, 26, 27, 28, 29, 30] rfl rfl (by decide) (by decide) rfl (by decide) (fun H locs hP hD hS => ?_)
    refine lv_if_ne (tgt := 14) hx hb dX10_order_5 (by decide) (fun c_2 => ?_) (fun c_2 => ?_)
    · rw [if_neg c_2] at hf
      refine lv_aload_n hx hb dX10_order_14 rfl (lv_at hl 0 rfl) ?_
      refine va_get (D := D) (ci := 10) (v := .ref (a 0)) (C := RX10) (T := TX10) (N := 12) hx hb hts kb_inX10 hown hK.1 hP 0 rfl rfl 4 (by decide) (hK.2.w ww_2_156 rfl _) (fun _ h9 => h9) rfl dX10_order_15 ?_
      refine va_get (D := D) (ci := 6) (v := .ref (a 6)) (C := RX6) (T := TX6) (N := 11) hx hb hts kb_inX6 hown hK.1 hP 1 rfl rfl 4 (by decide) (hK.2.w ww_2_76 rfl _) (fun _ h9 => h9) rfl dX10_order_18 ?_
      refine lv_iload_n hx hb dX10_order_21 rfl (lv_at hl 1 rfl) ?_
      obtain ⟨h_3, hf⟩ := kb_if hf
      refine va_iald (D := D) hx hb hK.1 hP 7 0 rfl rfl h_3 dX10_order_22 ?_
      refine lv_if_ne (tgt := 33) hx hb dX10_order_23 (by decide) (fun c_4 => ?_) (fun c_4 => ?_)
      · rw [if_neg c_4] at hf
        refine lv_aload_n hx hb dX10_order_33 rfl (lv_at hl 0 rfl) ?_
        refine lv_aload_n hx hb dX10_order_34 rfl (lv_at hl 0 rfl) ?_
        refine va_get (D := D) (ci := 10) (v := .ref (a 0)) (C := RX10) (T := TX10) (N := 12) hx hb hts kb_inX10 hown hK.1 hP 0 rfl rfl 4 (by decide) (hK.2.w ww_2_156 rfl _) (fun _ h9 => h9) rfl dX10_order_35 ?_
        refine va_get (D := D) (ci := 6) (v := .ref (a 6)) (C := RX6) (T := TX6) (N := 11) hx hb hts kb_inX6 hown hK.1 hP 1 rfl rfl 4 (by decide) (hK.2.w ww_2_76 rfl _) (fun _ h9 => h9) rfl dX10_order_38 ?_
        refine lv_iload_n hx hb dX10_order_41 rfl (lv_at hl 1 rfl) ?_
        obtain ⟨h_5, hf⟩ := kb_if hf
        refine va_iald (D := D) hx hb hK.1 hP 7 0 rfl rfl h_5 dX10_order_42 ?_
        obtain ⟨r6, hc6, hf⟩ := kb_bind hf
        refine kb_ci (ws2 := (w_Top dA t g0 (pa 0) g2 (a 0) g4 g5 g6 g7 g8 r6.2 ++ (w_Ride dA a (pa 0) (pa 1) rd ++ (w_Plan dA pa pl)))) (kb_rV (n := 1) (As := [.int ((rd_turn rd) (x0).toNatClampNeg)]) (rest := []) hx hb hml hown hK (c_X10_answered l D dA H.size t g0 (pa 0) g2 (a 0) g4 g5 g6 g7 g8 tp ((rd_turn rd) (x0).toNatClampNeg) r6.1 r6.2 hc6) ⟨ww_3_184, ww_3_181, ww_3_183, ws_22, ww_1_1, rfl, by decide, by decide⟩ rfl rfl (by decide +kernel) ⟨Nat.le_of_ble_eq_true rfl, Nat.le_of_ble_eq_true rfl⟩ hP hD hS hA hE [0] rfl (by decide) 0 rfl rfl rfl hl.1 rfl (Nat.le_of_ble_eq_true rfl) dX10_order_43 ⟨Nat.le_of_ble_eq_true rfl, Nat.le_of_ble_eq_true rfl⟩) hP hD hS hA [0] [1, 2, 3, 4, 5, 6, 7, 8, 9, 10, 11, 12, 13, 14, 15, 16, 17, 18, 19, 20, 21, 22, 23, 24, 25, 26, 27, 28, 29, 30] [30, 0, 1, 2, 3, 4, 5, 6, 7, 8, 9, 10, 11, 12, 13, 14, 15, 16, 17, 18, 19, 20, 21, 22, 23, 24, 25, 26, 27, 28, 29] rfl rfl (by decide) (by decide) rfl (by decide) (fun H locs hP hD hS => ?_)
        exact RET _ _ H _ ls 46 hf hP hD hS dX10_order_46
      · rw [if_pos c_4] at hf
        refine lv_aload_n hx hb dX10_order_26 rfl (lv_at hl 0 rfl) ?_
        refine lv_bipush (v := (6 : Int32)) hx hb dX10_order_27 (by decide) ?_
        obtain ⟨r7, hc7, hf⟩ := kb_bind hf
        refine kb_ci (ws2 := (w_Top dA t g0 (pa 0) g2 (a 0) g4 g5 g6 g7 g8 r7.2 ++ (w_Ride dA a (pa 0) (pa 1) rd ++ (w_Plan dA pa pl)))) (kb_rV (n := 1) (As := [.int (6 : Int32)]) (rest := []) hx hb hml hown hK (c_X10_refused l D dA H.size t g0 (pa 0) g2 (a 0) g4 g5 g6 g7 g8 tp (6 : Int32) r7.1 r7.2 hc7) ⟨ww_2_204, ww_2_201, ww_2_203, ws_0, ww_1_1, rfl, by decide, by decide⟩ rfl rfl (by decide +kernel) ⟨Nat.le_of_ble_eq_true rfl, Nat.le_of_ble_eq_true rfl⟩ hP hD hS hA hE [0] rfl (by decide) 0 rfl rfl rfl hl.1 rfl (Nat.le_of_ble_eq_true rfl) dX10_order_29 ⟨Nat.le_of_ble_eq_true rfl, Nat.le_of_ble_eq_true rfl⟩) hP hD hS hA [0] [1, 2, 3, 4, 5, 6, 7, 8, 9, 10, 11, 12, 13, 14, 15, 16, 17, 18, 19, 20, 21, 22, 23, 24, 25, 26, 27, 28, 29, 30] [30, 0, 1, 2, 3, 4, 5, 6, 7, 8, 9, 10, 11, 12, 13, 14, 15, 16, 17, 18, 19, 20, 21, 22, 23, 24, 25, 26, 27, 28, 29] rfl rfl (by decide) (by decide) rfl (by decide) (fun H locs hP hD hS => ?_)
        exact RET _ _ H _ ls 32 hf hP hD hS dX10_order_32
    · rw [if_pos c_2] at hf
      refine lv_aload_n hx hb dX10_order_8 rfl (lv_at hl 0 rfl) ?_
      refine lv_iconst (v := (1 : Int32)) hx hb dX10_order_9 (by decide) ?_
      obtain ⟨r8, hc8, hf⟩ := kb_bind hf
      refine kb_ci (ws2 := (w_Top dA t g0 (pa 0) g2 (a 0) g4 g5 g6 g7 g8 r8.2 ++ (w_Ride dA a (pa 0) (pa 1) rd ++ (w_Plan dA pa pl)))) (kb_rV (n := 1) (As := [.int (1 : Int32)]) (rest := []) hx hb hml hown hK (c_X10_refused l D dA H.size t g0 (pa 0) g2 (a 0) g4 g5 g6 g7 g8 tp (1 : Int32) r8.1 r8.2 hc8) ⟨ww_2_204, ww_2_201, ww_2_203, ws_0, ww_1_1, rfl, by decide, by decide⟩ rfl rfl (by decide +kernel) ⟨Nat.le_of_ble_eq_true rfl, Nat.le_of_ble_eq_true rfl⟩ hP hD hS hA hE [0] rfl (by decide) 0 rfl rfl rfl hl.1 rfl (Nat.le_of_ble_eq_true rfl) dX10_order_10 ⟨Nat.le_of_ble_eq_true rfl, Nat.le_of_ble_eq_true rfl⟩) hP hD hS hA [0] [1, 2, 3, 4, 5, 6, 7, 8, 9, 10, 11, 12, 13, 14, 15, 16, 17, 18, 19, 20, 21, 22, 23, 24, 25, 26, 27, 28, 29, 30] [30, 0, 1, 2, 3, 4, 5, 6, 7, 8, 9, 10, 11, 12, 13, 14, 15, 16, 17, 18, 19, 20, 21, 22, 23, 24, 25, 26, 27, 28, 29] rfl rfl (by decide) (by decide) rfl (by decide) (fun H locs hP hD hS => ?_)
      exact RET _ _ H _ ls 13 hf hP hD hS dX10_order_13
  exact E0 _ _ hP hD hS

noncomputable def f_X10_shunned (tp : TopT) (rd : RideT) (pl : PlanT) (x0 : Int32) : Option (Int32 × TopT) := (f_X10_isRider tp pl x0).bind fun r1 => (if r1 = 0 then (f_X10_refused tp (1 : Int32)).bind fun r8 => some (r8.1, r8.2) else if kb_in? x0 8 then (if ((rd_turn rd) (x0).toNatClampNeg) = 0 then (f_X10_refused tp (6 : Int32)).bind fun r7 => some (r7.1, r7.2) else (f_X6_shunning rd x0).bind fun r5 => (f_X10_answered tp r5).bind fun r6 => some (r6.1, r6.2)) else none)
set_option maxHeartbeats 4000000 in
set_option maxRecDepth 100000 in
theorem c_X10_shunned (l : Launch) (D : va_G) (dA : Nat → ClassId) (sz : Nat) (t : Nat → Nat) (a : Nat → Nat) (pa : Nat → Nat) (g0 : Nat) (g2 : Nat) (g4 : Nat) (g5 : Nat) (g6 : Nat) (g7 : Nat) (g8 : Nat) (tp : TopT) (rd : RideT) (pl : PlanT) (x0 : Int32) (rv : Int32) (u0 : TopT) (hf : f_X10_shunned tp rd pl x0 = some (rv, u0)) : kb_Mi l yX10_shunned cX10_shunned 2 (some .int) ({ frames := 2, cells := 0, slots := 0, locals := 42 } : Room) D dA [.ref (t 0), .int x0] sz (w_Top dA t g0 (pa 0) g2 (a 0) g4 g5 g6 g7 g8 tp ++ (w_Ride dA a (pa 0) (pa 1) rd ++ (w_Plan dA pa pl))) 0 0 rv (w_Top dA t g0 (pa 0) g2 (a 0) g4 g5 g6 g7 g8 u0 ++ (w_Ride dA a (pa 0) (pa 1) rd ++ (w_Plan dA pa pl))) := by
  refine Met.ofW (cc := cX10_shunned) (maxL := 2) (ret := (some .int)) (by decide) rfl ?_
  intro p e s m args below meth c s₁ B hml hv
  obtain ⟨rfl, hsz, hP, hK, hD0, hE⟩ := hv
  have hx := B.exec
  have hb := B.bytes
  have hr := B.returns
  have hown : s.vm.findClass RX10 = some m.cls := findClass_of_methodNamed B.named
  have hlocks := B.notSynchronized
  have hts : ∀ w ∈ kb_gw, w.before ([.ref (t 0), .int x0] : List Value).toArray s = true := fun w hw => hK.2.1 w hw _
  subst hsz
  have hD := hD0.self (sz := s.heap.size)
  generalize hAe : va_A (w_Top dA t g0 (pa 0) g2 (a 0) g4 g5 g6 g7 g8 tp ++ (w_Ride dA a (pa 0) (pa 1) rd ++ (w_Plan dA pa pl))) s.heap.size = A at hD hE ⊢
  have hA : ∀ q : Nat, s.heap.size ≤ q → A q := fun q h => by rw [← hAe]; exact Or.inr h
  have hS : va_S A s.heap s.heap [] := va_S.rf
  have hl := lv_entry ([.ref (t 0), .int x0]) (n := 2) (Nat.le_of_ble_eq_true rfl)
  rw [lg_entry_eq]
  generalize (lg_sl ([.ref (t 0), .int x0]) ++ List.replicate (2 - (lg_sl ([.ref (t 0), .int x0])).length) Slot.unset).toArray = ls at hl ⊢
  have hl : lv_has ls 2 [(0, .ref (t 0)), (1, .int x0)] := hl
  generalize hQ : MQ below (va_Qi (fun r (_ : Unit) => r = rv) (kb_B D A (w_Top dA t g0 (pa 0) g2 (a 0) g4 g5 g6 g7 g8 u0 ++ (w_Ride dA a (pa 0) (pa 1) rd ++ (w_Plan dA pa pl)))) A) ([.ref (t 0), .int x0] : List Value).toArray s 0 0 A = Q
  show W p l e ({ frames := 2, cells := 0, slots := 0, locals := 42 } : Room) s m ([.ref (t 0), .int x0] : List Value).toArray below meth c s.heap [] 0 0 Q (F0 m 0 ls [])
  have RET : ∀ (r2 : Int32) (w0 : TopT) (H : Heap) (locs : List Loc) (ls : Array Slot) (pc : Nat), some (r2, w0) = some (rv, u0) → va_P D vwCl (w_Top dA t g0 (pa 0) g2 (a 0) g4 g5 g6 g7 g8 w0 ++ (w_Ride dA a (pa 0) (pa 1) rd ++ (w_Plan dA pa pl))) H → va_D A (w_Top dA t g0 (pa 0) g2 (a 0) g4 g5 g6 g7 g8 w0 ++ (w_Ride dA a (pa 0) (pa 1) rd ++ (w_Plan dA pa pl))) → va_S A s.heap H locs → decode cX10_shunned pc = .ok (.ireturn, 1) → W p l e ({ frames := 2, cells := 0, slots := 0, locals := 42 } : Room) s m ([.ref (t 0), .int x0] : List Value).toArray below meth c H locs 0 0 Q (F0 m pc ls [.int r2]) := by
    intro r2 w0 H locs ls pc hq hP hD hS hd
    cases hq
    rw [← hQ]
    exact W.iret hx hb hr (fun t ht hW => ⟨⟨_, (), rfl, rfl, by rw [ht]; exact hP, hD⟩, hS.F ht⟩) hS.2.2 hd
  have E0 : ∀ (H : Heap) (locs : List Loc), va_P D vwCl (w_Top dA t g0 (pa 0) g2 (a 0) g4 g5 g6 g7 g8 tp ++ (w_Ride dA a (pa 0) (pa 1) rd ++ (w_Plan dA pa pl))) H → va_D A (w_Top dA t g0 (pa 0) g2 (a 0) g4 g5 g6 g7 g8 tp ++ (w_Ride dA a (pa 0) (pa 1) rd ++ (w_Plan dA pa pl))) → va_S A s.heap H locs → W p l e ({ frames := 2, cells := 0, slots := 0, locals := 42 } : Room) s m ([.ref (t 0), .int x0] : List Value).toArray below meth c H locs 0 0 Q (F0 m 0 ls []) := by
    intro H locs hP hD hS
    rw [f_X10_shunned] at hf
    refine lv_aload_n hx hb dX10_shunned_0 rfl (lv_at hl 0 rfl) ?_
    refine lv_iload_n hx hb dX10_shunned_1 rfl (lv_at hl 1 rfl) ?_
    obtain ⟨r1, hc1, hf⟩ := kb_bind hf
    refine kb_ci (ws2 := (w_Top dA t g0 (pa 0) g2 (a 0) g4 g5 g6 g7 g8 tp ++ (w_Ride dA a (pa 0) (pa 1) rd ++ (w_Plan dA pa pl)))) (kb_rV (n := 1) (As := [.int x0]) (rest := []) hx hb hml hown hK (c_X10_isRider l D dA H.size t pa g0 g2 (a 0) g4 g5 g6 g7 g8 tp pl x0 r1 hc1) ⟨ww_4_75, ww_4_72, ww_4_74, ws_33, ww_1_1, rfl, by decide, by decide⟩ rfl rfl (by decide +kernel) ⟨Nat.le_of_ble_eq_true rfl, Nat.le_of_ble_eq_true rfl⟩ hP hD hS hA hE [0, 10, 11, 12, 13, 14, 15, 16, 17, 18, 19, 20, 21, 22, 23, 24, 25, 26, 27, 28, 29, 30] rfl (by decide) 0 rfl rfl rfl hl.1 rfl (Nat.le_of_ble_eq_true rfl) dX10_shunned_2 ⟨Nat.le_of_ble_eq_true rfl, Nat.le_of_ble_eq_true rfl⟩) hP hD hS hA [0, 10, 11, 12, 13, 14, 15, 16, 17, 18, 19, 20, 21, 22, 23, 24, 25, 26, 27, 28, 29, 30] [1, 2, 3, 4, 5, 6, 7, 8, 9] [9, 0, 1, 2, 3, 4, 5, 6, 7, 8, 10, 11, 12, 13, 14, 15, 16, 17, 18, 19, 20, 21, 22, 23, 24, 25, 26, 27, 28, 29, 30] rfl rfl (by decide) (by decide) rfl (by decide) (fun H locs hP hD hS => ?_)
    refine lv_if_ne (tgt := 14) hx hb dX10_shunned_5 (by decide) (fun c_2 => ?_) (fun c_2 => ?_)
    · rw [if_neg c_2] at hf
      refine lv_aload_n hx hb dX10_shunned_14 rfl (lv_at hl 0 rfl) ?_
      refine va_get (D := D) (ci := 10) (v := .ref (a 0)) (C := RX10) (T := TX10) (N := 12) hx hb hts kb_inX10 hown hK.1 hP 0 rfl rfl 4 (by decide) (hK.2.w ww_2_156 rfl _) (fun _ h9 => h9) rfl dX10_shunned_15 ?_
      refine va_get (D := D) (ci := 6) (v := .ref (a 6)) (C := RX6) (T := TX6) (N := 11) hx hb hts kb_inX6 hown hK.1 hP 1 rfl rfl 4 (by decide) (hK.2.w ww_2_76 rfl _) (fun _ h9 => h9) rfl dX10_shunned_18 ?_
      refine lv_iload_n hx hb dX10_shunned_21 rfl (lv_at hl 1 rfl) ?_
      obtain ⟨h_3, hf⟩ := kb_if hf
      refine va_iald (D := D) hx hb hK.1 hP 7 0 rfl rfl h_3 dX10_shunned_22 ?_
      refine lv_if_ne (tgt := 33) hx hb dX10_shunned_23 (by decide) (fun c_4 => ?_) (fun c_4 => ?_)
      · rw [if_neg c_4] at hf
        refine lv_aload_n hx hb dX10_shunned_33 rfl (lv_at hl 0 rfl) ?_
        refine lv_aload_n hx hb dX10_shunned_34 rfl (lv_at hl 0 rfl) ?_
        refine va_get (D := D) (ci := 10) (v := .ref (a 0)) (C := RX10) (T := TX10) (N := 12) hx hb hts kb_inX10 hown hK.1 hP 0 rfl rfl 4 (by decide) (hK.2.w ww_2_156 rfl _) (fun _ h9 => h9) rfl dX10_shunned_35 ?_
        refine lv_iload_n hx hb dX10_shunned_38 rfl (lv_at hl 1 rfl) ?_
        obtain ⟨r5, hc5, hf⟩ := kb_bind hf
        refine kb_ci (ws2 := (w_Top dA t g0 (pa 0) g2 (a 0) g4 g5 g6 g7 g8 tp ++ (w_Ride dA a (pa 0) (pa 1) rd ++ (w_Plan dA pa pl)))) (kb_rV (n := 1) (As := [.int x0]) (rest := [.ref (t 0)]) hx hb hml hown hK (c_X6_shunning l D dA H.size a (pa 0) (pa 1) rd x0 r5 hc5) ⟨ww_4_112, ww_4_109, ww_4_110, ww_4_111, ww_1_8, rfl, by decide, by decide⟩ rfl rfl (by decide +kernel) ⟨Nat.le_of_ble_eq_true rfl, Nat.le_of_ble_eq_true rfl⟩ hP hD hS hA hE [1, 2, 3, 4, 5, 6, 7, 8, 9] rfl (by decide) 0 rfl rfl rfl hl.1 rfl (Nat.le_of_ble_eq_true rfl) dX10_shunned_39 ⟨Nat.le_of_ble_eq_true rfl, Nat.le_of_ble_eq_true rfl⟩) hP hD hS hA [1, 2, 3, 4, 5, 6, 7, 8, 9] [0, 10, 11, 12, 13, 14, 15, 16, 17, 18, 19, 20, 21, 22, 23, 24, 25, 26, 27, 28, 29, 30] [0, 22, 23, 24, 25, 26, 27, 28, 29, 30, 1, 2, 3, 4, 5, 6, 7, 8, 9, 10, 11, 12, 13, 14, 15, 16, 17, 18, 19, 20, 21] rfl rfl (by decide) (by decide) rfl (by decide) (fun H locs hP hD hS => ?_)
        obtain ⟨r6, hc6, hf⟩ := kb_bind hf
        refine kb_ci (ws2 := (w_Top dA t g0 (pa 0) g2 (a 0) g4 g5 g6 g7 g8 r6.2 ++ (w_Ride dA a (pa 0) (pa 1) rd ++ (w_Plan dA pa pl)))) (kb_rV (n := 1) (As := [.int r5]) (rest := []) hx hb hml hown hK (c_X10_answered l D dA H.size t g0 (pa 0) g2 (a 0) g4 g5 g6 g7 g8 tp r5 r6.1 r6.2 hc6) ⟨ww_3_184, ww_3_181, ww_3_183, ws_22, ww_1_1, rfl, by decide, by decide⟩ rfl rfl (by decide +kernel) ⟨Nat.le_of_ble_eq_true rfl, Nat.le_of_ble_eq_true rfl⟩ hP hD hS hA hE [0] rfl (by decide) 0 rfl rfl rfl hl.1 rfl (Nat.le_of_ble_eq_true rfl) dX10_shunned_42 ⟨Nat.le_of_ble_eq_true rfl, Nat.le_of_ble_eq_true rfl⟩) hP hD hS hA [0] [1, 2, 3, 4, 5, 6, 7, 8, 9, 10, 11, 12, 13, 14, 15, 16, 17, 18, 19, 20, 21, 22, 23, 24, 25, 26, 27, 28, 29, 30] [30, 0, 1, 2, 3, 4, 5, 6, 7, 8, 9, 10, 11, 12, 13, 14, 15, 16, 17, 18, 19, 20, 21, 22, 23, 24, 25, 26, 27, 28, 29] rfl rfl (by decide) (by decide) rfl (by decide) (fun H locs hP hD hS => ?_)
        exact RET _ _ H _ ls 45 hf hP hD hS dX10_shunned_45
      · rw [if_pos c_4] at hf
        refine lv_aload_n hx hb dX10_shunned_26 rfl (lv_at hl 0 rfl) ?_
        refine lv_bipush (v := (6 : Int32)) hx hb dX10_shunned_27 (by decide) ?_
        obtain ⟨r7, hc7, hf⟩ := kb_bind hf
        refine kb_ci (ws2 := (w_Top dA t g0 (pa 0) g2 (a 0) g4 g5 g6 g7 g8 r7.2 ++ (w_Ride dA a (pa 0) (pa 1) rd ++ (w_Plan dA pa pl)))) (kb_rV (n := 1) (As := [.int (6 : Int32)]) (rest := []) hx hb hml hown hK (c_X10_refused l D dA H.size t g0 (pa 0) g2 (a 0) g4 g5 g6 g7 g8 tp (6 : Int32) r7.1 r7.2 hc7) ⟨ww_2_204, ww_2_201, ww_2_203, ws_0, ww_1_1, rfl, by decide, by decide⟩ rfl rfl (by decide +kernel) ⟨Nat.le_of_ble_eq_true rfl, Nat.le_of_ble_eq_true rfl⟩ hP hD hS hA hE [0] rfl (by decide) 0 rfl rfl rfl hl.1 rfl (Nat.le_of_ble_eq_true rfl) dX10_shunned_29 ⟨Nat.le_of_ble_eq_true rfl, Nat.le_of_ble_eq_true rfl⟩) hP hD hS hA [0] [1, 2, 3, 4, 5, 6, 7, 8, 9, 10, 11, 12, 13, 14, 15, 16, 17, 18, 19, 20, 21, 22, 23, 24, 25, 26, 27, 28, 29, 30] [30, 0, 1, 2, 3, 4, 5, 6, 7, 8, 9, 10, 11, 12, 13, 14, 15, 16, 17, 18, 19, 20, 21, 22, 23, 24, 25, 26, 27, 28, 29] rfl rfl (by decide) (by decide) rfl (by decide) (fun H locs hP hD hS => ?_)
        exact RET _ _ H _ ls 32 hf hP hD hS dX10_shunned_32
    · rw [if_pos c_2] at hf
      refine lv_aload_n hx hb dX10_shunned_8 rfl (lv_at hl 0 rfl) ?_
      refine lv_iconst (v := (1 : Int32)) hx hb dX10_shunned_9 (by decide) ?_
      obtain ⟨r8, hc8, hf⟩ := kb_bind hf
      refine kb_ci (ws2 := (w_Top dA t g0 (pa 0) g2 (a 0) g4 g5 g6 g7 g8 r8.2 ++ (w_Ride dA a (pa 0) (pa 1) rd ++ (w_Plan dA pa pl)))) (kb_rV (n := 1) (As := [.int (1 : Int32)]) (rest := []) hx hb hml hown hK (c_X10_refused l D dA H.size t g0 (pa 0) g2 (a 0) g4 g5 g6 g7 g8 tp (1 : Int32) r8.1 r8.2 hc8) ⟨ww_2_204, ww_2_201, ww_2_203, ws_0, ww_1_1, rfl, by decide, by decide⟩ rfl rfl (by decide +kernel) ⟨Nat.le_of_ble_eq_true rfl, Nat.le_of_ble_eq_true rfl⟩ hP hD hS hA hE [0] rfl (by decide) 0 rfl rfl rfl hl.1 rfl (Nat.le_of_ble_eq_true rfl) dX10_shunned_10 ⟨Nat.le_of_ble_eq_true rfl, Nat.le_of_ble_eq_true rfl⟩) hP hD hS hA [0] [1, 2, 3, 4, 5, 6, 7, 8, 9, 10, 11, 12, 13, 14, 15, 16, 17, 18, 19, 20, 21, 22, 23, 24, 25, 26, 27, 28, 29, 30] [30, 0, 1, 2, 3, 4, 5, 6, 7, 8, 9, 10, 11, 12, 13, 14, 15, 16, 17, 18, 19, 20, 21, 22, 23, 24, 25, 26, 27, 28, 29] rfl rfl (by decide) (by decide) rfl (by decide) (fun H locs hP hD hS => ?_)
      exact RET _ _ H _ ls 13 hf hP hD hS dX10_shunned_13
  exact E0 _ _ hP hD hS

noncomputable def f_X10_given (tp : TopT) (rd : RideT) (pl : PlanT) : Option (Int32 × TopT) := (if (tp_hasBus tp) = 0 then (f_X10_refused tp (1 : Int32)).bind fun r3 => some (r3.1, r3.2) else (f_X10_answered tp (rd_gifts rd)).bind fun r2 => some (r2.1, r2.2))
set_option maxHeartbeats 4000000 in
set_option maxRecDepth 100000 in
theorem c_X10_given (l : Launch) (D : va_G) (dA : Nat → ClassId) (sz : Nat) (t : Nat → Nat) (a : Nat → Nat) (pa : Nat → Nat) (g0 : Nat) (g2 : Nat) (g4 : Nat) (g5 : Nat) (g6 : Nat) (g7 : Nat) (g8 : Nat) (tp : TopT) (rd : RideT) (pl : PlanT) (rv : Int32) (u0 : TopT) (hf : f_X10_given tp rd pl = some (rv, u0)) : kb_Mi l yX10_given cX10_given 1 (some .int) ({ frames := 1, cells := 0, slots := 0, locals := 21 } : Room) D dA [.ref (t 0)] sz (w_Top dA t g0 (pa 0) g2 (a 0) g4 g5 g6 g7 g8 tp ++ (w_Ride dA a (pa 0) (pa 1) rd ++ (w_Plan dA pa pl))) 0 0 rv (w_Top dA t g0 (pa 0) g2 (a 0) g4 g5 g6 g7 g8 u0 ++ (w_Ride dA a (pa 0) (pa 1) rd ++ (w_Plan dA pa pl))) := by
  refine Met.ofW (cc := cX10_given) (maxL := 1) (ret := (some .int)) (by decide) rfl ?_
  intro p e s m args below meth c s₁ B hml hv
  obtain ⟨rfl, hsz, hP, hK, hD0, hE⟩ := hv
  have hx := B.exec
  have hb := B.bytes
  have hr := B.returns
  have hown : s.vm.findClass RX10 = some m.cls := findClass_of_methodNamed B.named
  have hlocks := B.notSynchronized
  have hts : ∀ w ∈ kb_gw, w.before ([.ref (t 0)] : List Value).toArray s = true := fun w hw => hK.2.1 w hw _
  subst hsz
  have hD := hD0.self (sz := s.heap.size)
  generalize hAe : va_A (w_Top dA t g0 (pa 0) g2 (a 0) g4 g5 g6 g7 g8 tp ++ (w_Ride dA a (pa 0) (pa 1) rd ++ (w_Plan dA pa pl))) s.heap.size = A at hD hE ⊢
  have hA : ∀ q : Nat, s.heap.size ≤ q → A q := fun q h => by rw [← hAe]; exact Or.inr h
  have hS : va_S A s.heap s.heap [] := va_S.rf
  have hl := lv_entry ([.ref (t 0)]) (n := 1) (Nat.le_of_ble_eq_true rfl)
  rw [lg_entry_eq]
  generalize (lg_sl ([.ref (t 0)]) ++ List.replicate (1 - (lg_sl ([.ref (t 0)])).length) Slot.unset).toArray = ls at hl ⊢
  have hl : lv_has ls 1 [(0, .ref (t 0))] := hl
  generalize hQ : MQ below (va_Qi (fun r (_ : Unit) => r = rv) (kb_B D A (w_Top dA t g0 (pa 0) g2 (a 0) g4 g5 g6 g7 g8 u0 ++ (w_Ride dA a (pa 0) (pa 1) rd ++ (w_Plan dA pa pl)))) A) ([.ref (t 0)] : List Value).toArray s 0 0 A = Q
  show W p l e ({ frames := 1, cells := 0, slots := 0, locals := 21 } : Room) s m ([.ref (t 0)] : List Value).toArray below meth c s.heap [] 0 0 Q (F0 m 0 ls [])
  have RET : ∀ (r2 : Int32) (w0 : TopT) (H : Heap) (locs : List Loc) (ls : Array Slot) (pc : Nat), some (r2, w0) = some (rv, u0) → va_P D vwCl (w_Top dA t g0 (pa 0) g2 (a 0) g4 g5 g6 g7 g8 w0 ++ (w_Ride dA a (pa 0) (pa 1) rd ++ (w_Plan dA pa pl))) H → va_D A (w_Top dA t g0 (pa 0) g2 (a 0) g4 g5 g6 g7 g8 w0 ++ (w_Ride dA a (pa 0) (pa 1) rd ++ (w_Plan dA pa pl))) → va_S A s.heap H locs → decode cX10_given pc = .ok (.ireturn, 1) → W p l e ({ frames := 1, cells := 0, slots := 0, locals := 21 } : Room) s m ([.ref (t 0)] : List Value).toArray below meth c H locs 0 0 Q (F0 m pc ls [.int r2]) := by
    intro r2 w0 H locs ls pc hq hP hD hS hd
    cases hq
    rw [← hQ]
    exact W.iret hx hb hr (fun t ht hW => ⟨⟨_, (), rfl, rfl, by rw [ht]; exact hP, hD⟩, hS.F ht⟩) hS.2.2 hd
  have E0 : ∀ (H : Heap) (locs : List Loc), va_P D vwCl (w_Top dA t g0 (pa 0) g2 (a 0) g4 g5 g6 g7 g8 tp ++ (w_Ride dA a (pa 0) (pa 1) rd ++ (w_Plan dA pa pl))) H → va_D A (w_Top dA t g0 (pa 0) g2 (a 0) g4 g5 g6 g7 g8 tp ++ (w_Ride dA a (pa 0) (pa 1) rd ++ (w_Plan dA pa pl))) → va_S A s.heap H locs → W p l e ({ frames := 1, cells := 0, slots := 0, locals := 21 } : Room) s m ([.ref (t 0)] : List Value).toArray below meth c H locs 0 0 Q (F0 m 0 ls []) := by
    intro H locs hP hD hS
    rw [f_X10_given] at hf
    refine lv_aload_n hx hb dX10_given_0 rfl (lv_at hl 0 rfl) ?_
    refine va_get (D := D) (ci := 10) (v := .int (tp_hasBus tp)) (C := RX10) (T := TX10) (N := 12) hx hb hts kb_inX10 hown hK.1 hP 0 rfl rfl 3 (by decide) (hK.2.w ww_2_155 rfl _) (fun _ h9 => h9) rfl dX10_given_1 ?_
    refine lv_if_ne (tgt := 13) hx hb dX10_given_4 (by decide) (fun c_1 => ?_) (fun c_1 => ?_)
    · rw [if_neg c_1] at hf
      refine lv_aload_n hx hb dX10_given_13 rfl (lv_at hl 0 rfl) ?_
      refine lv_aload_n hx hb dX10_given_14 rfl (lv_at hl 0 rfl) ?_
      refine va_get (D := D) (ci := 10) (v := .ref (a 0)) (C := RX10) (T := TX10) (N := 12) hx hb hts kb_inX10 hown hK.1 hP 0 rfl rfl 4 (by decide) (hK.2.w ww_2_156 rfl _) (fun _ h9 => h9) rfl dX10_given_15 ?_
      refine va_get (D := D) (ci := 6) (v := .int (rd_gifts rd)) (C := RX6) (T := TX6) (N := 11) hx hb hts kb_inX6 hown hK.1 hP 1 rfl rfl 9 (by decide) (hK.2.w ww_2_83 rfl _) (fun _ h9 => h9) rfl dX10_given_18 ?_
      obtain ⟨r2, hc2, hf⟩ := kb_bind hf
      refine kb_ci (ws2 := (w_Top dA t g0 (pa 0) g2 (a 0) g4 g5 g6 g7 g8 r2.2 ++ (w_Ride dA a (pa 0) (pa 1) rd ++ (w_Plan dA pa pl)))) (kb_rV (n := 1) (As := [.int (rd_gifts rd)]) (rest := []) hx hb hml hown hK (c_X10_answered l D dA H.size t g0 (pa 0) g2 (a 0) g4 g5 g6 g7 g8 tp (rd_gifts rd) r2.1 r2.2 hc2) ⟨ww_3_184, ww_3_181, ww_3_183, ws_22, ww_1_1, rfl, by decide, by decide⟩ rfl rfl (by decide +kernel) ⟨Nat.le_of_ble_eq_true rfl, Nat.le_of_ble_eq_true rfl⟩ hP hD hS hA hE [0] rfl (by decide) 0 rfl rfl rfl hl.1 rfl (Nat.le_of_ble_eq_true rfl) dX10_given_21 ⟨Nat.le_of_ble_eq_true rfl, Nat.le_of_ble_eq_true rfl⟩) hP hD hS hA [0] [1, 2, 3, 4, 5, 6, 7, 8, 9, 10, 11, 12, 13, 14, 15, 16, 17, 18, 19, 20, 21, 22, 23, 24, 25, 26, 27, 28, 29, 30] [30, 0, 1, 2, 3, 4, 5, 6, 7, 8, 9, 10, 11, 12, 13, 14, 15, 16, 17, 18, 19, 20, 21, 22, 23, 24, 25, 26, 27, 28, 29] rfl rfl (by decide) (by decide) rfl (by decide) (fun H locs hP hD hS => ?_)
      exact RET _ _ H _ ls 24 hf hP hD hS dX10_given_24
    · rw [if_pos c_1] at hf
      refine lv_aload_n hx hb dX10_given_7 rfl (lv_at hl 0 rfl) ?_
      refine lv_iconst (v := (1 : Int32)) hx hb dX10_given_8 (by decide) ?_
      obtain ⟨r3, hc3, hf⟩ := kb_bind hf
      refine kb_ci (ws2 := (w_Top dA t g0 (pa 0) g2 (a 0) g4 g5 g6 g7 g8 r3.2 ++ (w_Ride dA a (pa 0) (pa 1) rd ++ (w_Plan dA pa pl)))) (kb_rV (n := 1) (As := [.int (1 : Int32)]) (rest := []) hx hb hml hown hK (c_X10_refused l D dA H.size t g0 (pa 0) g2 (a 0) g4 g5 g6 g7 g8 tp (1 : Int32) r3.1 r3.2 hc3) ⟨ww_2_204, ww_2_201, ww_2_203, ws_0, ww_1_1, rfl, by decide, by decide⟩ rfl rfl (by decide +kernel) ⟨Nat.le_of_ble_eq_true rfl, Nat.le_of_ble_eq_true rfl⟩ hP hD hS hA hE [0] rfl (by decide) 0 rfl rfl rfl hl.1 rfl (Nat.le_of_ble_eq_true rfl) dX10_given_9 ⟨Nat.le_of_ble_eq_true rfl, Nat.le_of_ble_eq_true rfl⟩) hP hD hS hA [0] [1, 2, 3, 4, 5, 6, 7, 8, 9, 10, 11, 12, 13, 14, 15, 16, 17, 18, 19, 20, 21, 22, 23, 24, 25, 26, 27, 28, 29, 30] [30, 0, 1, 2, 3, 4, 5, 6, 7, 8, 9, 10, 11, 12, 13, 14, 15, 16, 17, 18, 19, 20, 21, 22, 23, 24, 25, 26, 27, 28, 29] rfl rfl (by decide) (by decide) rfl (by decide) (fun H locs hP hD hS => ?_)
      exact RET _ _ H _ ls 12 hf hP hD hS dX10_given_12
  exact E0 _ _ hP hD hS

noncomputable def f_X10_sorted (tp : TopT) (rd : RideT) (pl : PlanT) : Option (Int32 × TopT) := (if (tp_hasBus tp) = 0 then some ((-1000 : Int32), (tp_set_latestTrouble tp (1 : Int32))) else (f_X6_sortedPairs rd pl).bind fun r2 => (f_X10_answered tp r2).bind fun r3 => some (r3.1, r3.2))
set_option maxHeartbeats 4000000 in
set_option maxRecDepth 100000 in
theorem c_X10_sorted (l : Launch) (D : va_G) (dA : Nat → ClassId) (sz : Nat) (t : Nat → Nat) (a : Nat → Nat) (pa : Nat → Nat) (g0 : Nat) (g2 : Nat) (g4 : Nat) (g5 : Nat) (g6 : Nat) (g7 : Nat) (g8 : Nat) (tp : TopT) (rd : RideT) (pl : PlanT) (rv : Int32) (u0 : TopT) (hf : f_X10_sorted tp rd pl = some (rv, u0)) : kb_Mi l yX10_sorted cX10_sorted 1 (some .int) ({ frames := 2, cells := 0, slots := 0, locals := 46 } : Room) D dA [.ref (t 0)] sz (w_Top dA t g0 (pa 0) g2 (a 0) g4 g5 g6 g7 g8 tp ++ (w_Ride dA a (pa 0) (pa 1) rd ++ (w_Plan dA pa pl))) 0 0 rv (w_Top dA t g0 (pa 0) g2 (a 0) g4 g5 g6 g7 g8 u0 ++ (w_Ride dA a (pa 0) (pa 1) rd ++ (w_Plan dA pa pl))) := by
  refine Met.ofW (cc := cX10_sorted) (maxL := 1) (ret := (some .int)) (by decide) rfl ?_
  intro p e s m args below meth c s₁ B hml hv
  obtain ⟨rfl, hsz, hP, hK, hD0, hE⟩ := hv
  have hx := B.exec
  have hb := B.bytes
  have hr := B.returns
  have hown : s.vm.findClass RX10 = some m.cls := findClass_of_methodNamed B.named
  have hlocks := B.notSynchronized
  have hts : ∀ w ∈ kb_gw, w.before ([.ref (t 0)] : List Value).toArray s = true := fun w hw => hK.2.1 w hw _
  subst hsz
  have hD := hD0.self (sz := s.heap.size)
  generalize hAe : va_A (w_Top dA t g0 (pa 0) g2 (a 0) g4 g5 g6 g7 g8 tp ++ (w_Ride dA a (pa 0) (pa 1) rd ++ (w_Plan dA pa pl))) s.heap.size = A at hD hE ⊢
  have hA : ∀ q : Nat, s.heap.size ≤ q → A q := fun q h => by rw [← hAe]; exact Or.inr h
  have hS : va_S A s.heap s.heap [] := va_S.rf
  have hl := lv_entry ([.ref (t 0)]) (n := 1) (Nat.le_of_ble_eq_true rfl)
  rw [lg_entry_eq]
  generalize (lg_sl ([.ref (t 0)]) ++ List.replicate (1 - (lg_sl ([.ref (t 0)])).length) Slot.unset).toArray = ls at hl ⊢
  have hl : lv_has ls 1 [(0, .ref (t 0))] := hl
  generalize hQ : MQ below (va_Qi (fun r (_ : Unit) => r = rv) (kb_B D A (w_Top dA t g0 (pa 0) g2 (a 0) g4 g5 g6 g7 g8 u0 ++ (w_Ride dA a (pa 0) (pa 1) rd ++ (w_Plan dA pa pl)))) A) ([.ref (t 0)] : List Value).toArray s 0 0 A = Q
  show W p l e ({ frames := 2, cells := 0, slots := 0, locals := 46 } : Room) s m ([.ref (t 0)] : List Value).toArray below meth c s.heap [] 0 0 Q (F0 m 0 ls [])
  have RET : ∀ (r2 : Int32) (w0 : TopT) (H : Heap) (locs : List Loc) (ls : Array Slot) (pc : Nat), some (r2, w0) = some (rv, u0) → va_P D vwCl (w_Top dA t g0 (pa 0) g2 (a 0) g4 g5 g6 g7 g8 w0 ++ (w_Ride dA a (pa 0) (pa 1) rd ++ (w_Plan dA pa pl))) H → va_D A (w_Top dA t g0 (pa 0) g2 (a 0) g4 g5 g6 g7 g8 w0 ++ (w_Ride dA a (pa 0) (pa 1) rd ++ (w_Plan dA pa pl))) → va_S A s.heap H locs → decode cX10_sorted pc = .ok (.ireturn, 1) → W p l e ({ frames := 2, cells := 0, slots := 0, locals := 46 } : Room) s m ([.ref (t 0)] : List Value).toArray below meth c H locs 0 0 Q (F0 m pc ls [.int r2]) := by
    intro r2 w0 H locs ls pc hq hP hD hS hd
    cases hq
    rw [← hQ]
    exact W.iret hx hb hr (fun t ht hW => ⟨⟨_, (), rfl, rfl, by rw [ht]; exact hP, hD⟩, hS.F ht⟩) hS.2.2 hd
  have E0 : ∀ (H : Heap) (locs : List Loc), va_P D vwCl (w_Top dA t g0 (pa 0) g2 (a 0) g4 g5 g6 g7 g8 tp ++ (w_Ride dA a (pa 0) (pa 1) rd ++ (w_Plan dA pa pl))) H → va_D A (w_Top dA t g0 (pa 0) g2 (a 0) g4 g5 g6 g7 g8 tp ++ (w_Ride dA a (pa 0) (pa 1) rd ++ (w_Plan dA pa pl))) → va_S A s.heap H locs → W p l e ({ frames := 2, cells := 0, slots := 0, locals := 46 } : Room) s m ([.ref (t 0)] : List Value).toArray below meth c H locs 0 0 Q (F0 m 0 ls []) := by
    intro H locs hP hD hS
    rw [f_X10_sorted] at hf
    refine lv_aload_n hx hb dX10_sorted_0 rfl (lv_at hl 0 rfl) ?_
    refine va_get (D := D) (ci := 10) (v := .int (tp_hasBus tp)) (C := RX10) (T := TX10) (N := 12) hx hb hts kb_inX10 hown hK.1 hP 0 rfl rfl 3 (by decide) (hK.2.w ww_2_155 rfl _) (fun _ h9 => h9) rfl dX10_sorted_1 ?_
    refine lv_if_ne (tgt := 16) hx hb dX10_sorted_4 (by decide) (fun c_1 => ?_) (fun c_1 => ?_)
    · rw [if_neg c_1] at hf
      refine lv_aload_n hx hb dX10_sorted_16 rfl (lv_at hl 0 rfl) ?_
      refine lv_aload_n hx hb dX10_sorted_17 rfl (lv_at hl 0 rfl) ?_
      refine va_get (D := D) (ci := 10) (v := .ref (a 0)) (C := RX10) (T := TX10) (N := 12) hx hb hts kb_inX10 hown hK.1 hP 0 rfl rfl 4 (by decide) (hK.2.w ww_2_156 rfl _) (fun _ h9 => h9) rfl dX10_sorted_18 ?_
      obtain ⟨r2, hc2, hf⟩ := kb_bind hf
      refine kb_ci (ws2 := (w_Top dA t g0 (pa 0) g2 (a 0) g4 g5 g6 g7 g8 tp ++ (w_Ride dA a (pa 0) (pa 1) rd ++ (w_Plan dA pa pl)))) (kb_rV (n := 0) (As := []) (rest := [.ref (t 0)]) hx hb hml hown hK (c_X6_sortedPairs l D dA H.size a pa rd pl r2 hc2) ⟨ww_4_124, ww_4_121, ww_4_122, ww_4_123, ww_1_8, rfl, by decide, by decide⟩ rfl rfl (by decide +kernel) ⟨Nat.le_of_ble_eq_true rfl, Nat.le_of_ble_eq_true rfl⟩ hP hD hS hA hE [1, 2, 3, 4, 5, 6, 7, 8, 9, 10, 11, 12, 13, 14, 15, 16, 17, 18, 19, 20, 21, 22, 23, 24, 25, 26, 27, 28, 29, 30] rfl (by decide) 0 rfl rfl rfl hl.1 rfl (Nat.le_of_ble_eq_true rfl) dX10_sorted_21 ⟨Nat.le_of_ble_eq_true rfl, Nat.le_of_ble_eq_true rfl⟩) hP hD hS hA [1, 2, 3, 4, 5, 6, 7, 8, 9, 10, 11, 12, 13, 14, 15, 16, 17, 18, 19, 20, 21, 22, 23, 24, 25, 26, 27, 28, 29, 30] [0] [0, 1, 2, 3, 4, 5, 6, 7, 8, 9, 10, 11, 12, 13, 14, 15, 16, 17, 18, 19, 20, 21, 22, 23, 24, 25, 26, 27, 28, 29, 30] rfl rfl (by decide) (by decide) rfl (by decide) (fun H locs hP hD hS => ?_)
      obtain ⟨r3, hc3, hf⟩ := kb_bind hf
      refine kb_ci (ws2 := (w_Top dA t g0 (pa 0) g2 (a 0) g4 g5 g6 g7 g8 r3.2 ++ (w_Ride dA a (pa 0) (pa 1) rd ++ (w_Plan dA pa pl)))) (kb_rV (n := 1) (As := [.int r2]) (rest := []) hx hb hml hown hK (c_X10_answered l D dA H.size t g0 (pa 0) g2 (a 0) g4 g5 g6 g7 g8 tp r2 r3.1 r3.2 hc3) ⟨ww_3_184, ww_3_181, ww_3_183, ws_22, ww_1_1, rfl, by decide, by decide⟩ rfl rfl (by decide +kernel) ⟨Nat.le_of_ble_eq_true rfl, Nat.le_of_ble_eq_true rfl⟩ hP hD hS hA hE [0] rfl (by decide) 0 rfl rfl rfl hl.1 rfl (Nat.le_of_ble_eq_true rfl) dX10_sorted_24 ⟨Nat.le_of_ble_eq_true rfl, Nat.le_of_ble_eq_true rfl⟩) hP hD hS hA [0] [1, 2, 3, 4, 5, 6, 7, 8, 9, 10, 11, 12, 13, 14, 15, 16, 17, 18, 19, 20, 21, 22, 23, 24, 25, 26, 27, 28, 29, 30] [30, 0, 1, 2, 3, 4, 5, 6, 7, 8, 9, 10, 11, 12, 13, 14, 15, 16, 17, 18, 19, 20, 21, 22, 23, 24, 25, 26, 27, 28, 29] rfl rfl (by decide) (by decide) rfl (by decide) (fun H locs hP hD hS => ?_)
      exact RET _ _ H _ ls 27 hf hP hD hS dX10_sorted_27
    · rw [if_pos c_1] at hf
      refine lv_aload_n hx hb dX10_sorted_7 rfl (lv_at hl 0 rfl) ?_
      refine lv_iconst (v := (1 : Int32)) hx hb dX10_sorted_8 (by decide) ?_
      refine va_put (D := D) (ci := 10) (v := .int (1 : Int32)) (ty := .int) (C := RX10) (T := TX10) (N := 12) hx hb hts kb_inX10 tyX10 tyX10_ok nmX10 hown hK.1 hP hD hS 0 rfl rfl 11 (by decide) (hK.2.w ww_2_163 rfl _) (fun _ h9 => h9) rfl (by decide +kernel) rfl rfl (Nat.le_of_ble_eq_true rfl) dX10_sorted_9 (fun H locs hP hD hS => ?_)
      have hP : va_P D vwCl (w_Top dA t g0 (pa 0) g2 (a 0) g4 g5 g6 g7 g8 (tp_set_latestTrouble tp (1 : Int32)) ++ (w_Ride dA a (pa 0) (pa 1) rd ++ (w_Plan dA pa pl))) H := hP
      have hD : va_D A (w_Top dA t g0 (pa 0) g2 (a 0) g4 g5 g6 g7 g8 (tp_set_latestTrouble tp (1 : Int32)) ++ (w_Ride dA a (pa 0) (pa 1) rd ++ (w_Plan dA pa pl))) := hD
      refine lv_sipush (v := (-1000 : Int32)) hx hb dX10_sorted_12 (by decide) ?_
      exact RET _ _ H _ ls 15 hf hP hD hS dX10_sorted_15
  exact E0 _ _ hP hD hS

noncomputable def f_X10_stop_b47 (pl : PlanT) (v1 : Int32) (z0 : TopT) (z1 : RideT) : Option (Int32 × TopT × RideT) := (f_X10_answered z0 v1).bind fun r5 => some (r5.1, r5.2, z1)
noncomputable def f_X10_stop (tp : TopT) (rd : RideT) (pl : PlanT) : Option (Int32 × TopT × RideT) := (if (tp_hasBus tp) = 0 then (f_X10_refused tp (1 : Int32)).bind fun r7 => some (r7.1, r7.2, rd) else (if (rd_stops rd) < (12 : Int32) then (f_X6_halt rd pl).bind fun r3 => (f_X6_board r3.2 pl).bind fun r4 => f_X10_stop_b47 pl r3.1 tp r4 else (f_X10_refused tp (6 : Int32)).bind fun r6 => some (r6.1, r6.2, rd)))
set_option maxHeartbeats 4000000 in
set_option maxRecDepth 100000 in
theorem c_X10_stop (l : Launch) (D : va_G) (dA : Nat → ClassId) (sz : Nat) (t : Nat → Nat) (a : Nat → Nat) (pa : Nat → Nat) (g0 : Nat) (g2 : Nat) (g4 : Nat) (g5 : Nat) (g6 : Nat) (g7 : Nat) (g8 : Nat) (tp : TopT) (rd : RideT) (pl : PlanT) (rv : Int32) (u0 : TopT) (u1 : RideT) (hf : f_X10_stop tp rd pl = some (rv, u0, u1)) : kb_Mi l yX10_stop cX10_stop 2 (some .int) ({ frames := 6, cells := 0, slots := 0, locals := 149 } : Room) D dA [.ref (t 0)] sz (w_Top dA t g0 (pa 0) g2 (a 0) g4 g5 g6 g7 g8 tp ++ (w_Ride dA a (pa 0) (pa 1) rd ++ (w_Plan dA pa pl))) 0 0 rv (w_Top dA t g0 (pa 0) g2 (a 0) g4 g5 g6 g7 g8 u0 ++ (w_Ride dA a (pa 0) (pa 1) u1 ++ (w_Plan dA pa pl))) := by
  refine Met.ofW (cc := cX10_stop) (maxL := 2) (ret := (some .int)) (by decide) rfl ?_
  intro p e s m args below meth c s₁ B hml hv
  obtain ⟨rfl, hsz, hP, hK, hD0, hE⟩ := hv
  have hx := B.exec
  have hb := B.bytes
  have hr := B.returns
  have hown : s.vm.findClass RX10 = some m.cls := findClass_of_methodNamed B.named
  have hlocks := B.notSynchronized
  have hts : ∀ w ∈ kb_gw, w.before ([.ref (t 0)] : List Value).toArray s = true := fun w hw => hK.2.1 w hw _
  subst hsz
  have hD := hD0.self (sz := s.heap.size)
  generalize hAe : va_A (w_Top dA t g0 (pa 0) g2 (a 0) g4 g5 g6 g7 g8 tp ++ (w_Ride dA a (pa 0) (pa 1) rd ++ (w_Plan dA pa pl))) s.heap.size = A at hD hE ⊢
  have hA : ∀ q : Nat, s.heap.size ≤ q → A q := fun q h => by rw [← hAe]; exact Or.inr h
  have hS : va_S A s.heap s.heap [] := va_S.rf
  have hl := lv_entry ([.ref (t 0)]) (n := 2) (Nat.le_of_ble_eq_true rfl)
  rw [lg_entry_eq]
  generalize (lg_sl ([.ref (t 0)]) ++ List.replicate (2 - (lg_sl ([.ref (t 0)])).length) Slot.unset).toArray = ls at hl ⊢
  have hl : lv_has ls 2 [(0, .ref (t 0))] := hl
  generalize hQ : MQ below (va_Qi (fun r (_ : Unit) => r = rv) (kb_B D A (w_Top dA t g0 (pa 0) g2 (a 0) g4 g5 g6 g7 g8 u0 ++ (w_Ride dA a (pa 0) (pa 1) u1 ++ (w_Plan dA pa pl)))) A) ([.ref (t 0)] : List Value).toArray s 0 0 A = Q
  show W p l e ({ frames := 6, cells := 0, slots := 0, locals := 149 } : Room) s m ([.ref (t 0)] : List Value).toArray below meth c s.heap [] 0 0 Q (F0 m 0 ls [])
  have RET : ∀ (r2 : Int32) (w0 : TopT) (w1 : RideT) (H : Heap) (locs : List Loc) (ls : Array Slot) (pc : Nat), some (r2, w0, w1) = some (rv, u0, u1) → va_P D vwCl (w_Top dA t g0 (pa 0) g2 (a 0) g4 g5 g6 g7 g8 w0 ++ (w_Ride dA a (pa 0) (pa 1) w1 ++ (w_Plan dA pa pl))) H → va_D A (w_Top dA t g0 (pa 0) g2 (a 0) g4 g5 g6 g7 g8 w0 ++ (w_Ride dA a (pa 0) (pa 1) w1 ++ (w_Plan dA pa pl))) → va_S A s.heap H locs → decode cX10_stop pc = .ok (.ireturn, 1) → W p l e ({ frames := 6, cells := 0, slots := 0, locals := 149 } : Room) s m ([.ref (t 0)] : List Value).toArray below meth c H locs 0 0 Q (F0 m pc ls [.int r2]) := by
    intro r2 w0 w1 H locs ls pc hq hP hD hS hd
    cases hq
    rw [← hQ]
    exact W.iret hx hb hr (fun t ht hW => ⟨⟨_, (), rfl, rfl, by rw [ht]; exact hP, hD⟩, hS.F ht⟩) hS.2.2 hd
  have B_47 : ∀ (v1 : Int32) (z0 : TopT) (z1 : RideT) (H : Heap) (locs : List Loc) (ls : Array Slot), f_X10_stop_b47 pl v1 z0 z1 = some (rv, u0, u1) → va_P D vwCl (w_Top dA t g0 (pa 0) g2 (a 0) g4 g5 g6 g7 g8 z0 ++ (w_Ride dA a (pa 0) (pa 1) z1 ++ (w_Plan dA pa pl))) H → va_D A (w_Top dA t g0 (pa 0) g2 (a 0) g4 g5 g6 g7 g8 z0 ++ (w_Ride dA a (pa 0) (pa 1) z1 ++ (w_Plan dA pa pl))) → va_S A s.heap H locs → lv_has ls 2 [(0, .ref (t 0)), (1, .int v1)] → W p l e ({ frames := 6, cells := 0, slots := 0, locals := 149 } : Room) s m ([.ref (t 0)] : List Value).toArray below meth c H locs 0 0 Q (F0 m 47 ls []) := by
    intro v1 z0 z1 H locs ls hf hP hD hS hl
    rw [f_X10_stop_b47] at hf
    refine lv_aload_n hx hb dX10_stop_47 rfl (lv_at hl 0 rfl) ?_
    refine lv_iload_n hx hb dX10_stop_48 rfl (lv_at hl 1 rfl) ?_
    obtain ⟨r5, hc5, hf⟩ := kb_bind hf
    refine kb_ci (ws2 := (w_Top dA t g0 (pa 0) g2 (a 0) g4 g5 g6 g7 g8 r5.2 ++ (w_Ride dA a (pa 0) (pa 1) z1 ++ (w_Plan dA pa pl)))) (kb_rV (n := 1) (As := [.int v1]) (rest := []) hx hb hml hown hK (c_X10_answered l D dA H.size t g0 (pa 0) g2 (a 0) g4 g5 g6 g7 g8 z0 v1 r5.1 r5.2 hc5) ⟨ww_3_184, ww_3_181, ww_3_183, ws_22, ww_1_1, rfl, by decide, by decide⟩ rfl rfl (by decide +kernel) ⟨Nat.le_of_ble_eq_true rfl, Nat.le_of_ble_eq_true rfl⟩ hP hD hS hA hE [0] rfl (by decide) 0 rfl rfl rfl hl.1 rfl (Nat.le_of_ble_eq_true rfl) dX10_stop_49 ⟨Nat.le_of_ble_eq_true rfl, Nat.le_of_ble_eq_true rfl⟩) hP hD hS hA [0] [1, 2, 3, 4, 5, 6, 7, 8, 9, 10, 11, 12, 13, 14, 15, 16, 17, 18, 19, 20, 21, 22, 23, 24, 25, 26, 27, 28, 29, 30] [30, 0, 1, 2, 3, 4, 5, 6, 7, 8, 9, 10, 11, 12, 13, 14, 15, 16, 17, 18, 19, 20, 21, 22, 23, 24, 25, 26, 27, 28, 29] rfl rfl (by decide) (by decide) rfl (by decide) (fun H locs hP hD hS => ?_)
    exact RET _ _ _ H _ ls 52 hf hP hD hS dX10_stop_52
  have E0 : ∀ (H : Heap) (locs : List Loc), va_P D vwCl (w_Top dA t g0 (pa 0) g2 (a 0) g4 g5 g6 g7 g8 tp ++ (w_Ride dA a (pa 0) (pa 1) rd ++ (w_Plan dA pa pl))) H → va_D A (w_Top dA t g0 (pa 0) g2 (a 0) g4 g5 g6 g7 g8 tp ++ (w_Ride dA a (pa 0) (pa 1) rd ++ (w_Plan dA pa pl))) → va_S A s.heap H locs → W p l e ({ frames := 6, cells := 0, slots := 0, locals := 149 } : Room) s m ([.ref (t 0)] : List Value).toArray below meth c H locs 0 0 Q (F0 m 0 ls []) := by
    intro H locs hP hD hS
    rw [f_X10_stop] at hf
    refine lv_aload_n hx hb dX10_stop_0 rfl (lv_at hl 0 rfl) ?_
    refine va_get (D := D) (ci := 10) (v := .int (tp_hasBus tp)) (C := RX10) (T := TX10) (N := 12) hx hb hts kb_inX10 hown hK.1 hP 0 rfl rfl 3 (by decide) (hK.2.w ww_2_155 rfl _) (fun _ h9 => h9) rfl dX10_stop_1 ?_
    refine lv_if_ne (tgt := 13) hx hb dX10_stop_4 (by decide) (fun c_1 => ?_) (fun c_1 => ?_)
    · rw [if_neg c_1] at hf
      refine lv_aload_n hx hb dX10_stop_13 rfl (lv_at hl 0 rfl) ?_
      refine va_get (D := D) (ci := 10) (v := .ref (a 0)) (C := RX10) (T := TX10) (N := 12) hx hb hts kb_inX10 hown hK.1 hP 0 rfl rfl 4 (by decide) (hK.2.w ww_2_156 rfl _) (fun _ h9 => h9) rfl dX10_stop_14 ?_
      refine va_get (D := D) (ci := 6) (v := .int (rd_stops rd)) (C := RX6) (T := TX6) (N := 11) hx hb hts kb_inX6 hown hK.1 hP 1 rfl rfl 10 (by decide) (hK.2.w ww_2_85 rfl _) (fun _ h9 => h9) rfl dX10_stop_17 ?_
      refine lv_bipush (v := (12 : Int32)) hx hb dX10_stop_20 (by decide) ?_
      refine lv_icmp_lt (tgt := 32) hx hb dX10_stop_22 (by decide) (fun c_2 => ?_) (fun c_2 => ?_)
      · rw [if_pos c_2] at hf
        refine lv_aload_n hx hb dX10_stop_32 rfl (lv_at hl 0 rfl) ?_
        refine va_get (D := D) (ci := 10) (v := .ref (a 0)) (C := RX10) (T := TX10) (N := 12) hx hb hts kb_inX10 hown hK.1 hP 0 rfl rfl 4 (by decide) (hK.2.w ww_2_156 rfl _) (fun _ h9 => h9) rfl dX10_stop_33 ?_
        obtain ⟨r3, hc3, hf⟩ := kb_bind hf
        refine kb_ci (ws2 := (w_Top dA t g0 (pa 0) g2 (a 0) g4 g5 g6 g7 g8 tp ++ (w_Ride dA a (pa 0) (pa 1) r3.2 ++ (w_Plan dA pa pl)))) (kb_rV (n := 0) (As := []) (rest := []) hx hb hml hown hK (c_X6_halt l D dA H.size a pa rd pl r3.1 r3.2 hc3) ⟨ww_3_200, ww_3_197, ww_3_198, ww_3_199, ww_1_8, rfl, by decide, by decide⟩ rfl rfl (by decide +kernel) ⟨Nat.le_of_ble_eq_true rfl, Nat.le_of_ble_eq_true rfl⟩ hP hD hS hA hE [1, 2, 3, 4, 5, 6, 7, 8, 9, 10, 11, 12, 13, 14, 15, 16, 17, 18, 19, 20, 21, 22, 23, 24, 25, 26, 27, 28, 29, 30] rfl (by decide) 0 rfl rfl rfl hl.1 rfl (Nat.le_of_ble_eq_true rfl) dX10_stop_36 ⟨Nat.le_of_ble_eq_true rfl, Nat.le_of_ble_eq_true rfl⟩) hP hD hS hA [1, 2, 3, 4, 5, 6, 7, 8, 9, 10, 11, 12, 13, 14, 15, 16, 17, 18, 19, 20, 21, 22, 23, 24, 25, 26, 27, 28, 29, 30] [0] [0, 1, 2, 3, 4, 5, 6, 7, 8, 9, 10, 11, 12, 13, 14, 15, 16, 17, 18, 19, 20, 21, 22, 23, 24, 25, 26, 27, 28, 29, 30] rfl rfl (by decide) (by decide) rfl (by decide) (fun H locs hP hD hS => ?_)
        refine lv_istore_n (lv' := [(1, .int r3.1), (0, .ref (t 0))]) hx hb dX10_stop_39 rfl hl (by decide) rfl (fun ls hl => ?_)
        refine lv_aload_n hx hb dX10_stop_40 rfl (lv_at hl 1 rfl) ?_
        refine va_get (D := D) (ci := 10) (v := .ref (a 0)) (C := RX10) (T := TX10) (N := 12) hx hb hts kb_inX10 hown hK.1 hP 0 rfl rfl 4 (by decide) (hK.2.w ww_2_156 rfl _) (fun _ h9 => h9) rfl dX10_stop_41 ?_
        obtain ⟨r4, hc4, hf⟩ := kb_bind hf
        refine kb_cv (ws2 := (w_Top dA t g0 (pa 0) g2 (a 0) g4 g5 g6 g7 g8 tp ++ (w_Ride dA a (pa 0) (pa 1) r4 ++ (w_Plan dA pa pl)))) (kb_rV (n := 0) (As := []) (rest := []) hx hb hml hown hK (c_X6_board l D dA H.size a pa r3.2 pl r4 hc4) ⟨ww_4_59, ww_4_56, ww_4_57, ww_4_58, ww_1_8, rfl, by decide, by decide⟩ rfl rfl (by decide +kernel) ⟨Nat.le_of_ble_eq_true rfl, Nat.le_of_ble_eq_true rfl⟩ hP hD hS hA hE [1, 2, 3, 4, 5, 6, 7, 8, 9, 10, 11, 12, 13, 14, 15, 16, 17, 18, 19, 20, 21, 22, 23, 24, 25, 26, 27, 28, 29, 30] rfl (by decide) 0 rfl rfl rfl hl.1 rfl (Nat.le_of_ble_eq_true rfl) dX10_stop_44 ⟨Nat.le_of_ble_eq_true rfl, Nat.le_of_ble_eq_true rfl⟩) hP hD hS hA [1, 2, 3, 4, 5, 6, 7, 8, 9, 10, 11, 12, 13, 14, 15, 16, 17, 18, 19, 20, 21, 22, 23, 24, 25, 26, 27, 28, 29, 30] [0] [0, 1, 2, 3, 4, 5, 6, 7, 8, 9, 10, 11, 12, 13, 14, 15, 16, 17, 18, 19, 20, 21, 22, 23, 24, 25, 26, 27, 28, 29, 30] rfl rfl (by decide) (by decide) rfl (by decide) (fun H locs hP hD hS => ?_)
        exact B_47 _ _ _ _ _ _ hf hP hD hS (lv_sub hl [1, 0] rfl)
      · rw [if_neg c_2] at hf
        refine lv_aload_n hx hb dX10_stop_25 rfl (lv_at hl 0 rfl) ?_
        refine lv_bipush (v := (6 : Int32)) hx hb dX10_stop_26 (by decide) ?_
        obtain ⟨r6, hc6, hf⟩ := kb_bind hf
        refine kb_ci (ws2 := (w_Top dA t g0 (pa 0) g2 (a 0) g4 g5 g6 g7 g8 r6.2 ++ (w_Ride dA a (pa 0) (pa 1) rd ++ (w_Plan dA pa pl)))) (kb_rV (n := 1) (As := [.int (6 : Int32)]) (rest := []) hx hb hml hown hK (c_X10_refused l D dA H.size t g0 (pa 0) g2 (a 0) g4 g5 g6 g7 g8 tp (6 : Int32) r6.1 r6.2 hc6) ⟨ww_2_204, ww_2_201, ww_2_203, ws_0, ww_1_1, rfl, by decide, by decide⟩ rfl rfl (by decide +kernel) ⟨Nat.le_of_ble_eq_true rfl, Nat.le_of_ble_eq_true rfl⟩ hP hD hS hA hE [0] rfl (by decide) 0 rfl rfl rfl hl.1 rfl (Nat.le_of_ble_eq_true rfl) dX10_stop_28 ⟨Nat.le_of_ble_eq_true rfl, Nat.le_of_ble_eq_true rfl⟩) hP hD hS hA [0] [1, 2, 3, 4, 5, 6, 7, 8, 9, 10, 11, 12, 13, 14, 15, 16, 17, 18, 19, 20, 21, 22, 23, 24, 25, 26, 27, 28, 29, 30] [30, 0, 1, 2, 3, 4, 5, 6, 7, 8, 9, 10, 11, 12, 13, 14, 15, 16, 17, 18, 19, 20, 21, 22, 23, 24, 25, 26, 27, 28, 29] rfl rfl (by decide) (by decide) rfl (by decide) (fun H locs hP hD hS => ?_)
        exact RET _ _ _ H _ ls 31 hf hP hD hS dX10_stop_31
    · rw [if_pos c_1] at hf
      refine lv_aload_n hx hb dX10_stop_7 rfl (lv_at hl 0 rfl) ?_
      refine lv_iconst (v := (1 : Int32)) hx hb dX10_stop_8 (by decide) ?_
      obtain ⟨r7, hc7, hf⟩ := kb_bind hf
      refine kb_ci (ws2 := (w_Top dA t g0 (pa 0) g2 (a 0) g4 g5 g6 g7 g8 r7.2 ++ (w_Ride dA a (pa 0) (pa 1) rd ++ (w_Plan dA pa pl)))) (kb_rV (n := 1) (As := [.int (1 : Int32)]) (rest := []) hx hb hml hown hK (c_X10_refused l D dA H.size t g0 (pa 0) g2 (a 0) g4 g5 g6 g7 g8 tp (1 : Int32) r7.1 r7.2 hc7) ⟨ww_2_204, ww_2_201, ww_2_203, ws_0, ww_1_1, rfl, by decide, by decide⟩ rfl rfl (by decide +kernel) ⟨Nat.le_of_ble_eq_true rfl, Nat.le_of_ble_eq_true rfl⟩ hP hD hS hA hE [0] rfl (by decide) 0 rfl rfl rfl hl.1 rfl (Nat.le_of_ble_eq_true rfl) dX10_stop_9 ⟨Nat.le_of_ble_eq_true rfl, Nat.le_of_ble_eq_true rfl⟩) hP hD hS hA [0] [1, 2, 3, 4, 5, 6, 7, 8, 9, 10, 11, 12, 13, 14, 15, 16, 17, 18, 19, 20, 21, 22, 23, 24, 25, 26, 27, 28, 29, 30] [30, 0, 1, 2, 3, 4, 5, 6, 7, 8, 9, 10, 11, 12, 13, 14, 15, 16, 17, 18, 19, 20, 21, 22, 23, 24, 25, 26, 27, 28, 29] rfl rfl (by decide) (by decide) rfl (by decide) (fun H locs hP hD hS => ?_)
      exact RET _ _ _ H _ ls 12 hf hP hD hS dX10_stop_12
  exact E0 _ _ hP hD hS

noncomputable def f_X10_run_b46 (pl : PlanT) (k23 : Int32 → Int32 → TopT → RideT → Option (Int32 × TopT × RideT)) (v1 : Int32) (v2 : Int32) (z0 : TopT) (z1 : RideT) : Option (Int32 × TopT × RideT) := k23 v1 (v2 + (1 : Int32)) z0 z1
noncomputable def f_X10_run_b23 (pl : PlanT) : Nat → Int32 → Int32 → TopT → RideT → Option (Int32 × TopT × RideT)
  | 0, _, _, _, _ => none
  | n + 1, v1, v2, z0, z1 => (if (12 : Int32) ≤ v2 then (f_X10_answered z0 v1).bind fun r3 => some (r3.1, r3.2, z1) else (f_X6_halt z1 pl).bind fun r4 => (f_X6_board r4.2 pl).bind fun r5 => f_X10_run_b46 pl (f_X10_run_b23 pl n) (v1 + r4.1) v2 z0 r5)
noncomputable def f_X10_run (tp : TopT) (rd : RideT) (pl : PlanT) : Option (Int32 × TopT × RideT) := (if (tp_hasBus tp) = 0 then (f_X10_refused tp (1 : Int32)).bind fun r6 => some (r6.1, r6.2, rd) else f_X10_run_b23 pl 4096 (0 : Int32) (rd_stops rd) tp rd)
set_option maxHeartbeats 4000000 in
set_option maxRecDepth 100000 in
theorem c_X10_run (l : Launch) (D : va_G) (dA : Nat → ClassId) (sz : Nat) (t : Nat → Nat) (a : Nat → Nat) (pa : Nat → Nat) (g0 : Nat) (g2 : Nat) (g4 : Nat) (g5 : Nat) (g6 : Nat) (g7 : Nat) (g8 : Nat) (tp : TopT) (rd : RideT) (pl : PlanT) (rv : Int32) (u0 : TopT) (u1 : RideT) (hf : f_X10_run tp rd pl = some (rv, u0, u1)) : kb_Mi l yX10_run cX10_run 3 (some .int) ({ frames := 6, cells := 0, slots := 0, locals := 149 } : Room) D dA [.ref (t 0)] sz (w_Top dA t g0 (pa 0) g2 (a 0) g4 g5 g6 g7 g8 tp ++ (w_Ride dA a (pa 0) (pa 1) rd ++ (w_Plan dA pa pl))) 0 0 rv (w_Top dA t g0 (pa 0) g2 (a 0) g4 g5 g6 g7 g8 u0 ++ (w_Ride dA a (pa 0) (pa 1) u1 ++ (w_Plan dA pa pl))) := by
  refine Met.ofW (cc := cX10_run) (maxL := 3) (ret := (some .int)) (by decide) rfl ?_
  intro p e s m args below meth c s₁ B hml hv
  obtain ⟨rfl, hsz, hP, hK, hD0, hE⟩ := hv
  have hx := B.exec
  have hb := B.bytes
  have hr := B.returns
  have hown : s.vm.findClass RX10 = some m.cls := findClass_of_methodNamed B.named
  have hlocks := B.notSynchronized
  have hts : ∀ w ∈ kb_gw, w.before ([.ref (t 0)] : List Value).toArray s = true := fun w hw => hK.2.1 w hw _
  subst hsz
  have hD := hD0.self (sz := s.heap.size)
  generalize hAe : va_A (w_Top dA t g0 (pa 0) g2 (a 0) g4 g5 g6 g7 g8 tp ++ (w_Ride dA a (pa 0) (pa 1) rd ++ (w_Plan dA pa pl))) s.heap.size = A at hD hE ⊢
  have hA : ∀ q : Nat, s.heap.size ≤ q → A q := fun q h => by rw [← hAe]; exact Or.inr h
  have hS : va_S A s.heap s.heap [] := va_S.rf
  have hl := lv_entry ([.ref (t 0)]) (n := 3) (Nat.le_of_ble_eq_true rfl)
  rw [lg_entry_eq]
  generalize (lg_sl ([.ref (t 0)]) ++ List.replicate (3 - (lg_sl ([.ref (t 0)])).length) Slot.unset).toArray = ls at hl ⊢
  have hl : lv_has ls 3 [(0, .ref (t 0))] := hl
  generalize hQ : MQ below (va_Qi (fun r (_ : Unit) => r = rv) (kb_B D A (w_Top dA t g0 (pa 0) g2 (a 0) g4 g5 g6 g7 g8 u0 ++ (w_Ride dA a (pa 0) (pa 1) u1 ++ (w_Plan dA pa pl)))) A) ([.ref (t 0)] : List Value).toArray s 0 0 A = Q
  show W p l e ({ frames := 6, cells := 0, slots := 0, locals := 149 } : Room) s m ([.ref (t 0)] : List Value).toArray below meth c s.heap [] 0 0 Q (F0 m 0 ls [])
  have RET : ∀ (r2 : Int32) (w0 : TopT) (w1 : RideT) (H : Heap) (locs : List Loc) (ls : Array Slot) (pc : Nat), some (r2, w0, w1) = some (rv, u0, u1) → va_P D vwCl (w_Top dA t g0 (pa 0) g2 (a 0) g4 g5 g6 g7 g8 w0 ++ (w_Ride dA a (pa 0) (pa 1) w1 ++ (w_Plan dA pa pl))) H → va_D A (w_Top dA t g0 (pa 0) g2 (a 0) g4 g5 g6 g7 g8 w0 ++ (w_Ride dA a (pa 0) (pa 1) w1 ++ (w_Plan dA pa pl))) → va_S A s.heap H locs → decode cX10_run pc = .ok (.ireturn, 1) → W p l e ({ frames := 6, cells := 0, slots := 0, locals := 149 } : Room) s m ([.ref (t 0)] : List Value).toArray below meth c H locs 0 0 Q (F0 m pc ls [.int r2]) := by
    intro r2 w0 w1 H locs ls pc hq hP hD hS hd
    cases hq
    rw [← hQ]
    exact W.iret hx hb hr (fun t ht hW => ⟨⟨_, (), rfl, rfl, by rw [ht]; exact hP, hD⟩, hS.F ht⟩) hS.2.2 hd
  have B_46 : ∀ (k23 : Int32 → Int32 → TopT → RideT → Option (Int32 × TopT × RideT)) (hk23 : ∀ (v1 : Int32) (v2 : Int32) (z0 : TopT) (z1 : RideT) (H : Heap) (locs : List Loc) (ls : Array Slot), k23 v1 v2 z0 z1 = some (rv, u0, u1) → va_P D vwCl (w_Top dA t g0 (pa 0) g2 (a 0) g4 g5 g6 g7 g8 z0 ++ (w_Ride dA a (pa 0) (pa 1) z1 ++ (w_Plan dA pa pl))) H → va_D A (w_Top dA t g0 (pa 0) g2 (a 0) g4 g5 g6 g7 g8 z0 ++ (w_Ride dA a (pa 0) (pa 1) z1 ++ (w_Plan dA pa pl))) → va_S A s.heap H locs → lv_has ls 3 [(0, .ref (t 0)), (1, .int v1), (2, .int v2)] → W p l e ({ frames := 6, cells := 0, slots := 0, locals := 149 } : Room) s m ([.ref (t 0)] : List Value).toArray below meth c H locs 0 0 Q (F0 m 23 ls [])) (v1 : Int32) (v2 : Int32) (z0 : TopT) (z1 : RideT) (H : Heap) (locs : List Loc) (ls : Array Slot), f_X10_run_b46 pl k23 v1 v2 z0 z1 = some (rv, u0, u1) → va_P D vwCl (w_Top dA t g0 (pa 0) g2 (a 0) g4 g5 g6 g7 g8 z0 ++ (w_Ride dA a (pa 0) (pa 1) z1 ++ (w_Plan dA pa pl))) H → va_D A (w_Top dA t g0 (pa 0) g2 (a 0) g4 g5 g6 g7 g8 z0 ++ (w_Ride dA a (pa 0) (pa 1) z1 ++ (w_Plan dA pa pl))) → va_S A s.heap H locs → lv_has ls 3 [(0, .ref (t 0)), (1, .int v1), (2, .int v2)] → W p l e ({ frames := 6, cells := 0, slots := 0, locals := 149 } : Room) s m ([.ref (t 0)] : List Value).toArray below meth c H locs 0 0 Q (F0 m 46 ls []) := by
    intro k23 hk23 v1 v2 z0 z1 H locs ls hf hP hD hS hl
    rw [f_X10_run_b46] at hf
    refine lv_iinc (v := (v2 + (1 : Int32))) (lv' := [(2, .int (v2 + (1 : Int32))), (0, .ref (t 0)), (1, .int v1)]) hx hb dX10_run_46 hl (k := 2) rfl (by rfl) (by decide) rfl (fun ls hl => ?_)
    refine lv_goto (tgt := 23) hx hb dX10_run_49 (by decide) ?_
    exact hk23 _ _ _ _ _ _ _ hf hP hD hS (lv_sub hl [1, 2, 0] rfl)
  have B_23 : ∀ (n : Nat) (v1 : Int32) (v2 : Int32) (z0 : TopT) (z1 : RideT) (H : Heap) (locs : List Loc) (ls : Array Slot), f_X10_run_b23 pl n v1 v2 z0 z1 = some (rv, u0, u1) → va_P D vwCl (w_Top dA t g0 (pa 0) g2 (a 0) g4 g5 g6 g7 g8 z0 ++ (w_Ride dA a (pa 0) (pa 1) z1 ++ (w_Plan dA pa pl))) H → va_D A (w_Top dA t g0 (pa 0) g2 (a 0) g4 g5 g6 g7 g8 z0 ++ (w_Ride dA a (pa 0) (pa 1) z1 ++ (w_Plan dA pa pl))) → va_S A s.heap H locs → lv_has ls 3 [(0, .ref (t 0)), (1, .int v1), (2, .int v2)] → W p l e ({ frames := 6, cells := 0, slots := 0, locals := 149 } : Room) s m ([.ref (t 0)] : List Value).toArray below meth c H locs 0 0 Q (F0 m 23 ls []) := by
    intro n
    induction n with
    | zero =>
      intro v1 v2 z0 z1 H locs ls hf
      exact absurd hf (by simp [f_X10_run_b23])
    | succ n ih =>
      intro v1 v2 z0 z1 H locs ls hf hP hD hS hl
      rw [f_X10_run_b23] at hf
      refine lv_iload_n hx hb dX10_run_23 rfl (lv_at hl 2 rfl) ?_
      refine lv_bipush (v := (12 : Int32)) hx hb dX10_run_24 (by decide) ?_
      refine lv_icmp_ge (tgt := 52) hx hb dX10_run_26 (by decide) (fun c_2 => ?_) (fun c_2 => ?_)
      · rw [if_pos c_2] at hf
        refine lv_aload_n hx hb dX10_run_52 rfl (lv_at hl 0 rfl) ?_
        refine lv_iload_n hx hb dX10_run_53 rfl (lv_at hl 1 rfl) ?_
        obtain ⟨r3, hc3, hf⟩ := kb_bind hf
        refine kb_ci (ws2 := (w_Top dA t g0 (pa 0) g2 (a 0) g4 g5 g6 g7 g8 r3.2 ++ (w_Ride dA a (pa 0) (pa 1) z1 ++ (w_Plan dA pa pl)))) (kb_rV (n := 1) (As := [.int v1]) (rest := []) hx hb hml hown hK (c_X10_answered l D dA H.size t g0 (pa 0) g2 (a 0) g4 g5 g6 g7 g8 z0 v1 r3.1 r3.2 hc3) ⟨ww_3_184, ww_3_181, ww_3_183, ws_22, ww_1_1, rfl, by decide, by decide⟩ rfl rfl (by decide +kernel) ⟨Nat.le_of_ble_eq_true rfl, Nat.le_of_ble_eq_true rfl⟩ hP hD hS hA hE [0] rfl (by decide) 0 rfl rfl rfl hl.1 rfl (Nat.le_of_ble_eq_true rfl) dX10_run_54 ⟨Nat.le_of_ble_eq_true rfl, Nat.le_of_ble_eq_true rfl⟩) hP hD hS hA [0] [1, 2, 3, 4, 5, 6, 7, 8, 9, 10, 11, 12, 13, 14, 15, 16, 17, 18, 19, 20, 21, 22, 23, 24, 25, 26, 27, 28, 29, 30] [30, 0, 1, 2, 3, 4, 5, 6, 7, 8, 9, 10, 11, 12, 13, 14, 15, 16, 17, 18, 19, 20, 21, 22, 23, 24, 25, 26, 27, 28, 29] rfl rfl (by decide) (by decide) rfl (by decide) (fun H locs hP hD hS => ?_)
        exact RET _ _ _ H _ ls 57 hf hP hD hS dX10_run_57
      · rw [if_neg c_2] at hf
        refine lv_iload_n hx hb dX10_run_29 rfl (lv_at hl 1 rfl) ?_
        refine lv_aload_n hx hb dX10_run_30 rfl (lv_at hl 0 rfl) ?_
        refine va_get (D := D) (ci := 10) (v := .ref (a 0)) (C := RX10) (T := TX10) (N := 12) hx hb hts kb_inX10 hown hK.1 hP 0 rfl rfl 4 (by decide) (hK.2.w ww_2_156 rfl _) (fun _ h9 => h9) rfl dX10_run_31 ?_
        obtain ⟨r4, hc4, hf⟩ := kb_bind hf
        refine kb_ci (ws2 := (w_Top dA t g0 (pa 0) g2 (a 0) g4 g5 g6 g7 g8 z0 ++ (w_Ride dA a (pa 0) (pa 1) r4.2 ++ (w_Plan dA pa pl)))) (kb_rV (n := 0) (As := []) (rest := [.int v1]) hx hb hml hown hK (c_X6_halt l D dA H.size a pa z1 pl r4.1 r4.2 hc4) ⟨ww_3_200, ww_3_197, ww_3_198, ww_3_199, ww_1_8, rfl, by decide, by decide⟩ rfl rfl (by decide +kernel) ⟨Nat.le_of_ble_eq_true rfl, Nat.le_of_ble_eq_true rfl⟩ hP hD hS hA hE [1, 2, 3, 4, 5, 6, 7, 8, 9, 10, 11, 12, 13, 14, 15, 16, 17, 18, 19, 20, 21, 22, 23, 24, 25, 26, 27, 28, 29, 30] rfl (by decide) 0 rfl rfl rfl hl.1 rfl (Nat.le_of_ble_eq_true rfl) dX10_run_34 ⟨Nat.le_of_ble_eq_true rfl, Nat.le_of_ble_eq_true rfl⟩) hP hD hS hA [1, 2, 3, 4, 5, 6, 7, 8, 9, 10, 11, 12, 13, 14, 15, 16, 17, 18, 19, 20, 21, 22, 23, 24, 25, 26, 27, 28, 29, 30] [0] [0, 1, 2, 3, 4, 5, 6, 7, 8, 9, 10, 11, 12, 13, 14, 15, 16, 17, 18, 19, 20, 21, 22, 23, 24, 25, 26, 27, 28, 29, 30] rfl rfl (by decide) (by decide) rfl (by decide) (fun H locs hP hD hS => ?_)
        refine lv_iadd hx hb dX10_run_37 ?_
        refine lv_istore_n (lv' := [(1, .int (v1 + r4.1)), (0, .ref (t 0)), (2, .int v2)]) hx hb dX10_run_38 rfl hl (by decide) rfl (fun ls hl => ?_)
        refine lv_aload_n hx hb dX10_run_39 rfl (lv_at hl 1 rfl) ?_
        refine va_get (D := D) (ci := 10) (v := .ref (a 0)) (C := RX10) (T := TX10) (N := 12) hx hb hts kb_inX10 hown hK.1 hP 0 rfl rfl 4 (by decide) (hK.2.w ww_2_156 rfl _) (fun _ h9 => h9) rfl dX10_run_40 ?_
        obtain ⟨r5, hc5, hf⟩ := kb_bind hf
        refine kb_cv (ws2 := (w_Top dA t g0 (pa 0) g2 (a 0) g4 g5 g6 g7 g8 z0 ++ (w_Ride dA a (pa 0) (pa 1) r5 ++ (w_Plan dA pa pl)))) (kb_rV (n := 0) (As := []) (rest := []) hx hb hml hown hK (c_X6_board l D dA H.size a pa r4.2 pl r5 hc5) ⟨ww_4_59, ww_4_56, ww_4_57, ww_4_58, ww_1_8, rfl, by decide, by decide⟩ rfl rfl (by decide +kernel) ⟨Nat.le_of_ble_eq_true rfl, Nat.le_of_ble_eq_true rfl⟩ hP hD hS hA hE [1, 2, 3, 4, 5, 6, 7, 8, 9, 10, 11, 12, 13, 14, 15, 16, 17, 18, 19, 20, 21, 22, 23, 24, 25, 26, 27, 28, 29, 30] rfl (by decide) 0 rfl rfl rfl hl.1 rfl (Nat.le_of_ble_eq_true rfl) dX10_run_43 ⟨Nat.le_of_ble_eq_true rfl, Nat.le_of_ble_eq_true rfl⟩) hP hD hS hA [1, 2, 3, 4, 5, 6, 7, 8, 9, 10, 11, 12, 13, 14, 15, 16, 17, 18, 19, 20, 21, 22, 23, 24, 25, 26, 27, 28, 29, 30] [0] [0, 1, 2, 3, 4, 5, 6, 7, 8, 9, 10, 11, 12, 13, 14, 15, 16, 17, 18, 19, 20, 21, 22, 23, 24, 25, 26, 27, 28, 29, 30] rfl rfl (by decide) (by decide) rfl (by decide) (fun H locs hP hD hS => ?_)
        exact B_46 (f_X10_run_b23 pl n) ih _ _ _ _ _ _ _ hf hP hD hS (lv_sub hl [1, 0, 2] rfl)
  have E0 : ∀ (H : Heap) (locs : List Loc), va_P D vwCl (w_Top dA t g0 (pa 0) g2 (a 0) g4 g5 g6 g7 g8 tp ++ (w_Ride dA a (pa 0) (pa 1) rd ++ (w_Plan dA pa pl))) H → va_D A (w_Top dA t g0 (pa 0) g2 (a 0) g4 g5 g6 g7 g8 tp ++ (w_Ride dA a (pa 0) (pa 1) rd ++ (w_Plan dA pa pl))) → va_S A s.heap H locs → W p l e ({ frames := 6, cells := 0, slots := 0, locals := 149 } : Room) s m ([.ref (t 0)] : List Value).toArray below meth c H locs 0 0 Q (F0 m 0 ls []) := by
    intro H locs hP hD hS
    rw [f_X10_run] at hf
    refine lv_aload_n hx hb dX10_run_0 rfl (lv_at hl 0 rfl) ?_
    refine va_get (D := D) (ci := 10) (v := .int (tp_hasBus tp)) (C := RX10) (T := TX10) (N := 12) hx hb hts kb_inX10 hown hK.1 hP 0 rfl rfl 3 (by decide) (hK.2.w ww_2_155 rfl _) (fun _ h9 => h9) rfl dX10_run_1 ?_
    refine lv_if_ne (tgt := 13) hx hb dX10_run_4 (by decide) (fun c_1 => ?_) (fun c_1 => ?_)
    · rw [if_neg c_1] at hf
      refine lv_iconst (v := (0 : Int32)) hx hb dX10_run_13 (by decide) ?_
      refine lv_istore_n (lv' := [(1, .int (0 : Int32)), (0, .ref (t 0))]) hx hb dX10_run_14 rfl hl (by decide) rfl (fun ls hl => ?_)
      refine lv_aload_n hx hb dX10_run_15 rfl (lv_at hl 1 rfl) ?_
      refine va_get (D := D) (ci := 10) (v := .ref (a 0)) (C := RX10) (T := TX10) (N := 12) hx hb hts kb_inX10 hown hK.1 hP 0 rfl rfl 4 (by decide) (hK.2.w ww_2_156 rfl _) (fun _ h9 => h9) rfl dX10_run_16 ?_
      refine va_get (D := D) (ci := 6) (v := .int (rd_stops rd)) (C := RX6) (T := TX6) (N := 11) hx hb hts kb_inX6 hown hK.1 hP 1 rfl rfl 10 (by decide) (hK.2.w ww_2_85 rfl _) (fun _ h9 => h9) rfl dX10_run_19 ?_
      refine lv_istore_n (lv' := [(2, .int (rd_stops rd)), (1, .int (0 : Int32)), (0, .ref (t 0))]) hx hb dX10_run_22 rfl hl (by decide) rfl (fun ls hl => ?_)
      exact B_23 4096 _ _ _ _ _ _ _ hf hP hD hS (lv_sub hl [2, 1, 0] rfl)
    · rw [if_pos c_1] at hf
      refine lv_aload_n hx hb dX10_run_7 rfl (lv_at hl 0 rfl) ?_
      refine lv_iconst (v := (1 : Int32)) hx hb dX10_run_8 (by decide) ?_
      obtain ⟨r6, hc6, hf⟩ := kb_bind hf
      refine kb_ci (ws2 := (w_Top dA t g0 (pa 0) g2 (a 0) g4 g5 g6 g7 g8 r6.2 ++ (w_Ride dA a (pa 0) (pa 1) rd ++ (w_Plan dA pa pl)))) (kb_rV (n := 1) (As := [.int (1 : Int32)]) (rest := []) hx hb hml hown hK (c_X10_refused l D dA H.size t g0 (pa 0) g2 (a 0) g4 g5 g6 g7 g8 tp (1 : Int32) r6.1 r6.2 hc6) ⟨ww_2_204, ww_2_201, ww_2_203, ws_0, ww_1_1, rfl, by decide, by decide⟩ rfl rfl (by decide +kernel) ⟨Nat.le_of_ble_eq_true rfl, Nat.le_of_ble_eq_true rfl⟩ hP hD hS hA hE [0] rfl (by decide) 0 rfl rfl rfl hl.1 rfl (Nat.le_of_ble_eq_true rfl) dX10_run_9 ⟨Nat.le_of_ble_eq_true rfl, Nat.le_of_ble_eq_true rfl⟩) hP hD hS hA [0] [1, 2, 3, 4, 5, 6, 7, 8, 9, 10, 11, 12, 13, 14, 15, 16, 17, 18, 19, 20, 21, 22, 23, 24, 25, 26, 27, 28, 29, 30] [30, 0, 1, 2, 3, 4, 5, 6, 7, 8, 9, 10, 11, 12, 13, 14, 15, 16, 17, 18, 19, 20, 21, 22, 23, 24, 25, 26, 27, 28, 29] rfl rfl (by decide) (by decide) rfl (by decide) (fun H locs hP hD hS => ?_)
      exact RET _ _ _ H _ ls 12 hf hP hD hS dX10_run_12
  exact E0 _ _ hP hD hS
