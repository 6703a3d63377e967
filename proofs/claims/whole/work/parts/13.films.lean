noncomputable def f_X2_add_b29 (z0 : FilmsT) : Option (FilmsT) := some ((fm_set_count z0 ((fm_count z0) + (1 : Int32))))
noncomputable def f_X2_add (fm : FilmsT) (x0 : Int32) (x1 : Int32) : Option (FilmsT) := (if (12 : Int32) ≤ (fm_count fm) then some (fm) else if kb_in? (fm_count fm) 12 then if kb_in? (fm_count (fm_set_taken fm (upd (fm_taken fm) ((fm_count fm)).toNatClampNeg x0))) 12 then f_X2_add_b29 (fm_set_chosen (fm_set_taken fm (upd (fm_taken fm) ((fm_count fm)).toNatClampNeg x0)) (upd (fm_chosen (fm_set_taken fm (upd (fm_taken fm) ((fm_count fm)).toNatClampNeg x0))) ((fm_count (fm_set_taken fm (upd (fm_taken fm) ((fm_count fm)).toNatClampNeg x0)))).toNatClampNeg x1)) else none else none)
set_option maxHeartbeats 4000000 in
set_option maxRecDepth 100000 in
theorem c_X2_add (l : Launch) (D : va_G) (dA : Nat → ClassId) (sz : Nat) (fa : Nat → Nat) (fm : FilmsT) (x0 : Int32) (x1 : Int32) (u0 : FilmsT) (hf : f_X2_add fm x0 x1 = some (u0)) : kb_Mv l yX2_add cX2_add 3 none ({ frames := 0, cells := 0, slots := 0, locals := 0 } : Room) D dA [.ref (fa 0), .int x0, .int x1] sz (w_Films dA fa fm) 0 0 (w_Films dA fa u0) := by
  refine Met.ofW (cc := cX2_add) (maxL := 3) (ret := none) (by decide) rfl ?_
  intro p e s m args below meth c s₁ B hml hv
  obtain ⟨rfl, hsz, hP, hK, hD0, hE⟩ := hv
  have hx := B.exec
  have hb := B.bytes
  have hr := B.returns
  have hown : s.vm.findClass RX2 = some m.cls := findClass_of_methodNamed B.named
  have hlocks := B.notSynchronized
  have hts : ∀ w ∈ kb_gw, w.before ([.ref (fa 0), .int x0, .int x1] : List Value).toArray s = true := fun w hw => hK.2.1 w hw _
  subst hsz
  have hD := hD0.self (sz := s.heap.size)
  generalize hAe : va_A (w_Films dA fa fm) s.heap.size = A at hD hE ⊢
  have hA : ∀ q : Nat, s.heap.size ≤ q → A q := fun q h => by rw [← hAe]; exact Or.inr h
  have hS : va_S A s.heap s.heap [] := va_S.rf
  have hl := lv_entry ([.ref (fa 0), .int x0, .int x1]) (n := 3) (Nat.le_of_ble_eq_true rfl)
  rw [lg_entry_eq]
  generalize (lg_sl ([.ref (fa 0), .int x0, .int x1]) ++ List.replicate (3 - (lg_sl ([.ref (fa 0), .int x0, .int x1])).length) Slot.unset).toArray = ls at hl ⊢
  have hl : lv_has ls 3 [(0, .ref (fa 0)), (1, .int x0), (2, .int x1)] := hl
  generalize hQ : MQ below (va_Qv (fun (_ : Unit) => True) (kb_B D A (w_Films dA fa u0)) A) ([.ref (fa 0), .int x0, .int x1] : List Value).toArray s 0 0 A = Q
  show W p l e ({ frames := 0, cells := 0, slots := 0, locals := 0 } : Room) s m ([.ref (fa 0), .int x0, .int x1] : List Value).toArray below meth c s.heap [] 0 0 Q (F0 m 0 ls [])
  have RET : ∀ (w0 : FilmsT) (H : Heap) (locs : List Loc) (ls : Array Slot) (pc : Nat), some (w0) = some (u0) → va_P D vwCl (w_Films dA fa w0) H → va_D A (w_Films dA fa w0) → va_S A s.heap H locs → decode cX2_add pc = .ok (.return_, 1) → W p l e ({ frames := 0, cells := 0, slots := 0, locals := 0 } : Room) s m ([.ref (fa 0), .int x0, .int x1] : List Value).toArray below meth c H locs 0 0 Q (F0 m pc ls []) := by
    intro w0 H locs ls pc hq hP hD hS hd
    cases hq
    rw [← hQ]
    exact W.vret hx hb hr (fun t ht hW => ⟨⟨(), rfl, trivial, by rw [ht]; exact hP, hD⟩, hS.F ht⟩) hS.2.2 hd
  have B_29 : ∀ (z0 : FilmsT) (H : Heap) (locs : List Loc) (ls : Array Slot), f_X2_add_b29 z0 = some (u0) → va_P D vwCl (w_Films dA fa z0) H → va_D A (w_Films dA fa z0) → va_S A s.heap H locs → lv_has ls 3 [(0, .ref (fa 0))] → W p l e ({ frames := 0, cells := 0, slots := 0, locals := 0 } : Room) s m ([.ref (fa 0), .int x0, .int x1] : List Value).toArray below meth c H locs 0 0 Q (F0 m 29 ls []) := by
    intro z0 H locs ls hf hP hD hS hl
    rw [f_X2_add_b29] at hf
    refine lv_aload_n hx hb dX2_add_29 rfl (lv_at hl 0 rfl) ?_
    refine lv_dup hx hb dX2_add_30 rfl ?_
    refine va_get (D := D) (ci := 2) (v := .int (fm_count z0)) (C := RX2) (T := TX2) (N := 3) hx hb hts kb_inX2 hown hK.1 hP 0 rfl rfl 2 (by decide) (hK.2.w ww_2_31 rfl _) (fun _ h9 => h9) rfl dX2_add_31 ?_
    refine lv_iconst (v := (1 : Int32)) hx hb dX2_add_34 (by decide) ?_
    refine lv_iadd hx hb dX2_add_35 ?_
    refine va_put (D := D) (ci := 2) (v := .int ((fm_count z0) + (1 : Int32))) (ty := .int) (C := RX2) (T := TX2) (N := 3) hx hb hts kb_inX2 tyX2 tyX2_ok nmX2 hown hK.1 hP hD hS 0 rfl rfl 2 (by decide) (hK.2.w ww_2_31 rfl _) (fun _ h9 => h9) rfl (by decide +kernel) rfl rfl (Nat.le_of_ble_eq_true rfl) dX2_add_36 (fun H locs hP hD hS => ?_)
    have hP : va_P D vwCl (w_Films dA fa (fm_set_count z0 ((fm_count z0) + (1 : Int32)))) H := hP
    have hD : va_D A (w_Films dA fa (fm_set_count z0 ((fm_count z0) + (1 : Int32)))) := hD
    exact RET _ H _ ls 39 hf hP hD hS dX2_add_39
  have E0 : ∀ (H : Heap) (locs : List Loc), va_P D vwCl (w_Films dA fa fm) H → va_D A (w_Films dA fa fm) → va_S A s.heap H locs → W p l e ({ frames := 0, cells := 0, slots := 0, locals := 0 } : Room) s m ([.ref (fa 0), .int x0, .int x1] : List Value).toArray below meth c H locs 0 0 Q (F0 m 0 ls []) := by
    intro H locs hP hD hS
    rw [f_X2_add] at hf
    refine lv_aload_n hx hb dX2_add_0 rfl (lv_at hl 0 rfl) ?_
    refine va_get (D := D) (ci := 2) (v := .int (fm_count fm)) (C := RX2) (T := TX2) (N := 3) hx hb hts kb_inX2 hown hK.1 hP 0 rfl rfl 2 (by decide) (hK.2.w ww_2_31 rfl _) (fun _ h9 => h9) rfl dX2_add_1 ?_
    refine lv_bipush (v := (12 : Int32)) hx hb dX2_add_4 (by decide) ?_
    refine lv_icmp_ge (tgt := 39) hx hb dX2_add_6 (by decide) (fun c_1 => ?_) (fun c_1 => ?_)
    · rw [if_pos c_1] at hf
      exact RET _ H _ ls 39 hf hP hD hS dX2_add_39
    · rw [if_neg c_1] at hf
      refine lv_aload_n hx hb dX2_add_9 rfl (lv_at hl 0 rfl) ?_
      refine va_get (D := D) (ci := 2) (v := .ref (fa 1)) (C := RX2) (T := TX2) (N := 3) hx hb hts kb_inX2 hown hK.1 hP 0 rfl rfl 0 (by decide) (hK.2.w ww_2_29 rfl _) (fun _ h9 => h9) rfl dX2_add_10 ?_
      refine lv_aload_n hx hb dX2_add_13 rfl (lv_at hl 0 rfl) ?_
      refine va_get (D := D) (ci := 2) (v := .int (fm_count fm)) (C := RX2) (T := TX2) (N := 3) hx hb hts kb_inX2 hown hK.1 hP 0 rfl rfl 2 (by decide) (hK.2.w ww_2_31 rfl _) (fun _ h9 => h9) rfl dX2_add_14 ?_
      refine lv_iload_n hx hb dX2_add_17 rfl (lv_at hl 1 rfl) ?_
      obtain ⟨h_2, hf⟩ := kb_if hf
      refine va_iast (D := D) hx hb hK.1 hP hD hS 1 0 rfl rfl h_2 dX2_add_18 (fun H locs hP hD hS => ?_)
      have hP : va_P D vwCl (w_Films dA fa (fm_set_taken fm (upd (fm_taken fm) ((fm_count fm)).toNatClampNeg x0))) H := hP
      have hD : va_D A (w_Films dA fa (fm_set_taken fm (upd (fm_taken fm) ((fm_count fm)).toNatClampNeg x0))) := hD
      refine lv_aload_n hx hb dX2_add_19 rfl (lv_at hl 0 rfl) ?_
      refine va_get (D := D) (ci := 2) (v := .ref (fa 2)) (C := RX2) (T := TX2) (N := 3) hx hb hts kb_inX2 hown hK.1 hP 0 rfl rfl 1 (by decide) (hK.2.w ww_2_30 rfl _) (fun _ h9 => h9) rfl dX2_add_20 ?_
      refine lv_aload_n hx hb dX2_add_23 rfl (lv_at hl 0 rfl) ?_
      refine va_get (D := D) (ci := 2) (v := .int (fm_count (fm_set_taken fm (upd (fm_taken fm) ((fm_count fm)).toNatClampNeg x0)))) (C := RX2) (T := TX2) (N := 3) hx hb hts kb_inX2 hown hK.1 hP 0 rfl rfl 2 (by decide) (hK.2.w ww_2_31 rfl _) (fun _ h9 => h9) rfl dX2_add_24 ?_
      refine lv_iload_n hx hb dX2_add_27 rfl (lv_at hl 2 rfl) ?_
      obtain ⟨h_3, hf⟩ := kb_if hf
      refine va_iast (D := D) hx hb hK.1 hP hD hS 2 0 rfl rfl h_3 dX2_add_28 (fun H locs hP hD hS => ?_)
      have hP : va_P D vwCl (w_Films dA fa (fm_set_chosen (fm_set_taken fm (upd (fm_taken fm) ((fm_count fm)).toNatClampNeg x0)) (upd (fm_chosen (fm_set_taken fm (upd (fm_taken fm) ((fm_count fm)).toNatClampNeg x0))) ((fm_count (fm_set_taken fm (upd (fm_taken fm) ((fm_count fm)).toNatClampNeg x0)))).toNatClampNeg x1))) H := hP
      have hD : va_D A (w_Films dA fa (fm_set_chosen (fm_set_taken fm (upd (fm_taken fm) ((fm_count fm)).toNatClampNeg x0)) (upd (fm_chosen (fm_set_taken fm (upd (fm_taken fm) ((fm_count fm)).toNatClampNeg x0))) ((fm_count (fm_set_taken fm (upd (fm_taken fm) ((fm_count fm)).toNatClampNeg x0)))).toNatClampNeg x1))) := hD
      exact B_29 _ _ _ _ hf hP hD hS (lv_sub hl [0] rfl)
  exact E0 _ _ hP hD hS

noncomputable def f_X2_agreeing_b23 (fm : FilmsT) (cb : CabT) (ru : RulesT) (k6 : Nat → Int32 → Int32 → SceneT → Option (Int32 × SceneT)) : Nat → Nat → Int32 → Int32 → Int32 → SceneT → Option (Int32 × SceneT)
  | 0, _, _, _, _, _ => none
  | n + 1, i2, v4, v5, v6, z3 => (if (20 : Int32) ≤ v6 then if kb_in? v5 12 then (f_X9_best z3 cb ru (i2) (5 : Int32) (0 : Int32) ((cb_seats cb) &&& (((fm_taken fm) (v5).toNatClampNeg) ^^^ (-1 : Int32)))).bind fun r5 => if kb_in? v5 12 then (f_X10_holdsBit r5 ((fm_chosen fm) (v5).toNatClampNeg)).bind fun r7 => (if r7 = 0 then k6 i2 v4 (v5 + (1 : Int32)) z3 else k6 i2 (v4 + (1 : Int32)) (v5 + (1 : Int32)) z3) else none else none else if kb_in? v5 12 then (f_X10_holdsBit ((fm_taken fm) (v5).toNatClampNeg) v6).bind fun r10 => (if r10 = 0 then f_X2_agreeing_b23 fm cb ru k6 n i2 v4 v5 (v6 + (1 : Int32)) z3 else if kb_in? v6 20 then f_X2_agreeing_b23 fm cb ru k6 n i2 v4 v5 (v6 + (1 : Int32)) (sc_set_sitter z3 (upd (sc_sitter z3) (v6).toNatClampNeg (8 : Int32))) else none) else none)
noncomputable def f_X2_agreeing_b6 (fm : FilmsT) (cb : CabT) (ru : RulesT) : Nat → Nat → Int32 → Int32 → SceneT → Option (Int32 × SceneT)
  | 0, _, _, _, _ => none
  | n + 1, i2, v4, v5, z3 => (if (fm_count fm) ≤ v5 then some (v4, z3) else (f_X9_empty z3).bind fun r2 => f_X2_agreeing_b23 fm cb ru (f_X2_agreeing_b6 fm cb ru n) 4096 i2 v4 v5 (0 : Int32) r2)
noncomputable def f_X2_agreeing (fm : FilmsT) (cb : CabT) (ru : RulesT) (sn : SceneT) (ix1 : Nat) : Option (Int32 × SceneT) := f_X2_agreeing_b6 fm cb ru 4096 ix1 (0 : Int32) (0 : Int32) sn
set_option maxHeartbeats 4000000 in
set_option maxRecDepth 100000 in
theorem c_X2_agreeing (l : Launch) (D : va_G) (dA : Nat → ClassId) (sz : Nat) (fa : Nat → Nat) (ca : Nat → Nat) (ua : Nat → Nat) (sa : Nat → Nat) (ph : Nat → Nat) (fm : FilmsT) (cb : CabT) (ru : RulesT) (sn : SceneT) (ix1 : Nat) (hix1 : ix1 < 4) (rv : Int32) (u3 : SceneT) (hf : f_X2_agreeing fm cb ru sn ix1 = some (rv, u3)) : kb_FMi l yX2_agreeing cX2_agreeing 7 (some .int) ({ frames := 3, cells := 0, slots := 0, locals := 81 } : Room) D dA [.ref (fa 0), .ref (ca 0), .ref (ua ix1), .ref (sa 0)] sz (w_Films dA fa fm ++ (w_Cab dA ca cb ++ (w_Rules dA ua ru ++ (w_Scene dA sa (ph 0) sn)))) 0 0 rv (fun (ph2 : Nat → Nat) => (w_Films dA fa fm ++ (w_Cab dA ca cb ++ (w_Rules dA ua ru ++ (w_Scene dA sa (ph2 0) u3))))) := by
  refine Met.ofW (cc := cX2_agreeing) (maxL := 7) (ret := (some .int)) (by decide) rfl ?_
  intro p e s m args below meth c s₁ B hml hv
  obtain ⟨rfl, hsz, hP, hK, hD0, hE⟩ := hv
  have hx := B.exec
  have hb := B.bytes
  have hr := B.returns
  have hown : s.vm.findClass RX2 = some m.cls := findClass_of_methodNamed B.named
  have hlocks := B.notSynchronized
  have hts : ∀ w ∈ kb_gw, w.before ([.ref (fa 0), .ref (ca 0), .ref (ua ix1), .ref (sa 0)] : List Value).toArray s = true := fun w hw => hK.2.1 w hw _
  subst hsz
  have hD := hD0.self (sz := s.heap.size)
  generalize hAe : va_A (w_Films dA fa fm ++ (w_Cab dA ca cb ++ (w_Rules dA ua ru ++ (w_Scene dA sa (ph 0) sn)))) s.heap.size = A at hD hE ⊢
  have hA : ∀ q : Nat, s.heap.size ≤ q → A q := fun q h => by rw [← hAe]; exact Or.inr h
  have hS : va_S A s.heap s.heap [] := va_S.rf
  have hl := lv_entry ([.ref (fa 0), .ref (ca 0), .ref (ua ix1), .ref (sa 0)]) (n := 7) (Nat.le_of_ble_eq_true rfl)
  rw [lg_entry_eq]
  generalize (lg_sl ([.ref (fa 0), .ref (ca 0), .ref (ua ix1), .ref (sa 0)]) ++ List.replicate (7 - (lg_sl ([.ref (fa 0), .ref (ca 0), .ref (ua ix1), .ref (sa 0)])).length) Slot.unset).toArray = ls at hl ⊢
  have hl : lv_has ls 7 [(0, .ref (fa 0)), (1, .ref (ca 0)), (2, .ref (ua ix1)), (3, .ref (sa 0))] := hl
  generalize hQ : MQ below (va_Qi (fun r (_ : Nat → Nat) => r = rv) (fun ph2 => kb_B D A (w_Films dA fa fm ++ (w_Cab dA ca cb ++ (w_Rules dA ua ru ++ (w_Scene dA sa (ph2 0) u3)))) ()) A) ([.ref (fa 0), .ref (ca 0), .ref (ua ix1), .ref (sa 0)] : List Value).toArray s 0 0 A = Q
  show W p l e ({ frames := 3, cells := 0, slots := 0, locals := 81 } : Room) s m ([.ref (fa 0), .ref (ca 0), .ref (ua ix1), .ref (sa 0)] : List Value).toArray below meth c s.heap [] 0 0 Q (F0 m 0 ls [])
  have RET : ∀ (ph2 : Nat → Nat) (r2 : Int32) (w3 : SceneT) (H : Heap) (locs : List Loc) (ls : Array Slot) (pc : Nat), some (r2, w3) = some (rv, u3) → va_P D vwCl (w_Films dA fa fm ++ (w_Cab dA ca cb ++ (w_Rules dA ua ru ++ (w_Scene dA sa (ph2 0) w3)))) H → va_D A (w_Films dA fa fm ++ (w_Cab dA ca cb ++ (w_Rules dA ua ru ++ (w_Scene dA sa (ph2 0) w3)))) → va_S A s.heap H locs → decode cX2_agreeing pc = .ok (.ireturn, 1) → W p l e ({ frames := 3, cells := 0, slots := 0, locals := 81 } : Room) s m ([.ref (fa 0), .ref (ca 0), .ref (ua ix1), .ref (sa 0)] : List Value).toArray below meth c H locs 0 0 Q (F0 m pc ls [.int r2]) := by
    intro ph2 r2 w3 H locs ls pc hq hP hD hS hd
    cases hq
    rw [← hQ]
    exact W.iret hx hb hr (fun t ht hW => ⟨⟨_, ph2, rfl, rfl, by rw [ht]; exact hP, hD⟩, hS.F ht⟩) hS.2.2 hd
  have B_23 : ∀ (k6 : Nat → Int32 → Int32 → SceneT → Option (Int32 × SceneT)) (hk6 : ∀ (ph : Nat → Nat) (i2 : Nat) (v4 : Int32) (v5 : Int32) (z3 : SceneT) (H : Heap) (locs : List Loc) (ls : Array Slot), i2 < 4 → k6 i2 v4 v5 z3 = some (rv, u3) → va_P D vwCl (w_Films dA fa fm ++ (w_Cab dA ca cb ++ (w_Rules dA ua ru ++ (w_Scene dA sa (ph 0) z3)))) H → va_D A (w_Films dA fa fm ++ (w_Cab dA ca cb ++ (w_Rules dA ua ru ++ (w_Scene dA sa (ph 0) z3)))) → va_S A s.heap H locs → lv_has ls 7 [(0, .ref (fa 0)), (1, .ref (ca 0)), (2, .ref (ua i2)), (3, .ref (sa 0)), (4, .int v4), (5, .int v5)] → W p l e ({ frames := 3, cells := 0, slots := 0, locals := 81 } : Room) s m ([.ref (fa 0), .ref (ca 0), .ref (ua ix1), .ref (sa 0)] : List Value).toArray below meth c H locs 0 0 Q (F0 m 6 ls [])) (n : Nat) (ph : Nat → Nat) (i2 : Nat) (v4 : Int32) (v5 : Int32) (v6 : Int32) (z3 : SceneT) (H : Heap) (locs : List Loc) (ls : Array Slot), i2 < 4 → f_X2_agreeing_b23 fm cb ru k6 n i2 v4 v5 v6 z3 = some (rv, u3) → va_P D vwCl (w_Films dA fa fm ++ (w_Cab dA ca cb ++ (w_Rules dA ua ru ++ (w_Scene dA sa (ca 0) z3)))) H → va_D A (w_Films dA fa fm ++ (w_Cab dA ca cb ++ (w_Rules dA ua ru ++ (w_Scene dA sa (ca 0) z3)))) → va_S A s.heap H locs → lv_has ls 7 [(0, .ref (fa 0)), (1, .ref (ca 0)), (2, .ref (ua i2)), (3, .ref (sa 0)), (4, .int v4), (5, .int v5), (6, .int v6)] → W p l e ({ frames := 3, cells := 0, slots := 0, locals := 81 } : Room) s m ([.ref (fa 0), .ref (ca 0), .ref (ua ix1), .ref (sa 0)] : List Value).toArray below meth c H locs 0 0 Q (F0 m 23 ls []) := by
    intro k6 hk6 n
    induction n with
    | zero =>
      intro ph i2 v4 v5 v6 z3 H locs ls hi2 hf
      exact absurd hf (by simp [f_X2_agreeing_b23])
    | succ n ih =>
      intro ph i2 v4 v5 v6 z3 H locs ls hi2 hf hP hD hS hl
      rw [f_X2_agreeing_b23] at hf
      refine lv_iload hx hb dX2_agreeing_23 (lv_at hl 6 rfl) ?_
      refine lv_bipush (v := (20 : Int32)) hx hb dX2_agreeing_25 (by decide) ?_
      refine lv_icmp_ge (tgt := 60) hx hb dX2_agreeing_27 (by decide) (fun c_3 => ?_) (fun c_3 => ?_)
      · rw [if_pos c_3] at hf
        refine lv_aload_n hx hb dX2_agreeing_60 rfl (lv_at hl 3 rfl) ?_
        refine lv_aload_n hx hb dX2_agreeing_61 rfl (lv_at hl 2 rfl) ?_
        refine lv_iconst (v := (5 : Int32)) hx hb dX2_agreeing_62 (by decide) ?_
        refine lv_iconst (v := (0 : Int32)) hx hb dX2_agreeing_63 (by decide) ?_
        refine lv_aload_n hx hb dX2_agreeing_64 rfl (lv_at hl 1 rfl) ?_
        refine va_get (D := D) (ci := 0) (v := .int (cb_seats cb)) (C := RX0) (T := TX0) (N := 8) hx hb hts kb_inX0 hown hK.1 hP 3 rfl rfl 6 (by decide) (hK.2.w ww_1_104 rfl _) (fun _ h9 => h9) rfl dX2_agreeing_65 ?_
        refine lv_aload_n hx hb dX2_agreeing_68 rfl (lv_at hl 0 rfl) ?_
        refine va_get (D := D) (ci := 2) (v := .ref (fa 1)) (C := RX2) (T := TX2) (N := 3) hx hb hts kb_inX2 hown hK.1 hP 0 rfl rfl 0 (by decide) (hK.2.w ww_2_29 rfl _) (fun _ h9 => h9) rfl dX2_agreeing_69 ?_
        refine lv_iload hx hb dX2_agreeing_72 (lv_at hl 5 rfl) ?_
        obtain ⟨h_4, hf⟩ := kb_if hf
        refine va_iald (D := D) hx hb hK.1 hP 1 0 rfl rfl h_4 dX2_agreeing_74 ?_
        refine lv_iconst (v := (-1 : Int32)) hx hb dX2_agreeing_75 (by decide) ?_
        refine lv_ixor hx hb dX2_agreeing_76 ?_
        refine lv_iand hx hb dX2_agreeing_77 ?_
        obtain ⟨r5, hc5, hf⟩ := kb_bind hf
        refine kb_ci (ws2 := (w_Films dA fa fm ++ (w_Cab dA ca cb ++ (w_Rules dA ua ru ++ (w_Scene dA sa (ca 0) z3))))) (kb_rV (n := 4) (As := [.ref (ua i2), .int (5 : Int32), .int (0 : Int32), .int ((cb_seats cb) &&& (((fm_taken fm) (v5).toNatClampNeg) ^^^ (-1 : Int32)))]) (rest := []) hx hb hml hown hK (c_X9_best l D dA H.size sa ca ua z3 cb ru i2 hi2 (5 : Int32) (0 : Int32) ((cb_seats cb) &&& (((fm_taken fm) (v5).toNatClampNeg) ^^^ (-1 : Int32))) r5 hc5) ⟨ww_4_30, ww_5_10, ww_4_28, ww_4_29, ww_1_9, rfl, by decide, by decide⟩ rfl rfl (by decide +kernel) ⟨Nat.le_of_ble_eq_true rfl, Nat.le_of_ble_eq_true rfl⟩ hP hD hS hA hE [13, 14, 15, 3, 4, 5, 6, 7, 8, 9, 10, 11, 12] rfl (by decide) 0 rfl rfl rfl hl.1 rfl (Nat.le_of_ble_eq_true rfl) dX2_agreeing_78 ⟨Nat.le_of_ble_eq_true rfl, Nat.le_of_ble_eq_true rfl⟩) hP hD hS hA [13, 14, 15, 3, 4, 5, 6, 7, 8, 9, 10, 11, 12] [0, 1, 2] [0, 1, 2, 6, 7, 8, 9, 10, 11, 12, 13, 14, 15, 3, 4, 5] rfl rfl (by decide) (by decide) rfl (by decide) (fun H locs hP hD hS => ?_)
        refine lv_istore (lv' := [(6, .int r5), (0, .ref (fa 0)), (1, .ref (ca 0)), (2, .ref (ua i2)), (3, .ref (sa 0)), (4, .int v4), (5, .int v5)]) hx hb dX2_agreeing_81 hl (by decide) rfl (fun ls hl => ?_)
        refine lv_iload hx hb dX2_agreeing_83 (lv_at hl 0 rfl) ?_
        refine lv_aload_n hx hb dX2_agreeing_85 rfl (lv_at hl 1 rfl) ?_
        refine va_get (D := D) (ci := 2) (v := .ref (fa 2)) (C := RX2) (T := TX2) (N := 3) hx hb hts kb_inX2 hown hK.1 hP 0 rfl rfl 1 (by decide) (hK.2.w ww_2_30 rfl _) (fun _ h9 => h9) rfl dX2_agreeing_86 ?_
        refine lv_iload hx hb dX2_agreeing_89 (lv_at hl 6 rfl) ?_
        obtain ⟨h_6, hf⟩ := kb_if hf
        refine va_iald (D := D) hx hb hK.1 hP 2 0 rfl rfl h_6 dX2_agreeing_91 ?_
        obtain ⟨r7, hc7, hf⟩ := kb_bind hf
        refine kb_ci (ws2 := (w_Films dA fa fm ++ (w_Cab dA ca cb ++ (w_Rules dA ua ru ++ (w_Scene dA sa (ca 0) z3))))) (kb_rSN (n := 2) (As := [.int r5, .int ((fm_chosen fm) (v5).toNatClampNeg)]) (rest := []) hx hb hml hown hK (c_X10_holdsBit l D dA H.size r5 ((fm_chosen fm) (v5).toNatClampNeg) r7 hc7) ⟨ww_3_158, ww_5_9, ww_3_157, ww_1_1, by decide, by decide⟩ rfl rfl (by decide +kernel) ⟨Nat.le_of_ble_eq_true rfl, Nat.le_of_ble_eq_true rfl⟩ hP hD hS hA hE [] rfl (by decide) rfl hl.1 rfl (Nat.le_of_ble_eq_true rfl) dX2_agreeing_92 ⟨Nat.le_of_ble_eq_true rfl, Nat.le_of_ble_eq_true rfl⟩) hP hD hS hA [] [0, 1, 2, 3, 4, 5, 6, 7, 8, 9, 10, 11, 12, 13, 14, 15] [0, 1, 2, 3, 4, 5, 6, 7, 8, 9, 10, 11, 12, 13, 14, 15] rfl rfl (by decide) (by decide) rfl (by decide) (fun H locs hP hD hS => ?_)
        refine lv_if_eq (tgt := 101) hx hb dX2_agreeing_95 (by decide) (fun c_8 => ?_) (fun c_8 => ?_)
        · rw [if_pos c_8] at hf
          refine lv_iinc (v := (v5 + (1 : Int32))) (lv' := [(5, .int (v5 + (1 : Int32))), (6, .int r5), (0, .ref (fa 0)), (1, .ref (ca 0)), (2, .ref (ua i2)), (3, .ref (sa 0)), (4, .int v4)]) hx hb dX2_agreeing_101 hl (k := 6) rfl (by rfl) (by decide) rfl (fun ls hl => ?_)
          refine lv_goto (tgt := 6) hx hb dX2_agreeing_104 (by decide) ?_
          exact hk6 (kb_ph [(ca 0)]) _ _ _ _ _ _ _ hi2 hf hP hD hS (lv_sub hl [2, 3, 4, 5, 6, 0] rfl)
        · rw [if_neg c_8] at hf
          refine lv_iinc (v := (v4 + (1 : Int32))) (lv' := [(4, .int (v4 + (1 : Int32))), (6, .int r5), (0, .ref (fa 0)), (1, .ref (ca 0)), (2, .ref (ua i2)), (3, .ref (sa 0)), (5, .int v5)]) hx hb dX2_agreeing_98 hl (k := 5) rfl (by rfl) (by decide) rfl (fun ls hl => ?_)
          refine lv_iinc (v := (v5 + (1 : Int32))) (lv' := [(5, .int (v5 + (1 : Int32))), (4, .int (v4 + (1 : Int32))), (6, .int r5), (0, .ref (fa 0)), (1, .ref (ca 0)), (2, .ref (ua i2)), (3, .ref (sa 0))]) hx hb dX2_agreeing_101 hl (k := 6) rfl (by rfl) (by decide) rfl (fun ls hl => ?_)
          refine lv_goto (tgt := 6) hx hb dX2_agreeing_104 (by decide) ?_
          exact hk6 (kb_ph [(ca 0)]) _ _ _ _ _ _ _ hi2 hf hP hD hS (lv_sub hl [3, 4, 5, 6, 1, 0] rfl)
      · rw [if_neg c_3] at hf
        refine lv_aload_n hx hb dX2_agreeing_30 rfl (lv_at hl 0 rfl) ?_
        refine va_get (D := D) (ci := 2) (v := .ref (fa 1)) (C := RX2) (T := TX2) (N := 3) hx hb hts kb_inX2 hown hK.1 hP 0 rfl rfl 0 (by decide) (hK.2.w ww_2_29 rfl _) (fun _ h9 => h9) rfl dX2_agreeing_31 ?_
        refine lv_iload hx hb dX2_agreeing_34 (lv_at hl 5 rfl) ?_
        obtain ⟨h_9, hf⟩ := kb_if hf
        refine va_iald (D := D) hx hb hK.1 hP 1 0 rfl rfl h_9 dX2_agreeing_36 ?_
        refine lv_iload hx hb dX2_agreeing_37 (lv_at hl 6 rfl) ?_
        obtain ⟨r10, hc10, hf⟩ := kb_bind hf
        refine kb_ci (ws2 := (w_Films dA fa fm ++ (w_Cab dA ca cb ++ (w_Rules dA ua ru ++ (w_Scene dA sa (ca 0) z3))))) (kb_rSN (n := 2) (As := [.int ((fm_taken fm) (v5).toNatClampNeg), .int v6]) (rest := []) hx hb hml hown hK (c_X10_holdsBit l D dA H.size ((fm_taken fm) (v5).toNatClampNeg) v6 r10 hc10) ⟨ww_3_158, ww_5_9, ww_3_157, ww_1_1, by decide, by decide⟩ rfl rfl (by decide +kernel) ⟨Nat.le_of_ble_eq_true rfl, Nat.le_of_ble_eq_true rfl⟩ hP hD hS hA hE [] rfl (by decide) rfl hl.1 rfl (Nat.le_of_ble_eq_true rfl) dX2_agreeing_39 ⟨Nat.le_of_ble_eq_true rfl, Nat.le_of_ble_eq_true rfl⟩) hP hD hS hA [] [0, 1, 2, 3, 4, 5, 6, 7, 8, 9, 10, 11, 12, 13, 14, 15] [0, 1, 2, 3, 4, 5, 6, 7, 8, 9, 10, 11, 12, 13, 14, 15] rfl rfl (by decide) (by decide) rfl (by decide) (fun H locs hP hD hS => ?_)
        refine lv_if_eq (tgt := 54) hx hb dX2_agreeing_42 (by decide) (fun c_11 => ?_) (fun c_11 => ?_)
        · rw [if_pos c_11] at hf
          refine lv_iinc (v := (v6 + (1 : Int32))) (lv' := [(6, .int (v6 + (1 : Int32))), (0, .ref (fa 0)), (1, .ref (ca 0)), (2, .ref (ua i2)), (3, .ref (sa 0)), (4, .int v4), (5, .int v5)]) hx hb dX2_agreeing_54 hl (k := 6) rfl (by rfl) (by decide) rfl (fun ls hl => ?_)
          refine lv_goto (tgt := 23) hx hb dX2_agreeing_57 (by decide) ?_
          exact ih (kb_ph [(ca 0)]) _ _ _ _ _ _ _ _ hi2 hf hP hD hS (lv_sub hl [1, 2, 3, 4, 5, 6, 0] rfl)
        · rw [if_neg c_11] at hf
          refine lv_aload_n hx hb dX2_agreeing_45 rfl (lv_at hl 3 rfl) ?_
          refine va_get (D := D) (ci := 9) (v := .ref (sa 1)) (C := RX9) (T := TX9) (N := 3) hx hb hts kb_inX9 hown hK.1 hP 13 rfl rfl 0 (by decide) (hK.2.w ww_2_52 rfl _) (fun _ h9 => h9) rfl dX2_agreeing_46 ?_
          refine lv_iload hx hb dX2_agreeing_49 (lv_at hl 6 rfl) ?_
          refine lv_bipush (v := (8 : Int32)) hx hb dX2_agreeing_51 (by decide) ?_
          obtain ⟨h_12, hf⟩ := kb_if hf
          refine va_iast (D := D) hx hb hK.1 hP hD hS 14 0 rfl rfl h_12 dX2_agreeing_53 (fun H locs hP hD hS => ?_)
          have hP : va_P D vwCl (w_Films dA fa fm ++ (w_Cab dA ca cb ++ (w_Rules dA ua ru ++ (w_Scene dA sa (ca 0) (sc_set_sitter z3 (upd (sc_sitter z3) (v6).toNatClampNeg (8 : Int32))))))) H := hP
          have hD : va_D A (w_Films dA fa fm ++ (w_Cab dA ca cb ++ (w_Rules dA ua ru ++ (w_Scene dA sa (ca 0) (sc_set_sitter z3 (upd (sc_sitter z3) (v6).toNatClampNeg (8 : Int32))))))) := hD
          refine lv_iinc (v := (v6 + (1 : Int32))) (lv' := [(6, .int (v6 + (1 : Int32))), (0, .ref (fa 0)), (1, .ref (ca 0)), (2, .ref (ua i2)), (3, .ref (sa 0)), (4, .int v4), (5, .int v5)]) hx hb dX2_agreeing_54 hl (k := 6) rfl (by rfl) (by decide) rfl (fun ls hl => ?_)
          refine lv_goto (tgt := 23) hx hb dX2_agreeing_57 (by decide) ?_
          exact ih (kb_ph [(ca 0)]) _ _ _ _ _ _ _ _ hi2 hf hP hD hS (lv_sub hl [1, 2, 3, 4, 5, 6, 0] rfl)
  have B_6 : ∀ (n : Nat) (ph : Nat → Nat) (i2 : Nat) (v4 : Int32) (v5 : Int32) (z3 : SceneT) (H : Heap) (locs : List Loc) (ls : Array Slot), i2 < 4 → f_X2_agreeing_b6 fm cb ru n i2 v4 v5 z3 = some (rv, u3) → va_P D vwCl (w_Films dA fa fm ++ (w_Cab dA ca cb ++ (w_Rules dA ua ru ++ (w_Scene dA sa (ph 0) z3)))) H → va_D A (w_Films dA fa fm ++ (w_Cab dA ca cb ++ (w_Rules dA ua ru ++ (w_Scene dA sa (ph 0) z3)))) → va_S A s.heap H locs → lv_has ls 7 [(0, .ref (fa 0)), (1, .ref (ca 0)), (2, .ref (ua i2)), (3, .ref (sa 0)), (4, .int v4), (5, .int v5)] → W p l e ({ frames := 3, cells := 0, slots := 0, locals := 81 } : Room) s m ([.ref (fa 0), .ref (ca 0), .ref (ua ix1), .ref (sa 0)] : List Value).toArray below meth c H locs 0 0 Q (F0 m 6 ls []) := by
    intro n
    induction n with
    | zero =>
      intro ph i2 v4 v5 z3 H locs ls hi2 hf
      exact absurd hf (by simp [f_X2_agreeing_b6])
    | succ n ih =>
      intro ph i2 v4 v5 z3 H locs ls hi2 hf hP hD hS hl
      rw [f_X2_agreeing_b6] at hf
      refine lv_iload hx hb dX2_agreeing_6 (lv_at hl 5 rfl) ?_
      refine lv_aload_n hx hb dX2_agreeing_8 rfl (lv_at hl 0 rfl) ?_
      refine va_get (D := D) (ci := 2) (v := .int (fm_count fm)) (C := RX2) (T := TX2) (N := 3) hx hb hts kb_inX2 hown hK.1 hP 0 rfl rfl 2 (by decide) (hK.2.w ww_2_31 rfl _) (fun _ h9 => h9) rfl dX2_agreeing_9 ?_
      refine lv_icmp_ge (tgt := 107) hx hb dX2_agreeing_12 (by decide) (fun c_1 => ?_) (fun c_1 => ?_)
      · rw [if_pos c_1] at hf
        refine lv_iload hx hb dX2_agreeing_107 (lv_at hl 4 rfl) ?_
        exact RET (kb_ph [(ph 0)]) _ _ H _ ls 109 hf hP hD hS dX2_agreeing_109
      · rw [if_neg c_1] at hf
        refine lv_aload_n hx hb dX2_agreeing_15 rfl (lv_at hl 3 rfl) ?_
        refine lv_aload_n hx hb dX2_agreeing_16 rfl (lv_at hl 1 rfl) ?_
        obtain ⟨r2, hc2, hf⟩ := kb_bind hf
        refine kb_cv (ws2 := (w_Films dA fa fm ++ (w_Cab dA ca cb ++ (w_Rules dA ua ru ++ (w_Scene dA sa (ca 0) r2))))) (kb_rV (n := 1) (As := [.ref (ca 0)]) (rest := []) hx hb hml hown hK (c_X9_empty l D dA H.size sa (ph 0) (ca 0) z3 r2 hc2) ⟨ww_3_180, ww_5_8, ww_3_178, ww_3_179, ww_1_9, rfl, by decide, by decide⟩ rfl rfl (by decide +kernel) ⟨Nat.le_of_ble_eq_true rfl, Nat.le_of_ble_eq_true rfl⟩ hP hD hS hA hE [13, 14, 15] rfl (by decide) 0 rfl rfl rfl hl.1 rfl (Nat.le_of_ble_eq_true rfl) dX2_agreeing_17 ⟨Nat.le_of_ble_eq_true rfl, Nat.le_of_ble_eq_true rfl⟩) hP hD hS hA [13, 14, 15] [0, 1, 2, 3, 4, 5, 6, 7, 8, 9, 10, 11, 12] [0, 1, 2, 3, 4, 5, 6, 7, 8, 9, 10, 11, 12, 13, 14, 15] rfl rfl (by decide) (by decide) rfl (by decide) (fun H locs hP hD hS => ?_)
        refine lv_iconst (v := (0 : Int32)) hx hb dX2_agreeing_20 (by decide) ?_
        refine lv_istore (lv' := [(6, .int (0 : Int32)), (0, .ref (fa 0)), (1, .ref (ca 0)), (2, .ref (ua i2)), (3, .ref (sa 0)), (4, .int v4), (5, .int v5)]) hx hb dX2_agreeing_21 hl (by decide) rfl (fun ls hl => ?_)
        exact B_23 (f_X2_agreeing_b6 fm cb ru n) ih 4096 (kb_ph [(ca 0)]) _ _ _ _ _ _ _ _ hi2 hf hP hD hS (lv_sub hl [1, 2, 3, 4, 5, 6, 0] rfl)
  have E0 : ∀ (H : Heap) (locs : List Loc), va_P D vwCl (w_Films dA fa fm ++ (w_Cab dA ca cb ++ (w_Rules dA ua ru ++ (w_Scene dA sa (ph 0) sn)))) H → va_D A (w_Films dA fa fm ++ (w_Cab dA ca cb ++ (w_Rules dA ua ru ++ (w_Scene dA sa (ph 0) sn)))) → va_S A s.heap H locs → W p l e ({ frames := 3, cells := 0, slots := 0, locals := 81 } : Room) s m ([.ref (fa 0), .ref (ca 0), .ref (ua ix1), .ref (sa 0)] : List Value).toArray below meth c H locs 0 0 Q (F0 m 0 ls []) := by
    intro H locs hP hD hS
    rw [f_X2_agreeing] at hf
    refine lv_iconst (v := (0 : Int32)) hx hb dX2_agreeing_0 (by decide) ?_
    refine lv_istore (lv' := [(4, .int (0 : Int32)), (0, .ref (fa 0)), (1, .ref (ca 0)), (2, .ref (ua ix1)), (3, .ref (sa 0))]) hx hb dX2_agreeing_1 hl (by decide) rfl (fun ls hl => ?_)
    refine lv_iconst (v := (0 : Int32)) hx hb dX2_agreeing_3 (by decide) ?_
    refine lv_istore (lv' := [(5, .int (0 : Int32)), (4, .int (0 : Int32)), (0, .ref (fa 0)), (1, .ref (ca 0)), (2, .ref (ua ix1)), (3, .ref (sa 0))]) hx hb dX2_agreeing_4 hl (by decide) rfl (fun ls hl => ?_)
    exact B_6 4096 (kb_ph [(ph 0)]) _ _ _ _ _ _ _ hix1 hf hP hD hS (lv_sub hl [2, 3, 4, 5, 1, 0] rfl)
  exact E0 _ _ hP hD hS

noncomputable def f_X1_howMany_b4 : Nat → Int32 → Int32 → Int32 → Option (Int32)
  | 0, _, _, _ => none
  | n + 1, v0, v1, v2 => (if v0 < v2 then some (v1) else f_X1_howMany_b4 n v0 (v1 * v2) (v2 + (1 : Int32)))
noncomputable def f_X1_howMany (x0 : Int32) : Option (Int32) := f_X1_howMany_b4 4096 x0 (1 : Int32) (2 : Int32)
set_option maxHeartbeats 4000000 in
set_option maxRecDepth 100000 in
theorem c_X1_howMany (l : Launch) (D : va_G) (dA : Nat → ClassId) (sz : Nat) (x0 : Int32) (rv : Int32) (hf : f_X1_howMany x0 = some (rv)) : kb_Mi l yX1_howMany cX1_howMany 3 (some .int) ({ frames := 0, cells := 0, slots := 0, locals := 0 } : Room) D dA [.int x0] sz ([] : va_W) 0 0 rv ([] : va_W) := by
  refine Met.ofW (cc := cX1_howMany) (maxL := 3) (ret := (some .int)) (by decide) rfl ?_
  intro p e s m args below meth c s₁ B hml hv
  obtain ⟨rfl, hsz, hP, hK, hD0, hE⟩ := hv
  have hx := B.exec
  have hb := B.bytes
  have hr := B.returns
  have hown : s.vm.findClass RX1 = some m.cls := findClass_of_methodNamed B.named
  have hlocks := B.notSynchronized
  have hts : ∀ w ∈ kb_gw, w.before ([.int x0] : List Value).toArray s = true := fun w hw => hK.2.1 w hw _
  subst hsz
  have hD := hD0.self (sz := s.heap.size)
  generalize hAe : va_A ([] : va_W) s.heap.size = A at hD hE ⊢
  have hA : ∀ q : Nat, s.heap.size ≤ q → A q := fun q h => by rw [← hAe]; exact Or.inr h
  have hS : va_S A s.heap s.heap [] := va_S.rf
  have hl := lv_entry ([.int x0]) (n := 3) (Nat.le_of_ble_eq_true rfl)
  rw [lg_entry_eq]
  generalize (lg_sl ([.int x0]) ++ List.replicate (3 - (lg_sl ([.int x0])).length) Slot.unset).toArray = ls at hl ⊢
  have hl : lv_has ls 3 [(0, .int x0)] := hl
  generalize hQ : MQ below (va_Qi (fun r (_ : Unit) => r = rv) (kb_B D A ([] : va_W)) A) ([.int x0] : List Value).toArray s 0 0 A = Q
  show W p l e ({ frames := 0, cells := 0, slots := 0, locals := 0 } : Room) s m ([.int x0] : List Value).toArray below meth c s.heap [] 0 0 Q (F0 m 0 ls [])
  have RET : ∀ (r2 : Int32) (H : Heap) (locs : List Loc) (ls : Array Slot) (pc : Nat), some (r2) = some (rv) → va_P D vwCl ([] : va_W) H → va_D A ([] : va_W) → va_S A s.heap H locs → decode cX1_howMany pc = .ok (.ireturn, 1) → W p l e ({ frames := 0, cells := 0, slots := 0, locals := 0 } : Room) s m ([.int x0] : List Value).toArray below meth c H locs 0 0 Q (F0 m pc ls [.int r2]) := by
    intro r2 H locs ls pc hq hP hD hS hd
    cases hq
    rw [← hQ]
    exact W.iret hx hb hr (fun t ht hW => ⟨⟨_, (), rfl, rfl, by rw [ht]; exact hP, hD⟩, hS.F ht⟩) hS.2.2 hd
  have B_4 : ∀ (n : Nat) (v0 : Int32) (v1 : Int32) (v2 : Int32) (H : Heap) (locs : List Loc) (ls : Array Slot), f_X1_howMany_b4 n v0 v1 v2 = some (rv) → va_P D vwCl ([] : va_W) H → va_D A ([] : va_W) → va_S A s.heap H locs → lv_has ls 3 [(0, .int v0), (1, .int v1), (2, .int v2)] → W p l e ({ frames := 0, cells := 0, slots := 0, locals := 0 } : Room) s m ([.int x0] : List Value).toArray below meth c H locs 0 0 Q (F0 m 4 ls []) := by
    intro n
    induction n with
    | zero =>
      intro v0 v1 v2 H locs ls hf
      exact absurd hf (by simp [f_X1_howMany_b4])
    | succ n ih =>
      intro v0 v1 v2 H locs ls hf hP hD hS hl
      rw [f_X1_howMany_b4] at hf
      refine lv_iload_n hx hb dX1_howMany_4 rfl (lv_at hl 2 rfl) ?_
      refine lv_iload_n hx hb dX1_howMany_5 rfl (lv_at hl 0 rfl) ?_
      refine lv_icmp_gt (tgt := 19) hx hb dX1_howMany_6 (by decide) (fun c_1 => ?_) (fun c_1 => ?_)
      · rw [if_pos c_1] at hf
        refine lv_iload_n hx hb dX1_howMany_19 rfl (lv_at hl 1 rfl) ?_
        exact RET _ H _ ls 20 hf hP hD hS dX1_howMany_20
      · rw [if_neg c_1] at hf
        refine lv_iload_n hx hb dX1_howMany_9 rfl (lv_at hl 1 rfl) ?_
        refine lv_iload_n hx hb dX1_howMany_10 rfl (lv_at hl 2 rfl) ?_
        refine lv_imul hx hb dX1_howMany_11 ?_
        refine lv_istore_n (lv' := [(1, .int (v1 * v2)), (0, .int v0), (2, .int v2)]) hx hb dX1_howMany_12 rfl hl (by decide) rfl (fun ls hl => ?_)
        refine lv_iinc (v := (v2 + (1 : Int32))) (lv' := [(2, .int (v2 + (1 : Int32))), (1, .int (v1 * v2)), (0, .int v0)]) hx hb dX1_howMany_13 hl (k := 2) rfl (by rfl) (by decide) rfl (fun ls hl => ?_)
        refine lv_goto (tgt := 4) hx hb dX1_howMany_16 (by decide) ?_
        exact ih _ _ _ _ _ _ hf hP hD hS (lv_sub hl [2, 1, 0] rfl)
  have E0 : ∀ (H : Heap) (locs : List Loc), va_P D vwCl ([] : va_W) H → va_D A ([] : va_W) → va_S A s.heap H locs → W p l e ({ frames := 0, cells := 0, slots := 0, locals := 0 } : Room) s m ([.int x0] : List Value).toArray below meth c H locs 0 0 Q (F0 m 0 ls []) := by
    intro H locs hP hD hS
    rw [f_X1_howMany] at hf
    refine lv_iconst (v := (1 : Int32)) hx hb dX1_howMany_0 (by decide) ?_
    refine lv_istore_n (lv' := [(1, .int (1 : Int32)), (0, .int x0)]) hx hb dX1_howMany_1 rfl hl (by decide) rfl (fun ls hl => ?_)
    refine lv_iconst (v := (2 : Int32)) hx hb dX1_howMany_2 (by decide) ?_
    refine lv_istore_n (lv' := [(2, .int (2 : Int32)), (1, .int (1 : Int32)), (0, .int x0)]) hx hb dX1_howMany_3 rfl hl (by decide) rfl (fun ls hl => ?_)
    exact B_4 4096 _ _ _ _ _ _ hf hP hD hS (lv_sub hl [2, 1, 0] rfl)
  exact E0 _ _ hP hD hS

noncomputable def f_X1_swap_b26 (z0 : DealsT) : Option (DealsT) := some (z0)
noncomputable def f_X1_swap_b19 (v2 : Int32) (v3 : Int32) (z0 : DealsT) : Option (DealsT) := if kb_in? v2 6 then f_X1_swap_b26 (de_set_hand z0 (upd (de_hand z0) (v2).toNatClampNeg v3)) else none
noncomputable def f_X1_swap (de : DealsT) (x0 : Int32) (x1 : Int32) : Option (DealsT) := if kb_in? x0 6 then if kb_in? x1 6 then if kb_in? x0 6 then f_X1_swap_b19 x1 ((de_hand de) (x0).toNatClampNeg) (de_set_hand de (upd (de_hand de) (x0).toNatClampNeg ((de_hand de) (x1).toNatClampNeg))) else none else none else none
set_option maxHeartbeats 4000000 in
set_option maxRecDepth 100000 in
theorem c_X1_swap (l : Launch) (D : va_G) (dA : Nat → ClassId) (sz : Nat) (da : Nat → Nat) (h2 : Nat) (de : DealsT) (x0 : Int32) (x1 : Int32) (u0 : DealsT) (hf : f_X1_swap de x0 x1 = some (u0)) : kb_Mv l yX1_swap cX1_swap 4 none ({ frames := 0, cells := 0, slots := 0, locals := 0 } : Room) D dA [.ref (da 0), .int x0, .int x1] sz (w_Deals dA da h2 de) 0 0 (w_Deals dA da h2 u0) := by
  refine Met.ofW (cc := cX1_swap) (maxL := 4) (ret := none) (by decide) rfl ?_
  intro p e s m args below meth c s₁ B hml hv
  obtain ⟨rfl, hsz, hP, hK, hD0, hE⟩ := hv
  have hx := B.exec
  have hb := B.bytes
  have hr := B.returns
  have hown : s.vm.findClass RX1 = some m.cls := findClass_of_methodNamed B.named
  have hlocks := B.notSynchronized
  have hts : ∀ w ∈ kb_gw, w.before ([.ref (da 0), .int x0, .int x1] : List Value).toArray s = true := fun w hw => hK.2.1 w hw _
  subst hsz
  have hD := hD0.self (sz := s.heap.size)
  generalize hAe : va_A (w_Deals dA da h2 de) s.heap.size = A at hD hE ⊢
  have hA : ∀ q : Nat, s.heap.size ≤ q → A q := fun q h => by rw [← hAe]; exact Or.inr h
  have hS : va_S A s.heap s.heap [] := va_S.rf
  have hl := lv_entry ([.ref (da 0), .int x0, .int x1]) (n := 4) (Nat.le_of_ble_eq_true rfl)
  rw [lg_entry_eq]
  generalize (lg_sl ([.ref (da 0), .int x0, .int x1]) ++ List.replicate (4 - (lg_sl ([.ref (da 0), .int x0, .int x1])).length) Slot.unset).toArray = ls at hl ⊢
  have hl : lv_has ls 4 [(0, .ref (da 0)), (1, .int x0), (2, .int x1)] := hl
  generalize hQ : MQ below (va_Qv (fun (_ : Unit) => True) (kb_B D A (w_Deals dA da h2 u0)) A) ([.ref (da 0), .int x0, .int x1] : List Value).toArray s 0 0 A = Q
  show W p l e ({ frames := 0, cells := 0, slots := 0, locals := 0 } : Room) s m ([.ref (da 0), .int x0, .int x1] : List Value).toArray below meth c s.heap [] 0 0 Q (F0 m 0 ls [])
  have RET : ∀ (w0 : DealsT) (H : Heap) (locs : List Loc) (ls : Array Slot) (pc : Nat), some (w0) = some (u0) → va_P D vwCl (w_Deals dA da h2 w0) H → va_D A (w_Deals dA da h2 w0) → va_S A s.heap H locs → decode cX1_swap pc = .ok (.return_, 1) → W p l e ({ frames := 0, cells := 0, slots := 0, locals := 0 } : Room) s m ([.ref (da 0), .int x0, .int x1] : List Value).toArray below meth c H locs 0 0 Q (F0 m pc ls []) := by
    intro w0 H locs ls pc hq hP hD hS hd
    cases hq
    rw [← hQ]
    exact W.vret hx hb hr (fun t ht hW => ⟨⟨(), rfl, trivial, by rw [ht]; exact hP, hD⟩, hS.F ht⟩) hS.2.2 hd
  have B_26 : ∀ (z0 : DealsT) (H : Heap) (locs : List Loc) (ls : Array Slot), f_X1_swap_b26 z0 = some (u0) → va_P D vwCl (w_Deals dA da h2 z0) H → va_D A (w_Deals dA da h2 z0) → va_S A s.heap H locs → lv_has ls 4 [] → W p l e ({ frames := 0, cells := 0, slots := 0, locals := 0 } : Room) s m ([.ref (da 0), .int x0, .int x1] : List Value).toArray below meth c H locs 0 0 Q (F0 m 26 ls []) := by
    intro z0 H locs ls hf hP hD hS hl
    rw [f_X1_swap_b26] at hf
    exact RET _ H _ ls 26 hf hP hD hS dX1_swap_26
  have B_19 : ∀ (v2 : Int32) (v3 : Int32) (z0 : DealsT) (H : Heap) (locs : List Loc) (ls : Array Slot), f_X1_swap_b19 v2 v3 z0 = some (u0) → va_P D vwCl (w_Deals dA da h2 z0) H → va_D A (w_Deals dA da h2 z0) → va_S A s.heap H locs → lv_has ls 4 [(0, .ref (da 0)), (2, .int v2), (3, .int v3)] → W p l e ({ frames := 0, cells := 0, slots := 0, locals := 0 } : Room) s m ([.ref (da 0), .int x0, .int x1] : List Value).toArray below meth c H locs 0 0 Q (F0 m 19 ls []) := by
    intro v2 v3 z0 H locs ls hf hP hD hS hl
    rw [f_X1_swap_b19] at hf
    refine lv_aload_n hx hb dX1_swap_19 rfl (lv_at hl 0 rfl) ?_
    refine va_get (D := D) (ci := 1) (v := .ref (da 3)) (C := RX1) (T := TX1) (N := 5) hx hb hts kb_inX1 hown hK.1 hP 0 rfl rfl 3 (by decide) (hK.2.w ww_2_139 rfl _) (fun _ h9 => h9) rfl dX1_swap_20 ?_
    refine lv_iload_n hx hb dX1_swap_23 rfl (lv_at hl 1 rfl) ?_
    refine lv_iload_n hx hb dX1_swap_24 rfl (lv_at hl 2 rfl) ?_
    obtain ⟨h_4, hf⟩ := kb_if hf
    refine va_iast (D := D) hx hb hK.1 hP hD hS 3 0 rfl rfl h_4 dX1_swap_25 (fun H locs hP hD hS => ?_)
    have hP : va_P D vwCl (w_Deals dA da h2 (de_set_hand z0 (upd (de_hand z0) (v2).toNatClampNeg v3))) H := hP
    have hD : va_D A (w_Deals dA da h2 (de_set_hand z0 (upd (de_hand z0) (v2).toNatClampNeg v3))) := hD
    exact B_26 _ _ _ _ hf hP hD hS (lv_sub hl [] rfl)
  have E0 : ∀ (H : Heap) (locs : List Loc), va_P D vwCl (w_Deals dA da h2 de) H → va_D A (w_Deals dA da h2 de) → va_S A s.heap H locs → W p l e ({ frames := 0, cells := 0, slots := 0, locals := 0 } : Room) s m ([.ref (da 0), .int x0, .int x1] : List Value).toArray below meth c H locs 0 0 Q (F0 m 0 ls []) := by
    intro H locs hP hD hS
    rw [f_X1_swap] at hf
    refine lv_aload_n hx hb dX1_swap_0 rfl (lv_at hl 0 rfl) ?_
    refine va_get (D := D) (ci := 1) (v := .ref (da 3)) (C := RX1) (T := TX1) (N := 5) hx hb hts kb_inX1 hown hK.1 hP 0 rfl rfl 3 (by decide) (hK.2.w ww_2_139 rfl _) (fun _ h9 => h9) rfl dX1_swap_1 ?_
    refine lv_iload_n hx hb dX1_swap_4 rfl (lv_at hl 1 rfl) ?_
    obtain ⟨h_1, hf⟩ := kb_if hf
    refine va_iald (D := D) hx hb hK.1 hP 3 0 rfl rfl h_1 dX1_swap_5 ?_
    refine lv_istore_n (lv' := [(3, .int ((de_hand de) (x0).toNatClampNeg)), (0, .ref (da 0)), (1, .int x0), (2, .int x1)]) hx hb dX1_swap_6 rfl hl (by decide) rfl (fun ls hl => ?_)
    refine lv_aload_n hx hb dX1_swap_7 rfl (lv_at hl 1 rfl) ?_
    refine va_get (D := D) (ci := 1) (v := .ref (da 3)) (C := RX1) (T := TX1) (N := 5) hx hb hts kb_inX1 hown hK.1 hP 0 rfl rfl 3 (by decide) (hK.2.w ww_2_139 rfl _) (fun _ h9 => h9) rfl dX1_swap_8 ?_
    refine lv_iload_n hx hb dX1_swap_11 rfl (lv_at hl 2 rfl) ?_
    refine lv_aload_n hx hb dX1_swap_12 rfl (lv_at hl 1 rfl) ?_
    refine va_get (D := D) (ci := 1) (v := .ref (da 3)) (C := RX1) (T := TX1) (N := 5) hx hb hts kb_inX1 hown hK.1 hP 0 rfl rfl 3 (by decide) (hK.2.w ww_2_139 rfl _) (fun _ h9 => h9) rfl dX1_swap_13 ?_
    refine lv_iload_n hx hb dX1_swap_16 rfl (lv_at hl 3 rfl) ?_
    obtain ⟨h_2, hf⟩ := kb_if hf
    refine va_iald (D := D) hx hb hK.1 hP 3 0 rfl rfl h_2 dX1_swap_17 ?_
    obtain ⟨h_3, hf⟩ := kb_if hf
    refine va_iast (D := D) hx hb hK.1 hP hD hS 3 0 rfl rfl h_3 dX1_swap_18 (fun H locs hP hD hS => ?_)
    have hP : va_P D vwCl (w_Deals dA da h2 (de_set_hand de (upd (de_hand de) (x0).toNatClampNeg ((de_hand de) (x1).toNatClampNeg)))) H := hP
    have hD : va_D A (w_Deals dA da h2 (de_set_hand de (upd (de_hand de) (x0).toNatClampNeg ((de_hand de) (x1).toNatClampNeg)))) := hD
    exact B_19 _ _ _ _ _ _ hf hP hD hS (lv_sub hl [1, 3, 0] rfl)
  exact E0 _ _ hP hD hS

noncomputable def f_X1_dealNext_b82 : Nat → Int32 → Int32 → DealsT → Option (DealsT)
  | 0, _, _, _ => none
  | n + 1, v4, v5, z0 => (if v5 ≤ v4 then some (z0) else (f_X1_swap z0 v4 v5).bind fun r6 => f_X1_dealNext_b82 n (v4 + (1 : Int32)) (v5 + (-1 : Int32)) r6)
noncomputable def f_X1_dealNext_b66 (v1 : Int32) (v2 : Int32) (v3 : Int32) (z0 : DealsT) : Option (DealsT) := (f_X1_swap z0 v2 v3).bind fun r4 => f_X1_dealNext_b82 4096 (v2 + (1 : Int32)) (v1 - (1 : Int32)) r4
noncomputable def f_X1_dealNext_b40 : Nat → Int32 → Int32 → Int32 → DealsT → Option (DealsT)
  | 0, _, _, _, _ => none
  | n + 1, v1, v2, v3, z0 => (if v3 ≤ v2 then f_X1_dealNext_b66 v1 v2 v3 z0 else if kb_in? v3 6 then if kb_in? v2 6 then (if ((de_hand z0) (v2).toNatClampNeg) ≤ ((de_hand z0) (v3).toNatClampNeg) then f_X1_dealNext_b66 v1 v2 v3 z0 else f_X1_dealNext_b40 n v1 v2 (v3 + (-1 : Int32)) z0) else none else none)
noncomputable def f_X1_dealNext_b31 (v1 : Int32) (v2 : Int32) (z0 : DealsT) : Option (DealsT) := (if 0 ≤ v2 then f_X1_dealNext_b40 4096 v1 v2 (v1 - (1 : Int32)) z0 else some (z0))
noncomputable def f_X1_dealNext_b4 : Nat → Int32 → Int32 → DealsT → Option (DealsT)
  | 0, _, _, _ => none
  | n + 1, v1, v2, z0 => (if v2 < 0 then f_X1_dealNext_b31 v1 v2 z0 else if kb_in? v2 6 then if kb_in? (v2 + (1 : Int32)) 6 then (if ((de_hand z0) (v2).toNatClampNeg) ≤ ((de_hand z0) ((v2 + (1 : Int32))).toNatClampNeg) then f_X1_dealNext_b31 v1 v2 z0 else f_X1_dealNext_b4 n v1 (v2 + (-1 : Int32)) z0) else none else none)
noncomputable def f_X1_dealNext (de : DealsT) (x0 : Int32) : Option (DealsT) := f_X1_dealNext_b4 4096 x0 (x0 - (2 : Int32)) de
set_option maxHeartbeats 4000000 in
set_option maxRecDepth 100000 in
theorem c_X1_dealNext (l : Launch) (D : va_G) (dA : Nat → ClassId) (sz : Nat) (da : Nat → Nat) (h2 : Nat) (de : DealsT) (x0 : Int32) (u0 : DealsT) (hf : f_X1_dealNext de x0 = some (u0)) : kb_Mv l yX1_dealNext cX1_dealNext 6 none ({ frames := 1, cells := 0, slots := 0, locals := 23 } : Room) D dA [.ref (da 0), .int x0] sz (w_Deals dA da h2 de) 0 0 (w_Deals dA da h2 u0) := by
  refine Met.ofW (cc := cX1_dealNext) (maxL := 6) (ret := none) (by decide) rfl ?_
  intro p e s m args below meth c s₁ B hml hv
  obtain ⟨rfl, hsz, hP, hK, hD0, hE⟩ := hv
  have hx := B.exec
  have hb := B.bytes
  have hr := B.returns
  have hown : s.vm.findClass RX1 = some m.cls := findClass_of_methodNamed B.named
  have hlocks := B.notSynchronized
  have hts : ∀ w ∈ kb_gw, w.before ([.ref (da 0), .int x0] : List Value).toArray s = true := fun w hw => hK.2.1 w hw _
  subst hsz
  have hD := hD0.self (sz := s.heap.size)
  generalize hAe : va_A (w_Deals dA da h2 de) s.heap.size = A at hD hE ⊢
  have hA : ∀ q : Nat, s.heap.size ≤ q → A q := fun q h => by rw [← hAe]; exact Or.inr h
  have hS : va_S A s.heap s.heap [] := va_S.rf
  have hl := lv_entry ([.ref (da 0), .int x0]) (n := 6) (Nat.le_of_ble_eq_true rfl)
  rw [lg_entry_eq]
  generalize (lg_sl ([.ref (da 0), .int x0]) ++ List.replicate (6 - (lg_sl ([.ref (da 0), .int x0])).length) Slot.unset).toArray = ls at hl ⊢
  have hl : lv_has ls 6 [(0, .ref (da 0)), (1, .int x0)] := hl
  generalize hQ : MQ below (va_Qv (fun (_ : Unit) => True) (kb_B D A (w_Deals dA da h2 u0)) A) ([.ref (da 0), .int x0] : List Value).toArray s 0 0 A = Q
  show W p l e ({ frames := 1, cells := 0, slots := 0, locals := 23 } : Room) s m ([.ref (da 0), .int x0] : List Value).toArray below meth c s.heap [] 0 0 Q (F0 m 0 ls [])
  have RET : ∀ (w0 : DealsT) (H : Heap) (locs : List Loc) (ls : Array Slot) (pc : Nat), some (w0) = some (u0) → va_P D vwCl (w_Deals dA da h2 w0) H → va_D A (w_Deals dA da h2 w0) → va_S A s.heap H locs → decode cX1_dealNext pc = .ok (.return_, 1) → W p l e ({ frames := 1, cells := 0, slots := 0, locals := 23 } : Room) s m ([.ref (da 0), .int x0] : List Value).toArray below meth c H locs 0 0 Q (F0 m pc ls []) := by
    intro w0 H locs ls pc hq hP hD hS hd
    cases hq
    rw [← hQ]
    exact W.vret hx hb hr (fun t ht hW => ⟨⟨(), rfl, trivial, by rw [ht]; exact hP, hD⟩, hS.F ht⟩) hS.2.2 hd
  have B_82 : ∀ (n : Nat) (v4 : Int32) (v5 : Int32) (z0 : DealsT) (H : Heap) (locs : List Loc) (ls : Array Slot), f_X1_dealNext_b82 n v4 v5 z0 = some (u0) → va_P D vwCl (w_Deals dA da h2 z0) H → va_D A (w_Deals dA da h2 z0) → va_S A s.heap H locs → lv_has ls 6 [(0, .ref (da 0)), (4, .int v4), (5, .int v5)] → W p l e ({ frames := 1, cells := 0, slots := 0, locals := 23 } : Room) s m ([.ref (da 0), .int x0] : List Value).toArray below meth c H locs 0 0 Q (F0 m 82 ls []) := by
    intro n
    induction n with
    | zero =>
      intro v4 v5 z0 H locs ls hf
      exact absurd hf (by simp [f_X1_dealNext_b82])
    | succ n ih =>
      intro v4 v5 z0 H locs ls hf hP hD hS hl
      rw [f_X1_dealNext_b82] at hf
      refine lv_iload hx hb dX1_dealNext_82 (lv_at hl 1 rfl) ?_
      refine lv_iload hx hb dX1_dealNext_84 (lv_at hl 2 rfl) ?_
      refine lv_icmp_ge (tgt := 106) hx hb dX1_dealNext_86 (by decide) (fun c_5 => ?_) (fun c_5 => ?_)
      · rw [if_pos c_5] at hf
        exact RET _ H _ ls 106 hf hP hD hS dX1_dealNext_106
      · rw [if_neg c_5] at hf
        refine lv_aload_n hx hb dX1_dealNext_89 rfl (lv_at hl 0 rfl) ?_
        refine lv_iload hx hb dX1_dealNext_90 (lv_at hl 1 rfl) ?_
        refine lv_iload hx hb dX1_dealNext_92 (lv_at hl 2 rfl) ?_
        obtain ⟨r6, hc6, hf⟩ := kb_bind hf
        refine kb_cv (ws2 := (w_Deals dA da h2 r6)) (kb_rV (n := 2) (As := [.int v4, .int v5]) (rest := []) hx hb hml hown hK (c_X1_swap l D dA H.size da h2 z0 v4 v5 r6 hc6) ⟨ww_5_42, ww_5_39, ww_5_41, ws_43, ww_1_11, rfl, by decide, by decide⟩ rfl rfl (by decide +kernel) ⟨Nat.le_of_ble_eq_true rfl, Nat.le_of_ble_eq_true rfl⟩ hP hD hS hA hE [0, 1, 2, 3] rfl (by decide) 0 rfl rfl rfl hl.1 rfl (Nat.le_of_ble_eq_true rfl) dX1_dealNext_94 ⟨Nat.le_of_ble_eq_true rfl, Nat.le_of_ble_eq_true rfl⟩) hP hD hS hA [0, 1, 2, 3] [] [0, 1, 2, 3] rfl rfl (by decide) (by decide) rfl (by decide) (fun H locs hP hD hS => ?_)
        refine lv_iinc (v := (v4 + (1 : Int32))) (lv' := [(4, .int (v4 + (1 : Int32))), (0, .ref (da 0)), (5, .int v5)]) hx hb dX1_dealNext_97 hl (k := 1) rfl (by rfl) (by decide) rfl (fun ls hl => ?_)
        refine lv_iinc (v := (v5 + (-1 : Int32))) (lv' := [(5, .int (v5 + (-1 : Int32))), (4, .int (v4 + (1 : Int32))), (0, .ref (da 0))]) hx hb dX1_dealNext_100 hl (k := 2) rfl (by rfl) (by decide) rfl (fun ls hl => ?_)
        refine lv_goto (tgt := 82) hx hb dX1_dealNext_103 (by decide) ?_
        exact ih _ _ _ _ _ _ hf hP hD hS (lv_sub hl [2, 1, 0] rfl)
  have B_66 : ∀ (v1 : Int32) (v2 : Int32) (v3 : Int32) (z0 : DealsT) (H : Heap) (locs : List Loc) (ls : Array Slot), f_X1_dealNext_b66 v1 v2 v3 z0 = some (u0) → va_P D vwCl (w_Deals dA da h2 z0) H → va_D A (w_Deals dA da h2 z0) → va_S A s.heap H locs → lv_has ls 6 [(0, .ref (da 0)), (1, .int v1), (2, .int v2), (3, .int v3)] → W p l e ({ frames := 1, cells := 0, slots := 0, locals := 23 } : Room) s m ([.ref (da 0), .int x0] : List Value).toArray below meth c H locs 0 0 Q (F0 m 66 ls []) := by
    intro v1 v2 v3 z0 H locs ls hf hP hD hS hl
    rw [f_X1_dealNext_b66] at hf
    refine lv_aload_n hx hb dX1_dealNext_66 rfl (lv_at hl 0 rfl) ?_
    refine lv_iload_n hx hb dX1_dealNext_67 rfl (lv_at hl 2 rfl) ?_
    refine lv_iload_n hx hb dX1_dealNext_68 rfl (lv_at hl 3 rfl) ?_
    obtain ⟨r4, hc4, hf⟩ := kb_bind hf
    refine kb_cv (ws2 := (w_Deals dA da h2 r4)) (kb_rV (n := 2) (As := [.int v2, .int v3]) (rest := []) hx hb hml hown hK (c_X1_swap l D dA H.size da h2 z0 v2 v3 r4 hc4) ⟨ww_5_42, ww_5_39, ww_5_41, ws_43, ww_1_11, rfl, by decide, by decide⟩ rfl rfl (by decide +kernel) ⟨Nat.le_of_ble_eq_true rfl, Nat.le_of_ble_eq_true rfl⟩ hP hD hS hA hE [0, 1, 2, 3] rfl (by decide) 0 rfl rfl rfl hl.1 rfl (Nat.le_of_ble_eq_true rfl) dX1_dealNext_69 ⟨Nat.le_of_ble_eq_true rfl, Nat.le_of_ble_eq_true rfl⟩) hP hD hS hA [0, 1, 2, 3] [] [0, 1, 2, 3] rfl rfl (by decide) (by decide) rfl (by decide) (fun H locs hP hD hS => ?_)
    refine lv_iload_n hx hb dX1_dealNext_72 rfl (lv_at hl 2 rfl) ?_
    refine lv_iconst (v := (1 : Int32)) hx hb dX1_dealNext_73 (by decide) ?_
    refine lv_iadd hx hb dX1_dealNext_74 ?_
    refine lv_istore (lv' := [(4, .int (v2 + (1 : Int32))), (0, .ref (da 0)), (1, .int v1), (2, .int v2), (3, .int v3)]) hx hb dX1_dealNext_75 hl (by decide) rfl (fun ls hl => ?_)
    refine lv_iload_n hx hb dX1_dealNext_77 rfl (lv_at hl 2 rfl) ?_
    refine lv_iconst (v := (1 : Int32)) hx hb dX1_dealNext_78 (by decide) ?_
    refine lv_isub hx hb dX1_dealNext_79 ?_
    refine lv_istore (lv' := [(5, .int (v1 - (1 : Int32))), (4, .int (v2 + (1 : Int32))), (0, .ref (da 0)), (1, .int v1), (2, .int v2), (3, .int v3)]) hx hb dX1_dealNext_80 hl (by decide) rfl (fun ls hl => ?_)
    exact B_82 4096 _ _ _ _ _ _ hf hP hD hS (lv_sub hl [2, 1, 0] rfl)
  have B_40 : ∀ (n : Nat) (v1 : Int32) (v2 : Int32) (v3 : Int32) (z0 : DealsT) (H : Heap) (locs : List Loc) (ls : Array Slot), f_X1_dealNext_b40 n v1 v2 v3 z0 = some (u0) → va_P D vwCl (w_Deals dA da h2 z0) H → va_D A (w_Deals dA da h2 z0) → va_S A s.heap H locs → lv_has ls 6 [(0, .ref (da 0)), (1, .int v1), (2, .int v2), (3, .int v3)] → W p l e ({ frames := 1, cells := 0, slots := 0, locals := 23 } : Room) s m ([.ref (da 0), .int x0] : List Value).toArray below meth c H locs 0 0 Q (F0 m 40 ls []) := by
    intro n
    induction n with
    | zero =>
      intro v1 v2 v3 z0 H locs ls hf
      exact absurd hf (by simp [f_X1_dealNext_b40])
    | succ n ih =>
      intro v1 v2 v3 z0 H locs ls hf hP hD hS hl
      rw [f_X1_dealNext_b40] at hf
      refine lv_iload_n hx hb dX1_dealNext_40 rfl (lv_at hl 3 rfl) ?_
      refine lv_iload_n hx hb dX1_dealNext_41 rfl (lv_at hl 2 rfl) ?_
      refine lv_icmp_le (tgt := 66) hx hb dX1_dealNext_42 (by decide) (fun c_3 => ?_) (fun c_3 => ?_)
      · rw [if_pos c_3] at hf
        exact B_66 _ _ _ _ _ _ _ hf hP hD hS (lv_sub hl [0, 1, 2, 3] rfl)
      · rw [if_neg c_3] at hf
        refine lv_aload_n hx hb dX1_dealNext_45 rfl (lv_at hl 0 rfl) ?_
        refine va_get (D := D) (ci := 1) (v := .ref (da 3)) (C := RX1) (T := TX1) (N := 5) hx hb hts kb_inX1 hown hK.1 hP 0 rfl rfl 3 (by decide) (hK.2.w ww_2_139 rfl _) (fun _ h9 => h9) rfl dX1_dealNext_46 ?_
        refine lv_iload_n hx hb dX1_dealNext_49 rfl (lv_at hl 3 rfl) ?_
        obtain ⟨h_7, hf⟩ := kb_if hf
        refine va_iald (D := D) hx hb hK.1 hP 3 0 rfl rfl h_7 dX1_dealNext_50 ?_
        refine lv_aload_n hx hb dX1_dealNext_51 rfl (lv_at hl 0 rfl) ?_
        refine va_get (D := D) (ci := 1) (v := .ref (da 3)) (C := RX1) (T := TX1) (N := 5) hx hb hts kb_inX1 hown hK.1 hP 0 rfl rfl 3 (by decide) (hK.2.w ww_2_139 rfl _) (fun _ h9 => h9) rfl dX1_dealNext_52 ?_
        refine lv_iload_n hx hb dX1_dealNext_55 rfl (lv_at hl 2 rfl) ?_
        obtain ⟨h_8, hf⟩ := kb_if hf
        refine va_iald (D := D) hx hb hK.1 hP 3 0 rfl rfl h_8 dX1_dealNext_56 ?_
        refine lv_icmp_ge (tgt := 66) hx hb dX1_dealNext_57 (by decide) (fun c_9 => ?_) (fun c_9 => ?_)
        · rw [if_pos c_9] at hf
          exact B_66 _ _ _ _ _ _ _ hf hP hD hS (lv_sub hl [0, 1, 2, 3] rfl)
        · rw [if_neg c_9] at hf
          refine lv_iinc (v := (v3 + (-1 : Int32))) (lv' := [(3, .int (v3 + (-1 : Int32))), (0, .ref (da 0)), (1, .int v1), (2, .int v2)]) hx hb dX1_dealNext_60 hl (k := 3) rfl (by rfl) (by decide) rfl (fun ls hl => ?_)
          refine lv_goto (tgt := 40) hx hb dX1_dealNext_63 (by decide) ?_
          exact ih _ _ _ _ _ _ _ hf hP hD hS (lv_sub hl [1, 2, 3, 0] rfl)
  have B_31 : ∀ (v1 : Int32) (v2 : Int32) (z0 : DealsT) (H : Heap) (locs : List Loc) (ls : Array Slot), f_X1_dealNext_b31 v1 v2 z0 = some (u0) → va_P D vwCl (w_Deals dA da h2 z0) H → va_D A (w_Deals dA da h2 z0) → va_S A s.heap H locs → lv_has ls 6 [(0, .ref (da 0)), (1, .int v1), (2, .int v2)] → W p l e ({ frames := 1, cells := 0, slots := 0, locals := 23 } : Room) s m ([.ref (da 0), .int x0] : List Value).toArray below meth c H locs 0 0 Q (F0 m 31 ls []) := by
    intro v1 v2 z0 H locs ls hf hP hD hS hl
    rw [f_X1_dealNext_b31] at hf
    refine lv_iload_n hx hb dX1_dealNext_31 rfl (lv_at hl 2 rfl) ?_
    refine lv_if_ge (tgt := 36) hx hb dX1_dealNext_32 (by decide) (fun c_2 => ?_) (fun c_2 => ?_)
    · rw [if_pos c_2] at hf
      refine lv_iload_n hx hb dX1_dealNext_36 rfl (lv_at hl 1 rfl) ?_
      refine lv_iconst (v := (1 : Int32)) hx hb dX1_dealNext_37 (by decide) ?_
      refine lv_isub hx hb dX1_dealNext_38 ?_
      refine lv_istore_n (lv' := [(3, .int (v1 - (1 : Int32))), (0, .ref (da 0)), (1, .int v1), (2, .int v2)]) hx hb dX1_dealNext_39 rfl hl (by decide) rfl (fun ls hl => ?_)
      exact B_40 4096 _ _ _ _ _ _ _ hf hP hD hS (lv_sub hl [1, 2, 3, 0] rfl)
    · rw [if_neg c_2] at hf
      exact RET _ H _ ls 35 hf hP hD hS dX1_dealNext_35
  have B_4 : ∀ (n : Nat) (v1 : Int32) (v2 : Int32) (z0 : DealsT) (H : Heap) (locs : List Loc) (ls : Array Slot), f_X1_dealNext_b4 n v1 v2 z0 = some (u0) → va_P D vwCl (w_Deals dA da h2 z0) H → va_D A (w_Deals dA da h2 z0) → va_S A s.heap H locs → lv_has ls 6 [(0, .ref (da 0)), (1, .int v1), (2, .int v2)] → W p l e ({ frames := 1, cells := 0, slots := 0, locals := 23 } : Room) s m ([.ref (da 0), .int x0] : List Value).toArray below meth c H locs 0 0 Q (F0 m 4 ls []) := by
    intro n
    induction n with
    | zero =>
      intro v1 v2 z0 H locs ls hf
      exact absurd hf (by simp [f_X1_dealNext_b4])
    | succ n ih =>
      intro v1 v2 z0 H locs ls hf hP hD hS hl
      rw [f_X1_dealNext_b4] at hf
      refine lv_iload_n hx hb dX1_dealNext_4 rfl (lv_at hl 2 rfl) ?_
      refine lv_if_lt (tgt := 31) hx hb dX1_dealNext_5 (by decide) (fun c_1 => ?_) (fun c_1 => ?_)
      · rw [if_pos c_1] at hf
        exact B_31 _ _ _ _ _ _ hf hP hD hS (lv_sub hl [0, 1, 2] rfl)
      · rw [if_neg c_1] at hf
        refine lv_aload_n hx hb dX1_dealNext_8 rfl (lv_at hl 0 rfl) ?_
        refine va_get (D := D) (ci := 1) (v := .ref (da 3)) (C := RX1) (T := TX1) (N := 5) hx hb hts kb_inX1 hown hK.1 hP 0 rfl rfl 3 (by decide) (hK.2.w ww_2_139 rfl _) (fun _ h9 => h9) rfl dX1_dealNext_9 ?_
        refine lv_iload_n hx hb dX1_dealNext_12 rfl (lv_at hl 2 rfl) ?_
        obtain ⟨h_10, hf⟩ := kb_if hf
        refine va_iald (D := D) hx hb hK.1 hP 3 0 rfl rfl h_10 dX1_dealNext_13 ?_
        refine lv_aload_n hx hb dX1_dealNext_14 rfl (lv_at hl 0 rfl) ?_
        refine va_get (D := D) (ci := 1) (v := .ref (da 3)) (C := RX1) (T := TX1) (N := 5) hx hb hts kb_inX1 hown hK.1 hP 0 rfl rfl 3 (by decide) (hK.2.w ww_2_139 rfl _) (fun _ h9 => h9) rfl dX1_dealNext_15 ?_
        refine lv_iload_n hx hb dX1_dealNext_18 rfl (lv_at hl 2 rfl) ?_
        refine lv_iconst (v := (1 : Int32)) hx hb dX1_dealNext_19 (by decide) ?_
        refine lv_iadd hx hb dX1_dealNext_20 ?_
        obtain ⟨h_11, hf⟩ := kb_if hf
        refine va_iald (D := D) hx hb hK.1 hP 3 0 rfl rfl h_11 dX1_dealNext_21 ?_
        refine lv_icmp_le (tgt := 31) hx hb dX1_dealNext_22 (by decide) (fun c_12 => ?_) (fun c_12 => ?_)
        · rw [if_pos c_12] at hf
          exact B_31 _ _ _ _ _ _ hf hP hD hS (lv_sub hl [0, 1, 2] rfl)
        · rw [if_neg c_12] at hf
          refine lv_iinc (v := (v2 + (-1 : Int32))) (lv' := [(2, .int (v2 + (-1 : Int32))), (0, .ref (da 0)), (1, .int v1)]) hx hb dX1_dealNext_25 hl (k := 2) rfl (by rfl) (by decide) rfl (fun ls hl => ?_)
          refine lv_goto (tgt := 4) hx hb dX1_dealNext_28 (by decide) ?_
          exact ih _ _ _ _ _ _ hf hP hD hS (lv_sub hl [1, 2, 0] rfl)
  have E0 : ∀ (H : Heap) (locs : List Loc), va_P D vwCl (w_Deals dA da h2 de) H → va_D A (w_Deals dA da h2 de) → va_S A s.heap H locs → W p l e ({ frames := 1, cells := 0, slots := 0, locals := 23 } : Room) s m ([.ref (da 0), .int x0] : List Value).toArray below meth c H locs 0 0 Q (F0 m 0 ls []) := by
    intro H locs hP hD hS
    rw [f_X1_dealNext] at hf
    refine lv_iload_n hx hb dX1_dealNext_0 rfl (lv_at hl 1 rfl) ?_
    refine lv_iconst (v := (2 : Int32)) hx hb dX1_dealNext_1 (by decide) ?_
    refine lv_isub hx hb dX1_dealNext_2 ?_
    refine lv_istore_n (lv' := [(2, .int (x0 - (2 : Int32))), (0, .ref (da 0)), (1, .int x0)]) hx hb dX1_dealNext_3 rfl hl (by decide) rfl (fun ls hl => ?_)
    exact B_4 4096 _ _ _ _ _ _ hf hP hD hS (lv_sub hl [1, 2, 0] rfl)
  exact E0 _ _ hP hD hS
