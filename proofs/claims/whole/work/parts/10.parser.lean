noncomputable def f_X4_append_b40 (k3 : Int32 → Int32 → ParserT → Option (ParserT)) (v1 : Int32) (v2 : Int32) (z0 : ParserT) : Option (ParserT) := k3 v1 (v2 + (-8 : Int32)) z0
noncomputable def f_X4_append_b3 : Nat → Int32 → Int32 → ParserT → Option (ParserT)
  | 0, _, _, _ => none
  | n + 1, v1, v2, z0 => (if v2 < 0 then some (z0) else (if (900 : Int32) ≤ (ps_length z0) then f_X4_append_b3 n v1 (v2 + (-8 : Int32)) z0 else if kb_in? (ps_length z0) 900 then f_X4_append_b40 (f_X4_append_b3 n) v1 v2 (ps_set_length (ps_set_text z0 (upd (ps_text z0) ((ps_length z0)).toNatClampNeg (vp_nar .byte (((v1.toUInt32 >>> (v2.toUInt32 &&& Int32.toUInt32 31)).toInt32)).toInt8.toInt32))) ((ps_length (ps_set_text z0 (upd (ps_text z0) ((ps_length z0)).toNatClampNeg (vp_nar .byte (((v1.toUInt32 >>> (v2.toUInt32 &&& Int32.toUInt32 31)).toInt32)).toInt8.toInt32)))) + (1 : Int32))) else none))
noncomputable def f_X4_append (ps : ParserT) (x0 : Int32) : Option (ParserT) := f_X4_append_b3 4096 x0 (24 : Int32) ps
set_option maxHeartbeats 4000000 in
set_option maxRecDepth 100000 in
theorem c_X4_append (l : Launch) (D : va_G) (dA : Nat → ClassId) (sz : Nat) (a : Nat → Nat) (ps : ParserT) (x0 : Int32) (u0 : ParserT) (hf : f_X4_append ps x0 = some (u0)) : kb_Mv l yX4_append cX4_append 3 none ({ frames := 0, cells := 0, slots := 0, locals := 0 } : Room) D dA [.ref (a 0), .int x0] sz (w_Parser dA a ps) 0 0 (w_Parser dA a u0) := by
  refine Met.ofW (cc := cX4_append) (maxL := 3) (ret := none) (by decide) rfl ?_
  intro p e s m args below meth c s₁ B hml hv
  obtain ⟨rfl, hsz, hP, hK, hD0, hE⟩ := hv
  have hx := B.exec
  have hb := B.bytes
  have hr := B.returns
  have hown : s.vm.findClass RX4 = some m.cls := findClass_of_methodNamed B.named
  have hlocks := B.notSynchronized
  have hts : ∀ w ∈ kb_gw, w.before ([.ref (a 0), .int x0] : List Value).toArray s = true := fun w hw => hK.2.1 w hw _
  subst hsz
  have hD := hD0.self (sz := s.heap.size)
  generalize hAe : va_A (w_Parser dA a ps) s.heap.size = A at hD hE ⊢
  have hA : ∀ q : Nat, s.heap.size ≤ q → A q := fun q h => by rw [← hAe]; exact Or.inr h
  have hS : va_S A s.heap s.heap [] := va_S.rf
  have hl := lv_entry ([.ref (a 0), .int x0]) (n := 3) (Nat.le_of_ble_eq_true rfl)
  rw [lg_entry_eq]
  generalize (lg_sl ([.ref (a 0), .int x0]) ++ List.replicate (3 - (lg_sl ([.ref (a 0), .int x0])).length) Slot.unset).toArray = ls at hl ⊢
  have hl : lv_has ls 3 [(0, .ref (a 0)), (1, .int x0)] := hl
  generalize hQ : MQ below (va_Qv (fun (_ : Unit) => True) (kb_B D A (w_Parser dA a u0)) A) ([.ref (a 0), .int x0] : List Value).toArray s 0 0 A = Q
  show W p l e ({ frames := 0, cells := 0, slots := 0, locals := 0 } : Room) s m ([.ref (a 0), .int x0] : List Value).toArray below meth c s.heap [] 0 0 Q (F0 m 0 ls [])
  have RET : ∀ (w0 : ParserT) (H : Heap) (locs : List Loc) (ls : Array Slot) (pc : Nat), some (w0) = some (u0) → va_P D vwCl (w_Parser dA a w0) H → va_D A (w_Parser dA a w0) → va_S A s.heap H locs → decode cX4_append pc = .ok (.return_, 1) → W p l e ({ frames := 0, cells := 0, slots := 0, locals := 0 } : Room) s m ([.ref (a 0), .int x0] : List Value).toArray below meth c H locs 0 0 Q (F0 m pc ls []) := by
    intro w0 H locs ls pc hq hP hD hS hd
    cases hq
    rw [← hQ]
    exact W.vret hx hb hr (fun t ht hW => ⟨⟨(), rfl, trivial, by rw [ht]; exact hP, hD⟩, hS.F ht⟩) hS.2.2 hd
  have B_40 : ∀ (k3 : Int32 → Int32 → ParserT → Option (ParserT)) (hk3 : ∀ (v1 : Int32) (v2 : Int32) (z0 : ParserT) (H : Heap) (locs : List Loc) (ls : Array Slot), k3 v1 v2 z0 = some (u0) → va_P D vwCl (w_Parser dA a z0) H → va_D A (w_Parser dA a z0) → va_S A s.heap H locs → lv_has ls 3 [(0, .ref (a 0)), (1, .int v1), (2, .int v2)] → W p l e ({ frames := 0, cells := 0, slots := 0, locals := 0 } : Room) s m ([.ref (a 0), .int x0] : List Value).toArray below meth c H locs 0 0 Q (F0 m 3 ls [])) (v1 : Int32) (v2 : Int32) (z0 : ParserT) (H : Heap) (locs : List Loc) (ls : Array Slot), f_X4_append_b40 k3 v1 v2 z0 = some (u0) → va_P D vwCl (w_Parser dA a z0) H → va_D A (w_Parser dA a z0) → va_S A s.heap H locs → lv_has ls 3 [(0, .ref (a 0)), (1, .int v1), (2, .int v2)] → W p l e ({ frames := 0, cells := 0, slots := 0, locals := 0 } : Room) s m ([.ref (a 0), .int x0] : List Value).toArray below meth c H locs 0 0 Q (F0 m 40 ls []) := by
    intro k3 hk3 v1 v2 z0 H locs ls hf hP hD hS hl
    rw [f_X4_append_b40] at hf
    refine lv_iinc (v := (v2 + (-8 : Int32))) (lv' := [(2, .int (v2 + (-8 : Int32))), (0, .ref (a 0)), (1, .int v1)]) hx hb dX4_append_40 hl (k := 2) rfl (by rfl) (by decide) rfl (fun ls hl => ?_)
    refine lv_goto (tgt := 3) hx hb dX4_append_43 (by decide) ?_
    exact hk3 _ _ _ _ _ _ hf hP hD hS (lv_sub hl [1, 2, 0] rfl)
  have B_3 : ∀ (n : Nat) (v1 : Int32) (v2 : Int32) (z0 : ParserT) (H : Heap) (locs : List Loc) (ls : Array Slot), f_X4_append_b3 n v1 v2 z0 = some (u0) → va_P D vwCl (w_Parser dA a z0) H → va_D A (w_Parser dA a z0) → va_S A s.heap H locs → lv_has ls 3 [(0, .ref (a 0)), (1, .int v1), (2, .int v2)] → W p l e ({ frames := 0, cells := 0, slots := 0, locals := 0 } : Room) s m ([.ref (a 0), .int x0] : List Value).toArray below meth c H locs 0 0 Q (F0 m 3 ls []) := by
    intro n
    induction n with
    | zero =>
      intro v1 v2 z0 H locs ls hf
      exact absurd hf (by simp [f_X4_append_b3])
    | succ n ih =>
      intro v1 v2 z0 H locs ls hf hP hD hS hl
      rw [f_X4_append_b3] at hf
      refine lv_iload_n hx hb dX4_append_3 rfl (lv_at hl 2 rfl) ?_
      refine lv_if_lt (tgt := 46) hx hb dX4_append_4 (by decide) (fun c_1 => ?_) (fun c_1 => ?_)
      · rw [if_pos c_1] at hf
        exact RET _ H _ ls 46 hf hP hD hS dX4_append_46
      · rw [if_neg c_1] at hf
        refine lv_aload_n hx hb dX4_append_7 rfl (lv_at hl 0 rfl) ?_
        refine va_get (D := D) (ci := 4) (v := .int (ps_length z0)) (C := RX4) (T := TX4) (N := 10) hx hb hts kb_inX4 hown hK.1 hP 0 rfl rfl 0 (by decide) (hK.2.w ww_1_40 rfl _) (fun _ h9 => h9) rfl dX4_append_8 ?_
        refine lv_sipush (v := (900 : Int32)) hx hb dX4_append_11 (by decide) ?_
        refine lv_icmp_ge (tgt := 40) hx hb dX4_append_14 (by decide) (fun c_2 => ?_) (fun c_2 => ?_)
        · rw [if_pos c_2] at hf
          refine lv_iinc (v := (v2 + (-8 : Int32))) (lv' := [(2, .int (v2 + (-8 : Int32))), (0, .ref (a 0)), (1, .int v1)]) hx hb dX4_append_40 hl (k := 2) rfl (by rfl) (by decide) rfl (fun ls hl => ?_)
          refine lv_goto (tgt := 3) hx hb dX4_append_43 (by decide) ?_
          exact ih _ _ _ _ _ _ hf hP hD hS (lv_sub hl [1, 2, 0] rfl)
        · rw [if_neg c_2] at hf
          refine lv_aload_n hx hb dX4_append_17 rfl (lv_at hl 0 rfl) ?_
          refine va_get (D := D) (ci := 4) (v := .ref (a 1)) (C := RX4) (T := TX4) (N := 10) hx hb hts kb_inX4 hown hK.1 hP 0 rfl rfl 3 (by decide) (hK.2.w ww_1_45 rfl _) (fun _ h9 => h9) rfl dX4_append_18 ?_
          refine lv_aload_n hx hb dX4_append_21 rfl (lv_at hl 0 rfl) ?_
          refine va_get (D := D) (ci := 4) (v := .int (ps_length z0)) (C := RX4) (T := TX4) (N := 10) hx hb hts kb_inX4 hown hK.1 hP 0 rfl rfl 0 (by decide) (hK.2.w ww_1_40 rfl _) (fun _ h9 => h9) rfl dX4_append_22 ?_
          refine lv_iload_n hx hb dX4_append_25 rfl (lv_at hl 1 rfl) ?_
          refine lv_iload_n hx hb dX4_append_26 rfl (lv_at hl 2 rfl) ?_
          refine lv_iushr hx hb dX4_append_27 rfl ?_
          refine lv_i2b hx hb dX4_append_28 rfl ?_
          obtain ⟨h_3, hf⟩ := kb_if hf
          refine va_bast (D := D) hx hb hK.1 hP hD hS 1 1 rfl rfl h_3 dX4_append_29 (fun H locs hP hD hS => ?_)
          have hP : va_P D vwCl (w_Parser dA a (ps_set_text z0 (upd (ps_text z0) ((ps_length z0)).toNatClampNeg (vp_nar .byte (((v1.toUInt32 >>> (v2.toUInt32 &&& Int32.toUInt32 31)).toInt32)).toInt8.toInt32)))) H := hP
          have hD : va_D A (w_Parser dA a (ps_set_text z0 (upd (ps_text z0) ((ps_length z0)).toNatClampNeg (vp_nar .byte (((v1.toUInt32 >>> (v2.toUInt32 &&& Int32.toUInt32 31)).toInt32)).toInt8.toInt32)))) := hD
          refine lv_aload_n hx hb dX4_append_30 rfl (lv_at hl 0 rfl) ?_
          refine lv_dup hx hb dX4_append_31 rfl ?_
          refine va_get (D := D) (ci := 4) (v := .int (ps_length (ps_set_text z0 (upd (ps_text z0) ((ps_length z0)).toNatClampNeg (vp_nar .byte (((v1.toUInt32 >>> (v2.toUInt32 &&& Int32.toUInt32 31)).toInt32)).toInt8.toInt32))))) (C := RX4) (T := TX4) (N := 10) hx hb hts kb_inX4 hown hK.1 hP 0 rfl rfl 0 (by decide) (hK.2.w ww_1_40 rfl _) (fun _ h9 => h9) rfl dX4_append_32 ?_
          refine lv_iconst (v := (1 : Int32)) hx hb dX4_append_35 (by decide) ?_
          refine lv_iadd hx hb dX4_append_36 ?_
          refine va_put (D := D) (ci := 4) (v := .int ((ps_length (ps_set_text z0 (upd (ps_text z0) ((ps_length z0)).toNatClampNeg (vp_nar .byte (((v1.toUInt32 >>> (v2.toUInt32 &&& Int32.toUInt32 31)).toInt32)).toInt8.toInt32)))) + (1 : Int32))) (ty := .int) (C := RX4) (T := TX4) (N := 10) hx hb hts kb_inX4 tyX4 tyX4_ok nmX4 hown hK.1 hP hD hS 0 rfl rfl 0 (by decide) (hK.2.w ww_1_40 rfl _) (fun _ h9 => h9) rfl (by decide +kernel) rfl rfl (Nat.le_of_ble_eq_true rfl) dX4_append_37 (fun H locs hP hD hS => ?_)
          have hP : va_P D vwCl (w_Parser dA a (ps_set_length (ps_set_text z0 (upd (ps_text z0) ((ps_length z0)).toNatClampNeg (vp_nar .byte (((v1.toUInt32 >>> (v2.toUInt32 &&& Int32.toUInt32 31)).toInt32)).toInt8.toInt32))) ((ps_length (ps_set_text z0 (upd (ps_text z0) ((ps_length z0)).toNatClampNeg (vp_nar .byte (((v1.toUInt32 >>> (v2.toUInt32 &&& Int32.toUInt32 31)).toInt32)).toInt8.toInt32)))) + (1 : Int32)))) H := hP
          have hD : va_D A (w_Parser dA a (ps_set_length (ps_set_text z0 (upd (ps_text z0) ((ps_length z0)).toNatClampNeg (vp_nar .byte (((v1.toUInt32 >>> (v2.toUInt32 &&& Int32.toUInt32 31)).toInt32)).toInt8.toInt32))) ((ps_length (ps_set_text z0 (upd (ps_text z0) ((ps_length z0)).toNatClampNeg (vp_nar .byte (((v1.toUInt32 >>> (v2.toUInt32 &&& Int32.toUInt32 31)).toInt32)).toInt8.toInt32)))) + (1 : Int32)))) := hD
          exact B_40 (f_X4_append_b3 n) ih _ _ _ _ _ _ hf hP hD hS (lv_sub hl [0, 1, 2] rfl)
  have E0 : ∀ (H : Heap) (locs : List Loc), va_P D vwCl (w_Parser dA a ps) H → va_D A (w_Parser dA a ps) → va_S A s.heap H locs → W p l e ({ frames := 0, cells := 0, slots := 0, locals := 0 } : Room) s m ([.ref (a 0), .int x0] : List Value).toArray below meth c H locs 0 0 Q (F0 m 0 ls []) := by
    intro H locs hP hD hS
    rw [f_X4_append] at hf
    refine lv_bipush (v := (24 : Int32)) hx hb dX4_append_0 (by decide) ?_
    refine lv_istore_n (lv' := [(2, .int (24 : Int32)), (0, .ref (a 0)), (1, .int x0)]) hx hb dX4_append_2 rfl hl (by decide) rfl (fun ls hl => ?_)
    exact B_3 4096 _ _ _ _ _ _ hf hP hD hS (lv_sub hl [1, 2, 0] rfl)
  exact E0 _ _ hP hD hS

noncomputable def f_X4_failed_b13 (z0 : ParserT) : Option (Int32 × ParserT) := some ((0 : Int32), z0)
noncomputable def f_X4_failed (ps : ParserT) (x0 : Int32) : Option (Int32 × ParserT) := f_X4_failed_b13 (ps_set_place (ps_set_fault ps x0) (ps_start (ps_set_fault ps x0)))
set_option maxHeartbeats 4000000 in
set_option maxRecDepth 100000 in
theorem c_X4_failed (l : Launch) (D : va_G) (dA : Nat → ClassId) (sz : Nat) (a : Nat → Nat) (ps : ParserT) (x0 : Int32) (rv : Int32) (u0 : ParserT) (hf : f_X4_failed ps x0 = some (rv, u0)) : kb_Mi l yX4_failed cX4_failed 2 (some .boolean) ({ frames := 0, cells := 0, slots := 0, locals := 0 } : Room) D dA [.ref (a 0), .int x0] sz (w_Parser dA a ps) 0 0 rv (w_Parser dA a u0) := by
  refine Met.ofW (cc := cX4_failed) (maxL := 2) (ret := (some .boolean)) (by decide) rfl ?_
  intro p e s m args below meth c s₁ B hml hv
  obtain ⟨rfl, hsz, hP, hK, hD0, hE⟩ := hv
  have hx := B.exec
  have hb := B.bytes
  have hr := B.returns
  have hown : s.vm.findClass RX4 = some m.cls := findClass_of_methodNamed B.named
  have hlocks := B.notSynchronized
  have hts : ∀ w ∈ kb_gw, w.before ([.ref (a 0), .int x0] : List Value).toArray s = true := fun w hw => hK.2.1 w hw _
  subst hsz
  have hD := hD0.self (sz := s.heap.size)
  generalize hAe : va_A (w_Parser dA a ps) s.heap.size = A at hD hE ⊢
  have hA : ∀ q : Nat, s.heap.size ≤ q → A q := fun q h => by rw [← hAe]; exact Or.inr h
  have hS : va_S A s.heap s.heap [] := va_S.rf
  have hl := lv_entry ([.ref (a 0), .int x0]) (n := 2) (Nat.le_of_ble_eq_true rfl)
  rw [lg_entry_eq]
  generalize (lg_sl ([.ref (a 0), .int x0]) ++ List.replicate (2 - (lg_sl ([.ref (a 0), .int x0])).length) Slot.unset).toArray = ls at hl ⊢
  have hl : lv_has ls 2 [(0, .ref (a 0)), (1, .int x0)] := hl
  generalize hQ : MQ below (va_Qi (fun r (_ : Unit) => r = rv) (kb_B D A (w_Parser dA a u0)) A) ([.ref (a 0), .int x0] : List Value).toArray s 0 0 A = Q
  show W p l e ({ frames := 0, cells := 0, slots := 0, locals := 0 } : Room) s m ([.ref (a 0), .int x0] : List Value).toArray below meth c s.heap [] 0 0 Q (F0 m 0 ls [])
  have RET : ∀ (r2 : Int32) (w0 : ParserT) (H : Heap) (locs : List Loc) (ls : Array Slot) (pc : Nat), some (r2, w0) = some (rv, u0) → va_P D vwCl (w_Parser dA a w0) H → va_D A (w_Parser dA a w0) → va_S A s.heap H locs → kb_01 r2 → decode cX4_failed pc = .ok (.ireturn, 1) → W p l e ({ frames := 0, cells := 0, slots := 0, locals := 0 } : Room) s m ([.ref (a 0), .int x0] : List Value).toArray below meth c H locs 0 0 Q (F0 m pc ls [.int r2]) := by
    intro r2 w0 H locs ls pc hq hP hD hS h01 hd
    cases hq
    rw [← hQ]
    exact W.zret (ty := .boolean) hx hb hr (kb_nz h01) (fun t ht hW => ⟨⟨_, (), rfl, rfl, by rw [ht]; exact hP, hD⟩, hS.F ht⟩) hS.2.2 hd
  have B_13 : ∀ (z0 : ParserT) (H : Heap) (locs : List Loc) (ls : Array Slot), f_X4_failed_b13 z0 = some (rv, u0) → va_P D vwCl (w_Parser dA a z0) H → va_D A (w_Parser dA a z0) → va_S A s.heap H locs → lv_has ls 2 [] → W p l e ({ frames := 0, cells := 0, slots := 0, locals := 0 } : Room) s m ([.ref (a 0), .int x0] : List Value).toArray below meth c H locs 0 0 Q (F0 m 13 ls []) := by
    intro z0 H locs ls hf hP hD hS hl
    rw [f_X4_failed_b13] at hf
    refine lv_iconst (v := (0 : Int32)) hx hb dX4_failed_13 (by decide) ?_
    exact RET _ _ H _ ls 14 hf hP hD hS (by decide) dX4_failed_14
  have E0 : ∀ (H : Heap) (locs : List Loc), va_P D vwCl (w_Parser dA a ps) H → va_D A (w_Parser dA a ps) → va_S A s.heap H locs → W p l e ({ frames := 0, cells := 0, slots := 0, locals := 0 } : Room) s m ([.ref (a 0), .int x0] : List Value).toArray below meth c H locs 0 0 Q (F0 m 0 ls []) := by
    intro H locs hP hD hS
    rw [f_X4_failed] at hf
    refine lv_aload_n hx hb dX4_failed_0 rfl (lv_at hl 0 rfl) ?_
    refine lv_iload_n hx hb dX4_failed_1 rfl (lv_at hl 1 rfl) ?_
    refine va_put (D := D) (ci := 4) (v := .int x0) (ty := .int) (C := RX4) (T := TX4) (N := 10) hx hb hts kb_inX4 tyX4 tyX4_ok nmX4 hown hK.1 hP hD hS 0 rfl rfl 1 (by decide) (hK.2.w ww_1_41 rfl _) (fun _ h9 => h9) rfl (by decide +kernel) rfl rfl (Nat.le_of_ble_eq_true rfl) dX4_failed_2 (fun H locs hP hD hS => ?_)
    have hP : va_P D vwCl (w_Parser dA a (ps_set_fault ps x0)) H := hP
    have hD : va_D A (w_Parser dA a (ps_set_fault ps x0)) := hD
    refine lv_aload_n hx hb dX4_failed_5 rfl (lv_at hl 0 rfl) ?_
    refine lv_aload_n hx hb dX4_failed_6 rfl (lv_at hl 0 rfl) ?_
    refine va_get (D := D) (ci := 4) (v := .int (ps_start (ps_set_fault ps x0))) (C := RX4) (T := TX4) (N := 10) hx hb hts kb_inX4 hown hK.1 hP 0 rfl rfl 7 (by decide) (hK.2.w ww_1_49 rfl _) (fun _ h9 => h9) rfl dX4_failed_7 ?_
    refine va_put (D := D) (ci := 4) (v := .int (ps_start (ps_set_fault ps x0))) (ty := .int) (C := RX4) (T := TX4) (N := 10) hx hb hts kb_inX4 tyX4 tyX4_ok nmX4 hown hK.1 hP hD hS 0 rfl rfl 2 (by decide) (hK.2.w ww_1_43 rfl _) (fun _ h9 => h9) rfl (by decide +kernel) rfl rfl (Nat.le_of_ble_eq_true rfl) dX4_failed_10 (fun H locs hP hD hS => ?_)
    have hP : va_P D vwCl (w_Parser dA a (ps_set_place (ps_set_fault ps x0) (ps_start (ps_set_fault ps x0)))) H := hP
    have hD : va_D A (w_Parser dA a (ps_set_place (ps_set_fault ps x0) (ps_start (ps_set_fault ps x0)))) := hD
    exact B_13 _ _ _ _ hf hP hD hS (lv_sub hl [] rfl)
  exact E0 _ _ hP hD hS

noncomputable def f_X4_takeWord_b105 (s0 : Int32) (z0 : ParserT) : Option (ParserT) := some ((ps_set_kind z0 s0))
noncomputable def f_X4_takeWord_b85 (z0 : ParserT) : Option (ParserT) := (if (8 : Int32) < ((ps_next z0) - (ps_start z0)) then f_X4_takeWord_b105 (5 : Int32) z0 else f_X4_takeWord_b105 (1 : Int32) z0)
noncomputable def f_X4_takeWord_b82 (k5 : ParserT → Option (ParserT)) (z0 : ParserT) : Option (ParserT) := k5 z0
noncomputable def f_X4_takeWord_b5 : Nat → ParserT → Option (ParserT)
  | 0, _ => none
  | n + 1, z0 => (if (ps_end z0) ≤ (ps_next z0) then f_X4_takeWord_b85 z0 else if kb_in? (ps_next z0) 900 then (if ((ps_text z0) ((ps_next z0)).toNatClampNeg) < (97 : Int32) then f_X4_takeWord_b85 z0 else if kb_in? (ps_next z0) 900 then (if (122 : Int32) < ((ps_text z0) ((ps_next z0)).toNatClampNeg) then f_X4_takeWord_b85 z0 else if kb_in? (ps_next z0) 900 then f_X4_takeWord_b82 (f_X4_takeWord_b5 n) (ps_set_next (ps_set_word z0 (((ps_word z0) * (32 : Int64)) + (((((ps_text z0) ((ps_next z0)).toNatClampNeg) - (97 : Int32)) + (1 : Int32))).toInt64)) ((ps_next (ps_set_word z0 (((ps_word z0) * (32 : Int64)) + (((((ps_text z0) ((ps_next z0)).toNatClampNeg) - (97 : Int32)) + (1 : Int32))).toInt64))) + (1 : Int32))) else none) else none) else none)
noncomputable def f_X4_takeWord (ps : ParserT) : Option (ParserT) := f_X4_takeWord_b5 4096 (ps_set_word ps (0 : Int64))
set_option maxHeartbeats 4000000 in
set_option maxRecDepth 100000 in
theorem c_X4_takeWord (l : Launch) (D : va_G) (dA : Nat → ClassId) (sz : Nat) (a : Nat → Nat) (ps : ParserT) (u0 : ParserT) (hf : f_X4_takeWord ps = some (u0)) : kb_Mv l yX4_takeWord cX4_takeWord 1 none ({ frames := 0, cells := 0, slots := 0, locals := 0 } : Room) D dA [.ref (a 0)] sz (w_Parser dA a ps) 0 0 (w_Parser dA a u0) := by
  refine Met.ofW (cc := cX4_takeWord) (maxL := 1) (ret := none) (by decide) rfl ?_
  intro p e s m args below meth c s₁ B hml hv
  obtain ⟨rfl, hsz, hP, hK, hD0, hE⟩ := hv
  have hx := B.exec
  have hb := B.bytes
  have hr := B.returns
  have hown : s.vm.findClass RX4 = some m.cls := findClass_of_methodNamed B.named
  have hlocks := B.notSynchronized
  have hts : ∀ w ∈ kb_gw, w.before ([.ref (a 0)] : List Value).toArray s = true := fun w hw => hK.2.1 w hw _
  subst hsz
  have hD := hD0.self (sz := s.heap.size)
  generalize hAe : va_A (w_Parser dA a ps) s.heap.size = A at hD hE ⊢
  have hA : ∀ q : Nat, s.heap.size ≤ q → A q := fun q h => by rw [← hAe]; exact Or.inr h
  have hS : va_S A s.heap s.heap [] := va_S.rf
  have hl := lv_entry ([.ref (a 0)]) (n := 1) (Nat.le_of_ble_eq_true rfl)
  rw [lg_entry_eq]
  generalize (lg_sl ([.ref (a 0)]) ++ List.replicate (1 - (lg_sl ([.ref (a 0)])).length) Slot.unset).toArray = ls at hl ⊢
  have hl : lv_has ls 1 [(0, .ref (a 0))] := hl
  generalize hQ : MQ below (va_Qv (fun (_ : Unit) => True) (kb_B D A (w_Parser dA a u0)) A) ([.ref (a 0)] : List Value).toArray s 0 0 A = Q
  show W p l e ({ frames := 0, cells := 0, slots := 0, locals := 0 } : Room) s m ([.ref (a 0)] : List Value).toArray below meth c s.heap [] 0 0 Q (F0 m 0 ls [])
  have RET : ∀ (w0 : ParserT) (H : Heap) (locs : List Loc) (ls : Array Slot) (pc : Nat), some (w0) = some (u0) → va_P D vwCl (w_Parser dA a w0) H → va_D A (w_Parser dA a w0) → va_S A s.heap H locs → decode cX4_takeWord pc = .ok (.return_, 1) → W p l e ({ frames := 0, cells := 0, slots := 0, locals := 0 } : Room) s m ([.ref (a 0)] : List Value).toArray below meth c H locs 0 0 Q (F0 m pc ls []) := by
    intro w0 H locs ls pc hq hP hD hS hd
    cases hq
    rw [← hQ]
    exact W.vret hx hb hr (fun t ht hW => ⟨⟨(), rfl, trivial, by rw [ht]; exact hP, hD⟩, hS.F ht⟩) hS.2.2 hd
  have B_105 : ∀ (s0 : Int32) (z0 : ParserT) (H : Heap) (locs : List Loc) (ls : Array Slot), f_X4_takeWord_b105 s0 z0 = some (u0) → va_P D vwCl (w_Parser dA a z0) H → va_D A (w_Parser dA a z0) → va_S A s.heap H locs → lv_has ls 1 [] → W p l e ({ frames := 0, cells := 0, slots := 0, locals := 0 } : Room) s m ([.ref (a 0)] : List Value).toArray below meth c H locs 0 0 Q (F0 m 105 ls [.int s0, .ref (a 0)]) := by
    intro s0 z0 H locs ls hf hP hD hS hl
    rw [f_X4_takeWord_b105] at hf
    refine va_put (D := D) (ci := 4) (v := .int s0) (ty := .int) (C := RX4) (T := TX4) (N := 10) hx hb hts kb_inX4 tyX4 tyX4_ok nmX4 hown hK.1 hP hD hS 0 rfl rfl 6 (by decide) (hK.2.w ww_1_48 rfl _) (fun _ h9 => h9) rfl (by decide +kernel) rfl rfl (Nat.le_of_ble_eq_true rfl) dX4_takeWord_105 (fun H locs hP hD hS => ?_)
    have hP : va_P D vwCl (w_Parser dA a (ps_set_kind z0 s0)) H := hP
    have hD : va_D A (w_Parser dA a (ps_set_kind z0 s0)) := hD
    exact RET _ H _ ls 108 hf hP hD hS dX4_takeWord_108
  have B_85 : ∀ (z0 : ParserT) (H : Heap) (locs : List Loc) (ls : Array Slot), f_X4_takeWord_b85 z0 = some (u0) → va_P D vwCl (w_Parser dA a z0) H → va_D A (w_Parser dA a z0) → va_S A s.heap H locs → lv_has ls 1 [(0, .ref (a 0))] → W p l e ({ frames := 0, cells := 0, slots := 0, locals := 0 } : Room) s m ([.ref (a 0)] : List Value).toArray below meth c H locs 0 0 Q (F0 m 85 ls []) := by
    intro z0 H locs ls hf hP hD hS hl
    rw [f_X4_takeWord_b85] at hf
    refine lv_aload_n hx hb dX4_takeWord_85 rfl (lv_at hl 0 rfl) ?_
    refine lv_aload_n hx hb dX4_takeWord_86 rfl (lv_at hl 0 rfl) ?_
    refine va_get (D := D) (ci := 4) (v := .int (ps_next z0)) (C := RX4) (T := TX4) (N := 10) hx hb hts kb_inX4 hown hK.1 hP 0 rfl rfl 5 (by decide) (hK.2.w ww_1_47 rfl _) (fun _ h9 => h9) rfl dX4_takeWord_87 ?_
    refine lv_aload_n hx hb dX4_takeWord_90 rfl (lv_at hl 0 rfl) ?_
    refine va_get (D := D) (ci := 4) (v := .int (ps_start z0)) (C := RX4) (T := TX4) (N := 10) hx hb hts kb_inX4 hown hK.1 hP 0 rfl rfl 7 (by decide) (hK.2.w ww_1_49 rfl _) (fun _ h9 => h9) rfl dX4_takeWord_91 ?_
    refine lv_isub hx hb dX4_takeWord_94 ?_
    refine lv_bipush (v := (8 : Int32)) hx hb dX4_takeWord_95 (by decide) ?_
    refine lv_icmp_gt (tgt := 104) hx hb dX4_takeWord_97 (by decide) (fun c_2 => ?_) (fun c_2 => ?_)
    · rw [if_pos c_2] at hf
      refine lv_iconst (v := (5 : Int32)) hx hb dX4_takeWord_104 (by decide) ?_
      exact B_105 _ _ _ _ _ hf hP hD hS (lv_sub hl [] rfl)
    · rw [if_neg c_2] at hf
      refine lv_iconst (v := (1 : Int32)) hx hb dX4_takeWord_100 (by decide) ?_
      refine lv_goto (tgt := 105) hx hb dX4_takeWord_101 (by decide) ?_
      exact B_105 _ _ _ _ _ hf hP hD hS (lv_sub hl [] rfl)
  have B_82 : ∀ (k5 : ParserT → Option (ParserT)) (hk5 : ∀ (z0 : ParserT) (H : Heap) (locs : List Loc) (ls : Array Slot), k5 z0 = some (u0) → va_P D vwCl (w_Parser dA a z0) H → va_D A (w_Parser dA a z0) → va_S A s.heap H locs → lv_has ls 1 [(0, .ref (a 0))] → W p l e ({ frames := 0, cells := 0, slots := 0, locals := 0 } : Room) s m ([.ref (a 0)] : List Value).toArray below meth c H locs 0 0 Q (F0 m 5 ls [])) (z0 : ParserT) (H : Heap) (locs : List Loc) (ls : Array Slot), f_X4_takeWord_b82 k5 z0 = some (u0) → va_P D vwCl (w_Parser dA a z0) H → va_D A (w_Parser dA a z0) → va_S A s.heap H locs → lv_has ls 1 [(0, .ref (a 0))] → W p l e ({ frames := 0, cells := 0, slots := 0, locals := 0 } : Room) s m ([.ref (a 0)] : List Value).toArray below meth c H locs 0 0 Q (F0 m 82 ls []) := by
    intro k5 hk5 z0 H locs ls hf hP hD hS hl
    rw [f_X4_takeWord_b82] at hf
    refine lv_goto (tgt := 5) hx hb dX4_takeWord_82 (by decide) ?_
    exact hk5 _ _ _ _ hf hP hD hS (lv_sub hl [0] rfl)
  have B_5 : ∀ (n : Nat) (z0 : ParserT) (H : Heap) (locs : List Loc) (ls : Array Slot), f_X4_takeWord_b5 n z0 = some (u0) → va_P D vwCl (w_Parser dA a z0) H → va_D A (w_Parser dA a z0) → va_S A s.heap H locs → lv_has ls 1 [(0, .ref (a 0))] → W p l e ({ frames := 0, cells := 0, slots := 0, locals := 0 } : Room) s m ([.ref (a 0)] : List Value).toArray below meth c H locs 0 0 Q (F0 m 5 ls []) := by
    intro n
    induction n with
    | zero =>
      intro z0 H locs ls hf
      exact absurd hf (by simp [f_X4_takeWord_b5])
    | succ n ih =>
      intro z0 H locs ls hf hP hD hS hl
      rw [f_X4_takeWord_b5] at hf
      refine lv_aload_n hx hb dX4_takeWord_5 rfl (lv_at hl 0 rfl) ?_
      refine va_get (D := D) (ci := 4) (v := .int (ps_next z0)) (C := RX4) (T := TX4) (N := 10) hx hb hts kb_inX4 hown hK.1 hP 0 rfl rfl 5 (by decide) (hK.2.w ww_1_47 rfl _) (fun _ h9 => h9) rfl dX4_takeWord_6 ?_
      refine lv_aload_n hx hb dX4_takeWord_9 rfl (lv_at hl 0 rfl) ?_
      refine va_get (D := D) (ci := 4) (v := .int (ps_end z0)) (C := RX4) (T := TX4) (N := 10) hx hb hts kb_inX4 hown hK.1 hP 0 rfl rfl 4 (by decide) (hK.2.w ww_1_46 rfl _) (fun _ h9 => h9) rfl dX4_takeWord_10 ?_
      refine lv_icmp_ge (tgt := 85) hx hb dX4_takeWord_13 (by decide) (fun c_1 => ?_) (fun c_1 => ?_)
      · rw [if_pos c_1] at hf
        exact B_85 _ _ _ _ hf hP hD hS (lv_sub hl [0] rfl)
      · rw [if_neg c_1] at hf
        refine lv_aload_n hx hb dX4_takeWord_16 rfl (lv_at hl 0 rfl) ?_
        refine va_get (D := D) (ci := 4) (v := .ref (a 1)) (C := RX4) (T := TX4) (N := 10) hx hb hts kb_inX4 hown hK.1 hP 0 rfl rfl 3 (by decide) (hK.2.w ww_1_45 rfl _) (fun _ h9 => h9) rfl dX4_takeWord_17 ?_
        refine lv_aload_n hx hb dX4_takeWord_20 rfl (lv_at hl 0 rfl) ?_
        refine va_get (D := D) (ci := 4) (v := .int (ps_next z0)) (C := RX4) (T := TX4) (N := 10) hx hb hts kb_inX4 hown hK.1 hP 0 rfl rfl 5 (by decide) (hK.2.w ww_1_47 rfl _) (fun _ h9 => h9) rfl dX4_takeWord_21 ?_
        obtain ⟨h_3, hf⟩ := kb_if hf
        refine va_bald (D := D) hx hb hK.1 hP 1 1 rfl rfl h_3 dX4_takeWord_24 ?_
        refine lv_bipush (v := (97 : Int32)) hx hb dX4_takeWord_25 (by decide) ?_
        refine lv_icmp_lt (tgt := 85) hx hb dX4_takeWord_27 (by decide) (fun c_4 => ?_) (fun c_4 => ?_)
        · rw [if_pos c_4] at hf
          exact B_85 _ _ _ _ hf hP hD hS (lv_sub hl [0] rfl)
        · rw [if_neg c_4] at hf
          refine lv_aload_n hx hb dX4_takeWord_30 rfl (lv_at hl 0 rfl) ?_
          refine va_get (D := D) (ci := 4) (v := .ref (a 1)) (C := RX4) (T := TX4) (N := 10) hx hb hts kb_inX4 hown hK.1 hP 0 rfl rfl 3 (by decide) (hK.2.w ww_1_45 rfl _) (fun _ h9 => h9) rfl dX4_takeWord_31 ?_
          refine lv_aload_n hx hb dX4_takeWord_34 rfl (lv_at hl 0 rfl) ?_
          refine va_get (D := D) (ci := 4) (v := .int (ps_next z0)) (C := RX4) (T := TX4) (N := 10) hx hb hts kb_inX4 hown hK.1 hP 0 rfl rfl 5 (by decide) (hK.2.w ww_1_47 rfl _) (fun _ h9 => h9) rfl dX4_takeWord_35 ?_
          obtain ⟨h_5, hf⟩ := kb_if hf
          refine va_bald (D := D) hx hb hK.1 hP 1 1 rfl rfl h_5 dX4_takeWord_38 ?_
          refine lv_bipush (v := (122 : Int32)) hx hb dX4_takeWord_39 (by decide) ?_
          refine lv_icmp_gt (tgt := 85) hx hb dX4_takeWord_41 (by decide) (fun c_6 => ?_) (fun c_6 => ?_)
          · rw [if_pos c_6] at hf
            exact B_85 _ _ _ _ hf hP hD hS (lv_sub hl [0] rfl)
          · rw [if_neg c_6] at hf
            refine lv_aload_n hx hb dX4_takeWord_44 rfl (lv_at hl 0 rfl) ?_
            refine lv_aload_n hx hb dX4_takeWord_45 rfl (lv_at hl 0 rfl) ?_
            refine va_get (D := D) (ci := 4) (v := .long (ps_word z0)) (C := RX4) (T := TX4) (N := 10) hx hb hts kb_inX4 hown hK.1 hP 0 rfl rfl 9 (by decide) (hK.2.w ww_1_51 rfl _) (fun _ h9 => h9) rfl dX4_takeWord_46 ?_
            refine lv_ldc2 (v := (32 : Int64)) hx hb hown (hK.2.w ww_2_224 rfl _) dX4_takeWord_49 ?_
            refine lv_lmul hx hb dX4_takeWord_52 ?_
            refine lv_aload_n hx hb dX4_takeWord_53 rfl (lv_at hl 0 rfl) ?_
            refine va_get (D := D) (ci := 4) (v := .ref (a 1)) (C := RX4) (T := TX4) (N := 10) hx hb hts kb_inX4 hown hK.1 hP 0 rfl rfl 3 (by decide) (hK.2.w ww_1_45 rfl _) (fun _ h9 => h9) rfl dX4_takeWord_54 ?_
            refine lv_aload_n hx hb dX4_takeWord_57 rfl (lv_at hl 0 rfl) ?_
            refine va_get (D := D) (ci := 4) (v := .int (ps_next z0)) (C := RX4) (T := TX4) (N := 10) hx hb hts kb_inX4 hown hK.1 hP 0 rfl rfl 5 (by decide) (hK.2.w ww_1_47 rfl _) (fun _ h9 => h9) rfl dX4_takeWord_58 ?_
            obtain ⟨h_7, hf⟩ := kb_if hf
            refine va_bald (D := D) hx hb hK.1 hP 1 1 rfl rfl h_7 dX4_takeWord_61 ?_
            refine lv_bipush (v := (97 : Int32)) hx hb dX4_takeWord_62 (by decide) ?_
            refine lv_isub hx hb dX4_takeWord_64 ?_
            refine lv_iconst (v := (1 : Int32)) hx hb dX4_takeWord_65 (by decide) ?_
            refine lv_iadd hx hb dX4_takeWord_66 ?_
            refine lv_i2l hx hb dX4_takeWord_67 rfl ?_
            refine lv_ladd hx hb dX4_takeWord_68 ?_
            refine va_put (D := D) (ci := 4) (v := .long (((ps_word z0) * (32 : Int64)) + (((((ps_text z0) ((ps_next z0)).toNatClampNeg) - (97 : Int32)) + (1 : Int32))).toInt64)) (ty := .long) (C := RX4) (T := TX4) (N := 10) hx hb hts kb_inX4 tyX4 tyX4_ok nmX4 hown hK.1 hP hD hS 0 rfl rfl 9 (by decide) (hK.2.w ww_1_51 rfl _) (fun _ h9 => h9) rfl (by decide +kernel) rfl rfl (Nat.le_of_ble_eq_true rfl) dX4_takeWord_69 (fun H locs hP hD hS => ?_)
            have hP : va_P D vwCl (w_Parser dA a (ps_set_word z0 (((ps_word z0) * (32 : Int64)) + (((((ps_text z0) ((ps_next z0)).toNatClampNeg) - (97 : Int32)) + (1 : Int32))).toInt64))) H := hP
            have hD : va_D A (w_Parser dA a (ps_set_word z0 (((ps_word z0) * (32 : Int64)) + (((((ps_text z0) ((ps_next z0)).toNatClampNeg) - (97 : Int32)) + (1 : Int32))).toInt64))) := hD
            refine lv_aload_n hx hb dX4_takeWord_72 rfl (lv_at hl 0 rfl) ?_
            refine lv_dup hx hb dX4_takeWord_73 rfl ?_
            refine va_get (D := D) (ci := 4) (v := .int (ps_next (ps_set_word z0 (((ps_word z0) * (32 : Int64)) + (((((ps_text z0) ((ps_next z0)).toNatClampNeg) - (97 : Int32)) + (1 : Int32))).toInt64)))) (C := RX4) (T := TX4) (N := 10) hx hb hts kb_inX4 hown hK.1 hP 0 rfl rfl 5 (by decide) (hK.2.w ww_1_47 rfl _) (fun _ h9 => h9) rfl dX4_takeWord_74 ?_
            refine lv_iconst (v := (1 : Int32)) hx hb dX4_takeWord_77 (by decide) ?_
            refine lv_iadd hx hb dX4_takeWord_78 ?_
            refine va_put (D := D) (ci := 4) (v := .int ((ps_next (ps_set_word z0 (((ps_word z0) * (32 : Int64)) + (((((ps_text z0) ((ps_next z0)).toNatClampNeg) - (97 : Int32)) + (1 : Int32))).toInt64))) + (1 : Int32))) (ty := .int) (C := RX4) (T := TX4) (N := 10) hx hb hts kb_inX4 tyX4 tyX4_ok nmX4 hown hK.1 hP hD hS 0 rfl rfl 5 (by decide) (hK.2.w ww_1_47 rfl _) (fun _ h9 => h9) rfl (by decide +kernel) rfl rfl (Nat.le_of_ble_eq_true rfl) dX4_takeWord_79 (fun H locs hP hD hS => ?_)
            have hP : va_P D vwCl (w_Parser dA a (ps_set_next (ps_set_word z0 (((ps_word z0) * (32 : Int64)) + (((((ps_text z0) ((ps_next z0)).toNatClampNeg) - (97 : Int32)) + (1 : Int32))).toInt64)) ((ps_next (ps_set_word z0 (((ps_word z0) * (32 : Int64)) + (((((ps_text z0) ((ps_next z0)).toNatClampNeg) - (97 : Int32)) + (1 : Int32))).toInt64))) + (1 : Int32)))) H := hP
            have hD : va_D A (w_Parser dA a (ps_set_next (ps_set_word z0 (((ps_word z0) * (32 : Int64)) + (((((ps_text z0) ((ps_next z0)).toNatClampNeg) - (97 : Int32)) + (1 : Int32))).toInt64)) ((ps_next (ps_set_word z0 (((ps_word z0) * (32 : Int64)) + (((((ps_text z0) ((ps_next z0)).toNatClampNeg) - (97 : Int32)) + (1 : Int32))).toInt64))) + (1 : Int32)))) := hD
            exact B_82 (f_X4_takeWord_b5 n) ih _ _ _ _ hf hP hD hS (lv_sub hl [0] rfl)
  have E0 : ∀ (H : Heap) (locs : List Loc), va_P D vwCl (w_Parser dA a ps) H → va_D A (w_Parser dA a ps) → va_S A s.heap H locs → W p l e ({ frames := 0, cells := 0, slots := 0, locals := 0 } : Room) s m ([.ref (a 0)] : List Value).toArray below meth c H locs 0 0 Q (F0 m 0 ls []) := by
    intro H locs hP hD hS
    rw [f_X4_takeWord] at hf
    refine lv_aload_n hx hb dX4_takeWord_0 rfl (lv_at hl 0 rfl) ?_
    refine lv_lconst (v := (0 : Int64)) hx hb dX4_takeWord_1 (by decide) ?_
    refine va_put (D := D) (ci := 4) (v := .long (0 : Int64)) (ty := .long) (C := RX4) (T := TX4) (N := 10) hx hb hts kb_inX4 tyX4 tyX4_ok nmX4 hown hK.1 hP hD hS 0 rfl rfl 9 (by decide) (hK.2.w ww_1_51 rfl _) (fun _ h9 => h9) rfl (by decide +kernel) rfl rfl (Nat.le_of_ble_eq_true rfl) dX4_takeWord_2 (fun H locs hP hD hS => ?_)
    have hP : va_P D vwCl (w_Parser dA a (ps_set_word ps (0 : Int64))) H := hP
    have hD : va_D A (w_Parser dA a (ps_set_word ps (0 : Int64))) := hD
    exact B_5 4096 _ _ _ _ hf hP hD hS (lv_sub hl [0] rfl)
  exact E0 _ _ hP hD hS

noncomputable def f_X4_takeWhole_b100 (s0 : Int32) (z0 : ParserT) : Option (ParserT) := some ((ps_set_kind z0 s0))
noncomputable def f_X4_takeWhole_b81 (z0 : ParserT) : Option (ParserT) := (if (3 : Int32) < ((ps_next z0) - (ps_start z0)) then f_X4_takeWhole_b100 (5 : Int32) z0 else f_X4_takeWhole_b100 (2 : Int32) z0)
noncomputable def f_X4_takeWhole_b78 (k5 : ParserT → Option (ParserT)) (z0 : ParserT) : Option (ParserT) := k5 z0
noncomputable def f_X4_takeWhole_b5 : Nat → ParserT → Option (ParserT)
  | 0, _ => none
  | n + 1, z0 => (if (ps_end z0) ≤ (ps_next z0) then f_X4_takeWhole_b81 z0 else if kb_in? (ps_next z0) 900 then (if ((ps_text z0) ((ps_next z0)).toNatClampNeg) < (48 : Int32) then f_X4_takeWhole_b81 z0 else if kb_in? (ps_next z0) 900 then (if (57 : Int32) < ((ps_text z0) ((ps_next z0)).toNatClampNeg) then f_X4_takeWhole_b81 z0 else if kb_in? (ps_next z0) 900 then f_X4_takeWhole_b78 (f_X4_takeWhole_b5 n) (ps_set_next (ps_set_value z0 (((ps_value z0) * (10 : Int32)) + (((ps_text z0) ((ps_next z0)).toNatClampNeg) - (48 : Int32)))) ((ps_next (ps_set_value z0 (((ps_value z0) * (10 : Int32)) + (((ps_text z0) ((ps_next z0)).toNatClampNeg) - (48 : Int32))))) + (1 : Int32))) else none) else none) else none)
noncomputable def f_X4_takeWhole (ps : ParserT) : Option (ParserT) := f_X4_takeWhole_b5 4096 (ps_set_value ps (0 : Int32))
set_option maxHeartbeats 4000000 in
set_option maxRecDepth 100000 in
theorem c_X4_takeWhole (l : Launch) (D : va_G) (dA : Nat → ClassId) (sz : Nat) (a : Nat → Nat) (ps : ParserT) (u0 : ParserT) (hf : f_X4_takeWhole ps = some (u0)) : kb_Mv l yX4_takeWhole cX4_takeWhole 1 none ({ frames := 0, cells := 0, slots := 0, locals := 0 } : Room) D dA [.ref (a 0)] sz (w_Parser dA a ps) 0 0 (w_Parser dA a u0) := by
  refine Met.ofW (cc := cX4_takeWhole) (maxL := 1) (ret := none) (by decide) rfl ?_
  intro p e s m args below meth c s₁ B hml hv
  obtain ⟨rfl, hsz, hP, hK, hD0, hE⟩ := hv
  have hx := B.exec
  have hb := B.bytes
  have hr := B.returns
  have hown : s.vm.findClass RX4 = some m.cls := findClass_of_methodNamed B.named
  have hlocks := B.notSynchronized
  have hts : ∀ w ∈ kb_gw, w.before ([.ref (a 0)] : List Value).toArray s = true := fun w hw => hK.2.1 w hw _
  subst hsz
  have hD := hD0.self (sz := s.heap.size)
  generalize hAe : va_A (w_Parser dA a ps) s.heap.size = A at hD hE ⊢
  have hA : ∀ q : Nat, s.heap.size ≤ q → A q := fun q h => by rw [← hAe]; exact Or.inr h
  have hS : va_S A s.heap s.heap [] := va_S.rf
  have hl := lv_entry ([.ref (a 0)]) (n := 1) (Nat.le_of_ble_eq_true rfl)
  rw [lg_entry_eq]
  generalize (lg_sl ([.ref (a 0)]) ++ List.replicate (1 - (lg_sl ([.ref (a 0)])).length) Slot.unset).toArray = ls at hl ⊢
  have hl : lv_has ls 1 [(0, .ref (a 0))] := hl
  generalize hQ : MQ below (va_Qv (fun (_ : Unit) => True) (kb_B D A (w_Parser dA a u0)) A) ([.ref (a 0)] : List Value).toArray s 0 0 A = Q
  show W p l e ({ frames := 0, cells := 0, slots := 0, locals := 0 } : Room) s m ([.ref (a 0)] : List Value).toArray below meth c s.heap [] 0 0 Q (F0 m 0 ls [])
  have RET : ∀ (w0 : ParserT) (H : Heap) (locs : List Loc) (ls : Array Slot) (pc : Nat), some (w0) = some (u0) → va_P D vwCl (w_Parser dA a w0) H → va_D A (w_Parser dA a w0) → va_S A s.heap H locs → decode cX4_takeWhole pc = .ok (.return_, 1) → W p l e ({ frames := 0, cells := 0, slots := 0, locals := 0 } : Room) s m ([.ref (a 0)] : List Value).toArray below meth c H locs 0 0 Q (F0 m pc ls []) := by
    intro w0 H locs ls pc hq hP hD hS hd
    cases hq
    rw [← hQ]
    exact W.vret hx hb hr (fun t ht hW => ⟨⟨(), rfl, trivial, by rw [ht]; exact hP, hD⟩, hS.F ht⟩) hS.2.2 hd
  have B_100 : ∀ (s0 : Int32) (z0 : ParserT) (H : Heap) (locs : List Loc) (ls : Array Slot), f_X4_takeWhole_b100 s0 z0 = some (u0) → va_P D vwCl (w_Parser dA a z0) H → va_D A (w_Parser dA a z0) → va_S A s.heap H locs → lv_has ls 1 [] → W p l e ({ frames := 0, cells := 0, slots := 0, locals := 0 } : Room) s m ([.ref (a 0)] : List Value).toArray below meth c H locs 0 0 Q (F0 m 100 ls [.int s0, .ref (a 0)]) := by
    intro s0 z0 H locs ls hf hP hD hS hl
    rw [f_X4_takeWhole_b100] at hf
    refine va_put (D := D) (ci := 4) (v := .int s0) (ty := .int) (C := RX4) (T := TX4) (N := 10) hx hb hts kb_inX4 tyX4 tyX4_ok nmX4 hown hK.1 hP hD hS 0 rfl rfl 6 (by decide) (hK.2.w ww_1_48 rfl _) (fun _ h9 => h9) rfl (by decide +kernel) rfl rfl (Nat.le_of_ble_eq_true rfl) dX4_takeWhole_100 (fun H locs hP hD hS => ?_)
    have hP : va_P D vwCl (w_Parser dA a (ps_set_kind z0 s0)) H := hP
    have hD : va_D A (w_Parser dA a (ps_set_kind z0 s0)) := hD
    exact RET _ H _ ls 103 hf hP hD hS dX4_takeWhole_103
  have B_81 : ∀ (z0 : ParserT) (H : Heap) (locs : List Loc) (ls : Array Slot), f_X4_takeWhole_b81 z0 = some (u0) → va_P D vwCl (w_Parser dA a z0) H → va_D A (w_Parser dA a z0) → va_S A s.heap H locs → lv_has ls 1 [(0, .ref (a 0))] → W p l e ({ frames := 0, cells := 0, slots := 0, locals := 0 } : Room) s m ([.ref (a 0)] : List Value).toArray below meth c H locs 0 0 Q (F0 m 81 ls []) := by
    intro z0 H locs ls hf hP hD hS hl
    rw [f_X4_takeWhole_b81] at hf
    refine lv_aload_n hx hb dX4_takeWhole_81 rfl (lv_at hl 0 rfl) ?_
    refine lv_aload_n hx hb dX4_takeWhole_82 rfl (lv_at hl 0 rfl) ?_
    refine va_get (D := D) (ci := 4) (v := .int (ps_next z0)) (C := RX4) (T := TX4) (N := 10) hx hb hts kb_inX4 hown hK.1 hP 0 rfl rfl 5 (by decide) (hK.2.w ww_1_47 rfl _) (fun _ h9 => h9) rfl dX4_takeWhole_83 ?_
    refine lv_aload_n hx hb dX4_takeWhole_86 rfl (lv_at hl 0 rfl) ?_
    refine va_get (D := D) (ci := 4) (v := .int (ps_start z0)) (C := RX4) (T := TX4) (N := 10) hx hb hts kb_inX4 hown hK.1 hP 0 rfl rfl 7 (by decide) (hK.2.w ww_1_49 rfl _) (fun _ h9 => h9) rfl dX4_takeWhole_87 ?_
    refine lv_isub hx hb dX4_takeWhole_90 ?_
    refine lv_iconst (v := (3 : Int32)) hx hb dX4_takeWhole_91 (by decide) ?_
    refine lv_icmp_gt (tgt := 99) hx hb dX4_takeWhole_92 (by decide) (fun c_2 => ?_) (fun c_2 => ?_)
    · rw [if_pos c_2] at hf
      refine lv_iconst (v := (5 : Int32)) hx hb dX4_takeWhole_99 (by decide) ?_
      exact B_100 _ _ _ _ _ hf hP hD hS (lv_sub hl [] rfl)
    · rw [if_neg c_2] at hf
      refine lv_iconst (v := (2 : Int32)) hx hb dX4_takeWhole_95 (by decide) ?_
      refine lv_goto (tgt := 100) hx hb dX4_takeWhole_96 (by decide) ?_
      exact B_100 _ _ _ _ _ hf hP hD hS (lv_sub hl [] rfl)
  have B_78 : ∀ (k5 : ParserT → Option (ParserT)) (hk5 : ∀ (z0 : ParserT) (H : Heap) (locs : List Loc) (ls : Array Slot), k5 z0 = some (u0) → va_P D vwCl (w_Parser dA a z0) H → va_D A (w_Parser dA a z0) → va_S A s.heap H locs → lv_has ls 1 [(0, .ref (a 0))] → W p l e ({ frames := 0, cells := 0, slots := 0, locals := 0 } : Room) s m ([.ref (a 0)] : List Value).toArray below meth c H locs 0 0 Q (F0 m 5 ls [])) (z0 : ParserT) (H : Heap) (locs : List Loc) (ls : Array Slot), f_X4_takeWhole_b78 k5 z0 = some (u0) → va_P D vwCl (w_Parser dA a z0) H → va_D A (w_Parser dA a z0) → va_S A s.heap H locs → lv_has ls 1 [(0, .ref (a 0))] → W p l e ({ frames := 0, cells := 0, slots := 0, locals := 0 } : Room) s m ([.ref (a 0)] : List Value).toArray below meth c H locs 0 0 Q (F0 m 78 ls []) := by
    intro k5 hk5 z0 H locs ls hf hP hD hS hl
    rw [f_X4_takeWhole_b78] at hf
    refine lv_goto (tgt := 5) hx hb dX4_takeWhole_78 (by decide) ?_
    exact hk5 _ _ _ _ hf hP hD hS (lv_sub hl [0] rfl)
  have B_5 : ∀ (n : Nat) (z0 : ParserT) (H : Heap) (locs : List Loc) (ls : Array Slot), f_X4_takeWhole_b5 n z0 = some (u0) → va_P D vwCl (w_Parser dA a z0) H → va_D A (w_Parser dA a z0) → va_S A s.heap H locs → lv_has ls 1 [(0, .ref (a 0))] → W p l e ({ frames := 0, cells := 0, slots := 0, locals := 0 } : Room) s m ([.ref (a 0)] : List Value).toArray below meth c H locs 0 0 Q (F0 m 5 ls []) := by
    intro n
    induction n with
    | zero =>
      intro z0 H locs ls hf
      exact absurd hf (by simp [f_X4_takeWhole_b5])
    | succ n ih =>
      intro z0 H locs ls hf hP hD hS hl
      rw [f_X4_takeWhole_b5] at hf
      refine lv_aload_n hx hb dX4_takeWhole_5 rfl (lv_at hl 0 rfl) ?_
      refine va_get (D := D) (ci := 4) (v := .int (ps_next z0)) (C := RX4) (T := TX4) (N := 10) hx hb hts kb_inX4 hown hK.1 hP 0 rfl rfl 5 (by decide) (hK.2.w ww_1_47 rfl _) (fun _ h9 => h9) rfl dX4_takeWhole_6 ?_
      refine lv_aload_n hx hb dX4_takeWhole_9 rfl (lv_at hl 0 rfl) ?_
      refine va_get (D := D) (ci := 4) (v := .int (ps_end z0)) (C := RX4) (T := TX4) (N := 10) hx hb hts kb_inX4 hown hK.1 hP 0 rfl rfl 4 (by decide) (hK.2.w ww_1_46 rfl _) (fun _ h9 => h9) rfl dX4_takeWhole_10 ?_
      refine lv_icmp_ge (tgt := 81) hx hb dX4_takeWhole_13 (by decide) (fun c_1 => ?_) (fun c_1 => ?_)
      · rw [if_pos c_1] at hf
        exact B_81 _ _ _ _ hf hP hD hS (lv_sub hl [0] rfl)
      · rw [if_neg c_1] at hf
        refine lv_aload_n hx hb dX4_takeWhole_16 rfl (lv_at hl 0 rfl) ?_
        refine va_get (D := D) (ci := 4) (v := .ref (a 1)) (C := RX4) (T := TX4) (N := 10) hx hb hts kb_inX4 hown hK.1 hP 0 rfl rfl 3 (by decide) (hK.2.w ww_1_45 rfl _) (fun _ h9 => h9) rfl dX4_takeWhole_17 ?_
        refine lv_aload_n hx hb dX4_takeWhole_20 rfl (lv_at hl 0 rfl) ?_
        refine va_get (D := D) (ci := 4) (v := .int (ps_next z0)) (C := RX4) (T := TX4) (N := 10) hx hb hts kb_inX4 hown hK.1 hP 0 rfl rfl 5 (by decide) (hK.2.w ww_1_47 rfl _) (fun _ h9 => h9) rfl dX4_takeWhole_21 ?_
        obtain ⟨h_3, hf⟩ := kb_if hf
        refine va_bald (D := D) hx hb hK.1 hP 1 1 rfl rfl h_3 dX4_takeWhole_24 ?_
        refine lv_bipush (v := (48 : Int32)) hx hb dX4_takeWhole_25 (by decide) ?_
        refine lv_icmp_lt (tgt := 81) hx hb dX4_takeWhole_27 (by decide) (fun c_4 => ?_) (fun c_4 => ?_)
        · rw [if_pos c_4] at hf
          exact B_81 _ _ _ _ hf hP hD hS (lv_sub hl [0] rfl)
        · rw [if_neg c_4] at hf
          refine lv_aload_n hx hb dX4_takeWhole_30 rfl (lv_at hl 0 rfl) ?_
          refine va_get (D := D) (ci := 4) (v := .ref (a 1)) (C := RX4) (T := TX4) (N := 10) hx hb hts kb_inX4 hown hK.1 hP 0 rfl rfl 3 (by decide) (hK.2.w ww_1_45 rfl _) (fun _ h9 => h9) rfl dX4_takeWhole_31 ?_
          refine lv_aload_n hx hb dX4_takeWhole_34 rfl (lv_at hl 0 rfl) ?_
          refine va_get (D := D) (ci := 4) (v := .int (ps_next z0)) (C := RX4) (T := TX4) (N := 10) hx hb hts kb_inX4 hown hK.1 hP 0 rfl rfl 5 (by decide) (hK.2.w ww_1_47 rfl _) (fun _ h9 => h9) rfl dX4_takeWhole_35 ?_
          obtain ⟨h_5, hf⟩ := kb_if hf
          refine va_bald (D := D) hx hb hK.1 hP 1 1 rfl rfl h_5 dX4_takeWhole_38 ?_
          refine lv_bipush (v := (57 : Int32)) hx hb dX4_takeWhole_39 (by decide) ?_
          refine lv_icmp_gt (tgt := 81) hx hb dX4_takeWhole_41 (by decide) (fun c_6 => ?_) (fun c_6 => ?_)
          · rw [if_pos c_6] at hf
            exact B_81 _ _ _ _ hf hP hD hS (lv_sub hl [0] rfl)
          · rw [if_neg c_6] at hf
            refine lv_aload_n hx hb dX4_takeWhole_44 rfl (lv_at hl 0 rfl) ?_
            refine lv_aload_n hx hb dX4_takeWhole_45 rfl (lv_at hl 0 rfl) ?_
            refine va_get (D := D) (ci := 4) (v := .int (ps_value z0)) (C := RX4) (T := TX4) (N := 10) hx hb hts kb_inX4 hown hK.1 hP 0 rfl rfl 8 (by decide) (hK.2.w ww_1_50 rfl _) (fun _ h9 => h9) rfl dX4_takeWhole_46 ?_
            refine lv_bipush (v := (10 : Int32)) hx hb dX4_takeWhole_49 (by decide) ?_
            refine lv_imul hx hb dX4_takeWhole_51 ?_
            refine lv_aload_n hx hb dX4_takeWhole_52 rfl (lv_at hl 0 rfl) ?_
            refine va_get (D := D) (ci := 4) (v := .ref (a 1)) (C := RX4) (T := TX4) (N := 10) hx hb hts kb_inX4 hown hK.1 hP 0 rfl rfl 3 (by decide) (hK.2.w ww_1_45 rfl _) (fun _ h9 => h9) rfl dX4_takeWhole_53 ?_
            refine lv_aload_n hx hb dX4_takeWhole_56 rfl (lv_at hl 0 rfl) ?_
            refine va_get (D := D) (ci := 4) (v := .int (ps_next z0)) (C := RX4) (T := TX4) (N := 10) hx hb hts kb_inX4 hown hK.1 hP 0 rfl rfl 5 (by decide) (hK.2.w ww_1_47 rfl _) (fun _ h9 => h9) rfl dX4_takeWhole_57 ?_
            obtain ⟨h_7, hf⟩ := kb_if hf
            refine va_bald (D := D) hx hb hK.1 hP 1 1 rfl rfl h_7 dX4_takeWhole_60 ?_
            refine lv_bipush (v := (48 : Int32)) hx hb dX4_takeWhole_61 (by decide) ?_
            refine lv_isub hx hb dX4_takeWhole_63 ?_
            refine lv_iadd hx hb dX4_takeWhole_64 ?_
            refine va_put (D := D) (ci := 4) (v := .int (((ps_value z0) * (10 : Int32)) + (((ps_text z0) ((ps_next z0)).toNatClampNeg) - (48 : Int32)))) (ty := .int) (C := RX4) (T := TX4) (N := 10) hx hb hts kb_inX4 tyX4 tyX4_ok nmX4 hown hK.1 hP hD hS 0 rfl rfl 8 (by decide) (hK.2.w ww_1_50 rfl _) (fun _ h9 => h9) rfl (by decide +kernel) rfl rfl (Nat.le_of_ble_eq_true rfl) dX4_takeWhole_65 (fun H locs hP hD hS => ?_)
            have hP : va_P D vwCl (w_Parser dA a (ps_set_value z0 (((ps_value z0) * (10 : Int32)) + (((ps_text z0) ((ps_next z0)).toNatClampNeg) - (48 : Int32))))) H := hP
            have hD : va_D A (w_Parser dA a (ps_set_value z0 (((ps_value z0) * (10 : Int32)) + (((ps_text z0) ((ps_next z0)).toNatClampNeg) - (48 : Int32))))) := hD
            refine lv_aload_n hx hb dX4_takeWhole_68 rfl (lv_at hl 0 rfl) ?_
            refine lv_dup hx hb dX4_takeWhole_69 rfl ?_
            refine va_get (D := D) (ci := 4) (v := .int (ps_next (ps_set_value z0 (((ps_value z0) * (10 : Int32)) + (((ps_text z0) ((ps_next z0)).toNatClampNeg) - (48 : Int32)))))) (C := RX4) (T := TX4) (N := 10) hx hb hts kb_inX4 hown hK.1 hP 0 rfl rfl 5 (by decide) (hK.2.w ww_1_47 rfl _) (fun _ h9 => h9) rfl dX4_takeWhole_70 ?_
            refine lv_iconst (v := (1 : Int32)) hx hb dX4_takeWhole_73 (by decide) ?_
            refine lv_iadd hx hb dX4_takeWhole_74 ?_
            refine va_put (D := D) (ci := 4) (v := .int ((ps_next (ps_set_value z0 (((ps_value z0) * (10 : Int32)) + (((ps_text z0) ((ps_next z0)).toNatClampNeg) - (48 : Int32))))) + (1 : Int32))) (ty := .int) (C := RX4) (T := TX4) (N := 10) hx hb hts kb_inX4 tyX4 tyX4_ok nmX4 hown hK.1 hP hD hS 0 rfl rfl 5 (by decide) (hK.2.w ww_1_47 rfl _) (fun _ h9 => h9) rfl (by decide +kernel) rfl rfl (Nat.le_of_ble_eq_true rfl) dX4_takeWhole_75 (fun H locs hP hD hS => ?_)
            have hP : va_P D vwCl (w_Parser dA a (ps_set_next (ps_set_value z0 (((ps_value z0) * (10 : Int32)) + (((ps_text z0) ((ps_next z0)).toNatClampNeg) - (48 : Int32)))) ((ps_next (ps_set_value z0 (((ps_value z0) * (10 : Int32)) + (((ps_text z0) ((ps_next z0)).toNatClampNeg) - (48 : Int32))))) + (1 : Int32)))) H := hP
            have hD : va_D A (w_Parser dA a (ps_set_next (ps_set_value z0 (((ps_value z0) * (10 : Int32)) + (((ps_text z0) ((ps_next z0)).toNatClampNeg) - (48 : Int32)))) ((ps_next (ps_set_value z0 (((ps_value z0) * (10 : Int32)) + (((ps_text z0) ((ps_next z0)).toNatClampNeg) - (48 : Int32))))) + (1 : Int32)))) := hD
            exact B_78 (f_X4_takeWhole_b5 n) ih _ _ _ _ hf hP hD hS (lv_sub hl [0] rfl)
  have E0 : ∀ (H : Heap) (locs : List Loc), va_P D vwCl (w_Parser dA a ps) H → va_D A (w_Parser dA a ps) → va_S A s.heap H locs → W p l e ({ frames := 0, cells := 0, slots := 0, locals := 0 } : Room) s m ([.ref (a 0)] : List Value).toArray below meth c H locs 0 0 Q (F0 m 0 ls []) := by
    intro H locs hP hD hS
    rw [f_X4_takeWhole] at hf
    refine lv_aload_n hx hb dX4_takeWhole_0 rfl (lv_at hl 0 rfl) ?_
    refine lv_iconst (v := (0 : Int32)) hx hb dX4_takeWhole_1 (by decide) ?_
    refine va_put (D := D) (ci := 4) (v := .int (0 : Int32)) (ty := .int) (C := RX4) (T := TX4) (N := 10) hx hb hts kb_inX4 tyX4 tyX4_ok nmX4 hown hK.1 hP hD hS 0 rfl rfl 8 (by decide) (hK.2.w ww_1_50 rfl _) (fun _ h9 => h9) rfl (by decide +kernel) rfl rfl (Nat.le_of_ble_eq_true rfl) dX4_takeWhole_2 (fun H locs hP hD hS => ?_)
    have hP : va_P D vwCl (w_Parser dA a (ps_set_value ps (0 : Int32))) H := hP
    have hD : va_D A (w_Parser dA a (ps_set_value ps (0 : Int32))) := hD
    exact B_5 4096 _ _ _ _ hf hP hD hS (lv_sub hl [0] rfl)
  exact E0 _ _ hP hD hS

noncomputable def f_X4_advance_b133 (s0 : Int32) (z0 : ParserT) : Option (ParserT) := some ((ps_set_next (ps_set_kind z0 s0) ((ps_next (ps_set_kind z0 s0)) + (1 : Int32))))
noncomputable def f_X4_advance_b111 (v1 : Int32) (z0 : ParserT) : Option (ParserT) := (if v1 = (59 : Int32) then f_X4_advance_b133 (3 : Int32) z0 else (if v1 = (44 : Int32) then f_X4_advance_b133 (4 : Int32) z0 else f_X4_advance_b133 (5 : Int32) z0))
noncomputable def f_X4_advance_b92 (v1 : Int32) (z0 : ParserT) : Option (ParserT) := (if v1 < (48 : Int32) then f_X4_advance_b111 v1 z0 else (if (57 : Int32) < v1 then f_X4_advance_b111 v1 z0 else (f_X4_takeWhole z0).bind fun r9 => some (r9)))
noncomputable def f_X4_advance_b38 (z0 : ParserT) : Option (ParserT) := (if (ps_next (ps_set_start z0 (ps_next z0))) < (ps_end (ps_set_start z0 (ps_next z0))) then if kb_in? (ps_next (ps_set_start z0 (ps_next z0))) 900 then (if ((ps_text (ps_set_start z0 (ps_next z0))) ((ps_next (ps_set_start z0 (ps_next z0)))).toNatClampNeg) < (97 : Int32) then f_X4_advance_b92 ((ps_text (ps_set_start z0 (ps_next z0))) ((ps_next (ps_set_start z0 (ps_next z0)))).toNatClampNeg) (ps_set_start z0 (ps_next z0)) else (if (122 : Int32) < ((ps_text (ps_set_start z0 (ps_next z0))) ((ps_next (ps_set_start z0 (ps_next z0)))).toNatClampNeg) then f_X4_advance_b92 ((ps_text (ps_set_start z0 (ps_next z0))) ((ps_next (ps_set_start z0 (ps_next z0)))).toNatClampNeg) (ps_set_start z0 (ps_next z0)) else (f_X4_takeWord (ps_set_start z0 (ps_next z0))).bind fun r11 => some (r11))) else none else some ((ps_set_kind (ps_set_start z0 (ps_next z0)) (0 : Int32))))
noncomputable def f_X4_advance_b0 : Nat → ParserT → Option (ParserT)
  | 0, _ => none
  | n + 1, z0 => (if (ps_end z0) ≤ (ps_next z0) then f_X4_advance_b38 z0 else if kb_in? (ps_next z0) 900 then (if ((ps_text z0) ((ps_next z0)).toNatClampNeg) = (32 : Int32) then f_X4_advance_b0 n (ps_set_next z0 ((ps_next z0) + (1 : Int32))) else f_X4_advance_b38 z0) else none)
noncomputable def f_X4_advance (ps : ParserT) : Option (ParserT) := f_X4_advance_b0 4096 ps
set_option maxHeartbeats 4000000 in
set_option maxRecDepth 100000 in
theorem c_X4_advance (l : Launch) (D : va_G) (dA : Nat → ClassId) (sz : Nat) (a : Nat → Nat) (ps : ParserT) (u0 : ParserT) (hf : f_X4_advance ps = some (u0)) : kb_Mv l yX4_advance cX4_advance 2 none ({ frames := 1, cells := 0, slots := 0, locals := 20 } : Room) D dA [.ref (a 0)] sz (w_Parser dA a ps) 0 0 (w_Parser dA a u0) := by
  refine Met.ofW (cc := cX4_advance) (maxL := 2) (ret := none) (by decide) rfl ?_
  intro p e s m args below meth c s₁ B hml hv
  obtain ⟨rfl, hsz, hP, hK, hD0, hE⟩ := hv
  have hx := B.exec
  have hb := B.bytes
  have hr := B.returns
  have hown : s.vm.findClass RX4 = some m.cls := findClass_of_methodNamed B.named
  have hlocks := B.notSynchronized
  have hts : ∀ w ∈ kb_gw, w.before ([.ref (a 0)] : List Value).toArray s = true := fun w hw => hK.2.1 w hw _
  subst hsz
  have hD := hD0.self (sz := s.heap.size)
  generalize hAe : va_A (w_Parser dA a ps) s.heap.size = A at hD hE ⊢
  have hA : ∀ q : Nat, s.heap.size ≤ q → A q := fun q h => by rw [← hAe]; exact Or.inr h
  have hS : va_S A s.heap s.heap [] := va_S.rf
  have hl := lv_entry ([.ref (a 0)]) (n := 2) (Nat.le_of_ble_eq_true rfl)
  rw [lg_entry_eq]
  generalize (lg_sl ([.ref (a 0)]) ++ List.replicate (2 - (lg_sl ([.ref (a 0)])).length) Slot.unset).toArray = ls at hl ⊢
  have hl : lv_has ls 2 [(0, .ref (a 0))] := hl
  generalize hQ : MQ below (va_Qv (fun (_ : Unit) => True) (kb_B D A (w_Parser dA a u0)) A) ([.ref (a 0)] : List Value).toArray s 0 0 A = Q
  show W p l e ({ frames := 1, cells := 0, slots := 0, locals := 20 } : Room) s m ([.ref (a 0)] : List Value).toArray below meth c s.heap [] 0 0 Q (F0 m 0 ls [])
  have RET : ∀ (w0 : ParserT) (H : Heap) (locs : List Loc) (ls : Array Slot) (pc : Nat), some (w0) = some (u0) → va_P D vwCl (w_Parser dA a w0) H → va_D A (w_Parser dA a w0) → va_S A s.heap H locs → decode cX4_advance pc = .ok (.return_, 1) → W p l e ({ frames := 1, cells := 0, slots := 0, locals := 20 } : Room) s m ([.ref (a 0)] : List Value).toArray below meth c H locs 0 0 Q (F0 m pc ls []) := by
    intro w0 H locs ls pc hq hP hD hS hd
    cases hq
    rw [← hQ]
    exact W.vret hx hb hr (fun t ht hW => ⟨⟨(), rfl, trivial, by rw [ht]; exact hP, hD⟩, hS.F ht⟩) hS.2.2 hd
  have B_133 : ∀ (s0 : Int32) (z0 : ParserT) (H : Heap) (locs : List Loc) (ls : Array Slot), f_X4_advance_b133 s0 z0 = some (u0) → va_P D vwCl (w_Parser dA a z0) H → va_D A (w_Parser dA a z0) → va_S A s.heap H locs → lv_has ls 2 [(0, .ref (a 0))] → W p l e ({ frames := 1, cells := 0, slots := 0, locals := 20 } : Room) s m ([.ref (a 0)] : List Value).toArray below meth c H locs 0 0 Q (F0 m 133 ls [.int s0, .ref (a 0)]) := by
    intro s0 z0 H locs ls hf hP hD hS hl
    rw [f_X4_advance_b133] at hf
    refine va_put (D := D) (ci := 4) (v := .int s0) (ty := .int) (C := RX4) (T := TX4) (N := 10) hx hb hts kb_inX4 tyX4 tyX4_ok nmX4 hown hK.1 hP hD hS 0 rfl rfl 6 (by decide) (hK.2.w ww_1_48 rfl _) (fun _ h9 => h9) rfl (by decide +kernel) rfl rfl (Nat.le_of_ble_eq_true rfl) dX4_advance_133 (fun H locs hP hD hS => ?_)
    have hP : va_P D vwCl (w_Parser dA a (ps_set_kind z0 s0)) H := hP
    have hD : va_D A (w_Parser dA a (ps_set_kind z0 s0)) := hD
    refine lv_aload_n hx hb dX4_advance_136 rfl (lv_at hl 0 rfl) ?_
    refine lv_dup hx hb dX4_advance_137 rfl ?_
    refine va_get (D := D) (ci := 4) (v := .int (ps_next (ps_set_kind z0 s0))) (C := RX4) (T := TX4) (N := 10) hx hb hts kb_inX4 hown hK.1 hP 0 rfl rfl 5 (by decide) (hK.2.w ww_1_47 rfl _) (fun _ h9 => h9) rfl dX4_advance_138 ?_
    refine lv_iconst (v := (1 : Int32)) hx hb dX4_advance_141 (by decide) ?_
    refine lv_iadd hx hb dX4_advance_142 ?_
    refine va_put (D := D) (ci := 4) (v := .int ((ps_next (ps_set_kind z0 s0)) + (1 : Int32))) (ty := .int) (C := RX4) (T := TX4) (N := 10) hx hb hts kb_inX4 tyX4 tyX4_ok nmX4 hown hK.1 hP hD hS 0 rfl rfl 5 (by decide) (hK.2.w ww_1_47 rfl _) (fun _ h9 => h9) rfl (by decide +kernel) rfl rfl (Nat.le_of_ble_eq_true rfl) dX4_advance_143 (fun H locs hP hD hS => ?_)
    have hP : va_P D vwCl (w_Parser dA a (ps_set_next (ps_set_kind z0 s0) ((ps_next (ps_set_kind z0 s0)) + (1 : Int32)))) H := hP
    have hD : va_D A (w_Parser dA a (ps_set_next (ps_set_kind z0 s0) ((ps_next (ps_set_kind z0 s0)) + (1 : Int32)))) := hD
    exact RET _ H _ ls 146 hf hP hD hS dX4_advance_146
  have B_111 : ∀ (v1 : Int32) (z0 : ParserT) (H : Heap) (locs : List Loc) (ls : Array Slot), f_X4_advance_b111 v1 z0 = some (u0) → va_P D vwCl (w_Parser dA a z0) H → va_D A (w_Parser dA a z0) → va_S A s.heap H locs → lv_has ls 2 [(0, .ref (a 0)), (1, .int v1)] → W p l e ({ frames := 1, cells := 0, slots := 0, locals := 20 } : Room) s m ([.ref (a 0)] : List Value).toArray below meth c H locs 0 0 Q (F0 m 111 ls []) := by
    intro v1 z0 H locs ls hf hP hD hS hl
    rw [f_X4_advance_b111] at hf
    refine lv_aload_n hx hb dX4_advance_111 rfl (lv_at hl 0 rfl) ?_
    refine lv_iload_n hx hb dX4_advance_112 rfl (lv_at hl 1 rfl) ?_
    refine lv_bipush (v := (59 : Int32)) hx hb dX4_advance_113 (by decide) ?_
    refine lv_icmp_ne (tgt := 122) hx hb dX4_advance_115 (by decide) (fun c_6 => ?_) (fun c_6 => ?_)
    · rw [if_neg c_6] at hf
      refine lv_iload_n hx hb dX4_advance_122 rfl (lv_at hl 1 rfl) ?_
      refine lv_bipush (v := (44 : Int32)) hx hb dX4_advance_123 (by decide) ?_
      refine lv_icmp_ne (tgt := 132) hx hb dX4_advance_125 (by decide) (fun c_7 => ?_) (fun c_7 => ?_)
      · rw [if_neg c_7] at hf
        refine lv_iconst (v := (5 : Int32)) hx hb dX4_advance_132 (by decide) ?_
        exact B_133 _ _ _ _ _ hf hP hD hS (lv_sub hl [0] rfl)
      · rw [if_pos c_7] at hf
        refine lv_iconst (v := (4 : Int32)) hx hb dX4_advance_128 (by decide) ?_
        refine lv_goto (tgt := 133) hx hb dX4_advance_129 (by decide) ?_
        exact B_133 _ _ _ _ _ hf hP hD hS (lv_sub hl [0] rfl)
    · rw [if_pos c_6] at hf
      refine lv_iconst (v := (3 : Int32)) hx hb dX4_advance_118 (by decide) ?_
      refine lv_goto (tgt := 133) hx hb dX4_advance_119 (by decide) ?_
      exact B_133 _ _ _ _ _ hf hP hD hS (lv_sub hl [0] rfl)
  have B_92 : ∀ (v1 : Int32) (z0 : ParserT) (H : Heap) (locs : List Loc) (ls : Array Slot), f_X4_advance_b92 v1 z0 = some (u0) → va_P D vwCl (w_Parser dA a z0) H → va_D A (w_Parser dA a z0) → va_S A s.heap H locs → lv_has ls 2 [(0, .ref (a 0)), (1, .int v1)] → W p l e ({ frames := 1, cells := 0, slots := 0, locals := 20 } : Room) s m ([.ref (a 0)] : List Value).toArray below meth c H locs 0 0 Q (F0 m 92 ls []) := by
    intro v1 z0 H locs ls hf hP hD hS hl
    rw [f_X4_advance_b92] at hf
    refine lv_iload_n hx hb dX4_advance_92 rfl (lv_at hl 1 rfl) ?_
    refine lv_bipush (v := (48 : Int32)) hx hb dX4_advance_93 (by decide) ?_
    refine lv_icmp_lt (tgt := 111) hx hb dX4_advance_95 (by decide) (fun c_5 => ?_) (fun c_5 => ?_)
    · rw [if_pos c_5] at hf
      exact B_111 _ _ _ _ _ hf hP hD hS (lv_sub hl [0, 1] rfl)
    · rw [if_neg c_5] at hf
      refine lv_iload_n hx hb dX4_advance_98 rfl (lv_at hl 1 rfl) ?_
      refine lv_bipush (v := (57 : Int32)) hx hb dX4_advance_99 (by decide) ?_
      refine lv_icmp_gt (tgt := 111) hx hb dX4_advance_101 (by decide) (fun c_8 => ?_) (fun c_8 => ?_)
      · rw [if_pos c_8] at hf
        exact B_111 _ _ _ _ _ hf hP hD hS (lv_sub hl [0, 1] rfl)
      · rw [if_neg c_8] at hf
        refine lv_aload_n hx hb dX4_advance_104 rfl (lv_at hl 0 rfl) ?_
        obtain ⟨r9, hc9, hf⟩ := kb_bind hf
        refine kb_cv (ws2 := (w_Parser dA a r9)) (kb_rV (n := 0) (As := []) (rest := []) hx hb hml hown hK (c_X4_takeWhole l D dA H.size a z0 r9 hc9) ⟨ww_2_228, ww_2_225, ww_2_227, ws_3, ww_1_2, rfl, by decide, by decide⟩ rfl rfl (by decide +kernel) ⟨Nat.le_of_ble_eq_true rfl, Nat.le_of_ble_eq_true rfl⟩ hP hD hS hA hE [0, 1] rfl (by decide) 0 rfl rfl rfl hl.1 rfl (Nat.le_of_ble_eq_true rfl) dX4_advance_105 ⟨Nat.le_of_ble_eq_true rfl, Nat.le_of_ble_eq_true rfl⟩) hP hD hS hA [0, 1] [] [0, 1] rfl rfl (by decide) (by decide) rfl (by decide) (fun H locs hP hD hS => ?_)
        refine lv_goto (tgt := 146) hx hb dX4_advance_108 (by decide) ?_
        exact RET _ H _ ls 146 hf hP hD hS dX4_advance_146
  have B_38 : ∀ (z0 : ParserT) (H : Heap) (locs : List Loc) (ls : Array Slot), f_X4_advance_b38 z0 = some (u0) → va_P D vwCl (w_Parser dA a z0) H → va_D A (w_Parser dA a z0) → va_S A s.heap H locs → lv_has ls 2 [(0, .ref (a 0))] → W p l e ({ frames := 1, cells := 0, slots := 0, locals := 20 } : Room) s m ([.ref (a 0)] : List Value).toArray below meth c H locs 0 0 Q (F0 m 38 ls []) := by
    intro z0 H locs ls hf hP hD hS hl
    rw [f_X4_advance_b38] at hf
    refine lv_aload_n hx hb dX4_advance_38 rfl (lv_at hl 0 rfl) ?_
    refine lv_aload_n hx hb dX4_advance_39 rfl (lv_at hl 0 rfl) ?_
    refine va_get (D := D) (ci := 4) (v := .int (ps_next z0)) (C := RX4) (T := TX4) (N := 10) hx hb hts kb_inX4 hown hK.1 hP 0 rfl rfl 5 (by decide) (hK.2.w ww_1_47 rfl _) (fun _ h9 => h9) rfl dX4_advance_40 ?_
    refine va_put (D := D) (ci := 4) (v := .int (ps_next z0)) (ty := .int) (C := RX4) (T := TX4) (N := 10) hx hb hts kb_inX4 tyX4 tyX4_ok nmX4 hown hK.1 hP hD hS 0 rfl rfl 7 (by decide) (hK.2.w ww_1_49 rfl _) (fun _ h9 => h9) rfl (by decide +kernel) rfl rfl (Nat.le_of_ble_eq_true rfl) dX4_advance_43 (fun H locs hP hD hS => ?_)
    have hP : va_P D vwCl (w_Parser dA a (ps_set_start z0 (ps_next z0))) H := hP
    have hD : va_D A (w_Parser dA a (ps_set_start z0 (ps_next z0))) := hD
    refine lv_aload_n hx hb dX4_advance_46 rfl (lv_at hl 0 rfl) ?_
    refine va_get (D := D) (ci := 4) (v := .int (ps_next (ps_set_start z0 (ps_next z0)))) (C := RX4) (T := TX4) (N := 10) hx hb hts kb_inX4 hown hK.1 hP 0 rfl rfl 5 (by decide) (hK.2.w ww_1_47 rfl _) (fun _ h9 => h9) rfl dX4_advance_47 ?_
    refine lv_aload_n hx hb dX4_advance_50 rfl (lv_at hl 0 rfl) ?_
    refine va_get (D := D) (ci := 4) (v := .int (ps_end (ps_set_start z0 (ps_next z0)))) (C := RX4) (T := TX4) (N := 10) hx hb hts kb_inX4 hown hK.1 hP 0 rfl rfl 4 (by decide) (hK.2.w ww_1_46 rfl _) (fun _ h9 => h9) rfl dX4_advance_51 ?_
    refine lv_icmp_lt (tgt := 63) hx hb dX4_advance_54 (by decide) (fun c_2 => ?_) (fun c_2 => ?_)
    · rw [if_pos c_2] at hf
      refine lv_aload_n hx hb dX4_advance_63 rfl (lv_at hl 0 rfl) ?_
      refine va_get (D := D) (ci := 4) (v := .ref (a 1)) (C := RX4) (T := TX4) (N := 10) hx hb hts kb_inX4 hown hK.1 hP 0 rfl rfl 3 (by decide) (hK.2.w ww_1_45 rfl _) (fun _ h9 => h9) rfl dX4_advance_64 ?_
      refine lv_aload_n hx hb dX4_advance_67 rfl (lv_at hl 0 rfl) ?_
      refine va_get (D := D) (ci := 4) (v := .int (ps_next (ps_set_start z0 (ps_next z0)))) (C := RX4) (T := TX4) (N := 10) hx hb hts kb_inX4 hown hK.1 hP 0 rfl rfl 5 (by decide) (hK.2.w ww_1_47 rfl _) (fun _ h9 => h9) rfl dX4_advance_68 ?_
      obtain ⟨h_3, hf⟩ := kb_if hf
      refine va_bald (D := D) hx hb hK.1 hP 1 1 rfl rfl h_3 dX4_advance_71 ?_
      refine lv_istore_n (lv' := [(1, .int ((ps_text (ps_set_start z0 (ps_next z0))) ((ps_next (ps_set_start z0 (ps_next z0)))).toNatClampNeg)), (0, .ref (a 0))]) hx hb dX4_advance_72 rfl hl (by decide) rfl (fun ls hl => ?_)
      refine lv_iload_n hx hb dX4_advance_73 rfl (lv_at hl 0 rfl) ?_
      refine lv_bipush (v := (97 : Int32)) hx hb dX4_advance_74 (by decide) ?_
      refine lv_icmp_lt (tgt := 92) hx hb dX4_advance_76 (by decide) (fun c_4 => ?_) (fun c_4 => ?_)
      · rw [if_pos c_4] at hf
        exact B_92 _ _ _ _ _ hf hP hD hS (lv_sub hl [1, 0] rfl)
      · rw [if_neg c_4] at hf
        refine lv_iload_n hx hb dX4_advance_79 rfl (lv_at hl 0 rfl) ?_
        refine lv_bipush (v := (122 : Int32)) hx hb dX4_advance_80 (by decide) ?_
        refine lv_icmp_gt (tgt := 92) hx hb dX4_advance_82 (by decide) (fun c_10 => ?_) (fun c_10 => ?_)
        · rw [if_pos c_10] at hf
          exact B_92 _ _ _ _ _ hf hP hD hS (lv_sub hl [1, 0] rfl)
        · rw [if_neg c_10] at hf
          refine lv_aload_n hx hb dX4_advance_85 rfl (lv_at hl 1 rfl) ?_
          obtain ⟨r11, hc11, hf⟩ := kb_bind hf
          refine kb_cv (ws2 := (w_Parser dA a r11)) (kb_rV (n := 0) (As := []) (rest := []) hx hb hml hown hK (c_X4_takeWord l D dA H.size a (ps_set_start z0 (ps_next z0)) r11 hc11) ⟨ww_2_223, ww_2_220, ww_2_222, ws_2, ww_1_2, rfl, by decide, by decide⟩ rfl rfl (by decide +kernel) ⟨Nat.le_of_ble_eq_true rfl, Nat.le_of_ble_eq_true rfl⟩ hP hD hS hA hE [0, 1] rfl (by decide) 0 rfl rfl rfl hl.1 rfl (Nat.le_of_ble_eq_true rfl) dX4_advance_86 ⟨Nat.le_of_ble_eq_true rfl, Nat.le_of_ble_eq_true rfl⟩) hP hD hS hA [0, 1] [] [0, 1] rfl rfl (by decide) (by decide) rfl (by decide) (fun H locs hP hD hS => ?_)
          refine lv_goto (tgt := 146) hx hb dX4_advance_89 (by decide) ?_
          exact RET _ H _ ls 146 hf hP hD hS dX4_advance_146
    · rw [if_neg c_2] at hf
      refine lv_aload_n hx hb dX4_advance_57 rfl (lv_at hl 0 rfl) ?_
      refine lv_iconst (v := (0 : Int32)) hx hb dX4_advance_58 (by decide) ?_
      refine va_put (D := D) (ci := 4) (v := .int (0 : Int32)) (ty := .int) (C := RX4) (T := TX4) (N := 10) hx hb hts kb_inX4 tyX4 tyX4_ok nmX4 hown hK.1 hP hD hS 0 rfl rfl 6 (by decide) (hK.2.w ww_1_48 rfl _) (fun _ h9 => h9) rfl (by decide +kernel) rfl rfl (Nat.le_of_ble_eq_true rfl) dX4_advance_59 (fun H locs hP hD hS => ?_)
      have hP : va_P D vwCl (w_Parser dA a (ps_set_kind (ps_set_start z0 (ps_next z0)) (0 : Int32))) H := hP
      have hD : va_D A (w_Parser dA a (ps_set_kind (ps_set_start z0 (ps_next z0)) (0 : Int32))) := hD
      exact RET _ H _ ls 62 hf hP hD hS dX4_advance_62
  have B_0 : ∀ (n : Nat) (z0 : ParserT) (H : Heap) (locs : List Loc) (ls : Array Slot), f_X4_advance_b0 n z0 = some (u0) → va_P D vwCl (w_Parser dA a z0) H → va_D A (w_Parser dA a z0) → va_S A s.heap H locs → lv_has ls 2 [(0, .ref (a 0))] → W p l e ({ frames := 1, cells := 0, slots := 0, locals := 20 } : Room) s m ([.ref (a 0)] : List Value).toArray below meth c H locs 0 0 Q (F0 m 0 ls []) := by
    intro n
    induction n with
    | zero =>
      intro z0 H locs ls hf
      exact absurd hf (by simp [f_X4_advance_b0])
    | succ n ih =>
      intro z0 H locs ls hf hP hD hS hl
      rw [f_X4_advance_b0] at hf
      refine lv_aload_n hx hb dX4_advance_0 rfl (lv_at hl 0 rfl) ?_
      refine va_get (D := D) (ci := 4) (v := .int (ps_next z0)) (C := RX4) (T := TX4) (N := 10) hx hb hts kb_inX4 hown hK.1 hP 0 rfl rfl 5 (by decide) (hK.2.w ww_1_47 rfl _) (fun _ h9 => h9) rfl dX4_advance_1 ?_
      refine lv_aload_n hx hb dX4_advance_4 rfl (lv_at hl 0 rfl) ?_
      refine va_get (D := D) (ci := 4) (v := .int (ps_end z0)) (C := RX4) (T := TX4) (N := 10) hx hb hts kb_inX4 hown hK.1 hP 0 rfl rfl 4 (by decide) (hK.2.w ww_1_46 rfl _) (fun _ h9 => h9) rfl dX4_advance_5 ?_
      refine lv_icmp_ge (tgt := 38) hx hb dX4_advance_8 (by decide) (fun c_1 => ?_) (fun c_1 => ?_)
      · rw [if_pos c_1] at hf
        exact B_38 _ _ _ _ hf hP hD hS (lv_sub hl [0] rfl)
      · rw [if_neg c_1] at hf
        refine lv_aload_n hx hb dX4_advance_11 rfl (lv_at hl 0 rfl) ?_
        refine va_get (D := D) (ci := 4) (v := .ref (a 1)) (C := RX4) (T := TX4) (N := 10) hx hb hts kb_inX4 hown hK.1 hP 0 rfl rfl 3 (by decide) (hK.2.w ww_1_45 rfl _) (fun _ h9 => h9) rfl dX4_advance_12 ?_
        refine lv_aload_n hx hb dX4_advance_15 rfl (lv_at hl 0 rfl) ?_
        refine va_get (D := D) (ci := 4) (v := .int (ps_next z0)) (C := RX4) (T := TX4) (N := 10) hx hb hts kb_inX4 hown hK.1 hP 0 rfl rfl 5 (by decide) (hK.2.w ww_1_47 rfl _) (fun _ h9 => h9) rfl dX4_advance_16 ?_
        obtain ⟨h_12, hf⟩ := kb_if hf
        refine va_bald (D := D) hx hb hK.1 hP 1 1 rfl rfl h_12 dX4_advance_19 ?_
        refine lv_bipush (v := (32 : Int32)) hx hb dX4_advance_20 (by decide) ?_
        refine lv_icmp_ne (tgt := 38) hx hb dX4_advance_22 (by decide) (fun c_13 => ?_) (fun c_13 => ?_)
        · rw [if_neg c_13] at hf
          exact B_38 _ _ _ _ hf hP hD hS (lv_sub hl [0] rfl)
        · rw [if_pos c_13] at hf
          refine lv_aload_n hx hb dX4_advance_25 rfl (lv_at hl 0 rfl) ?_
          refine lv_dup hx hb dX4_advance_26 rfl ?_
          refine va_get (D := D) (ci := 4) (v := .int (ps_next z0)) (C := RX4) (T := TX4) (N := 10) hx hb hts kb_inX4 hown hK.1 hP 0 rfl rfl 5 (by decide) (hK.2.w ww_1_47 rfl _) (fun _ h9 => h9) rfl dX4_advance_27 ?_
          refine lv_iconst (v := (1 : Int32)) hx hb dX4_advance_30 (by decide) ?_
          refine lv_iadd hx hb dX4_advance_31 ?_
          refine va_put (D := D) (ci := 4) (v := .int ((ps_next z0) + (1 : Int32))) (ty := .int) (C := RX4) (T := TX4) (N := 10) hx hb hts kb_inX4 tyX4 tyX4_ok nmX4 hown hK.1 hP hD hS 0 rfl rfl 5 (by decide) (hK.2.w ww_1_47 rfl _) (fun _ h9 => h9) rfl (by decide +kernel) rfl rfl (Nat.le_of_ble_eq_true rfl) dX4_advance_32 (fun H locs hP hD hS => ?_)
          have hP : va_P D vwCl (w_Parser dA a (ps_set_next z0 ((ps_next z0) + (1 : Int32)))) H := hP
          have hD : va_D A (w_Parser dA a (ps_set_next z0 ((ps_next z0) + (1 : Int32)))) := hD
          refine lv_goto (tgt := 0) hx hb dX4_advance_35 (by decide) ?_
          exact ih _ _ _ _ hf hP hD hS (lv_sub hl [0] rfl)
  have E0 : ∀ (H : Heap) (locs : List Loc), va_P D vwCl (w_Parser dA a ps) H → va_D A (w_Parser dA a ps) → va_S A s.heap H locs → W p l e ({ frames := 1, cells := 0, slots := 0, locals := 20 } : Room) s m ([.ref (a 0)] : List Value).toArray below meth c H locs 0 0 Q (F0 m 0 ls []) := by
    intro H locs hP hD hS
    rw [f_X4_advance] at hf
    exact B_0 4096 _ _ _ _ hf hP hD hS (lv_sub hl [0] rfl)
  exact E0 _ _ hP hD hS

noncomputable def f_X4_isWord_b28 (ps : ParserT) : Nat → Nat → Int32 → Option (Int32)
  | 0, _, _ => none
  | n + 1, i1, v2 => (if (nI (kb_len.getD i1 0)) ≤ v2 then some ((1 : Int32)) else if kb_in? ((ps_start ps) + v2) 900 then if kb_in? v2 (kb_len.getD i1 0) then (if ((ps_text ps) (((ps_start ps) + v2)).toNatClampNeg) = (kb_ch i1 (v2).toNatClampNeg) then f_X4_isWord_b28 ps n i1 (v2 + (1 : Int32)) else some ((0 : Int32))) else none else none)
noncomputable def f_X4_isWord (ps : ParserT) (ix0 : Nat) : Option (Int32) := (if (ps_kind ps) = (1 : Int32) then (if ((ps_next ps) - (ps_start ps)) = (nI (kb_len.getD ix0 0)) then f_X4_isWord_b28 ps 4096 ix0 (0 : Int32) else some ((0 : Int32))) else some ((0 : Int32)))
set_option maxHeartbeats 4000000 in
set_option maxRecDepth 100000 in
theorem c_X4_isWord (l : Launch) (D : va_G) (dA : Nat → ClassId) (sz : Nat) (a : Nat → Nat) (ps : ParserT) (ix0 : Nat) (hix0 : ix0 < kb_N) (rv : Int32) (hf : f_X4_isWord ps ix0 = some (rv)) : kb_Mi l yX4_isWord cX4_isWord 3 (some .boolean) ({ frames := 4, cells := 0, slots := 0, locals := 85 } : Room) D dA [.ref (a 0), .ref (dA (100 + ix0))] sz (w_Parser dA a ps) 0 0 rv (w_Parser dA a ps) := by
  refine Met.ofW (cc := cX4_isWord) (maxL := 3) (ret := (some .boolean)) (by decide) rfl ?_
  intro p e s m args below meth c s₁ B hml hv
  obtain ⟨rfl, hsz, hP, hK, hD0, hE⟩ := hv
  have hx := B.exec
  have hb := B.bytes
  have hr := B.returns
  have hown : s.vm.findClass RX4 = some m.cls := findClass_of_methodNamed B.named
  have hlocks := B.notSynchronized
  have hts : ∀ w ∈ kb_gw, w.before ([.ref (a 0), .ref (dA (100 + ix0))] : List Value).toArray s = true := fun w hw => hK.2.1 w hw _
  subst hsz
  have hD := hD0.self (sz := s.heap.size)
  generalize hAe : va_A (w_Parser dA a ps) s.heap.size = A at hD hE ⊢
  have hA : ∀ q : Nat, s.heap.size ≤ q → A q := fun q h => by rw [← hAe]; exact Or.inr h
  have hS : va_S A s.heap s.heap [] := va_S.rf
  have hl := lv_entry ([.ref (a 0), .ref (dA (100 + ix0))]) (n := 3) (Nat.le_of_ble_eq_true rfl)
  rw [lg_entry_eq]
  generalize (lg_sl ([.ref (a 0), .ref (dA (100 + ix0))]) ++ List.replicate (3 - (lg_sl ([.ref (a 0), .ref (dA (100 + ix0))])).length) Slot.unset).toArray = ls at hl ⊢
  have hl : lv_has ls 3 [(0, .ref (a 0)), (1, .ref (dA (100 + ix0)))] := hl
  generalize hQ : MQ below (va_Qi (fun r (_ : Unit) => r = rv) (kb_B D A (w_Parser dA a ps)) A) ([.ref (a 0), .ref (dA (100 + ix0))] : List Value).toArray s 0 0 A = Q
  show W p l e ({ frames := 4, cells := 0, slots := 0, locals := 85 } : Room) s m ([.ref (a 0), .ref (dA (100 + ix0))] : List Value).toArray below meth c s.heap [] 0 0 Q (F0 m 0 ls [])
  have RET : ∀ (r2 : Int32) (H : Heap) (locs : List Loc) (ls : Array Slot) (pc : Nat), some (r2) = some (rv) → va_P D vwCl (w_Parser dA a ps) H → va_D A (w_Parser dA a ps) → va_S A s.heap H locs → kb_01 r2 → decode cX4_isWord pc = .ok (.ireturn, 1) → W p l e ({ frames := 4, cells := 0, slots := 0, locals := 85 } : Room) s m ([.ref (a 0), .ref (dA (100 + ix0))] : List Value).toArray below meth c H locs 0 0 Q (F0 m pc ls [.int r2]) := by
    intro r2 H locs ls pc hq hP hD hS h01 hd
    cases hq
    rw [← hQ]
    exact W.zret (ty := .boolean) hx hb hr (kb_nz h01) (fun t ht hW => ⟨⟨_, (), rfl, rfl, by rw [ht]; exact hP, hD⟩, hS.F ht⟩) hS.2.2 hd
  have B_28 : ∀ (n : Nat) (i1 : Nat) (v2 : Int32) (H : Heap) (locs : List Loc) (ls : Array Slot), i1 < kb_N → f_X4_isWord_b28 ps n i1 v2 = some (rv) → va_P D vwCl (w_Parser dA a ps) H → va_D A (w_Parser dA a ps) → va_S A s.heap H locs → lv_has ls 3 [(0, .ref (a 0)), (1, .ref (dA (100 + i1))), (2, .int v2)] → W p l e ({ frames := 4, cells := 0, slots := 0, locals := 85 } : Room) s m ([.ref (a 0), .ref (dA (100 + ix0))] : List Value).toArray below meth c H locs 0 0 Q (F0 m 28 ls []) := by
    intro n
    induction n with
    | zero =>
      intro i1 v2 H locs ls hi1 hf
      exact absurd hf (by simp [f_X4_isWord_b28])
    | succ n ih =>
      intro i1 v2 H locs ls hi1 hf hP hD hS hl
      rw [f_X4_isWord_b28] at hf
      refine lv_iload_n hx hb dX4_isWord_28 rfl (lv_at hl 2 rfl) ?_
      refine lv_aload_n hx hb dX4_isWord_29 rfl (lv_at hl 1 rfl) ?_
      refine kb_ki (kb_rK (n := 0) (As := []) (rest := [.int v2]) hx hb hml hown hK hi1 (c_J0_length_8abf5 l D dA H.size i1 hi1) ⟨ww_2_237, ww_2_234, ww_2_235, ww_2_236, ww_1_14, rfl, by decide, by decide⟩ rfl rfl (by decide +kernel) ⟨Nat.le_of_ble_eq_true rfl, Nat.le_of_ble_eq_true rfl⟩ hS hA hE rfl hl.1 rfl (Nat.le_of_ble_eq_true rfl) dX4_isWord_30 ⟨Nat.le_of_ble_eq_true rfl, Nat.le_of_ble_eq_true rfl⟩) hP hD hS hA (fun H locs hP hD hS => ?_)
      refine lv_icmp_ge (tgt := 63) hx hb dX4_isWord_33 (by decide) (fun c_3 => ?_) (fun c_3 => ?_)
      · rw [if_pos c_3] at hf
        refine lv_iconst (v := (1 : Int32)) hx hb dX4_isWord_63 (by decide) ?_
        exact RET _ H _ ls 64 hf hP hD hS (by decide) dX4_isWord_64
      · rw [if_neg c_3] at hf
        refine lv_aload_n hx hb dX4_isWord_36 rfl (lv_at hl 0 rfl) ?_
        refine va_get (D := D) (ci := 4) (v := .ref (a 1)) (C := RX4) (T := TX4) (N := 10) hx hb hts kb_inX4 hown hK.1 hP 0 rfl rfl 3 (by decide) (hK.2.w ww_1_45 rfl _) (fun _ h9 => h9) rfl dX4_isWord_37 ?_
        refine lv_aload_n hx hb dX4_isWord_40 rfl (lv_at hl 0 rfl) ?_
        refine va_get (D := D) (ci := 4) (v := .int (ps_start ps)) (C := RX4) (T := TX4) (N := 10) hx hb hts kb_inX4 hown hK.1 hP 0 rfl rfl 7 (by decide) (hK.2.w ww_1_49 rfl _) (fun _ h9 => h9) rfl dX4_isWord_41 ?_
        refine lv_iload_n hx hb dX4_isWord_44 rfl (lv_at hl 2 rfl) ?_
        refine lv_iadd hx hb dX4_isWord_45 ?_
        obtain ⟨h_4, hf⟩ := kb_if hf
        refine va_bald (D := D) hx hb hK.1 hP 1 1 rfl rfl h_4 dX4_isWord_46 ?_
        refine lv_aload_n hx hb dX4_isWord_47 rfl (lv_at hl 1 rfl) ?_
        refine lv_iload_n hx hb dX4_isWord_48 rfl (lv_at hl 2 rfl) ?_
        obtain ⟨h_5, hf⟩ := kb_if hf
        refine kb_ki (kb_rK (n := 1) (As := [.int v2]) (rest := [.int ((ps_text ps) (((ps_start ps) + v2)).toNatClampNeg)]) hx hb hml hown hK hi1 (c_J0_charAt_5068e l D dA H.size i1 hi1 v2 h_5) ⟨ww_3_7, ww_3_4, ww_3_5, ww_3_6, ww_1_14, rfl, by decide, by decide⟩ rfl rfl (by decide +kernel) ⟨Nat.le_of_ble_eq_true rfl, Nat.le_of_ble_eq_true rfl⟩ hS hA hE rfl hl.1 rfl (Nat.le_of_ble_eq_true rfl) dX4_isWord_49 ⟨Nat.le_of_ble_eq_true rfl, Nat.le_of_ble_eq_true rfl⟩) hP hD hS hA (fun H locs hP hD hS => ?_)
        refine lv_icmp_eq (tgt := 57) hx hb dX4_isWord_52 (by decide) (fun c_6 => ?_) (fun c_6 => ?_)
        · rw [if_pos c_6] at hf
          refine lv_iinc (v := (v2 + (1 : Int32))) (lv' := [(2, .int (v2 + (1 : Int32))), (0, .ref (a 0)), (1, .ref (dA (100 + i1)))]) hx hb dX4_isWord_57 hl (k := 2) rfl (by rfl) (by decide) rfl (fun ls hl => ?_)
          refine lv_goto (tgt := 28) hx hb dX4_isWord_60 (by decide) ?_
          exact ih _ _ _ _ _ hi1 hf hP hD hS (lv_sub hl [1, 2, 0] rfl)
        · rw [if_neg c_6] at hf
          refine lv_iconst (v := (0 : Int32)) hx hb dX4_isWord_55 (by decide) ?_
          exact RET _ H _ ls 56 hf hP hD hS (by decide) dX4_isWord_56
  have E0 : ∀ (H : Heap) (locs : List Loc), va_P D vwCl (w_Parser dA a ps) H → va_D A (w_Parser dA a ps) → va_S A s.heap H locs → W p l e ({ frames := 4, cells := 0, slots := 0, locals := 85 } : Room) s m ([.ref (a 0), .ref (dA (100 + ix0))] : List Value).toArray below meth c H locs 0 0 Q (F0 m 0 ls []) := by
    intro H locs hP hD hS
    rw [f_X4_isWord] at hf
    refine lv_aload_n hx hb dX4_isWord_0 rfl (lv_at hl 0 rfl) ?_
    refine va_get (D := D) (ci := 4) (v := .int (ps_kind ps)) (C := RX4) (T := TX4) (N := 10) hx hb hts kb_inX4 hown hK.1 hP 0 rfl rfl 6 (by decide) (hK.2.w ww_1_48 rfl _) (fun _ h9 => h9) rfl dX4_isWord_1 ?_
    refine lv_iconst (v := (1 : Int32)) hx hb dX4_isWord_4 (by decide) ?_
    refine lv_icmp_ne (tgt := 24) hx hb dX4_isWord_5 (by decide) (fun c_1 => ?_) (fun c_1 => ?_)
    · rw [if_neg c_1] at hf
      refine lv_iconst (v := (0 : Int32)) hx hb dX4_isWord_24 (by decide) ?_
      exact RET _ H _ ls 25 hf hP hD hS (by decide) dX4_isWord_25
    · rw [if_pos c_1] at hf
      refine lv_aload_n hx hb dX4_isWord_8 rfl (lv_at hl 0 rfl) ?_
      refine va_get (D := D) (ci := 4) (v := .int (ps_next ps)) (C := RX4) (T := TX4) (N := 10) hx hb hts kb_inX4 hown hK.1 hP 0 rfl rfl 5 (by decide) (hK.2.w ww_1_47 rfl _) (fun _ h9 => h9) rfl dX4_isWord_9 ?_
      refine lv_aload_n hx hb dX4_isWord_12 rfl (lv_at hl 0 rfl) ?_
      refine va_get (D := D) (ci := 4) (v := .int (ps_start ps)) (C := RX4) (T := TX4) (N := 10) hx hb hts kb_inX4 hown hK.1 hP 0 rfl rfl 7 (by decide) (hK.2.w ww_1_49 rfl _) (fun _ h9 => h9) rfl dX4_isWord_13 ?_
      refine lv_isub hx hb dX4_isWord_16 ?_
      refine lv_aload_n hx hb dX4_isWord_17 rfl (lv_at hl 1 rfl) ?_
      refine kb_ki (kb_rK (n := 0) (As := []) (rest := [.int ((ps_next ps) - (ps_start ps))]) hx hb hml hown hK hix0 (c_J0_length_8abf5 l D dA H.size ix0 hix0) ⟨ww_2_237, ww_2_234, ww_2_235, ww_2_236, ww_1_14, rfl, by decide, by decide⟩ rfl rfl (by decide +kernel) ⟨Nat.le_of_ble_eq_true rfl, Nat.le_of_ble_eq_true rfl⟩ hS hA hE rfl hl.1 rfl (Nat.le_of_ble_eq_true rfl) dX4_isWord_18 ⟨Nat.le_of_ble_eq_true rfl, Nat.le_of_ble_eq_true rfl⟩) hP hD hS hA (fun H locs hP hD hS => ?_)
      refine lv_icmp_eq (tgt := 26) hx hb dX4_isWord_21 (by decide) (fun c_2 => ?_) (fun c_2 => ?_)
      · rw [if_pos c_2] at hf
        refine lv_iconst (v := (0 : Int32)) hx hb dX4_isWord_26 (by decide) ?_
        refine lv_istore_n (lv' := [(2, .int (0 : Int32)), (0, .ref (a 0)), (1, .ref (dA (100 + ix0)))]) hx hb dX4_isWord_27 rfl hl (by decide) rfl (fun ls hl => ?_)
        exact B_28 4096 _ _ _ _ _ hix0 hf hP hD hS (lv_sub hl [1, 2, 0] rfl)
      · rw [if_neg c_2] at hf
        refine lv_iconst (v := (0 : Int32)) hx hb dX4_isWord_24 (by decide) ?_
        exact RET _ H _ ls 25 hf hP hD hS (by decide) dX4_isWord_25
  exact E0 _ _ hP hD hS
