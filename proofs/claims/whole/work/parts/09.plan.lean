noncomputable def f_J6_bitCount_0f7a4 (x0 : Int32) : Option (Int32) := some (((((((((x0 - (((x0.toUInt32 >>> ((1 : Int32).toUInt32 &&& Int32.toUInt32 31)).toInt32) &&& (1431655765 : Int32))) &&& (858993459 : Int32)) + ((((x0 - (((x0.toUInt32 >>> ((1 : Int32).toUInt32 &&& Int32.toUInt32 31)).toInt32) &&& (1431655765 : Int32))).toUInt32 >>> ((2 : Int32).toUInt32 &&& Int32.toUInt32 31)).toInt32) &&& (858993459 : Int32))) + (((((x0 - (((x0.toUInt32 >>> ((1 : Int32).toUInt32 &&& Int32.toUInt32 31)).toInt32) &&& (1431655765 : Int32))) &&& (858993459 : Int32)) + ((((x0 - (((x0.toUInt32 >>> ((1 : Int32).toUInt32 &&& Int32.toUInt32 31)).toInt32) &&& (1431655765 : Int32))).toUInt32 >>> ((2 : Int32).toUInt32 &&& Int32.toUInt32 31)).toInt32) &&& (858993459 : Int32))).toUInt32 >>> ((4 : Int32).toUInt32 &&& Int32.toUInt32 31)).toInt32)) &&& (252645135 : Int32)) + (((((((x0 - (((x0.toUInt32 >>> ((1 : Int32).toUInt32 &&& Int32.toUInt32 31)).toInt32) &&& (1431655765 : Int32))) &&& (858993459 : Int32)) + ((((x0 - (((x0.toUInt32 >>> ((1 : Int32).toUInt32 &&& Int32.toUInt32 31)).toInt32) &&& (1431655765 : Int32))).toUInt32 >>> ((2 : Int32).toUInt32 &&& Int32.toUInt32 31)).toInt32) &&& (858993459 : Int32))) + (((((x0 - (((x0.toUInt32 >>> ((1 : Int32).toUInt32 &&& Int32.toUInt32 31)).toInt32) &&& (1431655765 : Int32))) &&& (858993459 : Int32)) + ((((x0 - (((x0.toUInt32 >>> ((1 : Int32).toUInt32 &&& Int32.toUInt32 31)).toInt32) &&& (1431655765 : Int32))).toUInt32 >>> ((2 : Int32).toUInt32 &&& Int32.toUInt32 31)).toInt32) &&& (858993459 : Int32))).toUInt32 >>> ((4 : Int32).toUInt32 &&& Int32.toUInt32 31)).toInt32)) &&& (252645135 : Int32)).toUInt32 >>> ((8 : Int32).toUInt32 &&& Int32.toUInt32 31)).toInt32)) + ((((((((x0 - (((x0.toUInt32 >>> ((1 : Int32).toUInt32 &&& Int32.toUInt32 31)).toInt32) &&& (1431655765 : Int32))) &&& (858993459 : Int32)) + ((((x0 - (((x0.toUInt32 >>> ((1 : Int32).toUInt32 &&& Int32.toUInt32 31)).toInt32) &&& (1431655765 : Int32))).toUInt32 >>> ((2 : Int32).toUInt32 &&& Int32.toUInt32 31)).toInt32) &&& (858993459 : Int32))) + (((((x0 - (((x0.toUInt32 >>> ((1 : Int32).toUInt32 &&& Int32.toUInt32 31)).toInt32) &&& (1431655765 : Int32))) &&& (858993459 : Int32)) + ((((x0 - (((x0.toUInt32 >>> ((1 : Int32).toUInt32 &&& Int32.toUInt32 31)).toInt32) &&& (1431655765 : Int32))).toUInt32 >>> ((2 : Int32).toUInt32 &&& Int32.toUInt32 31)).toInt32) &&& (858993459 : Int32))).toUInt32 >>> ((4 : Int32).toUInt32 &&& Int32.toUInt32 31)).toInt32)) &&& (252645135 : Int32)) + (((((((x0 - (((x0.toUInt32 >>> ((1 : Int32).toUInt32 &&& Int32.toUInt32 31)).toInt32) &&& (1431655765 : Int32))) &&& (858993459 : Int32)) + ((((x0 - (((x0.toUInt32 >>> ((1 : Int32).toUInt32 &&& Int32.toUInt32 31)).toInt32) &&& (1431655765 : Int32))).toUInt32 >>> ((2 : Int32).toUInt32 &&& Int32.toUInt32 31)).toInt32) &&& (858993459 : Int32))) + (((((x0 - (((x0.toUInt32 >>> ((1 : Int32).toUInt32 &&& Int32.toUInt32 31)).toInt32) &&& (1431655765 : Int32))) &&& (858993459 : Int32)) + ((((x0 - (((x0.toUInt32 >>> ((1 : Int32).toUInt32 &&& Int32.toUInt32 31)).toInt32) &&& (1431655765 : Int32))).toUInt32 >>> ((2 : Int32).toUInt32 &&& Int32.toUInt32 31)).toInt32) &&& (858993459 : Int32))).toUInt32 >>> ((4 : Int32).toUInt32 &&& Int32.toUInt32 31)).toInt32)) &&& (252645135 : Int32)).toUInt32 >>> ((8 : Int32).toUInt32 &&& Int32.toUInt32 31)).toInt32)).toUInt32 >>> ((16 : Int32).toUInt32 &&& Int32.toUInt32 31)).toInt32)) &&& (63 : Int32)))
set_option maxHeartbeats 4000000 in
set_option maxRecDepth 100000 in
theorem c_J6_bitCount_0f7a4 (l : Launch) (D : va_G) (dA : Nat → ClassId) (sz : Nat) (x0 : Int32) (rv : Int32) (hf : f_J6_bitCount_0f7a4 x0 = some (rv)) : kb_Mi l yJ6_bitCount_0f7a4 cJ6_bitCount_0f7a4 1 (some .int) ({ frames := 0, cells := 0, slots := 0, locals := 0 } : Room) D dA [.int x0] sz ([] : va_W) 0 0 rv ([] : va_W) := by
  refine Met.ofW (cc := cJ6_bitCount_0f7a4) (maxL := 1) (ret := (some .int)) (by decide) rfl ?_
  intro p e s m args below meth c s₁ B hml hv
  obtain ⟨rfl, hsz, hP, hK, hD0, hE⟩ := hv
  have hx := B.exec
  have hb := B.bytes
  have hr := B.returns
  have hown : s.vm.findClass RJ6 = some m.cls := findClass_of_methodNamed B.named
  have hlocks := B.notSynchronized
  have hts : ∀ w ∈ kb_gw, w.before ([.int x0] : List Value).toArray s = true := fun w hw => hK.2.1 w hw _
  subst hsz
  have hD := hD0.self (sz := s.heap.size)
  generalize hAe : va_A ([] : va_W) s.heap.size = A at hD hE ⊢
  have hA : ∀ q : Nat, s.heap.size ≤ q → A q := fun q h => by rw [← hAe]; exact Or.inr h
  have hS : va_S A s.heap s.heap [] := va_S.rf
  have hl := lv_entry ([.int x0]) (n := 1) (Nat.le_of_ble_eq_true rfl)
  rw [lg_entry_eq]
  generalize (lg_sl ([.int x0]) ++ List.replicate (1 - (lg_sl ([.int x0])).length) Slot.unset).toArray = ls at hl ⊢
  have hl : lv_has ls 1 [(0, .int x0)] := hl
  generalize hQ : MQ below (va_Qi (fun r (_ : Unit) => r = rv) (kb_B D A ([] : va_W)) A) ([.int x0] : List Value).toArray s 0 0 A = Q
  show W p l e ({ frames := 0, cells := 0, slots := 0, locals := 0 } : Room) s m ([.int x0] : List Value).toArray below meth c s.heap [] 0 0 Q (F0 m 0 ls [])
  have RET : ∀ (r2 : Int32) (H : Heap) (locs : List Loc) (ls : Array Slot) (pc : Nat), some (r2) = some (rv) → va_P D vwCl ([] : va_W) H → va_D A ([] : va_W) → va_S A s.heap H locs → decode cJ6_bitCount_0f7a4 pc = .ok (.ireturn, 1) → W p l e ({ frames := 0, cells := 0, slots := 0, locals := 0 } : Room) s m ([.int x0] : List Value).toArray below meth c H locs 0 0 Q (F0 m pc ls [.int r2]) := by
    intro r2 H locs ls pc hq hP hD hS hd
    cases hq
    rw [← hQ]
    exact W.iret hx hb hr (fun t ht hW => ⟨⟨_, (), rfl, rfl, by rw [ht]; exact hP, hD⟩, hS.F ht⟩) hS.2.2 hd
  have E0 : ∀ (H : Heap) (locs : List Loc), va_P D vwCl ([] : va_W) H → va_D A ([] : va_W) → va_S A s.heap H locs → W p l e ({ frames := 0, cells := 0, slots := 0, locals := 0 } : Room) s m ([.int x0] : List Value).toArray below meth c H locs 0 0 Q (F0 m 0 ls []) := by
    intro H locs hP hD hS
    rw [f_J6_bitCount_0f7a4] at hf
    refine lv_iload_n hx hb dJ6_bitCount_0f7a4_0 rfl (lv_at hl 0 rfl) ?_
    refine lv_iload_n hx hb dJ6_bitCount_0f7a4_1 rfl (lv_at hl 0 rfl) ?_
    refine lv_iconst (v := (1 : Int32)) hx hb dJ6_bitCount_0f7a4_2 (by decide) ?_
    refine lv_iushr hx hb dJ6_bitCount_0f7a4_3 rfl ?_
    refine lv_ldcw (v := (1431655765 : Int32)) hx hb hown (hK.2.w ww_4_167 rfl _) dJ6_bitCount_0f7a4_4 ?_
    refine lv_iand hx hb dJ6_bitCount_0f7a4_7 ?_
    refine lv_isub hx hb dJ6_bitCount_0f7a4_8 ?_
    refine lv_istore_n (lv' := [(0, .int (x0 - (((x0.toUInt32 >>> ((1 : Int32).toUInt32 &&& Int32.toUInt32 31)).toInt32) &&& (1431655765 : Int32))))]) hx hb dJ6_bitCount_0f7a4_9 rfl hl (by decide) rfl (fun ls hl => ?_)
    refine lv_iload_n hx hb dJ6_bitCount_0f7a4_10 rfl (lv_at hl 0 rfl) ?_
    refine lv_ldcw (v := (858993459 : Int32)) hx hb hown (hK.2.w ww_4_168 rfl _) dJ6_bitCount_0f7a4_11 ?_
    refine lv_iand hx hb dJ6_bitCount_0f7a4_14 ?_
    refine lv_iload_n hx hb dJ6_bitCount_0f7a4_15 rfl (lv_at hl 0 rfl) ?_
    refine lv_iconst (v := (2 : Int32)) hx hb dJ6_bitCount_0f7a4_16 (by decide) ?_
    refine lv_iushr hx hb dJ6_bitCount_0f7a4_17 rfl ?_
    refine lv_ldcw (v := (858993459 : Int32)) hx hb hown (hK.2.w ww_4_168 rfl _) dJ6_bitCount_0f7a4_18 ?_
    refine lv_iand hx hb dJ6_bitCount_0f7a4_21 ?_
    refine lv_iadd hx hb dJ6_bitCount_0f7a4_22 ?_
    refine lv_istore_n (lv' := [(0, .int (((x0 - (((x0.toUInt32 >>> ((1 : Int32).toUInt32 &&& Int32.toUInt32 31)).toInt32) &&& (1431655765 : Int32))) &&& (858993459 : Int32)) + ((((x0 - (((x0.toUInt32 >>> ((1 : Int32).toUInt32 &&& Int32.toUInt32 31)).toInt32) &&& (1431655765 : Int32))).toUInt32 >>> ((2 : Int32).toUInt32 &&& Int32.toUInt32 31)).toInt32) &&& (858993459 : Int32))))]) hx hb dJ6_bitCount_0f7a4_23 rfl hl (by decide) rfl (fun ls hl => ?_)
    refine lv_iload_n hx hb dJ6_bitCount_0f7a4_24 rfl (lv_at hl 0 rfl) ?_
    refine lv_iload_n hx hb dJ6_bitCount_0f7a4_25 rfl (lv_at hl 0 rfl) ?_
    refine lv_iconst (v := (4 : Int32)) hx hb dJ6_bitCount_0f7a4_26 (by decide) ?_
    refine lv_iushr hx hb dJ6_bitCount_0f7a4_27 rfl ?_
    refine lv_iadd hx hb dJ6_bitCount_0f7a4_28 ?_
    refine lv_ldcw (v := (252645135 : Int32)) hx hb hown (hK.2.w ww_4_169 rfl _) dJ6_bitCount_0f7a4_29 ?_
    refine lv_iand hx hb dJ6_bitCount_0f7a4_32 ?_
    refine lv_istore_n (lv' := [(0, .int (((((x0 - (((x0.toUInt32 >>> ((1 : Int32).toUInt32 &&& Int32.toUInt32 31)).toInt32) &&& (1431655765 : Int32))) &&& (858993459 : Int32)) + ((((x0 - (((x0.toUInt32 >>> ((1 : Int32).toUInt32 &&& Int32.toUInt32 31)).toInt32) &&& (1431655765 : Int32))).toUInt32 >>> ((2 : Int32).toUInt32 &&& Int32.toUInt32 31)).toInt32) &&& (858993459 : Int32))) + (((((x0 - (((x0.toUInt32 >>> ((1 : Int32).toUInt32 &&& Int32.toUInt32 31)).toInt32) &&& (1431655765 : Int32))) &&& (858993459 : Int32)) + ((((x0 - (((x0.toUInt32 >>> ((1 : Int32).toUInt32 &&& Int32.toUInt32 31)).toInt32) &&& (1431655765 : Int32))).toUInt32 >>> ((2 : Int32).toUInt32 &&& Int32.toUInt32 31)).toInt32) &&& (858993459 : Int32))).toUInt32 >>> ((4 : Int32).toUInt32 &&& Int32.toUInt32 31)).toInt32)) &&& (252645135 : Int32)))]) hx hb dJ6_bitCount_0f7a4_33 rfl hl (by decide) rfl (fun ls hl => ?_)
    refine lv_iload_n hx hb dJ6_bitCount_0f7a4_34 rfl (lv_at hl 0 rfl) ?_
    refine lv_iload_n hx hb dJ6_bitCount_0f7a4_35 rfl (lv_at hl 0 rfl) ?_
    refine lv_bipush (v := (8 : Int32)) hx hb dJ6_bitCount_0f7a4_36 (by decide) ?_
    refine lv_iushr hx hb dJ6_bitCount_0f7a4_38 rfl ?_
    refine lv_iadd hx hb dJ6_bitCount_0f7a4_39 ?_
    refine lv_istore_n (lv' := [(0, .int ((((((x0 - (((x0.toUInt32 >>> ((1 : Int32).toUInt32 &&& Int32.toUInt32 31)).toInt32) &&& (1431655765 : Int32))) &&& (858993459 : Int32)) + ((((x0 - (((x0.toUInt32 >>> ((1 : Int32).toUInt32 &&& Int32.toUInt32 31)).toInt32) &&& (1431655765 : Int32))).toUInt32 >>> ((2 : Int32).toUInt32 &&& Int32.toUInt32 31)).toInt32) &&& (858993459 : Int32))) + (((((x0 - (((x0.toUInt32 >>> ((1 : Int32).toUInt32 &&& Int32.toUInt32 31)).toInt32) &&& (1431655765 : Int32))) &&& (858993459 : Int32)) + ((((x0 - (((x0.toUInt32 >>> ((1 : Int32).toUInt32 &&& Int32.toUInt32 31)).toInt32) &&& (1431655765 : Int32))).toUInt32 >>> ((2 : Int32).toUInt32 &&& Int32.toUInt32 31)).toInt32) &&& (858993459 : Int32))).toUInt32 >>> ((4 : Int32).toUInt32 &&& Int32.toUInt32 31)).toInt32)) &&& (252645135 : Int32)) + (((((((x0 - (((x0.toUInt32 >>> ((1 : Int32).toUInt32 &&& Int32.toUInt32 31)).toInt32) &&& (1431655765 : Int32))) &&& (858993459 : Int32)) + ((((x0 - (((x0.toUInt32 >>> ((1 : Int32).toUInt32 &&& Int32.toUInt32 31)).toInt32) &&& (1431655765 : Int32))).toUInt32 >>> ((2 : Int32).toUInt32 &&& Int32.toUInt32 31)).toInt32) &&& (858993459 : Int32))) + (((((x0 - (((x0.toUInt32 >>> ((1 : Int32).toUInt32 &&& Int32.toUInt32 31)).toInt32) &&& (1431655765 : Int32))) &&& (858993459 : Int32)) + ((((x0 - (((x0.toUInt32 >>> ((1 : Int32).toUInt32 &&& Int32.toUInt32 31)).toInt32) &&& (1431655765 : Int32))).toUInt32 >>> ((2 : Int32).toUInt32 &&& Int32.toUInt32 31)).toInt32) &&& (858993459 : Int32))).toUInt32 >>> ((4 : Int32).toUInt32 &&& Int32.toUInt32 31)).toInt32)) &&& (252645135 : Int32)).toUInt32 >>> ((8 : Int32).toUInt32 &&& Int32.toUInt32 31)).toInt32)))]) hx hb dJ6_bitCount_0f7a4_40 rfl hl (by decide) rfl (fun ls hl => ?_)
    refine lv_iload_n hx hb dJ6_bitCount_0f7a4_41 rfl (lv_at hl 0 rfl) ?_
    refine lv_iload_n hx hb dJ6_bitCount_0f7a4_42 rfl (lv_at hl 0 rfl) ?_
    refine lv_bipush (v := (16 : Int32)) hx hb dJ6_bitCount_0f7a4_43 (by decide) ?_
    refine lv_iushr hx hb dJ6_bitCount_0f7a4_45 rfl ?_
    refine lv_iadd hx hb dJ6_bitCount_0f7a4_46 ?_
    refine lv_istore_n (lv' := [(0, .int (((((((x0 - (((x0.toUInt32 >>> ((1 : Int32).toUInt32 &&& Int32.toUInt32 31)).toInt32) &&& (1431655765 : Int32))) &&& (858993459 : Int32)) + ((((x0 - (((x0.toUInt32 >>> ((1 : Int32).toUInt32 &&& Int32.toUInt32 31)).toInt32) &&& (1431655765 : Int32))).toUInt32 >>> ((2 : Int32).toUInt32 &&& Int32.toUInt32 31)).toInt32) &&& (858993459 : Int32))) + (((((x0 - (((x0.toUInt32 >>> ((1 : Int32).toUInt32 &&& Int32.toUInt32 31)).toInt32) &&& (1431655765 : Int32))) &&& (858993459 : Int32)) + ((((x0 - (((x0.toUInt32 >>> ((1 : Int32).toUInt32 &&& Int32.toUInt32 31)).toInt32) &&& (1431655765 : Int32))).toUInt32 >>> ((2 : Int32).toUInt32 &&& Int32.toUInt32 31)).toInt32) &&& (858993459 : Int32))).toUInt32 >>> ((4 : Int32).toUInt32 &&& Int32.toUInt32 31)).toInt32)) &&& (252645135 : Int32)) + (((((((x0 - (((x0.toUInt32 >>> ((1 : Int32).toUInt32 &&& Int32.toUInt32 31)).toInt32) &&& (1431655765 : Int32))) &&& (858993459 : Int32)) + ((((x0 - (((x0.toUInt32 >>> ((1 : Int32).toUInt32 &&& Int32.toUInt32 31)).toInt32) &&& (1431655765 : Int32))).toUInt32 >>> ((2 : Int32).toUInt32 &&& Int32.toUInt32 31)).toInt32) &&& (858993459 : Int32))) + (((((x0 - (((x0.toUInt32 >>> ((1 : Int32).toUInt32 &&& Int32.toUInt32 31)).toInt32) &&& (1431655765 : Int32))) &&& (858993459 : Int32)) + ((((x0 - (((x0.toUInt32 >>> ((1 : Int32).toUInt32 &&& Int32.toUInt32 31)).toInt32) &&& (1431655765 : Int32))).toUInt32 >>> ((2 : Int32).toUInt32 &&& Int32.toUInt32 31)).toInt32) &&& (858993459 : Int32))).toUInt32 >>> ((4 : Int32).toUInt32 &&& Int32.toUInt32 31)).toInt32)) &&& (252645135 : Int32)).toUInt32 >>> ((8 : Int32).toUInt32 &&& Int32.toUInt32 31)).toInt32)) + ((((((((x0 - (((x0.toUInt32 >>> ((1 : Int32).toUInt32 &&& Int32.toUInt32 31)).toInt32) &&& (1431655765 : Int32))) &&& (858993459 : Int32)) + ((((x0 - (((x0.toUInt32 >>> ((1 : Int32).toUInt32 &&& Int32.toUInt32 31)).toInt32) &&& (1431655765 : Int32))).toUInt32 >>> ((2 : Int32).toUInt32 &&& Int32.toUInt32 31)).toInt32) &&& (858993459 : Int32))) + (((((x0 - (((x0.toUInt32 >>> ((1 : Int32).toUInt32 &&& Int32.toUInt32 31)).toInt32) &&& (1431655765 : Int32))) &&& (858993459 : Int32)) + ((((x0 - (((x0.toUInt32 >>> ((1 : Int32).toUInt32 &&& Int32.toUInt32 31)).toInt32) &&& (1431655765 : Int32))).toUInt32 >>> ((2 : Int32).toUInt32 &&& Int32.toUInt32 31)).toInt32) &&& (858993459 : Int32))).toUInt32 >>> ((4 : Int32).toUInt32 &&& Int32.toUInt32 31)).toInt32)) &&& (252645135 : Int32)) + (((((((x0 - (((x0.toUInt32 >>> ((1 : Int32).toUInt32 &&& Int32.toUInt32 31)).toInt32) &&& (1431655765 : Int32))) &&& (858993459 : Int32)) + ((((x0 - (((x0.toUInt32 >>> ((1 : Int32).toUInt32 &&& Int32.toUInt32 31)).toInt32) &&& (1431655765 : Int32))).toUInt32 >>> ((2 : Int32).toUInt32 &&& Int32.toUInt32 31)).toInt32) &&& (858993459 : Int32))) + (((((x0 - (((x0.toUInt32 >>> ((1 : Int32).toUInt32 &&& Int32.toUInt32 31)).toInt32) &&& (1431655765 : Int32))) &&& (858993459 : Int32)) + ((((x0 - (((x0.toUInt32 >>> ((1 : Int32).toUInt32 &&& Int32.toUInt32 31)).toInt32) &&& (1431655765 : Int32))).toUInt32 >>> ((2 : Int32).toUInt32 &&& Int32.toUInt32 31)).toInt32) &&& (858993459 : Int32))).toUInt32 >>> ((4 : Int32).toUInt32 &&& Int32.toUInt32 31)).toInt32)) &&& (252645135 : Int32)).toUInt32 >>> ((8 : Int32).toUInt32 &&& Int32.toUInt32 31)).toInt32)).toUInt32 >>> ((16 : Int32).toUInt32 &&& Int32.toUInt32 31)).toInt32)))]) hx hb dJ6_bitCount_0f7a4_47 rfl hl (by decide) rfl (fun ls hl => ?_)
    refine lv_iload_n hx hb dJ6_bitCount_0f7a4_48 rfl (lv_at hl 0 rfl) ?_
    refine lv_bipush (v := (63 : Int32)) hx hb dJ6_bitCount_0f7a4_49 (by decide) ?_
    refine lv_iand hx hb dJ6_bitCount_0f7a4_51 ?_
    exact RET _ H _ ls 52 hf hP hD hS dJ6_bitCount_0f7a4_52
  exact E0 _ _ hP hD hS

noncomputable def f_X5_clear_b20 (z0 : PlanT) : Option (PlanT) := some ((pl_set_holderCount z0 (0 : Int32)))
noncomputable def f_X5_clear_b10 (z0 : PlanT) : Option (PlanT) := f_X5_clear_b20 (pl_set_friendCount (pl_set_riderCount z0 (0 : Int32)) (0 : Int32))
noncomputable def f_X5_clear (pl : PlanT) : Option (PlanT) := f_X5_clear_b10 (pl_set_ruleCount (pl_set_hasCabin pl (0 : Int32)) (0 : Int32))
set_option maxHeartbeats 4000000 in
set_option maxRecDepth 100000 in
theorem c_X5_clear (l : Launch) (D : va_G) (dA : Nat → ClassId) (sz : Nat) (pa : Nat → Nat) (pl : PlanT) (u0 : PlanT) (hf : f_X5_clear pl = some (u0)) : kb_Mv l yX5_clear cX5_clear 1 none ({ frames := 0, cells := 0, slots := 0, locals := 0 } : Room) D dA [.ref (pa 0)] sz (w_Plan dA pa pl) 0 0 (w_Plan dA pa u0) := by
  refine Met.ofW (cc := cX5_clear) (maxL := 1) (ret := none) (by decide) rfl ?_
  intro p e s m args below meth c s₁ B hml hv
  obtain ⟨rfl, hsz, hP, hK, hD0, hE⟩ := hv
  have hx := B.exec
  have hb := B.bytes
  have hr := B.returns
  have hown : s.vm.findClass RX5 = some m.cls := findClass_of_methodNamed B.named
  have hlocks := B.notSynchronized
  have hts : ∀ w ∈ kb_gw, w.before ([.ref (pa 0)] : List Value).toArray s = true := fun w hw => hK.2.1 w hw _
  subst hsz
  have hD := hD0.self (sz := s.heap.size)
  generalize hAe : va_A (w_Plan dA pa pl) s.heap.size = A at hD hE ⊢
  have hA : ∀ q : Nat, s.heap.size ≤ q → A q := fun q h => by rw [← hAe]; exact Or.inr h
  have hS : va_S A s.heap s.heap [] := va_S.rf
  have hl := lv_entry ([.ref (pa 0)]) (n := 1) (Nat.le_of_ble_eq_true rfl)
  rw [lg_entry_eq]
  generalize (lg_sl ([.ref (pa 0)]) ++ List.replicate (1 - (lg_sl ([.ref (pa 0)])).length) Slot.unset).toArray = ls at hl ⊢
  have hl : lv_has ls 1 [(0, .ref (pa 0))] := hl
  generalize hQ : MQ below (va_Qv (fun (_ : Unit) => True) (kb_B D A (w_Plan dA pa u0)) A) ([.ref (pa 0)] : List Value).toArray s 0 0 A = Q
  show W p l e ({ frames := 0, cells := 0, slots := 0, locals := 0 } : Room) s m ([.ref (pa 0)] : List Value).toArray below meth c s.heap [] 0 0 Q (F0 m 0 ls [])
  have RET : ∀ (w0 : PlanT) (H : Heap) (locs : List Loc) (ls : Array Slot) (pc : Nat), some (w0) = some (u0) → va_P D vwCl (w_Plan dA pa w0) H → va_D A (w_Plan dA pa w0) → va_S A s.heap H locs → decode cX5_clear pc = .ok (.return_, 1) → W p l e ({ frames := 0, cells := 0, slots := 0, locals := 0 } : Room) s m ([.ref (pa 0)] : List Value).toArray below meth c H locs 0 0 Q (F0 m pc ls []) := by
    intro w0 H locs ls pc hq hP hD hS hd
    cases hq
    rw [← hQ]
    exact W.vret hx hb hr (fun t ht hW => ⟨⟨(), rfl, trivial, by rw [ht]; exact hP, hD⟩, hS.F ht⟩) hS.2.2 hd
  have B_20 : ∀ (z0 : PlanT) (H : Heap) (locs : List Loc) (ls : Array Slot), f_X5_clear_b20 z0 = some (u0) → va_P D vwCl (w_Plan dA pa z0) H → va_D A (w_Plan dA pa z0) → va_S A s.heap H locs → lv_has ls 1 [(0, .ref (pa 0))] → W p l e ({ frames := 0, cells := 0, slots := 0, locals := 0 } : Room) s m ([.ref (pa 0)] : List Value).toArray below meth c H locs 0 0 Q (F0 m 20 ls []) := by
    intro z0 H locs ls hf hP hD hS hl
    rw [f_X5_clear_b20] at hf
    refine lv_aload_n hx hb dX5_clear_20 rfl (lv_at hl 0 rfl) ?_
    refine lv_iconst (v := (0 : Int32)) hx hb dX5_clear_21 (by decide) ?_
    refine va_put (D := D) (ci := 5) (v := .int (0 : Int32)) (ty := .int) (C := RX5) (T := TX5) (N := 8) hx hb hts kb_inX5 tyX5 tyX5_ok nmX5 hown hK.1 hP hD hS 0 rfl rfl 7 (by decide) (hK.2.w ww_2_1 rfl _) (fun _ h9 => h9) rfl (by decide +kernel) rfl rfl (Nat.le_of_ble_eq_true rfl) dX5_clear_22 (fun H locs hP hD hS => ?_)
    have hP : va_P D vwCl (w_Plan dA pa (pl_set_holderCount z0 (0 : Int32))) H := hP
    have hD : va_D A (w_Plan dA pa (pl_set_holderCount z0 (0 : Int32))) := hD
    exact RET _ H _ ls 25 hf hP hD hS dX5_clear_25
  have B_10 : ∀ (z0 : PlanT) (H : Heap) (locs : List Loc) (ls : Array Slot), f_X5_clear_b10 z0 = some (u0) → va_P D vwCl (w_Plan dA pa z0) H → va_D A (w_Plan dA pa z0) → va_S A s.heap H locs → lv_has ls 1 [(0, .ref (pa 0))] → W p l e ({ frames := 0, cells := 0, slots := 0, locals := 0 } : Room) s m ([.ref (pa 0)] : List Value).toArray below meth c H locs 0 0 Q (F0 m 10 ls []) := by
    intro z0 H locs ls hf hP hD hS hl
    rw [f_X5_clear_b10] at hf
    refine lv_aload_n hx hb dX5_clear_10 rfl (lv_at hl 0 rfl) ?_
    refine lv_iconst (v := (0 : Int32)) hx hb dX5_clear_11 (by decide) ?_
    refine va_put (D := D) (ci := 5) (v := .int (0 : Int32)) (ty := .int) (C := RX5) (T := TX5) (N := 8) hx hb hts kb_inX5 tyX5 tyX5_ok nmX5 hown hK.1 hP hD hS 0 rfl rfl 5 (by decide) (hK.2.w ww_1_233 rfl _) (fun _ h9 => h9) rfl (by decide +kernel) rfl rfl (Nat.le_of_ble_eq_true rfl) dX5_clear_12 (fun H locs hP hD hS => ?_)
    have hP : va_P D vwCl (w_Plan dA pa (pl_set_riderCount z0 (0 : Int32))) H := hP
    have hD : va_D A (w_Plan dA pa (pl_set_riderCount z0 (0 : Int32))) := hD
    refine lv_aload_n hx hb dX5_clear_15 rfl (lv_at hl 0 rfl) ?_
    refine lv_iconst (v := (0 : Int32)) hx hb dX5_clear_16 (by decide) ?_
    refine va_put (D := D) (ci := 5) (v := .int (0 : Int32)) (ty := .int) (C := RX5) (T := TX5) (N := 8) hx hb hts kb_inX5 tyX5 tyX5_ok nmX5 hown hK.1 hP hD hS 0 rfl rfl 6 (by decide) (hK.2.w ww_1_238 rfl _) (fun _ h9 => h9) rfl (by decide +kernel) rfl rfl (Nat.le_of_ble_eq_true rfl) dX5_clear_17 (fun H locs hP hD hS => ?_)
    have hP : va_P D vwCl (w_Plan dA pa (pl_set_friendCount (pl_set_riderCount z0 (0 : Int32)) (0 : Int32))) H := hP
    have hD : va_D A (w_Plan dA pa (pl_set_friendCount (pl_set_riderCount z0 (0 : Int32)) (0 : Int32))) := hD
    exact B_20 _ _ _ _ hf hP hD hS (lv_sub hl [0] rfl)
  have E0 : ∀ (H : Heap) (locs : List Loc), va_P D vwCl (w_Plan dA pa pl) H → va_D A (w_Plan dA pa pl) → va_S A s.heap H locs → W p l e ({ frames := 0, cells := 0, slots := 0, locals := 0 } : Room) s m ([.ref (pa 0)] : List Value).toArray below meth c H locs 0 0 Q (F0 m 0 ls []) := by
    intro H locs hP hD hS
    rw [f_X5_clear] at hf
    refine lv_aload_n hx hb dX5_clear_0 rfl (lv_at hl 0 rfl) ?_
    refine lv_iconst (v := (0 : Int32)) hx hb dX5_clear_1 (by decide) ?_
    refine va_put (D := D) (ci := 5) (v := .int (0 : Int32)) (ty := .boolean) (C := RX5) (T := TX5) (N := 8) hx hb hts kb_inX5 tyX5 tyX5_ok nmX5 hown hK.1 hP hD hS 0 rfl rfl 3 (by decide) (hK.2.w ww_1_227 rfl _) (fun _ h9 => h9) rfl (by decide +kernel) rfl rfl (Nat.le_of_ble_eq_true rfl) dX5_clear_2 (fun H locs hP hD hS => ?_)
    have hP : va_P D vwCl (w_Plan dA pa (pl_set_hasCabin pl (0 : Int32))) H := hP
    have hD : va_D A (w_Plan dA pa (pl_set_hasCabin pl (0 : Int32))) := hD
    refine lv_aload_n hx hb dX5_clear_5 rfl (lv_at hl 0 rfl) ?_
    refine lv_iconst (v := (0 : Int32)) hx hb dX5_clear_6 (by decide) ?_
    refine va_put (D := D) (ci := 5) (v := .int (0 : Int32)) (ty := .int) (C := RX5) (T := TX5) (N := 8) hx hb hts kb_inX5 tyX5 tyX5_ok nmX5 hown hK.1 hP hD hS 0 rfl rfl 4 (by decide) (hK.2.w ww_1_229 rfl _) (fun _ h9 => h9) rfl (by decide +kernel) rfl rfl (Nat.le_of_ble_eq_true rfl) dX5_clear_7 (fun H locs hP hD hS => ?_)
    have hP : va_P D vwCl (w_Plan dA pa (pl_set_ruleCount (pl_set_hasCabin pl (0 : Int32)) (0 : Int32))) H := hP
    have hD : va_D A (w_Plan dA pa (pl_set_ruleCount (pl_set_hasCabin pl (0 : Int32)) (0 : Int32))) := hD
    exact B_10 _ _ _ _ hf hP hD hS (lv_sub hl [0] rfl)
  exact E0 _ _ hP hD hS

noncomputable def f_X5_lacksSome_b21 (pl : PlanT)  : Option (Int32) := some ((1 : Int32))
noncomputable def f_X5_lacksSome (pl : PlanT) : Option (Int32) := (if (pl_hasCabin pl) = 0 then f_X5_lacksSome_b21 pl  else (if (pl_ruleCount pl) = 0 then f_X5_lacksSome_b21 pl  else (if (pl_riderCount pl) = 0 then f_X5_lacksSome_b21 pl  else some ((0 : Int32)))))
set_option maxHeartbeats 4000000 in
set_option maxRecDepth 100000 in
theorem c_X5_lacksSome (l : Launch) (D : va_G) (dA : Nat → ClassId) (sz : Nat) (pa : Nat → Nat) (pl : PlanT) (rv : Int32) (hf : f_X5_lacksSome pl = some (rv)) : kb_Mi l yX5_lacksSome cX5_lacksSome 1 (some .boolean) ({ frames := 0, cells := 0, slots := 0, locals := 0 } : Room) D dA [.ref (pa 0)] sz (w_Plan dA pa pl) 0 0 rv (w_Plan dA pa pl) := by
  refine Met.ofW (cc := cX5_lacksSome) (maxL := 1) (ret := (some .boolean)) (by decide) rfl ?_
  intro p e s m args below meth c s₁ B hml hv
  obtain ⟨rfl, hsz, hP, hK, hD0, hE⟩ := hv
  have hx := B.exec
  have hb := B.bytes
  have hr := B.returns
  have hown : s.vm.findClass RX5 = some m.cls := findClass_of_methodNamed B.named
  have hlocks := B.notSynchronized
  have hts : ∀ w ∈ kb_gw, w.before ([.ref (pa 0)] : List Value).toArray s = true := fun w hw => hK.2.1 w hw _
  subst hsz
  have hD := hD0.self (sz := s.heap.size)
  generalize hAe : va_A (w_Plan dA pa pl) s.heap.size = A at hD hE ⊢
  have hA : ∀ q : Nat, s.heap.size ≤ q → A q := fun q h => by rw [← hAe]; exact Or.inr h
  have hS : va_S A s.heap s.heap [] := va_S.rf
  have hl := lv_entry ([.ref (pa 0)]) (n := 1) (Nat.le_of_ble_eq_true rfl)
  rw [lg_entry_eq]
  generalize (lg_sl ([.ref (pa 0)]) ++ List.replicate (1 - (lg_sl ([.ref (pa 0)])).length) Slot.unset).toArray = ls at hl ⊢
  have hl : lv_has ls 1 [(0, .ref (pa 0))] := hl
  generalize hQ : MQ below (va_Qi (fun r (_ : Unit) => r = rv) (kb_B D A (w_Plan dA pa pl)) A) ([.ref (pa 0)] : List Value).toArray s 0 0 A = Q
  show W p l e ({ frames := 0, cells := 0, slots := 0, locals := 0 } : Room) s m ([.ref (pa 0)] : List Value).toArray below meth c s.heap [] 0 0 Q (F0 m 0 ls [])
  have RET : ∀ (r2 : Int32) (H : Heap) (locs : List Loc) (ls : Array Slot) (pc : Nat), some (r2) = some (rv) → va_P D vwCl (w_Plan dA pa pl) H → va_D A (w_Plan dA pa pl) → va_S A s.heap H locs → kb_01 r2 → decode cX5_lacksSome pc = .ok (.ireturn, 1) → W p l e ({ frames := 0, cells := 0, slots := 0, locals := 0 } : Room) s m ([.ref (pa 0)] : List Value).toArray below meth c H locs 0 0 Q (F0 m pc ls [.int r2]) := by
    intro r2 H locs ls pc hq hP hD hS h01 hd
    cases hq
    rw [← hQ]
    exact W.zret (ty := .boolean) hx hb hr (kb_nz h01) (fun t ht hW => ⟨⟨_, (), rfl, rfl, by rw [ht]; exact hP, hD⟩, hS.F ht⟩) hS.2.2 hd
  have B_21 : ∀  (H : Heap) (locs : List Loc) (ls : Array Slot), f_X5_lacksSome_b21 pl  = some (rv) → va_P D vwCl (w_Plan dA pa pl) H → va_D A (w_Plan dA pa pl) → va_S A s.heap H locs → lv_has ls 1 [] → W p l e ({ frames := 0, cells := 0, slots := 0, locals := 0 } : Room) s m ([.ref (pa 0)] : List Value).toArray below meth c H locs 0 0 Q (F0 m 21 ls []) := by
    intro  H locs ls hf hP hD hS hl
    rw [f_X5_lacksSome_b21] at hf
    refine lv_iconst (v := (1 : Int32)) hx hb dX5_lacksSome_21 (by decide) ?_
    refine lv_goto (tgt := 26) hx hb dX5_lacksSome_22 (by decide) ?_
    exact RET _ H _ ls 26 hf hP hD hS (by decide) dX5_lacksSome_26
  have E0 : ∀ (H : Heap) (locs : List Loc), va_P D vwCl (w_Plan dA pa pl) H → va_D A (w_Plan dA pa pl) → va_S A s.heap H locs → W p l e ({ frames := 0, cells := 0, slots := 0, locals := 0 } : Room) s m ([.ref (pa 0)] : List Value).toArray below meth c H locs 0 0 Q (F0 m 0 ls []) := by
    intro H locs hP hD hS
    rw [f_X5_lacksSome] at hf
    refine lv_aload_n hx hb dX5_lacksSome_0 rfl (lv_at hl 0 rfl) ?_
    refine va_get (D := D) (ci := 5) (v := .int (pl_hasCabin pl)) (C := RX5) (T := TX5) (N := 8) hx hb hts kb_inX5 hown hK.1 hP 0 rfl rfl 3 (by decide) (hK.2.w ww_1_227 rfl _) (fun _ h9 => h9) rfl dX5_lacksSome_1 ?_
    refine lv_if_eq (tgt := 21) hx hb dX5_lacksSome_4 (by decide) (fun c_1 => ?_) (fun c_1 => ?_)
    · rw [if_pos c_1] at hf
      exact B_21 _ _ _ hf hP hD hS (lv_sub hl [] rfl)
    · rw [if_neg c_1] at hf
      refine lv_aload_n hx hb dX5_lacksSome_7 rfl (lv_at hl 0 rfl) ?_
      refine va_get (D := D) (ci := 5) (v := .int (pl_ruleCount pl)) (C := RX5) (T := TX5) (N := 8) hx hb hts kb_inX5 hown hK.1 hP 0 rfl rfl 4 (by decide) (hK.2.w ww_1_229 rfl _) (fun _ h9 => h9) rfl dX5_lacksSome_8 ?_
      refine lv_if_eq (tgt := 21) hx hb dX5_lacksSome_11 (by decide) (fun c_2 => ?_) (fun c_2 => ?_)
      · rw [if_pos c_2] at hf
        exact B_21 _ _ _ hf hP hD hS (lv_sub hl [] rfl)
      · rw [if_neg c_2] at hf
        refine lv_aload_n hx hb dX5_lacksSome_14 rfl (lv_at hl 0 rfl) ?_
        refine va_get (D := D) (ci := 5) (v := .int (pl_riderCount pl)) (C := RX5) (T := TX5) (N := 8) hx hb hts kb_inX5 hown hK.1 hP 0 rfl rfl 5 (by decide) (hK.2.w ww_1_233 rfl _) (fun _ h9 => h9) rfl dX5_lacksSome_15 ?_
        refine lv_if_ne (tgt := 25) hx hb dX5_lacksSome_18 (by decide) (fun c_3 => ?_) (fun c_3 => ?_)
        · rw [if_neg c_3] at hf
          refine lv_iconst (v := (0 : Int32)) hx hb dX5_lacksSome_25 (by decide) ?_
          exact RET _ H _ ls 26 hf hP hD hS (by decide) dX5_lacksSome_26
        · rw [if_pos c_3] at hf
          exact B_21 _ _ _ hf hP hD hS (lv_sub hl [] rfl)
  exact E0 _ _ hP hD hS

noncomputable def f_X5_ruleNamed_b2 (pl : PlanT) : Nat → Int64 → Int32 → Option (Int32)
  | 0, _, _ => none
  | n + 1, v1, v3 => (if (pl_ruleCount pl) ≤ v3 then some ((-1 : Int32)) else if kb_in? v3 4 then (if (lg_cmp ((ru_name (pl_rules pl)) (v3).toNatClampNeg) v1) = 0 then some (v3) else f_X5_ruleNamed_b2 pl n v1 (v3 + (1 : Int32))) else none)
noncomputable def f_X5_ruleNamed (pl : PlanT) (x0 : Int64) : Option (Int32) := f_X5_ruleNamed_b2 pl 4096 x0 (0 : Int32)
set_option maxHeartbeats 4000000 in
set_option maxRecDepth 100000 in
theorem c_X5_ruleNamed (l : Launch) (D : va_G) (dA : Nat → ClassId) (sz : Nat) (pa : Nat → Nat) (pl : PlanT) (x0 : Int64) (rv : Int32) (hf : f_X5_ruleNamed pl x0 = some (rv)) : kb_Mi l yX5_ruleNamed cX5_ruleNamed 4 (some .int) ({ frames := 0, cells := 0, slots := 0, locals := 0 } : Room) D dA [.ref (pa 0), .long x0] sz (w_Plan dA pa pl) 0 0 rv (w_Plan dA pa pl) := by
  refine Met.ofW (cc := cX5_ruleNamed) (maxL := 4) (ret := (some .int)) (by decide) rfl ?_
  intro p e s m args below meth c s₁ B hml hv
  obtain ⟨rfl, hsz, hP, hK, hD0, hE⟩ := hv
  have hx := B.exec
  have hb := B.bytes
  have hr := B.returns
  have hown : s.vm.findClass RX5 = some m.cls := findClass_of_methodNamed B.named
  have hlocks := B.notSynchronized
  have hts : ∀ w ∈ kb_gw, w.before ([.ref (pa 0), .long x0] : List Value).toArray s = true := fun w hw => hK.2.1 w hw _
  subst hsz
  have hD := hD0.self (sz := s.heap.size)
  generalize hAe : va_A (w_Plan dA pa pl) s.heap.size = A at hD hE ⊢
  have hA : ∀ q : Nat, s.heap.size ≤ q → A q := fun q h => by rw [← hAe]; exact Or.inr h
  have hS : va_S A s.heap s.heap [] := va_S.rf
  have hl := lv_entry ([.ref (pa 0), .long x0]) (n := 4) (Nat.le_of_ble_eq_true rfl)
  rw [lg_entry_eq]
  generalize (lg_sl ([.ref (pa 0), .long x0]) ++ List.replicate (4 - (lg_sl ([.ref (pa 0), .long x0])).length) Slot.unset).toArray = ls at hl ⊢
  have hl : lv_has ls 4 [(0, .ref (pa 0)), (1, .long x0)] := hl
  generalize hQ : MQ below (va_Qi (fun r (_ : Unit) => r = rv) (kb_B D A (w_Plan dA pa pl)) A) ([.ref (pa 0), .long x0] : List Value).toArray s 0 0 A = Q
  show W p l e ({ frames := 0, cells := 0, slots := 0, locals := 0 } : Room) s m ([.ref (pa 0), .long x0] : List Value).toArray below meth c s.heap [] 0 0 Q (F0 m 0 ls [])
  have RET : ∀ (r2 : Int32) (H : Heap) (locs : List Loc) (ls : Array Slot) (pc : Nat), some (r2) = some (rv) → va_P D vwCl (w_Plan dA pa pl) H → va_D A (w_Plan dA pa pl) → va_S A s.heap H locs → decode cX5_ruleNamed pc = .ok (.ireturn, 1) → W p l e ({ frames := 0, cells := 0, slots := 0, locals := 0 } : Room) s m ([.ref (pa 0), .long x0] : List Value).toArray below meth c H locs 0 0 Q (F0 m pc ls [.int r2]) := by
    intro r2 H locs ls pc hq hP hD hS hd
    cases hq
    rw [← hQ]
    exact W.iret hx hb hr (fun t ht hW => ⟨⟨_, (), rfl, rfl, by rw [ht]; exact hP, hD⟩, hS.F ht⟩) hS.2.2 hd
  have B_2 : ∀ (n : Nat) (v1 : Int64) (v3 : Int32) (H : Heap) (locs : List Loc) (ls : Array Slot), f_X5_ruleNamed_b2 pl n v1 v3 = some (rv) → va_P D vwCl (w_Plan dA pa pl) H → va_D A (w_Plan dA pa pl) → va_S A s.heap H locs → lv_has ls 4 [(0, .ref (pa 0)), (1, .long v1), (3, .int v3)] → W p l e ({ frames := 0, cells := 0, slots := 0, locals := 0 } : Room) s m ([.ref (pa 0), .long x0] : List Value).toArray below meth c H locs 0 0 Q (F0 m 2 ls []) := by
    intro n
    induction n with
    | zero =>
      intro v1 v3 H locs ls hf
      exact absurd hf (by simp [f_X5_ruleNamed_b2])
    | succ n ih =>
      intro v1 v3 H locs ls hf hP hD hS hl
      rw [f_X5_ruleNamed_b2] at hf
      refine lv_iload_n hx hb dX5_ruleNamed_2 rfl (lv_at hl 2 rfl) ?_
      refine lv_aload_n hx hb dX5_ruleNamed_3 rfl (lv_at hl 0 rfl) ?_
      refine va_get (D := D) (ci := 5) (v := .int (pl_ruleCount pl)) (C := RX5) (T := TX5) (N := 8) hx hb hts kb_inX5 hown hK.1 hP 0 rfl rfl 4 (by decide) (hK.2.w ww_1_229 rfl _) (fun _ h9 => h9) rfl dX5_ruleNamed_4 ?_
      refine lv_icmp_ge (tgt := 32) hx hb dX5_ruleNamed_7 (by decide) (fun c_1 => ?_) (fun c_1 => ?_)
      · rw [if_pos c_1] at hf
        refine lv_iconst (v := (-1 : Int32)) hx hb dX5_ruleNamed_32 (by decide) ?_
        exact RET _ H _ ls 33 hf hP hD hS dX5_ruleNamed_33
      · rw [if_neg c_1] at hf
        refine lv_aload_n hx hb dX5_ruleNamed_10 rfl (lv_at hl 0 rfl) ?_
        refine va_get (D := D) (ci := 5) (v := .ref (pa 3)) (C := RX5) (T := TX5) (N := 8) hx hb hts kb_inX5 hown hK.1 hP 0 rfl rfl 1 (by decide) (hK.2.w ww_1_217 rfl _) (fun _ h9 => h9) rfl dX5_ruleNamed_11 ?_
        refine lv_iload_n hx hb dX5_ruleNamed_14 rfl (lv_at hl 2 rfl) ?_
        obtain ⟨h_2, hf⟩ := kb_if hf
        refine va_aldq (D := D) hx hb hK.1 hP 3 6 rfl rfl h_2 dX5_ruleNamed_15 ?_
        show W p l e ({ frames := 0, cells := 0, slots := 0, locals := 0 } : Room) s m ([.ref (pa 0), .long x0] : List Value).toArray below meth c _ _ 0 0 Q (F0 m 16 _ [.ref (pa (4 + (v3).toNatClampNeg))])
        refine va_get (D := D) (ci := 8) (v := .long ((ru_name (pl_rules pl)) (v3).toNatClampNeg)) (C := RX8) (T := TX8) (N := 3) hx hb hts kb_inX8 hown hK.1 hP (4 + (v3).toNatClampNeg) (at_Plan_4 dA pa pl (v3).toNatClampNeg (kb_inlt h_2)) rfl 0 (by decide) (hK.2.w ww_1_139 rfl _) (fun _ h9 => h9) rfl dX5_ruleNamed_16 ?_
        refine lv_lload_n hx hb dX5_ruleNamed_19 rfl (lv_at hl 1 rfl) ?_
        refine W.lcmp hx hb dX5_ruleNamed_20 ?_
        refine lv_if_ne (tgt := 26) hx hb dX5_ruleNamed_21 (by decide) (fun c_3 => ?_) (fun c_3 => ?_)
        · rw [if_neg c_3] at hf
          refine lv_iinc (v := (v3 + (1 : Int32))) (lv' := [(3, .int (v3 + (1 : Int32))), (0, .ref (pa 0)), (1, .long v1)]) hx hb dX5_ruleNamed_26 hl (k := 2) rfl (by rfl) (by decide) rfl (fun ls hl => ?_)
          refine lv_goto (tgt := 2) hx hb dX5_ruleNamed_29 (by decide) ?_
          exact ih _ _ _ _ _ hf hP hD hS (lv_sub hl [1, 2, 0] rfl)
        · rw [if_pos c_3] at hf
          refine lv_iload_n hx hb dX5_ruleNamed_24 rfl (lv_at hl 2 rfl) ?_
          exact RET _ H _ ls 25 hf hP hD hS dX5_ruleNamed_25
  have E0 : ∀ (H : Heap) (locs : List Loc), va_P D vwCl (w_Plan dA pa pl) H → va_D A (w_Plan dA pa pl) → va_S A s.heap H locs → W p l e ({ frames := 0, cells := 0, slots := 0, locals := 0 } : Room) s m ([.ref (pa 0), .long x0] : List Value).toArray below meth c H locs 0 0 Q (F0 m 0 ls []) := by
    intro H locs hP hD hS
    rw [f_X5_ruleNamed] at hf
    refine lv_iconst (v := (0 : Int32)) hx hb dX5_ruleNamed_0 (by decide) ?_
    refine lv_istore_n (lv' := [(3, .int (0 : Int32)), (0, .ref (pa 0)), (1, .long x0)]) hx hb dX5_ruleNamed_1 rfl hl (by decide) rfl (fun ls hl => ?_)
    exact B_2 4096 _ _ _ _ _ hf hP hD hS (lv_sub hl [1, 2, 0] rfl)
  exact E0 _ _ hP hD hS

noncomputable def f_X5_riderNamed_b2 (pl : PlanT) : Nat → Int64 → Int32 → Option (Int32)
  | 0, _, _ => none
  | n + 1, v1, v3 => (if (pl_riderCount pl) ≤ v3 then some ((-1 : Int32)) else if kb_in? v3 8 then (if (lg_cmp ((qr_name (pl_riders pl)) (v3).toNatClampNeg) v1) = 0 then some (v3) else f_X5_riderNamed_b2 pl n v1 (v3 + (1 : Int32))) else none)
noncomputable def f_X5_riderNamed (pl : PlanT) (x0 : Int64) : Option (Int32) := f_X5_riderNamed_b2 pl 4096 x0 (0 : Int32)
set_option maxHeartbeats 4000000 in
set_option maxRecDepth 100000 in
theorem c_X5_riderNamed (l : Launch) (D : va_G) (dA : Nat → ClassId) (sz : Nat) (pa : Nat → Nat) (pl : PlanT) (x0 : Int64) (rv : Int32) (hf : f_X5_riderNamed pl x0 = some (rv)) : kb_Mi l yX5_riderNamed cX5_riderNamed 4 (some .int) ({ frames := 0, cells := 0, slots := 0, locals := 0 } : Room) D dA [.ref (pa 0), .long x0] sz (w_Plan dA pa pl) 0 0 rv (w_Plan dA pa pl) := by
  refine Met.ofW (cc := cX5_riderNamed) (maxL := 4) (ret := (some .int)) (by decide) rfl ?_
  intro p e s m args below meth c s₁ B hml hv
  obtain ⟨rfl, hsz, hP, hK, hD0, hE⟩ := hv
  have hx := B.exec
  have hb := B.bytes
  have hr := B.returns
  have hown : s.vm.findClass RX5 = some m.cls := findClass_of_methodNamed B.named
  have hlocks := B.notSynchronized
  have hts : ∀ w ∈ kb_gw, w.before ([.ref (pa 0), .long x0] : List Value).toArray s = true := fun w hw => hK.2.1 w hw _
  subst hsz
  have hD := hD0.self (sz := s.heap.size)
  generalize hAe : va_A (w_Plan dA pa pl) s.heap.size = A at hD hE ⊢
  have hA : ∀ q : Nat, s.heap.size ≤ q → A q := fun q h => by rw [← hAe]; exact Or.inr h
  have hS : va_S A s.heap s.heap [] := va_S.rf
  have hl := lv_entry ([.ref (pa 0), .long x0]) (n := 4) (Nat.le_of_ble_eq_true rfl)
  rw [lg_entry_eq]
  generalize (lg_sl ([.ref (pa 0), .long x0]) ++ List.replicate (4 - (lg_sl ([.ref (pa 0), .long x0])).length) Slot.unset).toArray = ls at hl ⊢
  have hl : lv_has ls 4 [(0, .ref (pa 0)), (1, .long x0)] := hl
  generalize hQ : MQ below (va_Qi (fun r (_ : Unit) => r = rv) (kb_B D A (w_Plan dA pa pl)) A) ([.ref (pa 0), .long x0] : List Value).toArray s 0 0 A = Q
  show W p l e ({ frames := 0, cells := 0, slots := 0, locals := 0 } : Room) s m ([.ref (pa 0), .long x0] : List Value).toArray below meth c s.heap [] 0 0 Q (F0 m 0 ls [])
  have RET : ∀ (r2 : Int32) (H : Heap) (locs : List Loc) (ls : Array Slot) (pc : Nat), some (r2) = some (rv) → va_P D vwCl (w_Plan dA pa pl) H → va_D A (w_Plan dA pa pl) → va_S A s.heap H locs → decode cX5_riderNamed pc = .ok (.ireturn, 1) → W p l e ({ frames := 0, cells := 0, slots := 0, locals := 0 } : Room) s m ([.ref (pa 0), .long x0] : List Value).toArray below meth c H locs 0 0 Q (F0 m pc ls [.int r2]) := by
    intro r2 H locs ls pc hq hP hD hS hd
    cases hq
    rw [← hQ]
    exact W.iret hx hb hr (fun t ht hW => ⟨⟨_, (), rfl, rfl, by rw [ht]; exact hP, hD⟩, hS.F ht⟩) hS.2.2 hd
  have B_2 : ∀ (n : Nat) (v1 : Int64) (v3 : Int32) (H : Heap) (locs : List Loc) (ls : Array Slot), f_X5_riderNamed_b2 pl n v1 v3 = some (rv) → va_P D vwCl (w_Plan dA pa pl) H → va_D A (w_Plan dA pa pl) → va_S A s.heap H locs → lv_has ls 4 [(0, .ref (pa 0)), (1, .long v1), (3, .int v3)] → W p l e ({ frames := 0, cells := 0, slots := 0, locals := 0 } : Room) s m ([.ref (pa 0), .long x0] : List Value).toArray below meth c H locs 0 0 Q (F0 m 2 ls []) := by
    intro n
    induction n with
    | zero =>
      intro v1 v3 H locs ls hf
      exact absurd hf (by simp [f_X5_riderNamed_b2])
    | succ n ih =>
      intro v1 v3 H locs ls hf hP hD hS hl
      rw [f_X5_riderNamed_b2] at hf
      refine lv_iload_n hx hb dX5_riderNamed_2 rfl (lv_at hl 2 rfl) ?_
      refine lv_aload_n hx hb dX5_riderNamed_3 rfl (lv_at hl 0 rfl) ?_
      refine va_get (D := D) (ci := 5) (v := .int (pl_riderCount pl)) (C := RX5) (T := TX5) (N := 8) hx hb hts kb_inX5 hown hK.1 hP 0 rfl rfl 5 (by decide) (hK.2.w ww_1_233 rfl _) (fun _ h9 => h9) rfl dX5_riderNamed_4 ?_
      refine lv_icmp_ge (tgt := 32) hx hb dX5_riderNamed_7 (by decide) (fun c_1 => ?_) (fun c_1 => ?_)
      · rw [if_pos c_1] at hf
        refine lv_iconst (v := (-1 : Int32)) hx hb dX5_riderNamed_32 (by decide) ?_
        exact RET _ H _ ls 33 hf hP hD hS dX5_riderNamed_33
      · rw [if_neg c_1] at hf
        refine lv_aload_n hx hb dX5_riderNamed_10 rfl (lv_at hl 0 rfl) ?_
        refine va_get (D := D) (ci := 5) (v := .ref (pa 12)) (C := RX5) (T := TX5) (N := 8) hx hb hts kb_inX5 hown hK.1 hP 0 rfl rfl 2 (by decide) (hK.2.w ww_1_221 rfl _) (fun _ h9 => h9) rfl dX5_riderNamed_11 ?_
        refine lv_iload_n hx hb dX5_riderNamed_14 rfl (lv_at hl 2 rfl) ?_
        obtain ⟨h_2, hf⟩ := kb_if hf
        refine va_aldq (D := D) hx hb hK.1 hP 12 5 rfl rfl h_2 dX5_riderNamed_15 ?_
        show W p l e ({ frames := 0, cells := 0, slots := 0, locals := 0 } : Room) s m ([.ref (pa 0), .long x0] : List Value).toArray below meth c _ _ 0 0 Q (F0 m 16 _ [.ref (pa (13 + (v3).toNatClampNeg))])
        refine va_get (D := D) (ci := 7) (v := .long ((qr_name (pl_riders pl)) (v3).toNatClampNeg)) (C := RX7) (T := TX7) (N := 10) hx hb hts kb_inX7 hown hK.1 hP (13 + (v3).toNatClampNeg) (at_Plan_13 dA pa pl (v3).toNatClampNeg (kb_inlt h_2)) rfl 0 (by decide) (hK.2.w ww_1_161 rfl _) (fun _ h9 => h9) rfl dX5_riderNamed_16 ?_
        refine lv_lload_n hx hb dX5_riderNamed_19 rfl (lv_at hl 1 rfl) ?_
        refine W.lcmp hx hb dX5_riderNamed_20 ?_
        refine lv_if_ne (tgt := 26) hx hb dX5_riderNamed_21 (by decide) (fun c_3 => ?_) (fun c_3 => ?_)
        · rw [if_neg c_3] at hf
          refine lv_iinc (v := (v3 + (1 : Int32))) (lv' := [(3, .int (v3 + (1 : Int32))), (0, .ref (pa 0)), (1, .long v1)]) hx hb dX5_riderNamed_26 hl (k := 2) rfl (by rfl) (by decide) rfl (fun ls hl => ?_)
          refine lv_goto (tgt := 2) hx hb dX5_riderNamed_29 (by decide) ?_
          exact ih _ _ _ _ _ hf hP hD hS (lv_sub hl [1, 2, 0] rfl)
        · rw [if_pos c_3] at hf
          refine lv_iload_n hx hb dX5_riderNamed_24 rfl (lv_at hl 2 rfl) ?_
          exact RET _ H _ ls 25 hf hP hD hS dX5_riderNamed_25
  have E0 : ∀ (H : Heap) (locs : List Loc), va_P D vwCl (w_Plan dA pa pl) H → va_D A (w_Plan dA pa pl) → va_S A s.heap H locs → W p l e ({ frames := 0, cells := 0, slots := 0, locals := 0 } : Room) s m ([.ref (pa 0), .long x0] : List Value).toArray below meth c H locs 0 0 Q (F0 m 0 ls []) := by
    intro H locs hP hD hS
    rw [f_X5_riderNamed] at hf
    refine lv_iconst (v := (0 : Int32)) hx hb dX5_riderNamed_0 (by decide) ?_
    refine lv_istore_n (lv' := [(3, .int (0 : Int32)), (0, .ref (pa 0)), (1, .long x0)]) hx hb dX5_riderNamed_1 rfl hl (by decide) rfl (fun ls hl => ?_)
    exact B_2 4096 _ _ _ _ _ hf hP hD hS (lv_sub hl [1, 2, 0] rfl)
  exact E0 _ _ hP hD hS

noncomputable def f_X8_wants_b2 (ru : RulesT) : Nat → Nat → Int32 → Int32 → Option (Int32)
  | 0, _, _, _ => none
  | n + 1, i0, v1, v2 => (if ((ru_count ru) i0) ≤ v2 then some ((0 : Int32)) else if kb_in? v2 4 then (if (((ru_wanted ru) i0) (v2).toNatClampNeg) = v1 then some ((1 : Int32)) else f_X8_wants_b2 ru n i0 v1 (v2 + (1 : Int32))) else none)
noncomputable def f_X8_wants (ru : RulesT) (ixt : Nat) (x0 : Int32) : Option (Int32) := f_X8_wants_b2 ru 4096 ixt x0 (0 : Int32)
set_option maxHeartbeats 4000000 in
set_option maxRecDepth 100000 in
theorem c_X8_wants (l : Launch) (D : va_G) (dA : Nat → ClassId) (sz : Nat) (ua : Nat → Nat) (ru : RulesT) (ixt : Nat) (hixt : ixt < 4) (x0 : Int32) (rv : Int32) (hf : f_X8_wants ru ixt x0 = some (rv)) : kb_Mi l yX8_wants cX8_wants 3 (some .boolean) ({ frames := 0, cells := 0, slots := 0, locals := 0 } : Room) D dA [.ref (ua ixt), .int x0] sz (w_Rules dA ua ru) 0 0 rv (w_Rules dA ua ru) := by
  refine Met.ofW (cc := cX8_wants) (maxL := 3) (ret := (some .boolean)) (by decide) rfl ?_
  intro p e s m args below meth c s₁ B hml hv
  obtain ⟨rfl, hsz, hP, hK, hD0, hE⟩ := hv
  have hx := B.exec
  have hb := B.bytes
  have hr := B.returns
  have hown : s.vm.findClass RX8 = some m.cls := findClass_of_methodNamed B.named
  have hlocks := B.notSynchronized
  have hts : ∀ w ∈ kb_gw, w.before ([.ref (ua ixt), .int x0] : List Value).toArray s = true := fun w hw => hK.2.1 w hw _
  subst hsz
  have hD := hD0.self (sz := s.heap.size)
  generalize hAe : va_A (w_Rules dA ua ru) s.heap.size = A at hD hE ⊢
  have hA : ∀ q : Nat, s.heap.size ≤ q → A q := fun q h => by rw [← hAe]; exact Or.inr h
  have hS : va_S A s.heap s.heap [] := va_S.rf
  have hl := lv_entry ([.ref (ua ixt), .int x0]) (n := 3) (Nat.le_of_ble_eq_true rfl)
  rw [lg_entry_eq]
  generalize (lg_sl ([.ref (ua ixt), .int x0]) ++ List.replicate (3 - (lg_sl ([.ref (ua ixt), .int x0])).length) Slot.unset).toArray = ls at hl ⊢
  have hl : lv_has ls 3 [(0, .ref (ua ixt)), (1, .int x0)] := hl
  generalize hQ : MQ below (va_Qi (fun r (_ : Unit) => r = rv) (kb_B D A (w_Rules dA ua ru)) A) ([.ref (ua ixt), .int x0] : List Value).toArray s 0 0 A = Q
  show W p l e ({ frames := 0, cells := 0, slots := 0, locals := 0 } : Room) s m ([.ref (ua ixt), .int x0] : List Value).toArray below meth c s.heap [] 0 0 Q (F0 m 0 ls [])
  have RET : ∀ (r2 : Int32) (H : Heap) (locs : List Loc) (ls : Array Slot) (pc : Nat), some (r2) = some (rv) → va_P D vwCl (w_Rules dA ua ru) H → va_D A (w_Rules dA ua ru) → va_S A s.heap H locs → kb_01 r2 → decode cX8_wants pc = .ok (.ireturn, 1) → W p l e ({ frames := 0, cells := 0, slots := 0, locals := 0 } : Room) s m ([.ref (ua ixt), .int x0] : List Value).toArray below meth c H locs 0 0 Q (F0 m pc ls [.int r2]) := by
    intro r2 H locs ls pc hq hP hD hS h01 hd
    cases hq
    rw [← hQ]
    exact W.zret (ty := .boolean) hx hb hr (kb_nz h01) (fun t ht hW => ⟨⟨_, (), rfl, rfl, by rw [ht]; exact hP, hD⟩, hS.F ht⟩) hS.2.2 hd
  have B_2 : ∀ (n : Nat) (i0 : Nat) (v1 : Int32) (v2 : Int32) (H : Heap) (locs : List Loc) (ls : Array Slot), i0 < 4 → f_X8_wants_b2 ru n i0 v1 v2 = some (rv) → va_P D vwCl (w_Rules dA ua ru) H → va_D A (w_Rules dA ua ru) → va_S A s.heap H locs → lv_has ls 3 [(0, .ref (ua i0)), (1, .int v1), (2, .int v2)] → W p l e ({ frames := 0, cells := 0, slots := 0, locals := 0 } : Room) s m ([.ref (ua ixt), .int x0] : List Value).toArray below meth c H locs 0 0 Q (F0 m 2 ls []) := by
    intro n
    induction n with
    | zero =>
      intro i0 v1 v2 H locs ls hi0 hf
      exact absurd hf (by simp [f_X8_wants_b2])
    | succ n ih =>
      intro i0 v1 v2 H locs ls hi0 hf hP hD hS hl
      rw [f_X8_wants_b2] at hf
      refine lv_iload_n hx hb dX8_wants_2 rfl (lv_at hl 2 rfl) ?_
      refine lv_aload_n hx hb dX8_wants_3 rfl (lv_at hl 0 rfl) ?_
      refine va_get (D := D) (ci := 8) (v := .int ((ru_count ru) i0)) (C := RX8) (T := TX8) (N := 3) hx hb hts kb_inX8 hown hK.1 hP i0 (at_Rules_0 dA ua ru i0 hi0) rfl 1 (by decide) (hK.2.w ww_1_141 rfl _) (fun _ h9 => h9) rfl dX8_wants_4 ?_
      refine lv_icmp_ge (tgt := 28) hx hb dX8_wants_7 (by decide) (fun c_1 => ?_) (fun c_1 => ?_)
      · rw [if_pos c_1] at hf
        refine lv_iconst (v := (0 : Int32)) hx hb dX8_wants_28 (by decide) ?_
        exact RET _ H _ ls 29 hf hP hD hS (by decide) dX8_wants_29
      · rw [if_neg c_1] at hf
        refine lv_aload_n hx hb dX8_wants_10 rfl (lv_at hl 0 rfl) ?_
        refine va_get (D := D) (ci := 8) (v := .ref (ua (4 + i0))) (C := RX8) (T := TX8) (N := 3) hx hb hts kb_inX8 hown hK.1 hP i0 (at_Rules_0 dA ua ru i0 hi0) rfl 2 (by decide) (hK.2.w ww_1_145 rfl _) (fun _ h9 => h9) rfl dX8_wants_11 ?_
        refine lv_iload_n hx hb dX8_wants_14 rfl (lv_at hl 2 rfl) ?_
        obtain ⟨h_2, hf⟩ := kb_if hf
        refine va_iald (D := D) hx hb hK.1 hP (4 + i0) 0 (at_Rules_4 dA ua ru i0 hi0) rfl h_2 dX8_wants_15 ?_
        refine lv_iload_n hx hb dX8_wants_16 rfl (lv_at hl 1 rfl) ?_
        refine lv_icmp_ne (tgt := 22) hx hb dX8_wants_17 (by decide) (fun c_3 => ?_) (fun c_3 => ?_)
        · rw [if_neg c_3] at hf
          refine lv_iinc (v := (v2 + (1 : Int32))) (lv' := [(2, .int (v2 + (1 : Int32))), (0, .ref (ua i0)), (1, .int v1)]) hx hb dX8_wants_22 hl (k := 2) rfl (by rfl) (by decide) rfl (fun ls hl => ?_)
          refine lv_goto (tgt := 2) hx hb dX8_wants_25 (by decide) ?_
          exact ih _ _ _ _ _ _ hi0 hf hP hD hS (lv_sub hl [1, 2, 0] rfl)
        · rw [if_pos c_3] at hf
          refine lv_iconst (v := (1 : Int32)) hx hb dX8_wants_20 (by decide) ?_
          exact RET _ H _ ls 21 hf hP hD hS (by decide) dX8_wants_21
  have E0 : ∀ (H : Heap) (locs : List Loc), va_P D vwCl (w_Rules dA ua ru) H → va_D A (w_Rules dA ua ru) → va_S A s.heap H locs → W p l e ({ frames := 0, cells := 0, slots := 0, locals := 0 } : Room) s m ([.ref (ua ixt), .int x0] : List Value).toArray below meth c H locs 0 0 Q (F0 m 0 ls []) := by
    intro H locs hP hD hS
    rw [f_X8_wants] at hf
    refine lv_iconst (v := (0 : Int32)) hx hb dX8_wants_0 (by decide) ?_
    refine lv_istore_n (lv' := [(2, .int (0 : Int32)), (0, .ref (ua ixt)), (1, .int x0)]) hx hb dX8_wants_1 rfl hl (by decide) rfl (fun ls hl => ?_)
    exact B_2 4096 _ _ _ _ _ _ hixt hf hP hD hS (lv_sub hl [1, 2, 0] rfl)
  exact E0 _ _ hP hD hS
