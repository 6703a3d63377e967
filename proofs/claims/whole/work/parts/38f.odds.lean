noncomputable def f_X3_gather_b48 (pl : PlanT) (k7 : Int32 → Int32 → OddsT → Option (Int32 × OddsT)) (v2 : Int32) (v3 : Int32) (z0 : OddsT) : Option (Int32 × OddsT) := k7 v2 (v3 + (1 : Int32)) z0
noncomputable def f_X3_gather_b7 (pl : PlanT) : Nat → Int32 → Int32 → OddsT → Option (Int32 × OddsT)
  | 0, _, _, _ => none
  | n + 1, v2, v3, z0 => (if (pl_riderCount pl) ≤ v3 then some ((od_count z0), z0) else if kb_in? v3 8 then (if ((qr_on (pl_riders pl)) (v3).toNatClampNeg) = v2 then if kb_in? (od_count z0) 8 then f_X3_gather_b48 pl (f_X3_gather_b7 pl n) v2 v3 (od_set_count (od_set_boarding z0 (upd (od_boarding z0) ((od_count z0)).toNatClampNeg v3)) ((od_count (od_set_boarding z0 (upd (od_boarding z0) ((od_count z0)).toNatClampNeg v3))) + (1 : Int32))) else none else f_X3_gather_b7 pl n v2 (v3 + (1 : Int32)) z0) else none)
noncomputable def f_X3_gather (od : OddsT) (pl : PlanT) (x1 : Int32) : Option (Int32 × OddsT) := f_X3_gather_b7 pl 4096 x1 (0 : Int32) (od_set_count od (0 : Int32))
set_option maxHeartbeats 4000000 in
set_option maxRecDepth 100000 in
theorem c_X3_gather (l : Launch) (D : va_G) (dA : Nat → ClassId) (sz : Nat) (oa : Nat → Nat) (pa : Nat → Nat) (h0 : Nat) (od : OddsT) (pl : PlanT) (x1 : Int32) (rv : Int32) (u0 : OddsT) (hf : f_X3_gather od pl x1 = some (rv, u0)) : kb_Mi l yX3_gather cX3_gather 4 (some .int) ({ frames := 0, cells := 0, slots := 0, locals := 0 } : Room) D dA [.ref (oa 0), .ref (pa 0), .int x1] sz (w_Odds dA oa h0 od ++ (w_Plan dA pa pl)) 0 0 rv (w_Odds dA oa h0 u0 ++ (w_Plan dA pa pl)) := by
  refine Met.ofW (cc := cX3_gather) (maxL := 4) (ret := (some .int)) (by decide) rfl ?_
  intro p e s m args below meth c s₁ B hml hv
  obtain ⟨rfl, hsz, hP, hK, hD0, hE⟩ := hv
  have hx := B.exec
  have hb := B.bytes
  have hr := B.returns
  have hown : s.vm.findClass RX3 = some m.cls := findClass_of_methodNamed B.named
  have hlocks := B.notSynchronized
  have hts : ∀ w ∈ kb_gw, w.before ([.ref (oa 0), .ref (pa 0), .int x1] : List Value).toArray s = true := fun w hw => hK.2.1 w hw _
  subst hsz
  have hD := hD0.self (sz := s.heap.size)
  generalize hAe : va_A (w_Odds dA oa h0 od ++ (w_Plan dA pa pl)) s.heap.size = A at hD hE ⊢
  have hA : ∀ q : Nat, s.heap.size ≤ q → A q := fun q h => by rw [← hAe]; exact Or.inr h
  have hS : va_S A s.heap s.heap [] := va_S.rf
  have hl := lv_entry ([.ref (oa 0), .ref (pa 0), .int x1]) (n := 4) (Nat.le_of_ble_eq_true rfl)
  rw [lg_entry_eq]
  generalize (lg_sl ([.ref (oa 0), .ref (pa 0), .int x1]) ++ List.replicate (4 - (lg_sl ([.ref (oa 0), .ref (pa 0), .int x1])).length) Slot.unset).toArray = ls at hl ⊢
  have hl : lv_has ls 4 [(0, .ref (oa 0)), (1, .ref (pa 0)), (2, .int x1)] := hl
  generalize hQ : MQ below (va_Qi (fun r (_ : Unit) => r = rv) (kb_B D A (w_Odds dA oa h0 u0 ++ (w_Plan dA pa pl))) A) ([.ref (oa 0), .ref (pa 0), .int x1] : List Value).toArray s 0 0 A = Q
  show W p l e ({ frames := 0, cells := 0, slots := 0, locals := 0 } : Room) s m ([.ref (oa 0), .ref (pa 0), .int x1] : List Value).toArray below meth c s.heap [] 0 0 Q (F0 m 0 ls [])
  have RET : ∀ (r2 : Int32) (w0 : OddsT) (H : Heap) (locs : List Loc) (ls : Array Slot) (pc : Nat), some (r2, w0) = some (rv, u0) → va_P D vwCl (w_Odds dA oa h0 w0 ++ (w_Plan dA pa pl)) H → va_D A (w_Odds dA oa h0 w0 ++ (w_Plan dA pa pl)) → va_S A s.heap H locs → decode cX3_gather pc = .ok (.ireturn, 1) → W p l e ({ frames := 0, cells := 0, slots := 0, locals := 0 } : Room) s m ([.ref (oa 0), .ref (pa 0), .int x1] : List Value).toArray below meth c H locs 0 0 Q (F0 m pc ls [.int r2]) := by
    intro r2 w0 H locs ls pc hq hP hD hS hd
    cases hq
    rw [← hQ]
    exact W.iret hx hb hr (fun t ht hW => ⟨⟨_, (), rfl, rfl, by rw [ht]; exact hP, hD⟩, hS.F ht⟩) hS.2.2 hd
  have B_48 : ∀ (k7 : Int32 → Int32 → OddsT → Option (Int32 × OddsT)) (hk7 : ∀ (v2 : Int32) (v3 : Int32) (z0 : OddsT) (H : Heap) (locs : List Loc) (ls : Array Slot), k7 v2 v3 z0 = some (rv, u0) → va_P D vwCl (w_Odds dA oa h0 z0 ++ (w_Plan dA pa pl)) H → va_D A (w_Odds dA oa h0 z0 ++ (w_Plan dA pa pl)) → va_S A s.heap H locs → lv_has ls 4 [(0, .ref (oa 0)), (1, .ref (pa 0)), (2, .int v2), (3, .int v3)] → W p l e ({ frames := 0, cells := 0, slots := 0, locals := 0 } : Room) s m ([.ref (oa 0), .ref (pa 0), .int x1] : List Value).toArray below meth c H locs 0 0 Q (F0 m 7 ls [])) (v2 : Int32) (v3 : Int32) (z0 : OddsT) (H : Heap) (locs : List Loc) (ls : Array Slot), f_X3_gather_b48 pl k7 v2 v3 z0 = some (rv, u0) → va_P D vwCl (w_Odds dA oa h0 z0 ++ (w_Plan dA pa pl)) H → va_D A (w_Odds dA oa h0 z0 ++ (w_Plan dA pa pl)) → va_S A s.heap H locs → lv_has ls 4 [(0, .ref (oa 0)), (1, .ref (pa 0)), (2, .int v2), (3, .int v3)] → W p l e ({ frames := 0, cells := 0, slots := 0, locals := 0 } : Room) s m ([.ref (oa 0), .ref (pa 0), .int x1] : List Value).toArray below meth c H locs 0 0 Q (F0 m 48 ls []) := by
    intro k7 hk7 v2 v3 z0 H locs ls hf hP hD hS hl
    rw [f_X3_gather_b48] at hf
    refine lv_iinc (v := (v3 + (1 : Int32))) (lv' := [(3, .int (v3 + (1 : Int32))), (0, .ref (oa 0)), (1, .ref (pa 0)), (2, .int v2)]) hx hb dX3_gather_48 hl (k := 3) rfl (by rfl) (by decide) rfl (fun ls hl => ?_)
    refine lv_goto (tgt := 7) hx hb dX3_gather_51 (by decide) ?_
    exact hk7 _ _ _ _ _ _ hf hP hD hS (lv_sub hl [1, 2, 3, 0] rfl)
  have B_7 : ∀ (n : Nat) (v2 : Int32) (v3 : Int32) (z0 : OddsT) (H : Heap) (locs : List Loc) (ls : Array Slot), f_X3_gather_b7 pl n v2 v3 z0 = some (rv, u0) → va_P D vwCl (w_Odds dA oa h0 z0 ++ (w_Plan dA pa pl)) H → va_D A (w_Odds dA oa h0 z0 ++ (w_Plan dA pa pl)) → va_S A s.heap H locs → lv_has ls 4 [(0, .ref (oa 0)), (1, .ref (pa 0)), (2, .int v2), (3, .int v3)] → W p l e ({ frames := 0, cells := 0, slots := 0, locals := 0 } : Room) s m ([.ref (oa 0), .ref (pa 0), .int x1] : List Value).toArray below meth c H locs 0 0 Q (F0 m 7 ls []) := by
    intro n
    induction n with
    | zero =>
      intro v2 v3 z0 H locs ls hf
      exact absurd hf (by simp [f_X3_gather_b7])
    | succ n ih =>
      intro v2 v3 z0 H locs ls hf hP hD hS hl
      rw [f_X3_gather_b7] at hf
      refine lv_iload_n hx hb dX3_gather_7 rfl (lv_at hl 3 rfl) ?_
      refine lv_aload_n hx hb dX3_gather_8 rfl (lv_at hl 1 rfl) ?_
      refine va_get (D := D) (ci := 5) (v := .int (pl_riderCount pl)) (C := RX5) (T := TX5) (N := 8) hx hb hts kb_inX5 hown hK.1 hP 2 rfl rfl 5 (by decide) (hK.2.w ww_1_232 rfl _) (fun _ h9 => h9) rfl dX3_gather_9 ?_
      refine lv_icmp_ge (tgt := 54) hx hb dX3_gather_12 (by decide) (fun c_1 => ?_) (fun c_1 => ?_)
      · rw [if_pos c_1] at hf
        refine lv_aload_n hx hb dX3_gather_54 rfl (lv_at hl 0 rfl) ?_
        refine va_get (D := D) (ci := 3) (v := .int (od_count z0)) (C := RX3) (T := TX3) (N := 3) hx hb hts kb_inX3 hown hK.1 hP 0 rfl rfl 2 (by decide) (hK.2.w ww_2_119 rfl _) (fun _ h9 => h9) rfl dX3_gather_55 ?_
        exact RET _ _ H _ ls 58 hf hP hD hS dX3_gather_58
      · rw [if_neg c_1] at hf
        refine lv_aload_n hx hb dX3_gather_15 rfl (lv_at hl 1 rfl) ?_
        refine va_get (D := D) (ci := 5) (v := .ref (pa 12)) (C := RX5) (T := TX5) (N := 8) hx hb hts kb_inX5 hown hK.1 hP 2 rfl rfl 2 (by decide) (hK.2.w ww_1_222 rfl _) (fun _ h9 => h9) rfl dX3_gather_16 ?_
        refine lv_iload_n hx hb dX3_gather_19 rfl (lv_at hl 3 rfl) ?_
        obtain ⟨h_2, hf⟩ := kb_if hf
        refine va_aldq (D := D) hx hb hK.1 hP 14 5 rfl rfl h_2 dX3_gather_20 ?_
        show W p l e ({ frames := 0, cells := 0, slots := 0, locals := 0 } : Room) s m ([.ref (oa 0), .ref (pa 0), .int x1] : List Value).toArray below meth c _ _ 0 0 Q (F0 m 21 _ [.ref (pa (13 + (v3).toNatClampNeg))])
        refine va_get (D := D) (ci := 7) (v := .int ((qr_on (pl_riders pl)) (v3).toNatClampNeg)) (C := RX7) (T := TX7) (N := 10) hx hb hts kb_inX7 hown hK.1 hP (2 + (13 + (v3).toNatClampNeg)) (kb_at rfl (at_Plan_13 dA pa pl (v3).toNatClampNeg (kb_inlt h_2))) rfl 1 (by decide) (hK.2.w ww_1_163 rfl _) (fun _ h9 => h9) rfl dX3_gather_21 ?_
        refine lv_iload_n hx hb dX3_gather_24 rfl (lv_at hl 2 rfl) ?_
        refine lv_icmp_ne (tgt := 48) hx hb dX3_gather_25 (by decide) (fun c_3 => ?_) (fun c_3 => ?_)
        · rw [if_neg c_3] at hf
          refine lv_iinc (v := (v3 + (1 : Int32))) (lv' := [(3, .int (v3 + (1 : Int32))), (0, .ref (oa 0)), (1, .ref (pa 0)), (2, .int v2)]) hx hb dX3_gather_48 hl (k := 3) rfl (by rfl) (by decide) rfl (fun ls hl => ?_)
          refine lv_goto (tgt := 7) hx hb dX3_gather_51 (by decide) ?_
          exact ih _ _ _ _ _ _ hf hP hD hS (lv_sub hl [1, 2, 3, 0] rfl)
        · rw [if_pos c_3] at hf
          refine lv_aload_n hx hb dX3_gather_28 rfl (lv_at hl 0 rfl) ?_
          refine va_get (D := D) (ci := 3) (v := .ref (oa 1)) (C := RX3) (T := TX3) (N := 3) hx hb hts kb_inX3 hown hK.1 hP 0 rfl rfl 1 (by decide) (hK.2.w ww_2_118 rfl _) (fun _ h9 => h9) rfl dX3_gather_29 ?_
          refine lv_aload_n hx hb dX3_gather_32 rfl (lv_at hl 0 rfl) ?_
          refine va_get (D := D) (ci := 3) (v := .int (od_count z0)) (C := RX3) (T := TX3) (N := 3) hx hb hts kb_inX3 hown hK.1 hP 0 rfl rfl 2 (by decide) (hK.2.w ww_2_119 rfl _) (fun _ h9 => h9) rfl dX3_gather_33 ?_
          refine lv_iload_n hx hb dX3_gather_36 rfl (lv_at hl 3 rfl) ?_
          obtain ⟨h_4, hf⟩ := kb_if hf
          refine va_iast (D := D) hx hb hK.1 hP hD hS 1 0 rfl rfl h_4 dX3_gather_37 (fun H locs hP hD hS => ?_)
          have hP : va_P D vwCl (w_Odds dA oa h0 (od_set_boarding z0 (upd (od_boarding z0) ((od_count z0)).toNatClampNeg v3)) ++ (w_Plan dA pa pl)) H := hP
          have hD : va_D A (w_Odds dA oa h0 (od_set_boarding z0 (upd (od_boarding z0) ((od_count z0)).toNatClampNeg v3)) ++ (w_Plan dA pa pl)) := hD
          refine lv_aload_n hx hb dX3_gather_38 rfl (lv_at hl 0 rfl) ?_
          refine lv_dup hx hb dX3_gather_39 rfl ?_
          refine va_get (D := D) (ci := 3) (v := .int (od_count (od_set_boarding z0 (upd (od_boarding z0) ((od_count z0)).toNatClampNeg v3)))) (C := RX3) (T := TX3) (N := 3) hx hb hts kb_inX3 hown hK.1 hP 0 rfl rfl 2 (by decide) (hK.2.w ww_2_119 rfl _) (fun _ h9 => h9) rfl dX3_gather_40 ?_
          refine lv_iconst (v := (1 : Int32)) hx hb dX3_gather_43 (by decide) ?_
          refine lv_iadd hx hb dX3_gather_44 ?_
          refine va_put (D := D) (ci := 3) (v := .int ((od_count (od_set_boarding z0 (upd (od_boarding z0) ((od_count z0)).toNatClampNeg v3))) + (1 : Int32))) (ty := .int) (C := RX3) (T := TX3) (N := 3) hx hb hts kb_inX3 tyX3 tyX3_ok nmX3 hown hK.1 hP hD hS 0 rfl rfl 2 (by decide) (hK.2.w ww_2_119 rfl _) (fun _ h9 => h9) rfl (by decide +kernel) rfl rfl (Nat.le_of_ble_eq_true rfl) dX3_gather_45 (fun H locs hP hD hS => ?_)
          have hP : va_P D vwCl (w_Odds dA oa h0 (od_set_count (od_set_boarding z0 (upd (od_boarding z0) ((od_count z0)).toNatClampNeg v3)) ((od_count (od_set_boarding z0 (upd (od_boarding z0) ((od_count z0)).toNatClampNeg v3))) + (1 : Int32))) ++ (w_Plan dA pa pl)) H := hP
          have hD : va_D A (w_Odds dA oa h0 (od_set_count (od_set_boarding z0 (upd (od_boarding z0) ((od_count z0)).toNatClampNeg v3)) ((od_count (od_set_boarding z0 (upd (od_boarding z0) ((od_count z0)).toNatClampNeg v3))) + (1 : Int32))) ++ (w_Plan dA pa pl)) := hD
          exact B_48 (f_X3_gather_b7 pl n) ih _ _ _ _ _ _ hf hP hD hS (lv_sub hl [0, 1, 2, 3] rfl)
  have E0 : ∀ (H : Heap) (locs : List Loc), va_P D vwCl (w_Odds dA oa h0 od ++ (w_Plan dA pa pl)) H → va_D A (w_Odds dA oa h0 od ++ (w_Plan dA pa pl)) → va_S A s.heap H locs → W p l e ({ frames := 0, cells := 0, slots := 0, locals := 0 } : Room) s m ([.ref (oa 0), .ref (pa 0), .int x1] : List Value).toArray below meth c H locs 0 0 Q (F0 m 0 ls []) := by
    intro H locs hP hD hS
    rw [f_X3_gather] at hf
    refine lv_aload_n hx hb dX3_gather_0 rfl (lv_at hl 0 rfl) ?_
    refine lv_iconst (v := (0 : Int32)) hx hb dX3_gather_1 (by decide) ?_
    refine va_put (D := D) (ci := 3) (v := .int (0 : Int32)) (ty := .int) (C := RX3) (T := TX3) (N := 3) hx hb hts kb_inX3 tyX3 tyX3_ok nmX3 hown hK.1 hP hD hS 0 rfl rfl 2 (by decide) (hK.2.w ww_2_119 rfl _) (fun _ h9 => h9) rfl (by decide +kernel) rfl rfl (Nat.le_of_ble_eq_true rfl) dX3_gather_2 (fun H locs hP hD hS => ?_)
    have hP : va_P D vwCl (w_Odds dA oa h0 (od_set_count od (0 : Int32)) ++ (w_Plan dA pa pl)) H := hP
    have hD : va_D A (w_Odds dA oa h0 (od_set_count od (0 : Int32)) ++ (w_Plan dA pa pl)) := hD
    refine lv_iconst (v := (0 : Int32)) hx hb dX3_gather_5 (by decide) ?_
    refine lv_istore_n (lv' := [(3, .int (0 : Int32)), (0, .ref (oa 0)), (1, .ref (pa 0)), (2, .int x1)]) hx hb dX3_gather_6 rfl hl (by decide) rfl (fun ls hl => ?_)
    exact B_7 4096 _ _ _ _ _ _ hf hP hD hS (lv_sub hl [1, 2, 3, 0] rfl)
  exact E0 _ _ hP hD hS

noncomputable def f_X3_sharesOfAll_b4 : Nat → Int32 → Int64 → Int32 → Option (Int64)
  | 0, _, _, _ => none
  | n + 1, v0, v1, v3 => (if v0 ≤ v3 then some (v1) else f_X3_sharesOfAll_b4 n v0 (v1 * (27720 : Int64)) (v3 + (1 : Int32)))
noncomputable def f_X3_sharesOfAll (x0 : Int32) : Option (Int64) := f_X3_sharesOfAll_b4 4096 x0 (1 : Int64) (0 : Int32)
set_option maxHeartbeats 4000000 in
set_option maxRecDepth 100000 in
theorem c_X3_sharesOfAll (l : Launch) (D : va_G) (dA : Nat → ClassId) (sz : Nat) (x0 : Int32) (rv : Int64) (hf : f_X3_sharesOfAll x0 = some (rv)) : kb_Ml l yX3_sharesOfAll cX3_sharesOfAll 4 (some .long) ({ frames := 0, cells := 0, slots := 0, locals := 0 } : Room) D dA [.int x0] sz ([] : va_W) 0 0 rv ([] : va_W) := by
  refine Met.ofW (cc := cX3_sharesOfAll) (maxL := 4) (ret := (some .long)) (by decide) rfl ?_
  intro p e s m args below meth c s₁ B hml hv
  obtain ⟨rfl, hsz, hP, hK, hD0, hE⟩ := hv
  have hx := B.exec
  have hb := B.bytes
  have hr := B.returns
  have hown : s.vm.findClass RX3 = some m.cls := findClass_of_methodNamed B.named
  have hlocks := B.notSynchronized
  have hts : ∀ w ∈ kb_gw, w.before ([.int x0] : List Value).toArray s = true := fun w hw => hK.2.1 w hw _
  subst hsz
  have hD := hD0.self (sz := s.heap.size)
  generalize hAe : va_A ([] : va_W) s.heap.size = A at hD hE ⊢
  have hA : ∀ q : Nat, s.heap.size ≤ q → A q := fun q h => by rw [← hAe]; exact Or.inr h
  have hS : va_S A s.heap s.heap [] := va_S.rf
  have hl := lv_entry ([.int x0]) (n := 4) (Nat.le_of_ble_eq_true rfl)
  rw [lg_entry_eq]
  generalize (lg_sl ([.int x0]) ++ List.replicate (4 - (lg_sl ([.int x0])).length) Slot.unset).toArray = ls at hl ⊢
  have hl : lv_has ls 4 [(0, .int x0)] := hl
  generalize hQ : MQ below (va_Ql (fun r (_ : Unit) => r = rv) (kb_B D A ([] : va_W)) A) ([.int x0] : List Value).toArray s 0 0 A = Q
  show W p l e ({ frames := 0, cells := 0, slots := 0, locals := 0 } : Room) s m ([.int x0] : List Value).toArray below meth c s.heap [] 0 0 Q (F0 m 0 ls [])
  have RET : ∀ (r2 : Int64) (H : Heap) (locs : List Loc) (ls : Array Slot) (pc : Nat), some (r2) = some (rv) → va_P D vwCl ([] : va_W) H → va_D A ([] : va_W) → va_S A s.heap H locs → decode cX3_sharesOfAll pc = .ok (.lreturn, 1) → W p l e ({ frames := 0, cells := 0, slots := 0, locals := 0 } : Room) s m ([.int x0] : List Value).toArray below meth c H locs 0 0 Q (F0 m pc ls [.long r2]) := by
    intro r2 H locs ls pc hq hP hD hS hd
    cases hq
    rw [← hQ]
    exact W.lret hx hb hr (fun t ht hW => ⟨⟨_, (), rfl, rfl, by rw [ht]; exact hP, hD⟩, hS.F ht⟩) hS.2.2 hd
  have B_4 : ∀ (n : Nat) (v0 : Int32) (v1 : Int64) (v3 : Int32) (H : Heap) (locs : List Loc) (ls : Array Slot), f_X3_sharesOfAll_b4 n v0 v1 v3 = some (rv) → va_P D vwCl ([] : va_W) H → va_D A ([] : va_W) → va_S A s.heap H locs → lv_has ls 4 [(0, .int v0), (1, .long v1), (3, .int v3)] → W p l e ({ frames := 0, cells := 0, slots := 0, locals := 0 } : Room) s m ([.int x0] : List Value).toArray below meth c H locs 0 0 Q (F0 m 4 ls []) := by
    intro n
    induction n with
    | zero =>
      intro v0 v1 v3 H locs ls hf
      exact absurd hf (by simp [f_X3_sharesOfAll_b4])
    | succ n ih =>
      intro v0 v1 v3 H locs ls hf hP hD hS hl
      rw [f_X3_sharesOfAll_b4] at hf
      refine lv_iload_n hx hb dX3_sharesOfAll_4 rfl (lv_at hl 2 rfl) ?_
      refine lv_iload_n hx hb dX3_sharesOfAll_5 rfl (lv_at hl 0 rfl) ?_
      refine lv_icmp_ge (tgt := 21) hx hb dX3_sharesOfAll_6 (by decide) (fun c_1 => ?_) (fun c_1 => ?_)
      · rw [if_pos c_1] at hf
        refine lv_lload_n hx hb dX3_sharesOfAll_21 rfl (lv_at hl 1 rfl) ?_
        exact RET _ H _ ls 22 hf hP hD hS dX3_sharesOfAll_22
      · rw [if_neg c_1] at hf
        refine lv_lload_n hx hb dX3_sharesOfAll_9 rfl (lv_at hl 1 rfl) ?_
        refine lv_ldc2 (v := (27720 : Int64)) hx hb hown (hK.2.w ww_4_195 rfl _) dX3_sharesOfAll_10 ?_
        refine lv_lmul hx hb dX3_sharesOfAll_13 ?_
        refine lv_lstore_n (lv' := [(1, .long (v1 * (27720 : Int64))), (0, .int v0), (3, .int v3)]) hx hb dX3_sharesOfAll_14 rfl hl (by decide) rfl (fun ls hl => ?_)
        refine lv_iinc (v := (v3 + (1 : Int32))) (lv' := [(3, .int (v3 + (1 : Int32))), (1, .long (v1 * (27720 : Int64))), (0, .int v0)]) hx hb dX3_sharesOfAll_15 hl (k := 2) rfl (by rfl) (by decide) rfl (fun ls hl => ?_)
        refine lv_goto (tgt := 4) hx hb dX3_sharesOfAll_18 (by decide) ?_
        exact ih _ _ _ _ _ _ hf hP hD hS (lv_sub hl [2, 1, 0] rfl)
  have E0 : ∀ (H : Heap) (locs : List Loc), va_P D vwCl ([] : va_W) H → va_D A ([] : va_W) → va_S A s.heap H locs → W p l e ({ frames := 0, cells := 0, slots := 0, locals := 0 } : Room) s m ([.int x0] : List Value).toArray below meth c H locs 0 0 Q (F0 m 0 ls []) := by
    intro H locs hP hD hS
    rw [f_X3_sharesOfAll] at hf
    refine lv_lconst (v := (1 : Int64)) hx hb dX3_sharesOfAll_0 (by decide) ?_
    refine lv_lstore_n (lv' := [(1, .long (1 : Int64)), (0, .int x0)]) hx hb dX3_sharesOfAll_1 rfl hl (by decide) rfl (fun ls hl => ?_)
    refine lv_iconst (v := (0 : Int32)) hx hb dX3_sharesOfAll_2 (by decide) ?_
    refine lv_istore_n (lv' := [(3, .int (0 : Int32)), (1, .long (1 : Int64)), (0, .int x0)]) hx hb dX3_sharesOfAll_3 rfl hl (by decide) rfl (fun ls hl => ?_)
    exact B_4 4096 _ _ _ _ _ _ hf hP hD hS (lv_sub hl [2, 1, 0] rfl)
  exact E0 _ _ hP hD hS

noncomputable def f_X3_firstTies_b6 : Nat → Int32 → Int32 → Int32 → Int32 → Option (Int32)
  | 0, _, _, _, _ => none
  | n + 1, v0, v1, v2, v3 => (if (20 : Int32) ≤ v3 then some (v1) else (f_X10_holdsBit v0 v3).bind fun r2 => (if r2 = 0 then f_X3_firstTies_b6 n v0 v1 v2 (v3 + (1 : Int32)) else (if (12 : Int32) ≤ v2 then f_X3_firstTies_b6 n v0 v1 v2 (v3 + (1 : Int32)) else f_X3_firstTies_b6 n v0 (v1 ||| ((1 : Int32) <<< (v3 &&& 31))) (v2 + (1 : Int32)) (v3 + (1 : Int32)))))
noncomputable def f_X3_firstTies (x0 : Int32) : Option (Int32) := f_X3_firstTies_b6 4096 x0 (0 : Int32) (0 : Int32) (0 : Int32)
set_option maxHeartbeats 4000000 in
set_option maxRecDepth 100000 in
theorem c_X3_firstTies (l : Launch) (D : va_G) (dA : Nat → ClassId) (sz : Nat) (x0 : Int32) (rv : Int32) (hf : f_X3_firstTies x0 = some (rv)) : kb_Mi l yX3_firstTies cX3_firstTies 4 (some .int) ({ frames := 1, cells := 0, slots := 0, locals := 21 } : Room) D dA [.int x0] sz ([] : va_W) 0 0 rv ([] : va_W) := by
  refine Met.ofW (cc := cX3_firstTies) (maxL := 4) (ret := (some .int)) (by decide) rfl ?_
  intro p e s m args below meth c s₁ B hml hv
  obtain ⟨rfl, hsz, hP, hK, hD0, hE⟩ := hv
  have hx := B.exec
  have hb := B.bytes
  have hr := B.returns
  have hown : s.vm.findClass RX3 = some m.cls := findClass_of_methodNamed B.named
  have hlocks := B.notSynchronized
  have hts : ∀ w ∈ kb_gw, w.before ([.int x0] : List Value).toArray s = true := fun w hw => hK.2.1 w hw _
  subst hsz
  have hD := hD0.self (sz := s.heap.size)
  generalize hAe : va_A ([] : va_W) s.heap.size = A at hD hE ⊢
  have hA : ∀ q : Nat, s.heap.size ≤ q → A q := fun q h => by rw [← hAe]; exact Or.inr h
  have hS : va_S A s.heap s.heap [] := va_S.rf
  have hl := lv_entry ([.int x0]) (n := 4) (Nat.le_of_ble_eq_true rfl)
  rw [lg_entry_eq]
  generalize (lg_sl ([.int x0]) ++ List.replicate (4 - (lg_sl ([.int x0])).length) Slot.unset).toArray = ls at hl ⊢
  have hl : lv_has ls 4 [(0, .int x0)] := hl
  generalize hQ : MQ below (va_Qi (fun r (_ : Unit) => r = rv) (kb_B D A ([] : va_W)) A) ([.int x0] : List Value).toArray s 0 0 A = Q
  show W p l e ({ frames := 1, cells := 0, slots := 0, locals := 21 } : Room) s m ([.int x0] : List Value).toArray below meth c s.heap [] 0 0 Q (F0 m 0 ls [])
  have RET : ∀ (r2 : Int32) (H : Heap) (locs : List Loc) (ls : Array Slot) (pc : Nat), some (r2) = some (rv) → va_P D vwCl ([] : va_W) H → va_D A ([] : va_W) → va_S A s.heap H locs → decode cX3_firstTies pc = .ok (.ireturn, 1) → W p l e ({ frames := 1, cells := 0, slots := 0, locals := 21 } : Room) s m ([.int x0] : List Value).toArray below meth c H locs 0 0 Q (F0 m pc ls [.int r2]) := by
    intro r2 H locs ls pc hq hP hD hS hd
    cases hq
    rw [← hQ]
    exact W.iret hx hb hr (fun t ht hW => ⟨⟨_, (), rfl, rfl, by rw [ht]; exact hP, hD⟩, hS.F ht⟩) hS.2.2 hd
  have B_6 : ∀ (n : Nat) (v0 : Int32) (v1 : Int32) (v2 : Int32) (v3 : Int32) (H : Heap) (locs : List Loc) (ls : Array Slot), f_X3_firstTies_b6 n v0 v1 v2 v3 = some (rv) → va_P D vwCl ([] : va_W) H → va_D A ([] : va_W) → va_S A s.heap H locs → lv_has ls 4 [(0, .int v0), (1, .int v1), (2, .int v2), (3, .int v3)] → W p l e ({ frames := 1, cells := 0, slots := 0, locals := 21 } : Room) s m ([.int x0] : List Value).toArray below meth c H locs 0 0 Q (F0 m 6 ls []) := by
    intro n
    induction n with
    | zero =>
      intro v0 v1 v2 v3 H locs ls hf
      exact absurd hf (by simp [f_X3_firstTies_b6])
    | succ n ih =>
      intro v0 v1 v2 v3 H locs ls hf hP hD hS hl
      rw [f_X3_firstTies_b6] at hf
      refine lv_iload_n hx hb dX3_firstTies_6 rfl (lv_at hl 3 rfl) ?_
      refine lv_bipush (v := (20 : Int32)) hx hb dX3_firstTies_7 (by decide) ?_
      refine lv_icmp_ge (tgt := 41) hx hb dX3_firstTies_9 (by decide) (fun c_1 => ?_) (fun c_1 => ?_)
      · rw [if_pos c_1] at hf
        refine lv_iload_n hx hb dX3_firstTies_41 rfl (lv_at hl 1 rfl) ?_
        exact RET _ H _ ls 42 hf hP hD hS dX3_firstTies_42
      · rw [if_neg c_1] at hf
        refine lv_iload_n hx hb dX3_firstTies_12 rfl (lv_at hl 0 rfl) ?_
        refine lv_iload_n hx hb dX3_firstTies_13 rfl (lv_at hl 3 rfl) ?_
        obtain ⟨r2, hc2, hf⟩ := kb_bind hf
        refine kb_ci (ws2 := ([] : va_W)) (kb_rSN (n := 2) (As := [.int v0, .int v3]) (rest := []) hx hb hml hown hK (c_X10_holdsBit l D dA H.size v0 v3 r2 hc2) ⟨ww_3_158, ww_4_193, ww_3_157, ww_1_1, by decide, by decide⟩ rfl rfl (by decide +kernel) ⟨Nat.le_of_ble_eq_true rfl, Nat.le_of_ble_eq_true rfl⟩ hP hD hS hA hE [] rfl (by decide) rfl hl.1 rfl (Nat.le_of_ble_eq_true rfl) dX3_firstTies_14 ⟨Nat.le_of_ble_eq_true rfl, Nat.le_of_ble_eq_true rfl⟩) hP hD hS hA [] [] [] rfl rfl (by decide) (by decide) rfl (by decide) (fun H locs hP hD hS => ?_)
        refine lv_if_eq (tgt := 35) hx hb dX3_firstTies_17 (by decide) (fun c_3 => ?_) (fun c_3 => ?_)
        · rw [if_pos c_3] at hf
          refine lv_iinc (v := (v3 + (1 : Int32))) (lv' := [(3, .int (v3 + (1 : Int32))), (0, .int v0), (1, .int v1), (2, .int v2)]) hx hb dX3_firstTies_35 hl (k := 3) rfl (by rfl) (by decide) rfl (fun ls hl => ?_)
          refine lv_goto (tgt := 6) hx hb dX3_firstTies_38 (by decide) ?_
          exact ih _ _ _ _ _ _ _ hf hP hD hS (lv_sub hl [1, 2, 3, 0] rfl)
        · rw [if_neg c_3] at hf
          refine lv_iload_n hx hb dX3_firstTies_20 rfl (lv_at hl 2 rfl) ?_
          refine lv_bipush (v := (12 : Int32)) hx hb dX3_firstTies_21 (by decide) ?_
          refine lv_icmp_ge (tgt := 35) hx hb dX3_firstTies_23 (by decide) (fun c_4 => ?_) (fun c_4 => ?_)
          · rw [if_pos c_4] at hf
            refine lv_iinc (v := (v3 + (1 : Int32))) (lv' := [(3, .int (v3 + (1 : Int32))), (0, .int v0), (1, .int v1), (2, .int v2)]) hx hb dX3_firstTies_35 hl (k := 3) rfl (by rfl) (by decide) rfl (fun ls hl => ?_)
            refine lv_goto (tgt := 6) hx hb dX3_firstTies_38 (by decide) ?_
            exact ih _ _ _ _ _ _ _ hf hP hD hS (lv_sub hl [1, 2, 3, 0] rfl)
          · rw [if_neg c_4] at hf
            refine lv_iload_n hx hb dX3_firstTies_26 rfl (lv_at hl 1 rfl) ?_
            refine lv_iconst (v := (1 : Int32)) hx hb dX3_firstTies_27 (by decide) ?_
            refine lv_iload_n hx hb dX3_firstTies_28 rfl (lv_at hl 3 rfl) ?_
            refine lv_ishl hx hb dX3_firstTies_29 ?_
            refine lv_ior hx hb dX3_firstTies_30 ?_
            refine lv_istore_n (lv' := [(1, .int (v1 ||| ((1 : Int32) <<< (v3 &&& 31)))), (0, .int v0), (2, .int v2), (3, .int v3)]) hx hb dX3_firstTies_31 rfl hl (by decide) rfl (fun ls hl => ?_)
            refine lv_iinc (v := (v2 + (1 : Int32))) (lv' := [(2, .int (v2 + (1 : Int32))), (1, .int (v1 ||| ((1 : Int32) <<< (v3 &&& 31)))), (0, .int v0), (3, .int v3)]) hx hb dX3_firstTies_32 hl (k := 2) rfl (by rfl) (by decide) rfl (fun ls hl => ?_)
            refine lv_iinc (v := (v3 + (1 : Int32))) (lv' := [(3, .int (v3 + (1 : Int32))), (2, .int (v2 + (1 : Int32))), (1, .int (v1 ||| ((1 : Int32) <<< (v3 &&& 31)))), (0, .int v0)]) hx hb dX3_firstTies_35 hl (k := 3) rfl (by rfl) (by decide) rfl (fun ls hl => ?_)
            refine lv_goto (tgt := 6) hx hb dX3_firstTies_38 (by decide) ?_
            exact ih _ _ _ _ _ _ _ hf hP hD hS (lv_sub hl [3, 2, 1, 0] rfl)
  have E0 : ∀ (H : Heap) (locs : List Loc), va_P D vwCl ([] : va_W) H → va_D A ([] : va_W) → va_S A s.heap H locs → W p l e ({ frames := 1, cells := 0, slots := 0, locals := 21 } : Room) s m ([.int x0] : List Value).toArray below meth c H locs 0 0 Q (F0 m 0 ls []) := by
    intro H locs hP hD hS
    rw [f_X3_firstTies] at hf
    refine lv_iconst (v := (0 : Int32)) hx hb dX3_firstTies_0 (by decide) ?_
    refine lv_istore_n (lv' := [(1, .int (0 : Int32)), (0, .int x0)]) hx hb dX3_firstTies_1 rfl hl (by decide) rfl (fun ls hl => ?_)
    refine lv_iconst (v := (0 : Int32)) hx hb dX3_firstTies_2 (by decide) ?_
    refine lv_istore_n (lv' := [(2, .int (0 : Int32)), (1, .int (0 : Int32)), (0, .int x0)]) hx hb dX3_firstTies_3 rfl hl (by decide) rfl (fun ls hl => ?_)
    refine lv_iconst (v := (0 : Int32)) hx hb dX3_firstTies_4 (by decide) ?_
    refine lv_istore_n (lv' := [(3, .int (0 : Int32)), (2, .int (0 : Int32)), (1, .int (0 : Int32)), (0, .int x0)]) hx hb dX3_firstTies_5 rfl hl (by decide) rfl (fun ls hl => ?_)
    exact B_6 4096 _ _ _ _ _ _ _ hf hP hD hS (lv_sub hl [3, 2, 1, 0] rfl)
  exact E0 _ _ hP hD hS

noncomputable def f_X3_sharesFrom_d3_b86 (od : OddsT) (q4 : Rides4T) (rd3 : RideT) (pl : PlanT) (v7 : Int32) (s0 : Int32) : Option (Int64) := (if s0 = 0 then some ((0 : Int64)) else if ¬ (v7).toInt64 = 0 then (f_X3_sharesOfAll (((od_count od) - (3 : Int32)) - (1 : Int32))).bind fun r11 => some ((((27720 : Int64) / (v7).toInt64) * r11)) else none)
noncomputable def f_X3_sharesFrom_d3_b85 (od : OddsT) (q4 : Rides4T) (rd3 : RideT) (pl : PlanT) (v7 : Int32) : Option (Int64) := f_X3_sharesFrom_d3_b86 od q4 rd3 pl v7 (0 : Int32)
noncomputable def f_X3_sharesFrom_d3 (od : OddsT) (q4 : Rides4T) (rd3 : RideT) (pl : PlanT) (x1 : Int32) (x2 : Int32) : Option (Int64) := (if (od_count od) ≤ (3 : Int32) then some ((0 : Int64)) else if kb_in? (3 : Int32) 8 then (f_X6_bestSeats rd3 pl ((od_boarding od) ((3 : Int32)).toNatClampNeg)).bind fun r3 => (f_X6_tied rd3 pl ((od_boarding od) ((3 : Int32)).toNatClampNeg) r3).bind fun r4 => (f_X3_firstTies r4).bind fun r5 => (f_J6_bitCount_0f7a4 r5).bind fun r6 => (if ((od_boarding od) ((3 : Int32)).toNatClampNeg) = x1 then (if r6 ≤ 0 then f_X3_sharesFrom_d3_b85 od q4 rd3 pl r6 else (f_X10_holdsBit r5 x2).bind fun r12 => (if r12 = 0 then f_X3_sharesFrom_d3_b85 od q4 rd3 pl r6 else f_X3_sharesFrom_d3_b86 od q4 rd3 pl r6 (1 : Int32))) else some ((0 : Int64))) else none)
set_option maxHeartbeats 4000000 in
set_option maxRecDepth 100000 in
theorem c_X3_sharesFrom_d3 (l : Launch) (D : va_G) (dA : Nat → ClassId) (sz : Nat) (oa : Nat → Nat) (qa : Nat → Nat) (a3 : Nat → Nat) (pa : Nat → Nat) (g0 : Nat) (g1 : Nat) (g2 : Nat) (od : OddsT) (q4 : Rides4T) (rd3 : RideT) (pl : PlanT) (x1 : Int32) (x2 : Int32) (rv : Int64) (hf : f_X3_sharesFrom_d3 od q4 rd3 pl x1 x2 = some (rv)) : kb_Ml l yX3_sharesFrom cX3_sharesFrom 12 (some .long) ({ frames := 4, cells := 0, slots := 0, locals := 104 } : Room) D dA [.ref (oa 0), .int (3 : Int32), .int x1, .int x2] sz (w_Odds dA oa (qa 0) od ++ (w_Rides4 dA qa g0 g1 g2 (a3 0) q4 ++ (w_Ride dA a3 (pa 0) (pa 1) rd3 ++ (w_Plan dA pa pl)))) 0 0 rv (w_Odds dA oa (qa 0) od ++ (w_Rides4 dA qa g0 g1 g2 (a3 0) q4 ++ (w_Ride dA a3 (pa 0) (pa 1) rd3 ++ (w_Plan dA pa pl)))) := by
  refine Met.ofW (cc := cX3_sharesFrom) (maxL := 12) (ret := (some .long)) (by decide) rfl ?_
  intro p e s m args below meth c s₁ B hml hv
  obtain ⟨rfl, hsz, hP, hK, hD0, hE⟩ := hv
  have hx := B.exec
  have hb := B.bytes
  have hr := B.returns
  have hown : s.vm.findClass RX3 = some m.cls := findClass_of_methodNamed B.named
  have hlocks := B.notSynchronized
  have hts : ∀ w ∈ kb_gw, w.before ([.ref (oa 0), .int (3 : Int32), .int x1, .int x2] : List Value).toArray s = true := fun w hw => hK.2.1 w hw _
  subst hsz
  have hD := hD0.self (sz := s.heap.size)
  generalize hAe : va_A (w_Odds dA oa (qa 0) od ++ (w_Rides4 dA qa g0 g1 g2 (a3 0) q4 ++ (w_Ride dA a3 (pa 0) (pa 1) rd3 ++ (w_Plan dA pa pl)))) s.heap.size = A at hD hE ⊢
  have hA : ∀ q : Nat, s.heap.size ≤ q → A q := fun q h => by rw [← hAe]; exact Or.inr h
  have hS : va_S A s.heap s.heap [] := va_S.rf
  have hl := lv_entry ([.ref (oa 0), .int (3 : Int32), .int x1, .int x2]) (n := 12) (Nat.le_of_ble_eq_true rfl)
  rw [lg_entry_eq]
  generalize (lg_sl ([.ref (oa 0), .int (3 : Int32), .int x1, .int x2]) ++ List.replicate (12 - (lg_sl ([.ref (oa 0), .int (3 : Int32), .int x1, .int x2])).length) Slot.unset).toArray = ls at hl ⊢
  have hl : lv_has ls 12 [(0, .ref (oa 0)), (1, .int (3 : Int32)), (2, .int x1), (3, .int x2)] := hl
  generalize hQ : MQ below (va_Ql (fun r (_ : Unit) => r = rv) (kb_B D A (w_Odds dA oa (qa 0) od ++ (w_Rides4 dA qa g0 g1 g2 (a3 0) q4 ++ (w_Ride dA a3 (pa 0) (pa 1) rd3 ++ (w_Plan dA pa pl))))) A) ([.ref (oa 0), .int (3 : Int32), .int x1, .int x2] : List Value).toArray s 0 0 A = Q
  show W p l e ({ frames := 4, cells := 0, slots := 0, locals := 104 } : Room) s m ([.ref (oa 0), .int (3 : Int32), .int x1, .int x2] : List Value).toArray below meth c s.heap [] 0 0 Q (F0 m 0 ls [])
  have RET : ∀ (r2 : Int64) (H : Heap) (locs : List Loc) (ls : Array Slot) (pc : Nat), some (r2) = some (rv) → va_P D vwCl (w_Odds dA oa (qa 0) od ++ (w_Rides4 dA qa g0 g1 g2 (a3 0) q4 ++ (w_Ride dA a3 (pa 0) (pa 1) rd3 ++ (w_Plan dA pa pl)))) H → va_D A (w_Odds dA oa (qa 0) od ++ (w_Rides4 dA qa g0 g1 g2 (a3 0) q4 ++ (w_Ride dA a3 (pa 0) (pa 1) rd3 ++ (w_Plan dA pa pl)))) → va_S A s.heap H locs → decode cX3_sharesFrom pc = .ok (.lreturn, 1) → W p l e ({ frames := 4, cells := 0, slots := 0, locals := 104 } : Room) s m ([.ref (oa 0), .int (3 : Int32), .int x1, .int x2] : List Value).toArray below meth c H locs 0 0 Q (F0 m pc ls [.long r2]) := by
    intro r2 H locs ls pc hq hP hD hS hd
    cases hq
    rw [← hQ]
    exact W.lret hx hb hr (fun t ht hW => ⟨⟨_, (), rfl, rfl, by rw [ht]; exact hP, hD⟩, hS.F ht⟩) hS.2.2 hd
  have B_86 : ∀ (v7 : Int32) (s0 : Int32) (H : Heap) (locs : List Loc) (ls : Array Slot), f_X3_sharesFrom_d3_b86 od q4 rd3 pl v7 s0 = some (rv) → va_P D vwCl (w_Odds dA oa (qa 0) od ++ (w_Rides4 dA qa g0 g1 g2 (a3 0) q4 ++ (w_Ride dA a3 (pa 0) (pa 1) rd3 ++ (w_Plan dA pa pl)))) H → va_D A (w_Odds dA oa (qa 0) od ++ (w_Rides4 dA qa g0 g1 g2 (a3 0) q4 ++ (w_Ride dA a3 (pa 0) (pa 1) rd3 ++ (w_Plan dA pa pl)))) → va_S A s.heap H locs → lv_has ls 12 [(0, .ref (oa 0)), (1, .int (3 : Int32)), (7, .int v7)] → W p l e ({ frames := 4, cells := 0, slots := 0, locals := 104 } : Room) s m ([.ref (oa 0), .int (3 : Int32), .int x1, .int x2] : List Value).toArray below meth c H locs 0 0 Q (F0 m 86 ls [.int s0]) := by
    intro v7 s0 H locs ls hf hP hD hS hl
    rw [f_X3_sharesFrom_d3_b86] at hf
    refine lv_istore (lv' := [(8, .int s0), (0, .ref (oa 0)), (1, .int (3 : Int32)), (7, .int v7)]) hx hb dX3_sharesFrom_86 hl (by decide) rfl (fun ls hl => ?_)
    refine lv_iload hx hb dX3_sharesFrom_88 (lv_at hl 0 rfl) ?_
    refine lv_if_eq (tgt := 115) hx hb dX3_sharesFrom_90 (by decide) (fun c_9 => ?_) (fun c_9 => ?_)
    · rw [if_pos c_9] at hf
      refine lv_lconst (v := (0 : Int64)) hx hb dX3_sharesFrom_115 (by decide) ?_
      exact RET _ H _ ls 116 hf hP hD hS dX3_sharesFrom_116
    · rw [if_neg c_9] at hf
      refine lv_ldc2 (v := (27720 : Int64)) hx hb hown (hK.2.w ww_4_195 rfl _) dX3_sharesFrom_93 ?_
      refine lv_iload hx hb dX3_sharesFrom_96 (lv_at hl 3 rfl) ?_
      refine lv_i2l hx hb dX3_sharesFrom_98 rfl ?_
      obtain ⟨h_10, hf⟩ := kb_if hf
      refine lv_ldiv hx hb dX3_sharesFrom_99 h_10 ?_
      refine lv_aload_n hx hb dX3_sharesFrom_100 rfl (lv_at hl 1 rfl) ?_
      refine va_get (D := D) (ci := 3) (v := .int (od_count od)) (C := RX3) (T := TX3) (N := 3) hx hb hts kb_inX3 hown hK.1 hP 0 rfl rfl 2 (by decide) (hK.2.w ww_2_119 rfl _) (fun _ h9 => h9) rfl dX3_sharesFrom_101 ?_
      refine lv_iload_n hx hb dX3_sharesFrom_104 rfl (lv_at hl 2 rfl) ?_
      refine lv_isub hx hb dX3_sharesFrom_105 ?_
      refine lv_iconst (v := (1 : Int32)) hx hb dX3_sharesFrom_106 (by decide) ?_
      refine lv_isub hx hb dX3_sharesFrom_107 ?_
      obtain ⟨r11, hc11, hf⟩ := kb_bind hf
      refine kc_cl (ws2 := (w_Odds dA oa (qa 0) od ++ (w_Rides4 dA qa g0 g1 g2 (a3 0) q4 ++ (w_Ride dA a3 (pa 0) (pa 1) rd3 ++ (w_Plan dA pa pl))))) (kc_rS (n := 1) (As := [.int (((od_count od) - (3 : Int32)) - (1 : Int32))]) (rest := [.long ((27720 : Int64) / (v7).toInt64)]) hx hb hml hown hK (c_X3_sharesOfAll l D dA H.size (((od_count od) - (3 : Int32)) - (1 : Int32)) r11 hc11) ⟨ww_4_198, ww_4_196, ww_4_197, ww_1_10, by decide, by decide⟩ rfl rfl (by decide +kernel) ⟨Nat.le_of_ble_eq_true rfl, Nat.le_of_ble_eq_true rfl⟩ hP hD hS hA hE (kc_sel [w_Odds dA oa (qa 0) od, w_Rides4 dA qa g0 g1 g2 (a3 0) q4, w_Ride dA a3 (pa 0) (pa 1) rd3, w_Plan dA pa pl] 4 [0, 1, 2, 3] [] rfl (by decide)) rfl hl.1 rfl (Nat.le_of_ble_eq_true rfl) dX3_sharesFrom_108 ⟨Nat.le_of_ble_eq_true rfl, Nat.le_of_ble_eq_true rfl⟩) hP hD hS hA (kc_sel [w_Odds dA oa (qa 0) od, w_Rides4 dA qa g0 g1 g2 (a3 0) q4, w_Ride dA a3 (pa 0) (pa 1) rd3, w_Plan dA pa pl] 4 [0, 1, 2, 3] [] rfl (by decide)) (kc_sel [w_Odds dA oa (qa 0) od, w_Rides4 dA qa g0 g1 g2 (a3 0) q4, w_Ride dA a3 (pa 0) (pa 1) rd3, w_Plan dA pa pl] 4 [0, 1, 2, 3] [] rfl (by decide)).symm (fun H locs hP hD hS => ?_)
      refine lv_lmul hx hb dX3_sharesFrom_111 ?_
      refine lv_goto (tgt := 116) hx hb dX3_sharesFrom_112 (by decide) ?_
      exact RET _ H _ ls 116 hf hP hD hS dX3_sharesFrom_116
  have B_85 : ∀ (v7 : Int32) (H : Heap) (locs : List Loc) (ls : Array Slot), f_X3_sharesFrom_d3_b85 od q4 rd3 pl v7 = some (rv) → va_P D vwCl (w_Odds dA oa (qa 0) od ++ (w_Rides4 dA qa g0 g1 g2 (a3 0) q4 ++ (w_Ride dA a3 (pa 0) (pa 1) rd3 ++ (w_Plan dA pa pl)))) H → va_D A (w_Odds dA oa (qa 0) od ++ (w_Rides4 dA qa g0 g1 g2 (a3 0) q4 ++ (w_Ride dA a3 (pa 0) (pa 1) rd3 ++ (w_Plan dA pa pl)))) → va_S A s.heap H locs → lv_has ls 12 [(0, .ref (oa 0)), (1, .int (3 : Int32)), (7, .int v7)] → W p l e ({ frames := 4, cells := 0, slots := 0, locals := 104 } : Room) s m ([.ref (oa 0), .int (3 : Int32), .int x1, .int x2] : List Value).toArray below meth c H locs 0 0 Q (F0 m 85 ls []) := by
    intro v7 H locs ls hf hP hD hS hl
    rw [f_X3_sharesFrom_d3_b85] at hf
    refine lv_iconst (v := (0 : Int32)) hx hb dX3_sharesFrom_85 (by decide) ?_
    exact B_86 _ _ _ _ _ hf hP hD hS (lv_sub hl [0, 1, 2] rfl)
  have E0 : ∀ (H : Heap) (locs : List Loc), va_P D vwCl (w_Odds dA oa (qa 0) od ++ (w_Rides4 dA qa g0 g1 g2 (a3 0) q4 ++ (w_Ride dA a3 (pa 0) (pa 1) rd3 ++ (w_Plan dA pa pl)))) H → va_D A (w_Odds dA oa (qa 0) od ++ (w_Rides4 dA qa g0 g1 g2 (a3 0) q4 ++ (w_Ride dA a3 (pa 0) (pa 1) rd3 ++ (w_Plan dA pa pl)))) → va_S A s.heap H locs → W p l e ({ frames := 4, cells := 0, slots := 0, locals := 104 } : Room) s m ([.ref (oa 0), .int (3 : Int32), .int x1, .int x2] : List Value).toArray below meth c H locs 0 0 Q (F0 m 0 ls []) := by
    intro H locs hP hD hS
    rw [f_X3_sharesFrom_d3] at hf
    refine lv_iload_n hx hb dX3_sharesFrom_0 rfl (lv_at hl 1 rfl) ?_
    refine lv_aload_n hx hb dX3_sharesFrom_1 rfl (lv_at hl 0 rfl) ?_
    refine va_get (D := D) (ci := 3) (v := .int (od_count od)) (C := RX3) (T := TX3) (N := 3) hx hb hts kb_inX3 hown hK.1 hP 0 rfl rfl 2 (by decide) (hK.2.w ww_2_119 rfl _) (fun _ h9 => h9) rfl dX3_sharesFrom_2 ?_
    refine lv_icmp_ge (tgt := 17) hx hb dX3_sharesFrom_5 (by decide) (fun c_1 => ?_) (fun c_1 => ?_)
    · rw [if_pos c_1] at hf
      refine lv_lconst (v := (0 : Int64)) hx hb dX3_sharesFrom_17 (by decide) ?_
      exact RET _ H _ ls 18 hf hP hD hS dX3_sharesFrom_18
    · rw [if_neg c_1] at hf
      refine lv_iload_n hx hb dX3_sharesFrom_8 rfl (lv_at hl 1 rfl) ?_
      refine lv_aload_n hx hb dX3_sharesFrom_9 rfl (lv_at hl 0 rfl) ?_
      refine va_get (D := D) (ci := 3) (v := .ref (qa 0)) (C := RX3) (T := TX3) (N := 3) hx hb hts kb_inX3 hown hK.1 hP 0 rfl rfl 0 (by decide) (hK.2.w ww_2_117 rfl _) (fun _ h9 => h9) rfl dX3_sharesFrom_10 ?_
      refine va_alen (D := D) (v := (4 : Int32)) hx hb hK.1 hP 2 4 rfl rfl rfl dX3_sharesFrom_13 ?_
      refine lv_icmp_lt (tgt := 19) hx hb dX3_sharesFrom_14 (by decide) (fun _ => ?_) (fun c_1 => absurd (by decide) c_1)
      refine lv_aload_n hx hb dX3_sharesFrom_19 rfl (lv_at hl 0 rfl) ?_
      refine va_get (D := D) (ci := 3) (v := .ref (qa 0)) (C := RX3) (T := TX3) (N := 3) hx hb hts kb_inX3 hown hK.1 hP 0 rfl rfl 0 (by decide) (hK.2.w ww_2_117 rfl _) (fun _ h9 => h9) rfl dX3_sharesFrom_20 ?_
      refine lv_iload_n hx hb dX3_sharesFrom_23 rfl (lv_at hl 1 rfl) ?_
      refine va_aldq (D := D) hx hb hK.1 hP 2 4 rfl rfl (pk_in 3 4 (by decide)) dX3_sharesFrom_24 ?_
      show W p l e ({ frames := 4, cells := 0, slots := 0, locals := 104 } : Room) s m ([.ref (oa 0), .int (3 : Int32), .int x1, .int x2] : List Value).toArray below meth c _ _ 0 0 Q (F0 m 25 _ [.ref (a3 0)])
      refine lv_astore (lv' := [(4, .ref (a3 0)), (0, .ref (oa 0)), (1, .int (3 : Int32)), (2, .int x1), (3, .int x2)]) hx hb dX3_sharesFrom_25 hl (by decide) rfl (fun ls hl => ?_)
      refine lv_aload_n hx hb dX3_sharesFrom_27 rfl (lv_at hl 1 rfl) ?_
      refine va_get (D := D) (ci := 3) (v := .ref (oa 1)) (C := RX3) (T := TX3) (N := 3) hx hb hts kb_inX3 hown hK.1 hP 0 rfl rfl 1 (by decide) (hK.2.w ww_2_118 rfl _) (fun _ h9 => h9) rfl dX3_sharesFrom_28 ?_
      refine lv_iload_n hx hb dX3_sharesFrom_31 rfl (lv_at hl 2 rfl) ?_
      obtain ⟨h_2, hf⟩ := kb_if hf
      refine va_iald (D := D) hx hb hK.1 hP 1 0 rfl rfl h_2 dX3_sharesFrom_32 ?_
      refine lv_istore (lv' := [(5, .int ((od_boarding od) ((3 : Int32)).toNatClampNeg)), (4, .ref (a3 0)), (0, .ref (oa 0)), (1, .int (3 : Int32)), (2, .int x1), (3, .int x2)]) hx hb dX3_sharesFrom_33 hl (by decide) rfl (fun ls hl => ?_)
      refine lv_aload hx hb dX3_sharesFrom_35 (lv_at hl 1 rfl) ?_
      refine lv_iload hx hb dX3_sharesFrom_37 (lv_at hl 0 rfl) ?_
      refine lv_aload hx hb dX3_sharesFrom_39 (lv_at hl 1 rfl) ?_
      refine lv_iload hx hb dX3_sharesFrom_41 (lv_at hl 0 rfl) ?_
      obtain ⟨r3, hc3, hf⟩ := kb_bind hf
      refine kc_ci (ws2 := (w_Odds dA oa (qa 0) od ++ (w_Rides4 dA qa g0 g1 g2 (a3 0) q4 ++ (w_Ride dA a3 (pa 0) (pa 1) rd3 ++ (w_Plan dA pa pl))))) (kc_rV (n := 1) (As := [.int ((od_boarding od) ((3 : Int32)).toNatClampNeg)]) (rest := [.int ((od_boarding od) ((3 : Int32)).toNatClampNeg), .ref (a3 0)]) hx hb hml hown hK (c_X6_bestSeats l D dA H.size a3 pa rd3 pl ((od_boarding od) ((3 : Int32)).toNatClampNeg) r3 hc3) ⟨ww_4_18, ww_4_188, ww_4_16, ww_4_17, ww_1_8, rfl, by decide, by decide⟩ rfl rfl (by decide +kernel) ⟨Nat.le_of_ble_eq_true rfl, Nat.le_of_ble_eq_true rfl⟩ hP hD hS hA hE (kc_sel [w_Odds dA oa (qa 0) od, w_Rides4 dA qa g0 g1 g2 (a3 0) q4, w_Ride dA a3 (pa 0) (pa 1) rd3, w_Plan dA pa pl] 4 [0, 1] [2, 3] rfl (by decide)) 0 rfl rfl rfl hl.1 rfl (Nat.le_of_ble_eq_true rfl) dX3_sharesFrom_43 ⟨Nat.le_of_ble_eq_true rfl, Nat.le_of_ble_eq_true rfl⟩) hP hD hS hA (kc_sel [w_Odds dA oa (qa 0) od, w_Rides4 dA qa g0 g1 g2 (a3 0) q4, w_Ride dA a3 (pa 0) (pa 1) rd3, w_Plan dA pa pl] 4 [0, 1] [2, 3] rfl (by decide)) (kc_sel [w_Odds dA oa (qa 0) od, w_Rides4 dA qa g0 g1 g2 (a3 0) q4, w_Ride dA a3 (pa 0) (pa 1) rd3, w_Plan dA pa pl] 4 [0, 1] [2, 3] rfl (by decide)).symm (fun H locs hP hD hS => ?_)
      obtain ⟨r4, hc4, hf⟩ := kb_bind hf
      refine kc_ci (ws2 := (w_Odds dA oa (qa 0) od ++ (w_Rides4 dA qa g0 g1 g2 (a3 0) q4 ++ (w_Ride dA a3 (pa 0) (pa 1) rd3 ++ (w_Plan dA pa pl))))) (kc_rV (n := 2) (As := [.int ((od_boarding od) ((3 : Int32)).toNatClampNeg), .int r3]) (rest := []) hx hb hml hown hK (c_X6_tied l D dA H.size a3 pa rd3 pl ((od_boarding od) ((3 : Int32)).toNatClampNeg) r3 r4 hc4) ⟨ww_4_163, ww_4_189, ww_4_161, ww_4_162, ww_1_8, rfl, by decide, by decide⟩ rfl rfl (by decide +kernel) ⟨Nat.le_of_ble_eq_true rfl, Nat.le_of_ble_eq_true rfl⟩ hP hD hS hA hE (kc_sel [w_Odds dA oa (qa 0) od, w_Rides4 dA qa g0 g1 g2 (a3 0) q4, w_Ride dA a3 (pa 0) (pa 1) rd3, w_Plan dA pa pl] 4 [0, 1] [2, 3] rfl (by decide)) 0 rfl rfl rfl hl.1 rfl (Nat.le_of_ble_eq_true rfl) dX3_sharesFrom_46 ⟨Nat.le_of_ble_eq_true rfl, Nat.le_of_ble_eq_true rfl⟩) hP hD hS hA (kc_sel [w_Odds dA oa (qa 0) od, w_Rides4 dA qa g0 g1 g2 (a3 0) q4, w_Ride dA a3 (pa 0) (pa 1) rd3, w_Plan dA pa pl] 4 [0, 1] [2, 3] rfl (by decide)) (kc_sel [w_Odds dA oa (qa 0) od, w_Rides4 dA qa g0 g1 g2 (a3 0) q4, w_Ride dA a3 (pa 0) (pa 1) rd3, w_Plan dA pa pl] 4 [0, 1] [2, 3] rfl (by decide)).symm (fun H locs hP hD hS => ?_)
      obtain ⟨r5, hc5, hf⟩ := kb_bind hf
      refine kc_ci (ws2 := (w_Odds dA oa (qa 0) od ++ (w_Rides4 dA qa g0 g1 g2 (a3 0) q4 ++ (w_Ride dA a3 (pa 0) (pa 1) rd3 ++ (w_Plan dA pa pl))))) (kc_rS (n := 1) (As := [.int r4]) (rest := []) hx hb hml hown hK (c_X3_firstTies l D dA H.size r4 r5 hc5) ⟨ww_4_192, ww_4_190, ww_4_191, ww_1_10, by decide, by decide⟩ rfl rfl (by decide +kernel) ⟨Nat.le_of_ble_eq_true rfl, Nat.le_of_ble_eq_true rfl⟩ hP hD hS hA hE (kc_sel [w_Odds dA oa (qa 0) od, w_Rides4 dA qa g0 g1 g2 (a3 0) q4, w_Ride dA a3 (pa 0) (pa 1) rd3, w_Plan dA pa pl] 4 [0, 1, 2, 3] [] rfl (by decide)) rfl hl.1 rfl (Nat.le_of_ble_eq_true rfl) dX3_sharesFrom_49 ⟨Nat.le_of_ble_eq_true rfl, Nat.le_of_ble_eq_true rfl⟩) hP hD hS hA (kc_sel [w_Odds dA oa (qa 0) od, w_Rides4 dA qa g0 g1 g2 (a3 0) q4, w_Ride dA a3 (pa 0) (pa 1) rd3, w_Plan dA pa pl] 4 [0, 1, 2, 3] [] rfl (by decide)) (kc_sel [w_Odds dA oa (qa 0) od, w_Rides4 dA qa g0 g1 g2 (a3 0) q4, w_Ride dA a3 (pa 0) (pa 1) rd3, w_Plan dA pa pl] 4 [0, 1, 2, 3] [] rfl (by decide)).symm (fun H locs hP hD hS => ?_)
      refine lv_istore (lv' := [(6, .int r5), (5, .int ((od_boarding od) ((3 : Int32)).toNatClampNeg)), (4, .ref (a3 0)), (0, .ref (oa 0)), (1, .int (3 : Int32)), (2, .int x1), (3, .int x2)]) hx hb dX3_sharesFrom_52 hl (by decide) rfl (fun ls hl => ?_)
      refine lv_iload hx hb dX3_sharesFrom_54 (lv_at hl 0 rfl) ?_
      obtain ⟨r6, hc6, hf⟩ := kb_bind hf
      refine kc_ci (ws2 := (w_Odds dA oa (qa 0) od ++ (w_Rides4 dA qa g0 g1 g2 (a3 0) q4 ++ (w_Ride dA a3 (pa 0) (pa 1) rd3 ++ (w_Plan dA pa pl))))) (kc_rS (n := 1) (As := [.int r5]) (rest := []) hx hb hml hown hK (c_J6_bitCount_0f7a4 l D dA H.size r5 r6 hc6) ⟨ww_4_166, ww_4_194, ww_4_165, ww_1_20, by decide, by decide⟩ rfl rfl (by decide +kernel) ⟨Nat.le_of_ble_eq_true rfl, Nat.le_of_ble_eq_true rfl⟩ hP hD hS hA hE (kc_sel [w_Odds dA oa (qa 0) od, w_Rides4 dA qa g0 g1 g2 (a3 0) q4, w_Ride dA a3 (pa 0) (pa 1) rd3, w_Plan dA pa pl] 4 [0, 1, 2, 3] [] rfl (by decide)) rfl hl.1 rfl (Nat.le_of_ble_eq_true rfl) dX3_sharesFrom_56 ⟨Nat.le_of_ble_eq_true rfl, Nat.le_of_ble_eq_true rfl⟩) hP hD hS hA (kc_sel [w_Odds dA oa (qa 0) od, w_Rides4 dA qa g0 g1 g2 (a3 0) q4, w_Ride dA a3 (pa 0) (pa 1) rd3, w_Plan dA pa pl] 4 [0, 1, 2, 3] [] rfl (by decide)) (kc_sel [w_Odds dA oa (qa 0) od, w_Rides4 dA qa g0 g1 g2 (a3 0) q4, w_Ride dA a3 (pa 0) (pa 1) rd3, w_Plan dA pa pl] 4 [0, 1, 2, 3] [] rfl (by decide)).symm (fun H locs hP hD hS => ?_)
      refine lv_istore (lv' := [(7, .int r6), (6, .int r5), (5, .int ((od_boarding od) ((3 : Int32)).toNatClampNeg)), (4, .ref (a3 0)), (0, .ref (oa 0)), (1, .int (3 : Int32)), (2, .int x1), (3, .int x2)]) hx hb dX3_sharesFrom_59 hl (by decide) rfl (fun ls hl => ?_)
      refine lv_iload hx hb dX3_sharesFrom_61 (lv_at hl 2 rfl) ?_
      refine lv_iload_n hx hb dX3_sharesFrom_63 rfl (lv_at hl 6 rfl) ?_
      refine lv_icmp_ne (tgt := 117) hx hb dX3_sharesFrom_64 (by decide) (fun c_7 => ?_) (fun c_7 => ?_)
      · rw [if_neg c_7] at hf
        refine lv_iload_n hx hb dX3_sharesFrom_117 rfl (lv_at hl 5 rfl) ?_
        refine lv_iconst (v := (1 : Int32)) hx hb dX3_sharesFrom_118 (by decide) ?_
        refine lv_iadd hx hb dX3_sharesFrom_119 ?_
        show W p l e ({ frames := 4, cells := 0, slots := 0, locals := 104 } : Room) s m ([.ref (oa 0), .int (3 : Int32), .int x1, .int x2] : List Value).toArray below meth c _ _ 0 0 Q (F0 m 120 _ [.int (4 : Int32)])
        refine lv_aload_n hx hb dX3_sharesFrom_120 rfl (lv_at hl 4 rfl) ?_
        refine va_get (D := D) (ci := 3) (v := .ref (qa 0)) (C := RX3) (T := TX3) (N := 3) hx hb hts kb_inX3 hown hK.1 hP 0 rfl rfl 0 (by decide) (hK.2.w ww_2_117 rfl _) (fun _ h9 => h9) rfl dX3_sharesFrom_121 ?_
        refine va_alen (D := D) (v := (4 : Int32)) hx hb hK.1 hP 2 4 rfl rfl rfl dX3_sharesFrom_124 ?_
        refine lv_icmp_lt (tgt := 130) hx hb dX3_sharesFrom_125 (by decide) (fun c_1 => absurd c_1 (by decide)) (fun _ => ?_)
        refine lv_lconst (v := (0 : Int64)) hx hb dX3_sharesFrom_128 (by decide) ?_
        exact RET _ H _ ls 129 hf hP hD hS dX3_sharesFrom_129
      · rw [if_pos c_7] at hf
        refine lv_iload hx hb dX3_sharesFrom_67 (lv_at hl 0 rfl) ?_
        refine lv_if_le (tgt := 85) hx hb dX3_sharesFrom_69 (by decide) (fun c_8 => ?_) (fun c_8 => ?_)
        · rw [if_pos c_8] at hf
          exact B_85 _ _ _ _ hf hP hD hS (lv_sub hl [4, 5, 0] rfl)
        · rw [if_neg c_8] at hf
          refine lv_iload hx hb dX3_sharesFrom_72 (lv_at hl 1 rfl) ?_
          refine lv_iload_n hx hb dX3_sharesFrom_74 rfl (lv_at hl 7 rfl) ?_
          obtain ⟨r12, hc12, hf⟩ := kb_bind hf
          refine kc_ci (ws2 := (w_Odds dA oa (qa 0) od ++ (w_Rides4 dA qa g0 g1 g2 (a3 0) q4 ++ (w_Ride dA a3 (pa 0) (pa 1) rd3 ++ (w_Plan dA pa pl))))) (kc_rSN (n := 2) (As := [.int r5, .int x2]) (rest := []) hx hb hml hown hK (c_X10_holdsBit l D dA H.size r5 x2 r12 hc12) ⟨ww_3_158, ww_4_193, ww_3_157, ww_1_1, by decide, by decide⟩ rfl rfl (by decide +kernel) ⟨Nat.le_of_ble_eq_true rfl, Nat.le_of_ble_eq_true rfl⟩ hP hD hS hA hE (kc_sel [w_Odds dA oa (qa 0) od, w_Rides4 dA qa g0 g1 g2 (a3 0) q4, w_Ride dA a3 (pa 0) (pa 1) rd3, w_Plan dA pa pl] 4 [0, 1, 2, 3] [] rfl (by decide)) rfl hl.1 rfl (Nat.le_of_ble_eq_true rfl) dX3_sharesFrom_75 ⟨Nat.le_of_ble_eq_true rfl, Nat.le_of_ble_eq_true rfl⟩) hP hD hS hA (kc_sel [w_Odds dA oa (qa 0) od, w_Rides4 dA qa g0 g1 g2 (a3 0) q4, w_Ride dA a3 (pa 0) (pa 1) rd3, w_Plan dA pa pl] 4 [0, 1, 2, 3] [] rfl (by decide)) (kc_sel [w_Odds dA oa (qa 0) od, w_Rides4 dA qa g0 g1 g2 (a3 0) q4, w_Ride dA a3 (pa 0) (pa 1) rd3, w_Plan dA pa pl] 4 [0, 1, 2, 3] [] rfl (by decide)).symm (fun H locs hP hD hS => ?_)
          refine lv_if_eq (tgt := 85) hx hb dX3_sharesFrom_78 (by decide) (fun c_13 => ?_) (fun c_13 => ?_)
          · rw [if_pos c_13] at hf
            exact B_85 _ _ _ _ hf hP hD hS (lv_sub hl [4, 5, 0] rfl)
          · rw [if_neg c_13] at hf
            refine lv_iconst (v := (1 : Int32)) hx hb dX3_sharesFrom_81 (by decide) ?_
            refine lv_goto (tgt := 86) hx hb dX3_sharesFrom_82 (by decide) ?_
            exact B_86 _ _ _ _ _ hf hP hD hS (lv_sub hl [4, 5, 0] rfl)
  exact E0 _ _ hP hD hS

noncomputable def f_X3_sharesFrom_d2_b205 (od : OddsT) (q4 : Rides4T) (rd2 : RideT) (pl : PlanT) (k172 : Int32 → Int32 → Int32 → Int32 → Int32 → Int64 → Int32 → RideT → Option (Int64 × RideT)) (v2 : Int32) (v3 : Int32) (v5 : Int32) (v6 : Int32) (v7 : Int32) (v9 : Int64) (v11 : Int32) (z3 : RideT) : Option (Int64 × RideT) := (f_X3_sharesFrom_d3 od q4 z3 pl v2 v3).bind fun r15 => k172 v2 v3 v5 v6 v7 (v9 + r15) (v11 + (1 : Int32)) z3
noncomputable def f_X3_sharesFrom_d2_b196 (od : OddsT) (q4 : Rides4T) (rd2 : RideT) (pl : PlanT) (k172 : Int32 → Int32 → Int32 → Int32 → Int32 → Int64 → Int32 → RideT → Option (Int64 × RideT)) (v2 : Int32) (v3 : Int32) (v5 : Int32) (v6 : Int32) (v7 : Int32) (v9 : Int64) (v11 : Int32) (z3 : RideT) : Option (Int64 × RideT) := (f_X6_sitDown z3 pl v5 v11).bind fun r14 => f_X3_sharesFrom_d2_b205 od q4 rd2 pl k172 v2 v3 v5 v6 v7 v9 v11 r14
noncomputable def f_X3_sharesFrom_d2_b172 (od : OddsT) (q4 : Rides4T) (rd2 : RideT) (pl : PlanT) : Nat → Int32 → Int32 → Int32 → Int32 → Int32 → Int64 → Int32 → RideT → Option (Int64 × RideT)
  | 0, _, _, _, _, _, _, _, _ => none
  | n + 1, v2, v3, v5, v6, v7, v9, v11, z3 => (if (20 : Int32) ≤ v11 then if ¬ (v7).toInt64 = 0 then some ((((27720 : Int64) / (v7).toInt64) * v9), z3) else none else (f_X10_holdsBit v6 v11).bind fun r11 => (if r11 = 0 then f_X3_sharesFrom_d2_b172 od q4 rd2 pl n v2 v3 v5 v6 v7 v9 (v11 + (1 : Int32)) z3 else (f_X6_copyFrom z3 rd2).bind fun r13 => f_X3_sharesFrom_d2_b196 od q4 rd2 pl (f_X3_sharesFrom_d2_b172 od q4 rd2 pl n) v2 v3 v5 v6 v7 v9 v11 r13))
noncomputable def f_X3_sharesFrom_d2_b152 (od : OddsT) (q4 : Rides4T) (rd2 : RideT) (pl : PlanT) (v2 : Int32) (v3 : Int32) (z3 : RideT) : Option (Int64 × RideT) := (f_X3_sharesFrom_d3 od q4 z3 pl v2 v3).bind fun r17 => some (((27720 : Int64) * r17), z3)
noncomputable def f_X3_sharesFrom_d2_b86 (od : OddsT) (q4 : Rides4T) (rd2 : RideT) (pl : PlanT) (v7 : Int32) (s0 : Int32) (z3 : RideT) : Option (Int64 × RideT) := (if s0 = 0 then some ((0 : Int64), z3) else if ¬ (v7).toInt64 = 0 then (f_X3_sharesOfAll (((od_count od) - (2 : Int32)) - (1 : Int32))).bind fun r21 => some ((((27720 : Int64) / (v7).toInt64) * r21), z3) else none)
noncomputable def f_X3_sharesFrom_d2_b85 (od : OddsT) (q4 : Rides4T) (rd2 : RideT) (pl : PlanT) (v7 : Int32) (z3 : RideT) : Option (Int64 × RideT) := f_X3_sharesFrom_d2_b86 od q4 rd2 pl v7 (0 : Int32) z3
noncomputable def f_X3_sharesFrom_d2 (od : OddsT) (q4 : Rides4T) (rd2 : RideT) (rd3 : RideT) (pl : PlanT) (x1 : Int32) (x2 : Int32) : Option (Int64 × RideT) := (if (od_count od) ≤ (2 : Int32) then some ((0 : Int64), rd3) else if kb_in? (2 : Int32) 8 then (f_X6_bestSeats rd2 pl ((od_boarding od) ((2 : Int32)).toNatClampNeg)).bind fun r3 => (f_X6_tied rd2 pl ((od_boarding od) ((2 : Int32)).toNatClampNeg) r3).bind fun r4 => (f_X3_firstTies r4).bind fun r5 => (f_J6_bitCount_0f7a4 r5).bind fun r6 => (if ((od_boarding od) ((2 : Int32)).toNatClampNeg) = x1 then (if r6 ≤ 0 then f_X3_sharesFrom_d2_b85 od q4 rd2 pl r6 rd3 else (f_X10_holdsBit r5 x2).bind fun r22 => (if r22 = 0 then f_X3_sharesFrom_d2_b85 od q4 rd2 pl r6 rd3 else f_X3_sharesFrom_d2_b86 od q4 rd2 pl r6 (1 : Int32) rd3)) else (if r6 = 0 then (f_X6_copyFrom rd3 rd2).bind fun r16 => f_X3_sharesFrom_d2_b152 od q4 rd2 pl x1 x2 r16 else f_X3_sharesFrom_d2_b172 od q4 rd2 pl 4096 x1 x2 ((od_boarding od) ((2 : Int32)).toNatClampNeg) r5 r6 (0 : Int64) (0 : Int32) rd3)) else none)
set_option maxHeartbeats 4000000 in
set_option maxRecDepth 100000 in
theorem c_X3_sharesFrom_d2 (l : Launch) (D : va_G) (dA : Nat → ClassId) (sz : Nat) (oa : Nat → Nat) (qa : Nat → Nat) (a2 : Nat → Nat) (a3 : Nat → Nat) (pa : Nat → Nat) (g0 : Nat) (g1 : Nat) (ph : Nat → Nat) (od : OddsT) (q4 : Rides4T) (rd2 : RideT) (rd3 : RideT) (pl : PlanT) (x1 : Int32) (x2 : Int32) (rv : Int64) (u3 : RideT) (hf : f_X3_sharesFrom_d2 od q4 rd2 rd3 pl x1 x2 = some (rv, u3)) : kb_FMl l yX3_sharesFrom cX3_sharesFrom 12 (some .long) ({ frames := 5, cells := 0, slots := 0, locals := 135 } : Room) D dA [.ref (oa 0), .int (2 : Int32), .int x1, .int x2] sz (w_Odds dA oa (qa 0) od ++ (w_Rides4 dA qa g0 g1 (a2 0) (a3 0) q4 ++ (w_Ride dA a2 (pa 0) (pa 1) rd2 ++ (w_Ride dA a3 (ph 0) (ph 1) rd3 ++ (w_Plan dA pa pl))))) 0 0 rv (fun (ph2 : Nat → Nat) => (w_Odds dA oa (qa 0) od ++ (w_Rides4 dA qa g0 g1 (a2 0) (a3 0) q4 ++ (w_Ride dA a2 (pa 0) (pa 1) rd2 ++ (w_Ride dA a3 (ph2 0) (ph2 1) u3 ++ (w_Plan dA pa pl)))))) := by
  refine Met.ofW (cc := cX3_sharesFrom) (maxL := 12) (ret := (some .long)) (by decide) rfl ?_
  intro p e s m args below meth c s₁ B hml hv
  obtain ⟨rfl, hsz, hP, hK, hD0, hE⟩ := hv
  have hx := B.exec
  have hb := B.bytes
  have hr := B.returns
  have hown : s.vm.findClass RX3 = some m.cls := findClass_of_methodNamed B.named
  have hlocks := B.notSynchronized
  have hts : ∀ w ∈ kb_gw, w.before ([.ref (oa 0), .int (2 : Int32), .int x1, .int x2] : List Value).toArray s = true := fun w hw => hK.2.1 w hw _
  subst hsz
  have hD := hD0.self (sz := s.heap.size)
  generalize hAe : va_A (w_Odds dA oa (qa 0) od ++ (w_Rides4 dA qa g0 g1 (a2 0) (a3 0) q4 ++ (w_Ride dA a2 (pa 0) (pa 1) rd2 ++ (w_Ride dA a3 (ph 0) (ph 1) rd3 ++ (w_Plan dA pa pl))))) s.heap.size = A at hD hE ⊢
  have hA : ∀ q : Nat, s.heap.size ≤ q → A q := fun q h => by rw [← hAe]; exact Or.inr h
  have hS : va_S A s.heap s.heap [] := va_S.rf
  have hl := lv_entry ([.ref (oa 0), .int (2 : Int32), .int x1, .int x2]) (n := 12) (Nat.le_of_ble_eq_true rfl)
  rw [lg_entry_eq]
  generalize (lg_sl ([.ref (oa 0), .int (2 : Int32), .int x1, .int x2]) ++ List.replicate (12 - (lg_sl ([.ref (oa 0), .int (2 : Int32), .int x1, .int x2])).length) Slot.unset).toArray = ls at hl ⊢
  have hl : lv_has ls 12 [(0, .ref (oa 0)), (1, .int (2 : Int32)), (2, .int x1), (3, .int x2)] := hl
  generalize hQ : MQ below (va_Ql (fun r (_ : Nat → Nat) => r = rv) (fun ph2 => kb_B D A (w_Odds dA oa (qa 0) od ++ (w_Rides4 dA qa g0 g1 (a2 0) (a3 0) q4 ++ (w_Ride dA a2 (pa 0) (pa 1) rd2 ++ (w_Ride dA a3 (ph2 0) (ph2 1) u3 ++ (w_Plan dA pa pl))))) ()) A) ([.ref (oa 0), .int (2 : Int32), .int x1, .int x2] : List Value).toArray s 0 0 A = Q
  show W p l e ({ frames := 5, cells := 0, slots := 0, locals := 135 } : Room) s m ([.ref (oa 0), .int (2 : Int32), .int x1, .int x2] : List Value).toArray below meth c s.heap [] 0 0 Q (F0 m 0 ls [])
  have RET : ∀ (ph2 : Nat → Nat) (r2 : Int64) (w3 : RideT) (H : Heap) (locs : List Loc) (ls : Array Slot) (pc : Nat), some (r2, w3) = some (rv, u3) → va_P D vwCl (w_Odds dA oa (qa 0) od ++ (w_Rides4 dA qa g0 g1 (a2 0) (a3 0) q4 ++ (w_Ride dA a2 (pa 0) (pa 1) rd2 ++ (w_Ride dA a3 (ph2 0) (ph2 1) w3 ++ (w_Plan dA pa pl))))) H → va_D A (w_Odds dA oa (qa 0) od ++ (w_Rides4 dA qa g0 g1 (a2 0) (a3 0) q4 ++ (w_Ride dA a2 (pa 0) (pa 1) rd2 ++ (w_Ride dA a3 (ph2 0) (ph2 1) w3 ++ (w_Plan dA pa pl))))) → va_S A s.heap H locs → decode cX3_sharesFrom pc = .ok (.lreturn, 1) → W p l e ({ frames := 5, cells := 0, slots := 0, locals := 135 } : Room) s m ([.ref (oa 0), .int (2 : Int32), .int x1, .int x2] : List Value).toArray below meth c H locs 0 0 Q (F0 m pc ls [.long r2]) := by
    intro ph2 r2 w3 H locs ls pc hq hP hD hS hd
    cases hq
    rw [← hQ]
    exact W.lret hx hb hr (fun t ht hW => ⟨⟨_, ph2, rfl, rfl, by rw [ht]; exact hP, hD⟩, hS.F ht⟩) hS.2.2 hd
  have B_205 : ∀ (k172 : Int32 → Int32 → Int32 → Int32 → Int32 → Int64 → Int32 → RideT → Option (Int64 × RideT)) (hk172 : ∀ (ph : Nat → Nat) (v2 : Int32) (v3 : Int32) (v5 : Int32) (v6 : Int32) (v7 : Int32) (v9 : Int64) (v11 : Int32) (z3 : RideT) (H : Heap) (locs : List Loc) (ls : Array Slot), k172 v2 v3 v5 v6 v7 v9 v11 z3 = some (rv, u3) → va_P D vwCl (w_Odds dA oa (qa 0) od ++ (w_Rides4 dA qa g0 g1 (a2 0) (a3 0) q4 ++ (w_Ride dA a2 (pa 0) (pa 1) rd2 ++ (w_Ride dA a3 (ph 0) (ph 1) z3 ++ (w_Plan dA pa pl))))) H → va_D A (w_Odds dA oa (qa 0) od ++ (w_Rides4 dA qa g0 g1 (a2 0) (a3 0) q4 ++ (w_Ride dA a2 (pa 0) (pa 1) rd2 ++ (w_Ride dA a3 (ph 0) (ph 1) z3 ++ (w_Plan dA pa pl))))) → va_S A s.heap H locs → lv_has ls 12 [(0, .ref (oa 0)), (1, .int (2 : Int32)), (2, .int v2), (3, .int v3), (4, .ref (a2 0)), (5, .int v5), (6, .int v6), (7, .int v7), (8, .ref (a3 0)), (9, .long v9), (11, .int v11)] → W p l e ({ frames := 5, cells := 0, slots := 0, locals := 135 } : Room) s m ([.ref (oa 0), .int (2 : Int32), .int x1, .int x2] : List Value).toArray below meth c H locs 0 0 Q (F0 m 172 ls [])) (ph : Nat → Nat) (v2 : Int32) (v3 : Int32) (v5 : Int32) (v6 : Int32) (v7 : Int32) (v9 : Int64) (v11 : Int32) (z3 : RideT) (H : Heap) (locs : List Loc) (ls : Array Slot), f_X3_sharesFrom_d2_b205 od q4 rd2 pl k172 v2 v3 v5 v6 v7 v9 v11 z3 = some (rv, u3) → va_P D vwCl (w_Odds dA oa (qa 0) od ++ (w_Rides4 dA qa g0 g1 (a2 0) (a3 0) q4 ++ (w_Ride dA a2 (pa 0) (pa 1) rd2 ++ (w_Ride dA a3 (pa 0) (pa 1) z3 ++ (w_Plan dA pa pl))))) H → va_D A (w_Odds dA oa (qa 0) od ++ (w_Rides4 dA qa g0 g1 (a2 0) (a3 0) q4 ++ (w_Ride dA a2 (pa 0) (pa 1) rd2 ++ (w_Ride dA a3 (pa 0) (pa 1) z3 ++ (w_Plan dA pa pl))))) → va_S A s.heap H locs → lv_has ls 12 [(0, .ref (oa 0)), (1, .int (2 : Int32)), (2, .int v2), (3, .int v3), (4, .ref (a2 0)), (5, .int v5), (6, .int v6), (7, .int v7), (8, .ref (a3 0)), (9, .long v9), (11, .int v11)] → W p l e ({ frames := 5, cells := 0, slots := 0, locals := 135 } : Room) s m ([.ref (oa 0), .int (2 : Int32), .int x1, .int x2] : List Value).toArray below meth c H locs 0 0 Q (F0 m 205 ls []) := by
    intro k172 hk172 ph v2 v3 v5 v6 v7 v9 v11 z3 H locs ls hf hP hD hS hl
    rw [f_X3_sharesFrom_d2_b205] at hf
    refine lv_lload hx hb dX3_sharesFrom_205 (lv_at hl 9 rfl) ?_
    refine lv_aload_n hx hb dX3_sharesFrom_207 rfl (lv_at hl 0 rfl) ?_
    refine lv_iload_n hx hb dX3_sharesFrom_208 rfl (lv_at hl 1 rfl) ?_
    refine lv_iconst (v := (1 : Int32)) hx hb dX3_sharesFrom_209 (by decide) ?_
    refine lv_iadd hx hb dX3_sharesFrom_210 ?_
    show W p l e ({ frames := 5, cells := 0, slots := 0, locals := 135 } : Room) s m ([.ref (oa 0), .int (2 : Int32), .int x1, .int x2] : List Value).toArray below meth c _ _ 0 0 Q (F0 m 211 _ [.int (3 : Int32), .ref (oa 0), .long v9])
    refine lv_iload_n hx hb dX3_sharesFrom_211 rfl (lv_at hl 2 rfl) ?_
    refine lv_iload_n hx hb dX3_sharesFrom_212 rfl (lv_at hl 3 rfl) ?_
    obtain ⟨r15, hc15, hf⟩ := kb_bind hf
    refine kc_cl (ws2 := (w_Odds dA oa (qa 0) od ++ (w_Rides4 dA qa g0 g1 (a2 0) (a3 0) q4 ++ (w_Ride dA a2 (pa 0) (pa 1) rd2 ++ (w_Ride dA a3 (pa 0) (pa 1) z3 ++ (w_Plan dA pa pl)))))) (kc_rV (n := 3) (As := [.int (3 : Int32), .int v2, .int v3]) (rest := [.long v9]) hx hb hml hown hK (c_X3_sharesFrom_d3 l D dA H.size oa qa a3 pa g0 g1 (a2 0) od q4 z3 pl v2 v3 r15 hc15) ⟨ww_4_187, ww_4_184, ww_4_186, ws_36, ww_1_10, rfl, by decide, by decide⟩ rfl rfl (by decide +kernel) ⟨Nat.le_of_ble_eq_true rfl, Nat.le_of_ble_eq_true rfl⟩ hP hD hS hA hE (kc_sel [w_Odds dA oa (qa 0) od, w_Rides4 dA qa g0 g1 (a2 0) (a3 0) q4, w_Ride dA a2 (pa 0) (pa 1) rd2, w_Ride dA a3 (pa 0) (pa 1) z3, w_Plan dA pa pl] 5 [2] [0, 1, 3, 4] rfl (by decide)) 0 rfl rfl rfl hl.1 rfl (Nat.le_of_ble_eq_true rfl) dX3_sharesFrom_213 ⟨Nat.le_of_ble_eq_true rfl, Nat.le_of_ble_eq_true rfl⟩) hP hD hS hA (kc_sel [w_Odds dA oa (qa 0) od, w_Rides4 dA qa g0 g1 (a2 0) (a3 0) q4, w_Ride dA a2 (pa 0) (pa 1) rd2, w_Ride dA a3 (pa 0) (pa 1) z3, w_Plan dA pa pl] 5 [2] [0, 1, 3, 4] rfl (by decide)) (kc_sel [w_Odds dA oa (qa 0) od, w_Rides4 dA qa g0 g1 (a2 0) (a3 0) q4, w_Ride dA a2 (pa 0) (pa 1) rd2, w_Ride dA a3 (pa 0) (pa 1) z3, w_Plan dA pa pl] 5 [2] [0, 1, 3, 4] rfl (by decide)).symm (fun H locs hP hD hS => ?_)
    refine lv_ladd hx hb dX3_sharesFrom_216 ?_
    refine lv_lstore (lv' := [(9, .long (v9 + r15)), (0, .ref (oa 0)), (1, .int (2 : Int32)), (2, .int v2), (3, .int v3), (4, .ref (a2 0)), (5, .int v5), (6, .int v6), (7, .int v7), (8, .ref (a3 0)), (11, .int v11)]) hx hb dX3_sharesFrom_217 hl (by decide) rfl (fun ls hl => ?_)
    refine lv_iinc (v := (v11 + (1 : Int32))) (lv' := [(11, .int (v11 + (1 : Int32))), (9, .long (v9 + r15)), (0, .ref (oa 0)), (1, .int (2 : Int32)), (2, .int v2), (3, .int v3), (4, .ref (a2 0)), (5, .int v5), (6, .int v6), (7, .int v7), (8, .ref (a3 0))]) hx hb dX3_sharesFrom_219 hl (k := 10) rfl (by rfl) (by decide) rfl (fun ls hl => ?_)
    refine lv_goto (tgt := 172) hx hb dX3_sharesFrom_222 (by decide) ?_
    exact hk172 (kb_ph [(pa 0), (pa 1)]) _ _ _ _ _ _ _ _ _ _ _ hf hP hD hS (lv_sub hl [2, 3, 4, 5, 6, 7, 8, 9, 10, 1, 0] rfl)
  have B_196 : ∀ (k172 : Int32 → Int32 → Int32 → Int32 → Int32 → Int64 → Int32 → RideT → Option (Int64 × RideT)) (hk172 : ∀ (ph : Nat → Nat) (v2 : Int32) (v3 : Int32) (v5 : Int32) (v6 : Int32) (v7 : Int32) (v9 : Int64) (v11 : Int32) (z3 : RideT) (H : Heap) (locs : List Loc) (ls : Array Slot), k172 v2 v3 v5 v6 v7 v9 v11 z3 = some (rv, u3) → va_P D vwCl (w_Odds dA oa (qa 0) od ++ (w_Rides4 dA qa g0 g1 (a2 0) (a3 0) q4 ++ (w_Ride dA a2 (pa 0) (pa 1) rd2 ++ (w_Ride dA a3 (ph 0) (ph 1) z3 ++ (w_Plan dA pa pl))))) H → va_D A (w_Odds dA oa (qa 0) od ++ (w_Rides4 dA qa g0 g1 (a2 0) (a3 0) q4 ++ (w_Ride dA a2 (pa 0) (pa 1) rd2 ++ (w_Ride dA a3 (ph 0) (ph 1) z3 ++ (w_Plan dA pa pl))))) → va_S A s.heap H locs → lv_has ls 12 [(0, .ref (oa 0)), (1, .int (2 : Int32)), (2, .int v2), (3, .int v3), (4, .ref (a2 0)), (5, .int v5), (6, .int v6), (7, .int v7), (8, .ref (a3 0)), (9, .long v9), (11, .int v11)] → W p l e ({ frames := 5, cells := 0, slots := 0, locals := 135 } : Room) s m ([.ref (oa 0), .int (2 : Int32), .int x1, .int x2] : List Value).toArray below meth c H locs 0 0 Q (F0 m 172 ls [])) (ph : Nat → Nat) (v2 : Int32) (v3 : Int32) (v5 : Int32) (v6 : Int32) (v7 : Int32) (v9 : Int64) (v11 : Int32) (z3 : RideT) (H : Heap) (locs : List Loc) (ls : Array Slot), f_X3_sharesFrom_d2_b196 od q4 rd2 pl k172 v2 v3 v5 v6 v7 v9 v11 z3 = some (rv, u3) → va_P D vwCl (w_Odds dA oa (qa 0) od ++ (w_Rides4 dA qa g0 g1 (a2 0) (a3 0) q4 ++ (w_Ride dA a2 (pa 0) (pa 1) rd2 ++ (w_Ride dA a3 (pa 0) (pa 1) z3 ++ (w_Plan dA pa pl))))) H → va_D A (w_Odds dA oa (qa 0) od ++ (w_Rides4 dA qa g0 g1 (a2 0) (a3 0) q4 ++ (w_Ride dA a2 (pa 0) (pa 1) rd2 ++ (w_Ride dA a3 (pa 0) (pa 1) z3 ++ (w_Plan dA pa pl))))) → va_S A s.heap H locs → lv_has ls 12 [(0, .ref (oa 0)), (1, .int (2 : Int32)), (2, .int v2), (3, .int v3), (4, .ref (a2 0)), (5, .int v5), (6, .int v6), (7, .int v7), (8, .ref (a3 0)), (9, .long v9), (11, .int v11)] → W p l e ({ frames := 5, cells := 0, slots := 0, locals := 135 } : Room) s m ([.ref (oa 0), .int (2 : Int32), .int x1, .int x2] : List Value).toArray below meth c H locs 0 0 Q (F0 m 196 ls []) := by
    intro k172 hk172 ph v2 v3 v5 v6 v7 v9 v11 z3 H locs ls hf hP hD hS hl
    rw [f_X3_sharesFrom_d2_b196] at hf
    refine lv_aload hx hb dX3_sharesFrom_196 (lv_at hl 8 rfl) ?_
    refine lv_iload hx hb dX3_sharesFrom_198 (lv_at hl 5 rfl) ?_
    refine lv_iload hx hb dX3_sharesFrom_200 (lv_at hl 10 rfl) ?_
    obtain ⟨r14, hc14, hf⟩ := kb_bind hf
    refine kc_cv (ws2 := (w_Odds dA oa (qa 0) od ++ (w_Rides4 dA qa g0 g1 (a2 0) (a3 0) q4 ++ (w_Ride dA a2 (pa 0) (pa 1) rd2 ++ (w_Ride dA a3 (pa 0) (pa 1) r14 ++ (w_Plan dA pa pl)))))) (kc_rV (n := 2) (As := [.int v5, .int v11]) (rest := []) hx hb hml hown hK (c_X6_sitDown l D dA H.size a3 pa z3 pl v5 v11 r14 hc14) ⟨ww_4_5, ww_4_199, ww_4_3, ww_4_4, ww_1_8, rfl, by decide, by decide⟩ rfl rfl (by decide +kernel) ⟨Nat.le_of_ble_eq_true rfl, Nat.le_of_ble_eq_true rfl⟩ hP hD hS hA hE (kc_sel [w_Odds dA oa (qa 0) od, w_Rides4 dA qa g0 g1 (a2 0) (a3 0) q4, w_Ride dA a2 (pa 0) (pa 1) rd2, w_Ride dA a3 (pa 0) (pa 1) z3, w_Plan dA pa pl] 5 [0, 1, 2] [3, 4] rfl (by decide)) 0 rfl rfl rfl hl.1 rfl (Nat.le_of_ble_eq_true rfl) dX3_sharesFrom_202 ⟨Nat.le_of_ble_eq_true rfl, Nat.le_of_ble_eq_true rfl⟩) hP hD hS hA (kc_sel [w_Odds dA oa (qa 0) od, w_Rides4 dA qa g0 g1 (a2 0) (a3 0) q4, w_Ride dA a2 (pa 0) (pa 1) rd2, w_Ride dA a3 (pa 0) (pa 1) z3, w_Plan dA pa pl] 5 [0, 1, 2] [3, 4] rfl (by decide)) (kc_sel [w_Odds dA oa (qa 0) od, w_Rides4 dA qa g0 g1 (a2 0) (a3 0) q4, w_Ride dA a2 (pa 0) (pa 1) rd2, w_Ride dA a3 (pa 0) (pa 1) r14, w_Plan dA pa pl] 5 [0, 1, 2] [3, 4] rfl (by decide)).symm (fun H locs hP hD hS => ?_)
    exact B_205 k172 hk172 (kb_ph [(pa 0), (pa 1)]) _ _ _ _ _ _ _ _ _ _ _ hf hP hD hS (lv_sub hl [0, 1, 2, 3, 4, 5, 6, 7, 8, 9, 10] rfl)
  have B_172 : ∀ (n : Nat) (ph : Nat → Nat) (v2 : Int32) (v3 : Int32) (v5 : Int32) (v6 : Int32) (v7 : Int32) (v9 : Int64) (v11 : Int32) (z3 : RideT) (H : Heap) (locs : List Loc) (ls : Array Slot), f_X3_sharesFrom_d2_b172 od q4 rd2 pl n v2 v3 v5 v6 v7 v9 v11 z3 = some (rv, u3) → va_P D vwCl (w_Odds dA oa (qa 0) od ++ (w_Rides4 dA qa g0 g1 (a2 0) (a3 0) q4 ++ (w_Ride dA a2 (pa 0) (pa 1) rd2 ++ (w_Ride dA a3 (ph 0) (ph 1) z3 ++ (w_Plan dA pa pl))))) H → va_D A (w_Odds dA oa (qa 0) od ++ (w_Rides4 dA qa g0 g1 (a2 0) (a3 0) q4 ++ (w_Ride dA a2 (pa 0) (pa 1) rd2 ++ (w_Ride dA a3 (ph 0) (ph 1) z3 ++ (w_Plan dA pa pl))))) → va_S A s.heap H locs → lv_has ls 12 [(0, .ref (oa 0)), (1, .int (2 : Int32)), (2, .int v2), (3, .int v3), (4, .ref (a2 0)), (5, .int v5), (6, .int v6), (7, .int v7), (8, .ref (a3 0)), (9, .long v9), (11, .int v11)] → W p l e ({ frames := 5, cells := 0, slots := 0, locals := 135 } : Room) s m ([.ref (oa 0), .int (2 : Int32), .int x1, .int x2] : List Value).toArray below meth c H locs 0 0 Q (F0 m 172 ls []) := by
    intro n
    induction n with
    | zero =>
      intro ph v2 v3 v5 v6 v7 v9 v11 z3 H locs ls hf
      exact absurd hf (by simp [f_X3_sharesFrom_d2_b172])
    | succ n ih =>
      intro ph v2 v3 v5 v6 v7 v9 v11 z3 H locs ls hf hP hD hS hl
      rw [f_X3_sharesFrom_d2_b172] at hf
      refine lv_iload hx hb dX3_sharesFrom_172 (lv_at hl 10 rfl) ?_
      refine lv_bipush (v := (20 : Int32)) hx hb dX3_sharesFrom_174 (by decide) ?_
      refine lv_icmp_ge (tgt := 225) hx hb dX3_sharesFrom_176 (by decide) (fun c_9 => ?_) (fun c_9 => ?_)
      · rw [if_pos c_9] at hf
        refine lv_ldc2 (v := (27720 : Int64)) hx hb hown (hK.2.w ww_4_195 rfl _) dX3_sharesFrom_225 ?_
        refine lv_iload hx hb dX3_sharesFrom_228 (lv_at hl 7 rfl) ?_
        refine lv_i2l hx hb dX3_sharesFrom_230 rfl ?_
        obtain ⟨h_10, hf⟩ := kb_if hf
        refine lv_ldiv hx hb dX3_sharesFrom_231 h_10 ?_
        refine lv_lload hx hb dX3_sharesFrom_232 (lv_at hl 9 rfl) ?_
        refine lv_lmul hx hb dX3_sharesFrom_234 ?_
        exact RET (kb_ph [(ph 0), (ph 1)]) _ _ H _ ls 235 hf hP hD hS dX3_sharesFrom_235
      · rw [if_neg c_9] at hf
        refine lv_iload hx hb dX3_sharesFrom_179 (lv_at hl 6 rfl) ?_
        refine lv_iload hx hb dX3_sharesFrom_181 (lv_at hl 10 rfl) ?_
        obtain ⟨r11, hc11, hf⟩ := kb_bind hf
        refine kc_ci (ws2 := (w_Odds dA oa (qa 0) od ++ (w_Rides4 dA qa g0 g1 (a2 0) (a3 0) q4 ++ (w_Ride dA a2 (pa 0) (pa 1) rd2 ++ (w_Ride dA a3 (ph 0) (ph 1) z3 ++ (w_Plan dA pa pl)))))) (kc_rSN (n := 2) (As := [.int v6, .int v11]) (rest := []) hx hb hml hown hK (c_X10_holdsBit l D dA H.size v6 v11 r11 hc11) ⟨ww_3_158, ww_4_193, ww_3_157, ww_1_1, by decide, by decide⟩ rfl rfl (by decide +kernel) ⟨Nat.le_of_ble_eq_true rfl, Nat.le_of_ble_eq_true rfl⟩ hP hD hS hA hE (kc_sel [w_Odds dA oa (qa 0) od, w_Rides4 dA qa g0 g1 (a2 0) (a3 0) q4, w_Ride dA a2 (pa 0) (pa 1) rd2, w_Ride dA a3 (ph 0) (ph 1) z3, w_Plan dA pa pl] 5 [0, 1, 2, 3, 4] [] rfl (by decide)) rfl hl.1 rfl (Nat.le_of_ble_eq_true rfl) dX3_sharesFrom_183 ⟨Nat.le_of_ble_eq_true rfl, Nat.le_of_ble_eq_true rfl⟩) hP hD hS hA (kc_sel [w_Odds dA oa (qa 0) od, w_Rides4 dA qa g0 g1 (a2 0) (a3 0) q4, w_Ride dA a2 (pa 0) (pa 1) rd2, w_Ride dA a3 (ph 0) (ph 1) z3, w_Plan dA pa pl] 5 [0, 1, 2, 3, 4] [] rfl (by decide)) (kc_sel [w_Odds dA oa (qa 0) od, w_Rides4 dA qa g0 g1 (a2 0) (a3 0) q4, w_Ride dA a2 (pa 0) (pa 1) rd2, w_Ride dA a3 (ph 0) (ph 1) z3, w_Plan dA pa pl] 5 [0, 1, 2, 3, 4] [] rfl (by decide)).symm (fun H locs hP hD hS => ?_)
        refine lv_if_eq (tgt := 219) hx hb dX3_sharesFrom_186 (by decide) (fun c_12 => ?_) (fun c_12 => ?_)
        · rw [if_pos c_12] at hf
          refine lv_iinc (v := (v11 + (1 : Int32))) (lv' := [(11, .int (v11 + (1 : Int32))), (0, .ref (oa 0)), (1, .int (2 : Int32)), (2, .int v2), (3, .int v3), (4, .ref (a2 0)), (5, .int v5), (6, .int v6), (7, .int v7), (8, .ref (a3 0)), (9, .long v9)]) hx hb dX3_sharesFrom_219 hl (k := 10) rfl (by rfl) (by decide) rfl (fun ls hl => ?_)
          refine lv_goto (tgt := 172) hx hb dX3_sharesFrom_222 (by decide) ?_
          exact ih (kb_ph [(ph 0), (ph 1)]) _ _ _ _ _ _ _ _ _ _ _ hf hP hD hS (lv_sub hl [1, 2, 3, 4, 5, 6, 7, 8, 9, 10, 0] rfl)
        · rw [if_neg c_12] at hf
          refine lv_aload hx hb dX3_sharesFrom_189 (lv_at hl 8 rfl) ?_
          refine lv_aload hx hb dX3_sharesFrom_191 (lv_at hl 4 rfl) ?_
          obtain ⟨r13, hc13, hf⟩ := kb_bind hf
          refine kc_cv (ws2 := (w_Odds dA oa (qa 0) od ++ (w_Rides4 dA qa g0 g1 (a2 0) (a3 0) q4 ++ (w_Ride dA a2 (pa 0) (pa 1) rd2 ++ (w_Ride dA a3 (pa 0) (pa 1) r13 ++ (w_Plan dA pa pl)))))) (kc_rV (n := 1) (As := [.ref (a2 0)]) (rest := []) hx hb hml hown hK (c_X6_copyFrom l D dA H.size a3 a2 (ph 0) (ph 1) (pa 0) (pa 1) z3 rd2 r13 hc13) ⟨ww_4_133, ww_4_182, ww_4_131, ww_4_132, ww_1_8, rfl, by decide, by decide⟩ rfl rfl (by decide +kernel) ⟨Nat.le_of_ble_eq_true rfl, Nat.le_of_ble_eq_true rfl⟩ hP hD hS hA hE (kc_sel [w_Odds dA oa (qa 0) od, w_Rides4 dA qa g0 g1 (a2 0) (a3 0) q4, w_Ride dA a2 (pa 0) (pa 1) rd2, w_Ride dA a3 (ph 0) (ph 1) z3, w_Plan dA pa pl] 5 [0, 1, 4] [3, 2] rfl (by decide)) 0 rfl rfl rfl hl.1 rfl (Nat.le_of_ble_eq_true rfl) dX3_sharesFrom_193 ⟨Nat.le_of_ble_eq_true rfl, Nat.le_of_ble_eq_true rfl⟩) hP hD hS hA (kc_sel [w_Odds dA oa (qa 0) od, w_Rides4 dA qa g0 g1 (a2 0) (a3 0) q4, w_Ride dA a2 (pa 0) (pa 1) rd2, w_Ride dA a3 (ph 0) (ph 1) z3, w_Plan dA pa pl] 5 [0, 1, 4] [3, 2] rfl (by decide)) (kc_sel [w_Odds dA oa (qa 0) od, w_Rides4 dA qa g0 g1 (a2 0) (a3 0) q4, w_Ride dA a2 (pa 0) (pa 1) rd2, w_Ride dA a3 (pa 0) (pa 1) r13, w_Plan dA pa pl] 5 [0, 1, 4] [3, 2] rfl (by decide)).symm (fun H locs hP hD hS => ?_)
          exact B_196 (f_X3_sharesFrom_d2_b172 od q4 rd2 pl n) ih (kb_ph [(pa 0), (pa 1)]) _ _ _ _ _ _ _ _ _ _ _ hf hP hD hS (lv_sub hl [0, 1, 2, 3, 4, 5, 6, 7, 8, 9, 10] rfl)
  have B_152 : ∀ (ph : Nat → Nat) (v2 : Int32) (v3 : Int32) (z3 : RideT) (H : Heap) (locs : List Loc) (ls : Array Slot), f_X3_sharesFrom_d2_b152 od q4 rd2 pl v2 v3 z3 = some (rv, u3) → va_P D vwCl (w_Odds dA oa (qa 0) od ++ (w_Rides4 dA qa g0 g1 (a2 0) (a3 0) q4 ++ (w_Ride dA a2 (pa 0) (pa 1) rd2 ++ (w_Ride dA a3 (pa 0) (pa 1) z3 ++ (w_Plan dA pa pl))))) H → va_D A (w_Odds dA oa (qa 0) od ++ (w_Rides4 dA qa g0 g1 (a2 0) (a3 0) q4 ++ (w_Ride dA a2 (pa 0) (pa 1) rd2 ++ (w_Ride dA a3 (pa 0) (pa 1) z3 ++ (w_Plan dA pa pl))))) → va_S A s.heap H locs → lv_has ls 12 [(0, .ref (oa 0)), (1, .int (2 : Int32)), (2, .int v2), (3, .int v3)] → W p l e ({ frames := 5, cells := 0, slots := 0, locals := 135 } : Room) s m ([.ref (oa 0), .int (2 : Int32), .int x1, .int x2] : List Value).toArray below meth c H locs 0 0 Q (F0 m 152 ls []) := by
    intro ph v2 v3 z3 H locs ls hf hP hD hS hl
    rw [f_X3_sharesFrom_d2_b152] at hf
    refine lv_ldc2 (v := (27720 : Int64)) hx hb hown (hK.2.w ww_4_195 rfl _) dX3_sharesFrom_152 ?_
    refine lv_aload_n hx hb dX3_sharesFrom_155 rfl (lv_at hl 0 rfl) ?_
    refine lv_iload_n hx hb dX3_sharesFrom_156 rfl (lv_at hl 1 rfl) ?_
    refine lv_iconst (v := (1 : Int32)) hx hb dX3_sharesFrom_157 (by decide) ?_
    refine lv_iadd hx hb dX3_sharesFrom_158 ?_
    show W p l e ({ frames := 5, cells := 0, slots := 0, locals := 135 } : Room) s m ([.ref (oa 0), .int (2 : Int32), .int x1, .int x2] : List Value).toArray below meth c _ _ 0 0 Q (F0 m 159 _ [.int (3 : Int32), .ref (oa 0), .long (27720 : Int64)])
    refine lv_iload_n hx hb dX3_sharesFrom_159 rfl (lv_at hl 2 rfl) ?_
    refine lv_iload_n hx hb dX3_sharesFrom_160 rfl (lv_at hl 3 rfl) ?_
    obtain ⟨r17, hc17, hf⟩ := kb_bind hf
    refine kc_cl (ws2 := (w_Odds dA oa (qa 0) od ++ (w_Rides4 dA qa g0 g1 (a2 0) (a3 0) q4 ++ (w_Ride dA a2 (pa 0) (pa 1) rd2 ++ (w_Ride dA a3 (pa 0) (pa 1) z3 ++ (w_Plan dA pa pl)))))) (kc_rV (n := 3) (As := [.int (3 : Int32), .int v2, .int v3]) (rest := [.long (27720 : Int64)]) hx hb hml hown hK (c_X3_sharesFrom_d3 l D dA H.size oa qa a3 pa g0 g1 (a2 0) od q4 z3 pl v2 v3 r17 hc17) ⟨ww_4_187, ww_4_184, ww_4_186, ws_36, ww_1_10, rfl, by decide, by decide⟩ rfl rfl (by decide +kernel) ⟨Nat.le_of_ble_eq_true rfl, Nat.le_of_ble_eq_true rfl⟩ hP hD hS hA hE (kc_sel [w_Odds dA oa (qa 0) od, w_Rides4 dA qa g0 g1 (a2 0) (a3 0) q4, w_Ride dA a2 (pa 0) (pa 1) rd2, w_Ride dA a3 (pa 0) (pa 1) z3, w_Plan dA pa pl] 5 [2] [0, 1, 3, 4] rfl (by decide)) 0 rfl rfl rfl hl.1 rfl (Nat.le_of_ble_eq_true rfl) dX3_sharesFrom_161 ⟨Nat.le_of_ble_eq_true rfl, Nat.le_of_ble_eq_true rfl⟩) hP hD hS hA (kc_sel [w_Odds dA oa (qa 0) od, w_Rides4 dA qa g0 g1 (a2 0) (a3 0) q4, w_Ride dA a2 (pa 0) (pa 1) rd2, w_Ride dA a3 (pa 0) (pa 1) z3, w_Plan dA pa pl] 5 [2] [0, 1, 3, 4] rfl (by decide)) (kc_sel [w_Odds dA oa (qa 0) od, w_Rides4 dA qa g0 g1 (a2 0) (a3 0) q4, w_Ride dA a2 (pa 0) (pa 1) rd2, w_Ride dA a3 (pa 0) (pa 1) z3, w_Plan dA pa pl] 5 [2] [0, 1, 3, 4] rfl (by decide)).symm (fun H locs hP hD hS => ?_)
    refine lv_lmul hx hb dX3_sharesFrom_164 ?_
    exact RET (kb_ph [(pa 0), (pa 1)]) _ _ H _ ls 165 hf hP hD hS dX3_sharesFrom_165
  have B_86 : ∀ (ph : Nat → Nat) (v7 : Int32) (s0 : Int32) (z3 : RideT) (H : Heap) (locs : List Loc) (ls : Array Slot), f_X3_sharesFrom_d2_b86 od q4 rd2 pl v7 s0 z3 = some (rv, u3) → va_P D vwCl (w_Odds dA oa (qa 0) od ++ (w_Rides4 dA qa g0 g1 (a2 0) (a3 0) q4 ++ (w_Ride dA a2 (pa 0) (pa 1) rd2 ++ (w_Ride dA a3 (ph 0) (ph 1) z3 ++ (w_Plan dA pa pl))))) H → va_D A (w_Odds dA oa (qa 0) od ++ (w_Rides4 dA qa g0 g1 (a2 0) (a3 0) q4 ++ (w_Ride dA a2 (pa 0) (pa 1) rd2 ++ (w_Ride dA a3 (ph 0) (ph 1) z3 ++ (w_Plan dA pa pl))))) → va_S A s.heap H locs → lv_has ls 12 [(0, .ref (oa 0)), (1, .int (2 : Int32)), (7, .int v7)] → W p l e ({ frames := 5, cells := 0, slots := 0, locals := 135 } : Room) s m ([.ref (oa 0), .int (2 : Int32), .int x1, .int x2] : List Value).toArray below meth c H locs 0 0 Q (F0 m 86 ls [.int s0]) := by
    intro ph v7 s0 z3 H locs ls hf hP hD hS hl
    rw [f_X3_sharesFrom_d2_b86] at hf
    refine lv_istore (lv' := [(8, .int s0), (0, .ref (oa 0)), (1, .int (2 : Int32)), (7, .int v7)]) hx hb dX3_sharesFrom_86 hl (by decide) rfl (fun ls hl => ?_)
    refine lv_iload hx hb dX3_sharesFrom_88 (lv_at hl 0 rfl) ?_
    refine lv_if_eq (tgt := 115) hx hb dX3_sharesFrom_90 (by decide) (fun c_19 => ?_) (fun c_19 => ?_)
    · rw [if_pos c_19] at hf
      refine lv_lconst (v := (0 : Int64)) hx hb dX3_sharesFrom_115 (by decide) ?_
      exact RET (kb_ph [(ph 0), (ph 1)]) _ _ H _ ls 116 hf hP hD hS dX3_sharesFrom_116
    · rw [if_neg c_19] at hf
      refine lv_ldc2 (v := (27720 : Int64)) hx hb hown (hK.2.w ww_4_195 rfl _) dX3_sharesFrom_93 ?_
      refine lv_iload hx hb dX3_sharesFrom_96 (lv_at hl 3 rfl) ?_
      refine lv_i2l hx hb dX3_sharesFrom_98 rfl ?_
      obtain ⟨h_20, hf⟩ := kb_if hf
      refine lv_ldiv hx hb dX3_sharesFrom_99 h_20 ?_
      refine lv_aload_n hx hb dX3_sharesFrom_100 rfl (lv_at hl 1 rfl) ?_
      refine va_get (D := D) (ci := 3) (v := .int (od_count od)) (C := RX3) (T := TX3) (N := 3) hx hb hts kb_inX3 hown hK.1 hP 0 rfl rfl 2 (by decide) (hK.2.w ww_2_119 rfl _) (fun _ h9 => h9) rfl dX3_sharesFrom_101 ?_
      refine lv_iload_n hx hb dX3_sharesFrom_104 rfl (lv_at hl 2 rfl) ?_
      refine lv_isub hx hb dX3_sharesFrom_105 ?_
      refine lv_iconst (v := (1 : Int32)) hx hb dX3_sharesFrom_106 (by decide) ?_
      refine lv_isub hx hb dX3_sharesFrom_107 ?_
      obtain ⟨r21, hc21, hf⟩ := kb_bind hf
      refine kc_cl (ws2 := (w_Odds dA oa (qa 0) od ++ (w_Rides4 dA qa g0 g1 (a2 0) (a3 0) q4 ++ (w_Ride dA a2 (pa 0) (pa 1) rd2 ++ (w_Ride dA a3 (ph 0) (ph 1) z3 ++ (w_Plan dA pa pl)))))) (kc_rS (n := 1) (As := [.int (((od_count od) - (2 : Int32)) - (1 : Int32))]) (rest := [.long ((27720 : Int64) / (v7).toInt64)]) hx hb hml hown hK (c_X3_sharesOfAll l D dA H.size (((od_count od) - (2 : Int32)) - (1 : Int32)) r21 hc21) ⟨ww_4_198, ww_4_196, ww_4_197, ww_1_10, by decide, by decide⟩ rfl rfl (by decide +kernel) ⟨Nat.le_of_ble_eq_true rfl, Nat.le_of_ble_eq_true rfl⟩ hP hD hS hA hE (kc_sel [w_Odds dA oa (qa 0) od, w_Rides4 dA qa g0 g1 (a2 0) (a3 0) q4, w_Ride dA a2 (pa 0) (pa 1) rd2, w_Ride dA a3 (ph 0) (ph 1) z3, w_Plan dA pa pl] 5 [0, 1, 2, 3, 4] [] rfl (by decide)) rfl hl.1 rfl (Nat.le_of_ble_eq_true rfl) dX3_sharesFrom_108 ⟨Nat.le_of_ble_eq_true rfl, Nat.le_of_ble_eq_true rfl⟩) hP hD hS hA (kc_sel [w_Odds dA oa (qa 0) od, w_Rides4 dA qa g0 g1 (a2 0) (a3 0) q4, w_Ride dA a2 (pa 0) (pa 1) rd2, w_Ride dA a3 (ph 0) (ph 1) z3, w_Plan dA pa pl] 5 [0, 1, 2, 3, 4] [] rfl (by decide)) (kc_sel [w_Odds dA oa (qa 0) od, w_Rides4 dA qa g0 g1 (a2 0) (a3 0) q4, w_Ride dA a2 (pa 0) (pa 1) rd2, w_Ride dA a3 (ph 0) (ph 1) z3, w_Plan dA pa pl] 5 [0, 1, 2, 3, 4] [] rfl (by decide)).symm (fun H locs hP hD hS => ?_)
      refine lv_lmul hx hb dX3_sharesFrom_111 ?_
      refine lv_goto (tgt := 116) hx hb dX3_sharesFrom_112 (by decide) ?_
      exact RET (kb_ph [(ph 0), (ph 1)]) _ _ H _ ls 116 hf hP hD hS dX3_sharesFrom_116
  have B_85 : ∀ (ph : Nat → Nat) (v7 : Int32) (z3 : RideT) (H : Heap) (locs : List Loc) (ls : Array Slot), f_X3_sharesFrom_d2_b85 od q4 rd2 pl v7 z3 = some (rv, u3) → va_P D vwCl (w_Odds dA oa (qa 0) od ++ (w_Rides4 dA qa g0 g1 (a2 0) (a3 0) q4 ++ (w_Ride dA a2 (pa 0) (pa 1) rd2 ++ (w_Ride dA a3 (ph 0) (ph 1) z3 ++ (w_Plan dA pa pl))))) H → va_D A (w_Odds dA oa (qa 0) od ++ (w_Rides4 dA qa g0 g1 (a2 0) (a3 0) q4 ++ (w_Ride dA a2 (pa 0) (pa 1) rd2 ++ (w_Ride dA a3 (ph 0) (ph 1) z3 ++ (w_Plan dA pa pl))))) → va_S A s.heap H locs → lv_has ls 12 [(0, .ref (oa 0)), (1, .int (2 : Int32)), (7, .int v7)] → W p l e ({ frames := 5, cells := 0, slots := 0, locals := 135 } : Room) s m ([.ref (oa 0), .int (2 : Int32), .int x1, .int x2] : List Value).toArray below meth c H locs 0 0 Q (F0 m 85 ls []) := by
    intro ph v7 z3 H locs ls hf hP hD hS hl
    rw [f_X3_sharesFrom_d2_b85] at hf
    refine lv_iconst (v := (0 : Int32)) hx hb dX3_sharesFrom_85 (by decide) ?_
    exact B_86 (kb_ph [(ph 0), (ph 1)]) _ _ _ _ _ _ hf hP hD hS (lv_sub hl [0, 1, 2] rfl)
  have E0 : ∀ (H : Heap) (locs : List Loc), va_P D vwCl (w_Odds dA oa (qa 0) od ++ (w_Rides4 dA qa g0 g1 (a2 0) (a3 0) q4 ++ (w_Ride dA a2 (pa 0) (pa 1) rd2 ++ (w_Ride dA a3 (ph 0) (ph 1) rd3 ++ (w_Plan dA pa pl))))) H → va_D A (w_Odds dA oa (qa 0) od ++ (w_Rides4 dA qa g0 g1 (a2 0) (a3 0) q4 ++ (w_Ride dA a2 (pa 0) (pa 1) rd2 ++ (w_Ride dA a3 (ph 0) (ph 1) rd3 ++ (w_Plan dA pa pl))))) → va_S A s.heap H locs → W p l e ({ frames := 5, cells := 0, slots := 0, locals := 135 } : Room) s m ([.ref (oa 0), .int (2 : Int32), .int x1, .int x2] : List Value).toArray below meth c H locs 0 0 Q (F0 m 0 ls []) := by
    intro H locs hP hD hS
    rw [f_X3_sharesFrom_d2] at hf
    refine lv_iload_n hx hb dX3_sharesFrom_0 rfl (lv_at hl 1 rfl) ?_
    refine lv_aload_n hx hb dX3_sharesFrom_1 rfl (lv_at hl 0 rfl) ?_
    refine va_get (D := D) (ci := 3) (v := .int (od_count od)) (C := RX3) (T := TX3) (N := 3) hx hb hts kb_inX3 hown hK.1 hP 0 rfl rfl 2 (by decide) (hK.2.w ww_2_119 rfl _) (fun _ h9 => h9) rfl dX3_sharesFrom_2 ?_
    refine lv_icmp_ge (tgt := 17) hx hb dX3_sharesFrom_5 (by decide) (fun c_1 => ?_) (fun c_1 => ?_)
    · rw [if_pos c_1] at hf
      refine lv_lconst (v := (0 : Int64)) hx hb dX3_sharesFrom_17 (by decide) ?_
      exact RET (kb_ph [(ph 0), (ph 1)]) _ _ H _ ls 18 hf hP hD hS dX3_sharesFrom_18
    · rw [if_neg c_1] at hf
      refine lv_iload_n hx hb dX3_sharesFrom_8 rfl (lv_at hl 1 rfl) ?_
      refine lv_aload_n hx hb dX3_sharesFrom_9 rfl (lv_at hl 0 rfl) ?_
      refine va_get (D := D) (ci := 3) (v := .ref (qa 0)) (C := RX3) (T := TX3) (N := 3) hx hb hts kb_inX3 hown hK.1 hP 0 rfl rfl 0 (by decide) (hK.2.w ww_2_117 rfl _) (fun _ h9 => h9) rfl dX3_sharesFrom_10 ?_
      refine va_alen (D := D) (v := (4 : Int32)) hx hb hK.1 hP 2 4 rfl rfl rfl dX3_sharesFrom_13 ?_
      refine lv_icmp_lt (tgt := 19) hx hb dX3_sharesFrom_14 (by decide) (fun _ => ?_) (fun c_1 => absurd (by decide) c_1)
      refine lv_aload_n hx hb dX3_sharesFrom_19 rfl (lv_at hl 0 rfl) ?_
      refine va_get (D := D) (ci := 3) (v := .ref (qa 0)) (C := RX3) (T := TX3) (N := 3) hx hb hts kb_inX3 hown hK.1 hP 0 rfl rfl 0 (by decide) (hK.2.w ww_2_117 rfl _) (fun _ h9 => h9) rfl dX3_sharesFrom_20 ?_
      refine lv_iload_n hx hb dX3_sharesFrom_23 rfl (lv_at hl 1 rfl) ?_
      refine va_aldq (D := D) hx hb hK.1 hP 2 4 rfl rfl (pk_in 2 4 (by decide)) dX3_sharesFrom_24 ?_
      show W p l e ({ frames := 5, cells := 0, slots := 0, locals := 135 } : Room) s m ([.ref (oa 0), .int (2 : Int32), .int x1, .int x2] : List Value).toArray below meth c _ _ 0 0 Q (F0 m 25 _ [.ref (a2 0)])
      refine lv_astore (lv' := [(4, .ref (a2 0)), (0, .ref (oa 0)), (1, .int (2 : Int32)), (2, .int x1), (3, .int x2)]) hx hb dX3_sharesFrom_25 hl (by decide) rfl (fun ls hl => ?_)
      refine lv_aload_n hx hb dX3_sharesFrom_27 rfl (lv_at hl 1 rfl) ?_
      refine va_get (D := D) (ci := 3) (v := .ref (oa 1)) (C := RX3) (T := TX3) (N := 3) hx hb hts kb_inX3 hown hK.1 hP 0 rfl rfl 1 (by decide) (hK.2.w ww_2_118 rfl _) (fun _ h9 => h9) rfl dX3_sharesFrom_28 ?_
      refine lv_iload_n hx hb dX3_sharesFrom_31 rfl (lv_at hl 2 rfl) ?_
      obtain ⟨h_2, hf⟩ := kb_if hf
      refine va_iald (D := D) hx hb hK.1 hP 1 0 rfl rfl h_2 dX3_sharesFrom_32 ?_
      refine lv_istore (lv' := [(5, .int ((od_boarding od) ((2 : Int32)).toNatClampNeg)), (4, .ref (a2 0)), (0, .ref (oa 0)), (1, .int (2 : Int32)), (2, .int x1), (3, .int x2)]) hx hb dX3_sharesFrom_33 hl (by decide) rfl (fun ls hl => ?_)
      refine lv_aload hx hb dX3_sharesFrom_35 (lv_at hl 1 rfl) ?_
      refine lv_iload hx hb dX3_sharesFrom_37 (lv_at hl 0 rfl) ?_
      refine lv_aload hx hb dX3_sharesFrom_39 (lv_at hl 1 rfl) ?_
      refine lv_iload hx hb dX3_sharesFrom_41 (lv_at hl 0 rfl) ?_
      obtain ⟨r3, hc3, hf⟩ := kb_bind hf
      refine kc_ci (ws2 := (w_Odds dA oa (qa 0) od ++ (w_Rides4 dA qa g0 g1 (a2 0) (a3 0) q4 ++ (w_Ride dA a2 (pa 0) (pa 1) rd2 ++ (w_Ride dA a3 (ph 0) (ph 1) rd3 ++ (w_Plan dA pa pl)))))) (kc_rV (n := 1) (As := [.int ((od_boarding od) ((2 : Int32)).toNatClampNeg)]) (rest := [.int ((od_boarding od) ((2 : Int32)).toNatClampNeg), .ref (a2 0)]) hx hb hml hown hK (c_X6_bestSeats l D dA H.size a2 pa rd2 pl ((od_boarding od) ((2 : Int32)).toNatClampNeg) r3 hc3) ⟨ww_4_18, ww_4_188, ww_4_16, ww_4_17, ww_1_8, rfl, by decide, by decide⟩ rfl rfl (by decide +kernel) ⟨Nat.le_of_ble_eq_true rfl, Nat.le_of_ble_eq_true rfl⟩ hP hD hS hA hE (kc_sel [w_Odds dA oa (qa 0) od, w_Rides4 dA qa g0 g1 (a2 0) (a3 0) q4, w_Ride dA a2 (pa 0) (pa 1) rd2, w_Ride dA a3 (ph 0) (ph 1) rd3, w_Plan dA pa pl] 5 [0, 1, 3] [2, 4] rfl (by decide)) 0 rfl rfl rfl hl.1 rfl (Nat.le_of_ble_eq_true rfl) dX3_sharesFrom_43 ⟨Nat.le_of_ble_eq_true rfl, Nat.le_of_ble_eq_true rfl⟩) hP hD hS hA (kc_sel [w_Odds dA oa (qa 0) od, w_Rides4 dA qa g0 g1 (a2 0) (a3 0) q4, w_Ride dA a2 (pa 0) (pa 1) rd2, w_Ride dA a3 (ph 0) (ph 1) rd3, w_Plan dA pa pl] 5 [0, 1, 3] [2, 4] rfl (by decide)) (kc_sel [w_Odds dA oa (qa 0) od, w_Rides4 dA qa g0 g1 (a2 0) (a3 0) q4, w_Ride dA a2 (pa 0) (pa 1) rd2, w_Ride dA a3 (ph 0) (ph 1) rd3, w_Plan dA pa pl] 5 [0, 1, 3] [2, 4] rfl (by decide)).symm (fun H locs hP hD hS => ?_)
      obtain ⟨r4, hc4, hf⟩ := kb_bind hf
      refine kc_ci (ws2 := (w_Odds dA oa (qa 0) od ++ (w_Rides4 dA qa g0 g1 (a2 0) (a3 0) q4 ++ (w_Ride dA a2 (pa 0) (pa 1) rd2 ++ (w_Ride dA a3 (ph 0) (ph 1) rd3 ++ (w_Plan dA pa pl)))))) (kc_rV (n := 2) (As := [.int ((od_boarding od) ((2 : Int32)).toNatClampNeg), .int r3]) (rest := []) hx hb hml hown hK (c_X6_tied l D dA H.size a2 pa rd2 pl ((od_boarding od) ((2 : Int32)).toNatClampNeg) r3 r4 hc4) ⟨ww_4_163, ww_4_189, ww_4_161, ww_4_162, ww_1_8, rfl, by decide, by decide⟩ rfl rfl (by decide +kernel) ⟨Nat.le_of_ble_eq_true rfl, Nat.le_of_ble_eq_true rfl⟩ hP hD hS hA hE (kc_sel [w_Odds dA oa (qa 0) od, w_Rides4 dA qa g0 g1 (a2 0) (a3 0) q4, w_Ride dA a2 (pa 0) (pa 1) rd2, w_Ride dA a3 (ph 0) (ph 1) rd3, w_Plan dA pa pl] 5 [0, 1, 3] [2, 4] rfl (by decide)) 0 rfl rfl rfl hl.1 rfl (Nat.le_of_ble_eq_true rfl) dX3_sharesFrom_46 ⟨Nat.le_of_ble_eq_true rfl, Nat.le_of_ble_eq_true rfl⟩) hP hD hS hA (kc_sel [w_Odds dA oa (qa 0) od, w_Rides4 dA qa g0 g1 (a2 0) (a3 0) q4, w_Ride dA a2 (pa 0) (pa 1) rd2, w_Ride dA a3 (ph 0) (ph 1) rd3, w_Plan dA pa pl] 5 [0, 1, 3] [2, 4] rfl (by decide)) (kc_sel [w_Odds dA oa (qa 0) od, w_Rides4 dA qa g0 g1 (a2 0) (a3 0) q4, w_Ride dA a2 (pa 0) (pa 1) rd2, w_Ride dA a3 (ph 0) (ph 1) rd3, w_Plan dA pa pl] 5 [0, 1, 3] [2, 4] rfl (by decide)).symm (fun H locs hP hD hS => ?_)
      obtain ⟨r5, hc5, hf⟩ := kb_bind hf
      refine kc_ci (ws2 := (w_Odds dA oa (qa 0) od ++ (w_Rides4 dA qa g0 g1 (a2 0) (a3 0) q4 ++ (w_Ride dA a2 (pa 0) (pa 1) rd2 ++ (w_Ride dA a3 (ph 0) (ph 1) rd3 ++ (w_Plan dA pa pl)))))) (kc_rS (n := 1) (As := [.int r4]) (rest := []) hx hb hml hown hK (c_X3_firstTies l D dA H.size r4 r5 hc5) ⟨ww_4_192, ww_4_190, ww_4_191, ww_1_10, by decide, by decide⟩ rfl rfl (by decide +kernel) ⟨Nat.le_of_ble_eq_true rfl, Nat.le_of_ble_eq_true rfl⟩ hP hD hS hA hE (kc_sel [w_Odds dA oa (qa 0) od, w_Rides4 dA qa g0 g1 (a2 0) (a3 0) q4, w_Ride dA a2 (pa 0) (pa 1) rd2, w_Ride dA a3 (ph 0) (ph 1) rd3, w_Plan dA pa pl] 5 [0, 1, 2, 3, 4] [] rfl (by decide)) rfl hl.1 rfl (Nat.le_of_ble_eq_true rfl) dX3_sharesFrom_49 ⟨Nat.le_of_ble_eq_true rfl, Nat.le_of_ble_eq_true rfl⟩) hP hD hS hA (kc_sel [w_Odds dA oa (qa 0) od, w_Rides4 dA qa g0 g1 (a2 0) (a3 0) q4, w_Ride dA a2 (pa 0) (pa 1) rd2, w_Ride dA a3 (ph 0) (ph 1) rd3, w_Plan dA pa pl] 5 [0, 1, 2, 3, 4] [] rfl (by decide)) (kc_sel [w_Odds dA oa (qa 0) od, w_Rides4 dA qa g0 g1 (a2 0) (a3 0) q4, w_Ride dA a2 (pa 0) (pa 1) rd2, w_Ride dA a3 (ph 0) (ph 1) rd3, w_Plan dA pa pl] 5 [0, 1, 2, 3, 4] [] rfl (by decide)).symm (fun H locs hP hD hS => ?_)
      refine lv_istore (lv' := [(6, .int r5), (5, .int ((od_boarding od) ((2 : Int32)).toNatClampNeg)), (4, .ref (a2 0)), (0, .ref (oa 0)), (1, .int (2 : Int32)), (2, .int x1), (3, .int x2)]) hx hb dX3_sharesFrom_52 hl (by decide) rfl (fun ls hl => ?_)
      refine lv_iload hx hb dX3_sharesFrom_54 (lv_at hl 0 rfl) ?_
      obtain ⟨r6, hc6, hf⟩ := kb_bind hf
      refine kc_ci (ws2 := (w_Odds dA oa (qa 0) od ++ (w_Rides4 dA qa g0 g1 (a2 0) (a3 0) q4 ++ (w_Ride dA a2 (pa 0) (pa 1) rd2 ++ (w_Ride dA a3 (ph 0) (ph 1) rd3 ++ (w_Plan dA pa pl)))))) (kc_rS (n := 1) (As := [.int r5]) (rest := []) hx hb hml hown hK (c_J6_bitCount_0f7a4 l D dA H.size r5 r6 hc6) ⟨ww_4_166, ww_4_194, ww_4_165, ww_1_20, by decide, by decide⟩ rfl rfl (by decide +kernel) ⟨Nat.le_of_ble_eq_true rfl, Nat.le_of_ble_eq_true rfl⟩ hP hD hS hA hE (kc_sel [w_Odds dA oa (qa 0) od, w_Rides4 dA qa g0 g1 (a2 0) (a3 0) q4, w_Ride dA a2 (pa 0) (pa 1) rd2, w_Ride dA a3 (ph 0) (ph 1) rd3, w_Plan dA pa pl] 5 [0, 1, 2, 3, 4] [] rfl (by decide)) rfl hl.1 rfl (Nat.le_of_ble_eq_true rfl) dX3_sharesFrom_56 ⟨Nat.le_of_ble_eq_true rfl, Nat.le_of_ble_eq_true rfl⟩) hP hD hS hA (kc_sel [w_Odds dA oa (qa 0) od, w_Rides4 dA qa g0 g1 (a2 0) (a3 0) q4, w_Ride dA a2 (pa 0) (pa 1) rd2, w_Ride dA a3 (ph 0) (ph 1) rd3, w_Plan dA pa pl] 5 [0, 1, 2, 3, 4] [] rfl (by decide)) (kc_sel [w_Odds dA oa (qa 0) od, w_Rides4 dA qa g0 g1 (a2 0) (a3 0) q4, w_Ride dA a2 (pa 0) (pa 1) rd2, w_Ride dA a3 (ph 0) (ph 1) rd3, w_Plan dA pa pl] 5 [0, 1, 2, 3, 4] [] rfl (by decide)).symm (fun H locs hP hD hS => ?_)
      refine lv_istore (lv' := [(7, .int r6), (6, .int r5), (5, .int ((od_boarding od) ((2 : Int32)).toNatClampNeg)), (4, .ref (a2 0)), (0, .ref (oa 0)), (1, .int (2 : Int32)), (2, .int x1), (3, .int x2)]) hx hb dX3_sharesFrom_59 hl (by decide) rfl (fun ls hl => ?_)
      refine lv_iload hx hb dX3_sharesFrom_61 (lv_at hl 2 rfl) ?_
      refine lv_iload_n hx hb dX3_sharesFrom_63 rfl (lv_at hl 6 rfl) ?_
      refine lv_icmp_ne (tgt := 117) hx hb dX3_sharesFrom_64 (by decide) (fun c_7 => ?_) (fun c_7 => ?_)
      · rw [if_neg c_7] at hf
        refine lv_iload_n hx hb dX3_sharesFrom_117 rfl (lv_at hl 5 rfl) ?_
        refine lv_iconst (v := (1 : Int32)) hx hb dX3_sharesFrom_118 (by decide) ?_
        refine lv_iadd hx hb dX3_sharesFrom_119 ?_
        show W p l e ({ frames := 5, cells := 0, slots := 0, locals := 135 } : Room) s m ([.ref (oa 0), .int (2 : Int32), .int x1, .int x2] : List Value).toArray below meth c _ _ 0 0 Q (F0 m 120 _ [.int (3 : Int32)])
        refine lv_aload_n hx hb dX3_sharesFrom_120 rfl (lv_at hl 4 rfl) ?_
        refine va_get (D := D) (ci := 3) (v := .ref (qa 0)) (C := RX3) (T := TX3) (N := 3) hx hb hts kb_inX3 hown hK.1 hP 0 rfl rfl 0 (by decide) (hK.2.w ww_2_117 rfl _) (fun _ h9 => h9) rfl dX3_sharesFrom_121 ?_
        refine va_alen (D := D) (v := (4 : Int32)) hx hb hK.1 hP 2 4 rfl rfl rfl dX3_sharesFrom_124 ?_
        refine lv_icmp_lt (tgt := 130) hx hb dX3_sharesFrom_125 (by decide) (fun _ => ?_) (fun c_1 => absurd (by decide) c_1)
        refine lv_aload_n hx hb dX3_sharesFrom_130 rfl (lv_at hl 4 rfl) ?_
        refine va_get (D := D) (ci := 3) (v := .ref (qa 0)) (C := RX3) (T := TX3) (N := 3) hx hb hts kb_inX3 hown hK.1 hP 0 rfl rfl 0 (by decide) (hK.2.w ww_2_117 rfl _) (fun _ h9 => h9) rfl dX3_sharesFrom_131 ?_
        refine lv_iload_n hx hb dX3_sharesFrom_134 rfl (lv_at hl 5 rfl) ?_
        refine lv_iconst (v := (1 : Int32)) hx hb dX3_sharesFrom_135 (by decide) ?_
        refine lv_iadd hx hb dX3_sharesFrom_136 ?_
        show W p l e ({ frames := 5, cells := 0, slots := 0, locals := 135 } : Room) s m ([.ref (oa 0), .int (2 : Int32), .int x1, .int x2] : List Value).toArray below meth c _ _ 0 0 Q (F0 m 137 _ [.int (3 : Int32), .ref (qa 0)])
        refine va_aldq (D := D) hx hb hK.1 hP 2 4 rfl rfl (pk_in 3 4 (by decide)) dX3_sharesFrom_137 ?_
        show W p l e ({ frames := 5, cells := 0, slots := 0, locals := 135 } : Room) s m ([.ref (oa 0), .int (2 : Int32), .int x1, .int x2] : List Value).toArray below meth c _ _ 0 0 Q (F0 m 138 _ [.ref (a3 0)])
        refine lv_astore (lv' := [(8, .ref (a3 0)), (7, .int r6), (6, .int r5), (5, .int ((od_boarding od) ((2 : Int32)).toNatClampNeg)), (4, .ref (a2 0)), (0, .ref (oa 0)), (1, .int (2 : Int32)), (2, .int x1), (3, .int x2)]) hx hb dX3_sharesFrom_138 hl (by decide) rfl (fun ls hl => ?_)
        refine lv_iload hx hb dX3_sharesFrom_140 (lv_at hl 1 rfl) ?_
        refine lv_if_ne (tgt := 166) hx hb dX3_sharesFrom_142 (by decide) (fun c_8 => ?_) (fun c_8 => ?_)
        · rw [if_neg c_8] at hf
          refine lv_lconst (v := (0 : Int64)) hx hb dX3_sharesFrom_166 (by decide) ?_
          refine lv_lstore (lv' := [(9, .long (0 : Int64)), (8, .ref (a3 0)), (7, .int r6), (6, .int r5), (5, .int ((od_boarding od) ((2 : Int32)).toNatClampNeg)), (4, .ref (a2 0)), (0, .ref (oa 0)), (1, .int (2 : Int32)), (2, .int x1), (3, .int x2)]) hx hb dX3_sharesFrom_167 hl (by decide) rfl (fun ls hl => ?_)
          refine lv_iconst (v := (0 : Int32)) hx hb dX3_sharesFrom_169 (by decide) ?_
          refine lv_istore (lv' := [(11, .int (0 : Int32)), (9, .long (0 : Int64)), (8, .ref (a3 0)), (7, .int r6), (6, .int r5), (5, .int ((od_boarding od) ((2 : Int32)).toNatClampNeg)), (4, .ref (a2 0)), (0, .ref (oa 0)), (1, .int (2 : Int32)), (2, .int x1), (3, .int x2)]) hx hb dX3_sharesFrom_170 hl (by decide) rfl (fun ls hl => ?_)
          exact B_172 4096 (kb_ph [(ph 0), (ph 1)]) _ _ _ _ _ _ _ _ _ _ _ hf hP hD hS (lv_sub hl [7, 8, 9, 10, 6, 5, 4, 3, 2, 1, 0] rfl)
        · rw [if_pos c_8] at hf
          refine lv_aload hx hb dX3_sharesFrom_145 (lv_at hl 0 rfl) ?_
          refine lv_aload hx hb dX3_sharesFrom_147 (lv_at hl 4 rfl) ?_
          obtain ⟨r16, hc16, hf⟩ := kb_bind hf
          refine kc_cv (ws2 := (w_Odds dA oa (qa 0) od ++ (w_Rides4 dA qa g0 g1 (a2 0) (a3 0) q4 ++ (w_Ride dA a2 (pa 0) (pa 1) rd2 ++ (w_Ride dA a3 (pa 0) (pa 1) r16 ++ (w_Plan dA pa pl)))))) (kc_rV (n := 1) (As := [.ref (a2 0)]) (rest := []) hx hb hml hown hK (c_X6_copyFrom l D dA H.size a3 a2 (ph 0) (ph 1) (pa 0) (pa 1) rd3 rd2 r16 hc16) ⟨ww_4_133, ww_4_182, ww_4_131, ww_4_132, ww_1_8, rfl, by decide, by decide⟩ rfl rfl (by decide +kernel) ⟨Nat.le_of_ble_eq_true rfl, Nat.le_of_ble_eq_true rfl⟩ hP hD hS hA hE (kc_sel [w_Odds dA oa (qa 0) od, w_Rides4 dA qa g0 g1 (a2 0) (a3 0) q4, w_Ride dA a2 (pa 0) (pa 1) rd2, w_Ride dA a3 (ph 0) (ph 1) rd3, w_Plan dA pa pl] 5 [0, 1, 4] [3, 2] rfl (by decide)) 0 rfl rfl rfl hl.1 rfl (Nat.le_of_ble_eq_true rfl) dX3_sharesFrom_149 ⟨Nat.le_of_ble_eq_true rfl, Nat.le_of_ble_eq_true rfl⟩) hP hD hS hA (kc_sel [w_Odds dA oa (qa 0) od, w_Rides4 dA qa g0 g1 (a2 0) (a3 0) q4, w_Ride dA a2 (pa 0) (pa 1) rd2, w_Ride dA a3 (ph 0) (ph 1) rd3, w_Plan dA pa pl] 5 [0, 1, 4] [3, 2] rfl (by decide)) (kc_sel [w_Odds dA oa (qa 0) od, w_Rides4 dA qa g0 g1 (a2 0) (a3 0) q4, w_Ride dA a2 (pa 0) (pa 1) rd2, w_Ride dA a3 (pa 0) (pa 1) r16, w_Plan dA pa pl] 5 [0, 1, 4] [3, 2] rfl (by decide)).symm (fun H locs hP hD hS => ?_)
          exact B_152 (kb_ph [(pa 0), (pa 1)]) _ _ _ _ _ _ hf hP hD hS (lv_sub hl [5, 6, 7, 8] rfl)
      · rw [if_pos c_7] at hf
        refine lv_iload hx hb dX3_sharesFrom_67 (lv_at hl 0 rfl) ?_
        refine lv_if_le (tgt := 85) hx hb dX3_sharesFrom_69 (by decide) (fun c_18 => ?_) (fun c_18 => ?_)
        · rw [if_pos c_18] at hf
          exact B_85 (kb_ph [(ph 0), (ph 1)]) _ _ _ _ _ hf hP hD hS (lv_sub hl [4, 5, 0] rfl)
        · rw [if_neg c_18] at hf
          refine lv_iload hx hb dX3_sharesFrom_72 (lv_at hl 1 rfl) ?_
          refine lv_iload_n hx hb dX3_sharesFrom_74 rfl (lv_at hl 7 rfl) ?_
          obtain ⟨r22, hc22, hf⟩ := kb_bind hf
          refine kc_ci (ws2 := (w_Odds dA oa (qa 0) od ++ (w_Rides4 dA qa g0 g1 (a2 0) (a3 0) q4 ++ (w_Ride dA a2 (pa 0) (pa 1) rd2 ++ (w_Ride dA a3 (ph 0) (ph 1) rd3 ++ (w_Plan dA pa pl)))))) (kc_rSN (n := 2) (As := [.int r5, .int x2]) (rest := []) hx hb hml hown hK (c_X10_holdsBit l D dA H.size r5 x2 r22 hc22) ⟨ww_3_158, ww_4_193, ww_3_157, ww_1_1, by decide, by decide⟩ rfl rfl (by decide +kernel) ⟨Nat.le_of_ble_eq_true rfl, Nat.le_of_ble_eq_true rfl⟩ hP hD hS hA hE (kc_sel [w_Odds dA oa (qa 0) od, w_Rides4 dA qa g0 g1 (a2 0) (a3 0) q4, w_Ride dA a2 (pa 0) (pa 1) rd2, w_Ride dA a3 (ph 0) (ph 1) rd3, w_Plan dA pa pl] 5 [0, 1, 2, 3, 4] [] rfl (by decide)) rfl hl.1 rfl (Nat.le_of_ble_eq_true rfl) dX3_sharesFrom_75 ⟨Nat.le_of_ble_eq_true rfl, Nat.le_of_ble_eq_true rfl⟩) hP hD hS hA (kc_sel [w_Odds dA oa (qa 0) od, w_Rides4 dA qa g0 g1 (a2 0) (a3 0) q4, w_Ride dA a2 (pa 0) (pa 1) rd2, w_Ride dA a3 (ph 0) (ph 1) rd3, w_Plan dA pa pl] 5 [0, 1, 2, 3, 4] [] rfl (by decide)) (kc_sel [w_Odds dA oa (qa 0) od, w_Rides4 dA qa g0 g1 (a2 0) (a3 0) q4, w_Ride dA a2 (pa 0) (pa 1) rd2, w_Ride dA a3 (ph 0) (ph 1) rd3, w_Plan dA pa pl] 5 [0, 1, 2, 3, 4] [] rfl (by decide)).symm (fun H locs hP hD hS => ?_)
          refine lv_if_eq (tgt := 85) hx hb dX3_sharesFrom_78 (by decide) (fun c_23 => ?_) (fun c_23 => ?_)
          · rw [if_pos c_23] at hf
            exact B_85 (kb_ph [(ph 0), (ph 1)]) _ _ _ _ _ hf hP hD hS (lv_sub hl [4, 5, 0] rfl)
          · rw [if_neg c_23] at hf
            refine lv_iconst (v := (1 : Int32)) hx hb dX3_sharesFrom_81 (by decide) ?_
            refine lv_goto (tgt := 86) hx hb dX3_sharesFrom_82 (by decide) ?_
            exact B_86 (kb_ph [(ph 0), (ph 1)]) _ _ _ _ _ _ hf hP hD hS (lv_sub hl [4, 5, 0] rfl)
  exact E0 _ _ hP hD hS

noncomputable def f_X3_sharesFrom_d1_b219 (od : OddsT) (q4 : Rides4T) (rd1 : RideT) (pl : PlanT) (k172 : Int32 → Int32 → Int32 → Int32 → Int32 → Int64 → Int32 → RideT → RideT → Option (Int64 × RideT × RideT)) (v2 : Int32) (v3 : Int32) (v5 : Int32) (v6 : Int32) (v7 : Int32) (v9 : Int64) (v11 : Int32) (z3 : RideT) (z4 : RideT) : Option (Int64 × RideT × RideT) := k172 v2 v3 v5 v6 v7 v9 (v11 + (1 : Int32)) z3 z4
noncomputable def f_X3_sharesFrom_d1_b205 (od : OddsT) (q4 : Rides4T) (rd1 : RideT) (pl : PlanT) (k172 : Int32 → Int32 → Int32 → Int32 → Int32 → Int64 → Int32 → RideT → RideT → Option (Int64 × RideT × RideT)) (v2 : Int32) (v3 : Int32) (v5 : Int32) (v6 : Int32) (v7 : Int32) (v9 : Int64) (v11 : Int32) (z3 : RideT) (z4 : RideT) : Option (Int64 × RideT × RideT) := (f_X3_sharesFrom_d2 od q4 z3 z4 pl v2 v3).bind fun r15 => f_X3_sharesFrom_d1_b219 od q4 rd1 pl k172 v2 v3 v5 v6 v7 (v9 + r15.1) v11 z3 r15.2
noncomputable def f_X3_sharesFrom_d1_b196 (od : OddsT) (q4 : Rides4T) (rd1 : RideT) (pl : PlanT) (k172 : Int32 → Int32 → Int32 → Int32 → Int32 → Int64 → Int32 → RideT → RideT → Option (Int64 × RideT × RideT)) (v2 : Int32) (v3 : Int32) (v5 : Int32) (v6 : Int32) (v7 : Int32) (v9 : Int64) (v11 : Int32) (z3 : RideT) (z4 : RideT) : Option (Int64 × RideT × RideT) := (f_X6_sitDown z3 pl v5 v11).bind fun r14 => f_X3_sharesFrom_d1_b205 od q4 rd1 pl k172 v2 v3 v5 v6 v7 v9 v11 r14 z4
noncomputable def f_X3_sharesFrom_d1_b172 (od : OddsT) (q4 : Rides4T) (rd1 : RideT) (pl : PlanT) : Nat → Int32 → Int32 → Int32 → Int32 → Int32 → Int64 → Int32 → RideT → RideT → Option (Int64 × RideT × RideT)
  | 0, _, _, _, _, _, _, _, _, _ => none
  | n + 1, v2, v3, v5, v6, v7, v9, v11, z3, z4 => (if (20 : Int32) ≤ v11 then if ¬ (v7).toInt64 = 0 then some ((((27720 : Int64) / (v7).toInt64) * v9), z3, z4) else none else (f_X10_holdsBit v6 v11).bind fun r11 => (if r11 = 0 then f_X3_sharesFrom_d1_b172 od q4 rd1 pl n v2 v3 v5 v6 v7 v9 (v11 + (1 : Int32)) z3 z4 else (f_X6_copyFrom z3 rd1).bind fun r13 => f_X3_sharesFrom_d1_b196 od q4 rd1 pl (f_X3_sharesFrom_d1_b172 od q4 rd1 pl n) v2 v3 v5 v6 v7 v9 v11 r13 z4))
noncomputable def f_X3_sharesFrom_d1_b152 (od : OddsT) (q4 : Rides4T) (rd1 : RideT) (pl : PlanT) (v2 : Int32) (v3 : Int32) (z3 : RideT) (z4 : RideT) : Option (Int64 × RideT × RideT) := (f_X3_sharesFrom_d2 od q4 z3 z4 pl v2 v3).bind fun r17 => some (((27720 : Int64) * r17.1), z3, r17.2)
noncomputable def f_X3_sharesFrom_d1_b86 (od : OddsT) (q4 : Rides4T) (rd1 : RideT) (pl : PlanT) (v7 : Int32) (s0 : Int32) (z3 : RideT) (z4 : RideT) : Option (Int64 × RideT × RideT) := (if s0 = 0 then some ((0 : Int64), z3, z4) else if ¬ (v7).toInt64 = 0 then (f_X3_sharesOfAll (((od_count od) - (1 : Int32)) - (1 : Int32))).bind fun r21 => some ((((27720 : Int64) / (v7).toInt64) * r21), z3, z4) else none)
noncomputable def f_X3_sharesFrom_d1_b85 (od : OddsT) (q4 : Rides4T) (rd1 : RideT) (pl : PlanT) (v7 : Int32) (z3 : RideT) (z4 : RideT) : Option (Int64 × RideT × RideT) := f_X3_sharesFrom_d1_b86 od q4 rd1 pl v7 (0 : Int32) z3 z4
noncomputable def f_X3_sharesFrom_d1 (od : OddsT) (q4 : Rides4T) (rd1 : RideT) (rd2 : RideT) (rd3 : RideT) (pl : PlanT) (x1 : Int32) (x2 : Int32) : Option (Int64 × RideT × RideT) := (if (od_count od) ≤ (1 : Int32) then some ((0 : Int64), rd2, rd3) else if kb_in? (1 : Int32) 8 then (f_X6_bestSeats rd1 pl ((od_boarding od) ((1 : Int32)).toNatClampNeg)).bind fun r3 => (f_X6_tied rd1 pl ((od_boarding od) ((1 : Int32)).toNatClampNeg) r3).bind fun r4 => (f_X3_firstTies r4).bind fun r5 => (f_J6_bitCount_0f7a4 r5).bind fun r6 => (if ((od_boarding od) ((1 : Int32)).toNatClampNeg) = x1 then (if r6 ≤ 0 then f_X3_sharesFrom_d1_b85 od q4 rd1 pl r6 rd2 rd3 else (f_X10_holdsBit r5 x2).bind fun r22 => (if r22 = 0 then f_X3_sharesFrom_d1_b85 od q4 rd1 pl r6 rd2 rd3 else f_X3_sharesFrom_d1_b86 od q4 rd1 pl r6 (1 : Int32) rd2 rd3)) else (if r6 = 0 then (f_X6_copyFrom rd2 rd1).bind fun r16 => f_X3_sharesFrom_d1_b152 od q4 rd1 pl x1 x2 r16 rd3 else f_X3_sharesFrom_d1_b172 od q4 rd1 pl 4096 x1 x2 ((od_boarding od) ((1 : Int32)).toNatClampNeg) r5 r6 (0 : Int64) (0 : Int32) rd2 rd3)) else none)
set_option maxHeartbeats 4000000 in
set_option maxRecDepth 100000 in
theorem c_X3_sharesFrom_d1 (l : Launch) (D : va_G) (dA : Nat → ClassId) (sz : Nat) (oa : Nat → Nat) (qa : Nat → Nat) (a1 : Nat → Nat) (a2 : Nat → Nat) (a3 : Nat → Nat) (pa : Nat → Nat) (g0 : Nat) (ph : Nat → Nat) (od : OddsT) (q4 : Rides4T) (rd1 : RideT) (rd2 : RideT) (rd3 : RideT) (pl : PlanT) (x1 : Int32) (x2 : Int32) (rv : Int64) (u3 : RideT) (u4 : RideT) (hf : f_X3_sharesFrom_d1 od q4 rd1 rd2 rd3 pl x1 x2 = some (rv, u3, u4)) : kb_FMl l yX3_sharesFrom cX3_sharesFrom 12 (some .long) ({ frames := 6, cells := 0, slots := 0, locals := 166 } : Room) D dA [.ref (oa 0), .int (1 : Int32), .int x1, .int x2] sz (w_Odds dA oa (qa 0) od ++ (w_Rides4 dA qa g0 (a1 0) (a2 0) (a3 0) q4 ++ (w_Ride dA a1 (pa 0) (pa 1) rd1 ++ (w_Ride dA a2 (ph 0) (ph 1) rd2 ++ (w_Ride dA a3 (ph 2) (ph 3) rd3 ++ (w_Plan dA pa pl)))))) 0 0 rv (fun (ph2 : Nat → Nat) => (w_Odds dA oa (qa 0) od ++ (w_Rides4 dA qa g0 (a1 0) (a2 0) (a3 0) q4 ++ (w_Ride dA a1 (pa 0) (pa 1) rd1 ++ (w_Ride dA a2 (ph2 0) (ph2 1) u3 ++ (w_Ride dA a3 (ph2 2) (ph2 3) u4 ++ (w_Plan dA pa pl))))))) := by
  refine Met.ofW (cc := cX3_sharesFrom) (maxL := 12) (ret := (some .long)) (by decide) rfl ?_
  intro p e s m args below meth c s₁ B hml hv
  obtain ⟨rfl, hsz, hP, hK, hD0, hE⟩ := hv
  have hx := B.exec
  have hb := B.bytes
  have hr := B.returns
  have hown : s.vm.findClass RX3 = some m.cls := findClass_of_methodNamed B.named
  have hlocks := B.notSynchronized
  have hts : ∀ w ∈ kb_gw, w.before ([.ref (oa 0), .int (1 : Int32), .int x1, .int x2] : List Value).toArray s = true := fun w hw => hK.2.1 w hw _
  subst hsz
  have hD := hD0.self (sz := s.heap.size)
  generalize hAe : va_A (w_Odds dA oa (qa 0) od ++ (w_Rides4 dA qa g0 (a1 0) (a2 0) (a3 0) q4 ++ (w_Ride dA a1 (pa 0) (pa 1) rd1 ++ (w_Ride dA a2 (ph 0) (ph 1) rd2 ++ (w_Ride dA a3 (ph 2) (ph 3) rd3 ++ (w_Plan dA pa pl)))))) s.heap.size = A at hD hE ⊢
  have hA : ∀ q : Nat, s.heap.size ≤ q → A q := fun q h => by rw [← hAe]; exact Or.inr h
  have hS : va_S A s.heap s.heap [] := va_S.rf
  have hl := lv_entry ([.ref (oa 0), .int (1 : Int32), .int x1, .int x2]) (n := 12) (Nat.le_of_ble_eq_true rfl)
  rw [lg_entry_eq]
  generalize (lg_sl ([.ref (oa 0), .int (1 : Int32), .int x1, .int x2]) ++ List.replicate (12 - (lg_sl ([.ref (oa 0), .int (1 : Int32), .int x1, .int x2])).length) Slot.unset).toArray = ls at hl ⊢
  have hl : lv_has ls 12 [(0, .ref (oa 0)), (1, .int (1 : Int32)), (2, .int x1), (3, .int x2)] := hl
  generalize hQ : MQ below (va_Ql (fun r (_ : Nat → Nat) => r = rv) (fun ph2 => kb_B D A (w_Odds dA oa (qa 0) od ++ (w_Rides4 dA qa g0 (a1 0) (a2 0) (a3 0) q4 ++ (w_Ride dA a1 (pa 0) (pa 1) rd1 ++ (w_Ride dA a2 (ph2 0) (ph2 1) u3 ++ (w_Ride dA a3 (ph2 2) (ph2 3) u4 ++ (w_Plan dA pa pl)))))) ()) A) ([.ref (oa 0), .int (1 : Int32), .int x1, .int x2] : List Value).toArray s 0 0 A = Q
  show W p l e ({ frames := 6, cells := 0, slots := 0, locals := 166 } : Room) s m ([.ref (oa 0), .int (1 : Int32), .int x1, .int x2] : List Value).toArray below meth c s.heap [] 0 0 Q (F0 m 0 ls [])
  have RET : ∀ (ph2 : Nat → Nat) (r2 : Int64) (w3 : RideT) (w4 : RideT) (H : Heap) (locs : List Loc) (ls : Array Slot) (pc : Nat), some (r2, w3, w4) = some (rv, u3, u4) → va_P D vwCl (w_Odds dA oa (qa 0) od ++ (w_Rides4 dA qa g0 (a1 0) (a2 0) (a3 0) q4 ++ (w_Ride dA a1 (pa 0) (pa 1) rd1 ++ (w_Ride dA a2 (ph2 0) (ph2 1) w3 ++ (w_Ride dA a3 (ph2 2) (ph2 3) w4 ++ (w_Plan dA pa pl)))))) H → va_D A (w_Odds dA oa (qa 0) od ++ (w_Rides4 dA qa g0 (a1 0) (a2 0) (a3 0) q4 ++ (w_Ride dA a1 (pa 0) (pa 1) rd1 ++ (w_Ride dA a2 (ph2 0) (ph2 1) w3 ++ (w_Ride dA a3 (ph2 2) (ph2 3) w4 ++ (w_Plan dA pa pl)))))) → va_S A s.heap H locs → decode cX3_sharesFrom pc = .ok (.lreturn, 1) → W p l e ({ frames := 6, cells := 0, slots := 0, locals := 166 } : Room) s m ([.ref (oa 0), .int (1 : Int32), .int x1, .int x2] : List Value).toArray below meth c H locs 0 0 Q (F0 m pc ls [.long r2]) := by
    intro ph2 r2 w3 w4 H locs ls pc hq hP hD hS hd
    cases hq
    rw [← hQ]
    exact W.lret hx hb hr (fun t ht hW => ⟨⟨_, ph2, rfl, rfl, by rw [ht]; exact hP, hD⟩, hS.F ht⟩) hS.2.2 hd
  have B_219 : ∀ (k172 : Int32 → Int32 → Int32 → Int32 → Int32 → Int64 → Int32 → RideT → RideT → Option (Int64 × RideT × RideT)) (hk172 : ∀ (ph : Nat → Nat) (v2 : Int32) (v3 : Int32) (v5 : Int32) (v6 : Int32) (v7 : Int32) (v9 : Int64) (v11 : Int32) (z3 : RideT) (z4 : RideT) (H : Heap) (locs : List Loc) (ls : Array Slot), k172 v2 v3 v5 v6 v7 v9 v11 z3 z4 = some (rv, u3, u4) → va_P D vwCl (w_Odds dA oa (qa 0) od ++ (w_Rides4 dA qa g0 (a1 0) (a2 0) (a3 0) q4 ++ (w_Ride dA a1 (pa 0) (pa 1) rd1 ++ (w_Ride dA a2 (ph 0) (ph 1) z3 ++ (w_Ride dA a3 (ph 2) (ph 3) z4 ++ (w_Plan dA pa pl)))))) H → va_D A (w_Odds dA oa (qa 0) od ++ (w_Rides4 dA qa g0 (a1 0) (a2 0) (a3 0) q4 ++ (w_Ride dA a1 (pa 0) (pa 1) rd1 ++ (w_Ride dA a2 (ph 0) (ph 1) z3 ++ (w_Ride dA a3 (ph 2) (ph 3) z4 ++ (w_Plan dA pa pl)))))) → va_S A s.heap H locs → lv_has ls 12 [(0, .ref (oa 0)), (1, .int (1 : Int32)), (2, .int v2), (3, .int v3), (4, .ref (a1 0)), (5, .int v5), (6, .int v6), (7, .int v7), (8, .ref (a2 0)), (9, .long v9), (11, .int v11)] → W p l e ({ frames := 6, cells := 0, slots := 0, locals := 166 } : Room) s m ([.ref (oa 0), .int (1 : Int32), .int x1, .int x2] : List Value).toArray below meth c H locs 0 0 Q (F0 m 172 ls [])) (ph : Nat → Nat) (v2 : Int32) (v3 : Int32) (v5 : Int32) (v6 : Int32) (v7 : Int32) (v9 : Int64) (v11 : Int32) (z3 : RideT) (z4 : RideT) (H : Heap) (locs : List Loc) (ls : Array Slot), f_X3_sharesFrom_d1_b219 od q4 rd1 pl k172 v2 v3 v5 v6 v7 v9 v11 z3 z4 = some (rv, u3, u4) → va_P D vwCl (w_Odds dA oa (qa 0) od ++ (w_Rides4 dA qa g0 (a1 0) (a2 0) (a3 0) q4 ++ (w_Ride dA a1 (pa 0) (pa 1) rd1 ++ (w_Ride dA a2 (pa 0) (pa 1) z3 ++ (w_Ride dA a3 (ph 2) (ph 3) z4 ++ (w_Plan dA pa pl)))))) H → va_D A (w_Odds dA oa (qa 0) od ++ (w_Rides4 dA qa g0 (a1 0) (a2 0) (a3 0) q4 ++ (w_Ride dA a1 (pa 0) (pa 1) rd1 ++ (w_Ride dA a2 (pa 0) (pa 1) z3 ++ (w_Ride dA a3 (ph 2) (ph 3) z4 ++ (w_Plan dA pa pl)))))) → va_S A s.heap H locs → lv_has ls 12 [(0, .ref (oa 0)), (1, .int (1 : Int32)), (2, .int v2), (3, .int v3), (4, .ref (a1 0)), (5, .int v5), (6, .int v6), (7, .int v7), (8, .ref (a2 0)), (9, .long v9), (11, .int v11)] → W p l e ({ frames := 6, cells := 0, slots := 0, locals := 166 } : Room) s m ([.ref (oa 0), .int (1 : Int32), .int x1, .int x2] : List Value).toArray below meth c H locs 0 0 Q (F0 m 219 ls []) := by
    intro k172 hk172 ph v2 v3 v5 v6 v7 v9 v11 z3 z4 H locs ls hf hP hD hS hl
    rw [f_X3_sharesFrom_d1_b219] at hf
    refine lv_iinc (v := (v11 + (1 : Int32))) (lv' := [(11, .int (v11 + (1 : Int32))), (0, .ref (oa 0)), (1, .int (1 : Int32)), (2, .int v2), (3, .int v3), (4, .ref (a1 0)), (5, .int v5), (6, .int v6), (7, .int v7), (8, .ref (a2 0)), (9, .long v9)]) hx hb dX3_sharesFrom_219 hl (k := 10) rfl (by rfl) (by decide) rfl (fun ls hl => ?_)
    refine lv_goto (tgt := 172) hx hb dX3_sharesFrom_222 (by decide) ?_
    exact hk172 (kb_ph [(pa 0), (pa 1), (ph 2), (ph 3)]) _ _ _ _ _ _ _ _ _ _ _ _ hf hP hD hS (lv_sub hl [1, 2, 3, 4, 5, 6, 7, 8, 9, 10, 0] rfl)
  have B_205 : ∀ (k172 : Int32 → Int32 → Int32 → Int32 → Int32 → Int64 → Int32 → RideT → RideT → Option (Int64 × RideT × RideT)) (hk172 : ∀ (ph : Nat → Nat) (v2 : Int32) (v3 : Int32) (v5 : Int32) (v6 : Int32) (v7 : Int32) (v9 : Int64) (v11 : Int32) (z3 : RideT) (z4 : RideT) (H : Heap) (locs : List Loc) (ls : Array Slot), k172 v2 v3 v5 v6 v7 v9 v11 z3 z4 = some (rv, u3, u4) → va_P D vwCl (w_Odds dA oa (qa 0) od ++ (w_Rides4 dA qa g0 (a1 0) (a2 0) (a3 0) q4 ++ (w_Ride dA a1 (pa 0) (pa 1) rd1 ++ (w_Ride dA a2 (ph 0) (ph 1) z3 ++ (w_Ride dA a3 (ph 2) (ph 3) z4 ++ (w_Plan dA pa pl)))))) H → va_D A (w_Odds dA oa (qa 0) od ++ (w_Rides4 dA qa g0 (a1 0) (a2 0) (a3 0) q4 ++ (w_Ride dA a1 (pa 0) (pa 1) rd1 ++ (w_Ride dA a2 (ph 0) (ph 1) z3 ++ (w_Ride dA a3 (ph 2) (ph 3) z4 ++ (w_Plan dA pa pl)))))) → va_S A s.heap H locs → lv_has ls 12 [(0, .ref (oa 0)), (1, .int (1 : Int32)), (2, .int v2), (3, .int v3), (4, .ref (a1 0)), (5, .int v5), (6, .int v6), (7, .int v7), (8, .ref (a2 0)), (9, .long v9), (11, .int v11)] → W p l e ({ frames := 6, cells := 0, slots := 0, locals := 166 } : Room) s m ([.ref (oa 0), .int (1 : Int32), .int x1, .int x2] : List Value).toArray below meth c H locs 0 0 Q (F0 m 172 ls [])) (ph : Nat → Nat) (v2 : Int32) (v3 : Int32) (v5 : Int32) (v6 : Int32) (v7 : Int32) (v9 : Int64) (v11 : Int32) (z3 : RideT) (z4 : RideT) (H : Heap) (locs : List Loc) (ls : Array Slot), f_X3_sharesFrom_d1_b205 od q4 rd1 pl k172 v2 v3 v5 v6 v7 v9 v11 z3 z4 = some (rv, u3, u4) → va_P D vwCl (w_Odds dA oa (qa 0) od ++ (w_Rides4 dA qa g0 (a1 0) (a2 0) (a3 0) q4 ++ (w_Ride dA a1 (pa 0) (pa 1) rd1 ++ (w_Ride dA a2 (pa 0) (pa 1) z3 ++ (w_Ride dA a3 (ph 2) (ph 3) z4 ++ (w_Plan dA pa pl)))))) H → va_D A (w_Odds dA oa (qa 0) od ++ (w_Rides4 dA qa g0 (a1 0) (a2 0) (a3 0) q4 ++ (w_Ride dA a1 (pa 0) (pa 1) rd1 ++ (w_Ride dA a2 (pa 0) (pa 1) z3 ++ (w_Ride dA a3 (ph 2) (ph 3) z4 ++ (w_Plan dA pa pl)))))) → va_S A s.heap H locs → lv_has ls 12 [(0, .ref (oa 0)), (1, .int (1 : Int32)), (2, .int v2), (3, .int v3), (4, .ref (a1 0)), (5, .int v5), (6, .int v6), (7, .int v7), (8, .ref (a2 0)), (9, .long v9), (11, .int v11)] → W p l e ({ frames := 6, cells := 0, slots := 0, locals := 166 } : Room) s m ([.ref (oa 0), .int (1 : Int32), .int x1, .int x2] : List Value).toArray below meth c H locs 0 0 Q (F0 m 205 ls []) := by
    intro k172 hk172 ph v2 v3 v5 v6 v7 v9 v11 z3 z4 H locs ls hf hP hD hS hl
    rw [f_X3_sharesFrom_d1_b205] at hf
    refine lv_lload hx hb dX3_sharesFrom_205 (lv_at hl 9 rfl) ?_
    refine lv_aload_n hx hb dX3_sharesFrom_207 rfl (lv_at hl 0 rfl) ?_
    refine lv_iload_n hx hb dX3_sharesFrom_208 rfl (lv_at hl 1 rfl) ?_
    refine lv_iconst (v := (1 : Int32)) hx hb dX3_sharesFrom_209 (by decide) ?_
    refine lv_iadd hx hb dX3_sharesFrom_210 ?_
    show W p l e ({ frames := 6, cells := 0, slots := 0, locals := 166 } : Room) s m ([.ref (oa 0), .int (1 : Int32), .int x1, .int x2] : List Value).toArray below meth c _ _ 0 0 Q (F0 m 211 _ [.int (2 : Int32), .ref (oa 0), .long v9])
    refine lv_iload_n hx hb dX3_sharesFrom_211 rfl (lv_at hl 2 rfl) ?_
    refine lv_iload_n hx hb dX3_sharesFrom_212 rfl (lv_at hl 3 rfl) ?_
    obtain ⟨r15, hc15, hf⟩ := kb_bind hf
    refine kc_Fcl (ws2 := fun ph15 => (w_Odds dA oa (qa 0) od ++ (w_Rides4 dA qa g0 (a1 0) (a2 0) (a3 0) q4 ++ (w_Ride dA a1 (pa 0) (pa 1) rd1 ++ (w_Ride dA a2 (pa 0) (pa 1) z3 ++ (w_Ride dA a3 (ph15 0) (ph15 1) r15.2 ++ (w_Plan dA pa pl))))))) (kc_rV (n := 3) (As := [.int (2 : Int32), .int v2, .int v3]) (rest := [.long v9]) hx hb hml hown hK (c_X3_sharesFrom_d2 l D dA H.size oa qa a2 a3 pa g0 (a1 0) (kb_ph [(ph 2), (ph 3)]) od q4 z3 z4 pl v2 v3 r15.1 r15.2 hc15) ⟨ww_4_187, ww_4_184, ww_4_186, ws_36, ww_1_10, rfl, by decide, by decide⟩ rfl rfl (by decide +kernel) ⟨Nat.le_of_ble_eq_true rfl, Nat.le_of_ble_eq_true rfl⟩ hP hD hS hA hE (kc_sel [w_Odds dA oa (qa 0) od, w_Rides4 dA qa g0 (a1 0) (a2 0) (a3 0) q4, w_Ride dA a1 (pa 0) (pa 1) rd1, w_Ride dA a2 (pa 0) (pa 1) z3, w_Ride dA a3 (ph 2) (ph 3) z4, w_Plan dA pa pl] 6 [2] [0, 1, 3, 4, 5] rfl (by decide)) 0 rfl rfl rfl hl.1 rfl (Nat.le_of_ble_eq_true rfl) dX3_sharesFrom_213 ⟨Nat.le_of_ble_eq_true rfl, Nat.le_of_ble_eq_true rfl⟩) hP hD hS hA (kc_sel [w_Odds dA oa (qa 0) od, w_Rides4 dA qa g0 (a1 0) (a2 0) (a3 0) q4, w_Ride dA a1 (pa 0) (pa 1) rd1, w_Ride dA a2 (pa 0) (pa 1) z3, w_Ride dA a3 (ph 2) (ph 3) z4, w_Plan dA pa pl] 6 [2] [0, 1, 3, 4, 5] rfl (by decide)) (fun ph15 => (kc_sel [w_Odds dA oa (qa 0) od, w_Rides4 dA qa g0 (a1 0) (a2 0) (a3 0) q4, w_Ride dA a1 (pa 0) (pa 1) rd1, w_Ride dA a2 (pa 0) (pa 1) z3, w_Ride dA a3 (ph15 0) (ph15 1) r15.2, w_Plan dA pa pl] 6 [2] [0, 1, 3, 4, 5] rfl (by decide)).symm) (fun ph15 H locs hP hD hS => ?_)
    refine lv_ladd hx hb dX3_sharesFrom_216 ?_
    refine lv_lstore (lv' := [(9, .long (v9 + r15.1)), (0, .ref (oa 0)), (1, .int (1 : Int32)), (2, .int v2), (3, .int v3), (4, .ref (a1 0)), (5, .int v5), (6, .int v6), (7, .int v7), (8, .ref (a2 0)), (11, .int v11)]) hx hb dX3_sharesFrom_217 hl (by decide) rfl (fun ls hl => ?_)
    exact B_219 k172 hk172 (kb_ph [(pa 0), (pa 1), (ph15 0), (ph15 1)]) _ _ _ _ _ _ _ _ _ _ _ _ hf hP hD hS (lv_sub hl [1, 2, 3, 4, 5, 6, 7, 8, 9, 0, 10] rfl)
  have B_196 : ∀ (k172 : Int32 → Int32 → Int32 → Int32 → Int32 → Int64 → Int32 → RideT → RideT → Option (Int64 × RideT × RideT)) (hk172 : ∀ (ph : Nat → Nat) (v2 : Int32) (v3 : Int32) (v5 : Int32) (v6 : Int32) (v7 : Int32) (v9 : Int64) (v11 : Int32) (z3 : RideT) (z4 : RideT) (H : Heap) (locs : List Loc) (ls : Array Slot), k172 v2 v3 v5 v6 v7 v9 v11 z3 z4 = some (rv, u3, u4) → va_P D vwCl (w_Odds dA oa (qa 0) od ++ (w_Rides4 dA qa g0 (a1 0) (a2 0) (a3 0) q4 ++ (w_Ride dA a1 (pa 0) (pa 1) rd1 ++ (w_Ride dA a2 (ph 0) (ph 1) z3 ++ (w_Ride dA a3 (ph 2) (ph 3) z4 ++ (w_Plan dA pa pl)))))) H → va_D A (w_Odds dA oa (qa 0) od ++ (w_Rides4 dA qa g0 (a1 0) (a2 0) (a3 0) q4 ++ (w_Ride dA a1 (pa 0) (pa 1) rd1 ++ (w_Ride dA a2 (ph 0) (ph 1) z3 ++ (w_Ride dA a3 (ph 2) (ph 3) z4 ++ (w_Plan dA pa pl)))))) → va_S A s.heap H locs → lv_has ls 12 [(0, .ref (oa 0)), (1, .int (1 : Int32)), (2, .int v2), (3, .int v3), (4, .ref (a1 0)), (5, .int v5), (6, .int v6), (7, .int v7), (8, .ref (a2 0)), (9, .long v9), (11, .int v11)] → W p l e ({ frames := 6, cells := 0, slots := 0, locals := 166 } : Room) s m ([.ref (oa 0), .int (1 : Int32), .int x1, .int x2] : List Value).toArray below meth c H locs 0 0 Q (F0 m 172 ls [])) (ph : Nat → Nat) (v2 : Int32) (v3 : Int32) (v5 : Int32) (v6 : Int32) (v7 : Int32) (v9 : Int64) (v11 : Int32) (z3 : RideT) (z4 : RideT) (H : Heap) (locs : List Loc) (ls : Array Slot), f_X3_sharesFrom_d1_b196 od q4 rd1 pl k172 v2 v3 v5 v6 v7 v9 v11 z3 z4 = some (rv, u3, u4) → va_P D vwCl (w_Odds dA oa (qa 0) od ++ (w_Rides4 dA qa g0 (a1 0) (a2 0) (a3 0) q4 ++ (w_Ride dA a1 (pa 0) (pa 1) rd1 ++ (w_Ride dA a2 (pa 0) (pa 1) z3 ++ (w_Ride dA a3 (ph 2) (ph 3) z4 ++ (w_Plan dA pa pl)))))) H → va_D A (w_Odds dA oa (qa 0) od ++ (w_Rides4 dA qa g0 (a1 0) (a2 0) (a3 0) q4 ++ (w_Ride dA a1 (pa 0) (pa 1) rd1 ++ (w_Ride dA a2 (pa 0) (pa 1) z3 ++ (w_Ride dA a3 (ph 2) (ph 3) z4 ++ (w_Plan dA pa pl)))))) → va_S A s.heap H locs → lv_has ls 12 [(0, .ref (oa 0)), (1, .int (1 : Int32)), (2, .int v2), (3, .int v3), (4, .ref (a1 0)), (5, .int v5), (6, .int v6), (7, .int v7), (8, .ref (a2 0)), (9, .long v9), (11, .int v11)] → W p l e ({ frames := 6, cells := 0, slots := 0, locals := 166 } : Room) s m ([.ref (oa 0), .int (1 : Int32), .int x1, .int x2] : List Value).toArray below meth c H locs 0 0 Q (F0 m 196 ls []) := by
    intro k172 hk172 ph v2 v3 v5 v6 v7 v9 v11 z3 z4 H locs ls hf hP hD hS hl
    rw [f_X3_sharesFrom_d1_b196] at hf
    refine lv_aload hx hb dX3_sharesFrom_196 (lv_at hl 8 rfl) ?_
    refine lv_iload hx hb dX3_sharesFrom_198 (lv_at hl 5 rfl) ?_
    refine lv_iload hx hb dX3_sharesFrom_200 (lv_at hl 10 rfl) ?_
    obtain ⟨r14, hc14, hf⟩ := kb_bind hf
    refine kc_cv (ws2 := (w_Odds dA oa (qa 0) od ++ (w_Rides4 dA qa g0 (a1 0) (a2 0) (a3 0) q4 ++ (w_Ride dA a1 (pa 0) (pa 1) rd1 ++ (w_Ride dA a2 (pa 0) (pa 1) r14 ++ (w_Ride dA a3 (ph 2) (ph 3) z4 ++ (w_Plan dA pa pl))))))) (kc_rV (n := 2) (As := [.int v5, .int v11]) (rest := []) hx hb hml hown hK (c_X6_sitDown l D dA H.size a2 pa z3 pl v5 v11 r14 hc14) ⟨ww_4_5, ww_4_199, ww_4_3, ww_4_4, ww_1_8, rfl, by decide, by decide⟩ rfl rfl (by decide +kernel) ⟨Nat.le_of_ble_eq_true rfl, Nat.le_of_ble_eq_true rfl⟩ hP hD hS hA hE (kc_sel [w_Odds dA oa (qa 0) od, w_Rides4 dA qa g0 (a1 0) (a2 0) (a3 0) q4, w_Ride dA a1 (pa 0) (pa 1) rd1, w_Ride dA a2 (pa 0) (pa 1) z3, w_Ride dA a3 (ph 2) (ph 3) z4, w_Plan dA pa pl] 6 [0, 1, 2, 4] [3, 5] rfl (by decide)) 0 rfl rfl rfl hl.1 rfl (Nat.le_of_ble_eq_true rfl) dX3_sharesFrom_202 ⟨Nat.le_of_ble_eq_true rfl, Nat.le_of_ble_eq_true rfl⟩) hP hD hS hA (kc_sel [w_Odds dA oa (qa 0) od, w_Rides4 dA qa g0 (a1 0) (a2 0) (a3 0) q4, w_Ride dA a1 (pa 0) (pa 1) rd1, w_Ride dA a2 (pa 0) (pa 1) z3, w_Ride dA a3 (ph 2) (ph 3) z4, w_Plan dA pa pl] 6 [0, 1, 2, 4] [3, 5] rfl (by decide)) (kc_sel [w_Odds dA oa (qa 0) od, w_Rides4 dA qa g0 (a1 0) (a2 0) (a3 0) q4, w_Ride dA a1 (pa 0) (pa 1) rd1, w_Ride dA a2 (pa 0) (pa 1) r14, w_Ride dA a3 (ph 2) (ph 3) z4, w_Plan dA pa pl] 6 [0, 1, 2, 4] [3, 5] rfl (by decide)).symm (fun H locs hP hD hS => ?_)
    exact B_205 k172 hk172 (kb_ph [(pa 0), (pa 1), (ph 2), (ph 3)]) _ _ _ _ _ _ _ _ _ _ _ _ hf hP hD hS (lv_sub hl [0, 1, 2, 3, 4, 5, 6, 7, 8, 9, 10] rfl)
  have B_172 : ∀ (n : Nat) (ph : Nat → Nat) (v2 : Int32) (v3 : Int32) (v5 : Int32) (v6 : Int32) (v7 : Int32) (v9 : Int64) (v11 : Int32) (z3 : RideT) (z4 : RideT) (H : Heap) (locs : List Loc) (ls : Array Slot), f_X3_sharesFrom_d1_b172 od q4 rd1 pl n v2 v3 v5 v6 v7 v9 v11 z3 z4 = some (rv, u3, u4) → va_P D vwCl (w_Odds dA oa (qa 0) od ++ (w_Rides4 dA qa g0 (a1 0) (a2 0) (a3 0) q4 ++ (w_Ride dA a1 (pa 0) (pa 1) rd1 ++ (w_Ride dA a2 (ph 0) (ph 1) z3 ++ (w_Ride dA a3 (ph 2) (ph 3) z4 ++ (w_Plan dA pa pl)))))) H → va_D A (w_Odds dA oa (qa 0) od ++ (w_Rides4 dA qa g0 (a1 0) (a2 0) (a3 0) q4 ++ (w_Ride dA a1 (pa 0) (pa 1) rd1 ++ (w_Ride dA a2 (ph 0) (ph 1) z3 ++ (w_Ride dA a3 (ph 2) (ph 3) z4 ++ (w_Plan dA pa pl)))))) → va_S A s.heap H locs → lv_has ls 12 [(0, .ref (oa 0)), (1, .int (1 : Int32)), (2, .int v2), (3, .int v3), (4, .ref (a1 0)), (5, .int v5), (6, .int v6), (7, .int v7), (8, .ref (a2 0)), (9, .long v9), (11, .int v11)] → W p l e ({ frames := 6, cells := 0, slots := 0, locals := 166 } : Room) s m ([.ref (oa 0), .int (1 : Int32), .int x1, .int x2] : List Value).toArray below meth c H locs 0 0 Q (F0 m 172 ls []) := by
    intro n
    induction n with
    | zero =>
      intro ph v2 v3 v5 v6 v7 v9 v11 z3 z4 H locs ls hf
      exact absurd hf (by simp [f_X3_sharesFrom_d1_b172])
    | succ n ih =>
      intro ph v2 v3 v5 v6 v7 v9 v11 z3 z4 H locs ls hf hP hD hS hl
      rw [f_X3_sharesFrom_d1_b172] at hf
      refine lv_iload hx hb dX3_sharesFrom_172 (lv_at hl 10 rfl) ?_
      refine lv_bipush (v := (20 : Int32)) hx hb dX3_sharesFrom_174 (by decide) ?_
      refine lv_icmp_ge (tgt := 225) hx hb dX3_sharesFrom_176 (by decide) (fun c_9 => ?_) (fun c_9 => ?_)
      · rw [if_pos c_9] at hf
        refine lv_ldc2 (v := (27720 : Int64)) hx hb hown (hK.2.w ww_4_195 rfl _) dX3_sharesFrom_225 ?_
        refine lv_iload hx hb dX3_sharesFrom_228 (lv_at hl 7 rfl) ?_
        refine lv_i2l hx hb dX3_sharesFrom_230 rfl ?_
        obtain ⟨h_10, hf⟩ := kb_if hf
        refine lv_ldiv hx hb dX3_sharesFrom_231 h_10 ?_
        refine lv_lload hx hb dX3_sharesFrom_232 (lv_at hl 9 rfl) ?_
        refine lv_lmul hx hb dX3_sharesFrom_234 ?_
        exact RET (kb_ph [(ph 0), (ph 1), (ph 2), (ph 3)]) _ _ _ H _ ls 235 hf hP hD hS dX3_sharesFrom_235
      · rw [if_neg c_9] at hf
        refine lv_iload hx hb dX3_sharesFrom_179 (lv_at hl 6 rfl) ?_
        refine lv_iload hx hb dX3_sharesFrom_181 (lv_at hl 10 rfl) ?_
        obtain ⟨r11, hc11, hf⟩ := kb_bind hf
        refine kc_ci (ws2 := (w_Odds dA oa (qa 0) od ++ (w_Rides4 dA qa g0 (a1 0) (a2 0) (a3 0) q4 ++ (w_Ride dA a1 (pa 0) (pa 1) rd1 ++ (w_Ride dA a2 (ph 0) (ph 1) z3 ++ (w_Ride dA a3 (ph 2) (ph 3) z4 ++ (w_Plan dA pa pl))))))) (kc_rSN (n := 2) (As := [.int v6, .int v11]) (rest := []) hx hb hml hown hK (c_X10_holdsBit l D dA H.size v6 v11 r11 hc11) ⟨ww_3_158, ww_4_193, ww_3_157, ww_1_1, by decide, by decide⟩ rfl rfl (by decide +kernel) ⟨Nat.le_of_ble_eq_true rfl, Nat.le_of_ble_eq_true rfl⟩ hP hD hS hA hE (kc_sel [w_Odds dA oa (qa 0) od, w_Rides4 dA qa g0 (a1 0) (a2 0) (a3 0) q4, w_Ride dA a1 (pa 0) (pa 1) rd1, w_Ride dA a2 (ph 0) (ph 1) z3, w_Ride dA a3 (ph 2) (ph 3) z4, w_Plan dA pa pl] 6 [0, 1, 2, 3, 4, 5] [] rfl (by decide)) rfl hl.1 rfl (Nat.le_of_ble_eq_true rfl) dX3_sharesFrom_183 ⟨Nat.le_of_ble_eq_true rfl, Nat.le_of_ble_eq_true rfl⟩) hP hD hS hA (kc_sel [w_Odds dA oa (qa 0) od, w_Rides4 dA qa g0 (a1 0) (a2 0) (a3 0) q4, w_Ride dA a1 (pa 0) (pa 1) rd1, w_Ride dA a2 (ph 0) (ph 1) z3, w_Ride dA a3 (ph 2) (ph 3) z4, w_Plan dA pa pl] 6 [0, 1, 2, 3, 4, 5] [] rfl (by decide)) (kc_sel [w_Odds dA oa (qa 0) od, w_Rides4 dA qa g0 (a1 0) (a2 0) (a3 0) q4, w_Ride dA a1 (pa 0) (pa 1) rd1, w_Ride dA a2 (ph 0) (ph 1) z3, w_Ride dA a3 (ph 2) (ph 3) z4, w_Plan dA pa pl] 6 [0, 1, 2, 3, 4, 5] [] rfl (by decide)).symm (fun H locs hP hD hS => ?_)
        refine lv_if_eq (tgt := 219) hx hb dX3_sharesFrom_186 (by decide) (fun c_12 => ?_) (fun c_12 => ?_)
        · rw [if_pos c_12] at hf
          refine lv_iinc (v := (v11 + (1 : Int32))) (lv' := [(11, .int (v11 + (1 : Int32))), (0, .ref (oa 0)), (1, .int (1 : Int32)), (2, .int v2), (3, .int v3), (4, .ref (a1 0)), (5, .int v5), (6, .int v6), (7, .int v7), (8, .ref (a2 0)), (9, .long v9)]) hx hb dX3_sharesFrom_219 hl (k := 10) rfl (by rfl) (by decide) rfl (fun ls hl => ?_)
          refine lv_goto (tgt := 172) hx hb dX3_sharesFrom_222 (by decide) ?_
          exact ih (kb_ph [(ph 0), (ph 1), (ph 2), (ph 3)]) _ _ _ _ _ _ _ _ _ _ _ _ hf hP hD hS (lv_sub hl [1, 2, 3, 4, 5, 6, 7, 8, 9, 10, 0] rfl)
        · rw [if_neg c_12] at hf
          refine lv_aload hx hb dX3_sharesFrom_189 (lv_at hl 8 rfl) ?_
          refine lv_aload hx hb dX3_sharesFrom_191 (lv_at hl 4 rfl) ?_
          obtain ⟨r13, hc13, hf⟩ := kb_bind hf
          refine kc_cv (ws2 := (w_Odds dA oa (qa 0) od ++ (w_Rides4 dA qa g0 (a1 0) (a2 0) (a3 0) q4 ++ (w_Ride dA a1 (pa 0) (pa 1) rd1 ++ (w_Ride dA a2 (pa 0) (pa 1) r13 ++ (w_Ride dA a3 (ph 2) (ph 3) z4 ++ (w_Plan dA pa pl))))))) (kc_rV (n := 1) (As := [.ref (a1 0)]) (rest := []) hx hb hml hown hK (c_X6_copyFrom l D dA H.size a2 a1 (ph 0) (ph 1) (pa 0) (pa 1) z3 rd1 r13 hc13) ⟨ww_4_133, ww_4_182, ww_4_131, ww_4_132, ww_1_8, rfl, by decide, by decide⟩ rfl rfl (by decide +kernel) ⟨Nat.le_of_ble_eq_true rfl, Nat.le_of_ble_eq_true rfl⟩ hP hD hS hA hE (kc_sel [w_Odds dA oa (qa 0) od, w_Rides4 dA qa g0 (a1 0) (a2 0) (a3 0) q4, w_Ride dA a1 (pa 0) (pa 1) rd1, w_Ride dA a2 (ph 0) (ph 1) z3, w_Ride dA a3 (ph 2) (ph 3) z4, w_Plan dA pa pl] 6 [0, 1, 4, 5] [3, 2] rfl (by decide)) 0 rfl rfl rfl hl.1 rfl (Nat.le_of_ble_eq_true rfl) dX3_sharesFrom_193 ⟨Nat.le_of_ble_eq_true rfl, Nat.le_of_ble_eq_true rfl⟩) hP hD hS hA (kc_sel [w_Odds dA oa (qa 0) od, w_Rides4 dA qa g0 (a1 0) (a2 0) (a3 0) q4, w_Ride dA a1 (pa 0) (pa 1) rd1, w_Ride dA a2 (ph 0) (ph 1) z3, w_Ride dA a3 (ph 2) (ph 3) z4, w_Plan dA pa pl] 6 [0, 1, 4, 5] [3, 2] rfl (by decide)) (kc_sel [w_Odds dA oa (qa 0) od, w_Rides4 dA qa g0 (a1 0) (a2 0) (a3 0) q4, w_Ride dA a1 (pa 0) (pa 1) rd1, w_Ride dA a2 (pa 0) (pa 1) r13, w_Ride dA a3 (ph 2) (ph 3) z4, w_Plan dA pa pl] 6 [0, 1, 4, 5] [3, 2] rfl (by decide)).symm (fun H locs hP hD hS => ?_)
          exact B_196 (f_X3_sharesFrom_d1_b172 od q4 rd1 pl n) ih (kb_ph [(pa 0), (pa 1), (ph 2), (ph 3)]) _ _ _ _ _ _ _ _ _ _ _ _ hf hP hD hS (lv_sub hl [0, 1, 2, 3, 4, 5, 6, 7, 8, 9, 10] rfl)
  have B_152 : ∀ (ph : Nat → Nat) (v2 : Int32) (v3 : Int32) (z3 : RideT) (z4 : RideT) (H : Heap) (locs : List Loc) (ls : Array Slot), f_X3_sharesFrom_d1_b152 od q4 rd1 pl v2 v3 z3 z4 = some (rv, u3, u4) → va_P D vwCl (w_Odds dA oa (qa 0) od ++ (w_Rides4 dA qa g0 (a1 0) (a2 0) (a3 0) q4 ++ (w_Ride dA a1 (pa 0) (pa 1) rd1 ++ (w_Ride dA a2 (pa 0) (pa 1) z3 ++ (w_Ride dA a3 (ph 2) (ph 3) z4 ++ (w_Plan dA pa pl)))))) H → va_D A (w_Odds dA oa (qa 0) od ++ (w_Rides4 dA qa g0 (a1 0) (a2 0) (a3 0) q4 ++ (w_Ride dA a1 (pa 0) (pa 1) rd1 ++ (w_Ride dA a2 (pa 0) (pa 1) z3 ++ (w_Ride dA a3 (ph 2) (ph 3) z4 ++ (w_Plan dA pa pl)))))) → va_S A s.heap H locs → lv_has ls 12 [(0, .ref (oa 0)), (1, .int (1 : Int32)), (2, .int v2), (3, .int v3)] → W p l e ({ frames := 6, cells := 0, slots := 0, locals := 166 } : Room) s m ([.ref (oa 0), .int (1 : Int32), .int x1, .int x2] : List Value).toArray below meth c H locs 0 0 Q (F0 m 152 ls []) := by
    intro ph v2 v3 z3 z4 H locs ls hf hP hD hS hl
    rw [f_X3_sharesFrom_d1_b152] at hf
    refine lv_ldc2 (v := (27720 : Int64)) hx hb hown (hK.2.w ww_4_195 rfl _) dX3_sharesFrom_152 ?_
    refine lv_aload_n hx hb dX3_sharesFrom_155 rfl (lv_at hl 0 rfl) ?_
    refine lv_iload_n hx hb dX3_sharesFrom_156 rfl (lv_at hl 1 rfl) ?_
    refine lv_iconst (v := (1 : Int32)) hx hb dX3_sharesFrom_157 (by decide) ?_
    refine lv_iadd hx hb dX3_sharesFrom_158 ?_
    show W p l e ({ frames := 6, cells := 0, slots := 0, locals := 166 } : Room) s m ([.ref (oa 0), .int (1 : Int32), .int x1, .int x2] : List Value).toArray below meth c _ _ 0 0 Q (F0 m 159 _ [.int (2 : Int32), .ref (oa 0), .long (27720 : Int64)])
    refine lv_iload_n hx hb dX3_sharesFrom_159 rfl (lv_at hl 2 rfl) ?_
    refine lv_iload_n hx hb dX3_sharesFrom_160 rfl (lv_at hl 3 rfl) ?_
    obtain ⟨r17, hc17, hf⟩ := kb_bind hf
    refine kc_Fcl (ws2 := fun ph17 => (w_Odds dA oa (qa 0) od ++ (w_Rides4 dA qa g0 (a1 0) (a2 0) (a3 0) q4 ++ (w_Ride dA a1 (pa 0) (pa 1) rd1 ++ (w_Ride dA a2 (pa 0) (pa 1) z3 ++ (w_Ride dA a3 (ph17 0) (ph17 1) r17.2 ++ (w_Plan dA pa pl))))))) (kc_rV (n := 3) (As := [.int (2 : Int32), .int v2, .int v3]) (rest := [.long (27720 : Int64)]) hx hb hml hown hK (c_X3_sharesFrom_d2 l D dA H.size oa qa a2 a3 pa g0 (a1 0) (kb_ph [(ph 2), (ph 3)]) od q4 z3 z4 pl v2 v3 r17.1 r17.2 hc17) ⟨ww_4_187, ww_4_184, ww_4_186, ws_36, ww_1_10, rfl, by decide, by decide⟩ rfl rfl (by decide +kernel) ⟨Nat.le_of_ble_eq_true rfl, Nat.le_of_ble_eq_true rfl⟩ hP hD hS hA hE (kc_sel [w_Odds dA oa (qa 0) od, w_Rides4 dA qa g0 (a1 0) (a2 0) (a3 0) q4, w_Ride dA a1 (pa 0) (pa 1) rd1, w_Ride dA a2 (pa 0) (pa 1) z3, w_Ride dA a3 (ph 2) (ph 3) z4, w_Plan dA pa pl] 6 [2] [0, 1, 3, 4, 5] rfl (by decide)) 0 rfl rfl rfl hl.1 rfl (Nat.le_of_ble_eq_true rfl) dX3_sharesFrom_161 ⟨Nat.le_of_ble_eq_true rfl, Nat.le_of_ble_eq_true rfl⟩) hP hD hS hA (kc_sel [w_Odds dA oa (qa 0) od, w_Rides4 dA qa g0 (a1 0) (a2 0) (a3 0) q4, w_Ride dA a1 (pa 0) (pa 1) rd1, w_Ride dA a2 (pa 0) (pa 1) z3, w_Ride dA a3 (ph 2) (ph 3) z4, w_Plan dA pa pl] 6 [2] [0, 1, 3, 4, 5] rfl (by decide)) (fun ph17 => (kc_sel [w_Odds dA oa (qa 0) od, w_Rides4 dA qa g0 (a1 0) (a2 0) (a3 0) q4, w_Ride dA a1 (pa 0) (pa 1) rd1, w_Ride dA a2 (pa 0) (pa 1) z3, w_Ride dA a3 (ph17 0) (ph17 1) r17.2, w_Plan dA pa pl] 6 [2] [0, 1, 3, 4, 5] rfl (by decide)).symm) (fun ph17 H locs hP hD hS => ?_)
    refine lv_lmul hx hb dX3_sharesFrom_164 ?_
    exact RET (kb_ph [(pa 0), (pa 1), (ph17 0), (ph17 1)]) _ _ _ H _ ls 165 hf hP hD hS dX3_sharesFrom_165
  have B_86 : ∀ (ph : Nat → Nat) (v7 : Int32) (s0 : Int32) (z3 : RideT) (z4 : RideT) (H : Heap) (locs : List Loc) (ls : Array Slot), f_X3_sharesFrom_d1_b86 od q4 rd1 pl v7 s0 z3 z4 = some (rv, u3, u4) → va_P D vwCl (w_Odds dA oa (qa 0) od ++ (w_Rides4 dA qa g0 (a1 0) (a2 0) (a3 0) q4 ++ (w_Ride dA a1 (pa 0) (pa 1) rd1 ++ (w_Ride dA a2 (ph 0) (ph 1) z3 ++ (w_Ride dA a3 (ph 2) (ph 3) z4 ++ (w_Plan dA pa pl)))))) H → va_D A (w_Odds dA oa (qa 0) od ++ (w_Rides4 dA qa g0 (a1 0) (a2 0) (a3 0) q4 ++ (w_Ride dA a1 (pa 0) (pa 1) rd1 ++ (w_Ride dA a2 (ph 0) (ph 1) z3 ++ (w_Ride dA a3 (ph 2) (ph 3) z4 ++ (w_Plan dA pa pl)))))) → va_S A s.heap H locs → lv_has ls 12 [(0, .ref (oa 0)), (1, .int (1 : Int32)), (7, .int v7)] → W p l e ({ frames := 6, cells := 0, slots := 0, locals := 166 } : Room) s m ([.ref (oa 0), .int (1 : Int32), .int x1, .int x2] : List Value).toArray below meth c H locs 0 0 Q (F0 m 86 ls [.int s0]) := by
    intro ph v7 s0 z3 z4 H locs ls hf hP hD hS hl
    rw [f_X3_sharesFrom_d1_b86] at hf
    refine lv_istore (lv' := [(8, .int s0), (0, .ref (oa 0)), (1, .int (1 : Int32)), (7, .int v7)]) hx hb dX3_sharesFrom_86 hl (by decide) rfl (fun ls hl => ?_)
    refine lv_iload hx hb dX3_sharesFrom_88 (lv_at hl 0 rfl) ?_
    refine lv_if_eq (tgt := 115) hx hb dX3_sharesFrom_90 (by decide) (fun c_19 => ?_) (fun c_19 => ?_)
    · rw [if_pos c_19] at hf
      refine lv_lconst (v := (0 : Int64)) hx hb dX3_sharesFrom_115 (by decide) ?_
      exact RET (kb_ph [(ph 0), (ph 1), (ph 2), (ph 3)]) _ _ _ H _ ls 116 hf hP hD hS dX3_sharesFrom_116
    · rw [if_neg c_19] at hf
      refine lv_ldc2 (v := (27720 : Int64)) hx hb hown (hK.2.w ww_4_195 rfl _) dX3_sharesFrom_93 ?_
      refine lv_iload hx hb dX3_sharesFrom_96 (lv_at hl 3 rfl) ?_
      refine lv_i2l hx hb dX3_sharesFrom_98 rfl ?_
      obtain ⟨h_20, hf⟩ := kb_if hf
      refine lv_ldiv hx hb dX3_sharesFrom_99 h_20 ?_
      refine lv_aload_n hx hb dX3_sharesFrom_100 rfl (lv_at hl 1 rfl) ?_
      refine va_get (D := D) (ci := 3) (v := .int (od_count od)) (C := RX3) (T := TX3) (N := 3) hx hb hts kb_inX3 hown hK.1 hP 0 rfl rfl 2 (by decide) (hK.2.w ww_2_119 rfl _) (fun _ h9 => h9) rfl dX3_sharesFrom_101 ?_
      refine lv_iload_n hx hb dX3_sharesFrom_104 rfl (lv_at hl 2 rfl) ?_
      refine lv_isub hx hb dX3_sharesFrom_105 ?_
      refine lv_iconst (v := (1 : Int32)) hx hb dX3_sharesFrom_106 (by decide) ?_
      refine lv_isub hx hb dX3_sharesFrom_107 ?_
      obtain ⟨r21, hc21, hf⟩ := kb_bind hf
      refine kc_cl (ws2 := (w_Odds dA oa (qa 0) od ++ (w_Rides4 dA qa g0 (a1 0) (a2 0) (a3 0) q4 ++ (w_Ride dA a1 (pa 0) (pa 1) rd1 ++ (w_Ride dA a2 (ph 0) (ph 1) z3 ++ (w_Ride dA a3 (ph 2) (ph 3) z4 ++ (w_Plan dA pa pl))))))) (kc_rS (n := 1) (As := [.int (((od_count od) - (1 : Int32)) - (1 : Int32))]) (rest := [.long ((27720 : Int64) / (v7).toInt64)]) hx hb hml hown hK (c_X3_sharesOfAll l D dA H.size (((od_count od) - (1 : Int32)) - (1 : Int32)) r21 hc21) ⟨ww_4_198, ww_4_196, ww_4_197, ww_1_10, by decide, by decide⟩ rfl rfl (by decide +kernel) ⟨Nat.le_of_ble_eq_true rfl, Nat.le_of_ble_eq_true rfl⟩ hP hD hS hA hE (kc_sel [w_Odds dA oa (qa 0) od, w_Rides4 dA qa g0 (a1 0) (a2 0) (a3 0) q4, w_Ride dA a1 (pa 0) (pa 1) rd1, w_Ride dA a2 (ph 0) (ph 1) z3, w_Ride dA a3 (ph 2) (ph 3) z4, w_Plan dA pa pl] 6 [0, 1, 2, 3, 4, 5] [] rfl (by decide)) rfl hl.1 rfl (Nat.le_of_ble_eq_true rfl) dX3_sharesFrom_108 ⟨Nat.le_of_ble_eq_true rfl, Nat.le_of_ble_eq_true rfl⟩) hP hD hS hA (kc_sel [w_Odds dA oa (qa 0) od, w_Rides4 dA qa g0 (a1 0) (a2 0) (a3 0) q4, w_Ride dA a1 (pa 0) (pa 1) rd1, w_Ride dA a2 (ph 0) (ph 1) z3, w_Ride dA a3 (ph 2) (ph 3) z4, w_Plan dA pa pl] 6 [0, 1, 2, 3, 4, 5] [] rfl (by decide)) (kc_sel [w_Odds dA oa (qa 0) od, w_Rides4 dA qa g0 (a1 0) (a2 0) (a3 0) q4, w_Ride dA a1 (pa 0) (pa 1) rd1, w_Ride dA a2 (ph 0) (ph 1) z3, w_Ride dA a3 (ph 2) (ph 3) z4, w_Plan dA pa pl] 6 [0, 1, 2, 3, 4, 5] [] rfl (by decide)).symm (fun H locs hP hD hS => ?_)
      refine lv_lmul hx hb dX3_sharesFrom_111 ?_
      refine lv_goto (tgt := 116) hx hb dX3_sharesFrom_112 (by decide) ?_
      exact RET (kb_ph [(ph 0), (ph 1), (ph 2), (ph 3)]) _ _ _ H _ ls 116 hf hP hD hS dX3_sharesFrom_116
  have B_85 : ∀ (ph : Nat → Nat) (v7 : Int32) (z3 : RideT) (z4 : RideT) (H : Heap) (locs : List Loc) (ls : Array Slot), f_X3_sharesFrom_d1_b85 od q4 rd1 pl v7 z3 z4 = some (rv, u3, u4) → va_P D vwCl (w_Odds dA oa (qa 0) od ++ (w_Rides4 dA qa g0 (a1 0) (a2 0) (a3 0) q4 ++ (w_Ride dA a1 (pa 0) (pa 1) rd1 ++ (w_Ride dA a2 (ph 0) (ph 1) z3 ++ (w_Ride dA a3 (ph 2) (ph 3) z4 ++ (w_Plan dA pa pl)))))) H → va_D A (w_Odds dA oa (qa 0) od ++ (w_Rides4 dA qa g0 (a1 0) (a2 0) (a3 0) q4 ++ (w_Ride dA a1 (pa 0) (pa 1) rd1 ++ (w_Ride dA a2 (ph 0) (ph 1) z3 ++ (w_Ride dA a3 (ph 2) (ph 3) z4 ++ (w_Plan dA pa pl)))))) → va_S A s.heap H locs → lv_has ls 12 [(0, .ref (oa 0)), (1, .int (1 : Int32)), (7, .int v7)] → W p l e ({ frames := 6, cells := 0, slots := 0, locals := 166 } : Room) s m ([.ref (oa 0), .int (1 : Int32), .int x1, .int x2] : List Value).toArray below meth c H locs 0 0 Q (F0 m 85 ls []) := by
    intro ph v7 z3 z4 H locs ls hf hP hD hS hl
    rw [f_X3_sharesFrom_d1_b85] at hf
    refine lv_iconst (v := (0 : Int32)) hx hb dX3_sharesFrom_85 (by decide) ?_
    exact B_86 (kb_ph [(ph 0), (ph 1), (ph 2), (ph 3)]) _ _ _ _ _ _ _ hf hP hD hS (lv_sub hl [0, 1, 2] rfl)
  have E0 : ∀ (H : Heap) (locs : List Loc), va_P D vwCl (w_Odds dA oa (qa 0) od ++ (w_Rides4 dA qa g0 (a1 0) (a2 0) (a3 0) q4 ++ (w_Ride dA a1 (pa 0) (pa 1) rd1 ++ (w_Ride dA a2 (ph 0) (ph 1) rd2 ++ (w_Ride dA a3 (ph 2) (ph 3) rd3 ++ (w_Plan dA pa pl)))))) H → va_D A (w_Odds dA oa (qa 0) od ++ (w_Rides4 dA qa g0 (a1 0) (a2 0) (a3 0) q4 ++ (w_Ride dA a1 (pa 0) (pa 1) rd1 ++ (w_Ride dA a2 (ph 0) (ph 1) rd2 ++ (w_Ride dA a3 (ph 2) (ph 3) rd3 ++ (w_Plan dA pa pl)))))) → va_S A s.heap H locs → W p l e ({ frames := 6, cells := 0, slots := 0, locals := 166 } : Room) s m ([.ref (oa 0), .int (1 : Int32), .int x1, .int x2] : List Value).toArray below meth c H locs 0 0 Q (F0 m 0 ls []) := by
    intro H locs hP hD hS
    rw [f_X3_sharesFrom_d1] at hf
    refine lv_iload_n hx hb dX3_sharesFrom_0 rfl (lv_at hl 1 rfl) ?_
    refine lv_aload_n hx hb dX3_sharesFrom_1 rfl (lv_at hl 0 rfl) ?_
    refine va_get (D := D) (ci := 3) (v := .int (od_count od)) (C := RX3) (T := TX3) (N := 3) hx hb hts kb_inX3 hown hK.1 hP 0 rfl rfl 2 (by decide) (hK.2.w ww_2_119 rfl _) (fun _ h9 => h9) rfl dX3_sharesFrom_2 ?_
    refine lv_icmp_ge (tgt := 17) hx hb dX3_sharesFrom_5 (by decide) (fun c_1 => ?_) (fun c_1 => ?_)
    · rw [if_pos c_1] at hf
      refine lv_lconst (v := (0 : Int64)) hx hb dX3_sharesFrom_17 (by decide) ?_
      exact RET (kb_ph [(ph 0), (ph 1), (ph 2), (ph 3)]) _ _ _ H _ ls 18 hf hP hD hS dX3_sharesFrom_18
    · rw [if_neg c_1] at hf
      refine lv_iload_n hx hb dX3_sharesFrom_8 rfl (lv_at hl 1 rfl) ?_
      refine lv_aload_n hx hb dX3_sharesFrom_9 rfl (lv_at hl 0 rfl) ?_
      refine va_get (D := D) (ci := 3) (v := .ref (qa 0)) (C := RX3) (T := TX3) (N := 3) hx hb hts kb_inX3 hown hK.1 hP 0 rfl rfl 0 (by decide) (hK.2.w ww_2_117 rfl _) (fun _ h9 => h9) rfl dX3_sharesFrom_10 ?_
      refine va_alen (D := D) (v := (4 : Int32)) hx hb hK.1 hP 2 4 rfl rfl rfl dX3_sharesFrom_13 ?_
      refine lv_icmp_lt (tgt := 19) hx hb dX3_sharesFrom_14 (by decide) (fun _ => ?_) (fun c_1 => absurd (by decide) c_1)
      refine lv_aload_n hx hb dX3_sharesFrom_19 rfl (lv_at hl 0 rfl) ?_
      refine va_get (D := D) (ci := 3) (v := .ref (qa 0)) (C := RX3) (T := TX3) (N := 3) hx hb hts kb_inX3 hown hK.1 hP 0 rfl rfl 0 (by decide) (hK.2.w ww_2_117 rfl _) (fun _ h9 => h9) rfl dX3_sharesFrom_20 ?_
      refine lv_iload_n hx hb dX3_sharesFrom_23 rfl (lv_at hl 1 rfl) ?_
      refine va_aldq (D := D) hx hb hK.1 hP 2 4 rfl rfl (pk_in 1 4 (by decide)) dX3_sharesFrom_24 ?_
      show W p l e ({ frames := 6, cells := 0, slots := 0, locals := 166 } : Room) s m ([.ref (oa 0), .int (1 : Int32), .int x1, .int x2] : List Value).toArray below meth c _ _ 0 0 Q (F0 m 25 _ [.ref (a1 0)])
      refine lv_astore (lv' := [(4, .ref (a1 0)), (0, .ref (oa 0)), (1, .int (1 : Int32)), (2, .int x1), (3, .int x2)]) hx hb dX3_sharesFrom_25 hl (by decide) rfl (fun ls hl => ?_)
      refine lv_aload_n hx hb dX3_sharesFrom_27 rfl (lv_at hl 1 rfl) ?_
      refine va_get (D := D) (ci := 3) (v := .ref (oa 1)) (C := RX3) (T := TX3) (N := 3) hx hb hts kb_inX3 hown hK.1 hP 0 rfl rfl 1 (by decide) (hK.2.w ww_2_118 rfl _) (fun _ h9 => h9) rfl dX3_sharesFrom_28 ?_
      refine lv_iload_n hx hb dX3_sharesFrom_31 rfl (lv_at hl 2 rfl) ?_
      obtain ⟨h_2, hf⟩ := kb_if hf
      refine va_iald (D := D) hx hb hK.1 hP 1 0 rfl rfl h_2 dX3_sharesFrom_32 ?_
      refine lv_istore (lv' := [(5, .int ((od_boarding od) ((1 : Int32)).toNatClampNeg)), (4, .ref (a1 0)), (0, .ref (oa 0)), (1, .int (1 : Int32)), (2, .int x1), (3, .int x2)]) hx hb dX3_sharesFrom_33 hl (by decide) rfl (fun ls hl => ?_)
      refine lv_aload hx hb dX3_sharesFrom_35 (lv_at hl 1 rfl) ?_
      refine lv_iload hx hb dX3_sharesFrom_37 (lv_at hl 0 rfl) ?_
      refine lv_aload hx hb dX3_sharesFrom_39 (lv_at hl 1 rfl) ?_
      refine lv_iload hx hb dX3_sharesFrom_41 (lv_at hl 0 rfl) ?_
      obtain ⟨r3, hc3, hf⟩ := kb_bind hf
      refine kc_ci (ws2 := (w_Odds dA oa (qa 0) od ++ (w_Rides4 dA qa g0 (a1 0) (a2 0) (a3 0) q4 ++ (w_Ride dA a1 (pa 0) (pa 1) rd1 ++ (w_Ride dA a2 (ph 0) (ph 1) rd2 ++ (w_Ride dA a3 (ph 2) (ph 3) rd3 ++ (w_Plan dA pa pl))))))) (kc_rV (n := 1) (As := [.int ((od_boarding od) ((1 : Int32)).toNatClampNeg)]) (rest := [.int ((od_boarding od) ((1 : Int32)).toNatClampNeg), .ref (a1 0)]) hx hb hml hown hK (c_X6_bestSeats l D dA H.size a1 pa rd1 pl ((od_boarding od) ((1 : Int32)).toNatClampNeg) r3 hc3) ⟨ww_4_18, ww_4_188, ww_4_16, ww_4_17, ww_1_8, rfl, by decide, by decide⟩ rfl rfl (by decide +kernel) ⟨Nat.le_of_ble_eq_true rfl, Nat.le_of_ble_eq_true rfl⟩ hP hD hS hA hE (kc_sel [w_Odds dA oa (qa 0) od, w_Rides4 dA qa g0 (a1 0) (a2 0) (a3 0) q4, w_Ride dA a1 (pa 0) (pa 1) rd1, w_Ride dA a2 (ph 0) (ph 1) rd2, w_Ride dA a3 (ph 2) (ph 3) rd3, w_Plan dA pa pl] 6 [0, 1, 3, 4] [2, 5] rfl (by decide)) 0 rfl rfl rfl hl.1 rfl (Nat.le_of_ble_eq_true rfl) dX3_sharesFrom_43 ⟨Nat.le_of_ble_eq_true rfl, Nat.le_of_ble_eq_true rfl⟩) hP hD hS hA (kc_sel [w_Odds dA oa (qa 0) od, w_Rides4 dA qa g0 (a1 0) (a2 0) (a3 0) q4, w_Ride dA a1 (pa 0) (pa 1) rd1, w_Ride dA a2 (ph 0) (ph 1) rd2, w_Ride dA a3 (ph 2) (ph 3) rd3, w_Plan dA pa pl] 6 [0, 1, 3, 4] [2, 5] rfl (by decide)) (kc_sel [w_Odds dA oa (qa 0) od, w_Rides4 dA qa g0 (a1 0) (a2 0) (a3 0) q4, w_Ride dA a1 (pa 0) (pa 1) rd1, w_Ride dA a2 (ph 0) (ph 1) rd2, w_Ride dA a3 (ph 2) (ph 3) rd3, w_Plan dA pa pl] 6 [0, 1, 3, 4] [2, 5] rfl (by decide)).symm (fun H locs hP hD hS => ?_)
      obtain ⟨r4, hc4, hf⟩ := kb_bind hf
      refine kc_ci (ws2 := (w_Odds dA oa (qa 0) od ++ (w_Rides4 dA qa g0 (a1 0) (a2 0) (a3 0) q4 ++ (w_Ride dA a1 (pa 0) (pa 1) rd1 ++ (w_Ride dA a2 (ph 0) (ph 1) rd2 ++ (w_Ride dA a3 (ph 2) (ph 3) rd3 ++ (w_Plan dA pa pl))))))) (kc_rV (n := 2) (As := [.int ((od_boarding od) ((1 : Int32)).toNatClampNeg), .int r3]) (rest := []) hx hb hml hown hK (c_X6_tied l D dA H.size a1 pa rd1 pl ((od_boarding od) ((1 : Int32)).toNatClampNeg) r3 r4 hc4) ⟨ww_4_163, ww_4_189, ww_4_161, ww_4_162, ww_1_8, rfl, by decide, by decide⟩ rfl rfl (by decide +kernel) ⟨Nat.le_of_ble_eq_true rfl, Nat.le_of_ble_eq_true rfl⟩ hP hD hS hA hE (kc_sel [w_Odds dA oa (qa 0) od, w_Rides4 dA qa g0 (a1 0) (a2 0) (a3 0) q4, w_Ride dA a1 (pa 0) (pa 1) rd1, w_Ride dA a2 (ph 0) (ph 1) rd2, w_Ride dA a3 (ph 2) (ph 3) rd3, w_Plan dA pa pl] 6 [0, 1, 3, 4] [2, 5] rfl (by decide)) 0 rfl rfl rfl hl.1 rfl (Nat.le_of_ble_eq_true rfl) dX3_sharesFrom_46 ⟨Nat.le_of_ble_eq_true rfl, Nat.le_of_ble_eq_true rfl⟩) hP hD hS hA (kc_sel [w_Odds dA oa (qa 0) od, w_Rides4 dA qa g0 (a1 0) (a2 0) (a3 0) q4, w_Ride dA a1 (pa 0) (pa 1) rd1, w_Ride dA a2 (ph 0) (ph 1) rd2, w_Ride dA a3 (ph 2) (ph 3) rd3, w_Plan dA pa pl] 6 [0, 1, 3, 4] [2, 5] rfl (by decide)) (kc_sel [w_Odds dA oa (qa 0) od, w_Rides4 dA qa g0 (a1 0) (a2 0) (a3 0) q4, w_Ride dA a1 (pa 0) (pa 1) rd1, w_Ride dA a2 (ph 0) (ph 1) rd2, w_Ride dA a3 (ph 2) (ph 3) rd3, w_Plan dA pa pl] 6 [0, 1, 3, 4] [2, 5] rfl (by decide)).symm (fun H locs hP hD hS => ?_)
      obtain ⟨r5, hc5, hf⟩ := kb_bind hf
      refine kc_ci (ws2 := (w_Odds dA oa (qa 0) od ++ (w_Rides4 dA qa g0 (a1 0) (a2 0) (a3 0) q4 ++ (w_Ride dA a1 (pa 0) (pa 1) rd1 ++ (w_Ride dA a2 (ph 0) (ph 1) rd2 ++ (w_Ride dA a3 (ph 2) (ph 3) rd3 ++ (w_Plan dA pa pl))))))) (kc_rS (n := 1) (As := [.int r4]) (rest := []) hx hb hml hown hK (c_X3_firstTies l D dA H.size r4 r5 hc5) ⟨ww_4_192, ww_4_190, ww_4_191, ww_1_10, by decide, by decide⟩ rfl rfl (by decide +kernel) ⟨Nat.le_of_ble_eq_true rfl, Nat.le_of_ble_eq_true rfl⟩ hP hD hS hA hE (kc_sel [w_Odds dA oa (qa 0) od, w_Rides4 dA qa g0 (a1 0) (a2 0) (a3 0) q4, w_Ride dA a1 (pa 0) (pa 1) rd1, w_Ride dA a2 (ph 0) (ph 1) rd2, w_Ride dA a3 (ph 2) (ph 3) rd3, w_Plan dA pa pl] 6 [0, 1, 2, 3, 4, 5] [] rfl (by decide)) rfl hl.1 rfl (Nat.le_of_ble_eq_true rfl) dX3_sharesFrom_49 ⟨Nat.le_of_ble_eq_true rfl, Nat.le_of_ble_eq_true rfl⟩) hP hD hS hA (kc_sel [w_Odds dA oa (qa 0) od, w_Rides4 dA qa g0 (a1 0) (a2 0) (a3 0) q4, w_Ride dA a1 (pa 0) (pa 1) rd1, w_Ride dA a2 (ph 0) (ph 1) rd2, w_Ride dA a3 (ph 2) (ph 3) rd3, w_Plan dA pa pl] 6 [0, 1, 2, 3, 4, 5] [] rfl (by decide)) (kc_sel [w_Odds dA oa (qa 0) od, w_Rides4 dA qa g0 (a1 0) (a2 0) (a3 0) q4, w_Ride dA a1 (pa 0) (pa 1) rd1, w_Ride dA a2 (ph 0) (ph 1) rd2, w_Ride dA a3 (ph 2) (ph 3) rd3, w_Plan dA pa pl] 6 [0, 1, 2, 3, 4, 5] [] rfl (by decide)).symm (fun H locs hP hD hS => ?_)
      refine lv_istore (lv' := [(6, .int r5), (5, .int ((od_boarding od) ((1 : Int32)).toNatClampNeg)), (4, .ref (a1 0)), (0, .ref (oa 0)), (1, .int (1 : Int32)), (2, .int x1), (3, .int x2)]) hx hb dX3_sharesFrom_52 hl (by decide) rfl (fun ls hl => ?_)
      refine lv_iload hx hb dX3_sharesFrom_54 (lv_at hl 0 rfl) ?_
      obtain ⟨r6, hc6, hf⟩ := kb_bind hf
      refine kc_ci (ws2 := (w_Odds dA oa (qa 0) od ++ (w_Rides4 dA qa g0 (a1 0) (a2 0) (a3 0) q4 ++ (w_Ride dA a1 (pa 0) (pa 1) rd1 ++ (w_Ride dA a2 (ph 0) (ph 1) rd2 ++ (w_Ride dA a3 (ph 2) (ph 3) rd3 ++ (w_Plan dA pa pl))))))) (kc_rS (n := 1) (As := [.int r5]) (rest := []) hx hb hml hown hK (c_J6_bitCount_0f7a4 l D dA H.size r5 r6 hc6) ⟨ww_4_166, ww_4_194, ww_4_165, ww_1_20, by decide, by decide⟩ rfl rfl (by decide +kernel) ⟨Nat.le_of_ble_eq_true rfl, Nat.le_of_ble_eq_true rfl⟩ hP hD hS hA hE (kc_sel [w_Odds dA oa (qa 0) od, w_Rides4 dA qa g0 (a1 0) (a2 0) (a3 0) q4, w_Ride dA a1 (pa 0) (pa 1) rd1, w_Ride dA a2 (ph 0) (ph 1) rd2, w_Ride dA a3 (ph 2) (ph 3) rd3, w_Plan dA pa pl] 6 [0, 1, 2, 3, 4, 5] [] rfl (by decide)) rfl hl.1 rfl (Nat.le_of_ble_eq_true rfl) dX3_sharesFrom_56 ⟨Nat.le_of_ble_eq_true rfl, Nat.le_of_ble_eq_true rfl⟩) hP hD hS hA (kc_sel [w_Odds dA oa (qa 0) od, w_Rides4 dA qa g0 (a1 0) (a2 0) (a3 0) q4, w_Ride dA a1 (pa 0) (pa 1) rd1, w_Ride dA a2 (ph 0) (ph 1) rd2, w_Ride dA a3 (ph 2) (ph 3) rd3, w_Plan dA pa pl] 6 [0, 1, 2, 3, 4, 5] [] rfl (by decide)) (kc_sel [w_Odds dA oa (qa 0) od, w_Rides4 dA qa g0 (a1 0) (a2 0) (a3 0) q4, w_Ride dA a1 (pa 0) (pa 1) rd1, w_Ride dA a2 (ph 0) (ph 1) rd2, w_Ride dA a3 (ph 2) (ph 3) rd3, w_Plan dA pa pl] 6 [0, 1, 2, 3, 4, 5] [] rfl (by decide)).symm (fun H locs hP hD hS => ?_)
      refine lv_istore (lv' := [(7, .int r6), (6, .int r5), (5, .int ((od_boarding od) ((1 : Int32)).toNatClampNeg)), (4, .ref (a1 0)), (0, .ref (oa 0)), (1, .int (1 : Int32)), (2, .int x1), (3, .int x2)]) hx hb dX3_sharesFrom_59 hl (by decide) rfl (fun ls hl => ?_)
      refine lv_iload hx hb dX3_sharesFrom_61 (lv_at hl 2 rfl) ?_
      refine lv_iload_n hx hb dX3_sharesFrom_63 rfl (lv_at hl 6 rfl) ?_
      refine lv_icmp_ne (tgt := 117) hx hb dX3_sharesFrom_64 (by decide) (fun c_7 => ?_) (fun c_7 => ?_)
      · rw [if_neg c_7] at hf
        refine lv_iload_n hx hb dX3_sharesFrom_117 rfl (lv_at hl 5 rfl) ?_
        refine lv_iconst (v := (1 : Int32)) hx hb dX3_sharesFrom_118 (by decide) ?_
        refine lv_iadd hx hb dX3_sharesFrom_119 ?_
        show W p l e ({ frames := 6, cells := 0, slots := 0, locals := 166 } : Room) s m ([.ref (oa 0), .int (1 : Int32), .int x1, .int x2] : List Value).toArray below meth c _ _ 0 0 Q (F0 m 120 _ [.int (2 : Int32)])
        refine lv_aload_n hx hb dX3_sharesFrom_120 rfl (lv_at hl 4 rfl) ?_
        refine va_get (D := D) (ci := 3) (v := .ref (qa 0)) (C := RX3) (T := TX3) (N := 3) hx hb hts kb_inX3 hown hK.1 hP 0 rfl rfl 0 (by decide) (hK.2.w ww_2_117 rfl _) (fun _ h9 => h9) rfl dX3_sharesFrom_121 ?_
        refine va_alen (D := D) (v := (4 : Int32)) hx hb hK.1 hP 2 4 rfl rfl rfl dX3_sharesFrom_124 ?_
        refine lv_icmp_lt (tgt := 130) hx hb dX3_sharesFrom_125 (by decide) (fun _ => ?_) (fun c_1 => absurd (by decide) c_1)
        refine lv_aload_n hx hb dX3_sharesFrom_130 rfl (lv_at hl 4 rfl) ?_
        refine va_get (D := D) (ci := 3) (v := .ref (qa 0)) (C := RX3) (T := TX3) (N := 3) hx hb hts kb_inX3 hown hK.1 hP 0 rfl rfl 0 (by decide) (hK.2.w ww_2_117 rfl _) (fun _ h9 => h9) rfl dX3_sharesFrom_131 ?_
        refine lv_iload_n hx hb dX3_sharesFrom_134 rfl (lv_at hl 5 rfl) ?_
        refine lv_iconst (v := (1 : Int32)) hx hb dX3_sharesFrom_135 (by decide) ?_
        refine lv_iadd hx hb dX3_sharesFrom_136 ?_
        show W p l e ({ frames := 6, cells := 0, slots := 0, locals := 166 } : Room) s m ([.ref (oa 0), .int (1 : Int32), .int x1, .int x2] : List Value).toArray below meth c _ _ 0 0 Q (F0 m 137 _ [.int (2 : Int32), .ref (qa 0)])
        refine va_aldq (D := D) hx hb hK.1 hP 2 4 rfl rfl (pk_in 2 4 (by decide)) dX3_sharesFrom_137 ?_
        show W p l e ({ frames := 6, cells := 0, slots := 0, locals := 166 } : Room) s m ([.ref (oa 0), .int (1 : Int32), .int x1, .int x2] : List Value).toArray below meth c _ _ 0 0 Q (F0 m 138 _ [.ref (a2 0)])
        refine lv_astore (lv' := [(8, .ref (a2 0)), (7, .int r6), (6, .int r5), (5, .int ((od_boarding od) ((1 : Int32)).toNatClampNeg)), (4, .ref (a1 0)), (0, .ref (oa 0)), (1, .int (1 : Int32)), (2, .int x1), (3, .int x2)]) hx hb dX3_sharesFrom_138 hl (by decide) rfl (fun ls hl => ?_)
        refine lv_iload hx hb dX3_sharesFrom_140 (lv_at hl 1 rfl) ?_
        refine lv_if_ne (tgt := 166) hx hb dX3_sharesFrom_142 (by decide) (fun c_8 => ?_) (fun c_8 => ?_)
        · rw [if_neg c_8] at hf
          refine lv_lconst (v := (0 : Int64)) hx hb dX3_sharesFrom_166 (by decide) ?_
          refine lv_lstore (lv' := [(9, .long (0 : Int64)), (8, .ref (a2 0)), (7, .int r6), (6, .int r5), (5, .int ((od_boarding od) ((1 : Int32)).toNatClampNeg)), (4, .ref (a1 0)), (0, .ref (oa 0)), (1, .int (1 : Int32)), (2, .int x1), (3, .int x2)]) hx hb dX3_sharesFrom_167 hl (by decide) rfl (fun ls hl => ?_)
          refine lv_iconst (v := (0 : Int32)) hx hb dX3_sharesFrom_169 (by decide) ?_
          refine lv_istore (lv' := [(11, .int (0 : Int32)), (9, .long (0 : Int64)), (8, .ref (a2 0)), (7, .int r6), (6, .int r5), (5, .int ((od_boarding od) ((1 : Int32)).toNatClampNeg)), (4, .ref (a1 0)), (0, .ref (oa 0)), (1, .int (1 : Int32)), (2, .int x1), (3, .int x2)]) hx hb dX3_sharesFrom_170 hl (by decide) rfl (fun ls hl => ?_)
          exact B_172 4096 (kb_ph [(ph 0), (ph 1), (ph 2), (ph 3)]) _ _ _ _ _ _ _ _ _ _ _ _ hf hP hD hS (lv_sub hl [7, 8, 9, 10, 6, 5, 4, 3, 2, 1, 0] rfl)
        · rw [if_pos c_8] at hf
          refine lv_aload hx hb dX3_sharesFrom_145 (lv_at hl 0 rfl) ?_
          refine lv_aload hx hb dX3_sharesFrom_147 (lv_at hl 4 rfl) ?_
          obtain ⟨r16, hc16, hf⟩ := kb_bind hf
          refine kc_cv (ws2 := (w_Odds dA oa (qa 0) od ++ (w_Rides4 dA qa g0 (a1 0) (a2 0) (a3 0) q4 ++ (w_Ride dA a1 (pa 0) (pa 1) rd1 ++ (w_Ride dA a2 (pa 0) (pa 1) r16 ++ (w_Ride dA a3 (ph 2) (ph 3) rd3 ++ (w_Plan dA pa pl))))))) (kc_rV (n := 1) (As := [.ref (a1 0)]) (rest := []) hx hb hml hown hK (c_X6_copyFrom l D dA H.size a2 a1 (ph 0) (ph 1) (pa 0) (pa 1) rd2 rd1 r16 hc16) ⟨ww_4_133, ww_4_182, ww_4_131, ww_4_132, ww_1_8, rfl, by decide, by decide⟩ rfl rfl (by decide +kernel) ⟨Nat.le_of_ble_eq_true rfl, Nat.le_of_ble_eq_true rfl⟩ hP hD hS hA hE (kc_sel [w_Odds dA oa (qa 0) od, w_Rides4 dA qa g0 (a1 0) (a2 0) (a3 0) q4, w_Ride dA a1 (pa 0) (pa 1) rd1, w_Ride dA a2 (ph 0) (ph 1) rd2, w_Ride dA a3 (ph 2) (ph 3) rd3, w_Plan dA pa pl] 6 [0, 1, 4, 5] [3, 2] rfl (by decide)) 0 rfl rfl rfl hl.1 rfl (Nat.le_of_ble_eq_true rfl) dX3_sharesFrom_149 ⟨Nat.le_of_ble_eq_true rfl, Nat.le_of_ble_eq_true rfl⟩) hP hD hS hA (kc_sel [w_Odds dA oa (qa 0) od, w_Rides4 dA qa g0 (a1 0) (a2 0) (a3 0) q4, w_Ride dA a1 (pa 0) (pa 1) rd1, w_Ride dA a2 (ph 0) (ph 1) rd2, w_Ride dA a3 (ph 2) (ph 3) rd3, w_Plan dA pa pl] 6 [0, 1, 4, 5] [3, 2] rfl (by decide)) (kc_sel [w_Odds dA oa (qa 0) od, w_Rides4 dA qa g0 (a1 0) (a2 0) (a3 0) q4, w_Ride dA a1 (pa 0) (pa 1) rd1, w_Ride dA a2 (pa 0) (pa 1) r16, w_Ride dA a3 (ph 2) (ph 3) rd3, w_Plan dA pa pl] 6 [0, 1, 4, 5] [3, 2] rfl (by decide)).symm (fun H locs hP hD hS => ?_)
          exact B_152 (kb_ph [(pa 0), (pa 1), (ph 2), (ph 3)]) _ _ _ _ _ _ _ hf hP hD hS (lv_sub hl [5, 6, 7, 8] rfl)
      · rw [if_pos c_7] at hf
        refine lv_iload hx hb dX3_sharesFrom_67 (lv_at hl 0 rfl) ?_
        refine lv_if_le (tgt := 85) hx hb dX3_sharesFrom_69 (by decide) (fun c_18 => ?_) (fun c_18 => ?_)
        · rw [if_pos c_18] at hf
          exact B_85 (kb_ph [(ph 0), (ph 1), (ph 2), (ph 3)]) _ _ _ _ _ _ hf hP hD hS (lv_sub hl [4, 5, 0] rfl)
        · rw [if_neg c_18] at hf
          refine lv_iload hx hb dX3_sharesFrom_72 (lv_at hl 1 rfl) ?_
          refine lv_iload_n hx hb dX3_sharesFrom_74 rfl (lv_at hl 7 rfl) ?_
          obtain ⟨r22, hc22, hf⟩ := kb_bind hf
          refine kc_ci (ws2 := (w_Odds dA oa (qa 0) od ++ (w_Rides4 dA qa g0 (a1 0) (a2 0) (a3 0) q4 ++ (w_Ride dA a1 (pa 0) (pa 1) rd1 ++ (w_Ride dA a2 (ph 0) (ph 1) rd2 ++ (w_Ride dA a3 (ph 2) (ph 3) rd3 ++ (w_Plan dA pa pl))))))) (kc_rSN (n := 2) (As := [.int r5, .int x2]) (rest := []) hx hb hml hown hK (c_X10_holdsBit l D dA H.size r5 x2 r22 hc22) ⟨ww_3_158, ww_4_193, ww_3_157, ww_1_1, by decide, by decide⟩ rfl rfl (by decide +kernel) ⟨Nat.le_of_ble_eq_true rfl, Nat.le_of_ble_eq_true rfl⟩ hP hD hS hA hE (kc_sel [w_Odds dA oa (qa 0) od, w_Rides4 dA qa g0 (a1 0) (a2 0) (a3 0) q4, w_Ride dA a1 (pa 0) (pa 1) rd1, w_Ride dA a2 (ph 0) (ph 1) rd2, w_Ride dA a3 (ph 2) (ph 3) rd3, w_Plan dA pa pl] 6 [0, 1, 2, 3, 4, 5] [] rfl (by decide)) rfl hl.1 rfl (Nat.le_of_ble_eq_true rfl) dX3_sharesFrom_75 ⟨Nat.le_of_ble_eq_true rfl, Nat.le_of_ble_eq_true rfl⟩) hP hD hS hA (kc_sel [w_Odds dA oa (qa 0) od, w_Rides4 dA qa g0 (a1 0) (a2 0) (a3 0) q4, w_Ride dA a1 (pa 0) (pa 1) rd1, w_Ride dA a2 (ph 0) (ph 1) rd2, w_Ride dA a3 (ph 2) (ph 3) rd3, w_Plan dA pa pl] 6 [0, 1, 2, 3, 4, 5] [] rfl (by decide)) (kc_sel [w_Odds dA oa (qa 0) od, w_Rides4 dA qa g0 (a1 0) (a2 0) (a3 0) q4, w_Ride dA a1 (pa 0) (pa 1) rd1, w_Ride dA a2 (ph 0) (ph 1) rd2, w_Ride dA a3 (ph 2) (ph 3) rd3, w_Plan dA pa pl] 6 [0, 1, 2, 3, 4, 5] [] rfl (by decide)).symm (fun H locs hP hD hS => ?_)
          refine lv_if_eq (tgt := 85) hx hb dX3_sharesFrom_78 (by decide) (fun c_23 => ?_) (fun c_23 => ?_)
          · rw [if_pos c_23] at hf
            exact B_85 (kb_ph [(ph 0), (ph 1), (ph 2), (ph 3)]) _ _ _ _ _ _ hf hP hD hS (lv_sub hl [4, 5, 0] rfl)
          · rw [if_neg c_23] at hf
            refine lv_iconst (v := (1 : Int32)) hx hb dX3_sharesFrom_81 (by decide) ?_
            refine lv_goto (tgt := 86) hx hb dX3_sharesFrom_82 (by decide) ?_
            exact B_86 (kb_ph [(ph 0), (ph 1), (ph 2), (ph 3)]) _ _ _ _ _ _ _ hf hP hD hS (lv_sub hl [4, 5, 0] rfl)
  exact E0 _ _ hP hD hS

noncomputable def f_X3_sharesFrom_d0_b219 (od : OddsT) (q4 : Rides4T) (rd0 : RideT) (pl : PlanT) (k172 : Int32 → Int32 → Int32 → Int32 → Int32 → Int64 → Int32 → RideT → RideT → RideT → Option (Int64 × RideT × RideT × RideT)) (v2 : Int32) (v3 : Int32) (v5 : Int32) (v6 : Int32) (v7 : Int32) (v9 : Int64) (v11 : Int32) (z3 : RideT) (z4 : RideT) (z5 : RideT) : Option (Int64 × RideT × RideT × RideT) := k172 v2 v3 v5 v6 v7 v9 (v11 + (1 : Int32)) z3 z4 z5
noncomputable def f_X3_sharesFrom_d0_b205 (od : OddsT) (q4 : Rides4T) (rd0 : RideT) (pl : PlanT) (k172 : Int32 → Int32 → Int32 → Int32 → Int32 → Int64 → Int32 → RideT → RideT → RideT → Option (Int64 × RideT × RideT × RideT)) (v2 : Int32) (v3 : Int32) (v5 : Int32) (v6 : Int32) (v7 : Int32) (v9 : Int64) (v11 : Int32) (z3 : RideT) (z4 : RideT) (z5 : RideT) : Option (Int64 × RideT × RideT × RideT) := (f_X3_sharesFrom_d1 od q4 z3 z4 z5 pl v2 v3).bind fun r15 => f_X3_sharesFrom_d0_b219 od q4 rd0 pl k172 v2 v3 v5 v6 v7 (v9 + r15.1) v11 z3 r15.2.1 r15.2.2
noncomputable def f_X3_sharesFrom_d0_b196 (od : OddsT) (q4 : Rides4T) (rd0 : RideT) (pl : PlanT) (k172 : Int32 → Int32 → Int32 → Int32 → Int32 → Int64 → Int32 → RideT → RideT → RideT → Option (Int64 × RideT × RideT × RideT)) (v2 : Int32) (v3 : Int32) (v5 : Int32) (v6 : Int32) (v7 : Int32) (v9 : Int64) (v11 : Int32) (z3 : RideT) (z4 : RideT) (z5 : RideT) : Option (Int64 × RideT × RideT × RideT) := (f_X6_sitDown z3 pl v5 v11).bind fun r14 => f_X3_sharesFrom_d0_b205 od q4 rd0 pl k172 v2 v3 v5 v6 v7 v9 v11 r14 z4 z5
noncomputable def f_X3_sharesFrom_d0_b172 (od : OddsT) (q4 : Rides4T) (rd0 : RideT) (pl : PlanT) : Nat → Int32 → Int32 → Int32 → Int32 → Int32 → Int64 → Int32 → RideT → RideT → RideT → Option (Int64 × RideT × RideT × RideT)
  | 0, _, _, _, _, _, _, _, _, _, _ => none
  | n + 1, v2, v3, v5, v6, v7, v9, v11, z3, z4, z5 => (if (20 : Int32) ≤ v11 then if ¬ (v7).toInt64 = 0 then some ((((27720 : Int64) / (v7).toInt64) * v9), z3, z4, z5) else none else (f_X10_holdsBit v6 v11).bind fun r11 => (if r11 = 0 then f_X3_sharesFrom_d0_b172 od q4 rd0 pl n v2 v3 v5 v6 v7 v9 (v11 + (1 : Int32)) z3 z4 z5 else (f_X6_copyFrom z3 rd0).bind fun r13 => f_X3_sharesFrom_d0_b196 od q4 rd0 pl (f_X3_sharesFrom_d0_b172 od q4 rd0 pl n) v2 v3 v5 v6 v7 v9 v11 r13 z4 z5))
noncomputable def f_X3_sharesFrom_d0_b152 (od : OddsT) (q4 : Rides4T) (rd0 : RideT) (pl : PlanT) (v2 : Int32) (v3 : Int32) (z3 : RideT) (z4 : RideT) (z5 : RideT) : Option (Int64 × RideT × RideT × RideT) := (f_X3_sharesFrom_d1 od q4 z3 z4 z5 pl v2 v3).bind fun r17 => some (((27720 : Int64) * r17.1), z3, r17.2.1, r17.2.2)
noncomputable def f_X3_sharesFrom_d0_b86 (od : OddsT) (q4 : Rides4T) (rd0 : RideT) (pl : PlanT) (v7 : Int32) (s0 : Int32) (z3 : RideT) (z4 : RideT) (z5 : RideT) : Option (Int64 × RideT × RideT × RideT) := (if s0 = 0 then some ((0 : Int64), z3, z4, z5) else if ¬ (v7).toInt64 = 0 then (f_X3_sharesOfAll (((od_count od) - (0 : Int32)) - (1 : Int32))).bind fun r21 => some ((((27720 : Int64) / (v7).toInt64) * r21), z3, z4, z5) else none)
noncomputable def f_X3_sharesFrom_d0_b85 (od : OddsT) (q4 : Rides4T) (rd0 : RideT) (pl : PlanT) (v7 : Int32) (z3 : RideT) (z4 : RideT) (z5 : RideT) : Option (Int64 × RideT × RideT × RideT) := f_X3_sharesFrom_d0_b86 od q4 rd0 pl v7 (0 : Int32) z3 z4 z5
noncomputable def f_X3_sharesFrom_d0 (od : OddsT) (q4 : Rides4T) (rd0 : RideT) (rd1 : RideT) (rd2 : RideT) (rd3 : RideT) (pl : PlanT) (x1 : Int32) (x2 : Int32) : Option (Int64 × RideT × RideT × RideT) := (if (od_count od) ≤ (0 : Int32) then some ((0 : Int64), rd1, rd2, rd3) else if kb_in? (0 : Int32) 8 then (f_X6_bestSeats rd0 pl ((od_boarding od) ((0 : Int32)).toNatClampNeg)).bind fun r3 => (f_X6_tied rd0 pl ((od_boarding od) ((0 : Int32)).toNatClampNeg) r3).bind fun r4 => (f_X3_firstTies r4).bind fun r5 => (f_J6_bitCount_0f7a4 r5).bind fun r6 => (if ((od_boarding od) ((0 : Int32)).toNatClampNeg) = x1 then (if r6 ≤ 0 then f_X3_sharesFrom_d0_b85 od q4 rd0 pl r6 rd1 rd2 rd3 else (f_X10_holdsBit r5 x2).bind fun r22 => (if r22 = 0 then f_X3_sharesFrom_d0_b85 od q4 rd0 pl r6 rd1 rd2 rd3 else f_X3_sharesFrom_d0_b86 od q4 rd0 pl r6 (1 : Int32) rd1 rd2 rd3)) else (if r6 = 0 then (f_X6_copyFrom rd1 rd0).bind fun r16 => f_X3_sharesFrom_d0_b152 od q4 rd0 pl x1 x2 r16 rd2 rd3 else f_X3_sharesFrom_d0_b172 od q4 rd0 pl 4096 x1 x2 ((od_boarding od) ((0 : Int32)).toNatClampNeg) r5 r6 (0 : Int64) (0 : Int32) rd1 rd2 rd3)) else none)
set_option maxHeartbeats 4000000 in
set_option maxRecDepth 100000 in
theorem c_X3_sharesFrom_d0 (l : Launch) (D : va_G) (dA : Nat → ClassId) (sz : Nat) (oa : Nat → Nat) (qa : Nat → Nat) (a0 : Nat → Nat) (a1 : Nat → Nat) (a2 : Nat → Nat) (a3 : Nat → Nat) (pa : Nat → Nat) (ph : Nat → Nat) (od : OddsT) (q4 : Rides4T) (rd0 : RideT) (rd1 : RideT) (rd2 : RideT) (rd3 : RideT) (pl : PlanT) (x1 : Int32) (x2 : Int32) (rv : Int64) (u3 : RideT) (u4 : RideT) (u5 : RideT) (hf : f_X3_sharesFrom_d0 od q4 rd0 rd1 rd2 rd3 pl x1 x2 = some (rv, u3, u4, u5)) : kb_FMl l yX3_sharesFrom cX3_sharesFrom 12 (some .long) ({ frames := 7, cells := 0, slots := 0, locals := 197 } : Room) D dA [.ref (oa 0), .int (0 : Int32), .int x1, .int x2] sz (w_Odds dA oa (qa 0) od ++ (w_Rides4 dA qa (a0 0) (a1 0) (a2 0) (a3 0) q4 ++ (w_Ride dA a0 (pa 0) (pa 1) rd0 ++ (w_Ride dA a1 (ph 0) (ph 1) rd1 ++ (w_Ride dA a2 (ph 2) (ph 3) rd2 ++ (w_Ride dA a3 (ph 4) (ph 5) rd3 ++ (w_Plan dA pa pl))))))) 0 0 rv (fun (ph2 : Nat → Nat) => (w_Odds dA oa (qa 0) od ++ (w_Rides4 dA qa (a0 0) (a1 0) (a2 0) (a3 0) q4 ++ (w_Ride dA a0 (pa 0) (pa 1) rd0 ++ (w_Ride dA a1 (ph2 0) (ph2 1) u3 ++ (w_Ride dA a2 (ph2 2) (ph2 3) u4 ++ (w_Ride dA a3 (ph2 4) (ph2 5) u5 ++ (w_Plan dA pa pl)))))))) := by
  refine Met.ofW (cc := cX3_sharesFrom) (maxL := 12) (ret := (some .long)) (by decide) rfl ?_
  intro p e s m args below meth c s₁ B hml hv
  obtain ⟨rfl, hsz, hP, hK, hD0, hE⟩ := hv
  have hx := B.exec
  have hb := B.bytes
  have hr := B.returns
  have hown : s.vm.findClass RX3 = some m.cls := findClass_of_methodNamed B.named
  have hlocks := B.notSynchronized
  have hts : ∀ w ∈ kb_gw, w.before ([.ref (oa 0), .int (0 : Int32), .int x1, .int x2] : List Value).toArray s = true := fun w hw => hK.2.1 w hw _
  subst hsz
  have hD := hD0.self (sz := s.heap.size)
  generalize hAe : va_A (w_Odds dA oa (qa 0) od ++ (w_Rides4 dA qa (a0 0) (a1 0) (a2 0) (a3 0) q4 ++ (w_Ride dA a0 (pa 0) (pa 1) rd0 ++ (w_Ride dA a1 (ph 0) (ph 1) rd1 ++ (w_Ride dA a2 (ph 2) (ph 3) rd2 ++ (w_Ride dA a3 (ph 4) (ph 5) rd3 ++ (w_Plan dA pa pl))))))) s.heap.size = A at hD hE ⊢
  have hA : ∀ q : Nat, s.heap.size ≤ q → A q := fun q h => by rw [← hAe]; exact Or.inr h
  have hS : va_S A s.heap s.heap [] := va_S.rf
  have hl := lv_entry ([.ref (oa 0), .int (0 : Int32), .int x1, .int x2]) (n := 12) (Nat.le_of_ble_eq_true rfl)
  rw [lg_entry_eq]
  generalize (lg_sl ([.ref (oa 0), .int (0 : Int32), .int x1, .int x2]) ++ List.replicate (12 - (lg_sl ([.ref (oa 0), .int (0 : Int32), .int x1, .int x2])).length) Slot.unset).toArray = ls at hl ⊢
  have hl : lv_has ls 12 [(0, .ref (oa 0)), (1, .int (0 : Int32)), (2, .int x1), (3, .int x2)] := hl
  generalize hQ : MQ below (va_Ql (fun r (_ : Nat → Nat) => r = rv) (fun ph2 => kb_B D A (w_Odds dA oa (qa 0) od ++ (w_Rides4 dA qa (a0 0) (a1 0) (a2 0) (a3 0) q4 ++ (w_Ride dA a0 (pa 0) (pa 1) rd0 ++ (w_Ride dA a1 (ph2 0) (ph2 1) u3 ++ (w_Ride dA a2 (ph2 2) (ph2 3) u4 ++ (w_Ride dA a3 (ph2 4) (ph2 5) u5 ++ (w_Plan dA pa pl))))))) ()) A) ([.ref (oa 0), .int (0 : Int32), .int x1, .int x2] : List Value).toArray s 0 0 A = Q
  show W p l e ({ frames := 7, cells := 0, slots := 0, locals := 197 } : Room) s m ([.ref (oa 0), .int (0 : Int32), .int x1, .int x2] : List Value).toArray below meth c s.heap [] 0 0 Q (F0 m 0 ls [])
  have RET : ∀ (ph2 : Nat → Nat) (r2 : Int64) (w3 : RideT) (w4 : RideT) (w5 : RideT) (H : Heap) (locs : List Loc) (ls : Array Slot) (pc : Nat), some (r2, w3, w4, w5) = some (rv, u3, u4, u5) → va_P D vwCl (w_Odds dA oa (qa 0) od ++ (w_Rides4 dA qa (a0 0) (a1 0) (a2 0) (a3 0) q4 ++ (w_Ride dA a0 (pa 0) (pa 1) rd0 ++ (w_Ride dA a1 (ph2 0) (ph2 1) w3 ++ (w_Ride dA a2 (ph2 2) (ph2 3) w4 ++ (w_Ride dA a3 (ph2 4) (ph2 5) w5 ++ (w_Plan dA pa pl))))))) H → va_D A (w_Odds dA oa (qa 0) od ++ (w_Rides4 dA qa (a0 0) (a1 0) (a2 0) (a3 0) q4 ++ (w_Ride dA a0 (pa 0) (pa 1) rd0 ++ (w_Ride dA a1 (ph2 0) (ph2 1) w3 ++ (w_Ride dA a2 (ph2 2) (ph2 3) w4 ++ (w_Ride dA a3 (ph2 4) (ph2 5) w5 ++ (w_Plan dA pa pl))))))) → va_S A s.heap H locs → decode cX3_sharesFrom pc = .ok (.lreturn, 1) → W p l e ({ frames := 7, cells := 0, slots := 0, locals := 197 } : Room) s m ([.ref (oa 0), .int (0 : Int32), .int x1, .int x2] : List Value).toArray below meth c H locs 0 0 Q (F0 m pc ls [.long r2]) := by
    intro ph2 r2 w3 w4 w5 H locs ls pc hq hP hD hS hd
    cases hq
    rw [← hQ]
    exact W.lret hx hb hr (fun t ht hW => ⟨⟨_, ph2, rfl, rfl, by rw [ht]; exact hP, hD⟩, hS.F ht⟩) hS.2.2 hd
  have B_219 : ∀ (k172 : Int32 → Int32 → Int32 → Int32 → Int32 → Int64 → Int32 → RideT → RideT → RideT → Option (Int64 × RideT × RideT × RideT)) (hk172 : ∀ (ph : Nat → Nat) (v2 : Int32) (v3 : Int32) (v5 : Int32) (v6 : Int32) (v7 : Int32) (v9 : Int64) (v11 : Int32) (z3 : RideT) (z4 : RideT) (z5 : RideT) (H : Heap) (locs : List Loc) (ls : Array Slot), k172 v2 v3 v5 v6 v7 v9 v11 z3 z4 z5 = some (rv, u3, u4, u5) → va_P D vwCl (w_Odds dA oa (qa 0) od ++ (w_Rides4 dA qa (a0 0) (a1 0) (a2 0) (a3 0) q4 ++ (w_Ride dA a0 (pa 0) (pa 1) rd0 ++ (w_Ride dA a1 (ph 0) (ph 1) z3 ++ (w_Ride dA a2 (ph 2) (ph 3) z4 ++ (w_Ride dA a3 (ph 4) (ph 5) z5 ++ (w_Plan dA pa pl))))))) H → va_D A (w_Odds dA oa (qa 0) od ++ (w_Rides4 dA qa (a0 0) (a1 0) (a2 0) (a3 0) q4 ++ (w_Ride dA a0 (pa 0) (pa 1) rd0 ++ (w_Ride dA a1 (ph 0) (ph 1) z3 ++ (w_Ride dA a2 (ph 2) (ph 3) z4 ++ (w_Ride dA a3 (ph 4) (ph 5) z5 ++ (w_Plan dA pa pl))))))) → va_S A s.heap H locs → lv_has ls 12 [(0, .ref (oa 0)), (1, .int (0 : Int32)), (2, .int v2), (3, .int v3), (4, .ref (a0 0)), (5, .int v5), (6, .int v6), (7, .int v7), (8, .ref (a1 0)), (9, .long v9), (11, .int v11)] → W p l e ({ frames := 7, cells := 0, slots := 0, locals := 197 } : Room) s m ([.ref (oa 0), .int (0 : Int32), .int x1, .int x2] : List Value).toArray below meth c H locs 0 0 Q (F0 m 172 ls [])) (ph : Nat → Nat) (v2 : Int32) (v3 : Int32) (v5 : Int32) (v6 : Int32) (v7 : Int32) (v9 : Int64) (v11 : Int32) (z3 : RideT) (z4 : RideT) (z5 : RideT) (H : Heap) (locs : List Loc) (ls : Array Slot), f_X3_sharesFrom_d0_b219 od q4 rd0 pl k172 v2 v3 v5 v6 v7 v9 v11 z3 z4 z5 = some (rv, u3, u4, u5) → va_P D vwCl (w_Odds dA oa (qa 0) od ++ (w_Rides4 dA qa (a0 0) (a1 0) (a2 0) (a3 0) q4 ++ (w_Ride dA a0 (pa 0) (pa 1) rd0 ++ (w_Ride dA a1 (pa 0) (pa 1) z3 ++ (w_Ride dA a2 (ph 2) (ph 3) z4 ++ (w_Ride dA a3 (ph 4) (ph 5) z5 ++ (w_Plan dA pa pl))))))) H → va_D A (w_Odds dA oa (qa 0) od ++ (w_Rides4 dA qa (a0 0) (a1 0) (a2 0) (a3 0) q4 ++ (w_Ride dA a0 (pa 0) (pa 1) rd0 ++ (w_Ride dA a1 (pa 0) (pa 1) z3 ++ (w_Ride dA a2 (ph 2) (ph 3) z4 ++ (w_Ride dA a3 (ph 4) (ph 5) z5 ++ (w_Plan dA pa pl))))))) → va_S A s.heap H locs → lv_has ls 12 [(0, .ref (oa 0)), (1, .int (0 : Int32)), (2, .int v2), (3, .int v3), (4, .ref (a0 0)), (5, .int v5), (6, .int v6), (7, .int v7), (8, .ref (a1 0)), (9, .long v9), (11, .int v11)] → W p l e ({ frames := 7, cells := 0, slots := 0, locals := 197 } : Room) s m ([.ref (oa 0), .int (0 : Int32), .int x1, .int x2] : List Value).toArray below meth c H locs 0 0 Q (F0 m 219 ls []) := by
    intro k172 hk172 ph v2 v3 v5 v6 v7 v9 v11 z3 z4 z5 H locs ls hf hP hD hS hl
    rw [f_X3_sharesFrom_d0_b219] at hf
    refine lv_iinc (v := (v11 + (1 : Int32))) (lv' := [(11, .int (v11 + (1 : Int32))), (0, .ref (oa 0)), (1, .int (0 : Int32)), (2, .int v2), (3, .int v3), (4, .ref (a0 0)), (5, .int v5), (6, .int v6), (7, .int v7), (8, .ref (a1 0)), (9, .long v9)]) hx hb dX3_sharesFrom_219 hl (k := 10) rfl (by rfl) (by decide) rfl (fun ls hl => ?_)
    refine lv_goto (tgt := 172) hx hb dX3_sharesFrom_222 (by decide) ?_
    exact hk172 (kb_ph [(pa 0), (pa 1), (ph 2), (ph 3), (ph 4), (ph 5)]) _ _ _ _ _ _ _ _ _ _ _ _ _ hf hP hD hS (lv_sub hl [1, 2, 3, 4, 5, 6, 7, 8, 9, 10, 0] rfl)
  have B_205 : ∀ (k172 : Int32 → Int32 → Int32 → Int32 → Int32 → Int64 → Int32 → RideT → RideT → RideT → Option (Int64 × RideT × RideT × RideT)) (hk172 : ∀ (ph : Nat → Nat) (v2 : Int32) (v3 : Int32) (v5 : Int32) (v6 : Int32) (v7 : Int32) (v9 : Int64) (v11 : Int32) (z3 : RideT) (z4 : RideT) (z5 : RideT) (H : Heap) (locs : List Loc) (ls : Array Slot), k172 v2 v3 v5 v6 v7 v9 v11 z3 z4 z5 = some (rv, u3, u4, u5) → va_P D vwCl (w_Odds dA oa (qa 0) od ++ (w_Rides4 dA qa (a0 0) (a1 0) (a2 0) (a3 0) q4 ++ (w_Ride dA a0 (pa 0) (pa 1) rd0 ++ (w_Ride dA a1 (ph 0) (ph 1) z3 ++ (w_Ride dA a2 (ph 2) (ph 3) z4 ++ (w_Ride dA a3 (ph 4) (ph 5) z5 ++ (w_Plan dA pa pl))))))) H → va_D A (w_Odds dA oa (qa 0) od ++ (w_Rides4 dA qa (a0 0) (a1 0) (a2 0) (a3 0) q4 ++ (w_Ride dA a0 (pa 0) (pa 1) rd0 ++ (w_Ride dA a1 (ph 0) (ph 1) z3 ++ (w_Ride dA a2 (ph 2) (ph 3) z4 ++ (w_Ride dA a3 (ph 4) (ph 5) z5 ++ (w_Plan dA pa pl))))))) → va_S A s.heap H locs → lv_has ls 12 [(0, .ref (oa 0)), (1, .int (0 : Int32)), (2, .int v2), (3, .int v3), (4, .ref (a0 0)), (5, .int v5), (6, .int v6), (7, .int v7), (8, .ref (a1 0)), (9, .long v9), (11, .int v11)] → W p l e ({ frames := 7, cells := 0, slots := 0, locals := 197 } : Room) s m ([.ref (oa 0), .int (0 : Int32), .int x1, .int x2] : List Value).toArray below meth c H locs 0 0 Q (F0 m 172 ls [])) (ph : Nat → Nat) (v2 : Int32) (v3 : Int32) (v5 : Int32) (v6 : Int32) (v7 : Int32) (v9 : Int64) (v11 : Int32) (z3 : RideT) (z4 : RideT) (z5 : RideT) (H : Heap) (locs : List Loc) (ls : Array Slot), f_X3_sharesFrom_d0_b205 od q4 rd0 pl k172 v2 v3 v5 v6 v7 v9 v11 z3 z4 z5 = some (rv, u3, u4, u5) → va_P D vwCl (w_Odds dA oa (qa 0) od ++ (w_Rides4 dA qa (a0 0) (a1 0) (a2 0) (a3 0) q4 ++ (w_Ride dA a0 (pa 0) (pa 1) rd0 ++ (w_Ride dA a1 (pa 0) (pa 1) z3 ++ (w_Ride dA a2 (ph 2) (ph 3) z4 ++ (w_Ride dA a3 (ph 4) (ph 5) z5 ++ (w_Plan dA pa pl))))))) H → va_D A (w_Odds dA oa (qa 0) od ++ (w_Rides4 dA qa (a0 0) (a1 0) (a2 0) (a3 0) q4 ++ (w_Ride dA a0 (pa 0) (pa 1) rd0 ++ (w_Ride dA a1 (pa 0) (pa 1) z3 ++ (w_Ride dA a2 (ph 2) (ph 3) z4 ++ (w_Ride dA a3 (ph 4) (ph 5) z5 ++ (w_Plan dA pa pl))))))) → va_S A s.heap H locs → lv_has ls 12 [(0, .ref (oa 0)), (1, .int (0 : Int32)), (2, .int v2), (3, .int v3), (4, .ref (a0 0)), (5, .int v5), (6, .int v6), (7, .int v7), (8, .ref (a1 0)), (9, .long v9), (11, .int v11)] → W p l e ({ frames := 7, cells := 0, slots := 0, locals := 197 } : Room) s m ([.ref (oa 0), .int (0 : Int32), .int x1, .int x2] : List Value).toArray below meth c H locs 0 0 Q (F0 m 205 ls []) := by
    intro k172 hk172 ph v2 v3 v5 v6 v7 v9 v11 z3 z4 z5 H locs ls hf hP hD hS hl
    rw [f_X3_sharesFrom_d0_b205] at hf
    refine lv_lload hx hb dX3_sharesFrom_205 (lv_at hl 9 rfl) ?_
    refine lv_aload_n hx hb dX3_sharesFrom_207 rfl (lv_at hl 0 rfl) ?_
    refine lv_iload_n hx hb dX3_sharesFrom_208 rfl (lv_at hl 1 rfl) ?_
    refine lv_iconst (v := (1 : Int32)) hx hb dX3_sharesFrom_209 (by decide) ?_
    refine lv_iadd hx hb dX3_sharesFrom_210 ?_
    show W p l e ({ frames := 7, cells := 0, slots := 0, locals := 197 } : Room) s m ([.ref (oa 0), .int (0 : Int32), .int x1, .int x2] : List Value).toArray below meth c _ _ 0 0 Q (F0 m 211 _ [.int (1 : Int32), .ref (oa 0), .long v9])
    refine lv_iload_n hx hb dX3_sharesFrom_211 rfl (lv_at hl 2 rfl) ?_
    refine lv_iload_n hx hb dX3_sharesFrom_212 rfl (lv_at hl 3 rfl) ?_
    obtain ⟨r15, hc15, hf⟩ := kb_bind hf
    refine kc_Fcl (ws2 := fun ph15 => (w_Odds dA oa (qa 0) od ++ (w_Rides4 dA qa (a0 0) (a1 0) (a2 0) (a3 0) q4 ++ (w_Ride dA a0 (pa 0) (pa 1) rd0 ++ (w_Ride dA a1 (pa 0) (pa 1) z3 ++ (w_Ride dA a2 (ph15 0) (ph15 1) r15.2.1 ++ (w_Ride dA a3 (ph15 2) (ph15 3) r15.2.2 ++ (w_Plan dA pa pl)))))))) (kc_rV (n := 3) (As := [.int (1 : Int32), .int v2, .int v3]) (rest := [.long v9]) hx hb hml hown hK (c_X3_sharesFrom_d1 l D dA H.size oa qa a1 a2 a3 pa (a0 0) (kb_ph [(ph 2), (ph 3), (ph 4), (ph 5)]) od q4 z3 z4 z5 pl v2 v3 r15.1 r15.2.1 r15.2.2 hc15) ⟨ww_4_187, ww_4_184, ww_4_186, ws_36, ww_1_10, rfl, by decide, by decide⟩ rfl rfl (by decide +kernel) ⟨Nat.le_of_ble_eq_true rfl, Nat.le_of_ble_eq_true rfl⟩ hP hD hS hA hE (kc_sel [w_Odds dA oa (qa 0) od, w_Rides4 dA qa (a0 0) (a1 0) (a2 0) (a3 0) q4, w_Ride dA a0 (pa 0) (pa 1) rd0, w_Ride dA a1 (pa 0) (pa 1) z3, w_Ride dA a2 (ph 2) (ph 3) z4, w_Ride dA a3 (ph 4) (ph 5) z5, w_Plan dA pa pl] 7 [2] [0, 1, 3, 4, 5, 6] rfl (by decide)) 0 rfl rfl rfl hl.1 rfl (Nat.le_of_ble_eq_true rfl) dX3_sharesFrom_213 ⟨Nat.le_of_ble_eq_true rfl, Nat.le_of_ble_eq_true rfl⟩) hP hD hS hA (kc_sel [w_Odds dA oa (qa 0) od, w_Rides4 dA qa (a0 0) (a1 0) (a2 0) (a3 0) q4, w_Ride dA a0 (pa 0) (pa 1) rd0, w_Ride dA a1 (pa 0) (pa 1) z3, w_Ride dA a2 (ph 2) (ph 3) z4, w_Ride dA a3 (ph 4) (ph 5) z5, w_Plan dA pa pl] 7 [2] [0, 1, 3, 4, 5, 6] rfl (by decide)) (fun ph15 => (kc_sel [w_Odds dA oa (qa 0) od, w_Rides4 dA qa (a0 0) (a1 0) (a2 0) (a3 0) q4, w_Ride dA a0 (pa 0) (pa 1) rd0, w_Ride dA a1 (pa 0) (pa 1) z3, w_Ride dA a2 (ph15 0) (ph15 1) r15.2.1, w_Ride dA a3 (ph15 2) (ph15 3) r15.2.2, w_Plan dA pa pl] 7 [2] [0, 1, 3, 4, 5, 6] rfl (by decide)).symm) (fun ph15 H locs hP hD hS => ?_)
    refine lv_ladd hx hb dX3_sharesFrom_216 ?_
    refine lv_lstore (lv' := [(9, .long (v9 + r15.1)), (0, .ref (oa 0)), (1, .int (0 : Int32)), (2, .int v2), (3, .int v3), (4, .ref (a0 0)), (5, .int v5), (6, .int v6), (7, .int v7), (8, .ref (a1 0)), (11, .int v11)]) hx hb dX3_sharesFrom_217 hl (by decide) rfl (fun ls hl => ?_)
    exact B_219 k172 hk172 (kb_ph [(pa 0), (pa 1), (ph15 0), (ph15 1), (ph15 2), (ph15 3)]) _ _ _ _ _ _ _ _ _ _ _ _ _ hf hP hD hS (lv_sub hl [1, 2, 3, 4, 5, 6, 7, 8, 9, 0, 10] rfl)
  have B_196 : ∀ (k172 : Int32 → Int32 → Int32 → Int32 → Int32 → Int64 → Int32 → RideT → RideT → RideT → Option (Int64 × RideT × RideT × RideT)) (hk172 : ∀ (ph : Nat → Nat) (v2 : Int32) (v3 : Int32) (v5 : Int32) (v6 : Int32) (v7 : Int32) (v9 : Int64) (v11 : Int32) (z3 : RideT) (z4 : RideT) (z5 : RideT) (H : Heap) (locs : List Loc) (ls : Array Slot), k172 v2 v3 v5 v6 v7 v9 v11 z3 z4 z5 = some (rv, u3, u4, u5) → va_P D vwCl (w_Odds dA oa (qa 0) od ++ (w_Rides4 dA qa (a0 0) (a1 0) (a2 0) (a3 0) q4 ++ (w_Ride dA a0 (pa 0) (pa 1) rd0 ++ (w_Ride dA a1 (ph 0) (ph 1) z3 ++ (w_Ride dA a2 (ph 2) (ph 3) z4 ++ (w_Ride dA a3 (ph 4) (ph 5) z5 ++ (w_Plan dA pa pl))))))) H → va_D A (w_Odds dA oa (qa 0) od ++ (w_Rides4 dA qa (a0 0) (a1 0) (a2 0) (a3 0) q4 ++ (w_Ride dA a0 (pa 0) (pa 1) rd0 ++ (w_Ride dA a1 (ph 0) (ph 1) z3 ++ (w_Ride dA a2 (ph 2) (ph 3) z4 ++ (w_Ride dA a3 (ph 4) (ph 5) z5 ++ (w_Plan dA pa pl))))))) → va_S A s.heap H locs → lv_has ls 12 [(0, .ref (oa 0)), (1, .int (0 : Int32)), (2, .int v2), (3, .int v3), (4, .ref (a0 0)), (5, .int v5), (6, .int v6), (7, .int v7), (8, .ref (a1 0)), (9, .long v9), (11, .int v11)] → W p l e ({ frames := 7, cells := 0, slots := 0, locals := 197 } : Room) s m ([.ref (oa 0), .int (0 : Int32), .int x1, .int x2] : List Value).toArray below meth c H locs 0 0 Q (F0 m 172 ls [])) (ph : Nat → Nat) (v2 : Int32) (v3 : Int32) (v5 : Int32) (v6 : Int32) (v7 : Int32) (v9 : Int64) (v11 : Int32) (z3 : RideT) (z4 : RideT) (z5 : RideT) (H : Heap) (locs : List Loc) (ls : Array Slot), f_X3_sharesFrom_d0_b196 od q4 rd0 pl k172 v2 v3 v5 v6 v7 v9 v11 z3 z4 z5 = some (rv, u3, u4, u5) → va_P D vwCl (w_Odds dA oa (qa 0) od ++ (w_Rides4 dA qa (a0 0) (a1 0) (a2 0) (a3 0) q4 ++ (w_Ride dA a0 (pa 0) (pa 1) rd0 ++ (w_Ride dA a1 (pa 0) (pa 1) z3 ++ (w_Ride dA a2 (ph 2) (ph 3) z4 ++ (w_Ride dA a3 (ph 4) (ph 5) z5 ++ (w_Plan dA pa pl))))))) H → va_D A (w_Odds dA oa (qa 0) od ++ (w_Rides4 dA qa (a0 0) (a1 0) (a2 0) (a3 0) q4 ++ (w_Ride dA a0 (pa 0) (pa 1) rd0 ++ (w_Ride dA a1 (pa 0) (pa 1) z3 ++ (w_Ride dA a2 (ph 2) (ph 3) z4 ++ (w_Ride dA a3 (ph 4) (ph 5) z5 ++ (w_Plan dA pa pl))))))) → va_S A s.heap H locs → lv_has ls 12 [(0, .ref (oa 0)), (1, .int (0 : Int32)), (2, .int v2), (3, .int v3), (4, .ref (a0 0)), (5, .int v5), (6, .int v6), (7, .int v7), (8, .ref (a1 0)), (9, .long v9), (11, .int v11)] → W p l e ({ frames := 7, cells := 0, slots := 0, locals := 197 } : Room) s m ([.ref (oa 0), .int (0 : Int32), .int x1, .int x2] : List Value).toArray below meth c H locs 0 0 Q (F0 m 196 ls []) := by
    intro k172 hk172 ph v2 v3 v5 v6 v7 v9 v11 z3 z4 z5 H locs ls hf hP hD hS hl
    rw [f_X3_sharesFrom_d0_b196] at hf
    refine lv_aload hx hb dX3_sharesFrom_196 (lv_at hl 8 rfl) ?_
    refine lv_iload hx hb dX3_sharesFrom_198 (lv_at hl 5 rfl) ?_
    refine lv_iload hx hb dX3_sharesFrom_200 (lv_at hl 10 rfl) ?_
    obtain ⟨r14, hc14, hf⟩ := kb_bind hf
    refine kc_cv (ws2 := (w_Odds dA oa (qa 0) od ++ (w_Rides4 dA qa (a0 0) (a1 0) (a2 0) (a3 0) q4 ++ (w_Ride dA a0 (pa 0) (pa 1) rd0 ++ (w_Ride dA a1 (pa 0) (pa 1) r14 ++ (w_Ride dA a2 (ph 2) (ph 3) z4 ++ (w_Ride dA a3 (ph 4) (ph 5) z5 ++ (w_Plan dA pa pl)))))))) (kc_rV (n := 2) (As := [.int v5, .int v11]) (rest := []) hx hb hml hown hK (c_X6_sitDown l D dA H.size a1 pa z3 pl v5 v11 r14 hc14) ⟨ww_4_5, ww_4_199, ww_4_3, ww_4_4, ww_1_8, rfl, by decide, by decide⟩ rfl rfl (by decide +kernel) ⟨Nat.le_of_ble_eq_true rfl, Nat.le_of_ble_eq_true rfl⟩ hP hD hS hA hE (kc_sel [w_Odds dA oa (qa 0) od, w_Rides4 dA qa (a0 0) (a1 0) (a2 0) (a3 0) q4, w_Ride dA a0 (pa 0) (pa 1) rd0, w_Ride dA a1 (pa 0) (pa 1) z3, w_Ride dA a2 (ph 2) (ph 3) z4, w_Ride dA a3 (ph 4) (ph 5) z5, w_Plan dA pa pl] 7 [0, 1, 2, 4, 5] [3, 6] rfl (by decide)) 0 rfl rfl rfl hl.1 rfl (Nat.le_of_ble_eq_true rfl) dX3_sharesFrom_202 ⟨Nat.le_of_ble_eq_true rfl, Nat.le_of_ble_eq_true rfl⟩) hP hD hS hA (kc_sel [w_Odds dA oa (qa 0) od, w_Rides4 dA qa (a0 0) (a1 0) (a2 0) (a3 0) q4, w_Ride dA a0 (pa 0) (pa 1) rd0, w_Ride dA a1 (pa 0) (pa 1) z3, w_Ride dA a2 (ph 2) (ph 3) z4, w_Ride dA a3 (ph 4) (ph 5) z5, w_Plan dA pa pl] 7 [0, 1, 2, 4, 5] [3, 6] rfl (by decide)) (kc_sel [w_Odds dA oa (qa 0) od, w_Rides4 dA qa (a0 0) (a1 0) (a2 0) (a3 0) q4, w_Ride dA a0 (pa 0) (pa 1) rd0, w_Ride dA a1 (pa 0) (pa 1) r14, w_Ride dA a2 (ph 2) (ph 3) z4, w_Ride dA a3 (ph 4) (ph 5) z5, w_Plan dA pa pl] 7 [0, 1, 2, 4, 5] [3, 6] rfl (by decide)).symm (fun H locs hP hD hS => ?_)
    exact B_205 k172 hk172 (kb_ph [(pa 0), (pa 1), (ph 2), (ph 3), (ph 4), (ph 5)]) _ _ _ _ _ _ _ _ _ _ _ _ _ hf hP hD hS (lv_sub hl [0, 1, 2, 3, 4, 5, 6, 7, 8, 9, 10] rfl)
  have B_172 : ∀ (n : Nat) (ph : Nat → Nat) (v2 : Int32) (v3 : Int32) (v5 : Int32) (v6 : Int32) (v7 : Int32) (v9 : Int64) (v11 : Int32) (z3 : RideT) (z4 : RideT) (z5 : RideT) (H : Heap) (locs : List Loc) (ls : Array Slot), f_X3_sharesFrom_d0_b172 od q4 rd0 pl n v2 v3 v5 v6 v7 v9 v11 z3 z4 z5 = some (rv, u3, u4, u5) → va_P D vwCl (w_Odds dA oa (qa 0) od ++ (w_Rides4 dA qa (a0 0) (a1 0) (a2 0) (a3 0) q4 ++ (w_Ride dA a0 (pa 0) (pa 1) rd0 ++ (w_Ride dA a1 (ph 0) (ph 1) z3 ++ (w_Ride dA a2 (ph 2) (ph 3) z4 ++ (w_Ride dA a3 (ph 4) (ph 5) z5 ++ (w_Plan dA pa pl))))))) H → va_D A (w_Odds dA oa (qa 0) od ++ (w_Rides4 dA qa (a0 0) (a1 0) (a2 0) (a3 0) q4 ++ (w_Ride dA a0 (pa 0) (pa 1) rd0 ++ (w_Ride dA a1 (ph 0) (ph 1) z3 ++ (w_Ride dA a2 (ph 2) (ph 3) z4 ++ (w_Ride dA a3 (ph 4) (ph 5) z5 ++ (w_Plan dA pa pl))))))) → va_S A s.heap H locs → lv_has ls 12 [(0, .ref (oa 0)), (1, .int (0 : Int32)), (2, .int v2), (3, .int v3), (4, .ref (a0 0)), (5, .int v5), (6, .int v6), (7, .int v7), (8, .ref (a1 0)), (9, .long v9), (11, .int v11)] → W p l e ({ frames := 7, cells := 0, slots := 0, locals := 197 } : Room) s m ([.ref (oa 0), .int (0 : Int32), .int x1, .int x2] : List Value).toArray below meth c H locs 0 0 Q (F0 m 172 ls []) := by
    intro n
    induction n with
    | zero =>
      intro ph v2 v3 v5 v6 v7 v9 v11 z3 z4 z5 H locs ls hf
      exact absurd hf (by simp [f_X3_sharesFrom_d0_b172])
    | succ n ih =>
      intro ph v2 v3 v5 v6 v7 v9 v11 z3 z4 z5 H locs ls hf hP hD hS hl
      rw [f_X3_sharesFrom_d0_b172] at hf
      refine lv_iload hx hb dX3_sharesFrom_172 (lv_at hl 10 rfl) ?_
      refine lv_bipush (v := (20 : Int32)) hx hb dX3_sharesFrom_174 (by decide) ?_
      refine lv_icmp_ge (tgt := 225) hx hb dX3_sharesFrom_176 (by decide) (fun c_9 => ?_) (fun c_9 => ?_)
      · rw [if_pos c_9] at hf
        refine lv_ldc2 (v := (27720 : Int64)) hx hb hown (hK.2.w ww_4_195 rfl _) dX3_sharesFrom_225 ?_
        refine lv_iload hx hb dX3_sharesFrom_228 (lv_at hl 7 rfl) ?_
        refine lv_i2l hx hb dX3_sharesFrom_230 rfl ?_
        obtain ⟨h_10, hf⟩ := kb_if hf
        refine lv_ldiv hx hb dX3_sharesFrom_231 h_10 ?_
        refine lv_lload hx hb dX3_sharesFrom_232 (lv_at hl 9 rfl) ?_
        refine lv_lmul hx hb dX3_sharesFrom_234 ?_
        exact RET (kb_ph [(ph 0), (ph 1), (ph 2), (ph 3), (ph 4), (ph 5)]) _ _ _ _ H _ ls 235 hf hP hD hS dX3_sharesFrom_235
      · rw [if_neg c_9] at hf
        refine lv_iload hx hb dX3_sharesFrom_179 (lv_at hl 6 rfl) ?_
        refine lv_iload hx hb dX3_sharesFrom_181 (lv_at hl 10 rfl) ?_
        obtain ⟨r11, hc11, hf⟩ := kb_bind hf
        refine kc_ci (ws2 := (w_Odds dA oa (qa 0) od ++ (w_Rides4 dA qa (a0 0) (a1 0) (a2 0) (a3 0) q4 ++ (w_Ride dA a0 (pa 0) (pa 1) rd0 ++ (w_Ride dA a1 (ph 0) (ph 1) z3 ++ (w_Ride dA a2 (ph 2) (ph 3) z4 ++ (w_Ride dA a3 (ph 4) (ph 5) z5 ++ (w_Plan dA pa pl)))))))) (kc_rSN (n := 2) (As := [.int v6, .int v11]) (rest := []) hx hb hml hown hK (c_X10_holdsBit l D dA H.size v6 v11 r11 hc11) ⟨ww_3_158, ww_4_193, ww_3_157, ww_1_1, by decide, by decide⟩ rfl rfl (by decide +kernel) ⟨Nat.le_of_ble_eq_true rfl, Nat.le_of_ble_eq_true rfl⟩ hP hD hS hA hE (kc_sel [w_Odds dA oa (qa 0) od, w_Rides4 dA qa (a0 0) (a1 0) (a2 0) (a3 0) q4, w_Ride dA a0 (pa 0) (pa 1) rd0, w_Ride dA a1 (ph 0) (ph 1) z3, w_Ride dA a2 (ph 2) (ph 3) z4, w_Ride dA a3 (ph 4) (ph 5) z5, w_Plan dA pa pl] 7 [0, 1, 2, 3, 4, 5, 6] [] rfl (by decide)) rfl hl.1 rfl (Nat.le_of_ble_eq_true rfl) dX3_sharesFrom_183 ⟨Nat.le_of_ble_eq_true rfl, Nat.le_of_ble_eq_true rfl⟩) hP hD hS hA (kc_sel [w_Odds dA oa (qa 0) od, w_Rides4 dA qa (a0 0) (a1 0) (a2 0) (a3 0) q4, w_Ride dA a0 (pa 0) (pa 1) rd0, w_Ride dA a1 (ph 0) (ph 1) z3, w_Ride dA a2 (ph 2) (ph 3) z4, w_Ride dA a3 (ph 4) (ph 5) z5, w_Plan dA pa pl] 7 [0, 1, 2, 3, 4, 5, 6] [] rfl (by decide)) (kc_sel [w_Odds dA oa (qa 0) od, w_Rides4 dA qa (a0 0) (a1 0) (a2 0) (a3 0) q4, w_Ride dA a0 (pa 0) (pa 1) rd0, w_Ride dA a1 (ph 0) (ph 1) z3, w_Ride dA a2 (ph 2) (ph 3) z4, w_Ride dA a3 (ph 4) (ph 5) z5, w_Plan dA pa pl] 7 [0, 1, 2, 3, 4, 5, 6] [] rfl (by decide)).symm (fun H locs hP hD hS => ?_)
        refine lv_if_eq (tgt := 219) hx hb dX3_sharesFrom_186 (by decide) (fun c_12 => ?_) (fun c_12 => ?_)
        · rw [if_pos c_12] at hf
          refine lv_iinc (v := (v11 + (1 : Int32))) (lv' := [(11, .int (v11 + (1 : Int32))), (0, .ref (oa 0)), (1, .int (0 : Int32)), (2, .int v2), (3, .int v3), (4, .ref (a0 0)), (5, .int v5), (6, .int v6), (7, .int v7), (8, .ref (a1 0)), (9, .long v9)]) hx hb dX3_sharesFrom_219 hl (k := 10) rfl (by rfl) (by decide) rfl (fun ls hl => ?_)
          refine lv_goto (tgt := 172) hx hb dX3_sharesFrom_222 (by decide) ?_
          exact ih (kb_ph [(ph 0), (ph 1), (ph 2), (ph 3), (ph 4), (ph 5)]) _ _ _ _ _ _ _ _ _ _ _ _ _ hf hP hD hS (lv_sub hl [1, 2, 3, 4, 5, 6, 7, 8, 9, 10, 0] rfl)
        · rw [if_neg c_12] at hf
          refine lv_aload hx hb dX3_sharesFrom_189 (lv_at hl 8 rfl) ?_
          refine lv_aload hx hb dX3_sharesFrom_191 (lv_at hl 4 rfl) ?_
          obtain ⟨r13, hc13, hf⟩ := kb_bind hf
          refine kc_cv (ws2 := (w_Odds dA oa (qa 0) od ++ (w_Rides4 dA qa (a0 0) (a1 0) (a2 0) (a3 0) q4 ++ (w_Ride dA a0 (pa 0) (pa 1) rd0 ++ (w_Ride dA a1 (pa 0) (pa 1) r13 ++ (w_Ride dA a2 (ph 2) (ph 3) z4 ++ (w_Ride dA a3 (ph 4) (ph 5) z5 ++ (w_Plan dA pa pl)))))))) (kc_rV (n := 1) (As := [.ref (a0 0)]) (rest := []) hx hb hml hown hK (c_X6_copyFrom l D dA H.size a1 a0 (ph 0) (ph 1) (pa 0) (pa 1) z3 rd0 r13 hc13) ⟨ww_4_133, ww_4_182, ww_4_131, ww_4_132, ww_1_8, rfl, by decide, by decide⟩ rfl rfl (by decide +kernel) ⟨Nat.le_of_ble_eq_true rfl, Nat.le_of_ble_eq_true rfl⟩ hP hD hS hA hE (kc_sel [w_Odds dA oa (qa 0) od, w_Rides4 dA qa (a0 0) (a1 0) (a2 0) (a3 0) q4, w_Ride dA a0 (pa 0) (pa 1) rd0, w_Ride dA a1 (ph 0) (ph 1) z3, w_Ride dA a2 (ph 2) (ph 3) z4, w_Ride dA a3 (ph 4) (ph 5) z5, w_Plan dA pa pl] 7 [0, 1, 4, 5, 6] [3, 2] rfl (by decide)) 0 rfl rfl rfl hl.1 rfl (Nat.le_of_ble_eq_true rfl) dX3_sharesFrom_193 ⟨Nat.le_of_ble_eq_true rfl, Nat.le_of_ble_eq_true rfl⟩) hP hD hS hA (kc_sel [w_Odds dA oa (qa 0) od, w_Rides4 dA qa (a0 0) (a1 0) (a2 0) (a3 0) q4, w_Ride dA a0 (pa 0) (pa 1) rd0, w_Ride dA a1 (ph 0) (ph 1) z3, w_Ride dA a2 (ph 2) (ph 3) z4, w_Ride dA a3 (ph 4) (ph 5) z5, w_Plan dA pa pl] 7 [0, 1, 4, 5, 6] [3, 2] rfl (by decide)) (kc_sel [w_Odds dA oa (qa 0) od, w_Rides4 dA qa (a0 0) (a1 0) (a2 0) (a3 0) q4, w_Ride dA a0 (pa 0) (pa 1) rd0, w_Ride dA a1 (pa 0) (pa 1) r13, w_Ride dA a2 (ph 2) (ph 3) z4, w_Ride dA a3 (ph 4) (ph 5) z5, w_Plan dA pa pl] 7 [0, 1, 4, 5, 6] [3, 2] rfl (by decide)).symm (fun H locs hP hD hS => ?_)
          exact B_196 (f_X3_sharesFrom_d0_b172 od q4 rd0 pl n) ih (kb_ph [(pa 0), (pa 1), (ph 2), (ph 3), (ph 4), (ph 5)]) _ _ _ _ _ _ _ _ _ _ _ _ _ hf hP hD hS (lv_sub hl [0, 1, 2, 3, 4, 5, 6, 7, 8, 9, 10] rfl)
  have B_152 : ∀ (ph : Nat → Nat) (v2 : Int32) (v3 : Int32) (z3 : RideT) (z4 : RideT) (z5 : RideT) (H : Heap) (locs : List Loc) (ls : Array Slot), f_X3_sharesFrom_d0_b152 od q4 rd0 pl v2 v3 z3 z4 z5 = some (rv, u3, u4, u5) → va_P D vwCl (w_Odds dA oa (qa 0) od ++ (w_Rides4 dA qa (a0 0) (a1 0) (a2 0) (a3 0) q4 ++ (w_Ride dA a0 (pa 0) (pa 1) rd0 ++ (w_Ride dA a1 (pa 0) (pa 1) z3 ++ (w_Ride dA a2 (ph 2) (ph 3) z4 ++ (w_Ride dA a3 (ph 4) (ph 5) z5 ++ (w_Plan dA pa pl))))))) H → va_D A (w_Odds dA oa (qa 0) od ++ (w_Rides4 dA qa (a0 0) (a1 0) (a2 0) (a3 0) q4 ++ (w_Ride dA a0 (pa 0) (pa 1) rd0 ++ (w_Ride dA a1 (pa 0) (pa 1) z3 ++ (w_Ride dA a2 (ph 2) (ph 3) z4 ++ (w_Ride dA a3 (ph 4) (ph 5) z5 ++ (w_Plan dA pa pl))))))) → va_S A s.heap H locs → lv_has ls 12 [(0, .ref (oa 0)), (1, .int (0 : Int32)), (2, .int v2), (3, .int v3)] → W p l e ({ frames := 7, cells := 0, slots := 0, locals := 197 } : Room) s m ([.ref (oa 0), .int (0 : Int32), .int x1, .int x2] : List Value).toArray below meth c H locs 0 0 Q (F0 m 152 ls []) := by
    intro ph v2 v3 z3 z4 z5 H locs ls hf hP hD hS hl
    rw [f_X3_sharesFrom_d0_b152] at hf
    refine lv_ldc2 (v := (27720 : Int64)) hx hb hown (hK.2.w ww_4_195 rfl _) dX3_sharesFrom_152 ?_
    refine lv_aload_n hx hb dX3_sharesFrom_155 rfl (lv_at hl 0 rfl) ?_
    refine lv_iload_n hx hb dX3_sharesFrom_156 rfl (lv_at hl 1 rfl) ?_
    refine lv_iconst (v := (1 : Int32)) hx hb dX3_sharesFrom_157 (by decide) ?_
    refine lv_iadd hx hb dX3_sharesFrom_158 ?_
    show W p l e ({ frames := 7, cells := 0, slots := 0, locals := 197 } : Room) s m ([.ref (oa 0), .int (0 : Int32), .int x1, .int x2] : List Value).toArray below meth c _ _ 0 0 Q (F0 m 159 _ [.int (1 : Int32), .ref (oa 0), .long (27720 : Int64)])
    refine lv_iload_n hx hb dX3_sharesFrom_159 rfl (lv_at hl 2 rfl) ?_
    refine lv_iload_n hx hb dX3_sharesFrom_160 rfl (lv_at hl 3 rfl) ?_
    obtain ⟨r17, hc17, hf⟩ := kb_bind hf
    refine kc_Fcl (ws2 := fun ph17 => (w_Odds dA oa (qa 0) od ++ (w_Rides4 dA qa (a0 0) (a1 0) (a2 0) (a3 0) q4 ++ (w_Ride dA a0 (pa 0) (pa 1) rd0 ++ (w_Ride dA a1 (pa 0) (pa 1) z3 ++ (w_Ride dA a2 (ph17 0) (ph17 1) r17.2.1 ++ (w_Ride dA a3 (ph17 2) (ph17 3) r17.2.2 ++ (w_Plan dA pa pl)))))))) (kc_rV (n := 3) (As := [.int (1 : Int32), .int v2, .int v3]) (rest := [.long (27720 : Int64)]) hx hb hml hown hK (c_X3_sharesFrom_d1 l D dA H.size oa qa a1 a2 a3 pa (a0 0) (kb_ph [(ph 2), (ph 3), (ph 4), (ph 5)]) od q4 z3 z4 z5 pl v2 v3 r17.1 r17.2.1 r17.2.2 hc17) ⟨ww_4_187, ww_4_184, ww_4_186, ws_36, ww_1_10, rfl, by decide, by decide⟩ rfl rfl (by decide +kernel) ⟨Nat.le_of_ble_eq_true rfl, Nat.le_of_ble_eq_true rfl⟩ hP hD hS hA hE (kc_sel [w_Odds dA oa (qa 0) od, w_Rides4 dA qa (a0 0) (a1 0) (a2 0) (a3 0) q4, w_Ride dA a0 (pa 0) (pa 1) rd0, w_Ride dA a1 (pa 0) (pa 1) z3, w_Ride dA a2 (ph 2) (ph 3) z4, w_Ride dA a3 (ph 4) (ph 5) z5, w_Plan dA pa pl] 7 [2] [0, 1, 3, 4, 5, 6] rfl (by decide)) 0 rfl rfl rfl hl.1 rfl (Nat.le_of_ble_eq_true rfl) dX3_sharesFrom_161 ⟨Nat.le_of_ble_eq_true rfl, Nat.le_of_ble_eq_true rfl⟩) hP hD hS hA (kc_sel [w_Odds dA oa (qa 0) od, w_Rides4 dA qa (a0 0) (a1 0) (a2 0) (a3 0) q4, w_Ride dA a0 (pa 0) (pa 1) rd0, w_Ride dA a1 (pa 0) (pa 1) z3, w_Ride dA a2 (ph 2) (ph 3) z4, w_Ride dA a3 (ph 4) (ph 5) z5, w_Plan dA pa pl] 7 [2] [0, 1, 3, 4, 5, 6] rfl (by decide)) (fun ph17 => (kc_sel [w_Odds dA oa (qa 0) od, w_Rides4 dA qa (a0 0) (a1 0) (a2 0) (a3 0) q4, w_Ride dA a0 (pa 0) (pa 1) rd0, w_Ride dA a1 (pa 0) (pa 1) z3, w_Ride dA a2 (ph17 0) (ph17 1) r17.2.1, w_Ride dA a3 (ph17 2) (ph17 3) r17.2.2, w_Plan dA pa pl] 7 [2] [0, 1, 3, 4, 5, 6] rfl (by decide)).symm) (fun ph17 H locs hP hD hS => ?_)
    refine lv_lmul hx hb dX3_sharesFrom_164 ?_
    exact RET (kb_ph [(pa 0), (pa 1), (ph17 0), (ph17 1), (ph17 2), (ph17 3)]) _ _ _ _ H _ ls 165 hf hP hD hS dX3_sharesFrom_165
  have B_86 : ∀ (ph : Nat → Nat) (v7 : Int32) (s0 : Int32) (z3 : RideT) (z4 : RideT) (z5 : RideT) (H : Heap) (locs : List Loc) (ls : Array Slot), f_X3_sharesFrom_d0_b86 od q4 rd0 pl v7 s0 z3 z4 z5 = some (rv, u3, u4, u5) → va_P D vwCl (w_Odds dA oa (qa 0) od ++ (w_Rides4 dA qa (a0 0) (a1 0) (a2 0) (a3 0) q4 ++ (w_Ride dA a0 (pa 0) (pa 1) rd0 ++ (w_Ride dA a1 (ph 0) (ph 1) z3 ++ (w_Ride dA a2 (ph 2) (ph 3) z4 ++ (w_Ride dA a3 (ph 4) (ph 5) z5 ++ (w_Plan dA pa pl))))))) H → va_D A (w_Odds dA oa (qa 0) od ++ (w_Rides4 dA qa (a0 0) (a1 0) (a2 0) (a3 0) q4 ++ (w_Ride dA a0 (pa 0) (pa 1) rd0 ++ (w_Ride dA a1 (ph 0) (ph 1) z3 ++ (w_Ride dA a2 (ph 2) (ph 3) z4 ++ (w_Ride dA a3 (ph 4) (ph 5) z5 ++ (w_Plan dA pa pl))))))) → va_S A s.heap H locs → lv_has ls 12 [(0, .ref (oa 0)), (1, .int (0 : Int32)), (7, .int v7)] → W p l e ({ frames := 7, cells := 0, slots := 0, locals := 197 } : Room) s m ([.ref (oa 0), .int (0 : Int32), .int x1, .int x2] : List Value).toArray below meth c H locs 0 0 Q (F0 m 86 ls [.int s0]) := by
    intro ph v7 s0 z3 z4 z5 H locs ls hf hP hD hS hl
    rw [f_X3_sharesFrom_d0_b86] at hf
    refine lv_istore (lv' := [(8, .int s0), (0, .ref (oa 0)), (1, .int (0 : Int32)), (7, .int v7)]) hx hb dX3_sharesFrom_86 hl (by decide) rfl (fun ls hl => ?_)
    refine lv_iload hx hb dX3_sharesFrom_88 (lv_at hl 0 rfl) ?_
    refine lv_if_eq (tgt := 115) hx hb dX3_sharesFrom_90 (by decide) (fun c_19 => ?_) (fun c_19 => ?_)
    · rw [if_pos c_19] at hf
      refine lv_lconst (v := (0 : Int64)) hx hb dX3_sharesFrom_115 (by decide) ?_
      exact RET (kb_ph [(ph 0), (ph 1), (ph 2), (ph 3), (ph 4), (ph 5)]) _ _ _ _ H _ ls 116 hf hP hD hS dX3_sharesFrom_116
    · rw [if_neg c_19] at hf
      refine lv_ldc2 (v := (27720 : Int64)) hx hb hown (hK.2.w ww_4_195 rfl _) dX3_sharesFrom_93 ?_
      refine lv_iload hx hb dX3_sharesFrom_96 (lv_at hl 3 rfl) ?_
      refine lv_i2l hx hb dX3_sharesFrom_98 rfl ?_
      obtain ⟨h_20, hf⟩ := kb_if hf
      refine lv_ldiv hx hb dX3_sharesFrom_99 h_20 ?_
      refine lv_aload_n hx hb dX3_sharesFrom_100 rfl (lv_at hl 1 rfl) ?_
      refine va_get (D := D) (ci := 3) (v := .int (od_count od)) (C := RX3) (T := TX3) (N := 3) hx hb hts kb_inX3 hown hK.1 hP 0 rfl rfl 2 (by decide) (hK.2.w ww_2_119 rfl _) (fun _ h9 => h9) rfl dX3_sharesFrom_101 ?_
      refine lv_iload_n hx hb dX3_sharesFrom_104 rfl (lv_at hl 2 rfl) ?_
      refine lv_isub hx hb dX3_sharesFrom_105 ?_
      refine lv_iconst (v := (1 : Int32)) hx hb dX3_sharesFrom_106 (by decide) ?_
      refine lv_isub hx hb dX3_sharesFrom_107 ?_
      obtain ⟨r21, hc21, hf⟩ := kb_bind hf
      refine kc_cl (ws2 := (w_Odds dA oa (qa 0) od ++ (w_Rides4 dA qa (a0 0) (a1 0) (a2 0) (a3 0) q4 ++ (w_Ride dA a0 (pa 0) (pa 1) rd0 ++ (w_Ride dA a1 (ph 0) (ph 1) z3 ++ (w_Ride dA a2 (ph 2) (ph 3) z4 ++ (w_Ride dA a3 (ph 4) (ph 5) z5 ++ (w_Plan dA pa pl)))))))) (kc_rS (n := 1) (As := [.int (((od_count od) - (0 : Int32)) - (1 : Int32))]) (rest := [.long ((27720 : Int64) / (v7).toInt64)]) hx hb hml hown hK (c_X3_sharesOfAll l D dA H.size (((od_count od) - (0 : Int32)) - (1 : Int32)) r21 hc21) ⟨ww_4_198, ww_4_196, ww_4_197, ww_1_10, by decide, by decide⟩ rfl rfl (by decide +kernel) ⟨Nat.le_of_ble_eq_true rfl, Nat.le_of_ble_eq_true rfl⟩ hP hD hS hA hE (kc_sel [w_Odds dA oa (qa 0) od, w_Rides4 dA qa (a0 0) (a1 0) (a2 0) (a3 0) q4, w_Ride dA a0 (pa 0) (pa 1) rd0, w_Ride dA a1 (ph 0) (ph 1) z3, w_Ride dA a2 (ph 2) (ph 3) z4, w_Ride dA a3 (ph 4) (ph 5) z5, w_Plan dA pa pl] 7 [0, 1, 2, 3, 4, 5, 6] [] rfl (by decide)) rfl hl.1 rfl (Nat.le_of_ble_eq_true rfl) dX3_sharesFrom_108 ⟨Nat.le_of_ble_eq_true rfl, Nat.le_of_ble_eq_true rfl⟩) hP hD hS hA (kc_sel [w_Odds dA oa (qa 0) od, w_Rides4 dA qa (a0 0) (a1 0) (a2 0) (a3 0) q4, w_Ride dA a0 (pa 0) (pa 1) rd0, w_Ride dA a1 (ph 0) (ph 1) z3, w_Ride dA a2 (ph 2) (ph 3) z4, w_Ride dA a3 (ph 4) (ph 5) z5, w_Plan dA pa pl] 7 [0, 1, 2, 3, 4, 5, 6] [] rfl (by decide)) (kc_sel [w_Odds dA oa (qa 0) od, w_Rides4 dA qa (a0 0) (a1 0) (a2 0) (a3 0) q4, w_Ride dA a0 (pa 0) (pa 1) rd0, w_Ride dA a1 (ph 0) (ph 1) z3, w_Ride dA a2 (ph 2) (ph 3) z4, w_Ride dA a3 (ph 4) (ph 5) z5, w_Plan dA pa pl] 7 [0, 1, 2, 3, 4, 5, 6] [] rfl (by decide)).symm (fun H locs hP hD hS => ?_)
      refine lv_lmul hx hb dX3_sharesFrom_111 ?_
      refine lv_goto (tgt := 116) hx hb dX3_sharesFrom_112 (by decide) ?_
      exact RET (kb_ph [(ph 0), (ph 1), (ph 2), (ph 3), (ph 4), (ph 5)]) _ _ _ _ H _ ls 116 hf hP hD hS dX3_sharesFrom_116
  have B_85 : ∀ (ph : Nat → Nat) (v7 : Int32) (z3 : RideT) (z4 : RideT) (z5 : RideT) (H : Heap) (locs : List Loc) (ls : Array Slot), f_X3_sharesFrom_d0_b85 od q4 rd0 pl v7 z3 z4 z5 = some (rv, u3, u4, u5) → va_P D vwCl (w_Odds dA oa (qa 0) od ++ (w_Rides4 dA qa (a0 0) (a1 0) (a2 0) (a3 0) q4 ++ (w_Ride dA a0 (pa 0) (pa 1) rd0 ++ (w_Ride dA a1 (ph 0) (ph 1) z3 ++ (w_Ride dA a2 (ph 2) (ph 3) z4 ++ (w_Ride dA a3 (ph 4) (ph 5) z5 ++ (w_Plan dA pa pl))))))) H → va_D A (w_Odds dA oa (qa 0) od ++ (w_Rides4 dA qa (a0 0) (a1 0) (a2 0) (a3 0) q4 ++ (w_Ride dA a0 (pa 0) (pa 1) rd0 ++ (w_Ride dA a1 (ph 0) (ph 1) z3 ++ (w_Ride dA a2 (ph 2) (ph 3) z4 ++ (w_Ride dA a3 (ph 4) (ph 5) z5 ++ (w_Plan dA pa pl))))))) → va_S A s.heap H locs → lv_has ls 12 [(0, .ref (oa 0)), (1, .int (0 : Int32)), (7, .int v7)] → W p l e ({ frames := 7, cells := 0, slots := 0, locals := 197 } : Room) s m ([.ref (oa 0), .int (0 : Int32), .int x1, .int x2] : List Value).toArray below meth c H locs 0 0 Q (F0 m 85 ls []) := by
    intro ph v7 z3 z4 z5 H locs ls hf hP hD hS hl
    rw [f_X3_sharesFrom_d0_b85] at hf
    refine lv_iconst (v := (0 : Int32)) hx hb dX3_sharesFrom_85 (by decide) ?_
    exact B_86 (kb_ph [(ph 0), (ph 1), (ph 2), (ph 3), (ph 4), (ph 5)]) _ _ _ _ _ _ _ _ hf hP hD hS (lv_sub hl [0, 1, 2] rfl)
  have E0 : ∀ (H : Heap) (locs : List Loc), va_P D vwCl (w_Odds dA oa (qa 0) od ++ (w_Rides4 dA qa (a0 0) (a1 0) (a2 0) (a3 0) q4 ++ (w_Ride dA a0 (pa 0) (pa 1) rd0 ++ (w_Ride dA a1 (ph 0) (ph 1) rd1 ++ (w_Ride dA a2 (ph 2) (ph 3) rd2 ++ (w_Ride dA a3 (ph 4) (ph 5) rd3 ++ (w_Plan dA pa pl))))))) H → va_D A (w_Odds dA oa (qa 0) od ++ (w_Rides4 dA qa (a0 0) (a1 0) (a2 0) (a3 0) q4 ++ (w_Ride dA a0 (pa 0) (pa 1) rd0 ++ (w_Ride dA a1 (ph 0) (ph 1) rd1 ++ (w_Ride dA a2 (ph 2) (ph 3) rd2 ++ (w_Ride dA a3 (ph 4) (ph 5) rd3 ++ (w_Plan dA pa pl))))))) → va_S A s.heap H locs → W p l e ({ frames := 7, cells := 0, slots := 0, locals := 197 } : Room) s m ([.ref (oa 0), .int (0 : Int32), .int x1, .int x2] : List Value).toArray below meth c H locs 0 0 Q (F0 m 0 ls []) := by
    intro H locs hP hD hS
    rw [f_X3_sharesFrom_d0] at hf
    refine lv_iload_n hx hb dX3_sharesFrom_0 rfl (lv_at hl 1 rfl) ?_
    refine lv_aload_n hx hb dX3_sharesFrom_1 rfl (lv_at hl 0 rfl) ?_
    refine va_get (D := D) (ci := 3) (v := .int (od_count od)) (C := RX3) (T := TX3) (N := 3) hx hb hts kb_inX3 hown hK.1 hP 0 rfl rfl 2 (by decide) (hK.2.w ww_2_119 rfl _) (fun _ h9 => h9) rfl dX3_sharesFrom_2 ?_
    refine lv_icmp_ge (tgt := 17) hx hb dX3_sharesFrom_5 (by decide) (fun c_1 => ?_) (fun c_1 => ?_)
    · rw [if_pos c_1] at hf
      refine lv_lconst (v := (0 : Int64)) hx hb dX3_sharesFrom_17 (by decide) ?_
      exact RET (kb_ph [(ph 0), (ph 1), (ph 2), (ph 3), (ph 4), (ph 5)]) _ _ _ _ H _ ls 18 hf hP hD hS dX3_sharesFrom_18
    · rw [if_neg c_1] at hf
      refine lv_iload_n hx hb dX3_sharesFrom_8 rfl (lv_at hl 1 rfl) ?_
      refine lv_aload_n hx hb dX3_sharesFrom_9 rfl (lv_at hl 0 rfl) ?_
      refine va_get (D := D) (ci := 3) (v := .ref (qa 0)) (C := RX3) (T := TX3) (N := 3) hx hb hts kb_inX3 hown hK.1 hP 0 rfl rfl 0 (by decide) (hK.2.w ww_2_117 rfl _) (fun _ h9 => h9) rfl dX3_sharesFrom_10 ?_
      refine va_alen (D := D) (v := (4 : Int32)) hx hb hK.1 hP 2 4 rfl rfl rfl dX3_sharesFrom_13 ?_
      refine lv_icmp_lt (tgt := 19) hx hb dX3_sharesFrom_14 (by decide) (fun _ => ?_) (fun c_1 => absurd (by decide) c_1)
      refine lv_aload_n hx hb dX3_sharesFrom_19 rfl (lv_at hl 0 rfl) ?_
      refine va_get (D := D) (ci := 3) (v := .ref (qa 0)) (C := RX3) (T := TX3) (N := 3) hx hb hts kb_inX3 hown hK.1 hP 0 rfl rfl 0 (by decide) (hK.2.w ww_2_117 rfl _) (fun _ h9 => h9) rfl dX3_sharesFrom_20 ?_
      refine lv_iload_n hx hb dX3_sharesFrom_23 rfl (lv_at hl 1 rfl) ?_
      refine va_aldq (D := D) hx hb hK.1 hP 2 4 rfl rfl (pk_in 0 4 (by decide)) dX3_sharesFrom_24 ?_
      show W p l e ({ frames := 7, cells := 0, slots := 0, locals := 197 } : Room) s m ([.ref (oa 0), .int (0 : Int32), .int x1, .int x2] : List Value).toArray below meth c _ _ 0 0 Q (F0 m 25 _ [.ref (a0 0)])
      refine lv_astore (lv' := [(4, .ref (a0 0)), (0, .ref (oa 0)), (1, .int (0 : Int32)), (2, .int x1), (3, .int x2)]) hx hb dX3_sharesFrom_25 hl (by decide) rfl (fun ls hl => ?_)
      refine lv_aload_n hx hb dX3_sharesFrom_27 rfl (lv_at hl 1 rfl) ?_
      refine va_get (D := D) (ci := 3) (v := .ref (oa 1)) (C := RX3) (T := TX3) (N := 3) hx hb hts kb_inX3 hown hK.1 hP 0 rfl rfl 1 (by decide) (hK.2.w ww_2_118 rfl _) (fun _ h9 => h9) rfl dX3_sharesFrom_28 ?_
      refine lv_iload_n hx hb dX3_sharesFrom_31 rfl (lv_at hl 2 rfl) ?_
      obtain ⟨h_2, hf⟩ := kb_if hf
      refine va_iald (D := D) hx hb hK.1 hP 1 0 rfl rfl h_2 dX3_sharesFrom_32 ?_
      refine lv_istore (lv' := [(5, .int ((od_boarding od) ((0 : Int32)).toNatClampNeg)), (4, .ref (a0 0)), (0, .ref (oa 0)), (1, .int (0 : Int32)), (2, .int x1), (3, .int x2)]) hx hb dX3_sharesFrom_33 hl (by decide) rfl (fun ls hl => ?_)
      refine lv_aload hx hb dX3_sharesFrom_35 (lv_at hl 1 rfl) ?_
      refine lv_iload hx hb dX3_sharesFrom_37 (lv_at hl 0 rfl) ?_
      refine lv_aload hx hb dX3_sharesFrom_39 (lv_at hl 1 rfl) ?_
      refine lv_iload hx hb dX3_sharesFrom_41 (lv_at hl 0 rfl) ?_
      obtain ⟨r3, hc3, hf⟩ := kb_bind hf
      refine kc_ci (ws2 := (w_Odds dA oa (qa 0) od ++ (w_Rides4 dA qa (a0 0) (a1 0) (a2 0) (a3 0) q4 ++ (w_Ride dA a0 (pa 0) (pa 1) rd0 ++ (w_Ride dA a1 (ph 0) (ph 1) rd1 ++ (w_Ride dA a2 (ph 2) (ph 3) rd2 ++ (w_Ride dA a3 (ph 4) (ph 5) rd3 ++ (w_Plan dA pa pl)))))))) (kc_rV (n := 1) (As := [.int ((od_boarding od) ((0 : Int32)).toNatClampNeg)]) (rest := [.int ((od_boarding od) ((0 : Int32)).toNatClampNeg), .ref (a0 0)]) hx hb hml hown hK (c_X6_bestSeats l D dA H.size a0 pa rd0 pl ((od_boarding od) ((0 : Int32)).toNatClampNeg) r3 hc3) ⟨ww_4_18, ww_4_188, ww_4_16, ww_4_17, ww_1_8, rfl, by decide, by decide⟩ rfl rfl (by decide +kernel) ⟨Nat.le_of_ble_eq_true rfl, Nat.le_of_ble_eq_true rfl⟩ hP hD hS hA hE (kc_sel [w_Odds dA oa (qa 0) od, w_Rides4 dA qa (a0 0) (a1 0) (a2 0) (a3 0) q4, w_Ride dA a0 (pa 0) (pa 1) rd0, w_Ride dA a1 (ph 0) (ph 1) rd1, w_Ride dA a2 (ph 2) (ph 3) rd2, w_Ride dA a3 (ph 4) (ph 5) rd3, w_Plan dA pa pl] 7 [0, 1, 3, 4, 5] [2, 6] rfl (by decide)) 0 rfl rfl rfl hl.1 rfl (Nat.le_of_ble_eq_true rfl) dX3_sharesFrom_43 ⟨Nat.le_of_ble_eq_true rfl, Nat.le_of_ble_eq_true rfl⟩) hP hD hS hA (kc_sel [w_Odds dA oa (qa 0) od, w_Rides4 dA qa (a0 0) (a1 0) (a2 0) (a3 0) q4, w_Ride dA a0 (pa 0) (pa 1) rd0, w_Ride dA a1 (ph 0) (ph 1) rd1, w_Ride dA a2 (ph 2) (ph 3) rd2, w_Ride dA a3 (ph 4) (ph 5) rd3, w_Plan dA pa pl] 7 [0, 1, 3, 4, 5] [2, 6] rfl (by decide)) (kc_sel [w_Odds dA oa (qa 0) od, w_Rides4 dA qa (a0 0) (a1 0) (a2 0) (a3 0) q4, w_Ride dA a0 (pa 0) (pa 1) rd0, w_Ride dA a1 (ph 0) (ph 1) rd1, w_Ride dA a2 (ph 2) (ph 3) rd2, w_Ride dA a3 (ph 4) (ph 5) rd3, w_Plan dA pa pl] 7 [0, 1, 3, 4, 5] [2, 6] rfl (by decide)).symm (fun H locs hP hD hS => ?_)
      obtain ⟨r4, hc4, hf⟩ := kb_bind hf
      refine kc_ci (ws2 := (w_Odds dA oa (qa 0) od ++ (w_Rides4 dA qa (a0 0) (a1 0) (a2 0) (a3 0) q4 ++ (w_Ride dA a0 (pa 0) (pa 1) rd0 ++ (w_Ride dA a1 (ph 0) (ph 1) rd1 ++ (w_Ride dA a2 (ph 2) (ph 3) rd2 ++ (w_Ride dA a3 (ph 4) (ph 5) rd3 ++ (w_Plan dA pa pl)))))))) (kc_rV (n := 2) (As := [.int ((od_boarding od) ((0 : Int32)).toNatClampNeg), .int r3]) (rest := []) hx hb hml hown hK (c_X6_tied l D dA H.size a0 pa rd0 pl ((od_boarding od) ((0 : Int32)).toNatClampNeg) r3 r4 hc4) ⟨ww_4_163, ww_4_189, ww_4_161, ww_4_162, ww_1_8, rfl, by decide, by decide⟩ rfl rfl (by decide +kernel) ⟨Nat.le_of_ble_eq_true rfl, Nat.le_of_ble_eq_true rfl⟩ hP hD hS hA hE (kc_sel [w_Odds dA oa (qa 0) od, w_Rides4 dA qa (a0 0) (a1 0) (a2 0) (a3 0) q4, w_Ride dA a0 (pa 0) (pa 1) rd0, w_Ride dA a1 (ph 0) (ph 1) rd1, w_Ride dA a2 (ph 2) (ph 3) rd2, w_Ride dA a3 (ph 4) (ph 5) rd3, w_Plan dA pa pl] 7 [0, 1, 3, 4, 5] [2, 6] rfl (by decide)) 0 rfl rfl rfl hl.1 rfl (Nat.le_of_ble_eq_true rfl) dX3_sharesFrom_46 ⟨Nat.le_of_ble_eq_true rfl, Nat.le_of_ble_eq_true rfl⟩) hP hD hS hA (kc_sel [w_Odds dA oa (qa 0) od, w_Rides4 dA qa (a0 0) (a1 0) (a2 0) (a3 0) q4, w_Ride dA a0 (pa 0) (pa 1) rd0, w_Ride dA a1 (ph 0) (ph 1) rd1, w_Ride dA a2 (ph 2) (ph 3) rd2, w_Ride dA a3 (ph 4) (ph 5) rd3, w_Plan dA pa pl] 7 [0, 1, 3, 4, 5] [2, 6] rfl (by decide)) (kc_sel [w_Odds dA oa (qa 0) od, w_Rides4 dA qa (a0 0) (a1 0) (a2 0) (a3 0) q4, w_Ride dA a0 (pa 0) (pa 1) rd0, w_Ride dA a1 (ph 0) (ph 1) rd1, w_Ride dA a2 (ph 2) (ph 3) rd2, w_Ride dA a3 (ph 4) (ph 5) rd3, w_Plan dA pa pl] 7 [0, 1, 3, 4, 5] [2, 6] rfl (by decide)).symm (fun H locs hP hD hS => ?_)
      obtain ⟨r5, hc5, hf⟩ := kb_bind hf
      refine kc_ci (ws2 := (w_Odds dA oa (qa 0) od ++ (w_Rides4 dA qa (a0 0) (a1 0) (a2 0) (a3 0) q4 ++ (w_Ride dA a0 (pa 0) (pa 1) rd0 ++ (w_Ride dA a1 (ph 0) (ph 1) rd1 ++ (w_Ride dA a2 (ph 2) (ph 3) rd2 ++ (w_Ride dA a3 (ph 4) (ph 5) rd3 ++ (w_Plan dA pa pl)))))))) (kc_rS (n := 1) (As := [.int r4]) (rest := []) hx hb hml hown hK (c_X3_firstTies l D dA H.size r4 r5 hc5) ⟨ww_4_192, ww_4_190, ww_4_191, ww_1_10, by decide, by decide⟩ rfl rfl (by decide +kernel) ⟨Nat.le_of_ble_eq_true rfl, Nat.le_of_ble_eq_true rfl⟩ hP hD hS hA hE (kc_sel [w_Odds dA oa (qa 0) od, w_Rides4 dA qa (a0 0) (a1 0) (a2 0) (a3 0) q4, w_Ride dA a0 (pa 0) (pa 1) rd0, w_Ride dA a1 (ph 0) (ph 1) rd1, w_Ride dA a2 (ph 2) (ph 3) rd2, w_Ride dA a3 (ph 4) (ph 5) rd3, w_Plan dA pa pl] 7 [0, 1, 2, 3, 4, 5, 6] [] rfl (by decide)) rfl hl.1 rfl (Nat.le_of_ble_eq_true rfl) dX3_sharesFrom_49 ⟨Nat.le_of_ble_eq_true rfl, Nat.le_of_ble_eq_true rfl⟩) hP hD hS hA (kc_sel [w_Odds dA oa (qa 0) od, w_Rides4 dA qa (a0 0) (a1 0) (a2 0) (a3 0) q4, w_Ride dA a0 (pa 0) (pa 1) rd0, w_Ride dA a1 (ph 0) (ph 1) rd1, w_Ride dA a2 (ph 2) (ph 3) rd2, w_Ride dA a3 (ph 4) (ph 5) rd3, w_Plan dA pa pl] 7 [0, 1, 2, 3, 4, 5, 6] [] rfl (by decide)) (kc_sel [w_Odds dA oa (qa 0) od, w_Rides4 dA qa (a0 0) (a1 0) (a2 0) (a3 0) q4, w_Ride dA a0 (pa 0) (pa 1) rd0, w_Ride dA a1 (ph 0) (ph 1) rd1, w_Ride dA a2 (ph 2) (ph 3) rd2, w_Ride dA a3 (ph 4) (ph 5) rd3, w_Plan dA pa pl] 7 [0, 1, 2, 3, 4, 5, 6] [] rfl (by decide)).symm (fun H locs hP hD hS => ?_)
      refine lv_istore (lv' := [(6, .int r5), (5, .int ((od_boarding od) ((0 : Int32)).toNatClampNeg)), (4, .ref (a0 0)), (0, .ref (oa 0)), (1, .int (0 : Int32)), (2, .int x1), (3, .int x2)]) hx hb dX3_sharesFrom_52 hl (by decide) rfl (fun ls hl => ?_)
      refine lv_iload hx hb dX3_sharesFrom_54 (lv_at hl 0 rfl) ?_
      obtain ⟨r6, hc6, hf⟩ := kb_bind hf
      refine kc_ci (ws2 := (w_Odds dA oa (qa 0) od ++ (w_Rides4 dA qa (a0 0) (a1 0) (a2 0) (a3 0) q4 ++ (w_Ride dA a0 (pa 0) (pa 1) rd0 ++ (w_Ride dA a1 (ph 0) (ph 1) rd1 ++ (w_Ride dA a2 (ph 2) (ph 3) rd2 ++ (w_Ride dA a3 (ph 4) (ph 5) rd3 ++ (w_Plan dA pa pl)))))))) (kc_rS (n := 1) (As := [.int r5]) (rest := []) hx hb hml hown hK (c_J6_bitCount_0f7a4 l D dA H.size r5 r6 hc6) ⟨ww_4_166, ww_4_194, ww_4_165, ww_1_20, by decide, by decide⟩ rfl rfl (by decide +kernel) ⟨Nat.le_of_ble_eq_true rfl, Nat.le_of_ble_eq_true rfl⟩ hP hD hS hA hE (kc_sel [w_Odds dA oa (qa 0) od, w_Rides4 dA qa (a0 0) (a1 0) (a2 0) (a3 0) q4, w_Ride dA a0 (pa 0) (pa 1) rd0, w_Ride dA a1 (ph 0) (ph 1) rd1, w_Ride dA a2 (ph 2) (ph 3) rd2, w_Ride dA a3 (ph 4) (ph 5) rd3, w_Plan dA pa pl] 7 [0, 1, 2, 3, 4, 5, 6] [] rfl (by decide)) rfl hl.1 rfl (Nat.le_of_ble_eq_true rfl) dX3_sharesFrom_56 ⟨Nat.le_of_ble_eq_true rfl, Nat.le_of_ble_eq_true rfl⟩) hP hD hS hA (kc_sel [w_Odds dA oa (qa 0) od, w_Rides4 dA qa (a0 0) (a1 0) (a2 0) (a3 0) q4, w_Ride dA a0 (pa 0) (pa 1) rd0, w_Ride dA a1 (ph 0) (ph 1) rd1, w_Ride dA a2 (ph 2) (ph 3) rd2, w_Ride dA a3 (ph 4) (ph 5) rd3, w_Plan dA pa pl] 7 [0, 1, 2, 3, 4, 5, 6] [] rfl (by decide)) (kc_sel [w_Odds dA oa (qa 0) od, w_Rides4 dA qa (a0 0) (a1 0) (a2 0) (a3 0) q4, w_Ride dA a0 (pa 0) (pa 1) rd0, w_Ride dA a1 (ph 0) (ph 1) rd1, w_Ride dA a2 (ph 2) (ph 3) rd2, w_Ride dA a3 (ph 4) (ph 5) rd3, w_Plan dA pa pl] 7 [0, 1, 2, 3, 4, 5, 6] [] rfl (by decide)).symm (fun H locs hP hD hS => ?_)
      refine lv_istore (lv' := [(7, .int r6), (6, .int r5), (5, .int ((od_boarding od) ((0 : Int32)).toNatClampNeg)), (4, .ref (a0 0)), (0, .ref (oa 0)), (1, .int (0 : Int32)), (2, .int x1), (3, .int x2)]) hx hb dX3_sharesFrom_59 hl (by decide) rfl (fun ls hl => ?_)
      refine lv_iload hx hb dX3_sharesFrom_61 (lv_at hl 2 rfl) ?_
      refine lv_iload_n hx hb dX3_sharesFrom_63 rfl (lv_at hl 6 rfl) ?_
      refine lv_icmp_ne (tgt := 117) hx hb dX3_sharesFrom_64 (by decide) (fun c_7 => ?_) (fun c_7 => ?_)
      · rw [if_neg c_7] at hf
        refine lv_iload_n hx hb dX3_sharesFrom_117 rfl (lv_at hl 5 rfl) ?_
        refine lv_iconst (v := (1 : Int32)) hx hb dX3_sharesFrom_118 (by decide) ?_
        refine lv_iadd hx hb dX3_sharesFrom_119 ?_
        show W p l e ({ frames := 7, cells := 0, slots := 0, locals := 197 } : Room) s m ([.ref (oa 0), .int (0 : Int32), .int x1, .int x2] : List Value).toArray below meth c _ _ 0 0 Q (F0 m 120 _ [.int (1 : Int32)])
        refine lv_aload_n hx hb dX3_sharesFrom_120 rfl (lv_at hl 4 rfl) ?_
        refine va_get (D := D) (ci := 3) (v := .ref (qa 0)) (C := RX3) (T := TX3) (N := 3) hx hb hts kb_inX3 hown hK.1 hP 0 rfl rfl 0 (by decide) (hK.2.w ww_2_117 rfl _) (fun _ h9 => h9) rfl dX3_sharesFrom_121 ?_
        refine va_alen (D := D) (v := (4 : Int32)) hx hb hK.1 hP 2 4 rfl rfl rfl dX3_sharesFrom_124 ?_
        refine lv_icmp_lt (tgt := 130) hx hb dX3_sharesFrom_125 (by decide) (fun _ => ?_) (fun c_1 => absurd (by decide) c_1)
        refine lv_aload_n hx hb dX3_sharesFrom_130 rfl (lv_at hl 4 rfl) ?_
        refine va_get (D := D) (ci := 3) (v := .ref (qa 0)) (C := RX3) (T := TX3) (N := 3) hx hb hts kb_inX3 hown hK.1 hP 0 rfl rfl 0 (by decide) (hK.2.w ww_2_117 rfl _) (fun _ h9 => h9) rfl dX3_sharesFrom_131 ?_
        refine lv_iload_n hx hb dX3_sharesFrom_134 rfl (lv_at hl 5 rfl) ?_
        refine lv_iconst (v := (1 : Int32)) hx hb dX3_sharesFrom_135 (by decide) ?_
        refine lv_iadd hx hb dX3_sharesFrom_136 ?_
        show W p l e ({ frames := 7, cells := 0, slots := 0, locals := 197 } : Room) s m ([.ref (oa 0), .int (0 : Int32), .int x1, .int x2] : List Value).toArray below meth c _ _ 0 0 Q (F0 m 137 _ [.int (1 : Int32), .ref (qa 0)])
        refine va_aldq (D := D) hx hb hK.1 hP 2 4 rfl rfl (pk_in 1 4 (by decide)) dX3_sharesFrom_137 ?_
        show W p l e ({ frames := 7, cells := 0, slots := 0, locals := 197 } : Room) s m ([.ref (oa 0), .int (0 : Int32), .int x1, .int x2] : List Value).toArray below meth c _ _ 0 0 Q (F0 m 138 _ [.ref (a1 0)])
        refine lv_astore (lv' := [(8, .ref (a1 0)), (7, .int r6), (6, .int r5), (5, .int ((od_boarding od) ((0 : Int32)).toNatClampNeg)), (4, .ref (a0 0)), (0, .ref (oa 0)), (1, .int (0 : Int32)), (2, .int x1), (3, .int x2)]) hx hb dX3_sharesFrom_138 hl (by decide) rfl (fun ls hl => ?_)
        refine lv_iload hx hb dX3_sharesFrom_140 (lv_at hl 1 rfl) ?_
        refine lv_if_ne (tgt := 166) hx hb dX3_sharesFrom_142 (by decide) (fun c_8 => ?_) (fun c_8 => ?_)
        · rw [if_neg c_8] at hf
          refine lv_lconst (v := (0 : Int64)) hx hb dX3_sharesFrom_166 (by decide) ?_
          refine lv_lstore (lv' := [(9, .long (0 : Int64)), (8, .ref (a1 0)), (7, .int r6), (6, .int r5), (5, .int ((od_boarding od) ((0 : Int32)).toNatClampNeg)), (4, .ref (a0 0)), (0, .ref (oa 0)), (1, .int (0 : Int32)), (2, .int x1), (3, .int x2)]) hx hb dX3_sharesFrom_167 hl (by decide) rfl (fun ls hl => ?_)
          refine lv_iconst (v := (0 : Int32)) hx hb dX3_sharesFrom_169 (by decide) ?_
          refine lv_istore (lv' := [(11, .int (0 : Int32)), (9, .long (0 : Int64)), (8, .ref (a1 0)), (7, .int r6), (6, .int r5), (5, .int ((od_boarding od) ((0 : Int32)).toNatClampNeg)), (4, .ref (a0 0)), (0, .ref (oa 0)), (1, .int (0 : Int32)), (2, .int x1), (3, .int x2)]) hx hb dX3_sharesFrom_170 hl (by decide) rfl (fun ls hl => ?_)
          exact B_172 4096 (kb_ph [(ph 0), (ph 1), (ph 2), (ph 3), (ph 4), (ph 5)]) _ _ _ _ _ _ _ _ _ _ _ _ _ hf hP hD hS (lv_sub hl [7, 8, 9, 10, 6, 5, 4, 3, 2, 1, 0] rfl)
        · rw [if_pos c_8] at hf
          refine lv_aload hx hb dX3_sharesFrom_145 (lv_at hl 0 rfl) ?_
          refine lv_aload hx hb dX3_sharesFrom_147 (lv_at hl 4 rfl) ?_
          obtain ⟨r16, hc16, hf⟩ := kb_bind hf
          refine kc_cv (ws2 := (w_Odds dA oa (qa 0) od ++ (w_Rides4 dA qa (a0 0) (a1 0) (a2 0) (a3 0) q4 ++ (w_Ride dA a0 (pa 0) (pa 1) rd0 ++ (w_Ride dA a1 (pa 0) (pa 1) r16 ++ (w_Ride dA a2 (ph 2) (ph 3) rd2 ++ (w_Ride dA a3 (ph 4) (ph 5) rd3 ++ (w_Plan dA pa pl)))))))) (kc_rV (n := 1) (As := [.ref (a0 0)]) (rest := []) hx hb hml hown hK (c_X6_copyFrom l D dA H.size a1 a0 (ph 0) (ph 1) (pa 0) (pa 1) rd1 rd0 r16 hc16) ⟨ww_4_133, ww_4_182, ww_4_131, ww_4_132, ww_1_8, rfl, by decide, by decide⟩ rfl rfl (by decide +kernel) ⟨Nat.le_of_ble_eq_true rfl, Nat.le_of_ble_eq_true rfl⟩ hP hD hS hA hE (kc_sel [w_Odds dA oa (qa 0) od, w_Rides4 dA qa (a0 0) (a1 0) (a2 0) (a3 0) q4, w_Ride dA a0 (pa 0) (pa 1) rd0, w_Ride dA a1 (ph 0) (ph 1) rd1, w_Ride dA a2 (ph 2) (ph 3) rd2, w_Ride dA a3 (ph 4) (ph 5) rd3, w_Plan dA pa pl] 7 [0, 1, 4, 5, 6] [3, 2] rfl (by decide)) 0 rfl rfl rfl hl.1 rfl (Nat.le_of_ble_eq_true rfl) dX3_sharesFrom_149 ⟨Nat.le_of_ble_eq_true rfl, Nat.le_of_ble_eq_true rfl⟩) hP hD hS hA (kc_sel [w_Odds dA oa (qa 0) od, w_Rides4 dA qa (a0 0) (a1 0) (a2 0) (a3 0) q4, w_Ride dA a0 (pa 0) (pa 1) rd0, w_Ride dA a1 (ph 0) (ph 1) rd1, w_Ride dA a2 (ph 2) (ph 3) rd2, w_Ride dA a3 (ph 4) (ph 5) rd3, w_Plan dA pa pl] 7 [0, 1, 4, 5, 6] [3, 2] rfl (by decide)) (kc_sel [w_Odds dA oa (qa 0) od, w_Rides4 dA qa (a0 0) (a1 0) (a2 0) (a3 0) q4, w_Ride dA a0 (pa 0) (pa 1) rd0, w_Ride dA a1 (pa 0) (pa 1) r16, w_Ride dA a2 (ph 2) (ph 3) rd2, w_Ride dA a3 (ph 4) (ph 5) rd3, w_Plan dA pa pl] 7 [0, 1, 4, 5, 6] [3, 2] rfl (by decide)).symm (fun H locs hP hD hS => ?_)
          exact B_152 (kb_ph [(pa 0), (pa 1), (ph 2), (ph 3), (ph 4), (ph 5)]) _ _ _ _ _ _ _ _ hf hP hD hS (lv_sub hl [5, 6, 7, 8] rfl)
      · rw [if_pos c_7] at hf
        refine lv_iload hx hb dX3_sharesFrom_67 (lv_at hl 0 rfl) ?_
        refine lv_if_le (tgt := 85) hx hb dX3_sharesFrom_69 (by decide) (fun c_18 => ?_) (fun c_18 => ?_)
        · rw [if_pos c_18] at hf
          exact B_85 (kb_ph [(ph 0), (ph 1), (ph 2), (ph 3), (ph 4), (ph 5)]) _ _ _ _ _ _ _ hf hP hD hS (lv_sub hl [4, 5, 0] rfl)
        · rw [if_neg c_18] at hf
          refine lv_iload hx hb dX3_sharesFrom_72 (lv_at hl 1 rfl) ?_
          refine lv_iload_n hx hb dX3_sharesFrom_74 rfl (lv_at hl 7 rfl) ?_
          obtain ⟨r22, hc22, hf⟩ := kb_bind hf
          refine kc_ci (ws2 := (w_Odds dA oa (qa 0) od ++ (w_Rides4 dA qa (a0 0) (a1 0) (a2 0) (a3 0) q4 ++ (w_Ride dA a0 (pa 0) (pa 1) rd0 ++ (w_Ride dA a1 (ph 0) (ph 1) rd1 ++ (w_Ride dA a2 (ph 2) (ph 3) rd2 ++ (w_Ride dA a3 (ph 4) (ph 5) rd3 ++ (w_Plan dA pa pl)))))))) (kc_rSN (n := 2) (As := [.int r5, .int x2]) (rest := []) hx hb hml hown hK (c_X10_holdsBit l D dA H.size r5 x2 r22 hc22) ⟨ww_3_158, ww_4_193, ww_3_157, ww_1_1, by decide, by decide⟩ rfl rfl (by decide +kernel) ⟨Nat.le_of_ble_eq_true rfl, Nat.le_of_ble_eq_true rfl⟩ hP hD hS hA hE (kc_sel [w_Odds dA oa (qa 0) od, w_Rides4 dA qa (a0 0) (a1 0) (a2 0) (a3 0) q4, w_Ride dA a0 (pa 0) (pa 1) rd0, w_Ride dA a1 (ph 0) (ph 1) rd1, w_Ride dA a2 (ph 2) (ph 3) rd2, w_Ride dA a3 (ph 4) (ph 5) rd3, w_Plan dA pa pl] 7 [0, 1, 2, 3, 4, 5, 6] [] rfl (by decide)) rfl hl.1 rfl (Nat.le_of_ble_eq_true rfl) dX3_sharesFrom_75 ⟨Nat.le_of_ble_eq_true rfl, Nat.le_of_ble_eq_true rfl⟩) hP hD hS hA (kc_sel [w_Odds dA oa (qa 0) od, w_Rides4 dA qa (a0 0) (a1 0) (a2 0) (a3 0) q4, w_Ride dA a0 (pa 0) (pa 1) rd0, w_Ride dA a1 (ph 0) (ph 1) rd1, w_Ride dA a2 (ph 2) (ph 3) rd2, w_Ride dA a3 (ph 4) (ph 5) rd3, w_Plan dA pa pl] 7 [0, 1, 2, 3, 4, 5, 6] [] rfl (by decide)) (kc_sel [w_Odds dA oa (qa 0) od, w_Rides4 dA qa (a0 0) (a1 0) (a2 0) (a3 0) q4, w_Ride dA a0 (pa 0) (pa 1) rd0, w_Ride dA a1 (ph 0) (ph 1) rd1, w_Ride dA a2 (ph 2) (ph 3) rd2, w_Ride dA a3 (ph 4) (ph 5) rd3, w_Plan dA pa pl] 7 [0, 1, 2, 3, 4, 5, 6] [] rfl (by decide)).symm (fun H locs hP hD hS => ?_)
          refine lv_if_eq (tgt := 85) hx hb dX3_sharesFrom_78 (by decide) (fun c_23 => ?_) (fun c_23 => ?_)
          · rw [if_pos c_23] at hf
            exact B_85 (kb_ph [(ph 0), (ph 1), (ph 2), (ph 3), (ph 4), (ph 5)]) _ _ _ _ _ _ _ hf hP hD hS (lv_sub hl [4, 5, 0] rfl)
          · rw [if_neg c_23] at hf
            refine lv_iconst (v := (1 : Int32)) hx hb dX3_sharesFrom_81 (by decide) ?_
            refine lv_goto (tgt := 86) hx hb dX3_sharesFrom_82 (by decide) ?_
            exact B_86 (kb_ph [(ph 0), (ph 1), (ph 2), (ph 3), (ph 4), (ph 5)]) _ _ _ _ _ _ _ _ hf hP hD hS (lv_sub hl [4, 5, 0] rfl)
  exact E0 _ _ hP hD hS

noncomputable def f_X3_sharesOf_b20 (od : OddsT) (q4 : Rides4T) (rd : RideT) (pl : PlanT) (v2 : Int32) (v3 : Int32) (z3 : RideT) (z4 : RideT) (z5 : RideT) (z6 : RideT) : Option (Int64 × RideT × RideT × RideT × RideT) := (f_X3_sharesFrom_d0 od q4 z3 z4 z5 z6 pl v2 v3).bind fun r3 => some (r3.1, z3, r3.2.1, r3.2.2.1, r3.2.2.2)
noncomputable def f_X3_sharesOf_b10 (od : OddsT) (q4 : Rides4T) (rd : RideT) (pl : PlanT) (v2 : Int32) (v3 : Int32) (z3 : RideT) (z4 : RideT) (z5 : RideT) (z6 : RideT) : Option (Int64 × RideT × RideT × RideT × RideT) := (f_X6_halt z3 pl).bind fun r2 => f_X3_sharesOf_b20 od q4 rd pl v2 v3 r2.2 z4 z5 z6
noncomputable def f_X3_sharesOf (od : OddsT) (q4 : Rides4T) (rd : RideT) (rd0 : RideT) (rd1 : RideT) (rd2 : RideT) (rd3 : RideT) (pl : PlanT) (x1 : Int32) (x2 : Int32) : Option (Int64 × RideT × RideT × RideT × RideT) := (f_X6_copyFrom rd0 rd).bind fun r1 => f_X3_sharesOf_b10 od q4 rd pl x1 x2 r1 rd1 rd2 rd3
set_option maxHeartbeats 4000000 in
set_option maxRecDepth 100000 in
theorem c_X3_sharesOf (l : Launch) (D : va_G) (dA : Nat → ClassId) (sz : Nat) (oa : Nat → Nat) (qa : Nat → Nat) (a : Nat → Nat) (a0 : Nat → Nat) (a1 : Nat → Nat) (a2 : Nat → Nat) (a3 : Nat → Nat) (pa : Nat → Nat) (ph : Nat → Nat) (od : OddsT) (q4 : Rides4T) (rd : RideT) (rd0 : RideT) (rd1 : RideT) (rd2 : RideT) (rd3 : RideT) (pl : PlanT) (x1 : Int32) (x2 : Int32) (rv : Int64) (u3 : RideT) (u4 : RideT) (u5 : RideT) (u6 : RideT) (hf : f_X3_sharesOf od q4 rd rd0 rd1 rd2 rd3 pl x1 x2 = some (rv, u3, u4, u5, u6)) : kb_FMl l yX3_sharesOf cX3_sharesOf 4 (some .long) ({ frames := 8, cells := 0, slots := 0, locals := 228 } : Room) D dA [.ref (oa 0), .ref (a 0), .int x1, .int x2] sz (w_Odds dA oa (qa 0) od ++ (w_Rides4 dA qa (a0 0) (a1 0) (a2 0) (a3 0) q4 ++ (w_Ride dA a (pa 0) (pa 1) rd ++ (w_Ride dA a0 (ph 0) (ph 1) rd0 ++ (w_Ride dA a1 (ph 2) (ph 3) rd1 ++ (w_Ride dA a2 (ph 4) (ph 5) rd2 ++ (w_Ride dA a3 (ph 6) (ph 7) rd3 ++ (w_Plan dA pa pl)))))))) 0 0 rv (fun (ph2 : Nat → Nat) => (w_Odds dA oa (qa 0) od ++ (w_Rides4 dA qa (a0 0) (a1 0) (a2 0) (a3 0) q4 ++ (w_Ride dA a (pa 0) (pa 1) rd ++ (w_Ride dA a0 (ph2 0) (ph2 1) u3 ++ (w_Ride dA a1 (ph2 2) (ph2 3) u4 ++ (w_Ride dA a2 (ph2 4) (ph2 5) u5 ++ (w_Ride dA a3 (ph2 6) (ph2 7) u6 ++ (w_Plan dA pa pl))))))))) := by
  refine Met.ofW (cc := cX3_sharesOf) (maxL := 4) (ret := (some .long)) (by decide) rfl ?_
  intro p e s m args below meth c s₁ B hml hv
  obtain ⟨rfl, hsz, hP, hK, hD0, hE⟩ := hv
  have hx := B.exec
  have hb := B.bytes
  have hr := B.returns
  have hown : s.vm.findClass RX3 = some m.cls := findClass_of_methodNamed B.named
  have hlocks := B.notSynchronized
  have hts : ∀ w ∈ kb_gw, w.before ([.ref (oa 0), .ref (a 0), .int x1, .int x2] : List Value).toArray s = true := fun w hw => hK.2.1 w hw _
  subst hsz
  have hD := hD0.self (sz := s.heap.size)
  generalize hAe : va_A (w_Odds dA oa (qa 0) od ++ (w_Rides4 dA qa (a0 0) (a1 0) (a2 0) (a3 0) q4 ++ (w_Ride dA a (pa 0) (pa 1) rd ++ (w_Ride dA a0 (ph 0) (ph 1) rd0 ++ (w_Ride dA a1 (ph 2) (ph 3) rd1 ++ (w_Ride dA a2 (ph 4) (ph 5) rd2 ++ (w_Ride dA a3 (ph 6) (ph 7) rd3 ++ (w_Plan dA pa pl)))))))) s.heap.size = A at hD hE ⊢
  have hA : ∀ q : Nat, s.heap.size ≤ q → A q := fun q h => by rw [← hAe]; exact Or.inr h
  have hS : va_S A s.heap s.heap [] := va_S.rf
  have hl := lv_entry ([.ref (oa 0), .ref (a 0), .int x1, .int x2]) (n := 4) (Nat.le_of_ble_eq_true rfl)
  rw [lg_entry_eq]
  generalize (lg_sl ([.ref (oa 0), .ref (a 0), .int x1, .int x2]) ++ List.replicate (4 - (lg_sl ([.ref (oa 0), .ref (a 0), .int x1, .int x2])).length) Slot.unset).toArray = ls at hl ⊢
  have hl : lv_has ls 4 [(0, .ref (oa 0)), (1, .ref (a 0)), (2, .int x1), (3, .int x2)] := hl
  generalize hQ : MQ below (va_Ql (fun r (_ : Nat → Nat) => r = rv) (fun ph2 => kb_B D A (w_Odds dA oa (qa 0) od ++ (w_Rides4 dA qa (a0 0) (a1 0) (a2 0) (a3 0) q4 ++ (w_Ride dA a (pa 0) (pa 1) rd ++ (w_Ride dA a0 (ph2 0) (ph2 1) u3 ++ (w_Ride dA a1 (ph2 2) (ph2 3) u4 ++ (w_Ride dA a2 (ph2 4) (ph2 5) u5 ++ (w_Ride dA a3 (ph2 6) (ph2 7) u6 ++ (w_Plan dA pa pl)))))))) ()) A) ([.ref (oa 0), .ref (a 0), .int x1, .int x2] : List Value).toArray s 0 0 A = Q
  show W p l e ({ frames := 8, cells := 0, slots := 0, locals := 228 } : Room) s m ([.ref (oa 0), .ref (a 0), .int x1, .int x2] : List Value).toArray below meth c s.heap [] 0 0 Q (F0 m 0 ls [])
  have RET : ∀ (ph2 : Nat → Nat) (r2 : Int64) (w3 : RideT) (w4 : RideT) (w5 : RideT) (w6 : RideT) (H : Heap) (locs : List Loc) (ls : Array Slot) (pc : Nat), some (r2, w3, w4, w5, w6) = some (rv, u3, u4, u5, u6) → va_P D vwCl (w_Odds dA oa (qa 0) od ++ (w_Rides4 dA qa (a0 0) (a1 0) (a2 0) (a3 0) q4 ++ (w_Ride dA a (pa 0) (pa 1) rd ++ (w_Ride dA a0 (ph2 0) (ph2 1) w3 ++ (w_Ride dA a1 (ph2 2) (ph2 3) w4 ++ (w_Ride dA a2 (ph2 4) (ph2 5) w5 ++ (w_Ride dA a3 (ph2 6) (ph2 7) w6 ++ (w_Plan dA pa pl)))))))) H → va_D A (w_Odds dA oa (qa 0) od ++ (w_Rides4 dA qa (a0 0) (a1 0) (a2 0) (a3 0) q4 ++ (w_Ride dA a (pa 0) (pa 1) rd ++ (w_Ride dA a0 (ph2 0) (ph2 1) w3 ++ (w_Ride dA a1 (ph2 2) (ph2 3) w4 ++ (w_Ride dA a2 (ph2 4) (ph2 5) w5 ++ (w_Ride dA a3 (ph2 6) (ph2 7) w6 ++ (w_Plan dA pa pl)))))))) → va_S A s.heap H locs → decode cX3_sharesOf pc = .ok (.lreturn, 1) → W p l e ({ frames := 8, cells := 0, slots := 0, locals := 228 } : Room) s m ([.ref (oa 0), .ref (a 0), .int x1, .int x2] : List Value).toArray below meth c H locs 0 0 Q (F0 m pc ls [.long r2]) := by
    intro ph2 r2 w3 w4 w5 w6 H locs ls pc hq hP hD hS hd
    cases hq
    rw [← hQ]
    exact W.lret hx hb hr (fun t ht hW => ⟨⟨_, ph2, rfl, rfl, by rw [ht]; exact hP, hD⟩, hS.F ht⟩) hS.2.2 hd
  have B_20 : ∀ (ph : Nat → Nat) (v2 : Int32) (v3 : Int32) (z3 : RideT) (z4 : RideT) (z5 : RideT) (z6 : RideT) (H : Heap) (locs : List Loc) (ls : Array Slot), f_X3_sharesOf_b20 od q4 rd pl v2 v3 z3 z4 z5 z6 = some (rv, u3, u4, u5, u6) → va_P D vwCl (w_Odds dA oa (qa 0) od ++ (w_Rides4 dA qa (a0 0) (a1 0) (a2 0) (a3 0) q4 ++ (w_Ride dA a (pa 0) (pa 1) rd ++ (w_Ride dA a0 (pa 0) (pa 1) z3 ++ (w_Ride dA a1 (ph 2) (ph 3) z4 ++ (w_Ride dA a2 (ph 4) (ph 5) z5 ++ (w_Ride dA a3 (ph 6) (ph 7) z6 ++ (w_Plan dA pa pl)))))))) H → va_D A (w_Odds dA oa (qa 0) od ++ (w_Rides4 dA qa (a0 0) (a1 0) (a2 0) (a3 0) q4 ++ (w_Ride dA a (pa 0) (pa 1) rd ++ (w_Ride dA a0 (pa 0) (pa 1) z3 ++ (w_Ride dA a1 (ph 2) (ph 3) z4 ++ (w_Ride dA a2 (ph 4) (ph 5) z5 ++ (w_Ride dA a3 (ph 6) (ph 7) z6 ++ (w_Plan dA pa pl)))))))) → va_S A s.heap H locs → lv_has ls 4 [(0, .ref (oa 0)), (2, .int v2), (3, .int v3)] → W p l e ({ frames := 8, cells := 0, slots := 0, locals := 228 } : Room) s m ([.ref (oa 0), .ref (a 0), .int x1, .int x2] : List Value).toArray below meth c H locs 0 0 Q (F0 m 20 ls []) := by
    intro ph v2 v3 z3 z4 z5 z6 H locs ls hf hP hD hS hl
    rw [f_X3_sharesOf_b20] at hf
    refine lv_aload_n hx hb dX3_sharesOf_20 rfl (lv_at hl 0 rfl) ?_
    refine lv_iconst (v := (0 : Int32)) hx hb dX3_sharesOf_21 (by decide) ?_
    refine lv_iload_n hx hb dX3_sharesOf_22 rfl (lv_at hl 1 rfl) ?_
    refine lv_iload_n hx hb dX3_sharesOf_23 rfl (lv_at hl 2 rfl) ?_
    obtain ⟨r3, hc3, hf⟩ := kb_bind hf
    refine kc_Fcl (ws2 := fun ph3 => (w_Odds dA oa (qa 0) od ++ (w_Rides4 dA qa (a0 0) (a1 0) (a2 0) (a3 0) q4 ++ (w_Ride dA a (pa 0) (pa 1) rd ++ (w_Ride dA a0 (pa 0) (pa 1) z3 ++ (w_Ride dA a1 (ph3 0) (ph3 1) r3.2.1 ++ (w_Ride dA a2 (ph3 2) (ph3 3) r3.2.2.1 ++ (w_Ride dA a3 (ph3 4) (ph3 5) r3.2.2.2 ++ (w_Plan dA pa pl))))))))) (kc_rV (n := 3) (As := [.int (0 : Int32), .int v2, .int v3]) (rest := []) hx hb hml hown hK (c_X3_sharesFrom_d0 l D dA H.size oa qa a0 a1 a2 a3 pa (kb_ph [(ph 2), (ph 3), (ph 4), (ph 5), (ph 6), (ph 7)]) od q4 z3 z4 z5 z6 pl v2 v3 r3.1 r3.2.1 r3.2.2.1 r3.2.2.2 hc3) ⟨ww_4_187, ww_4_184, ww_4_186, ws_36, ww_1_10, rfl, by decide, by decide⟩ rfl rfl (by decide +kernel) ⟨Nat.le_of_ble_eq_true rfl, Nat.le_of_ble_eq_true rfl⟩ hP hD hS hA hE (kc_sel [w_Odds dA oa (qa 0) od, w_Rides4 dA qa (a0 0) (a1 0) (a2 0) (a3 0) q4, w_Ride dA a (pa 0) (pa 1) rd, w_Ride dA a0 (pa 0) (pa 1) z3, w_Ride dA a1 (ph 2) (ph 3) z4, w_Ride dA a2 (ph 4) (ph 5) z5, w_Ride dA a3 (ph 6) (ph 7) z6, w_Plan dA pa pl] 8 [2] [0, 1, 3, 4, 5, 6, 7] rfl (by decide)) 0 rfl rfl rfl hl.1 rfl (Nat.le_of_ble_eq_true rfl) dX3_sharesOf_24 ⟨Nat.le_of_ble_eq_true rfl, Nat.le_of_ble_eq_true rfl⟩) hP hD hS hA (kc_sel [w_Odds dA oa (qa 0) od, w_Rides4 dA qa (a0 0) (a1 0) (a2 0) (a3 0) q4, w_Ride dA a (pa 0) (pa 1) rd, w_Ride dA a0 (pa 0) (pa 1) z3, w_Ride dA a1 (ph 2) (ph 3) z4, w_Ride dA a2 (ph 4) (ph 5) z5, w_Ride dA a3 (ph 6) (ph 7) z6, w_Plan dA pa pl] 8 [2] [0, 1, 3, 4, 5, 6, 7] rfl (by decide)) (fun ph3 => (kc_sel [w_Odds dA oa (qa 0) od, w_Rides4 dA qa (a0 0) (a1 0) (a2 0) (a3 0) q4, w_Ride dA a (pa 0) (pa 1) rd, w_Ride dA a0 (pa 0) (pa 1) z3, w_Ride dA a1 (ph3 0) (ph3 1) r3.2.1, w_Ride dA a2 (ph3 2) (ph3 3) r3.2.2.1, w_Ride dA a3 (ph3 4) (ph3 5) r3.2.2.2, w_Plan dA pa pl] 8 [2] [0, 1, 3, 4, 5, 6, 7] rfl (by decide)).symm) (fun ph3 H locs hP hD hS => ?_)
    exact RET (kb_ph [(pa 0), (pa 1), (ph3 0), (ph3 1), (ph3 2), (ph3 3), (ph3 4), (ph3 5)]) _ _ _ _ _ H _ ls 27 hf hP hD hS dX3_sharesOf_27
  have B_10 : ∀ (ph : Nat → Nat) (v2 : Int32) (v3 : Int32) (z3 : RideT) (z4 : RideT) (z5 : RideT) (z6 : RideT) (H : Heap) (locs : List Loc) (ls : Array Slot), f_X3_sharesOf_b10 od q4 rd pl v2 v3 z3 z4 z5 z6 = some (rv, u3, u4, u5, u6) → va_P D vwCl (w_Odds dA oa (qa 0) od ++ (w_Rides4 dA qa (a0 0) (a1 0) (a2 0) (a3 0) q4 ++ (w_Ride dA a (pa 0) (pa 1) rd ++ (w_Ride dA a0 (pa 0) (pa 1) z3 ++ (w_Ride dA a1 (ph 2) (ph 3) z4 ++ (w_Ride dA a2 (ph 4) (ph 5) z5 ++ (w_Ride dA a3 (ph 6) (ph 7) z6 ++ (w_Plan dA pa pl)))))))) H → va_D A (w_Odds dA oa (qa 0) od ++ (w_Rides4 dA qa (a0 0) (a1 0) (a2 0) (a3 0) q4 ++ (w_Ride dA a (pa 0) (pa 1) rd ++ (w_Ride dA a0 (pa 0) (pa 1) z3 ++ (w_Ride dA a1 (ph 2) (ph 3) z4 ++ (w_Ride dA a2 (ph 4) (ph 5) z5 ++ (w_Ride dA a3 (ph 6) (ph 7) z6 ++ (w_Plan dA pa pl)))))))) → va_S A s.heap H locs → lv_has ls 4 [(0, .ref (oa 0)), (2, .int v2), (3, .int v3)] → W p l e ({ frames := 8, cells := 0, slots := 0, locals := 228 } : Room) s m ([.ref (oa 0), .ref (a 0), .int x1, .int x2] : List Value).toArray below meth c H locs 0 0 Q (F0 m 10 ls []) := by
    intro ph v2 v3 z3 z4 z5 z6 H locs ls hf hP hD hS hl
    rw [f_X3_sharesOf_b10] at hf
    refine lv_aload_n hx hb dX3_sharesOf_10 rfl (lv_at hl 0 rfl) ?_
    refine va_get (D := D) (ci := 3) (v := .ref (qa 0)) (C := RX3) (T := TX3) (N := 3) hx hb hts kb_inX3 hown hK.1 hP 0 rfl rfl 0 (by decide) (hK.2.w ww_2_117 rfl _) (fun _ h9 => h9) rfl dX3_sharesOf_11 ?_
    refine lv_iconst (v := (0 : Int32)) hx hb dX3_sharesOf_14 (by decide) ?_
    refine va_aldq (D := D) hx hb hK.1 hP 2 4 rfl rfl (pk_in 0 4 (by decide)) dX3_sharesOf_15 ?_
    show W p l e ({ frames := 8, cells := 0, slots := 0, locals := 228 } : Room) s m ([.ref (oa 0), .ref (a 0), .int x1, .int x2] : List Value).toArray below meth c _ _ 0 0 Q (F0 m 16 _ [.ref (a0 0)])
    obtain ⟨r2, hc2, hf⟩ := kb_bind hf
    refine kc_ci (ws2 := (w_Odds dA oa (qa 0) od ++ (w_Rides4 dA qa (a0 0) (a1 0) (a2 0) (a3 0) q4 ++ (w_Ride dA a (pa 0) (pa 1) rd ++ (w_Ride dA a0 (pa 0) (pa 1) r2.2 ++ (w_Ride dA a1 (ph 2) (ph 3) z4 ++ (w_Ride dA a2 (ph 4) (ph 5) z5 ++ (w_Ride dA a3 (ph 6) (ph 7) z6 ++ (w_Plan dA pa pl))))))))) (kc_rV (n := 0) (As := []) (rest := []) hx hb hml hown hK (c_X6_halt l D dA H.size a0 pa z3 pl r2.1 r2.2 hc2) ⟨ww_3_200, ww_4_183, ww_3_198, ww_3_199, ww_1_8, rfl, by decide, by decide⟩ rfl rfl (by decide +kernel) ⟨Nat.le_of_ble_eq_true rfl, Nat.le_of_ble_eq_true rfl⟩ hP hD hS hA hE (kc_sel [w_Odds dA oa (qa 0) od, w_Rides4 dA qa (a0 0) (a1 0) (a2 0) (a3 0) q4, w_Ride dA a (pa 0) (pa 1) rd, w_Ride dA a0 (pa 0) (pa 1) z3, w_Ride dA a1 (ph 2) (ph 3) z4, w_Ride dA a2 (ph 4) (ph 5) z5, w_Ride dA a3 (ph 6) (ph 7) z6, w_Plan dA pa pl] 8 [0, 1, 2, 4, 5, 6] [3, 7] rfl (by decide)) 0 rfl rfl rfl hl.1 rfl (Nat.le_of_ble_eq_true rfl) dX3_sharesOf_16 ⟨Nat.le_of_ble_eq_true rfl, Nat.le_of_ble_eq_true rfl⟩) hP hD hS hA (kc_sel [w_Odds dA oa (qa 0) od, w_Rides4 dA qa (a0 0) (a1 0) (a2 0) (a3 0) q4, w_Ride dA a (pa 0) (pa 1) rd, w_Ride dA a0 (pa 0) (pa 1) z3, w_Ride dA a1 (ph 2) (ph 3) z4, w_Ride dA a2 (ph 4) (ph 5) z5, w_Ride dA a3 (ph 6) (ph 7) z6, w_Plan dA pa pl] 8 [0, 1, 2, 4, 5, 6] [3, 7] rfl (by decide)) (kc_sel [w_Odds dA oa (qa 0) od, w_Rides4 dA qa (a0 0) (a1 0) (a2 0) (a3 0) q4, w_Ride dA a (pa 0) (pa 1) rd, w_Ride dA a0 (pa 0) (pa 1) r2.2, w_Ride dA a1 (ph 2) (ph 3) z4, w_Ride dA a2 (ph 4) (ph 5) z5, w_Ride dA a3 (ph 6) (ph 7) z6, w_Plan dA pa pl] 8 [0, 1, 2, 4, 5, 6] [3, 7] rfl (by decide)).symm (fun H locs hP hD hS => ?_)
    refine lv_pop hx hb dX3_sharesOf_19 rfl ?_
    exact B_20 (kb_ph [(pa 0), (pa 1), (ph 2), (ph 3), (ph 4), (ph 5), (ph 6), (ph 7)]) _ _ _ _ _ _ _ _ _ hf hP hD hS (lv_sub hl [0, 1, 2] rfl)
  have E0 : ∀ (H : Heap) (locs : List Loc), va_P D vwCl (w_Odds dA oa (qa 0) od ++ (w_Rides4 dA qa (a0 0) (a1 0) (a2 0) (a3 0) q4 ++ (w_Ride dA a (pa 0) (pa 1) rd ++ (w_Ride dA a0 (ph 0) (ph 1) rd0 ++ (w_Ride dA a1 (ph 2) (ph 3) rd1 ++ (w_Ride dA a2 (ph 4) (ph 5) rd2 ++ (w_Ride dA a3 (ph 6) (ph 7) rd3 ++ (w_Plan dA pa pl)))))))) H → va_D A (w_Odds dA oa (qa 0) od ++ (w_Rides4 dA qa (a0 0) (a1 0) (a2 0) (a3 0) q4 ++ (w_Ride dA a (pa 0) (pa 1) rd ++ (w_Ride dA a0 (ph 0) (ph 1) rd0 ++ (w_Ride dA a1 (ph 2) (ph 3) rd1 ++ (w_Ride dA a2 (ph 4) (ph 5) rd2 ++ (w_Ride dA a3 (ph 6) (ph 7) rd3 ++ (w_Plan dA pa pl)))))))) → va_S A s.heap H locs → W p l e ({ frames := 8, cells := 0, slots := 0, locals := 228 } : Room) s m ([.ref (oa 0), .ref (a 0), .int x1, .int x2] : List Value).toArray below meth c H locs 0 0 Q (F0 m 0 ls []) := by
    intro H locs hP hD hS
    rw [f_X3_sharesOf] at hf
    refine lv_aload_n hx hb dX3_sharesOf_0 rfl (lv_at hl 0 rfl) ?_
    refine va_get (D := D) (ci := 3) (v := .ref (qa 0)) (C := RX3) (T := TX3) (N := 3) hx hb hts kb_inX3 hown hK.1 hP 0 rfl rfl 0 (by decide) (hK.2.w ww_2_117 rfl _) (fun _ h9 => h9) rfl dX3_sharesOf_1 ?_
    refine lv_iconst (v := (0 : Int32)) hx hb dX3_sharesOf_4 (by decide) ?_
    refine va_aldq (D := D) hx hb hK.1 hP 2 4 rfl rfl (pk_in 0 4 (by decide)) dX3_sharesOf_5 ?_
    show W p l e ({ frames := 8, cells := 0, slots := 0, locals := 228 } : Room) s m ([.ref (oa 0), .ref (a 0), .int x1, .int x2] : List Value).toArray below meth c _ _ 0 0 Q (F0 m 6 _ [.ref (a0 0)])
    refine lv_aload_n hx hb dX3_sharesOf_6 rfl (lv_at hl 1 rfl) ?_
    obtain ⟨r1, hc1, hf⟩ := kb_bind hf
    refine kc_cv (ws2 := (w_Odds dA oa (qa 0) od ++ (w_Rides4 dA qa (a0 0) (a1 0) (a2 0) (a3 0) q4 ++ (w_Ride dA a (pa 0) (pa 1) rd ++ (w_Ride dA a0 (pa 0) (pa 1) r1 ++ (w_Ride dA a1 (ph 2) (ph 3) rd1 ++ (w_Ride dA a2 (ph 4) (ph 5) rd2 ++ (w_Ride dA a3 (ph 6) (ph 7) rd3 ++ (w_Plan dA pa pl))))))))) (kc_rV (n := 1) (As := [.ref (a 0)]) (rest := []) hx hb hml hown hK (c_X6_copyFrom l D dA H.size a0 a (ph 0) (ph 1) (pa 0) (pa 1) rd0 rd r1 hc1) ⟨ww_4_133, ww_4_182, ww_4_131, ww_4_132, ww_1_8, rfl, by decide, by decide⟩ rfl rfl (by decide +kernel) ⟨Nat.le_of_ble_eq_true rfl, Nat.le_of_ble_eq_true rfl⟩ hP hD hS hA hE (kc_sel [w_Odds dA oa (qa 0) od, w_Rides4 dA qa (a0 0) (a1 0) (a2 0) (a3 0) q4, w_Ride dA a (pa 0) (pa 1) rd, w_Ride dA a0 (ph 0) (ph 1) rd0, w_Ride dA a1 (ph 2) (ph 3) rd1, w_Ride dA a2 (ph 4) (ph 5) rd2, w_Ride dA a3 (ph 6) (ph 7) rd3, w_Plan dA pa pl] 8 [0, 1, 4, 5, 6, 7] [3, 2] rfl (by decide)) 0 rfl rfl rfl hl.1 rfl (Nat.le_of_ble_eq_true rfl) dX3_sharesOf_7 ⟨Nat.le_of_ble_eq_true rfl, Nat.le_of_ble_eq_true rfl⟩) hP hD hS hA (kc_sel [w_Odds dA oa (qa 0) od, w_Rides4 dA qa (a0 0) (a1 0) (a2 0) (a3 0) q4, w_Ride dA a (pa 0) (pa 1) rd, w_Ride dA a0 (ph 0) (ph 1) rd0, w_Ride dA a1 (ph 2) (ph 3) rd1, w_Ride dA a2 (ph 4) (ph 5) rd2, w_Ride dA a3 (ph 6) (ph 7) rd3, w_Plan dA pa pl] 8 [0, 1, 4, 5, 6, 7] [3, 2] rfl (by decide)) (kc_sel [w_Odds dA oa (qa 0) od, w_Rides4 dA qa (a0 0) (a1 0) (a2 0) (a3 0) q4, w_Ride dA a (pa 0) (pa 1) rd, w_Ride dA a0 (pa 0) (pa 1) r1, w_Ride dA a1 (ph 2) (ph 3) rd1, w_Ride dA a2 (ph 4) (ph 5) rd2, w_Ride dA a3 (ph 6) (ph 7) rd3, w_Plan dA pa pl] 8 [0, 1, 4, 5, 6, 7] [3, 2] rfl (by decide)).symm (fun H locs hP hD hS => ?_)
    exact B_10 (kb_ph [(pa 0), (pa 1), (ph 2), (ph 3), (ph 4), (ph 5), (ph 6), (ph 7)]) _ _ _ _ _ _ _ _ _ hf hP hD hS (lv_sub hl [0, 2, 3] rfl)
  exact E0 _ _ hP hD hS
