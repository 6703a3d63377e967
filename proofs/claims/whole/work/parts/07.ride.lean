noncomputable def f_X9_empty_b7 : Nat → Int32 → SceneT → Option (SceneT)
  | 0, _, _ => none
  | n + 1, v2, z0 => (if (20 : Int32) ≤ v2 then if kb_in? (8 : Int32) 9 then some ((sc_set_looks z0 (upd (sc_looks z0) ((8 : Int32)).toNatClampNeg (5 : Int32)))) else none else if kb_in? v2 20 then f_X9_empty_b7 n (v2 + (1 : Int32)) (sc_set_sitter z0 (upd (sc_sitter z0) (v2).toNatClampNeg (-2 : Int32))) else none)
noncomputable def f_X9_empty (sc : SceneT) : Option (SceneT) := f_X9_empty_b7 4096 (0 : Int32) sc
set_option maxHeartbeats 4000000 in
set_option maxRecDepth 100000 in
theorem c_X9_empty (l : Launch) (D : va_G) (dA : Nat → ClassId) (sz : Nat) (a : Nat → Nat) (e0 : Nat) (o0 : Nat) (sc : SceneT) (u0 : SceneT) (hf : f_X9_empty sc = some (u0)) : kb_Mv l yX9_empty cX9_empty 3 none ({ frames := 0, cells := 0, slots := 0, locals := 0 } : Room) D dA [.ref (a 0), .ref o0] sz (w_Scene dA a e0 sc) 0 0 (w_Scene dA a o0 u0) := by
  refine Met.ofW (cc := cX9_empty) (maxL := 3) (ret := none) (by decide) rfl ?_
  intro p e s m args below meth c s₁ B hml hv
  obtain ⟨rfl, hsz, hP, hK, hD0, hE⟩ := hv
  have hx := B.exec
  have hb := B.bytes
  have hr := B.returns
  have hown : s.vm.findClass RX9 = some m.cls := findClass_of_methodNamed B.named
  have hlocks := B.notSynchronized
  have hts : ∀ w ∈ kb_gw, w.before ([.ref (a 0), .ref o0] : List Value).toArray s = true := fun w hw => hK.2.1 w hw _
  subst hsz
  have hD := hD0.self (sz := s.heap.size)
  generalize hAe : va_A (w_Scene dA a e0 sc) s.heap.size = A at hD hE ⊢
  have hA : ∀ q : Nat, s.heap.size ≤ q → A q := fun q h => by rw [← hAe]; exact Or.inr h
  have hS : va_S A s.heap s.heap [] := va_S.rf
  have hl := lv_entry ([.ref (a 0), .ref o0]) (n := 3) (Nat.le_of_ble_eq_true rfl)
  rw [lg_entry_eq]
  generalize (lg_sl ([.ref (a 0), .ref o0]) ++ List.replicate (3 - (lg_sl ([.ref (a 0), .ref o0])).length) Slot.unset).toArray = ls at hl ⊢
  have hl : lv_has ls 3 [(0, .ref (a 0)), (1, .ref o0)] := hl
  generalize hQ : MQ below (va_Qv (fun (_ : Unit) => True) (kb_B D A (w_Scene dA a o0 u0)) A) ([.ref (a 0), .ref o0] : List Value).toArray s 0 0 A = Q
  show W p l e ({ frames := 0, cells := 0, slots := 0, locals := 0 } : Room) s m ([.ref (a 0), .ref o0] : List Value).toArray below meth c s.heap [] 0 0 Q (F0 m 0 ls [])
  have RET : ∀ (w0 : SceneT) (H : Heap) (locs : List Loc) (ls : Array Slot) (pc : Nat), some (w0) = some (u0) → va_P D vwCl (w_Scene dA a o0 w0) H → va_D A (w_Scene dA a o0 w0) → va_S A s.heap H locs → decode cX9_empty pc = .ok (.return_, 1) → W p l e ({ frames := 0, cells := 0, slots := 0, locals := 0 } : Room) s m ([.ref (a 0), .ref o0] : List Value).toArray below meth c H locs 0 0 Q (F0 m pc ls []) := by
    intro w0 H locs ls pc hq hP hD hS hd
    cases hq
    rw [← hQ]
    exact W.vret hx hb hr (fun t ht hW => ⟨⟨(), rfl, trivial, by rw [ht]; exact hP, hD⟩, hS.F ht⟩) hS.2.2 hd
  have B_7 : ∀ (n : Nat) (v2 : Int32) (z0 : SceneT) (H : Heap) (locs : List Loc) (ls : Array Slot), f_X9_empty_b7 n v2 z0 = some (u0) → va_P D vwCl (w_Scene dA a o0 z0) H → va_D A (w_Scene dA a o0 z0) → va_S A s.heap H locs → lv_has ls 3 [(0, .ref (a 0)), (2, .int v2)] → W p l e ({ frames := 0, cells := 0, slots := 0, locals := 0 } : Room) s m ([.ref (a 0), .ref o0] : List Value).toArray below meth c H locs 0 0 Q (F0 m 7 ls []) := by
    intro n
    induction n with
    | zero =>
      intro v2 z0 H locs ls hf
      exact absurd hf (by simp [f_X9_empty_b7])
    | succ n ih =>
      intro v2 z0 H locs ls hf hP hD hS hl
      rw [f_X9_empty_b7] at hf
      refine lv_iload_n hx hb dX9_empty_7 rfl (lv_at hl 1 rfl) ?_
      refine lv_bipush (v := (20 : Int32)) hx hb dX9_empty_8 (by decide) ?_
      refine lv_icmp_ge (tgt := 27) hx hb dX9_empty_10 (by decide) (fun c_1 => ?_) (fun c_1 => ?_)
      · rw [if_pos c_1] at hf
        refine lv_aload_n hx hb dX9_empty_27 rfl (lv_at hl 0 rfl) ?_
        refine va_get (D := D) (ci := 9) (v := .ref (a 2)) (C := RX9) (T := TX9) (N := 3) hx hb hts kb_inX9 hown hK.1 hP 0 rfl rfl 1 (by decide) (hK.2.w ww_2_55 rfl _) (fun _ h9 => h9) rfl dX9_empty_28 ?_
        refine lv_bipush (v := (8 : Int32)) hx hb dX9_empty_31 (by decide) ?_
        refine lv_iconst (v := (5 : Int32)) hx hb dX9_empty_33 (by decide) ?_
        obtain ⟨h_2, hf⟩ := kb_if hf
        refine va_iast (D := D) hx hb hK.1 hP hD hS 2 0 rfl rfl h_2 dX9_empty_34 (fun H locs hP hD hS => ?_)
        have hP : va_P D vwCl (w_Scene dA a o0 (sc_set_looks z0 (upd (sc_looks z0) ((8 : Int32)).toNatClampNeg (5 : Int32)))) H := hP
        have hD : va_D A (w_Scene dA a o0 (sc_set_looks z0 (upd (sc_looks z0) ((8 : Int32)).toNatClampNeg (5 : Int32)))) := hD
        exact RET _ H _ ls 35 hf hP hD hS dX9_empty_35
      · rw [if_neg c_1] at hf
        refine lv_aload_n hx hb dX9_empty_13 rfl (lv_at hl 0 rfl) ?_
        refine va_get (D := D) (ci := 9) (v := .ref (a 1)) (C := RX9) (T := TX9) (N := 3) hx hb hts kb_inX9 hown hK.1 hP 0 rfl rfl 0 (by decide) (hK.2.w ww_2_51 rfl _) (fun _ h9 => h9) rfl dX9_empty_14 ?_
        refine lv_iload_n hx hb dX9_empty_17 rfl (lv_at hl 1 rfl) ?_
        refine lv_bipush (v := (-2 : Int32)) hx hb dX9_empty_18 (by decide) ?_
        obtain ⟨h_3, hf⟩ := kb_if hf
        refine va_iast (D := D) hx hb hK.1 hP hD hS 1 0 rfl rfl h_3 dX9_empty_20 (fun H locs hP hD hS => ?_)
        have hP : va_P D vwCl (w_Scene dA a o0 (sc_set_sitter z0 (upd (sc_sitter z0) (v2).toNatClampNeg (-2 : Int32)))) H := hP
        have hD : va_D A (w_Scene dA a o0 (sc_set_sitter z0 (upd (sc_sitter z0) (v2).toNatClampNeg (-2 : Int32)))) := hD
        refine lv_iinc (v := (v2 + (1 : Int32))) (lv' := [(2, .int (v2 + (1 : Int32))), (0, .ref (a 0))]) hx hb dX9_empty_21 hl (k := 1) rfl (by rfl) (by decide) rfl (fun ls hl => ?_)
        refine lv_goto (tgt := 7) hx hb dX9_empty_24 (by decide) ?_
        exact ih _ _ _ _ _ hf hP hD hS (lv_sub hl [1, 0] rfl)
  have E0 : ∀ (H : Heap) (locs : List Loc), va_P D vwCl (w_Scene dA a e0 sc) H → va_D A (w_Scene dA a e0 sc) → va_S A s.heap H locs → W p l e ({ frames := 0, cells := 0, slots := 0, locals := 0 } : Room) s m ([.ref (a 0), .ref o0] : List Value).toArray below meth c H locs 0 0 Q (F0 m 0 ls []) := by
    intro H locs hP hD hS
    rw [f_X9_empty] at hf
    refine lv_aload_n hx hb dX9_empty_0 rfl (lv_at hl 0 rfl) ?_
    refine lv_aload_n hx hb dX9_empty_1 rfl (lv_at hl 1 rfl) ?_
    refine va_put (D := D) (ci := 9) (v := .ref o0) (ty := .object "BusSeats$Cabin") (C := RX9) (T := TX9) (N := 3) hx hb hts kb_inX9 tyX9 tyX9_ok nmX9 hown hK.1 hP hD hS 0 rfl rfl 2 (by decide) (hK.2.w ww_2_58 rfl _) (fun _ h9 => h9) rfl (by decide +kernel) rfl rfl (Nat.le_of_ble_eq_true rfl) dX9_empty_2 (fun H locs hP hD hS => ?_)
    have hP : va_P D vwCl (w_Scene dA a o0 sc) H := hP
    have hD : va_D A (w_Scene dA a o0 sc) := hD
    refine lv_iconst (v := (0 : Int32)) hx hb dX9_empty_5 (by decide) ?_
    refine lv_istore_n (lv' := [(2, .int (0 : Int32)), (0, .ref (a 0)), (1, .ref o0)]) hx hb dX9_empty_6 rfl hl (by decide) rfl (fun ls hl => ?_)
    exact B_7 4096 _ _ _ _ _ hf hP hD hS (lv_sub hl [1, 0] rfl)
  exact E0 _ _ hP hD hS

noncomputable def f_X9_copyFrom (sc : SceneT) (so : SceneT) : Option (SceneT) := some ((sc_set_looks (sc_set_sitter sc (va_cpy (sc_sitter so) (sc_sitter sc) ((0 : Int32)).toNatClampNeg ((0 : Int32)).toNatClampNeg ((20 : Int32)).toNatClampNeg)) (va_cpy (sc_looks so) (sc_looks (sc_set_sitter sc (va_cpy (sc_sitter so) (sc_sitter sc) ((0 : Int32)).toNatClampNeg ((0 : Int32)).toNatClampNeg ((20 : Int32)).toNatClampNeg))) ((0 : Int32)).toNatClampNeg ((0 : Int32)).toNatClampNeg ((9 : Int32)).toNatClampNeg)))
set_option maxHeartbeats 4000000 in
set_option maxRecDepth 100000 in
theorem c_X9_copyFrom (l : Launch) (D : va_G) (dA : Nat → ClassId) (sz : Nat) (a : Nat → Nat) (b : Nat → Nat) (e0 : Nat) (e1 : Nat) (sc : SceneT) (so : SceneT) (u0 : SceneT) (hf : f_X9_copyFrom sc so = some (u0)) : kb_Mv l yX9_copyFrom cX9_copyFrom 2 none ({ frames := 1, cells := 0, slots := 0, locals := 64 } : Room) D dA [.ref (a 0), .ref (b 0)] sz (w_Scene dA a e0 sc ++ (w_Scene dA b e1 so)) 0 0 (w_Scene dA a e1 u0 ++ (w_Scene dA b e1 so)) := by
  refine Met.ofW (cc := cX9_copyFrom) (maxL := 2) (ret := none) (by decide) rfl ?_
  intro p e s m args below meth c s₁ B hml hv
  obtain ⟨rfl, hsz, hP, hK, hD0, hE⟩ := hv
  have hx := B.exec
  have hb := B.bytes
  have hr := B.returns
  have hown : s.vm.findClass RX9 = some m.cls := findClass_of_methodNamed B.named
  have hlocks := B.notSynchronized
  have hts : ∀ w ∈ kb_gw, w.before ([.ref (a 0), .ref (b 0)] : List Value).toArray s = true := fun w hw => hK.2.1 w hw _
  subst hsz
  have hD := hD0.self (sz := s.heap.size)
  generalize hAe : va_A (w_Scene dA a e0 sc ++ (w_Scene dA b e1 so)) s.heap.size = A at hD hE ⊢
  have hA : ∀ q : Nat, s.heap.size ≤ q → A q := fun q h => by rw [← hAe]; exact Or.inr h
  have hS : va_S A s.heap s.heap [] := va_S.rf
  have hl := lv_entry ([.ref (a 0), .ref (b 0)]) (n := 2) (Nat.le_of_ble_eq_true rfl)
  rw [lg_entry_eq]
  generalize (lg_sl ([.ref (a 0), .ref (b 0)]) ++ List.replicate (2 - (lg_sl ([.ref (a 0), .ref (b 0)])).length) Slot.unset).toArray = ls at hl ⊢
  have hl : lv_has ls 2 [(0, .ref (a 0)), (1, .ref (b 0))] := hl
  generalize hQ : MQ below (va_Qv (fun (_ : Unit) => True) (kb_B D A (w_Scene dA a e1 u0 ++ (w_Scene dA b e1 so))) A) ([.ref (a 0), .ref (b 0)] : List Value).toArray s 0 0 A = Q
  show W p l e ({ frames := 1, cells := 0, slots := 0, locals := 64 } : Room) s m ([.ref (a 0), .ref (b 0)] : List Value).toArray below meth c s.heap [] 0 0 Q (F0 m 0 ls [])
  have RET : ∀ (w0 : SceneT) (H : Heap) (locs : List Loc) (ls : Array Slot) (pc : Nat), some (w0) = some (u0) → va_P D vwCl (w_Scene dA a e1 w0 ++ (w_Scene dA b e1 so)) H → va_D A (w_Scene dA a e1 w0 ++ (w_Scene dA b e1 so)) → va_S A s.heap H locs → decode cX9_copyFrom pc = .ok (.return_, 1) → W p l e ({ frames := 1, cells := 0, slots := 0, locals := 64 } : Room) s m ([.ref (a 0), .ref (b 0)] : List Value).toArray below meth c H locs 0 0 Q (F0 m pc ls []) := by
    intro w0 H locs ls pc hq hP hD hS hd
    cases hq
    rw [← hQ]
    exact W.vret hx hb hr (fun t ht hW => ⟨⟨(), rfl, trivial, by rw [ht]; exact hP, hD⟩, hS.F ht⟩) hS.2.2 hd
  have E0 : ∀ (H : Heap) (locs : List Loc), va_P D vwCl (w_Scene dA a e0 sc ++ (w_Scene dA b e1 so)) H → va_D A (w_Scene dA a e0 sc ++ (w_Scene dA b e1 so)) → va_S A s.heap H locs → W p l e ({ frames := 1, cells := 0, slots := 0, locals := 64 } : Room) s m ([.ref (a 0), .ref (b 0)] : List Value).toArray below meth c H locs 0 0 Q (F0 m 0 ls []) := by
    intro H locs hP hD hS
    rw [f_X9_copyFrom] at hf
    refine lv_aload_n hx hb dX9_copyFrom_0 rfl (lv_at hl 0 rfl) ?_
    refine lv_aload_n hx hb dX9_copyFrom_1 rfl (lv_at hl 1 rfl) ?_
    refine va_get (D := D) (ci := 9) (v := .ref e1) (C := RX9) (T := TX9) (N := 3) hx hb hts kb_inX9 hown hK.1 hP 3 rfl rfl 2 (by decide) (hK.2.w ww_2_58 rfl _) (fun _ h9 => h9) rfl dX9_copyFrom_2 ?_
    refine va_put (D := D) (ci := 9) (v := .ref e1) (ty := .object "BusSeats$Cabin") (C := RX9) (T := TX9) (N := 3) hx hb hts kb_inX9 tyX9 tyX9_ok nmX9 hown hK.1 hP hD hS 0 rfl rfl 2 (by decide) (hK.2.w ww_2_58 rfl _) (fun _ h9 => h9) rfl (by decide +kernel) rfl rfl (Nat.le_of_ble_eq_true rfl) dX9_copyFrom_5 (fun H locs hP hD hS => ?_)
    have hP : va_P D vwCl (w_Scene dA a e1 sc ++ (w_Scene dA b e1 so)) H := hP
    have hD : va_D A (w_Scene dA a e1 sc ++ (w_Scene dA b e1 so)) := hD
    refine lv_aload_n hx hb dX9_copyFrom_8 rfl (lv_at hl 1 rfl) ?_
    refine va_get (D := D) (ci := 9) (v := .ref (b 1)) (C := RX9) (T := TX9) (N := 3) hx hb hts kb_inX9 hown hK.1 hP 3 rfl rfl 0 (by decide) (hK.2.w ww_2_51 rfl _) (fun _ h9 => h9) rfl dX9_copyFrom_9 ?_
    refine lv_iconst (v := (0 : Int32)) hx hb dX9_copyFrom_12 (by decide) ?_
    refine lv_aload_n hx hb dX9_copyFrom_13 rfl (lv_at hl 0 rfl) ?_
    refine va_get (D := D) (ci := 9) (v := .ref (a 1)) (C := RX9) (T := TX9) (N := 3) hx hb hts kb_inX9 hown hK.1 hP 0 rfl rfl 0 (by decide) (hK.2.w ww_2_51 rfl _) (fun _ h9 => h9) rfl dX9_copyFrom_14 ?_
    refine lv_iconst (v := (0 : Int32)) hx hb dX9_copyFrom_17 (by decide) ?_
    refine lv_bipush (v := (20 : Int32)) hx hb dX9_copyFrom_18 (by decide) ?_
    refine va_copyi (D := D) (ty := .int) hx hb (hml.trans hl.1.symm) hown (hK.2.w ww_4_138 rfl _) (hK.2.w ww_4_140 rfl _) (hK.2.w ww_4_139 rfl _) (hK.2.w ww_1_19 rfl _) hK.1 hP hD hS 4 1 0 0 rfl rfl rfl rfl rfl (by decide) (by decide) (by decide) (by decide) (by decide) (fun _ _ => rfl) (Nat.le_of_ble_eq_true rfl) (Nat.le_of_ble_eq_true rfl) dX9_copyFrom_20 (fun H locs hP hD hS => ?_)
    have hP : va_P D vwCl (w_Scene dA a e1 (sc_set_sitter sc (va_cpy (sc_sitter so) (sc_sitter sc) ((0 : Int32)).toNatClampNeg ((0 : Int32)).toNatClampNeg ((20 : Int32)).toNatClampNeg)) ++ (w_Scene dA b e1 so)) H := hP
    have hD : va_D A (w_Scene dA a e1 (sc_set_sitter sc (va_cpy (sc_sitter so) (sc_sitter sc) ((0 : Int32)).toNatClampNeg ((0 : Int32)).toNatClampNeg ((20 : Int32)).toNatClampNeg)) ++ (w_Scene dA b e1 so)) := hD
    refine lv_aload_n hx hb dX9_copyFrom_23 rfl (lv_at hl 1 rfl) ?_
    refine va_get (D := D) (ci := 9) (v := .ref (b 2)) (C := RX9) (T := TX9) (N := 3) hx hb hts kb_inX9 hown hK.1 hP 3 rfl rfl 1 (by decide) (hK.2.w ww_2_55 rfl _) (fun _ h9 => h9) rfl dX9_copyFrom_24 ?_
    refine lv_iconst (v := (0 : Int32)) hx hb dX9_copyFrom_27 (by decide) ?_
    refine lv_aload_n hx hb dX9_copyFrom_28 rfl (lv_at hl 0 rfl) ?_
    refine va_get (D := D) (ci := 9) (v := .ref (a 2)) (C := RX9) (T := TX9) (N := 3) hx hb hts kb_inX9 hown hK.1 hP 0 rfl rfl 1 (by decide) (hK.2.w ww_2_55 rfl _) (fun _ h9 => h9) rfl dX9_copyFrom_29 ?_
    refine lv_iconst (v := (0 : Int32)) hx hb dX9_copyFrom_32 (by decide) ?_
    refine lv_bipush (v := (9 : Int32)) hx hb dX9_copyFrom_33 (by decide) ?_
    refine va_copyi (D := D) (ty := .int) hx hb (hml.trans hl.1.symm) hown (hK.2.w ww_4_138 rfl _) (hK.2.w ww_4_140 rfl _) (hK.2.w ww_4_139 rfl _) (hK.2.w ww_1_19 rfl _) hK.1 hP hD hS 5 2 0 0 rfl rfl rfl rfl rfl (by decide) (by decide) (by decide) (by decide) (by decide) (fun _ _ => rfl) (Nat.le_of_ble_eq_true rfl) (Nat.le_of_ble_eq_true rfl) dX9_copyFrom_35 (fun H locs hP hD hS => ?_)
    have hP : va_P D vwCl (w_Scene dA a e1 (sc_set_looks (sc_set_sitter sc (va_cpy (sc_sitter so) (sc_sitter sc) ((0 : Int32)).toNatClampNeg ((0 : Int32)).toNatClampNeg ((20 : Int32)).toNatClampNeg)) (va_cpy (sc_looks so) (sc_looks (sc_set_sitter sc (va_cpy (sc_sitter so) (sc_sitter sc) ((0 : Int32)).toNatClampNeg ((0 : Int32)).toNatClampNeg ((20 : Int32)).toNatClampNeg))) ((0 : Int32)).toNatClampNeg ((0 : Int32)).toNatClampNeg ((9 : Int32)).toNatClampNeg)) ++ (w_Scene dA b e1 so)) H := hP
    have hD : va_D A (w_Scene dA a e1 (sc_set_looks (sc_set_sitter sc (va_cpy (sc_sitter so) (sc_sitter sc) ((0 : Int32)).toNatClampNeg ((0 : Int32)).toNatClampNeg ((20 : Int32)).toNatClampNeg)) (va_cpy (sc_looks so) (sc_looks (sc_set_sitter sc (va_cpy (sc_sitter so) (sc_sitter sc) ((0 : Int32)).toNatClampNeg ((0 : Int32)).toNatClampNeg ((20 : Int32)).toNatClampNeg))) ((0 : Int32)).toNatClampNeg ((0 : Int32)).toNatClampNeg ((9 : Int32)).toNatClampNeg)) ++ (w_Scene dA b e1 so)) := hD
    exact RET _ H _ ls 38 hf hP hD hS dX9_copyFrom_38
  exact E0 _ _ hP hD hS

noncomputable def f_X6_isFree_b29 (rd : RideT)  : Option (Int32) := some ((0 : Int32))
noncomputable def f_X6_isFree (rd : RideT) (x0 : Int32) : Option (Int32) := if kb_in? x0 20 then (if ((sc_sitter (rd_scene rd)) (x0).toNatClampNeg) = (-2 : Int32) then if kb_in? x0 20 then (if ((rd_luggage rd) (x0).toNatClampNeg) = (-2 : Int32) then some ((1 : Int32)) else f_X6_isFree_b29 rd ) else none else f_X6_isFree_b29 rd ) else none
set_option maxHeartbeats 4000000 in
set_option maxRecDepth 100000 in
theorem c_X6_isFree (l : Launch) (D : va_G) (dA : Nat → ClassId) (sz : Nat) (a : Nat → Nat) (e0 : Nat) (e1 : Nat) (rd : RideT) (x0 : Int32) (rv : Int32) (hf : f_X6_isFree rd x0 = some (rv)) : kb_Mi l yX6_isFree cX6_isFree 2 (some .boolean) ({ frames := 0, cells := 0, slots := 0, locals := 0 } : Room) D dA [.ref (a 0), .int x0] sz (w_Ride dA a e0 e1 rd) 0 0 rv (w_Ride dA a e0 e1 rd) := by
  refine Met.ofW (cc := cX6_isFree) (maxL := 2) (ret := (some .boolean)) (by decide) rfl ?_
  intro p e s m args below meth c s₁ B hml hv
  obtain ⟨rfl, hsz, hP, hK, hD0, hE⟩ := hv
  have hx := B.exec
  have hb := B.bytes
  have hr := B.returns
  have hown : s.vm.findClass RX6 = some m.cls := findClass_of_methodNamed B.named
  have hlocks := B.notSynchronized
  have hts : ∀ w ∈ kb_gw, w.before ([.ref (a 0), .int x0] : List Value).toArray s = true := fun w hw => hK.2.1 w hw _
  subst hsz
  have hD := hD0.self (sz := s.heap.size)
  generalize hAe : va_A (w_Ride dA a e0 e1 rd) s.heap.size = A at hD hE ⊢
  have hA : ∀ q : Nat, s.heap.size ≤ q → A q := fun q h => by rw [← hAe]; exact Or.inr h
  have hS : va_S A s.heap s.heap [] := va_S.rf
  have hl := lv_entry ([.ref (a 0), .int x0]) (n := 2) (Nat.le_of_ble_eq_true rfl)
  rw [lg_entry_eq]
  generalize (lg_sl ([.ref (a 0), .int x0]) ++ List.replicate (2 - (lg_sl ([.ref (a 0), .int x0])).length) Slot.unset).toArray = ls at hl ⊢
  have hl : lv_has ls 2 [(0, .ref (a 0)), (1, .int x0)] := hl
  generalize hQ : MQ below (va_Qi (fun r (_ : Unit) => r = rv) (kb_B D A (w_Ride dA a e0 e1 rd)) A) ([.ref (a 0), .int x0] : List Value).toArray s 0 0 A = Q
  show W p l e ({ frames := 0, cells := 0, slots := 0, locals := 0 } : Room) s m ([.ref (a 0), .int x0] : List Value).toArray below meth c s.heap [] 0 0 Q (F0 m 0 ls [])
  have RET : ∀ (r2 : Int32) (H : Heap) (locs : List Loc) (ls : Array Slot) (pc : Nat), some (r2) = some (rv) → va_P D vwCl (w_Ride dA a e0 e1 rd) H → va_D A (w_Ride dA a e0 e1 rd) → va_S A s.heap H locs → kb_01 r2 → decode cX6_isFree pc = .ok (.ireturn, 1) → W p l e ({ frames := 0, cells := 0, slots := 0, locals := 0 } : Room) s m ([.ref (a 0), .int x0] : List Value).toArray below meth c H locs 0 0 Q (F0 m pc ls [.int r2]) := by
    intro r2 H locs ls pc hq hP hD hS h01 hd
    cases hq
    rw [← hQ]
    exact W.zret (ty := .boolean) hx hb hr (kb_nz h01) (fun t ht hW => ⟨⟨_, (), rfl, rfl, by rw [ht]; exact hP, hD⟩, hS.F ht⟩) hS.2.2 hd
  have B_29 : ∀  (H : Heap) (locs : List Loc) (ls : Array Slot), f_X6_isFree_b29 rd  = some (rv) → va_P D vwCl (w_Ride dA a e0 e1 rd) H → va_D A (w_Ride dA a e0 e1 rd) → va_S A s.heap H locs → lv_has ls 2 [] → W p l e ({ frames := 0, cells := 0, slots := 0, locals := 0 } : Room) s m ([.ref (a 0), .int x0] : List Value).toArray below meth c H locs 0 0 Q (F0 m 29 ls []) := by
    intro  H locs ls hf hP hD hS hl
    rw [f_X6_isFree_b29] at hf
    refine lv_iconst (v := (0 : Int32)) hx hb dX6_isFree_29 (by decide) ?_
    exact RET _ H _ ls 30 hf hP hD hS (by decide) dX6_isFree_30
  have E0 : ∀ (H : Heap) (locs : List Loc), va_P D vwCl (w_Ride dA a e0 e1 rd) H → va_D A (w_Ride dA a e0 e1 rd) → va_S A s.heap H locs → W p l e ({ frames := 0, cells := 0, slots := 0, locals := 0 } : Room) s m ([.ref (a 0), .int x0] : List Value).toArray below meth c H locs 0 0 Q (F0 m 0 ls []) := by
    intro H locs hP hD hS
    rw [f_X6_isFree] at hf
    refine lv_aload_n hx hb dX6_isFree_0 rfl (lv_at hl 0 rfl) ?_
    refine va_get (D := D) (ci := 6) (v := .ref (a 1)) (C := RX6) (T := TX6) (N := 11) hx hb hts kb_inX6 hown hK.1 hP 0 rfl rfl 1 (by decide) (hK.2.w ww_2_67 rfl _) (fun _ h9 => h9) rfl dX6_isFree_1 ?_
    refine va_get (D := D) (ci := 9) (v := .ref (a 2)) (C := RX9) (T := TX9) (N := 3) hx hb hts kb_inX9 hown hK.1 hP 1 rfl rfl 0 (by decide) (hK.2.w ww_2_54 rfl _) (fun _ h9 => h9) rfl dX6_isFree_4 ?_
    refine lv_iload_n hx hb dX6_isFree_7 rfl (lv_at hl 1 rfl) ?_
    obtain ⟨h_1, hf⟩ := kb_if hf
    refine va_iald (D := D) hx hb hK.1 hP 2 0 rfl rfl h_1 dX6_isFree_8 ?_
    refine lv_bipush (v := (-2 : Int32)) hx hb dX6_isFree_9 (by decide) ?_
    refine lv_icmp_ne (tgt := 29) hx hb dX6_isFree_11 (by decide) (fun c_2 => ?_) (fun c_2 => ?_)
    · rw [if_neg c_2] at hf
      exact B_29 _ _ _ hf hP hD hS (lv_sub hl [] rfl)
    · rw [if_pos c_2] at hf
      refine lv_aload_n hx hb dX6_isFree_14 rfl (lv_at hl 0 rfl) ?_
      refine va_get (D := D) (ci := 6) (v := .ref (a 5)) (C := RX6) (T := TX6) (N := 11) hx hb hts kb_inX6 hown hK.1 hP 0 rfl rfl 3 (by decide) (hK.2.w ww_2_72 rfl _) (fun _ h9 => h9) rfl dX6_isFree_15 ?_
      refine lv_iload_n hx hb dX6_isFree_18 rfl (lv_at hl 1 rfl) ?_
      obtain ⟨h_3, hf⟩ := kb_if hf
      refine va_iald (D := D) hx hb hK.1 hP 5 0 rfl rfl h_3 dX6_isFree_19 ?_
      refine lv_bipush (v := (-2 : Int32)) hx hb dX6_isFree_20 (by decide) ?_
      refine lv_icmp_ne (tgt := 29) hx hb dX6_isFree_22 (by decide) (fun c_4 => ?_) (fun c_4 => ?_)
      · rw [if_neg c_4] at hf
        exact B_29 _ _ _ hf hP hD hS (lv_sub hl [] rfl)
      · rw [if_pos c_4] at hf
        refine lv_iconst (v := (1 : Int32)) hx hb dX6_isFree_25 (by decide) ?_
        refine lv_goto (tgt := 30) hx hb dX6_isFree_26 (by decide) ?_
        exact RET _ H _ ls 30 hf hP hD hS (by decide) dX6_isFree_30
  exact E0 _ _ hP hD hS

noncomputable def f_X6_shunning (rd : RideT) (x0 : Int32) : Option (Int32) := (f_X10_holdsBit (rd_joined rd) x0).bind fun r1 => (if r1 = 0 then some ((99 : Int32)) else if kb_in? x0 8 then some (((rd_passed rd) (x0).toNatClampNeg)) else none)
set_option maxHeartbeats 4000000 in
set_option maxRecDepth 100000 in
theorem c_X6_shunning (l : Launch) (D : va_G) (dA : Nat → ClassId) (sz : Nat) (a : Nat → Nat) (e0 : Nat) (e1 : Nat) (rd : RideT) (x0 : Int32) (rv : Int32) (hf : f_X6_shunning rd x0 = some (rv)) : kb_Mi l yX6_shunning cX6_shunning 2 (some .int) ({ frames := 1, cells := 0, slots := 0, locals := 21 } : Room) D dA [.ref (a 0), .int x0] sz (w_Ride dA a e0 e1 rd) 0 0 rv (w_Ride dA a e0 e1 rd) := by
  refine Met.ofW (cc := cX6_shunning) (maxL := 2) (ret := (some .int)) (by decide) rfl ?_
  intro p e s m args below meth c s₁ B hml hv
  obtain ⟨rfl, hsz, hP, hK, hD0, hE⟩ := hv
  have hx := B.exec
  have hb := B.bytes
  have hr := B.returns
  have hown : s.vm.findClass RX6 = some m.cls := findClass_of_methodNamed B.named
  have hlocks := B.notSynchronized
  have hts : ∀ w ∈ kb_gw, w.before ([.ref (a 0), .int x0] : List Value).toArray s = true := fun w hw => hK.2.1 w hw _
  subst hsz
  have hD := hD0.self (sz := s.heap.size)
  generalize hAe : va_A (w_Ride dA a e0 e1 rd) s.heap.size = A at hD hE ⊢
  have hA : ∀ q : Nat, s.heap.size ≤ q → A q := fun q h => by rw [← hAe]; exact Or.inr h
  have hS : va_S A s.heap s.heap [] := va_S.rf
  have hl := lv_entry ([.ref (a 0), .int x0]) (n := 2) (Nat.le_of_ble_eq_true rfl)
  rw [lg_entry_eq]
  generalize (lg_sl ([.ref (a 0), .int x0]) ++ List.replicate (2 - (lg_sl ([.ref (a 0), .int x0])).length) Slot.unset).toArray = ls at hl ⊢
  have hl : lv_has ls 2 [(0, .ref (a 0)), (1, .int x0)] := hl
  generalize hQ : MQ below (va_Qi (fun r (_ : Unit) => r = rv) (kb_B D A (w_Ride dA a e0 e1 rd)) A) ([.ref (a 0), .int x0] : List Value).toArray s 0 0 A = Q
  show W p l e ({ frames := 1, cells := 0, slots := 0, locals := 21 } : Room) s m ([.ref (a 0), .int x0] : List Value).toArray below meth c s.heap [] 0 0 Q (F0 m 0 ls [])
  have RET : ∀ (r2 : Int32) (H : Heap) (locs : List Loc) (ls : Array Slot) (pc : Nat), some (r2) = some (rv) → va_P D vwCl (w_Ride dA a e0 e1 rd) H → va_D A (w_Ride dA a e0 e1 rd) → va_S A s.heap H locs → decode cX6_shunning pc = .ok (.ireturn, 1) → W p l e ({ frames := 1, cells := 0, slots := 0, locals := 21 } : Room) s m ([.ref (a 0), .int x0] : List Value).toArray below meth c H locs 0 0 Q (F0 m pc ls [.int r2]) := by
    intro r2 H locs ls pc hq hP hD hS hd
    cases hq
    rw [← hQ]
    exact W.iret hx hb hr (fun t ht hW => ⟨⟨_, (), rfl, rfl, by rw [ht]; exact hP, hD⟩, hS.F ht⟩) hS.2.2 hd
  have E0 : ∀ (H : Heap) (locs : List Loc), va_P D vwCl (w_Ride dA a e0 e1 rd) H → va_D A (w_Ride dA a e0 e1 rd) → va_S A s.heap H locs → W p l e ({ frames := 1, cells := 0, slots := 0, locals := 21 } : Room) s m ([.ref (a 0), .int x0] : List Value).toArray below meth c H locs 0 0 Q (F0 m 0 ls []) := by
    intro H locs hP hD hS
    rw [f_X6_shunning] at hf
    refine lv_aload_n hx hb dX6_shunning_0 rfl (lv_at hl 0 rfl) ?_
    refine va_get (D := D) (ci := 6) (v := .int (rd_joined rd)) (C := RX6) (T := TX6) (N := 11) hx hb hts kb_inX6 hown hK.1 hP 0 rfl rfl 7 (by decide) (hK.2.w ww_2_80 rfl _) (fun _ h9 => h9) rfl dX6_shunning_1 ?_
    refine lv_iload_n hx hb dX6_shunning_4 rfl (lv_at hl 1 rfl) ?_
    obtain ⟨r1, hc1, hf⟩ := kb_bind hf
    refine kb_ci (ws2 := (w_Ride dA a e0 e1 rd)) (kb_rSN (n := 2) (As := [.int (rd_joined rd), .int x0]) (rest := []) hx hb hml hown hK (c_X10_holdsBit l D dA H.size (rd_joined rd) x0 r1 hc1) ⟨ww_3_158, ww_4_6, ww_3_157, ww_1_1, by decide, by decide⟩ rfl rfl (by decide +kernel) ⟨Nat.le_of_ble_eq_true rfl, Nat.le_of_ble_eq_true rfl⟩ hP hD hS hA hE [] rfl (by decide) rfl hl.1 rfl (Nat.le_of_ble_eq_true rfl) dX6_shunning_5 ⟨Nat.le_of_ble_eq_true rfl, Nat.le_of_ble_eq_true rfl⟩) hP hD hS hA [] [0, 1, 2, 3, 4, 5, 6, 7, 8] [0, 1, 2, 3, 4, 5, 6, 7, 8] rfl rfl (by decide) (by decide) rfl (by decide) (fun H locs hP hD hS => ?_)
    refine lv_if_eq (tgt := 20) hx hb dX6_shunning_8 (by decide) (fun c_2 => ?_) (fun c_2 => ?_)
    · rw [if_pos c_2] at hf
      refine lv_bipush (v := (99 : Int32)) hx hb dX6_shunning_20 (by decide) ?_
      exact RET _ H _ ls 22 hf hP hD hS dX6_shunning_22
    · rw [if_neg c_2] at hf
      refine lv_aload_n hx hb dX6_shunning_11 rfl (lv_at hl 0 rfl) ?_
      refine va_get (D := D) (ci := 6) (v := .ref (a 8)) (C := RX6) (T := TX6) (N := 11) hx hb hts kb_inX6 hown hK.1 hP 0 rfl rfl 6 (by decide) (hK.2.w ww_2_79 rfl _) (fun _ h9 => h9) rfl dX6_shunning_12 ?_
      refine lv_iload_n hx hb dX6_shunning_15 rfl (lv_at hl 1 rfl) ?_
      obtain ⟨h_3, hf⟩ := kb_if hf
      refine va_iald (D := D) hx hb hK.1 hP 8 0 rfl rfl h_3 dX6_shunning_16 ?_
      refine lv_goto (tgt := 22) hx hb dX6_shunning_17 (by decide) ?_
      exact RET _ H _ ls 22 hf hP hD hS dX6_shunning_22
  exact E0 _ _ hP hD hS

noncomputable def f_X6_bagSeats_b4 (rd : RideT) : Nat → Int32 → Int32 → Option (Int32)
  | 0, _, _ => none
  | n + 1, v1, v2 => (if (20 : Int32) ≤ v2 then some (v1) else if kb_in? v2 20 then (if ((rd_luggage rd) (v2).toNatClampNeg) = (-2 : Int32) then f_X6_bagSeats_b4 rd n v1 (v2 + (1 : Int32)) else f_X6_bagSeats_b4 rd n (v1 ||| ((1 : Int32) <<< (v2 &&& 31))) (v2 + (1 : Int32))) else none)
noncomputable def f_X6_bagSeats (rd : RideT) : Option (Int32) := f_X6_bagSeats_b4 rd 4096 (0 : Int32) (0 : Int32)
set_option maxHeartbeats 4000000 in
set_option maxRecDepth 100000 in
theorem c_X6_bagSeats (l : Launch) (D : va_G) (dA : Nat → ClassId) (sz : Nat) (a : Nat → Nat) (e0 : Nat) (e1 : Nat) (rd : RideT) (rv : Int32) (hf : f_X6_bagSeats rd = some (rv)) : kb_Mi l yX6_bagSeats cX6_bagSeats 3 (some .int) ({ frames := 0, cells := 0, slots := 0, locals := 0 } : Room) D dA [.ref (a 0)] sz (w_Ride dA a e0 e1 rd) 0 0 rv (w_Ride dA a e0 e1 rd) := by
  refine Met.ofW (cc := cX6_bagSeats) (maxL := 3) (ret := (some .int)) (by decide) rfl ?_
  intro p e s m args below meth c s₁ B hml hv
  obtain ⟨rfl, hsz, hP, hK, hD0, hE⟩ := hv
  have hx := B.exec
  have hb := B.bytes
  have hr := B.returns
  have hown : s.vm.findClass RX6 = some m.cls := findClass_of_methodNamed B.named
  have hlocks := B.notSynchronized
  have hts : ∀ w ∈ kb_gw, w.before ([.ref (a 0)] : List Value).toArray s = true := fun w hw => hK.2.1 w hw _
  subst hsz
  have hD := hD0.self (sz := s.heap.size)
  generalize hAe : va_A (w_Ride dA a e0 e1 rd) s.heap.size = A at hD hE ⊢
  have hA : ∀ q : Nat, s.heap.size ≤ q → A q := fun q h => by rw [← hAe]; exact Or.inr h
  have hS : va_S A s.heap s.heap [] := va_S.rf
  have hl := lv_entry ([.ref (a 0)]) (n := 3) (Nat.le_of_ble_eq_true rfl)
  rw [lg_entry_eq]
  generalize (lg_sl ([.ref (a 0)]) ++ List.replicate (3 - (lg_sl ([.ref (a 0)])).length) Slot.unset).toArray = ls at hl ⊢
  have hl : lv_has ls 3 [(0, .ref (a 0))] := hl
  generalize hQ : MQ below (va_Qi (fun r (_ : Unit) => r = rv) (kb_B D A (w_Ride dA a e0 e1 rd)) A) ([.ref (a 0)] : List Value).toArray s 0 0 A = Q
  show W p l e ({ frames := 0, cells := 0, slots := 0, locals := 0 } : Room) s m ([.ref (a 0)] : List Value).toArray below meth c s.heap [] 0 0 Q (F0 m 0 ls [])
  have RET : ∀ (r2 : Int32) (H : Heap) (locs : List Loc) (ls : Array Slot) (pc : Nat), some (r2) = some (rv) → va_P D vwCl (w_Ride dA a e0 e1 rd) H → va_D A (w_Ride dA a e0 e1 rd) → va_S A s.heap H locs → decode cX6_bagSeats pc = .ok (.ireturn, 1) → W p l e ({ frames := 0, cells := 0, slots := 0, locals := 0 } : Room) s m ([.ref (a 0)] : List Value).toArray below meth c H locs 0 0 Q (F0 m pc ls [.int r2]) := by
    intro r2 H locs ls pc hq hP hD hS hd
    cases hq
    rw [← hQ]
    exact W.iret hx hb hr (fun t ht hW => ⟨⟨_, (), rfl, rfl, by rw [ht]; exact hP, hD⟩, hS.F ht⟩) hS.2.2 hd
  have B_4 : ∀ (n : Nat) (v1 : Int32) (v2 : Int32) (H : Heap) (locs : List Loc) (ls : Array Slot), f_X6_bagSeats_b4 rd n v1 v2 = some (rv) → va_P D vwCl (w_Ride dA a e0 e1 rd) H → va_D A (w_Ride dA a e0 e1 rd) → va_S A s.heap H locs → lv_has ls 3 [(0, .ref (a 0)), (1, .int v1), (2, .int v2)] → W p l e ({ frames := 0, cells := 0, slots := 0, locals := 0 } : Room) s m ([.ref (a 0)] : List Value).toArray below meth c H locs 0 0 Q (F0 m 4 ls []) := by
    intro n
    induction n with
    | zero =>
      intro v1 v2 H locs ls hf
      exact absurd hf (by simp [f_X6_bagSeats_b4])
    | succ n ih =>
      intro v1 v2 H locs ls hf hP hD hS hl
      rw [f_X6_bagSeats_b4] at hf
      refine lv_iload_n hx hb dX6_bagSeats_4 rfl (lv_at hl 2 rfl) ?_
      refine lv_bipush (v := (20 : Int32)) hx hb dX6_bagSeats_5 (by decide) ?_
      refine lv_icmp_ge (tgt := 33) hx hb dX6_bagSeats_7 (by decide) (fun c_1 => ?_) (fun c_1 => ?_)
      · rw [if_pos c_1] at hf
        refine lv_iload_n hx hb dX6_bagSeats_33 rfl (lv_at hl 1 rfl) ?_
        exact RET _ H _ ls 34 hf hP hD hS dX6_bagSeats_34
      · rw [if_neg c_1] at hf
        refine lv_aload_n hx hb dX6_bagSeats_10 rfl (lv_at hl 0 rfl) ?_
        refine va_get (D := D) (ci := 6) (v := .ref (a 5)) (C := RX6) (T := TX6) (N := 11) hx hb hts kb_inX6 hown hK.1 hP 0 rfl rfl 3 (by decide) (hK.2.w ww_2_72 rfl _) (fun _ h9 => h9) rfl dX6_bagSeats_11 ?_
        refine lv_iload_n hx hb dX6_bagSeats_14 rfl (lv_at hl 2 rfl) ?_
        obtain ⟨h_2, hf⟩ := kb_if hf
        refine va_iald (D := D) hx hb hK.1 hP 5 0 rfl rfl h_2 dX6_bagSeats_15 ?_
        refine lv_bipush (v := (-2 : Int32)) hx hb dX6_bagSeats_16 (by decide) ?_
        refine lv_icmp_eq (tgt := 27) hx hb dX6_bagSeats_18 (by decide) (fun c_3 => ?_) (fun c_3 => ?_)
        · rw [if_pos c_3] at hf
          refine lv_iinc (v := (v2 + (1 : Int32))) (lv' := [(2, .int (v2 + (1 : Int32))), (0, .ref (a 0)), (1, .int v1)]) hx hb dX6_bagSeats_27 hl (k := 2) rfl (by rfl) (by decide) rfl (fun ls hl => ?_)
          refine lv_goto (tgt := 4) hx hb dX6_bagSeats_30 (by decide) ?_
          exact ih _ _ _ _ _ hf hP hD hS (lv_sub hl [1, 2, 0] rfl)
        · rw [if_neg c_3] at hf
          refine lv_iload_n hx hb dX6_bagSeats_21 rfl (lv_at hl 1 rfl) ?_
          refine lv_iconst (v := (1 : Int32)) hx hb dX6_bagSeats_22 (by decide) ?_
          refine lv_iload_n hx hb dX6_bagSeats_23 rfl (lv_at hl 2 rfl) ?_
          refine lv_ishl hx hb dX6_bagSeats_24 ?_
          refine lv_ior hx hb dX6_bagSeats_25 ?_
          refine lv_istore_n (lv' := [(1, .int (v1 ||| ((1 : Int32) <<< (v2 &&& 31)))), (0, .ref (a 0)), (2, .int v2)]) hx hb dX6_bagSeats_26 rfl hl (by decide) rfl (fun ls hl => ?_)
          refine lv_iinc (v := (v2 + (1 : Int32))) (lv' := [(2, .int (v2 + (1 : Int32))), (1, .int (v1 ||| ((1 : Int32) <<< (v2 &&& 31)))), (0, .ref (a 0))]) hx hb dX6_bagSeats_27 hl (k := 2) rfl (by rfl) (by decide) rfl (fun ls hl => ?_)
          refine lv_goto (tgt := 4) hx hb dX6_bagSeats_30 (by decide) ?_
          exact ih _ _ _ _ _ hf hP hD hS (lv_sub hl [2, 1, 0] rfl)
  have E0 : ∀ (H : Heap) (locs : List Loc), va_P D vwCl (w_Ride dA a e0 e1 rd) H → va_D A (w_Ride dA a e0 e1 rd) → va_S A s.heap H locs → W p l e ({ frames := 0, cells := 0, slots := 0, locals := 0 } : Room) s m ([.ref (a 0)] : List Value).toArray below meth c H locs 0 0 Q (F0 m 0 ls []) := by
    intro H locs hP hD hS
    rw [f_X6_bagSeats] at hf
    refine lv_iconst (v := (0 : Int32)) hx hb dX6_bagSeats_0 (by decide) ?_
    refine lv_istore_n (lv' := [(1, .int (0 : Int32)), (0, .ref (a 0))]) hx hb dX6_bagSeats_1 rfl hl (by decide) rfl (fun ls hl => ?_)
    refine lv_iconst (v := (0 : Int32)) hx hb dX6_bagSeats_2 (by decide) ?_
    refine lv_istore_n (lv' := [(2, .int (0 : Int32)), (1, .int (0 : Int32)), (0, .ref (a 0))]) hx hb dX6_bagSeats_3 rfl hl (by decide) rfl (fun ls hl => ?_)
    exact B_4 4096 _ _ _ _ _ hf hP hD hS (lv_sub hl [2, 1, 0] rfl)
  exact E0 _ _ hP hD hS

noncomputable def f_X6_freeSeats_b4 (rd : RideT) (pl : PlanT) : Nat → Int32 → Int32 → Option (Int32)
  | 0, _, _ => none
  | n + 1, v1, v2 => (if (20 : Int32) ≤ v2 then some (v1) else (f_X10_holdsBit (cb_seats (pl_cab pl)) v2).bind fun r2 => (if r2 = 0 then f_X6_freeSeats_b4 rd pl n v1 (v2 + (1 : Int32)) else (f_X6_isFree rd v2).bind fun r4 => (if r4 = 0 then f_X6_freeSeats_b4 rd pl n v1 (v2 + (1 : Int32)) else f_X6_freeSeats_b4 rd pl n (v1 ||| ((1 : Int32) <<< (v2 &&& 31))) (v2 + (1 : Int32)))))
noncomputable def f_X6_freeSeats (rd : RideT) (pl : PlanT) : Option (Int32) := f_X6_freeSeats_b4 rd pl 4096 (0 : Int32) (0 : Int32)
set_option maxHeartbeats 4000000 in
set_option maxRecDepth 100000 in
theorem c_X6_freeSeats (l : Launch) (D : va_G) (dA : Nat → ClassId) (sz : Nat) (a : Nat → Nat) (pa : Nat → Nat) (rd : RideT) (pl : PlanT) (rv : Int32) (hf : f_X6_freeSeats rd pl = some (rv)) : kb_Mi l yX6_freeSeats cX6_freeSeats 3 (some .int) ({ frames := 1, cells := 0, slots := 0, locals := 21 } : Room) D dA [.ref (a 0)] sz (w_Ride dA a (pa 0) (pa 1) rd ++ (w_Plan dA pa pl)) 0 0 rv (w_Ride dA a (pa 0) (pa 1) rd ++ (w_Plan dA pa pl)) := by
  refine Met.ofW (cc := cX6_freeSeats) (maxL := 3) (ret := (some .int)) (by decide) rfl ?_
  intro p e s m args below meth c s₁ B hml hv
  obtain ⟨rfl, hsz, hP, hK, hD0, hE⟩ := hv
  have hx := B.exec
  have hb := B.bytes
  have hr := B.returns
  have hown : s.vm.findClass RX6 = some m.cls := findClass_of_methodNamed B.named
  have hlocks := B.notSynchronized
  have hts : ∀ w ∈ kb_gw, w.before ([.ref (a 0)] : List Value).toArray s = true := fun w hw => hK.2.1 w hw _
  subst hsz
  have hD := hD0.self (sz := s.heap.size)
  generalize hAe : va_A (w_Ride dA a (pa 0) (pa 1) rd ++ (w_Plan dA pa pl)) s.heap.size = A at hD hE ⊢
  have hA : ∀ q : Nat, s.heap.size ≤ q → A q := fun q h => by rw [← hAe]; exact Or.inr h
  have hS : va_S A s.heap s.heap [] := va_S.rf
  have hl := lv_entry ([.ref (a 0)]) (n := 3) (Nat.le_of_ble_eq_true rfl)
  rw [lg_entry_eq]
  generalize (lg_sl ([.ref (a 0)]) ++ List.replicate (3 - (lg_sl ([.ref (a 0)])).length) Slot.unset).toArray = ls at hl ⊢
  have hl : lv_has ls 3 [(0, .ref (a 0))] := hl
  generalize hQ : MQ below (va_Qi (fun r (_ : Unit) => r = rv) (kb_B D A (w_Ride dA a (pa 0) (pa 1) rd ++ (w_Plan dA pa pl))) A) ([.ref (a 0)] : List Value).toArray s 0 0 A = Q
  show W p l e ({ frames := 1, cells := 0, slots := 0, locals := 21 } : Room) s m ([.ref (a 0)] : List Value).toArray below meth c s.heap [] 0 0 Q (F0 m 0 ls [])
  have RET : ∀ (r2 : Int32) (H : Heap) (locs : List Loc) (ls : Array Slot) (pc : Nat), some (r2) = some (rv) → va_P D vwCl (w_Ride dA a (pa 0) (pa 1) rd ++ (w_Plan dA pa pl)) H → va_D A (w_Ride dA a (pa 0) (pa 1) rd ++ (w_Plan dA pa pl)) → va_S A s.heap H locs → decode cX6_freeSeats pc = .ok (.ireturn, 1) → W p l e ({ frames := 1, cells := 0, slots := 0, locals := 21 } : Room) s m ([.ref (a 0)] : List Value).toArray below meth c H locs 0 0 Q (F0 m pc ls [.int r2]) := by
    intro r2 H locs ls pc hq hP hD hS hd
    cases hq
    rw [← hQ]
    exact W.iret hx hb hr (fun t ht hW => ⟨⟨_, (), rfl, rfl, by rw [ht]; exact hP, hD⟩, hS.F ht⟩) hS.2.2 hd
  have B_4 : ∀ (n : Nat) (v1 : Int32) (v2 : Int32) (H : Heap) (locs : List Loc) (ls : Array Slot), f_X6_freeSeats_b4 rd pl n v1 v2 = some (rv) → va_P D vwCl (w_Ride dA a (pa 0) (pa 1) rd ++ (w_Plan dA pa pl)) H → va_D A (w_Ride dA a (pa 0) (pa 1) rd ++ (w_Plan dA pa pl)) → va_S A s.heap H locs → lv_has ls 3 [(0, .ref (a 0)), (1, .int v1), (2, .int v2)] → W p l e ({ frames := 1, cells := 0, slots := 0, locals := 21 } : Room) s m ([.ref (a 0)] : List Value).toArray below meth c H locs 0 0 Q (F0 m 4 ls []) := by
    intro n
    induction n with
    | zero =>
      intro v1 v2 H locs ls hf
      exact absurd hf (by simp [f_X6_freeSeats_b4])
    | succ n ih =>
      intro v1 v2 H locs ls hf hP hD hS hl
      rw [f_X6_freeSeats_b4] at hf
      refine lv_iload_n hx hb dX6_freeSeats_4 rfl (lv_at hl 2 rfl) ?_
      refine lv_bipush (v := (20 : Int32)) hx hb dX6_freeSeats_5 (by decide) ?_
      refine lv_icmp_ge (tgt := 47) hx hb dX6_freeSeats_7 (by decide) (fun c_1 => ?_) (fun c_1 => ?_)
      · rw [if_pos c_1] at hf
        refine lv_iload_n hx hb dX6_freeSeats_47 rfl (lv_at hl 1 rfl) ?_
        exact RET _ H _ ls 48 hf hP hD hS dX6_freeSeats_48
      · rw [if_neg c_1] at hf
        refine lv_aload_n hx hb dX6_freeSeats_10 rfl (lv_at hl 0 rfl) ?_
        refine va_get (D := D) (ci := 6) (v := .ref (pa 0)) (C := RX6) (T := TX6) (N := 11) hx hb hts kb_inX6 hown hK.1 hP 0 rfl rfl 0 (by decide) (hK.2.w ww_2_66 rfl _) (fun _ h9 => h9) rfl dX6_freeSeats_11 ?_
        refine va_get (D := D) (ci := 5) (v := .ref (pa 1)) (C := RX5) (T := TX5) (N := 8) hx hb hts kb_inX5 hown hK.1 hP 9 rfl rfl 0 (by decide) (hK.2.w ww_1_214 rfl _) (fun _ h9 => h9) rfl dX6_freeSeats_14 ?_
        refine va_get (D := D) (ci := 0) (v := .int (cb_seats (pl_cab pl))) (C := RX0) (T := TX0) (N := 8) hx hb hts kb_inX0 hown hK.1 hP 10 rfl rfl 6 (by decide) (hK.2.w ww_1_106 rfl _) (fun _ h9 => h9) rfl dX6_freeSeats_17 ?_
        refine lv_iload_n hx hb dX6_freeSeats_20 rfl (lv_at hl 2 rfl) ?_
        obtain ⟨r2, hc2, hf⟩ := kb_bind hf
        refine kb_ci (ws2 := (w_Ride dA a (pa 0) (pa 1) rd ++ (w_Plan dA pa pl))) (kb_rSN (n := 2) (As := [.int (cb_seats (pl_cab pl)), .int v2]) (rest := []) hx hb hml hown hK (c_X10_holdsBit l D dA H.size (cb_seats (pl_cab pl)) v2 r2 hc2) ⟨ww_3_158, ww_4_6, ww_3_157, ww_1_1, by decide, by decide⟩ rfl rfl (by decide +kernel) ⟨Nat.le_of_ble_eq_true rfl, Nat.le_of_ble_eq_true rfl⟩ hP hD hS hA hE [] rfl (by decide) rfl hl.1 rfl (Nat.le_of_ble_eq_true rfl) dX6_freeSeats_21 ⟨Nat.le_of_ble_eq_true rfl, Nat.le_of_ble_eq_true rfl⟩) hP hD hS hA [] [0, 1, 2, 3, 4, 5, 6, 7, 8, 9, 10, 11, 12, 13, 14, 15, 16, 17, 18, 19, 20, 21, 22, 23, 24, 25, 26, 27, 28, 29] [0, 1, 2, 3, 4, 5, 6, 7, 8, 9, 10, 11, 12, 13, 14, 15, 16, 17, 18, 19, 20, 21, 22, 23, 24, 25, 26, 27, 28, 29] rfl rfl (by decide) (by decide) rfl (by decide) (fun H locs hP hD hS => ?_)
        refine lv_if_eq (tgt := 41) hx hb dX6_freeSeats_24 (by decide) (fun c_3 => ?_) (fun c_3 => ?_)
        · rw [if_pos c_3] at hf
          refine lv_iinc (v := (v2 + (1 : Int32))) (lv' := [(2, .int (v2 + (1 : Int32))), (0, .ref (a 0)), (1, .int v1)]) hx hb dX6_freeSeats_41 hl (k := 2) rfl (by rfl) (by decide) rfl (fun ls hl => ?_)
          refine lv_goto (tgt := 4) hx hb dX6_freeSeats_44 (by decide) ?_
          exact ih _ _ _ _ _ hf hP hD hS (lv_sub hl [1, 2, 0] rfl)
        · rw [if_neg c_3] at hf
          refine lv_aload_n hx hb dX6_freeSeats_27 rfl (lv_at hl 0 rfl) ?_
          refine lv_iload_n hx hb dX6_freeSeats_28 rfl (lv_at hl 2 rfl) ?_
          obtain ⟨r4, hc4, hf⟩ := kb_bind hf
          refine kb_ci (ws2 := (w_Ride dA a (pa 0) (pa 1) rd ++ (w_Plan dA pa pl))) (kb_rV (n := 1) (As := [.int v2]) (rest := []) hx hb hml hown hK (c_X6_isFree l D dA H.size a (pa 0) (pa 1) rd v2 r4 hc4) ⟨ww_4_10, ww_4_7, ww_4_9, ws_28, ww_1_8, rfl, by decide, by decide⟩ rfl rfl (by decide +kernel) ⟨Nat.le_of_ble_eq_true rfl, Nat.le_of_ble_eq_true rfl⟩ hP hD hS hA hE [0, 1, 2, 3, 4, 5, 6, 7, 8] rfl (by decide) 0 rfl rfl rfl hl.1 rfl (Nat.le_of_ble_eq_true rfl) dX6_freeSeats_29 ⟨Nat.le_of_ble_eq_true rfl, Nat.le_of_ble_eq_true rfl⟩) hP hD hS hA [0, 1, 2, 3, 4, 5, 6, 7, 8] [9, 10, 11, 12, 13, 14, 15, 16, 17, 18, 19, 20, 21, 22, 23, 24, 25, 26, 27, 28, 29] [21, 22, 23, 24, 25, 26, 27, 28, 29, 0, 1, 2, 3, 4, 5, 6, 7, 8, 9, 10, 11, 12, 13, 14, 15, 16, 17, 18, 19, 20] rfl rfl (by decide) (by decide) rfl (by decide) (fun H locs hP hD hS => ?_)
          refine lv_if_eq (tgt := 41) hx hb dX6_freeSeats_32 (by decide) (fun c_5 => ?_) (fun c_5 => ?_)
          · rw [if_pos c_5] at hf
            refine lv_iinc (v := (v2 + (1 : Int32))) (lv' := [(2, .int (v2 + (1 : Int32))), (0, .ref (a 0)), (1, .int v1)]) hx hb dX6_freeSeats_41 hl (k := 2) rfl (by rfl) (by decide) rfl (fun ls hl => ?_)
            refine lv_goto (tgt := 4) hx hb dX6_freeSeats_44 (by decide) ?_
            exact ih _ _ _ _ _ hf hP hD hS (lv_sub hl [1, 2, 0] rfl)
          · rw [if_neg c_5] at hf
            refine lv_iload_n hx hb dX6_freeSeats_35 rfl (lv_at hl 1 rfl) ?_
            refine lv_iconst (v := (1 : Int32)) hx hb dX6_freeSeats_36 (by decide) ?_
            refine lv_iload_n hx hb dX6_freeSeats_37 rfl (lv_at hl 2 rfl) ?_
            refine lv_ishl hx hb dX6_freeSeats_38 ?_
            refine lv_ior hx hb dX6_freeSeats_39 ?_
            refine lv_istore_n (lv' := [(1, .int (v1 ||| ((1 : Int32) <<< (v2 &&& 31)))), (0, .ref (a 0)), (2, .int v2)]) hx hb dX6_freeSeats_40 rfl hl (by decide) rfl (fun ls hl => ?_)
            refine lv_iinc (v := (v2 + (1 : Int32))) (lv' := [(2, .int (v2 + (1 : Int32))), (1, .int (v1 ||| ((1 : Int32) <<< (v2 &&& 31)))), (0, .ref (a 0))]) hx hb dX6_freeSeats_41 hl (k := 2) rfl (by rfl) (by decide) rfl (fun ls hl => ?_)
            refine lv_goto (tgt := 4) hx hb dX6_freeSeats_44 (by decide) ?_
            exact ih _ _ _ _ _ hf hP hD hS (lv_sub hl [2, 1, 0] rfl)
  have E0 : ∀ (H : Heap) (locs : List Loc), va_P D vwCl (w_Ride dA a (pa 0) (pa 1) rd ++ (w_Plan dA pa pl)) H → va_D A (w_Ride dA a (pa 0) (pa 1) rd ++ (w_Plan dA pa pl)) → va_S A s.heap H locs → W p l e ({ frames := 1, cells := 0, slots := 0, locals := 21 } : Room) s m ([.ref (a 0)] : List Value).toArray below meth c H locs 0 0 Q (F0 m 0 ls []) := by
    intro H locs hP hD hS
    rw [f_X6_freeSeats] at hf
    refine lv_iconst (v := (0 : Int32)) hx hb dX6_freeSeats_0 (by decide) ?_
    refine lv_istore_n (lv' := [(1, .int (0 : Int32)), (0, .ref (a 0))]) hx hb dX6_freeSeats_1 rfl hl (by decide) rfl (fun ls hl => ?_)
    refine lv_iconst (v := (0 : Int32)) hx hb dX6_freeSeats_2 (by decide) ?_
    refine lv_istore_n (lv' := [(2, .int (0 : Int32)), (1, .int (0 : Int32)), (0, .ref (a 0))]) hx hb dX6_freeSeats_3 rfl hl (by decide) rfl (fun ls hl => ?_)
    exact B_4 4096 _ _ _ _ _ hf hP hD hS (lv_sub hl [2, 1, 0] rfl)
  exact E0 _ _ hP hD hS

noncomputable def f_X6_standers_b4 (rd : RideT) (pl : PlanT) : Nat → Int32 → Int32 → Option (Int32)
  | 0, _, _ => none
  | n + 1, v1, v2 => (if (pl_riderCount pl) ≤ v2 then some (v1) else if kb_in? v2 8 then (if ((rd_place rd) (v2).toNatClampNeg) = (101 : Int32) then f_X6_standers_b4 rd pl n (v1 ||| ((1 : Int32) <<< (v2 &&& 31))) (v2 + (1 : Int32)) else f_X6_standers_b4 rd pl n v1 (v2 + (1 : Int32))) else none)
noncomputable def f_X6_standers (rd : RideT) (pl : PlanT) : Option (Int32) := f_X6_standers_b4 rd pl 4096 (0 : Int32) (0 : Int32)
set_option maxHeartbeats 4000000 in
set_option maxRecDepth 100000 in
theorem c_X6_standers (l : Launch) (D : va_G) (dA : Nat → ClassId) (sz : Nat) (a : Nat → Nat) (pa : Nat → Nat) (rd : RideT) (pl : PlanT) (rv : Int32) (hf : f_X6_standers rd pl = some (rv)) : kb_Mi l yX6_standers cX6_standers 3 (some .int) ({ frames := 0, cells := 0, slots := 0, locals := 0 } : Room) D dA [.ref (a 0)] sz (w_Ride dA a (pa 0) (pa 1) rd ++ (w_Plan dA pa pl)) 0 0 rv (w_Ride dA a (pa 0) (pa 1) rd ++ (w_Plan dA pa pl)) := by
  refine Met.ofW (cc := cX6_standers) (maxL := 3) (ret := (some .int)) (by decide) rfl ?_
  intro p e s m args below meth c s₁ B hml hv
  obtain ⟨rfl, hsz, hP, hK, hD0, hE⟩ := hv
  have hx := B.exec
  have hb := B.bytes
  have hr := B.returns
  have hown : s.vm.findClass RX6 = some m.cls := findClass_of_methodNamed B.named
  have hlocks := B.notSynchronized
  have hts : ∀ w ∈ kb_gw, w.before ([.ref (a 0)] : List Value).toArray s = true := fun w hw => hK.2.1 w hw _
  subst hsz
  have hD := hD0.self (sz := s.heap.size)
  generalize hAe : va_A (w_Ride dA a (pa 0) (pa 1) rd ++ (w_Plan dA pa pl)) s.heap.size = A at hD hE ⊢
  have hA : ∀ q : Nat, s.heap.size ≤ q → A q := fun q h => by rw [← hAe]; exact Or.inr h
  have hS : va_S A s.heap s.heap [] := va_S.rf
  have hl := lv_entry ([.ref (a 0)]) (n := 3) (Nat.le_of_ble_eq_true rfl)
  rw [lg_entry_eq]
  generalize (lg_sl ([.ref (a 0)]) ++ List.replicate (3 - (lg_sl ([.ref (a 0)])).length) Slot.unset).toArray = ls at hl ⊢
  have hl : lv_has ls 3 [(0, .ref (a 0))] := hl
  generalize hQ : MQ below (va_Qi (fun r (_ : Unit) => r = rv) (kb_B D A (w_Ride dA a (pa 0) (pa 1) rd ++ (w_Plan dA pa pl))) A) ([.ref (a 0)] : List Value).toArray s 0 0 A = Q
  show W p l e ({ frames := 0, cells := 0, slots := 0, locals := 0 } : Room) s m ([.ref (a 0)] : List Value).toArray below meth c s.heap [] 0 0 Q (F0 m 0 ls [])
  have RET : ∀ (r2 : Int32) (H : Heap) (locs : List Loc) (ls : Array Slot) (pc : Nat), some (r2) = some (rv) → va_P D vwCl (w_Ride dA a (pa 0) (pa 1) rd ++ (w_Plan dA pa pl)) H → va_D A (w_Ride dA a (pa 0) (pa 1) rd ++ (w_Plan dA pa pl)) → va_S A s.heap H locs → decode cX6_standers pc = .ok (.ireturn, 1) → W p l e ({ frames := 0, cells := 0, slots := 0, locals := 0 } : Room) s m ([.ref (a 0)] : List Value).toArray below meth c H locs 0 0 Q (F0 m pc ls [.int r2]) := by
    intro r2 H locs ls pc hq hP hD hS hd
    cases hq
    rw [← hQ]
    exact W.iret hx hb hr (fun t ht hW => ⟨⟨_, (), rfl, rfl, by rw [ht]; exact hP, hD⟩, hS.F ht⟩) hS.2.2 hd
  have B_4 : ∀ (n : Nat) (v1 : Int32) (v2 : Int32) (H : Heap) (locs : List Loc) (ls : Array Slot), f_X6_standers_b4 rd pl n v1 v2 = some (rv) → va_P D vwCl (w_Ride dA a (pa 0) (pa 1) rd ++ (w_Plan dA pa pl)) H → va_D A (w_Ride dA a (pa 0) (pa 1) rd ++ (w_Plan dA pa pl)) → va_S A s.heap H locs → lv_has ls 3 [(0, .ref (a 0)), (1, .int v1), (2, .int v2)] → W p l e ({ frames := 0, cells := 0, slots := 0, locals := 0 } : Room) s m ([.ref (a 0)] : List Value).toArray below meth c H locs 0 0 Q (F0 m 4 ls []) := by
    intro n
    induction n with
    | zero =>
      intro v1 v2 H locs ls hf
      exact absurd hf (by simp [f_X6_standers_b4])
    | succ n ih =>
      intro v1 v2 H locs ls hf hP hD hS hl
      rw [f_X6_standers_b4] at hf
      refine lv_iload_n hx hb dX6_standers_4 rfl (lv_at hl 2 rfl) ?_
      refine lv_aload_n hx hb dX6_standers_5 rfl (lv_at hl 0 rfl) ?_
      refine va_get (D := D) (ci := 6) (v := .ref (pa 0)) (C := RX6) (T := TX6) (N := 11) hx hb hts kb_inX6 hown hK.1 hP 0 rfl rfl 0 (by decide) (hK.2.w ww_2_66 rfl _) (fun _ h9 => h9) rfl dX6_standers_6 ?_
      refine va_get (D := D) (ci := 5) (v := .int (pl_riderCount pl)) (C := RX5) (T := TX5) (N := 8) hx hb hts kb_inX5 hown hK.1 hP 9 rfl rfl 5 (by decide) (hK.2.w ww_1_234 rfl _) (fun _ h9 => h9) rfl dX6_standers_9 ?_
      refine lv_icmp_ge (tgt := 38) hx hb dX6_standers_12 (by decide) (fun c_1 => ?_) (fun c_1 => ?_)
      · rw [if_pos c_1] at hf
        refine lv_iload_n hx hb dX6_standers_38 rfl (lv_at hl 1 rfl) ?_
        exact RET _ H _ ls 39 hf hP hD hS dX6_standers_39
      · rw [if_neg c_1] at hf
        refine lv_aload_n hx hb dX6_standers_15 rfl (lv_at hl 0 rfl) ?_
        refine va_get (D := D) (ci := 6) (v := .ref (a 4)) (C := RX6) (T := TX6) (N := 11) hx hb hts kb_inX6 hown hK.1 hP 0 rfl rfl 2 (by decide) (hK.2.w ww_2_70 rfl _) (fun _ h9 => h9) rfl dX6_standers_16 ?_
        refine lv_iload_n hx hb dX6_standers_19 rfl (lv_at hl 2 rfl) ?_
        obtain ⟨h_2, hf⟩ := kb_if hf
        refine va_iald (D := D) hx hb hK.1 hP 4 0 rfl rfl h_2 dX6_standers_20 ?_
        refine lv_bipush (v := (101 : Int32)) hx hb dX6_standers_21 (by decide) ?_
        refine lv_icmp_ne (tgt := 32) hx hb dX6_standers_23 (by decide) (fun c_3 => ?_) (fun c_3 => ?_)
        · rw [if_neg c_3] at hf
          refine lv_iinc (v := (v2 + (1 : Int32))) (lv' := [(2, .int (v2 + (1 : Int32))), (0, .ref (a 0)), (1, .int v1)]) hx hb dX6_standers_32 hl (k := 2) rfl (by rfl) (by decide) rfl (fun ls hl => ?_)
          refine lv_goto (tgt := 4) hx hb dX6_standers_35 (by decide) ?_
          exact ih _ _ _ _ _ hf hP hD hS (lv_sub hl [1, 2, 0] rfl)
        · rw [if_pos c_3] at hf
          refine lv_iload_n hx hb dX6_standers_26 rfl (lv_at hl 1 rfl) ?_
          refine lv_iconst (v := (1 : Int32)) hx hb dX6_standers_27 (by decide) ?_
          refine lv_iload_n hx hb dX6_standers_28 rfl (lv_at hl 2 rfl) ?_
          refine lv_ishl hx hb dX6_standers_29 ?_
          refine lv_ior hx hb dX6_standers_30 ?_
          refine lv_istore_n (lv' := [(1, .int (v1 ||| ((1 : Int32) <<< (v2 &&& 31)))), (0, .ref (a 0)), (2, .int v2)]) hx hb dX6_standers_31 rfl hl (by decide) rfl (fun ls hl => ?_)
          refine lv_iinc (v := (v2 + (1 : Int32))) (lv' := [(2, .int (v2 + (1 : Int32))), (1, .int (v1 ||| ((1 : Int32) <<< (v2 &&& 31)))), (0, .ref (a 0))]) hx hb dX6_standers_32 hl (k := 2) rfl (by rfl) (by decide) rfl (fun ls hl => ?_)
          refine lv_goto (tgt := 4) hx hb dX6_standers_35 (by decide) ?_
          exact ih _ _ _ _ _ hf hP hD hS (lv_sub hl [2, 1, 0] rfl)
  have E0 : ∀ (H : Heap) (locs : List Loc), va_P D vwCl (w_Ride dA a (pa 0) (pa 1) rd ++ (w_Plan dA pa pl)) H → va_D A (w_Ride dA a (pa 0) (pa 1) rd ++ (w_Plan dA pa pl)) → va_S A s.heap H locs → W p l e ({ frames := 0, cells := 0, slots := 0, locals := 0 } : Room) s m ([.ref (a 0)] : List Value).toArray below meth c H locs 0 0 Q (F0 m 0 ls []) := by
    intro H locs hP hD hS
    rw [f_X6_standers] at hf
    refine lv_iconst (v := (0 : Int32)) hx hb dX6_standers_0 (by decide) ?_
    refine lv_istore_n (lv' := [(1, .int (0 : Int32)), (0, .ref (a 0))]) hx hb dX6_standers_1 rfl hl (by decide) rfl (fun ls hl => ?_)
    refine lv_iconst (v := (0 : Int32)) hx hb dX6_standers_2 (by decide) ?_
    refine lv_istore_n (lv' := [(2, .int (0 : Int32)), (1, .int (0 : Int32)), (0, .ref (a 0))]) hx hb dX6_standers_3 rfl hl (by decide) rfl (fun ls hl => ?_)
    exact B_4 4096 _ _ _ _ _ hf hP hD hS (lv_sub hl [2, 1, 0] rfl)
  exact E0 _ _ hP hD hS

noncomputable def f_X6_standerAt_b4 (rd : RideT) (pl : PlanT) : Nat → Int32 → Int32 → Int32 → Option (Int32)
  | 0, _, _, _ => none
  | n + 1, v1, v2, v3 => (if (pl_riderCount pl) ≤ v3 then some ((-1 : Int32)) else if kb_in? v3 8 then (if ((rd_place rd) (v3).toNatClampNeg) = (101 : Int32) then (if v2 = v1 then some (v3) else f_X6_standerAt_b4 rd pl n v1 (v2 + (1 : Int32)) (v3 + (1 : Int32))) else f_X6_standerAt_b4 rd pl n v1 v2 (v3 + (1 : Int32))) else none)
noncomputable def f_X6_standerAt (rd : RideT) (pl : PlanT) (x0 : Int32) : Option (Int32) := f_X6_standerAt_b4 rd pl 4096 x0 (0 : Int32) (0 : Int32)
set_option maxHeartbeats 4000000 in
set_option maxRecDepth 100000 in
theorem c_X6_standerAt (l : Launch) (D : va_G) (dA : Nat → ClassId) (sz : Nat) (a : Nat → Nat) (pa : Nat → Nat) (rd : RideT) (pl : PlanT) (x0 : Int32) (rv : Int32) (hf : f_X6_standerAt rd pl x0 = some (rv)) : kb_Mi l yX6_standerAt cX6_standerAt 4 (some .int) ({ frames := 0, cells := 0, slots := 0, locals := 0 } : Room) D dA [.ref (a 0), .int x0] sz (w_Ride dA a (pa 0) (pa 1) rd ++ (w_Plan dA pa pl)) 0 0 rv (w_Ride dA a (pa 0) (pa 1) rd ++ (w_Plan dA pa pl)) := by
  refine Met.ofW (cc := cX6_standerAt) (maxL := 4) (ret := (some .int)) (by decide) rfl ?_
  intro p e s m args below meth c s₁ B hml hv
  obtain ⟨rfl, hsz, hP, hK, hD0, hE⟩ := hv
  have hx := B.exec
  have hb := B.bytes
  have hr := B.returns
  have hown : s.vm.findClass RX6 = some m.cls := findClass_of_methodNamed B.named
  have hlocks := B.notSynchronized
  have hts : ∀ w ∈ kb_gw, w.before ([.ref (a 0), .int x0] : List Value).toArray s = true := fun w hw => hK.2.1 w hw _
  subst hsz
  have hD := hD0.self (sz := s.heap.size)
  generalize hAe : va_A (w_Ride dA a (pa 0) (pa 1) rd ++ (w_Plan dA pa pl)) s.heap.size = A at hD hE ⊢
  have hA : ∀ q : Nat, s.heap.size ≤ q → A q := fun q h => by rw [← hAe]; exact Or.inr h
  have hS : va_S A s.heap s.heap [] := va_S.rf
  have hl := lv_entry ([.ref (a 0), .int x0]) (n := 4) (Nat.le_of_ble_eq_true rfl)
  rw [lg_entry_eq]
  generalize (lg_sl ([.ref (a 0), .int x0]) ++ List.replicate (4 - (lg_sl ([.ref (a 0), .int x0])).length) Slot.unset).toArray = ls at hl ⊢
  have hl : lv_has ls 4 [(0, .ref (a 0)), (1, .int x0)] := hl
  generalize hQ : MQ below (va_Qi (fun r (_ : Unit) => r = rv) (kb_B D A (w_Ride dA a (pa 0) (pa 1) rd ++ (w_Plan dA pa pl))) A) ([.ref (a 0), .int x0] : List Value).toArray s 0 0 A = Q
  show W p l e ({ frames := 0, cells := 0, slots := 0, locals := 0 } : Room) s m ([.ref (a 0), .int x0] : List Value).toArray below meth c s.heap [] 0 0 Q (F0 m 0 ls [])
  have RET : ∀ (r2 : Int32) (H : Heap) (locs : List Loc) (ls : Array Slot) (pc : Nat), some (r2) = some (rv) → va_P D vwCl (w_Ride dA a (pa 0) (pa 1) rd ++ (w_Plan dA pa pl)) H → va_D A (w_Ride dA a (pa 0) (pa 1) rd ++ (w_Plan dA pa pl)) → va_S A s.heap H locs → decode cX6_standerAt pc = .ok (.ireturn, 1) → W p l e ({ frames := 0, cells := 0, slots := 0, locals := 0 } : Room) s m ([.ref (a 0), .int x0] : List Value).toArray below meth c H locs 0 0 Q (F0 m pc ls [.int r2]) := by
    intro r2 H locs ls pc hq hP hD hS hd
    cases hq
    rw [← hQ]
    exact W.iret hx hb hr (fun t ht hW => ⟨⟨_, (), rfl, rfl, by rw [ht]; exact hP, hD⟩, hS.F ht⟩) hS.2.2 hd
  have B_4 : ∀ (n : Nat) (v1 : Int32) (v2 : Int32) (v3 : Int32) (H : Heap) (locs : List Loc) (ls : Array Slot), f_X6_standerAt_b4 rd pl n v1 v2 v3 = some (rv) → va_P D vwCl (w_Ride dA a (pa 0) (pa 1) rd ++ (w_Plan dA pa pl)) H → va_D A (w_Ride dA a (pa 0) (pa 1) rd ++ (w_Plan dA pa pl)) → va_S A s.heap H locs → lv_has ls 4 [(0, .ref (a 0)), (1, .int v1), (2, .int v2), (3, .int v3)] → W p l e ({ frames := 0, cells := 0, slots := 0, locals := 0 } : Room) s m ([.ref (a 0), .int x0] : List Value).toArray below meth c H locs 0 0 Q (F0 m 4 ls []) := by
    intro n
    induction n with
    | zero =>
      intro v1 v2 v3 H locs ls hf
      exact absurd hf (by simp [f_X6_standerAt_b4])
    | succ n ih =>
      intro v1 v2 v3 H locs ls hf hP hD hS hl
      rw [f_X6_standerAt_b4] at hf
      refine lv_iload_n hx hb dX6_standerAt_4 rfl (lv_at hl 3 rfl) ?_
      refine lv_aload_n hx hb dX6_standerAt_5 rfl (lv_at hl 0 rfl) ?_
      refine va_get (D := D) (ci := 6) (v := .ref (pa 0)) (C := RX6) (T := TX6) (N := 11) hx hb hts kb_inX6 hown hK.1 hP 0 rfl rfl 0 (by decide) (hK.2.w ww_2_66 rfl _) (fun _ h9 => h9) rfl dX6_standerAt_6 ?_
      refine va_get (D := D) (ci := 5) (v := .int (pl_riderCount pl)) (C := RX5) (T := TX5) (N := 8) hx hb hts kb_inX5 hown hK.1 hP 9 rfl rfl 5 (by decide) (hK.2.w ww_1_234 rfl _) (fun _ h9 => h9) rfl dX6_standerAt_9 ?_
      refine lv_icmp_ge (tgt := 42) hx hb dX6_standerAt_12 (by decide) (fun c_1 => ?_) (fun c_1 => ?_)
      · rw [if_pos c_1] at hf
        refine lv_iconst (v := (-1 : Int32)) hx hb dX6_standerAt_42 (by decide) ?_
        exact RET _ H _ ls 43 hf hP hD hS dX6_standerAt_43
      · rw [if_neg c_1] at hf
        refine lv_aload_n hx hb dX6_standerAt_15 rfl (lv_at hl 0 rfl) ?_
        refine va_get (D := D) (ci := 6) (v := .ref (a 4)) (C := RX6) (T := TX6) (N := 11) hx hb hts kb_inX6 hown hK.1 hP 0 rfl rfl 2 (by decide) (hK.2.w ww_2_70 rfl _) (fun _ h9 => h9) rfl dX6_standerAt_16 ?_
        refine lv_iload_n hx hb dX6_standerAt_19 rfl (lv_at hl 3 rfl) ?_
        obtain ⟨h_2, hf⟩ := kb_if hf
        refine va_iald (D := D) hx hb hK.1 hP 4 0 rfl rfl h_2 dX6_standerAt_20 ?_
        refine lv_bipush (v := (101 : Int32)) hx hb dX6_standerAt_21 (by decide) ?_
        refine lv_icmp_ne (tgt := 36) hx hb dX6_standerAt_23 (by decide) (fun c_3 => ?_) (fun c_3 => ?_)
        · rw [if_neg c_3] at hf
          refine lv_iinc (v := (v3 + (1 : Int32))) (lv' := [(3, .int (v3 + (1 : Int32))), (0, .ref (a 0)), (1, .int v1), (2, .int v2)]) hx hb dX6_standerAt_36 hl (k := 3) rfl (by rfl) (by decide) rfl (fun ls hl => ?_)
          refine lv_goto (tgt := 4) hx hb dX6_standerAt_39 (by decide) ?_
          exact ih _ _ _ _ _ _ hf hP hD hS (lv_sub hl [1, 2, 3, 0] rfl)
        · rw [if_pos c_3] at hf
          refine lv_iload_n hx hb dX6_standerAt_26 rfl (lv_at hl 2 rfl) ?_
          refine lv_iload_n hx hb dX6_standerAt_27 rfl (lv_at hl 1 rfl) ?_
          refine lv_icmp_ne (tgt := 33) hx hb dX6_standerAt_28 (by decide) (fun c_4 => ?_) (fun c_4 => ?_)
          · rw [if_neg c_4] at hf
            refine lv_iinc (v := (v2 + (1 : Int32))) (lv' := [(2, .int (v2 + (1 : Int32))), (0, .ref (a 0)), (1, .int v1), (3, .int v3)]) hx hb dX6_standerAt_33 hl (k := 2) rfl (by rfl) (by decide) rfl (fun ls hl => ?_)
            refine lv_iinc (v := (v3 + (1 : Int32))) (lv' := [(3, .int (v3 + (1 : Int32))), (2, .int (v2 + (1 : Int32))), (0, .ref (a 0)), (1, .int v1)]) hx hb dX6_standerAt_36 hl (k := 3) rfl (by rfl) (by decide) rfl (fun ls hl => ?_)
            refine lv_goto (tgt := 4) hx hb dX6_standerAt_39 (by decide) ?_
            exact ih _ _ _ _ _ _ hf hP hD hS (lv_sub hl [2, 3, 1, 0] rfl)
          · rw [if_pos c_4] at hf
            refine lv_iload_n hx hb dX6_standerAt_31 rfl (lv_at hl 3 rfl) ?_
            exact RET _ H _ ls 32 hf hP hD hS dX6_standerAt_32
  have E0 : ∀ (H : Heap) (locs : List Loc), va_P D vwCl (w_Ride dA a (pa 0) (pa 1) rd ++ (w_Plan dA pa pl)) H → va_D A (w_Ride dA a (pa 0) (pa 1) rd ++ (w_Plan dA pa pl)) → va_S A s.heap H locs → W p l e ({ frames := 0, cells := 0, slots := 0, locals := 0 } : Room) s m ([.ref (a 0), .int x0] : List Value).toArray below meth c H locs 0 0 Q (F0 m 0 ls []) := by
    intro H locs hP hD hS
    rw [f_X6_standerAt] at hf
    refine lv_iconst (v := (0 : Int32)) hx hb dX6_standerAt_0 (by decide) ?_
    refine lv_istore_n (lv' := [(2, .int (0 : Int32)), (0, .ref (a 0)), (1, .int x0)]) hx hb dX6_standerAt_1 rfl hl (by decide) rfl (fun ls hl => ?_)
    refine lv_iconst (v := (0 : Int32)) hx hb dX6_standerAt_2 (by decide) ?_
    refine lv_istore_n (lv' := [(3, .int (0 : Int32)), (2, .int (0 : Int32)), (0, .ref (a 0)), (1, .int x0)]) hx hb dX6_standerAt_3 rfl hl (by decide) rfl (fun ls hl => ?_)
    exact B_4 4096 _ _ _ _ _ _ hf hP hD hS (lv_sub hl [2, 3, 1, 0] rfl)
  exact E0 _ _ hP hD hS

noncomputable def f_X6_youngest_b8 (rd : RideT) (pl : PlanT) : Nat → Int32 → Int32 → Int32 → Option (Int32)
  | 0, _, _, _ => none
  | n + 1, v1, v2, v3 => (if (pl_riderCount pl) ≤ v3 then some (v1) else if kb_in? v3 8 then (if (20 : Int32) ≤ ((rd_place rd) (v3).toNatClampNeg) then f_X6_youngest_b8 rd pl n v1 v2 (v3 + (1 : Int32)) else if kb_in? v3 8 then (if v2 ≤ ((qr_age (pl_riders pl)) (v3).toNatClampNeg) then f_X6_youngest_b8 rd pl n v1 v2 (v3 + (1 : Int32)) else if kb_in? v3 8 then f_X6_youngest_b8 rd pl n v3 ((qr_age (pl_riders pl)) (v3).toNatClampNeg) (v3 + (1 : Int32)) else none) else none) else none)
noncomputable def f_X6_youngest (rd : RideT) (pl : PlanT) : Option (Int32) := f_X6_youngest_b8 rd pl 4096 (-2 : Int32) (40 : Int32) (0 : Int32)
set_option maxHeartbeats 4000000 in
set_option maxRecDepth 100000 in
theorem c_X6_youngest (l : Launch) (D : va_G) (dA : Nat → ClassId) (sz : Nat) (a : Nat → Nat) (pa : Nat → Nat) (rd : RideT) (pl : PlanT) (rv : Int32) (hf : f_X6_youngest rd pl = some (rv)) : kb_Mi l yX6_youngest cX6_youngest 4 (some .int) ({ frames := 0, cells := 0, slots := 0, locals := 0 } : Room) D dA [.ref (a 0)] sz (w_Ride dA a (pa 0) (pa 1) rd ++ (w_Plan dA pa pl)) 0 0 rv (w_Ride dA a (pa 0) (pa 1) rd ++ (w_Plan dA pa pl)) := by
  refine Met.ofW (cc := cX6_youngest) (maxL := 4) (ret := (some .int)) (by decide) rfl ?_
  intro p e s m args below meth c s₁ B hml hv
  obtain ⟨rfl, hsz, hP, hK, hD0, hE⟩ := hv
  have hx := B.exec
  have hb := B.bytes
  have hr := B.returns
  have hown : s.vm.findClass RX6 = some m.cls := findClass_of_methodNamed B.named
  have hlocks := B.notSynchronized
  have hts : ∀ w ∈ kb_gw, w.before ([.ref (a 0)] : List Value).toArray s = true := fun w hw => hK.2.1 w hw _
  subst hsz
  have hD := hD0.self (sz := s.heap.size)
  generalize hAe : va_A (w_Ride dA a (pa 0) (pa 1) rd ++ (w_Plan dA pa pl)) s.heap.size = A at hD hE ⊢
  have hA : ∀ q : Nat, s.heap.size ≤ q → A q := fun q h => by rw [← hAe]; exact Or.inr h
  have hS : va_S A s.heap s.heap [] := va_S.rf
  have hl := lv_entry ([.ref (a 0)]) (n := 4) (Nat.le_of_ble_eq_true rfl)
  rw [lg_entry_eq]
  generalize (lg_sl ([.ref (a 0)]) ++ List.replicate (4 - (lg_sl ([.ref (a 0)])).length) Slot.unset).toArray = ls at hl ⊢
  have hl : lv_has ls 4 [(0, .ref (a 0))] := hl
  generalize hQ : MQ below (va_Qi (fun r (_ : Unit) => r = rv) (kb_B D A (w_Ride dA a (pa 0) (pa 1) rd ++ (w_Plan dA pa pl))) A) ([.ref (a 0)] : List Value).toArray s 0 0 A = Q
  show W p l e ({ frames := 0, cells := 0, slots := 0, locals := 0 } : Room) s m ([.ref (a 0)] : List Value).toArray below meth c s.heap [] 0 0 Q (F0 m 0 ls [])
  have RET : ∀ (r2 : Int32) (H : Heap) (locs : List Loc) (ls : Array Slot) (pc : Nat), some (r2) = some (rv) → va_P D vwCl (w_Ride dA a (pa 0) (pa 1) rd ++ (w_Plan dA pa pl)) H → va_D A (w_Ride dA a (pa 0) (pa 1) rd ++ (w_Plan dA pa pl)) → va_S A s.heap H locs → decode cX6_youngest pc = .ok (.ireturn, 1) → W p l e ({ frames := 0, cells := 0, slots := 0, locals := 0 } : Room) s m ([.ref (a 0)] : List Value).toArray below meth c H locs 0 0 Q (F0 m pc ls [.int r2]) := by
    intro r2 H locs ls pc hq hP hD hS hd
    cases hq
    rw [← hQ]
    exact W.iret hx hb hr (fun t ht hW => ⟨⟨_, (), rfl, rfl, by rw [ht]; exact hP, hD⟩, hS.F ht⟩) hS.2.2 hd
  have B_8 : ∀ (n : Nat) (v1 : Int32) (v2 : Int32) (v3 : Int32) (H : Heap) (locs : List Loc) (ls : Array Slot), f_X6_youngest_b8 rd pl n v1 v2 v3 = some (rv) → va_P D vwCl (w_Ride dA a (pa 0) (pa 1) rd ++ (w_Plan dA pa pl)) H → va_D A (w_Ride dA a (pa 0) (pa 1) rd ++ (w_Plan dA pa pl)) → va_S A s.heap H locs → lv_has ls 4 [(0, .ref (a 0)), (1, .int v1), (2, .int v2), (3, .int v3)] → W p l e ({ frames := 0, cells := 0, slots := 0, locals := 0 } : Room) s m ([.ref (a 0)] : List Value).toArray below meth c H locs 0 0 Q (F0 m 8 ls []) := by
    intro n
    induction n with
    | zero =>
      intro v1 v2 v3 H locs ls hf
      exact absurd hf (by simp [f_X6_youngest_b8])
    | succ n ih =>
      intro v1 v2 v3 H locs ls hf hP hD hS hl
      rw [f_X6_youngest_b8] at hf
      refine lv_iload_n hx hb dX6_youngest_8 rfl (lv_at hl 3 rfl) ?_
      refine lv_aload_n hx hb dX6_youngest_9 rfl (lv_at hl 0 rfl) ?_
      refine va_get (D := D) (ci := 6) (v := .ref (pa 0)) (C := RX6) (T := TX6) (N := 11) hx hb hts kb_inX6 hown hK.1 hP 0 rfl rfl 0 (by decide) (hK.2.w ww_2_66 rfl _) (fun _ h9 => h9) rfl dX6_youngest_10 ?_
      refine va_get (D := D) (ci := 5) (v := .int (pl_riderCount pl)) (C := RX5) (T := TX5) (N := 8) hx hb hts kb_inX5 hown hK.1 hP 9 rfl rfl 5 (by decide) (hK.2.w ww_1_234 rfl _) (fun _ h9 => h9) rfl dX6_youngest_13 ?_
      refine lv_icmp_ge (tgt := 67) hx hb dX6_youngest_16 (by decide) (fun c_1 => ?_) (fun c_1 => ?_)
      · rw [if_pos c_1] at hf
        refine lv_iload_n hx hb dX6_youngest_67 rfl (lv_at hl 1 rfl) ?_
        exact RET _ H _ ls 68 hf hP hD hS dX6_youngest_68
      · rw [if_neg c_1] at hf
        refine lv_aload_n hx hb dX6_youngest_19 rfl (lv_at hl 0 rfl) ?_
        refine va_get (D := D) (ci := 6) (v := .ref (a 4)) (C := RX6) (T := TX6) (N := 11) hx hb hts kb_inX6 hown hK.1 hP 0 rfl rfl 2 (by decide) (hK.2.w ww_2_70 rfl _) (fun _ h9 => h9) rfl dX6_youngest_20 ?_
        refine lv_iload_n hx hb dX6_youngest_23 rfl (lv_at hl 3 rfl) ?_
        obtain ⟨h_2, hf⟩ := kb_if hf
        refine va_iald (D := D) hx hb hK.1 hP 4 0 rfl rfl h_2 dX6_youngest_24 ?_
        refine lv_bipush (v := (20 : Int32)) hx hb dX6_youngest_25 (by decide) ?_
        refine lv_icmp_ge (tgt := 61) hx hb dX6_youngest_27 (by decide) (fun c_3 => ?_) (fun c_3 => ?_)
        · rw [if_pos c_3] at hf
          refine lv_iinc (v := (v3 + (1 : Int32))) (lv' := [(3, .int (v3 + (1 : Int32))), (0, .ref (a 0)), (1, .int v1), (2, .int v2)]) hx hb dX6_youngest_61 hl (k := 3) rfl (by rfl) (by decide) rfl (fun ls hl => ?_)
          refine lv_goto (tgt := 8) hx hb dX6_youngest_64 (by decide) ?_
          exact ih _ _ _ _ _ _ hf hP hD hS (lv_sub hl [1, 2, 3, 0] rfl)
        · rw [if_neg c_3] at hf
          refine lv_aload_n hx hb dX6_youngest_30 rfl (lv_at hl 0 rfl) ?_
          refine va_get (D := D) (ci := 6) (v := .ref (pa 0)) (C := RX6) (T := TX6) (N := 11) hx hb hts kb_inX6 hown hK.1 hP 0 rfl rfl 0 (by decide) (hK.2.w ww_2_66 rfl _) (fun _ h9 => h9) rfl dX6_youngest_31 ?_
          refine va_get (D := D) (ci := 5) (v := .ref (pa 12)) (C := RX5) (T := TX5) (N := 8) hx hb hts kb_inX5 hown hK.1 hP 9 rfl rfl 2 (by decide) (hK.2.w ww_1_223 rfl _) (fun _ h9 => h9) rfl dX6_youngest_34 ?_
          refine lv_iload_n hx hb dX6_youngest_37 rfl (lv_at hl 3 rfl) ?_
          obtain ⟨h_4, hf⟩ := kb_if hf
          refine va_aldq (D := D) hx hb hK.1 hP 21 5 rfl rfl h_4 dX6_youngest_38 ?_
          show W p l e ({ frames := 0, cells := 0, slots := 0, locals := 0 } : Room) s m ([.ref (a 0)] : List Value).toArray below meth c _ _ 0 0 Q (F0 m 39 _ [.ref (pa (13 + (v3).toNatClampNeg))])
          refine va_get (D := D) (ci := 7) (v := .int ((qr_age (pl_riders pl)) (v3).toNatClampNeg)) (C := RX7) (T := TX7) (N := 10) hx hb hts kb_inX7 hown hK.1 hP (9 + (13 + (v3).toNatClampNeg)) (kb_at rfl (at_Plan_13 dA pa pl (v3).toNatClampNeg (kb_inlt h_4))) rfl 5 (by decide) (hK.2.w ww_1_177 rfl _) (fun _ h9 => h9) rfl dX6_youngest_39 ?_
          refine lv_iload_n hx hb dX6_youngest_42 rfl (lv_at hl 2 rfl) ?_
          refine lv_icmp_ge (tgt := 61) hx hb dX6_youngest_43 (by decide) (fun c_5 => ?_) (fun c_5 => ?_)
          · rw [if_pos c_5] at hf
            refine lv_iinc (v := (v3 + (1 : Int32))) (lv' := [(3, .int (v3 + (1 : Int32))), (0, .ref (a 0)), (1, .int v1), (2, .int v2)]) hx hb dX6_youngest_61 hl (k := 3) rfl (by rfl) (by decide) rfl (fun ls hl => ?_)
            refine lv_goto (tgt := 8) hx hb dX6_youngest_64 (by decide) ?_
            exact ih _ _ _ _ _ _ hf hP hD hS (lv_sub hl [1, 2, 3, 0] rfl)
          · rw [if_neg c_5] at hf
            refine lv_iload_n hx hb dX6_youngest_46 rfl (lv_at hl 3 rfl) ?_
            refine lv_istore_n (lv' := [(1, .int v3), (0, .ref (a 0)), (2, .int v2), (3, .int v3)]) hx hb dX6_youngest_47 rfl hl (by decide) rfl (fun ls hl => ?_)
            refine lv_aload_n hx hb dX6_youngest_48 rfl (lv_at hl 1 rfl) ?_
            refine va_get (D := D) (ci := 6) (v := .ref (pa 0)) (C := RX6) (T := TX6) (N := 11) hx hb hts kb_inX6 hown hK.1 hP 0 rfl rfl 0 (by decide) (hK.2.w ww_2_66 rfl _) (fun _ h9 => h9) rfl dX6_youngest_49 ?_
            refine va_get (D := D) (ci := 5) (v := .ref (pa 12)) (C := RX5) (T := TX5) (N := 8) hx hb hts kb_inX5 hown hK.1 hP 9 rfl rfl 2 (by decide) (hK.2.w ww_1_223 rfl _) (fun _ h9 => h9) rfl dX6_youngest_52 ?_
            refine lv_iload_n hx hb dX6_youngest_55 rfl (lv_at hl 3 rfl) ?_
            obtain ⟨h_6, hf⟩ := kb_if hf
            refine va_aldq (D := D) hx hb hK.1 hP 21 5 rfl rfl h_6 dX6_youngest_56 ?_
            show W p l e ({ frames := 0, cells := 0, slots := 0, locals := 0 } : Room) s m ([.ref (a 0)] : List Value).toArray below meth c _ _ 0 0 Q (F0 m 57 _ [.ref (pa (13 + (v3).toNatClampNeg))])
            refine va_get (D := D) (ci := 7) (v := .int ((qr_age (pl_riders pl)) (v3).toNatClampNeg)) (C := RX7) (T := TX7) (N := 10) hx hb hts kb_inX7 hown hK.1 hP (9 + (13 + (v3).toNatClampNeg)) (kb_at rfl (at_Plan_13 dA pa pl (v3).toNatClampNeg (kb_inlt h_6))) rfl 5 (by decide) (hK.2.w ww_1_177 rfl _) (fun _ h9 => h9) rfl dX6_youngest_57 ?_
            refine lv_istore_n (lv' := [(2, .int ((qr_age (pl_riders pl)) (v3).toNatClampNeg)), (1, .int v3), (0, .ref (a 0)), (3, .int v3)]) hx hb dX6_youngest_60 rfl hl (by decide) rfl (fun ls hl => ?_)
            refine lv_iinc (v := (v3 + (1 : Int32))) (lv' := [(3, .int (v3 + (1 : Int32))), (2, .int ((qr_age (pl_riders pl)) (v3).toNatClampNeg)), (1, .int v3), (0, .ref (a 0))]) hx hb dX6_youngest_61 hl (k := 3) rfl (by rfl) (by decide) rfl (fun ls hl => ?_)
            refine lv_goto (tgt := 8) hx hb dX6_youngest_64 (by decide) ?_
            exact ih _ _ _ _ _ _ hf hP hD hS (lv_sub hl [3, 2, 1, 0] rfl)
  have E0 : ∀ (H : Heap) (locs : List Loc), va_P D vwCl (w_Ride dA a (pa 0) (pa 1) rd ++ (w_Plan dA pa pl)) H → va_D A (w_Ride dA a (pa 0) (pa 1) rd ++ (w_Plan dA pa pl)) → va_S A s.heap H locs → W p l e ({ frames := 0, cells := 0, slots := 0, locals := 0 } : Room) s m ([.ref (a 0)] : List Value).toArray below meth c H locs 0 0 Q (F0 m 0 ls []) := by
    intro H locs hP hD hS
    rw [f_X6_youngest] at hf
    refine lv_bipush (v := (-2 : Int32)) hx hb dX6_youngest_0 (by decide) ?_
    refine lv_istore_n (lv' := [(1, .int (-2 : Int32)), (0, .ref (a 0))]) hx hb dX6_youngest_2 rfl hl (by decide) rfl (fun ls hl => ?_)
    refine lv_bipush (v := (40 : Int32)) hx hb dX6_youngest_3 (by decide) ?_
    refine lv_istore_n (lv' := [(2, .int (40 : Int32)), (1, .int (-2 : Int32)), (0, .ref (a 0))]) hx hb dX6_youngest_5 rfl hl (by decide) rfl (fun ls hl => ?_)
    refine lv_iconst (v := (0 : Int32)) hx hb dX6_youngest_6 (by decide) ?_
    refine lv_istore_n (lv' := [(3, .int (0 : Int32)), (2, .int (40 : Int32)), (1, .int (-2 : Int32)), (0, .ref (a 0))]) hx hb dX6_youngest_7 rfl hl (by decide) rfl (fun ls hl => ?_)
    exact B_8 4096 _ _ _ _ _ _ hf hP hD hS (lv_sub hl [3, 2, 1, 0] rfl)
  exact E0 _ _ hP hD hS

noncomputable def f_X6_getUp (rd : RideT) (pl : PlanT) (x0 : Int32) : Option (RideT) := if kb_in? x0 8 then (if ((rd_place rd) (x0).toNatClampNeg) < (20 : Int32) then if kb_in? x0 8 then if kb_in? ((rd_place rd) (x0).toNatClampNeg) 20 then if kb_in? x0 8 then if kb_in? ((rd_place rd) (x0).toNatClampNeg) 20 then (if ((cb_beside (pl_cab pl)) (((rd_place rd) (x0).toNatClampNeg)).toNatClampNeg) = (-2 : Int32) then some ((rd_set_scene rd (sc_set_sitter (rd_scene rd) (upd (sc_sitter (rd_scene rd)) (((rd_place rd) (x0).toNatClampNeg)).toNatClampNeg (-2 : Int32))))) else if kb_in? ((cb_beside (pl_cab pl)) (((rd_place rd) (x0).toNatClampNeg)).toNatClampNeg) 20 then (if ((rd_luggage (rd_set_scene rd (sc_set_sitter (rd_scene rd) (upd (sc_sitter (rd_scene rd)) (((rd_place rd) (x0).toNatClampNeg)).toNatClampNeg (-2 : Int32))))) (((cb_beside (pl_cab pl)) (((rd_place rd) (x0).toNatClampNeg)).toNatClampNeg)).toNatClampNeg) = x0 then if kb_in? ((cb_beside (pl_cab pl)) (((rd_place rd) (x0).toNatClampNeg)).toNatClampNeg) 20 then some ((rd_set_luggage (rd_set_scene rd (sc_set_sitter (rd_scene rd) (upd (sc_sitter (rd_scene rd)) (((rd_place rd) (x0).toNatClampNeg)).toNatClampNeg (-2 : Int32)))) (upd (rd_luggage (rd_set_scene rd (sc_set_sitter (rd_scene rd) (upd (sc_sitter (rd_scene rd)) (((rd_place rd) (x0).toNatClampNeg)).toNatClampNeg (-2 : Int32))))) (((cb_beside (pl_cab pl)) (((rd_place rd) (x0).toNatClampNeg)).toNatClampNeg)).toNatClampNeg (-2 : Int32)))) else none else some ((rd_set_scene rd (sc_set_sitter (rd_scene rd) (upd (sc_sitter (rd_scene rd)) (((rd_place rd) (x0).toNatClampNeg)).toNatClampNeg (-2 : Int32)))))) else none) else none else none else none else none else some (rd)) else none
set_option maxHeartbeats 4000000 in
set_option maxRecDepth 100000 in
theorem c_X6_getUp (l : Launch) (D : va_G) (dA : Nat → ClassId) (sz : Nat) (a : Nat → Nat) (pa : Nat → Nat) (rd : RideT) (pl : PlanT) (x0 : Int32) (u0 : RideT) (hf : f_X6_getUp rd pl x0 = some (u0)) : kb_Mv l yX6_getUp cX6_getUp 3 none ({ frames := 0, cells := 0, slots := 0, locals := 0 } : Room) D dA [.ref (a 0), .int x0] sz (w_Ride dA a (pa 0) (pa 1) rd ++ (w_Plan dA pa pl)) 0 0 (w_Ride dA a (pa 0) (pa 1) u0 ++ (w_Plan dA pa pl)) := by
  refine Met.ofW (cc := cX6_getUp) (maxL := 3) (ret := none) (by decide) rfl ?_
  intro p e s m args below meth c s₁ B hml hv
  obtain ⟨rfl, hsz, hP, hK, hD0, hE⟩ := hv
  have hx := B.exec
  have hb := B.bytes
  have hr := B.returns
  have hown : s.vm.findClass RX6 = some m.cls := findClass_of_methodNamed B.named
  have hlocks := B.notSynchronized
  have hts : ∀ w ∈ kb_gw, w.before ([.ref (a 0), .int x0] : List Value).toArray s = true := fun w hw => hK.2.1 w hw _
  subst hsz
  have hD := hD0.self (sz := s.heap.size)
  generalize hAe : va_A (w_Ride dA a (pa 0) (pa 1) rd ++ (w_Plan dA pa pl)) s.heap.size = A at hD hE ⊢
  have hA : ∀ q : Nat, s.heap.size ≤ q → A q := fun q h => by rw [← hAe]; exact Or.inr h
  have hS : va_S A s.heap s.heap [] := va_S.rf
  have hl := lv_entry ([.ref (a 0), .int x0]) (n := 3) (Nat.le_of_ble_eq_true rfl)
  rw [lg_entry_eq]
  generalize (lg_sl ([.ref (a 0), .int x0]) ++ List.replicate (3 - (lg_sl ([.ref (a 0), .int x0])).length) Slot.unset).toArray = ls at hl ⊢
  have hl : lv_has ls 3 [(0, .ref (a 0)), (1, .int x0)] := hl
  generalize hQ : MQ below (va_Qv (fun (_ : Unit) => True) (kb_B D A (w_Ride dA a (pa 0) (pa 1) u0 ++ (w_Plan dA pa pl))) A) ([.ref (a 0), .int x0] : List Value).toArray s 0 0 A = Q
  show W p l e ({ frames := 0, cells := 0, slots := 0, locals := 0 } : Room) s m ([.ref (a 0), .int x0] : List Value).toArray below meth c s.heap [] 0 0 Q (F0 m 0 ls [])
  have RET : ∀ (w0 : RideT) (H : Heap) (locs : List Loc) (ls : Array Slot) (pc : Nat), some (w0) = some (u0) → va_P D vwCl (w_Ride dA a (pa 0) (pa 1) w0 ++ (w_Plan dA pa pl)) H → va_D A (w_Ride dA a (pa 0) (pa 1) w0 ++ (w_Plan dA pa pl)) → va_S A s.heap H locs → decode cX6_getUp pc = .ok (.return_, 1) → W p l e ({ frames := 0, cells := 0, slots := 0, locals := 0 } : Room) s m ([.ref (a 0), .int x0] : List Value).toArray below meth c H locs 0 0 Q (F0 m pc ls []) := by
    intro w0 H locs ls pc hq hP hD hS hd
    cases hq
    rw [← hQ]
    exact W.vret hx hb hr (fun t ht hW => ⟨⟨(), rfl, trivial, by rw [ht]; exact hP, hD⟩, hS.F ht⟩) hS.2.2 hd
  have E0 : ∀ (H : Heap) (locs : List Loc), va_P D vwCl (w_Ride dA a (pa 0) (pa 1) rd ++ (w_Plan dA pa pl)) H → va_D A (w_Ride dA a (pa 0) (pa 1) rd ++ (w_Plan dA pa pl)) → va_S A s.heap H locs → W p l e ({ frames := 0, cells := 0, slots := 0, locals := 0 } : Room) s m ([.ref (a 0), .int x0] : List Value).toArray below meth c H locs 0 0 Q (F0 m 0 ls []) := by
    intro H locs hP hD hS
    rw [f_X6_getUp] at hf
    refine lv_aload_n hx hb dX6_getUp_0 rfl (lv_at hl 0 rfl) ?_
    refine va_get (D := D) (ci := 6) (v := .ref (a 4)) (C := RX6) (T := TX6) (N := 11) hx hb hts kb_inX6 hown hK.1 hP 0 rfl rfl 2 (by decide) (hK.2.w ww_2_70 rfl _) (fun _ h9 => h9) rfl dX6_getUp_1 ?_
    refine lv_iload_n hx hb dX6_getUp_4 rfl (lv_at hl 1 rfl) ?_
    obtain ⟨h_1, hf⟩ := kb_if hf
    refine va_iald (D := D) hx hb hK.1 hP 4 0 rfl rfl h_1 dX6_getUp_5 ?_
    refine lv_bipush (v := (20 : Int32)) hx hb dX6_getUp_6 (by decide) ?_
    refine lv_icmp_lt (tgt := 12) hx hb dX6_getUp_8 (by decide) (fun c_2 => ?_) (fun c_2 => ?_)
    · rw [if_pos c_2] at hf
      refine lv_aload_n hx hb dX6_getUp_12 rfl (lv_at hl 0 rfl) ?_
      refine va_get (D := D) (ci := 6) (v := .ref (pa 0)) (C := RX6) (T := TX6) (N := 11) hx hb hts kb_inX6 hown hK.1 hP 0 rfl rfl 0 (by decide) (hK.2.w ww_2_66 rfl _) (fun _ h9 => h9) rfl dX6_getUp_13 ?_
      refine va_get (D := D) (ci := 5) (v := .ref (pa 1)) (C := RX5) (T := TX5) (N := 8) hx hb hts kb_inX5 hown hK.1 hP 9 rfl rfl 0 (by decide) (hK.2.w ww_1_214 rfl _) (fun _ h9 => h9) rfl dX6_getUp_16 ?_
      refine va_get (D := D) (ci := 0) (v := .ref (pa 2)) (C := RX0) (T := TX0) (N := 8) hx hb hts kb_inX0 hown hK.1 hP 10 rfl rfl 7 (by decide) (hK.2.w ww_1_110 rfl _) (fun _ h9 => h9) rfl dX6_getUp_19 ?_
      refine lv_aload_n hx hb dX6_getUp_22 rfl (lv_at hl 0 rfl) ?_
      refine va_get (D := D) (ci := 6) (v := .ref (a 4)) (C := RX6) (T := TX6) (N := 11) hx hb hts kb_inX6 hown hK.1 hP 0 rfl rfl 2 (by decide) (hK.2.w ww_2_70 rfl _) (fun _ h9 => h9) rfl dX6_getUp_23 ?_
      refine lv_iload_n hx hb dX6_getUp_26 rfl (lv_at hl 1 rfl) ?_
      obtain ⟨h_3, hf⟩ := kb_if hf
      refine va_iald (D := D) hx hb hK.1 hP 4 0 rfl rfl h_3 dX6_getUp_27 ?_
      obtain ⟨h_4, hf⟩ := kb_if hf
      refine va_iald (D := D) hx hb hK.1 hP 11 0 rfl rfl h_4 dX6_getUp_28 ?_
      refine lv_istore_n (lv' := [(2, .int ((cb_beside (pl_cab pl)) (((rd_place rd) (x0).toNatClampNeg)).toNatClampNeg)), (0, .ref (a 0)), (1, .int x0)]) hx hb dX6_getUp_29 rfl hl (by decide) rfl (fun ls hl => ?_)
      refine lv_aload_n hx hb dX6_getUp_30 rfl (lv_at hl 1 rfl) ?_
      refine va_get (D := D) (ci := 6) (v := .ref (a 1)) (C := RX6) (T := TX6) (N := 11) hx hb hts kb_inX6 hown hK.1 hP 0 rfl rfl 1 (by decide) (hK.2.w ww_2_67 rfl _) (fun _ h9 => h9) rfl dX6_getUp_31 ?_
      refine va_get (D := D) (ci := 9) (v := .ref (a 2)) (C := RX9) (T := TX9) (N := 3) hx hb hts kb_inX9 hown hK.1 hP 1 rfl rfl 0 (by decide) (hK.2.w ww_2_54 rfl _) (fun _ h9 => h9) rfl dX6_getUp_34 ?_
      refine lv_aload_n hx hb dX6_getUp_37 rfl (lv_at hl 1 rfl) ?_
      refine va_get (D := D) (ci := 6) (v := .ref (a 4)) (C := RX6) (T := TX6) (N := 11) hx hb hts kb_inX6 hown hK.1 hP 0 rfl rfl 2 (by decide) (hK.2.w ww_2_70 rfl _) (fun _ h9 => h9) rfl dX6_getUp_38 ?_
      refine lv_iload_n hx hb dX6_getUp_41 rfl (lv_at hl 2 rfl) ?_
      obtain ⟨h_5, hf⟩ := kb_if hf
      refine va_iald (D := D) hx hb hK.1 hP 4 0 rfl rfl h_5 dX6_getUp_42 ?_
      refine lv_bipush (v := (-2 : Int32)) hx hb dX6_getUp_43 (by decide) ?_
      obtain ⟨h_6, hf⟩ := kb_if hf
      refine va_iast (D := D) hx hb hK.1 hP hD hS 2 0 rfl rfl h_6 dX6_getUp_45 (fun H locs hP hD hS => ?_)
      have hP : va_P D vwCl (w_Ride dA a (pa 0) (pa 1) (rd_set_scene rd (sc_set_sitter (rd_scene rd) (upd (sc_sitter (rd_scene rd)) (((rd_place rd) (x0).toNatClampNeg)).toNatClampNeg (-2 : Int32)))) ++ (w_Plan dA pa pl)) H := hP
      have hD : va_D A (w_Ride dA a (pa 0) (pa 1) (rd_set_scene rd (sc_set_sitter (rd_scene rd) (upd (sc_sitter (rd_scene rd)) (((rd_place rd) (x0).toNatClampNeg)).toNatClampNeg (-2 : Int32)))) ++ (w_Plan dA pa pl)) := hD
      refine lv_iload_n hx hb dX6_getUp_46 rfl (lv_at hl 0 rfl) ?_
      refine lv_bipush (v := (-2 : Int32)) hx hb dX6_getUp_47 (by decide) ?_
      refine lv_icmp_eq (tgt := 70) hx hb dX6_getUp_49 (by decide) (fun c_7 => ?_) (fun c_7 => ?_)
      · rw [if_pos c_7] at hf
        exact RET _ H _ ls 70 hf hP hD hS dX6_getUp_70
      · rw [if_neg c_7] at hf
        refine lv_aload_n hx hb dX6_getUp_52 rfl (lv_at hl 1 rfl) ?_
        refine va_get (D := D) (ci := 6) (v := .ref (a 5)) (C := RX6) (T := TX6) (N := 11) hx hb hts kb_inX6 hown hK.1 hP 0 rfl rfl 3 (by decide) (hK.2.w ww_2_72 rfl _) (fun _ h9 => h9) rfl dX6_getUp_53 ?_
        refine lv_iload_n hx hb dX6_getUp_56 rfl (lv_at hl 0 rfl) ?_
        obtain ⟨h_8, hf⟩ := kb_if hf
        refine va_iald (D := D) hx hb hK.1 hP 5 0 rfl rfl h_8 dX6_getUp_57 ?_
        refine lv_iload_n hx hb dX6_getUp_58 rfl (lv_at hl 2 rfl) ?_
        refine lv_icmp_ne (tgt := 70) hx hb dX6_getUp_59 (by decide) (fun c_9 => ?_) (fun c_9 => ?_)
        · rw [if_neg c_9] at hf
          exact RET _ H _ ls 70 hf hP hD hS dX6_getUp_70
        · rw [if_pos c_9] at hf
          refine lv_aload_n hx hb dX6_getUp_62 rfl (lv_at hl 1 rfl) ?_
          refine va_get (D := D) (ci := 6) (v := .ref (a 5)) (C := RX6) (T := TX6) (N := 11) hx hb hts kb_inX6 hown hK.1 hP 0 rfl rfl 3 (by decide) (hK.2.w ww_2_72 rfl _) (fun _ h9 => h9) rfl dX6_getUp_63 ?_
          refine lv_iload_n hx hb dX6_getUp_66 rfl (lv_at hl 0 rfl) ?_
          refine lv_bipush (v := (-2 : Int32)) hx hb dX6_getUp_67 (by decide) ?_
          obtain ⟨h_10, hf⟩ := kb_if hf
          refine va_iast (D := D) hx hb hK.1 hP hD hS 5 0 rfl rfl h_10 dX6_getUp_69 (fun H locs hP hD hS => ?_)
          have hP : va_P D vwCl (w_Ride dA a (pa 0) (pa 1) (rd_set_luggage (rd_set_scene rd (sc_set_sitter (rd_scene rd) (upd (sc_sitter (rd_scene rd)) (((rd_place rd) (x0).toNatClampNeg)).toNatClampNeg (-2 : Int32)))) (upd (rd_luggage (rd_set_scene rd (sc_set_sitter (rd_scene rd) (upd (sc_sitter (rd_scene rd)) (((rd_place rd) (x0).toNatClampNeg)).toNatClampNeg (-2 : Int32))))) (((cb_beside (pl_cab pl)) (((rd_place rd) (x0).toNatClampNeg)).toNatClampNeg)).toNatClampNeg (-2 : Int32))) ++ (w_Plan dA pa pl)) H := hP
          have hD : va_D A (w_Ride dA a (pa 0) (pa 1) (rd_set_luggage (rd_set_scene rd (sc_set_sitter (rd_scene rd) (upd (sc_sitter (rd_scene rd)) (((rd_place rd) (x0).toNatClampNeg)).toNatClampNeg (-2 : Int32)))) (upd (rd_luggage (rd_set_scene rd (sc_set_sitter (rd_scene rd) (upd (sc_sitter (rd_scene rd)) (((rd_place rd) (x0).toNatClampNeg)).toNatClampNeg (-2 : Int32))))) (((cb_beside (pl_cab pl)) (((rd_place rd) (x0).toNatClampNeg)).toNatClampNeg)).toNatClampNeg (-2 : Int32))) ++ (w_Plan dA pa pl)) := hD
          exact RET _ H _ ls 70 hf hP hD hS dX6_getUp_70
    · rw [if_neg c_2] at hf
      exact RET _ H _ ls 11 hf hP hD hS dX6_getUp_11
  exact E0 _ _ hP hD hS

noncomputable def f_X6_secondsOf_b108 (rd : RideT) (pl : PlanT) (s0 : Int32) : Option (Int32) := some ((s0 + (0 : Int32)))
noncomputable def f_X6_secondsOf_b63 (rd : RideT) (pl : PlanT) (v2 : Int32) (s0 : Int32) : Option (Int32) := (f_X0_walk (pl_cab pl) v2).bind fun r5 => (if s0 = 0 then f_X6_secondsOf_b108 rd pl r5 else (f_X0_isShutIn (pl_cab pl) v2).bind fun r7 => (if r7 = 0 then f_X6_secondsOf_b108 rd pl r5 else some ((r5 + (cb_rise (pl_cab pl))))))
noncomputable def f_X6_secondsOf_b62 (rd : RideT) (pl : PlanT) (v2 : Int32) : Option (Int32) := f_X6_secondsOf_b63 rd pl v2 (0 : Int32)
noncomputable def f_X6_secondsOf (rd : RideT) (pl : PlanT) (x0 : Int32) : Option (Int32) := if kb_in? x0 8 then (if ((rd_place rd) (x0).toNatClampNeg) < (20 : Int32) then (f_X9_besideOf (rd_scene rd) (pl_cab pl) ((rd_place rd) (x0).toNatClampNeg)).bind fun r3 => (if r3 = (-2 : Int32) then f_X6_secondsOf_b62 rd pl ((rd_place rd) (x0).toNatClampNeg) else if kb_in? r3 8 then (if ((qr_off (pl_riders pl)) (r3).toNatClampNeg) = (rd_stops rd) then f_X6_secondsOf_b62 rd pl ((rd_place rd) (x0).toNatClampNeg) else f_X6_secondsOf_b63 rd pl ((rd_place rd) (x0).toNatClampNeg) (1 : Int32)) else none) else some ((cb_pace (pl_cab pl)))) else none
set_option maxHeartbeats 4000000 in
set_option maxRecDepth 100000 in
theorem c_X6_secondsOf (l : Launch) (D : va_G) (dA : Nat → ClassId) (sz : Nat) (a : Nat → Nat) (pa : Nat → Nat) (rd : RideT) (pl : PlanT) (x0 : Int32) (rv : Int32) (hf : f_X6_secondsOf rd pl x0 = some (rv)) : kb_Mi l yX6_secondsOf cX6_secondsOf 5 (some .int) ({ frames := 2, cells := 0, slots := 0, locals := 42 } : Room) D dA [.ref (a 0), .int x0] sz (w_Ride dA a (pa 0) (pa 1) rd ++ (w_Plan dA pa pl)) 0 0 rv (w_Ride dA a (pa 0) (pa 1) rd ++ (w_Plan dA pa pl)) := by
  refine Met.ofW (cc := cX6_secondsOf) (maxL := 5) (ret := (some .int)) (by decide) rfl ?_
  intro p e s m args below meth c s₁ B hml hv
  obtain ⟨rfl, hsz, hP, hK, hD0, hE⟩ := hv
  have hx := B.exec
  have hb := B.bytes
  have hr := B.returns
  have hown : s.vm.findClass RX6 = some m.cls := findClass_of_methodNamed B.named
  have hlocks := B.notSynchronized
  have hts : ∀ w ∈ kb_gw, w.before ([.ref (a 0), .int x0] : List Value).toArray s = true := fun w hw => hK.2.1 w hw _
  subst hsz
  have hD := hD0.self (sz := s.heap.size)
  generalize hAe : va_A (w_Ride dA a (pa 0) (pa 1) rd ++ (w_Plan dA pa pl)) s.heap.size = A at hD hE ⊢
  have hA : ∀ q : Nat, s.heap.size ≤ q → A q := fun q h => by rw [← hAe]; exact Or.inr h
  have hS : va_S A s.heap s.heap [] := va_S.rf
  have hl := lv_entry ([.ref (a 0), .int x0]) (n := 5) (Nat.le_of_ble_eq_true rfl)
  rw [lg_entry_eq]
  generalize (lg_sl ([.ref (a 0), .int x0]) ++ List.replicate (5 - (lg_sl ([.ref (a 0), .int x0])).length) Slot.unset).toArray = ls at hl ⊢
  have hl : lv_has ls 5 [(0, .ref (a 0)), (1, .int x0)] := hl
  generalize hQ : MQ below (va_Qi (fun r (_ : Unit) => r = rv) (kb_B D A (w_Ride dA a (pa 0) (pa 1) rd ++ (w_Plan dA pa pl))) A) ([.ref (a 0), .int x0] : List Value).toArray s 0 0 A = Q
  show W p l e ({ frames := 2, cells := 0, slots := 0, locals := 42 } : Room) s m ([.ref (a 0), .int x0] : List Value).toArray below meth c s.heap [] 0 0 Q (F0 m 0 ls [])
  have RET : ∀ (r2 : Int32) (H : Heap) (locs : List Loc) (ls : Array Slot) (pc : Nat), some (r2) = some (rv) → va_P D vwCl (w_Ride dA a (pa 0) (pa 1) rd ++ (w_Plan dA pa pl)) H → va_D A (w_Ride dA a (pa 0) (pa 1) rd ++ (w_Plan dA pa pl)) → va_S A s.heap H locs → decode cX6_secondsOf pc = .ok (.ireturn, 1) → W p l e ({ frames := 2, cells := 0, slots := 0, locals := 42 } : Room) s m ([.ref (a 0), .int x0] : List Value).toArray below meth c H locs 0 0 Q (F0 m pc ls [.int r2]) := by
    intro r2 H locs ls pc hq hP hD hS hd
    cases hq
    rw [← hQ]
    exact W.iret hx hb hr (fun t ht hW => ⟨⟨_, (), rfl, rfl, by rw [ht]; exact hP, hD⟩, hS.F ht⟩) hS.2.2 hd
  have B_108 : ∀ (s0 : Int32) (H : Heap) (locs : List Loc) (ls : Array Slot), f_X6_secondsOf_b108 rd pl s0 = some (rv) → va_P D vwCl (w_Ride dA a (pa 0) (pa 1) rd ++ (w_Plan dA pa pl)) H → va_D A (w_Ride dA a (pa 0) (pa 1) rd ++ (w_Plan dA pa pl)) → va_S A s.heap H locs → lv_has ls 5 [] → W p l e ({ frames := 2, cells := 0, slots := 0, locals := 42 } : Room) s m ([.ref (a 0), .int x0] : List Value).toArray below meth c H locs 0 0 Q (F0 m 108 ls [.int s0]) := by
    intro s0 H locs ls hf hP hD hS hl
    rw [f_X6_secondsOf_b108] at hf
    refine lv_iconst (v := (0 : Int32)) hx hb dX6_secondsOf_108 (by decide) ?_
    refine lv_iadd hx hb dX6_secondsOf_109 ?_
    exact RET _ H _ ls 110 hf hP hD hS dX6_secondsOf_110
  have B_63 : ∀ (v2 : Int32) (s0 : Int32) (H : Heap) (locs : List Loc) (ls : Array Slot), f_X6_secondsOf_b63 rd pl v2 s0 = some (rv) → va_P D vwCl (w_Ride dA a (pa 0) (pa 1) rd ++ (w_Plan dA pa pl)) H → va_D A (w_Ride dA a (pa 0) (pa 1) rd ++ (w_Plan dA pa pl)) → va_S A s.heap H locs → lv_has ls 5 [(0, .ref (a 0)), (2, .int v2)] → W p l e ({ frames := 2, cells := 0, slots := 0, locals := 42 } : Room) s m ([.ref (a 0), .int x0] : List Value).toArray below meth c H locs 0 0 Q (F0 m 63 ls [.int s0]) := by
    intro v2 s0 H locs ls hf hP hD hS hl
    rw [f_X6_secondsOf_b63] at hf
    refine lv_istore (lv' := [(4, .int s0), (0, .ref (a 0)), (2, .int v2)]) hx hb dX6_secondsOf_63 hl (by decide) rfl (fun ls hl => ?_)
    refine lv_aload_n hx hb dX6_secondsOf_65 rfl (lv_at hl 1 rfl) ?_
    refine va_get (D := D) (ci := 6) (v := .ref (pa 0)) (C := RX6) (T := TX6) (N := 11) hx hb hts kb_inX6 hown hK.1 hP 0 rfl rfl 0 (by decide) (hK.2.w ww_2_66 rfl _) (fun _ h9 => h9) rfl dX6_secondsOf_66 ?_
    refine va_get (D := D) (ci := 5) (v := .ref (pa 1)) (C := RX5) (T := TX5) (N := 8) hx hb hts kb_inX5 hown hK.1 hP 9 rfl rfl 0 (by decide) (hK.2.w ww_1_214 rfl _) (fun _ h9 => h9) rfl dX6_secondsOf_69 ?_
    refine lv_iload_n hx hb dX6_secondsOf_72 rfl (lv_at hl 2 rfl) ?_
    obtain ⟨r5, hc5, hf⟩ := kb_bind hf
    refine kb_ci (ws2 := (w_Ride dA a (pa 0) (pa 1) rd ++ (w_Plan dA pa pl))) (kb_rV (n := 1) (As := [.int v2]) (rest := []) hx hb hml hown hK (c_X0_walk l D dA H.size (fun k => pa (1 + k)) (pl_cab pl) v2 r5 hc5) ⟨ww_3_216, ww_3_213, ww_3_214, ww_3_215, ww_1_4, rfl, by decide, by decide⟩ rfl rfl (by decide +kernel) ⟨Nat.le_of_ble_eq_true rfl, Nat.le_of_ble_eq_true rfl⟩ hP hD hS hA hE [10, 11] rfl (by decide) 0 rfl rfl rfl hl.1 rfl (Nat.le_of_ble_eq_true rfl) dX6_secondsOf_73 ⟨Nat.le_of_ble_eq_true rfl, Nat.le_of_ble_eq_true rfl⟩) hP hD hS hA [10, 11] [0, 1, 2, 3, 4, 5, 6, 7, 8, 9, 12, 13, 14, 15, 16, 17, 18, 19, 20, 21, 22, 23, 24, 25, 26, 27, 28, 29] [0, 1, 2, 3, 4, 5, 6, 7, 8, 9, 28, 29, 10, 11, 12, 13, 14, 15, 16, 17, 18, 19, 20, 21, 22, 23, 24, 25, 26, 27] rfl rfl (by decide) (by decide) rfl (by decide) (fun H locs hP hD hS => ?_)
    refine lv_iload hx hb dX6_secondsOf_76 (lv_at hl 0 rfl) ?_
    refine lv_if_eq (tgt := 108) hx hb dX6_secondsOf_78 (by decide) (fun c_6 => ?_) (fun c_6 => ?_)
    · rw [if_pos c_6] at hf
      exact B_108 _ _ _ _ hf hP hD hS (lv_sub hl [] rfl)
    · rw [if_neg c_6] at hf
      refine lv_aload_n hx hb dX6_secondsOf_81 rfl (lv_at hl 1 rfl) ?_
      refine va_get (D := D) (ci := 6) (v := .ref (pa 0)) (C := RX6) (T := TX6) (N := 11) hx hb hts kb_inX6 hown hK.1 hP 0 rfl rfl 0 (by decide) (hK.2.w ww_2_66 rfl _) (fun _ h9 => h9) rfl dX6_secondsOf_82 ?_
      refine va_get (D := D) (ci := 5) (v := .ref (pa 1)) (C := RX5) (T := TX5) (N := 8) hx hb hts kb_inX5 hown hK.1 hP 9 rfl rfl 0 (by decide) (hK.2.w ww_1_214 rfl _) (fun _ h9 => h9) rfl dX6_secondsOf_85 ?_
      refine lv_iload_n hx hb dX6_secondsOf_88 rfl (lv_at hl 2 rfl) ?_
      obtain ⟨r7, hc7, hf⟩ := kb_bind hf
      refine kb_ci (ws2 := (w_Ride dA a (pa 0) (pa 1) rd ++ (w_Plan dA pa pl))) (kb_rV (n := 1) (As := [.int v2]) (rest := [.int r5]) hx hb hml hown hK (c_X0_isShutIn l D dA H.size (fun k => pa (1 + k)) (pl_cab pl) v2 r7 hc7) ⟨ww_3_223, ww_3_220, ww_3_221, ww_3_222, ww_1_4, rfl, by decide, by decide⟩ rfl rfl (by decide +kernel) ⟨Nat.le_of_ble_eq_true rfl, Nat.le_of_ble_eq_true rfl⟩ hP hD hS hA hE [10, 11] rfl (by decide) 0 rfl rfl rfl hl.1 rfl (Nat.le_of_ble_eq_true rfl) dX6_secondsOf_89 ⟨Nat.le_of_ble_eq_true rfl, Nat.le_of_ble_eq_true rfl⟩) hP hD hS hA [10, 11] [0, 1, 2, 3, 4, 5, 6, 7, 8, 9, 12, 13, 14, 15, 16, 17, 18, 19, 20, 21, 22, 23, 24, 25, 26, 27, 28, 29] [0, 1, 2, 3, 4, 5, 6, 7, 8, 9, 28, 29, 10, 11, 12, 13, 14, 15, 16, 17, 18, 19, 20, 21, 22, 23, 24, 25, 26, 27] rfl rfl (by decide) (by decide) rfl (by decide) (fun H locs hP hD hS => ?_)
      refine lv_if_eq (tgt := 108) hx hb dX6_secondsOf_92 (by decide) (fun c_8 => ?_) (fun c_8 => ?_)
      · rw [if_pos c_8] at hf
        exact B_108 _ _ _ _ hf hP hD hS (lv_sub hl [] rfl)
      · rw [if_neg c_8] at hf
        refine lv_aload_n hx hb dX6_secondsOf_95 rfl (lv_at hl 1 rfl) ?_
        refine va_get (D := D) (ci := 6) (v := .ref (pa 0)) (C := RX6) (T := TX6) (N := 11) hx hb hts kb_inX6 hown hK.1 hP 0 rfl rfl 0 (by decide) (hK.2.w ww_2_66 rfl _) (fun _ h9 => h9) rfl dX6_secondsOf_96 ?_
        refine va_get (D := D) (ci := 5) (v := .ref (pa 1)) (C := RX5) (T := TX5) (N := 8) hx hb hts kb_inX5 hown hK.1 hP 9 rfl rfl 0 (by decide) (hK.2.w ww_1_214 rfl _) (fun _ h9 => h9) rfl dX6_secondsOf_99 ?_
        refine va_get (D := D) (ci := 0) (v := .int (cb_rise (pl_cab pl))) (C := RX0) (T := TX0) (N := 8) hx hb hts kb_inX0 hown hK.1 hP 10 rfl rfl 4 (by decide) (hK.2.w ww_1_100 rfl _) (fun _ h9 => h9) rfl dX6_secondsOf_102 ?_
        refine lv_goto (tgt := 109) hx hb dX6_secondsOf_105 (by decide) ?_
        refine lv_iadd hx hb dX6_secondsOf_109 ?_
        exact RET _ H _ ls 110 hf hP hD hS dX6_secondsOf_110
  have B_62 : ∀ (v2 : Int32) (H : Heap) (locs : List Loc) (ls : Array Slot), f_X6_secondsOf_b62 rd pl v2 = some (rv) → va_P D vwCl (w_Ride dA a (pa 0) (pa 1) rd ++ (w_Plan dA pa pl)) H → va_D A (w_Ride dA a (pa 0) (pa 1) rd ++ (w_Plan dA pa pl)) → va_S A s.heap H locs → lv_has ls 5 [(0, .ref (a 0)), (2, .int v2)] → W p l e ({ frames := 2, cells := 0, slots := 0, locals := 42 } : Room) s m ([.ref (a 0), .int x0] : List Value).toArray below meth c H locs 0 0 Q (F0 m 62 ls []) := by
    intro v2 H locs ls hf hP hD hS hl
    rw [f_X6_secondsOf_b62] at hf
    refine lv_iconst (v := (0 : Int32)) hx hb dX6_secondsOf_62 (by decide) ?_
    exact B_63 _ _ _ _ _ hf hP hD hS (lv_sub hl [0, 1] rfl)
  have E0 : ∀ (H : Heap) (locs : List Loc), va_P D vwCl (w_Ride dA a (pa 0) (pa 1) rd ++ (w_Plan dA pa pl)) H → va_D A (w_Ride dA a (pa 0) (pa 1) rd ++ (w_Plan dA pa pl)) → va_S A s.heap H locs → W p l e ({ frames := 2, cells := 0, slots := 0, locals := 42 } : Room) s m ([.ref (a 0), .int x0] : List Value).toArray below meth c H locs 0 0 Q (F0 m 0 ls []) := by
    intro H locs hP hD hS
    rw [f_X6_secondsOf] at hf
    refine lv_aload_n hx hb dX6_secondsOf_0 rfl (lv_at hl 0 rfl) ?_
    refine va_get (D := D) (ci := 6) (v := .ref (a 4)) (C := RX6) (T := TX6) (N := 11) hx hb hts kb_inX6 hown hK.1 hP 0 rfl rfl 2 (by decide) (hK.2.w ww_2_70 rfl _) (fun _ h9 => h9) rfl dX6_secondsOf_1 ?_
    refine lv_iload_n hx hb dX6_secondsOf_4 rfl (lv_at hl 1 rfl) ?_
    obtain ⟨h_1, hf⟩ := kb_if hf
    refine va_iald (D := D) hx hb hK.1 hP 4 0 rfl rfl h_1 dX6_secondsOf_5 ?_
    refine lv_istore_n (lv' := [(2, .int ((rd_place rd) (x0).toNatClampNeg)), (0, .ref (a 0)), (1, .int x0)]) hx hb dX6_secondsOf_6 rfl hl (by decide) rfl (fun ls hl => ?_)
    refine lv_iload_n hx hb dX6_secondsOf_7 rfl (lv_at hl 0 rfl) ?_
    refine lv_bipush (v := (20 : Int32)) hx hb dX6_secondsOf_8 (by decide) ?_
    refine lv_icmp_lt (tgt := 24) hx hb dX6_secondsOf_10 (by decide) (fun c_2 => ?_) (fun c_2 => ?_)
    · rw [if_pos c_2] at hf
      refine lv_aload_n hx hb dX6_secondsOf_24 rfl (lv_at hl 1 rfl) ?_
      refine va_get (D := D) (ci := 6) (v := .ref (a 1)) (C := RX6) (T := TX6) (N := 11) hx hb hts kb_inX6 hown hK.1 hP 0 rfl rfl 1 (by decide) (hK.2.w ww_2_67 rfl _) (fun _ h9 => h9) rfl dX6_secondsOf_25 ?_
      refine lv_iload_n hx hb dX6_secondsOf_28 rfl (lv_at hl 0 rfl) ?_
      obtain ⟨r3, hc3, hf⟩ := kb_bind hf
      refine kb_ci (ws2 := (w_Ride dA a (pa 0) (pa 1) rd ++ (w_Plan dA pa pl))) (kb_rV (n := 1) (As := [.int ((rd_place rd) (x0).toNatClampNeg)]) (rest := []) hx hb hml hown hK (c_X9_besideOf l D dA H.size (fun k => a (1 + k)) (fun k => pa (1 + k)) (rd_scene rd) (pl_cab pl) ((rd_place rd) (x0).toNatClampNeg) r3 hc3) ⟨ww_3_212, ww_3_209, ww_3_210, ww_3_211, ww_1_9, rfl, by decide, by decide⟩ rfl rfl (by decide +kernel) ⟨Nat.le_of_ble_eq_true rfl, Nat.le_of_ble_eq_true rfl⟩ hP hD hS hA hE [1, 2, 3, 10, 11] rfl (by decide) 0 rfl rfl rfl hl.1 rfl (Nat.le_of_ble_eq_true rfl) dX6_secondsOf_29 ⟨Nat.le_of_ble_eq_true rfl, Nat.le_of_ble_eq_true rfl⟩) hP hD hS hA [1, 2, 3, 10, 11] [0, 4, 5, 6, 7, 8, 9, 12, 13, 14, 15, 16, 17, 18, 19, 20, 21, 22, 23, 24, 25, 26, 27, 28, 29] [0, 25, 26, 27, 1, 2, 3, 4, 5, 6, 28, 29, 7, 8, 9, 10, 11, 12, 13, 14, 15, 16, 17, 18, 19, 20, 21, 22, 23, 24] rfl rfl (by decide) (by decide) rfl (by decide) (fun H locs hP hD hS => ?_)
      refine lv_istore_n (lv' := [(3, .int r3), (2, .int ((rd_place rd) (x0).toNatClampNeg)), (0, .ref (a 0)), (1, .int x0)]) hx hb dX6_secondsOf_32 rfl hl (by decide) rfl (fun ls hl => ?_)
      refine lv_iload_n hx hb dX6_secondsOf_33 rfl (lv_at hl 0 rfl) ?_
      refine lv_bipush (v := (-2 : Int32)) hx hb dX6_secondsOf_34 (by decide) ?_
      refine lv_icmp_eq (tgt := 62) hx hb dX6_secondsOf_36 (by decide) (fun c_4 => ?_) (fun c_4 => ?_)
      · rw [if_pos c_4] at hf
        exact B_62 _ _ _ _ hf hP hD hS (lv_sub hl [2, 1] rfl)
      · rw [if_neg c_4] at hf
        refine lv_aload_n hx hb dX6_secondsOf_39 rfl (lv_at hl 2 rfl) ?_
        refine va_get (D := D) (ci := 6) (v := .ref (pa 0)) (C := RX6) (T := TX6) (N := 11) hx hb hts kb_inX6 hown hK.1 hP 0 rfl rfl 0 (by decide) (hK.2.w ww_2_66 rfl _) (fun _ h9 => h9) rfl dX6_secondsOf_40 ?_
        refine va_get (D := D) (ci := 5) (v := .ref (pa 12)) (C := RX5) (T := TX5) (N := 8) hx hb hts kb_inX5 hown hK.1 hP 9 rfl rfl 2 (by decide) (hK.2.w ww_1_223 rfl _) (fun _ h9 => h9) rfl dX6_secondsOf_43 ?_
        refine lv_iload_n hx hb dX6_secondsOf_46 rfl (lv_at hl 0 rfl) ?_
        obtain ⟨h_9, hf⟩ := kb_if hf
        refine va_aldq (D := D) hx hb hK.1 hP 21 5 rfl rfl h_9 dX6_secondsOf_47 ?_
        show W p l e ({ frames := 2, cells := 0, slots := 0, locals := 42 } : Room) s m ([.ref (a 0), .int x0] : List Value).toArray below meth c _ _ 0 0 Q (F0 m 48 _ [.ref (pa (13 + (r3).toNatClampNeg))])
        refine va_get (D := D) (ci := 7) (v := .int ((qr_off (pl_riders pl)) (r3).toNatClampNeg)) (C := RX7) (T := TX7) (N := 10) hx hb hts kb_inX7 hown hK.1 hP (9 + (13 + (r3).toNatClampNeg)) (kb_at rfl (at_Plan_13 dA pa pl (r3).toNatClampNeg (kb_inlt h_9))) rfl 2 (by decide) (hK.2.w ww_1_167 rfl _) (fun _ h9 => h9) rfl dX6_secondsOf_48 ?_
        refine lv_aload_n hx hb dX6_secondsOf_51 rfl (lv_at hl 2 rfl) ?_
        refine va_get (D := D) (ci := 6) (v := .int (rd_stops rd)) (C := RX6) (T := TX6) (N := 11) hx hb hts kb_inX6 hown hK.1 hP 0 rfl rfl 10 (by decide) (hK.2.w ww_2_84 rfl _) (fun _ h9 => h9) rfl dX6_secondsOf_52 ?_
        refine lv_icmp_eq (tgt := 62) hx hb dX6_secondsOf_55 (by decide) (fun c_10 => ?_) (fun c_10 => ?_)
        · rw [if_pos c_10] at hf
          exact B_62 _ _ _ _ hf hP hD hS (lv_sub hl [2, 1] rfl)
        · rw [if_neg c_10] at hf
          refine lv_iconst (v := (1 : Int32)) hx hb dX6_secondsOf_58 (by decide) ?_
          refine lv_goto (tgt := 63) hx hb dX6_secondsOf_59 (by decide) ?_
          exact B_63 _ _ _ _ _ hf hP hD hS (lv_sub hl [2, 1] rfl)
    · rw [if_neg c_2] at hf
      refine lv_aload_n hx hb dX6_secondsOf_13 rfl (lv_at hl 1 rfl) ?_
      refine va_get (D := D) (ci := 6) (v := .ref (pa 0)) (C := RX6) (T := TX6) (N := 11) hx hb hts kb_inX6 hown hK.1 hP 0 rfl rfl 0 (by decide) (hK.2.w ww_2_66 rfl _) (fun _ h9 => h9) rfl dX6_secondsOf_14 ?_
      refine va_get (D := D) (ci := 5) (v := .ref (pa 1)) (C := RX5) (T := TX5) (N := 8) hx hb hts kb_inX5 hown hK.1 hP 9 rfl rfl 0 (by decide) (hK.2.w ww_1_214 rfl _) (fun _ h9 => h9) rfl dX6_secondsOf_17 ?_
      refine va_get (D := D) (ci := 0) (v := .int (cb_pace (pl_cab pl))) (C := RX0) (T := TX0) (N := 8) hx hb hts kb_inX0 hown hK.1 hP 10 rfl rfl 3 (by decide) (hK.2.w ww_1_96 rfl _) (fun _ h9 => h9) rfl dX6_secondsOf_20 ?_
      exact RET _ H _ ls 23 hf hP hD hS dX6_secondsOf_23
  exact E0 _ _ hP hD hS

noncomputable def f_X6_bestSeats_b51 (rd : RideT) (pl : PlanT) (v1 : Int32) (i2 : Nat) (v3 : Int32) : Option (Int32) := if kb_in? ((qr_rule (pl_riders pl)) i2) 4 then if kb_in? v1 9 then (f_X9_best (rd_scene rd) (pl_cab pl) (pl_rules pl) ((((qr_rule (pl_riders pl)) i2)).toNatClampNeg) ((sc_looks (rd_scene rd)) (v1).toNatClampNeg) ((qr_friends (pl_riders pl)) i2) v3).bind fun r7 => some (r7) else none else none
noncomputable def f_X6_bestSeats_b42 (rd : RideT) (pl : PlanT) (v1 : Int32) (i2 : Nat) (v3 : Int32) : Option (Int32) := (if v3 = 0 then (f_X6_bagSeats rd).bind fun r8 => f_X6_bestSeats_b51 rd pl v1 i2 r8 else f_X6_bestSeats_b51 rd pl v1 i2 v3)
noncomputable def f_X6_bestSeats (rd : RideT) (pl : PlanT) (x0 : Int32) : Option (Int32) := if kb_in? x0 8 then (f_X6_freeSeats rd pl).bind fun r2 => (if ((qr_held (pl_riders pl)) (x0).toNatClampNeg) = (-2 : Int32) then f_X6_bestSeats_b42 rd pl x0 (x0).toNatClampNeg r2 else (f_X10_holdsBit r2 ((qr_held (pl_riders pl)) (x0).toNatClampNeg)).bind fun r9 => (if r9 = 0 then f_X6_bestSeats_b42 rd pl x0 (x0).toNatClampNeg r2 else some (((1 : Int32) <<< (((qr_held (pl_riders pl)) (x0).toNatClampNeg) &&& 31))))) else none
set_option maxHeartbeats 4000000 in
set_option maxRecDepth 100000 in
theorem c_X6_bestSeats (l : Launch) (D : va_G) (dA : Nat → ClassId) (sz : Nat) (a : Nat → Nat) (pa : Nat → Nat) (rd : RideT) (pl : PlanT) (x0 : Int32) (rv : Int32) (hf : f_X6_bestSeats rd pl x0 = some (rv)) : kb_Mi l yX6_bestSeats cX6_bestSeats 4 (some .int) ({ frames := 3, cells := 0, slots := 0, locals := 81 } : Room) D dA [.ref (a 0), .int x0] sz (w_Ride dA a (pa 0) (pa 1) rd ++ (w_Plan dA pa pl)) 0 0 rv (w_Ride dA a (pa 0) (pa 1) rd ++ (w_Plan dA pa pl)) := by
  refine Met.ofW (cc := cX6_bestSeats) (maxL := 4) (ret := (some .int)) (by decide) rfl ?_
  intro p e s m args below meth c s₁ B hml hv
  obtain ⟨rfl, hsz, hP, hK, hD0, hE⟩ := hv
  have hx := B.exec
  have hb := B.bytes
  have hr := B.returns
  have hown : s.vm.findClass RX6 = some m.cls := findClass_of_methodNamed B.named
  have hlocks := B.notSynchronized
  have hts : ∀ w ∈ kb_gw, w.before ([.ref (a 0), .int x0] : List Value).toArray s = true := fun w hw => hK.2.1 w hw _
  subst hsz
  have hD := hD0.self (sz := s.heap.size)
  generalize hAe : va_A (w_Ride dA a (pa 0) (pa 1) rd ++ (w_Plan dA pa pl)) s.heap.size = A at hD hE ⊢
  have hA : ∀ q : Nat, s.heap.size ≤ q → A q := fun q h => by rw [← hAe]; exact Or.inr h
  have hS : va_S A s.heap s.heap [] := va_S.rf
  have hl := lv_entry ([.ref (a 0), .int x0]) (n := 4) (Nat.le_of_ble_eq_true rfl)
  rw [lg_entry_eq]
  generalize (lg_sl ([.ref (a 0), .int x0]) ++ List.replicate (4 - (lg_sl ([.ref (a 0), .int x0])).length) Slot.unset).toArray = ls at hl ⊢
  have hl : lv_has ls 4 [(0, .ref (a 0)), (1, .int x0)] := hl
  generalize hQ : MQ below (va_Qi (fun r (_ : Unit) => r = rv) (kb_B D A (w_Ride dA a (pa 0) (pa 1) rd ++ (w_Plan dA pa pl))) A) ([.ref (a 0), .int x0] : List Value).toArray s 0 0 A = Q
  show W p l e ({ frames := 3, cells := 0, slots := 0, locals := 81 } : Room) s m ([.ref (a 0), .int x0] : List Value).toArray below meth c s.heap [] 0 0 Q (F0 m 0 ls [])
  have RET : ∀ (r2 : Int32) (H : Heap) (locs : List Loc) (ls : Array Slot) (pc : Nat), some (r2) = some (rv) → va_P D vwCl (w_Ride dA a (pa 0) (pa 1) rd ++ (w_Plan dA pa pl)) H → va_D A (w_Ride dA a (pa 0) (pa 1) rd ++ (w_Plan dA pa pl)) → va_S A s.heap H locs → decode cX6_bestSeats pc = .ok (.ireturn, 1) → W p l e ({ frames := 3, cells := 0, slots := 0, locals := 81 } : Room) s m ([.ref (a 0), .int x0] : List Value).toArray below meth c H locs 0 0 Q (F0 m pc ls [.int r2]) := by
    intro r2 H locs ls pc hq hP hD hS hd
    cases hq
    rw [← hQ]
    exact W.iret hx hb hr (fun t ht hW => ⟨⟨_, (), rfl, rfl, by rw [ht]; exact hP, hD⟩, hS.F ht⟩) hS.2.2 hd
  have B_51 : ∀ (v1 : Int32) (i2 : Nat) (v3 : Int32) (H : Heap) (locs : List Loc) (ls : Array Slot), i2 < 8 → f_X6_bestSeats_b51 rd pl v1 i2 v3 = some (rv) → va_P D vwCl (w_Ride dA a (pa 0) (pa 1) rd ++ (w_Plan dA pa pl)) H → va_D A (w_Ride dA a (pa 0) (pa 1) rd ++ (w_Plan dA pa pl)) → va_S A s.heap H locs → lv_has ls 4 [(0, .ref (a 0)), (1, .int v1), (2, .ref (pa (13 + i2))), (3, .int v3)] → W p l e ({ frames := 3, cells := 0, slots := 0, locals := 81 } : Room) s m ([.ref (a 0), .int x0] : List Value).toArray below meth c H locs 0 0 Q (F0 m 51 ls []) := by
    intro v1 i2 v3 H locs ls hi2 hf hP hD hS hl
    rw [f_X6_bestSeats_b51] at hf
    refine lv_aload_n hx hb dX6_bestSeats_51 rfl (lv_at hl 0 rfl) ?_
    refine va_get (D := D) (ci := 6) (v := .ref (a 1)) (C := RX6) (T := TX6) (N := 11) hx hb hts kb_inX6 hown hK.1 hP 0 rfl rfl 1 (by decide) (hK.2.w ww_2_67 rfl _) (fun _ h9 => h9) rfl dX6_bestSeats_52 ?_
    refine lv_aload_n hx hb dX6_bestSeats_55 rfl (lv_at hl 0 rfl) ?_
    refine va_get (D := D) (ci := 6) (v := .ref (pa 0)) (C := RX6) (T := TX6) (N := 11) hx hb hts kb_inX6 hown hK.1 hP 0 rfl rfl 0 (by decide) (hK.2.w ww_2_66 rfl _) (fun _ h9 => h9) rfl dX6_bestSeats_56 ?_
    refine va_get (D := D) (ci := 5) (v := .ref (pa 3)) (C := RX5) (T := TX5) (N := 8) hx hb hts kb_inX5 hown hK.1 hP 9 rfl rfl 1 (by decide) (hK.2.w ww_1_219 rfl _) (fun _ h9 => h9) rfl dX6_bestSeats_59 ?_
    refine lv_aload_n hx hb dX6_bestSeats_62 rfl (lv_at hl 2 rfl) ?_
    refine va_get (D := D) (ci := 7) (v := .int ((qr_rule (pl_riders pl)) i2)) (C := RX7) (T := TX7) (N := 10) hx hb hts kb_inX7 hown hK.1 hP (9 + (13 + i2)) (kb_at rfl (at_Plan_13 dA pa pl i2 hi2)) rfl 3 (by decide) (hK.2.w ww_1_171 rfl _) (fun _ h9 => h9) rfl dX6_bestSeats_63 ?_
    obtain ⟨h_5, hf⟩ := kb_if hf
    refine va_aldq (D := D) hx hb hK.1 hP 12 6 rfl rfl h_5 dX6_bestSeats_66 ?_
    show W p l e ({ frames := 3, cells := 0, slots := 0, locals := 81 } : Room) s m ([.ref (a 0), .int x0] : List Value).toArray below meth c _ _ 0 0 Q (F0 m 67 _ [.ref (pa (4 + (((qr_rule (pl_riders pl)) i2)).toNatClampNeg)), .ref (a 1)])
    refine lv_aload_n hx hb dX6_bestSeats_67 rfl (lv_at hl 0 rfl) ?_
    refine va_get (D := D) (ci := 6) (v := .ref (a 1)) (C := RX6) (T := TX6) (N := 11) hx hb hts kb_inX6 hown hK.1 hP 0 rfl rfl 1 (by decide) (hK.2.w ww_2_67 rfl _) (fun _ h9 => h9) rfl dX6_bestSeats_68 ?_
    refine va_get (D := D) (ci := 9) (v := .ref (a 3)) (C := RX9) (T := TX9) (N := 3) hx hb hts kb_inX9 hown hK.1 hP 1 rfl rfl 1 (by decide) (hK.2.w ww_2_56 rfl _) (fun _ h9 => h9) rfl dX6_bestSeats_71 ?_
    refine lv_iload_n hx hb dX6_bestSeats_74 rfl (lv_at hl 1 rfl) ?_
    obtain ⟨h_6, hf⟩ := kb_if hf
    refine va_iald (D := D) hx hb hK.1 hP 3 0 rfl rfl h_6 dX6_bestSeats_75 ?_
    refine lv_aload_n hx hb dX6_bestSeats_76 rfl (lv_at hl 2 rfl) ?_
    refine va_get (D := D) (ci := 7) (v := .int ((qr_friends (pl_riders pl)) i2)) (C := RX7) (T := TX7) (N := 10) hx hb hts kb_inX7 hown hK.1 hP (9 + (13 + i2)) (kb_at rfl (at_Plan_13 dA pa pl i2 hi2)) rfl 9 (by decide) (hK.2.w ww_1_190 rfl _) (fun _ h9 => h9) rfl dX6_bestSeats_77 ?_
    refine lv_iload_n hx hb dX6_bestSeats_80 rfl (lv_at hl 3 rfl) ?_
    obtain ⟨r7, hc7, hf⟩ := kb_bind hf
    refine kb_ci (ws2 := (w_Ride dA a (pa 0) (pa 1) rd ++ (w_Plan dA pa pl))) (kb_rV (n := 4) (As := [.ref (pa (4 + (((qr_rule (pl_riders pl)) i2)).toNatClampNeg)), .int ((sc_looks (rd_scene rd)) (v1).toNatClampNeg), .int ((qr_friends (pl_riders pl)) i2), .int v3]) (rest := []) hx hb hml hown hK (c_X9_best l D dA H.size (fun k => a (1 + k)) (fun k => pa (1 + k)) (fun k => pa (4 + k)) (rd_scene rd) (pl_cab pl) (pl_rules pl) ((((qr_rule (pl_riders pl)) i2)).toNatClampNeg) (kb_inlt h_5) ((sc_looks (rd_scene rd)) (v1).toNatClampNeg) ((qr_friends (pl_riders pl)) i2) v3 r7 hc7) ⟨ww_4_30, ww_4_27, ww_4_28, ww_4_29, ww_1_9, rfl, by decide, by decide⟩ rfl rfl (by decide +kernel) ⟨Nat.le_of_ble_eq_true rfl, Nat.le_of_ble_eq_true rfl⟩ hP hD hS hA hE [1, 2, 3, 10, 11, 13, 14, 15, 16, 17, 18, 19, 20] rfl (by decide) 0 rfl rfl rfl hl.1 rfl (Nat.le_of_ble_eq_true rfl) dX6_bestSeats_81 ⟨Nat.le_of_ble_eq_true rfl, Nat.le_of_ble_eq_true rfl⟩) hP hD hS hA [1, 2, 3, 10, 11, 13, 14, 15, 16, 17, 18, 19, 20] [0, 4, 5, 6, 7, 8, 9, 12, 21, 22, 23, 24, 25, 26, 27, 28, 29] [0, 17, 18, 19, 1, 2, 3, 4, 5, 6, 20, 21, 7, 22, 23, 24, 25, 26, 27, 28, 29, 8, 9, 10, 11, 12, 13, 14, 15, 16] rfl rfl (by decide) (by decide) rfl (by decide) (fun H locs hP hD hS => ?_)
    exact RET _ H _ ls 84 hf hP hD hS dX6_bestSeats_84
  have B_42 : ∀ (v1 : Int32) (i2 : Nat) (v3 : Int32) (H : Heap) (locs : List Loc) (ls : Array Slot), i2 < 8 → f_X6_bestSeats_b42 rd pl v1 i2 v3 = some (rv) → va_P D vwCl (w_Ride dA a (pa 0) (pa 1) rd ++ (w_Plan dA pa pl)) H → va_D A (w_Ride dA a (pa 0) (pa 1) rd ++ (w_Plan dA pa pl)) → va_S A s.heap H locs → lv_has ls 4 [(0, .ref (a 0)), (1, .int v1), (2, .ref (pa (13 + i2))), (3, .int v3)] → W p l e ({ frames := 3, cells := 0, slots := 0, locals := 81 } : Room) s m ([.ref (a 0), .int x0] : List Value).toArray below meth c H locs 0 0 Q (F0 m 42 ls []) := by
    intro v1 i2 v3 H locs ls hi2 hf hP hD hS hl
    rw [f_X6_bestSeats_b42] at hf
    refine lv_iload_n hx hb dX6_bestSeats_42 rfl (lv_at hl 3 rfl) ?_
    refine lv_if_ne (tgt := 51) hx hb dX6_bestSeats_43 (by decide) (fun c_4 => ?_) (fun c_4 => ?_)
    · rw [if_neg c_4] at hf
      exact B_51 _ _ _ _ _ _ hi2 hf hP hD hS (lv_sub hl [0, 1, 2, 3] rfl)
    · rw [if_pos c_4] at hf
      refine lv_aload_n hx hb dX6_bestSeats_46 rfl (lv_at hl 0 rfl) ?_
      obtain ⟨r8, hc8, hf⟩ := kb_bind hf
      refine kb_ci (ws2 := (w_Ride dA a (pa 0) (pa 1) rd ++ (w_Plan dA pa pl))) (kb_rV (n := 0) (As := []) (rest := []) hx hb hml hown hK (c_X6_bagSeats l D dA H.size a (pa 0) (pa 1) rd r8 hc8) ⟨ww_4_26, ww_4_23, ww_4_25, ws_30, ww_1_8, rfl, by decide, by decide⟩ rfl rfl (by decide +kernel) ⟨Nat.le_of_ble_eq_true rfl, Nat.le_of_ble_eq_true rfl⟩ hP hD hS hA hE [0, 1, 2, 3, 4, 5, 6, 7, 8] rfl (by decide) 0 rfl rfl rfl hl.1 rfl (Nat.le_of_ble_eq_true rfl) dX6_bestSeats_47 ⟨Nat.le_of_ble_eq_true rfl, Nat.le_of_ble_eq_true rfl⟩) hP hD hS hA [0, 1, 2, 3, 4, 5, 6, 7, 8] [9, 10, 11, 12, 13, 14, 15, 16, 17, 18, 19, 20, 21, 22, 23, 24, 25, 26, 27, 28, 29] [21, 22, 23, 24, 25, 26, 27, 28, 29, 0, 1, 2, 3, 4, 5, 6, 7, 8, 9, 10, 11, 12, 13, 14, 15, 16, 17, 18, 19, 20] rfl rfl (by decide) (by decide) rfl (by decide) (fun H locs hP hD hS => ?_)
      refine lv_istore_n (lv' := [(3, .int r8), (0, .ref (a 0)), (1, .int v1), (2, .ref (pa (13 + i2)))]) hx hb dX6_bestSeats_50 rfl hl (by decide) rfl (fun ls hl => ?_)
      exact B_51 _ _ _ _ _ _ hi2 hf hP hD hS (lv_sub hl [1, 2, 3, 0] rfl)
  have E0 : ∀ (H : Heap) (locs : List Loc), va_P D vwCl (w_Ride dA a (pa 0) (pa 1) rd ++ (w_Plan dA pa pl)) H → va_D A (w_Ride dA a (pa 0) (pa 1) rd ++ (w_Plan dA pa pl)) → va_S A s.heap H locs → W p l e ({ frames := 3, cells := 0, slots := 0, locals := 81 } : Room) s m ([.ref (a 0), .int x0] : List Value).toArray below meth c H locs 0 0 Q (F0 m 0 ls []) := by
    intro H locs hP hD hS
    rw [f_X6_bestSeats] at hf
    refine lv_aload_n hx hb dX6_bestSeats_0 rfl (lv_at hl 0 rfl) ?_
    refine va_get (D := D) (ci := 6) (v := .ref (pa 0)) (C := RX6) (T := TX6) (N := 11) hx hb hts kb_inX6 hown hK.1 hP 0 rfl rfl 0 (by decide) (hK.2.w ww_2_66 rfl _) (fun _ h9 => h9) rfl dX6_bestSeats_1 ?_
    refine va_get (D := D) (ci := 5) (v := .ref (pa 12)) (C := RX5) (T := TX5) (N := 8) hx hb hts kb_inX5 hown hK.1 hP 9 rfl rfl 2 (by decide) (hK.2.w ww_1_223 rfl _) (fun _ h9 => h9) rfl dX6_bestSeats_4 ?_
    refine lv_iload_n hx hb dX6_bestSeats_7 rfl (lv_at hl 1 rfl) ?_
    obtain ⟨h_1, hf⟩ := kb_if hf
    refine va_aldq (D := D) hx hb hK.1 hP 21 5 rfl rfl h_1 dX6_bestSeats_8 ?_
    show W p l e ({ frames := 3, cells := 0, slots := 0, locals := 81 } : Room) s m ([.ref (a 0), .int x0] : List Value).toArray below meth c _ _ 0 0 Q (F0 m 9 _ [.ref (pa (13 + (x0).toNatClampNeg))])
    refine lv_astore_n (lv' := [(2, .ref (pa (13 + (x0).toNatClampNeg))), (0, .ref (a 0)), (1, .int x0)]) hx hb dX6_bestSeats_9 rfl hl (by decide) rfl (fun ls hl => ?_)
    refine lv_aload_n hx hb dX6_bestSeats_10 rfl (lv_at hl 1 rfl) ?_
    obtain ⟨r2, hc2, hf⟩ := kb_bind hf
    refine kb_ci (ws2 := (w_Ride dA a (pa 0) (pa 1) rd ++ (w_Plan dA pa pl))) (kb_rV (n := 0) (As := []) (rest := []) hx hb hml hown hK (c_X6_freeSeats l D dA H.size a pa rd pl r2 hc2) ⟨ww_4_22, ww_4_19, ww_4_20, ww_4_21, ww_1_8, rfl, by decide, by decide⟩ rfl rfl (by decide +kernel) ⟨Nat.le_of_ble_eq_true rfl, Nat.le_of_ble_eq_true rfl⟩ hP hD hS hA hE [0, 1, 2, 3, 4, 5, 6, 7, 8, 9, 10, 11, 12, 13, 14, 15, 16, 17, 18, 19, 20, 21, 22, 23, 24, 25, 26, 27, 28, 29] rfl (by decide) 0 rfl rfl rfl hl.1 rfl (Nat.le_of_ble_eq_true rfl) dX6_bestSeats_11 ⟨Nat.le_of_ble_eq_true rfl, Nat.le_of_ble_eq_true rfl⟩) hP hD hS hA [0, 1, 2, 3, 4, 5, 6, 7, 8, 9, 10, 11, 12, 13, 14, 15, 16, 17, 18, 19, 20, 21, 22, 23, 24, 25, 26, 27, 28, 29] [] [0, 1, 2, 3, 4, 5, 6, 7, 8, 9, 10, 11, 12, 13, 14, 15, 16, 17, 18, 19, 20, 21, 22, 23, 24, 25, 26, 27, 28, 29] rfl rfl (by decide) (by decide) rfl (by decide) (fun H locs hP hD hS => ?_)
    refine lv_istore_n (lv' := [(3, .int r2), (2, .ref (pa (13 + (x0).toNatClampNeg))), (0, .ref (a 0)), (1, .int x0)]) hx hb dX6_bestSeats_14 rfl hl (by decide) rfl (fun ls hl => ?_)
    refine lv_aload_n hx hb dX6_bestSeats_15 rfl (lv_at hl 1 rfl) ?_
    refine va_get (D := D) (ci := 7) (v := .int ((qr_held (pl_riders pl)) (x0).toNatClampNeg)) (C := RX7) (T := TX7) (N := 10) hx hb hts kb_inX7 hown hK.1 hP (9 + (13 + (x0).toNatClampNeg)) (kb_at rfl (at_Plan_13 dA pa pl (x0).toNatClampNeg (kb_inlt h_1))) rfl 8 (by decide) (hK.2.w ww_1_187 rfl _) (fun _ h9 => h9) rfl dX6_bestSeats_16 ?_
    refine lv_bipush (v := (-2 : Int32)) hx hb dX6_bestSeats_19 (by decide) ?_
    refine lv_icmp_eq (tgt := 42) hx hb dX6_bestSeats_21 (by decide) (fun c_3 => ?_) (fun c_3 => ?_)
    · rw [if_pos c_3] at hf
      exact B_42 _ _ _ _ _ _ (kb_inlt h_1) hf hP hD hS (lv_sub hl [2, 3, 1, 0] rfl)
    · rw [if_neg c_3] at hf
      refine lv_iload_n hx hb dX6_bestSeats_24 rfl (lv_at hl 0 rfl) ?_
      refine lv_aload_n hx hb dX6_bestSeats_25 rfl (lv_at hl 1 rfl) ?_
      refine va_get (D := D) (ci := 7) (v := .int ((qr_held (pl_riders pl)) (x0).toNatClampNeg)) (C := RX7) (T := TX7) (N := 10) hx hb hts kb_inX7 hown hK.1 hP (9 + (13 + (x0).toNatClampNeg)) (kb_at rfl (at_Plan_13 dA pa pl (x0).toNatClampNeg (kb_inlt h_1))) rfl 8 (by decide) (hK.2.w ww_1_187 rfl _) (fun _ h9 => h9) rfl dX6_bestSeats_26 ?_
      obtain ⟨r9, hc9, hf⟩ := kb_bind hf
      refine kb_ci (ws2 := (w_Ride dA a (pa 0) (pa 1) rd ++ (w_Plan dA pa pl))) (kb_rSN (n := 2) (As := [.int r2, .int ((qr_held (pl_riders pl)) (x0).toNatClampNeg)]) (rest := []) hx hb hml hown hK (c_X10_holdsBit l D dA H.size r2 ((qr_held (pl_riders pl)) (x0).toNatClampNeg) r9 hc9) ⟨ww_3_158, ww_4_6, ww_3_157, ww_1_1, by decide, by decide⟩ rfl rfl (by decide +kernel) ⟨Nat.le_of_ble_eq_true rfl, Nat.le_of_ble_eq_true rfl⟩ hP hD hS hA hE [] rfl (by decide) rfl hl.1 rfl (Nat.le_of_ble_eq_true rfl) dX6_bestSeats_29 ⟨Nat.le_of_ble_eq_true rfl, Nat.le_of_ble_eq_true rfl⟩) hP hD hS hA [] [0, 1, 2, 3, 4, 5, 6, 7, 8, 9, 10, 11, 12, 13, 14, 15, 16, 17, 18, 19, 20, 21, 22, 23, 24, 25, 26, 27, 28, 29] [0, 1, 2, 3, 4, 5, 6, 7, 8, 9, 10, 11, 12, 13, 14, 15, 16, 17, 18, 19, 20, 21, 22, 23, 24, 25, 26, 27, 28, 29] rfl rfl (by decide) (by decide) rfl (by decide) (fun H locs hP hD hS => ?_)
      refine lv_if_eq (tgt := 42) hx hb dX6_bestSeats_32 (by decide) (fun c_10 => ?_) (fun c_10 => ?_)
      · rw [if_pos c_10] at hf
        exact B_42 _ _ _ _ _ _ (kb_inlt h_1) hf hP hD hS (lv_sub hl [2, 3, 1, 0] rfl)
      · rw [if_neg c_10] at hf
        refine lv_iconst (v := (1 : Int32)) hx hb dX6_bestSeats_35 (by decide) ?_
        refine lv_aload_n hx hb dX6_bestSeats_36 rfl (lv_at hl 1 rfl) ?_
        refine va_get (D := D) (ci := 7) (v := .int ((qr_held (pl_riders pl)) (x0).toNatClampNeg)) (C := RX7) (T := TX7) (N := 10) hx hb hts kb_inX7 hown hK.1 hP (9 + (13 + (x0).toNatClampNeg)) (kb_at rfl (at_Plan_13 dA pa pl (x0).toNatClampNeg (kb_inlt h_1))) rfl 8 (by decide) (hK.2.w ww_1_187 rfl _) (fun _ h9 => h9) rfl dX6_bestSeats_37 ?_
        refine lv_ishl hx hb dX6_bestSeats_40 ?_
        exact RET _ H _ ls 41 hf hP hD hS dX6_bestSeats_41
  exact E0 _ _ hP hD hS

noncomputable def f_X6_chosen_b60 (rd : RideT) (pl : PlanT) (v3 : Int32) (s0 : Int32) : Option (Int32) := (if s0 = 0 then some (v3) else some ((-2 : Int32)))
noncomputable def f_X6_chosen_b59 (rd : RideT) (pl : PlanT) (v3 : Int32) : Option (Int32) := f_X6_chosen_b60 rd pl v3 (0 : Int32)
noncomputable def f_X6_chosen (rd : RideT) (pl : PlanT) (x0 : Int32) (x1 : Int32) : Option (Int32) := (f_X10_lowestBit x1).bind fun r1 => (if r1 = (-2 : Int32) then some ((-2 : Int32)) else if kb_in? x0 8 then (if ((qr_isProud (pl_riders pl)) (x0).toNatClampNeg) = 0 then f_X6_chosen_b59 rd pl r1 else (if ((qr_held (pl_riders pl)) (x0).toNatClampNeg) = r1 then f_X6_chosen_b59 rd pl r1 else (f_X9_besideOf (rd_scene rd) (pl_cab pl) r1).bind fun r7 => (if r7 = (-2 : Int32) then f_X6_chosen_b59 rd pl r1 else f_X6_chosen_b60 rd pl r1 (1 : Int32)))) else none)
set_option maxHeartbeats 4000000 in
set_option maxRecDepth 100000 in
theorem c_X6_chosen (l : Launch) (D : va_G) (dA : Nat → ClassId) (sz : Nat) (a : Nat → Nat) (pa : Nat → Nat) (rd : RideT) (pl : PlanT) (x0 : Int32) (x1 : Int32) (rv : Int32) (hf : f_X6_chosen rd pl x0 x1 = some (rv)) : kb_Mi l yX6_chosen cX6_chosen 6 (some .int) ({ frames := 2, cells := 0, slots := 0, locals := 42 } : Room) D dA [.ref (a 0), .int x0, .int x1] sz (w_Ride dA a (pa 0) (pa 1) rd ++ (w_Plan dA pa pl)) 0 0 rv (w_Ride dA a (pa 0) (pa 1) rd ++ (w_Plan dA pa pl)) := by
  refine Met.ofW (cc := cX6_chosen) (maxL := 6) (ret := (some .int)) (by decide) rfl ?_
  intro p e s m args below meth c s₁ B hml hv
  obtain ⟨rfl, hsz, hP, hK, hD0, hE⟩ := hv
  have hx := B.exec
  have hb := B.bytes
  have hr := B.returns
  have hown : s.vm.findClass RX6 = some m.cls := findClass_of_methodNamed B.named
  have hlocks := B.notSynchronized
  have hts : ∀ w ∈ kb_gw, w.before ([.ref (a 0), .int x0, .int x1] : List Value).toArray s = true := fun w hw => hK.2.1 w hw _
  subst hsz
  have hD := hD0.self (sz := s.heap.size)
  generalize hAe : va_A (w_Ride dA a (pa 0) (pa 1) rd ++ (w_Plan dA pa pl)) s.heap.size = A at hD hE ⊢
  have hA : ∀ q : Nat, s.heap.size ≤ q → A q := fun q h => by rw [← hAe]; exact Or.inr h
  have hS : va_S A s.heap s.heap [] := va_S.rf
  have hl := lv_entry ([.ref (a 0), .int x0, .int x1]) (n := 6) (Nat.le_of_ble_eq_true rfl)
  rw [lg_entry_eq]
  generalize (lg_sl ([.ref (a 0), .int x0, .int x1]) ++ List.replicate (6 - (lg_sl ([.ref (a 0), .int x0, .int x1])).length) Slot.unset).toArray = ls at hl ⊢
  have hl : lv_has ls 6 [(0, .ref (a 0)), (1, .int x0), (2, .int x1)] := hl
  generalize hQ : MQ below (va_Qi (fun r (_ : Unit) => r = rv) (kb_B D A (w_Ride dA a (pa 0) (pa 1) rd ++ (w_Plan dA pa pl))) A) ([.ref (a 0), .int x0, .int x1] : List Value).toArray s 0 0 A = Q
  show W p l e ({ frames := 2, cells := 0, slots := 0, locals := 42 } : Room) s m ([.ref (a 0), .int x0, .int x1] : List Value).toArray below meth c s.heap [] 0 0 Q (F0 m 0 ls [])
  have RET : ∀ (r2 : Int32) (H : Heap) (locs : List Loc) (ls : Array Slot) (pc : Nat), some (r2) = some (rv) → va_P D vwCl (w_Ride dA a (pa 0) (pa 1) rd ++ (w_Plan dA pa pl)) H → va_D A (w_Ride dA a (pa 0) (pa 1) rd ++ (w_Plan dA pa pl)) → va_S A s.heap H locs → decode cX6_chosen pc = .ok (.ireturn, 1) → W p l e ({ frames := 2, cells := 0, slots := 0, locals := 42 } : Room) s m ([.ref (a 0), .int x0, .int x1] : List Value).toArray below meth c H locs 0 0 Q (F0 m pc ls [.int r2]) := by
    intro r2 H locs ls pc hq hP hD hS hd
    cases hq
    rw [← hQ]
    exact W.iret hx hb hr (fun t ht hW => ⟨⟨_, (), rfl, rfl, by rw [ht]; exact hP, hD⟩, hS.F ht⟩) hS.2.2 hd
  have B_60 : ∀ (v3 : Int32) (s0 : Int32) (H : Heap) (locs : List Loc) (ls : Array Slot), f_X6_chosen_b60 rd pl v3 s0 = some (rv) → va_P D vwCl (w_Ride dA a (pa 0) (pa 1) rd ++ (w_Plan dA pa pl)) H → va_D A (w_Ride dA a (pa 0) (pa 1) rd ++ (w_Plan dA pa pl)) → va_S A s.heap H locs → lv_has ls 6 [(3, .int v3)] → W p l e ({ frames := 2, cells := 0, slots := 0, locals := 42 } : Room) s m ([.ref (a 0), .int x0, .int x1] : List Value).toArray below meth c H locs 0 0 Q (F0 m 60 ls [.int s0]) := by
    intro v3 s0 H locs ls hf hP hD hS hl
    rw [f_X6_chosen_b60] at hf
    refine lv_istore (lv' := [(5, .int s0), (3, .int v3)]) hx hb dX6_chosen_60 hl (by decide) rfl (fun ls hl => ?_)
    refine lv_iload hx hb dX6_chosen_62 (lv_at hl 0 rfl) ?_
    refine lv_if_eq (tgt := 72) hx hb dX6_chosen_64 (by decide) (fun c_5 => ?_) (fun c_5 => ?_)
    · rw [if_pos c_5] at hf
      refine lv_iload_n hx hb dX6_chosen_72 rfl (lv_at hl 1 rfl) ?_
      exact RET _ H _ ls 73 hf hP hD hS dX6_chosen_73
    · rw [if_neg c_5] at hf
      refine lv_bipush (v := (-2 : Int32)) hx hb dX6_chosen_67 (by decide) ?_
      refine lv_goto (tgt := 73) hx hb dX6_chosen_69 (by decide) ?_
      exact RET _ H _ ls 73 hf hP hD hS dX6_chosen_73
  have B_59 : ∀ (v3 : Int32) (H : Heap) (locs : List Loc) (ls : Array Slot), f_X6_chosen_b59 rd pl v3 = some (rv) → va_P D vwCl (w_Ride dA a (pa 0) (pa 1) rd ++ (w_Plan dA pa pl)) H → va_D A (w_Ride dA a (pa 0) (pa 1) rd ++ (w_Plan dA pa pl)) → va_S A s.heap H locs → lv_has ls 6 [(3, .int v3)] → W p l e ({ frames := 2, cells := 0, slots := 0, locals := 42 } : Room) s m ([.ref (a 0), .int x0, .int x1] : List Value).toArray below meth c H locs 0 0 Q (F0 m 59 ls []) := by
    intro v3 H locs ls hf hP hD hS hl
    rw [f_X6_chosen_b59] at hf
    refine lv_iconst (v := (0 : Int32)) hx hb dX6_chosen_59 (by decide) ?_
    exact B_60 _ _ _ _ _ hf hP hD hS (lv_sub hl [0] rfl)
  have E0 : ∀ (H : Heap) (locs : List Loc), va_P D vwCl (w_Ride dA a (pa 0) (pa 1) rd ++ (w_Plan dA pa pl)) H → va_D A (w_Ride dA a (pa 0) (pa 1) rd ++ (w_Plan dA pa pl)) → va_S A s.heap H locs → W p l e ({ frames := 2, cells := 0, slots := 0, locals := 42 } : Room) s m ([.ref (a 0), .int x0, .int x1] : List Value).toArray below meth c H locs 0 0 Q (F0 m 0 ls []) := by
    intro H locs hP hD hS
    rw [f_X6_chosen] at hf
    refine lv_iload_n hx hb dX6_chosen_0 rfl (lv_at hl 2 rfl) ?_
    obtain ⟨r1, hc1, hf⟩ := kb_bind hf
    refine kb_ci (ws2 := (w_Ride dA a (pa 0) (pa 1) rd ++ (w_Plan dA pa pl))) (kb_rSN (n := 1) (As := [.int x1]) (rest := []) hx hb hml hown hK (c_X10_lowestBit l D dA H.size x1 r1 hc1) ⟨ww_4_54, ww_4_52, ww_4_53, ww_1_1, by decide, by decide⟩ rfl rfl (by decide +kernel) ⟨Nat.le_of_ble_eq_true rfl, Nat.le_of_ble_eq_true rfl⟩ hP hD hS hA hE [] rfl (by decide) rfl hl.1 rfl (Nat.le_of_ble_eq_true rfl) dX6_chosen_1 ⟨Nat.le_of_ble_eq_true rfl, Nat.le_of_ble_eq_true rfl⟩) hP hD hS hA [] [0, 1, 2, 3, 4, 5, 6, 7, 8, 9, 10, 11, 12, 13, 14, 15, 16, 17, 18, 19, 20, 21, 22, 23, 24, 25, 26, 27, 28, 29] [0, 1, 2, 3, 4, 5, 6, 7, 8, 9, 10, 11, 12, 13, 14, 15, 16, 17, 18, 19, 20, 21, 22, 23, 24, 25, 26, 27, 28, 29] rfl rfl (by decide) (by decide) rfl (by decide) (fun H locs hP hD hS => ?_)
    refine lv_istore_n (lv' := [(3, .int r1), (0, .ref (a 0)), (1, .int x0), (2, .int x1)]) hx hb dX6_chosen_4 rfl hl (by decide) rfl (fun ls hl => ?_)
    refine lv_iload_n hx hb dX6_chosen_5 rfl (lv_at hl 0 rfl) ?_
    refine lv_bipush (v := (-2 : Int32)) hx hb dX6_chosen_6 (by decide) ?_
    refine lv_icmp_ne (tgt := 14) hx hb dX6_chosen_8 (by decide) (fun c_2 => ?_) (fun c_2 => ?_)
    · rw [if_neg c_2] at hf
      refine lv_aload_n hx hb dX6_chosen_14 rfl (lv_at hl 1 rfl) ?_
      refine va_get (D := D) (ci := 6) (v := .ref (pa 0)) (C := RX6) (T := TX6) (N := 11) hx hb hts kb_inX6 hown hK.1 hP 0 rfl rfl 0 (by decide) (hK.2.w ww_2_66 rfl _) (fun _ h9 => h9) rfl dX6_chosen_15 ?_
      refine va_get (D := D) (ci := 5) (v := .ref (pa 12)) (C := RX5) (T := TX5) (N := 8) hx hb hts kb_inX5 hown hK.1 hP 9 rfl rfl 2 (by decide) (hK.2.w ww_1_223 rfl _) (fun _ h9 => h9) rfl dX6_chosen_18 ?_
      refine lv_iload_n hx hb dX6_chosen_21 rfl (lv_at hl 2 rfl) ?_
      obtain ⟨h_3, hf⟩ := kb_if hf
      refine va_aldq (D := D) hx hb hK.1 hP 21 5 rfl rfl h_3 dX6_chosen_22 ?_
      show W p l e ({ frames := 2, cells := 0, slots := 0, locals := 42 } : Room) s m ([.ref (a 0), .int x0, .int x1] : List Value).toArray below meth c _ _ 0 0 Q (F0 m 23 _ [.ref (pa (13 + (x0).toNatClampNeg))])
      refine lv_astore (lv' := [(4, .ref (pa (13 + (x0).toNatClampNeg))), (3, .int r1), (0, .ref (a 0)), (1, .int x0), (2, .int x1)]) hx hb dX6_chosen_23 hl (by decide) rfl (fun ls hl => ?_)
      refine lv_aload hx hb dX6_chosen_25 (lv_at hl 0 rfl) ?_
      refine va_get (D := D) (ci := 7) (v := .int ((qr_isProud (pl_riders pl)) (x0).toNatClampNeg)) (C := RX7) (T := TX7) (N := 10) hx hb hts kb_inX7 hown hK.1 hP (9 + (13 + (x0).toNatClampNeg)) (kb_at rfl (at_Plan_13 dA pa pl (x0).toNatClampNeg (kb_inlt h_3))) rfl 7 (by decide) (hK.2.w ww_1_184 rfl _) (fun _ h9 => h9) rfl dX6_chosen_27 ?_
      refine lv_if_eq (tgt := 59) hx hb dX6_chosen_30 (by decide) (fun c_4 => ?_) (fun c_4 => ?_)
      · rw [if_pos c_4] at hf
        exact B_59 _ _ _ _ hf hP hD hS (lv_sub hl [1] rfl)
      · rw [if_neg c_4] at hf
        refine lv_aload hx hb dX6_chosen_33 (lv_at hl 0 rfl) ?_
        refine va_get (D := D) (ci := 7) (v := .int ((qr_held (pl_riders pl)) (x0).toNatClampNeg)) (C := RX7) (T := TX7) (N := 10) hx hb hts kb_inX7 hown hK.1 hP (9 + (13 + (x0).toNatClampNeg)) (kb_at rfl (at_Plan_13 dA pa pl (x0).toNatClampNeg (kb_inlt h_3))) rfl 8 (by decide) (hK.2.w ww_1_187 rfl _) (fun _ h9 => h9) rfl dX6_chosen_35 ?_
        refine lv_iload_n hx hb dX6_chosen_38 rfl (lv_at hl 1 rfl) ?_
        refine lv_icmp_eq (tgt := 59) hx hb dX6_chosen_39 (by decide) (fun c_6 => ?_) (fun c_6 => ?_)
        · rw [if_pos c_6] at hf
          exact B_59 _ _ _ _ hf hP hD hS (lv_sub hl [1] rfl)
        · rw [if_neg c_6] at hf
          refine lv_aload_n hx hb dX6_chosen_42 rfl (lv_at hl 2 rfl) ?_
          refine va_get (D := D) (ci := 6) (v := .ref (a 1)) (C := RX6) (T := TX6) (N := 11) hx hb hts kb_inX6 hown hK.1 hP 0 rfl rfl 1 (by decide) (hK.2.w ww_2_67 rfl _) (fun _ h9 => h9) rfl dX6_chosen_43 ?_
          refine lv_iload_n hx hb dX6_chosen_46 rfl (lv_at hl 1 rfl) ?_
          obtain ⟨r7, hc7, hf⟩ := kb_bind hf
          refine kb_ci (ws2 := (w_Ride dA a (pa 0) (pa 1) rd ++ (w_Plan dA pa pl))) (kb_rV (n := 1) (As := [.int r1]) (rest := []) hx hb hml hown hK (c_X9_besideOf l D dA H.size (fun k => a (1 + k)) (fun k => pa (1 + k)) (rd_scene rd) (pl_cab pl) r1 r7 hc7) ⟨ww_3_212, ww_3_209, ww_3_210, ww_3_211, ww_1_9, rfl, by decide, by decide⟩ rfl rfl (by decide +kernel) ⟨Nat.le_of_ble_eq_true rfl, Nat.le_of_ble_eq_true rfl⟩ hP hD hS hA hE [1, 2, 3, 10, 11] rfl (by decide) 0 rfl rfl rfl hl.1 rfl (Nat.le_of_ble_eq_true rfl) dX6_chosen_47 ⟨Nat.le_of_ble_eq_true rfl, Nat.le_of_ble_eq_true rfl⟩) hP hD hS hA [1, 2, 3, 10, 11] [0, 4, 5, 6, 7, 8, 9, 12, 13, 14, 15, 16, 17, 18, 19, 20, 21, 22, 23, 24, 25, 26, 27, 28, 29] [0, 25, 26, 27, 1, 2, 3, 4, 5, 6, 28, 29, 7, 8, 9, 10, 11, 12, 13, 14, 15, 16, 17, 18, 19, 20, 21, 22, 23, 24] rfl rfl (by decide) (by decide) rfl (by decide) (fun H locs hP hD hS => ?_)
          refine lv_bipush (v := (-2 : Int32)) hx hb dX6_chosen_50 (by decide) ?_
          refine lv_icmp_eq (tgt := 59) hx hb dX6_chosen_52 (by decide) (fun c_8 => ?_) (fun c_8 => ?_)
          · rw [if_pos c_8] at hf
            exact B_59 _ _ _ _ hf hP hD hS (lv_sub hl [1] rfl)
          · rw [if_neg c_8] at hf
            refine lv_iconst (v := (1 : Int32)) hx hb dX6_chosen_55 (by decide) ?_
            refine lv_goto (tgt := 60) hx hb dX6_chosen_56 (by decide) ?_
            exact B_60 _ _ _ _ _ hf hP hD hS (lv_sub hl [1] rfl)
    · rw [if_pos c_2] at hf
      refine lv_bipush (v := (-2 : Int32)) hx hb dX6_chosen_11 (by decide) ?_
      exact RET _ H _ ls 13 hf hP hD hS dX6_chosen_13
  exact E0 _ _ hP hD hS

noncomputable def f_X6_tied (rd : RideT) (pl : PlanT) (x0 : Int32) (x1 : Int32) : Option (Int32) := (f_X6_chosen rd pl x0 x1).bind fun r1 => (if r1 = (-2 : Int32) then some ((0 : Int32)) else some (x1))
set_option maxHeartbeats 4000000 in
set_option maxRecDepth 100000 in
theorem c_X6_tied (l : Launch) (D : va_G) (dA : Nat → ClassId) (sz : Nat) (a : Nat → Nat) (pa : Nat → Nat) (rd : RideT) (pl : PlanT) (x0 : Int32) (x1 : Int32) (rv : Int32) (hf : f_X6_tied rd pl x0 x1 = some (rv)) : kb_Mi l yX6_tied cX6_tied 3 (some .int) ({ frames := 3, cells := 0, slots := 0, locals := 67 } : Room) D dA [.ref (a 0), .int x0, .int x1] sz (w_Ride dA a (pa 0) (pa 1) rd ++ (w_Plan dA pa pl)) 0 0 rv (w_Ride dA a (pa 0) (pa 1) rd ++ (w_Plan dA pa pl)) := by
  refine Met.ofW (cc := cX6_tied) (maxL := 3) (ret := (some .int)) (by decide) rfl ?_
  intro p e s m args below meth c s₁ B hml hv
  obtain ⟨rfl, hsz, hP, hK, hD0, hE⟩ := hv
  have hx := B.exec
  have hb := B.bytes
  have hr := B.returns
  have hown : s.vm.findClass RX6 = some m.cls := findClass_of_methodNamed B.named
  have hlocks := B.notSynchronized
  have hts : ∀ w ∈ kb_gw, w.before ([.ref (a 0), .int x0, .int x1] : List Value).toArray s = true := fun w hw => hK.2.1 w hw _
  subst hsz
  have hD := hD0.self (sz := s.heap.size)
  generalize hAe : va_A (w_Ride dA a (pa 0) (pa 1) rd ++ (w_Plan dA pa pl)) s.heap.size = A at hD hE ⊢
  have hA : ∀ q : Nat, s.heap.size ≤ q → A q := fun q h => by rw [← hAe]; exact Or.inr h
  have hS : va_S A s.heap s.heap [] := va_S.rf
  have hl := lv_entry ([.ref (a 0), .int x0, .int x1]) (n := 3) (Nat.le_of_ble_eq_true rfl)
  rw [lg_entry_eq]
  generalize (lg_sl ([.ref (a 0), .int x0, .int x1]) ++ List.replicate (3 - (lg_sl ([.ref (a 0), .int x0, .int x1])).length) Slot.unset).toArray = ls at hl ⊢
  have hl : lv_has ls 3 [(0, .ref (a 0)), (1, .int x0), (2, .int x1)] := hl
  generalize hQ : MQ below (va_Qi (fun r (_ : Unit) => r = rv) (kb_B D A (w_Ride dA a (pa 0) (pa 1) rd ++ (w_Plan dA pa pl))) A) ([.ref (a 0), .int x0, .int x1] : List Value).toArray s 0 0 A = Q
  show W p l e ({ frames := 3, cells := 0, slots := 0, locals := 67 } : Room) s m ([.ref (a 0), .int x0, .int x1] : List Value).toArray below meth c s.heap [] 0 0 Q (F0 m 0 ls [])
  have RET : ∀ (r2 : Int32) (H : Heap) (locs : List Loc) (ls : Array Slot) (pc : Nat), some (r2) = some (rv) → va_P D vwCl (w_Ride dA a (pa 0) (pa 1) rd ++ (w_Plan dA pa pl)) H → va_D A (w_Ride dA a (pa 0) (pa 1) rd ++ (w_Plan dA pa pl)) → va_S A s.heap H locs → decode cX6_tied pc = .ok (.ireturn, 1) → W p l e ({ frames := 3, cells := 0, slots := 0, locals := 67 } : Room) s m ([.ref (a 0), .int x0, .int x1] : List Value).toArray below meth c H locs 0 0 Q (F0 m pc ls [.int r2]) := by
    intro r2 H locs ls pc hq hP hD hS hd
    cases hq
    rw [← hQ]
    exact W.iret hx hb hr (fun t ht hW => ⟨⟨_, (), rfl, rfl, by rw [ht]; exact hP, hD⟩, hS.F ht⟩) hS.2.2 hd
  have E0 : ∀ (H : Heap) (locs : List Loc), va_P D vwCl (w_Ride dA a (pa 0) (pa 1) rd ++ (w_Plan dA pa pl)) H → va_D A (w_Ride dA a (pa 0) (pa 1) rd ++ (w_Plan dA pa pl)) → va_S A s.heap H locs → W p l e ({ frames := 3, cells := 0, slots := 0, locals := 67 } : Room) s m ([.ref (a 0), .int x0, .int x1] : List Value).toArray below meth c H locs 0 0 Q (F0 m 0 ls []) := by
    intro H locs hP hD hS
    rw [f_X6_tied] at hf
    refine lv_aload_n hx hb dX6_tied_0 rfl (lv_at hl 0 rfl) ?_
    refine lv_iload_n hx hb dX6_tied_1 rfl (lv_at hl 1 rfl) ?_
    refine lv_iload_n hx hb dX6_tied_2 rfl (lv_at hl 2 rfl) ?_
    obtain ⟨r1, hc1, hf⟩ := kb_bind hf
    refine kb_ci (ws2 := (w_Ride dA a (pa 0) (pa 1) rd ++ (w_Plan dA pa pl))) (kb_rV (n := 2) (As := [.int x0, .int x1]) (rest := []) hx hb hml hown hK (c_X6_chosen l D dA H.size a pa rd pl x0 x1 r1 hc1) ⟨ww_4_51, ww_4_48, ww_4_49, ww_4_50, ww_1_8, rfl, by decide, by decide⟩ rfl rfl (by decide +kernel) ⟨Nat.le_of_ble_eq_true rfl, Nat.le_of_ble_eq_true rfl⟩ hP hD hS hA hE [0, 1, 2, 3, 4, 5, 6, 7, 8, 9, 10, 11, 12, 13, 14, 15, 16, 17, 18, 19, 20, 21, 22, 23, 24, 25, 26, 27, 28, 29] rfl (by decide) 0 rfl rfl rfl hl.1 rfl (Nat.le_of_ble_eq_true rfl) dX6_tied_3 ⟨Nat.le_of_ble_eq_true rfl, Nat.le_of_ble_eq_true rfl⟩) hP hD hS hA [0, 1, 2, 3, 4, 5, 6, 7, 8, 9, 10, 11, 12, 13, 14, 15, 16, 17, 18, 19, 20, 21, 22, 23, 24, 25, 26, 27, 28, 29] [] [0, 1, 2, 3, 4, 5, 6, 7, 8, 9, 10, 11, 12, 13, 14, 15, 16, 17, 18, 19, 20, 21, 22, 23, 24, 25, 26, 27, 28, 29] rfl rfl (by decide) (by decide) rfl (by decide) (fun H locs hP hD hS => ?_)
    refine lv_bipush (v := (-2 : Int32)) hx hb dX6_tied_6 (by decide) ?_
    refine lv_icmp_ne (tgt := 15) hx hb dX6_tied_8 (by decide) (fun c_2 => ?_) (fun c_2 => ?_)
    · rw [if_neg c_2] at hf
      refine lv_iload_n hx hb dX6_tied_15 rfl (lv_at hl 2 rfl) ?_
      exact RET _ H _ ls 16 hf hP hD hS dX6_tied_16
    · rw [if_pos c_2] at hf
      refine lv_iconst (v := (0 : Int32)) hx hb dX6_tied_11 (by decide) ?_
      refine lv_goto (tgt := 16) hx hb dX6_tied_12 (by decide) ?_
      exact RET _ H _ ls 16 hf hP hD hS dX6_tied_16
  exact E0 _ _ hP hD hS

noncomputable def f_X6_sortedPairs_b91 (rd : RideT) (pl : PlanT) (k4 : Int32 → Int32 → Option (Int32)) (v2 : Int32) (s0 : Int32) (s1 : Int32) : Option (Int32) := k4 (s1 + s0) (v2 + (1 : Int32))
noncomputable def f_X6_sortedPairs_b39 (rd : RideT) (pl : PlanT) (k4 : Int32 → Int32 → Option (Int32)) (v1 : Int32) (v2 : Int32) (v3 : Int32) (s0 : Int32) : Option (Int32) := (if s0 = (-2 : Int32) then k4 v1 (v2 + (1 : Int32)) else (f_X0_isWindow (v2 - v2 / (4 : Int32) * (4 : Int32))).bind fun r6 => (if r6 = 0 then k4 v1 (v2 + (1 : Int32)) else if kb_in? s0 8 then if kb_in? v3 8 then (if ((qr_off (pl_riders pl)) (v3).toNatClampNeg) < ((qr_off (pl_riders pl)) (s0).toNatClampNeg) then f_X6_sortedPairs_b91 rd pl k4 v2 (-1 : Int32) v1 else f_X6_sortedPairs_b91 rd pl k4 v2 (1 : Int32) v1) else none else none))
noncomputable def f_X6_sortedPairs_b4 (rd : RideT) (pl : PlanT) : Nat → Int32 → Int32 → Option (Int32)
  | 0, _, _ => none
  | n + 1, v1, v2 => (if (20 : Int32) ≤ v2 then some (v1) else if kb_in? v2 20 then (if ((sc_sitter (rd_scene rd)) (v2).toNatClampNeg) = (-2 : Int32) then f_X6_sortedPairs_b39 rd pl (f_X6_sortedPairs_b4 rd pl n) v1 v2 ((sc_sitter (rd_scene rd)) (v2).toNatClampNeg) (-2 : Int32) else (f_X9_besideOf (rd_scene rd) (pl_cab pl) v2).bind fun r4 => f_X6_sortedPairs_b39 rd pl (f_X6_sortedPairs_b4 rd pl n) v1 v2 ((sc_sitter (rd_scene rd)) (v2).toNatClampNeg) r4) else none)
noncomputable def f_X6_sortedPairs (rd : RideT) (pl : PlanT) : Option (Int32) := f_X6_sortedPairs_b4 rd pl 4096 (0 : Int32) (0 : Int32)
set_option maxHeartbeats 4000000 in
set_option maxRecDepth 100000 in
theorem c_X6_sortedPairs (l : Launch) (D : va_G) (dA : Nat → ClassId) (sz : Nat) (a : Nat → Nat) (pa : Nat → Nat) (rd : RideT) (pl : PlanT) (rv : Int32) (hf : f_X6_sortedPairs rd pl = some (rv)) : kb_Mi l yX6_sortedPairs cX6_sortedPairs 5 (some .int) ({ frames := 1, cells := 0, slots := 0, locals := 22 } : Room) D dA [.ref (a 0)] sz (w_Ride dA a (pa 0) (pa 1) rd ++ (w_Plan dA pa pl)) 0 0 rv (w_Ride dA a (pa 0) (pa 1) rd ++ (w_Plan dA pa pl)) := by
  refine Met.ofW (cc := cX6_sortedPairs) (maxL := 5) (ret := (some .int)) (by decide) rfl ?_
  intro p e s m args below meth c s₁ B hml hv
  obtain ⟨rfl, hsz, hP, hK, hD0, hE⟩ := hv
  have hx := B.exec
  have hb := B.bytes
  have hr := B.returns
  have hown : s.vm.findClass RX6 = some m.cls := findClass_of_methodNamed B.named
  have hlocks := B.notSynchronized
  have hts : ∀ w ∈ kb_gw, w.before ([.ref (a 0)] : List Value).toArray s = true := fun w hw => hK.2.1 w hw _
  subst hsz
  have hD := hD0.self (sz := s.heap.size)
  generalize hAe : va_A (w_Ride dA a (pa 0) (pa 1) rd ++ (w_Plan dA pa pl)) s.heap.size = A at hD hE ⊢
  have hA : ∀ q : Nat, s.heap.size ≤ q → A q := fun q h => by rw [← hAe]; exact Or.inr h
  have hS : va_S A s.heap s.heap [] := va_S.rf
  have hl := lv_entry ([.ref (a 0)]) (n := 5) (Nat.le_of_ble_eq_true rfl)
  rw [lg_entry_eq]
  generalize (lg_sl ([.ref (a 0)]) ++ List.replicate (5 - (lg_sl ([.ref (a 0)])).length) Slot.unset).toArray = ls at hl ⊢
  have hl : lv_has ls 5 [(0, .ref (a 0))] := hl
  generalize hQ : MQ below (va_Qi (fun r (_ : Unit) => r = rv) (kb_B D A (w_Ride dA a (pa 0) (pa 1) rd ++ (w_Plan dA pa pl))) A) ([.ref (a 0)] : List Value).toArray s 0 0 A = Q
  show W p l e ({ frames := 1, cells := 0, slots := 0, locals := 22 } : Room) s m ([.ref (a 0)] : List Value).toArray below meth c s.heap [] 0 0 Q (F0 m 0 ls [])
  have RET : ∀ (r2 : Int32) (H : Heap) (locs : List Loc) (ls : Array Slot) (pc : Nat), some (r2) = some (rv) → va_P D vwCl (w_Ride dA a (pa 0) (pa 1) rd ++ (w_Plan dA pa pl)) H → va_D A (w_Ride dA a (pa 0) (pa 1) rd ++ (w_Plan dA pa pl)) → va_S A s.heap H locs → decode cX6_sortedPairs pc = .ok (.ireturn, 1) → W p l e ({ frames := 1, cells := 0, slots := 0, locals := 22 } : Room) s m ([.ref (a 0)] : List Value).toArray below meth c H locs 0 0 Q (F0 m pc ls [.int r2]) := by
    intro r2 H locs ls pc hq hP hD hS hd
    cases hq
    rw [← hQ]
    exact W.iret hx hb hr (fun t ht hW => ⟨⟨_, (), rfl, rfl, by rw [ht]; exact hP, hD⟩, hS.F ht⟩) hS.2.2 hd
  have B_91 : ∀ (k4 : Int32 → Int32 → Option (Int32)) (hk4 : ∀ (v1 : Int32) (v2 : Int32) (H : Heap) (locs : List Loc) (ls : Array Slot), k4 v1 v2 = some (rv) → va_P D vwCl (w_Ride dA a (pa 0) (pa 1) rd ++ (w_Plan dA pa pl)) H → va_D A (w_Ride dA a (pa 0) (pa 1) rd ++ (w_Plan dA pa pl)) → va_S A s.heap H locs → lv_has ls 5 [(0, .ref (a 0)), (1, .int v1), (2, .int v2)] → W p l e ({ frames := 1, cells := 0, slots := 0, locals := 22 } : Room) s m ([.ref (a 0)] : List Value).toArray below meth c H locs 0 0 Q (F0 m 4 ls [])) (v2 : Int32) (s0 : Int32) (s1 : Int32) (H : Heap) (locs : List Loc) (ls : Array Slot), f_X6_sortedPairs_b91 rd pl k4 v2 s0 s1 = some (rv) → va_P D vwCl (w_Ride dA a (pa 0) (pa 1) rd ++ (w_Plan dA pa pl)) H → va_D A (w_Ride dA a (pa 0) (pa 1) rd ++ (w_Plan dA pa pl)) → va_S A s.heap H locs → lv_has ls 5 [(0, .ref (a 0)), (2, .int v2)] → W p l e ({ frames := 1, cells := 0, slots := 0, locals := 22 } : Room) s m ([.ref (a 0)] : List Value).toArray below meth c H locs 0 0 Q (F0 m 91 ls [.int s0, .int s1]) := by
    intro k4 hk4 v2 s0 s1 H locs ls hf hP hD hS hl
    rw [f_X6_sortedPairs_b91] at hf
    refine lv_iadd hx hb dX6_sortedPairs_91 ?_
    refine lv_istore_n (lv' := [(1, .int (s1 + s0)), (0, .ref (a 0)), (2, .int v2)]) hx hb dX6_sortedPairs_92 rfl hl (by decide) rfl (fun ls hl => ?_)
    refine lv_iinc (v := (v2 + (1 : Int32))) (lv' := [(2, .int (v2 + (1 : Int32))), (1, .int (s1 + s0)), (0, .ref (a 0))]) hx hb dX6_sortedPairs_93 hl (k := 2) rfl (by rfl) (by decide) rfl (fun ls hl => ?_)
    refine lv_goto (tgt := 4) hx hb dX6_sortedPairs_96 (by decide) ?_
    exact hk4 _ _ _ _ _ hf hP hD hS (lv_sub hl [2, 1, 0] rfl)
  have B_39 : ∀ (k4 : Int32 → Int32 → Option (Int32)) (hk4 : ∀ (v1 : Int32) (v2 : Int32) (H : Heap) (locs : List Loc) (ls : Array Slot), k4 v1 v2 = some (rv) → va_P D vwCl (w_Ride dA a (pa 0) (pa 1) rd ++ (w_Plan dA pa pl)) H → va_D A (w_Ride dA a (pa 0) (pa 1) rd ++ (w_Plan dA pa pl)) → va_S A s.heap H locs → lv_has ls 5 [(0, .ref (a 0)), (1, .int v1), (2, .int v2)] → W p l e ({ frames := 1, cells := 0, slots := 0, locals := 22 } : Room) s m ([.ref (a 0)] : List Value).toArray below meth c H locs 0 0 Q (F0 m 4 ls [])) (v1 : Int32) (v2 : Int32) (v3 : Int32) (s0 : Int32) (H : Heap) (locs : List Loc) (ls : Array Slot), f_X6_sortedPairs_b39 rd pl k4 v1 v2 v3 s0 = some (rv) → va_P D vwCl (w_Ride dA a (pa 0) (pa 1) rd ++ (w_Plan dA pa pl)) H → va_D A (w_Ride dA a (pa 0) (pa 1) rd ++ (w_Plan dA pa pl)) → va_S A s.heap H locs → lv_has ls 5 [(0, .ref (a 0)), (1, .int v1), (2, .int v2), (3, .int v3)] → W p l e ({ frames := 1, cells := 0, slots := 0, locals := 22 } : Room) s m ([.ref (a 0)] : List Value).toArray below meth c H locs 0 0 Q (F0 m 39 ls [.int s0]) := by
    intro k4 hk4 v1 v2 v3 s0 H locs ls hf hP hD hS hl
    rw [f_X6_sortedPairs_b39] at hf
    refine lv_istore (lv' := [(4, .int s0), (0, .ref (a 0)), (1, .int v1), (2, .int v2), (3, .int v3)]) hx hb dX6_sortedPairs_39 hl (by decide) rfl (fun ls hl => ?_)
    refine lv_iload hx hb dX6_sortedPairs_41 (lv_at hl 0 rfl) ?_
    refine lv_bipush (v := (-2 : Int32)) hx hb dX6_sortedPairs_43 (by decide) ?_
    refine lv_icmp_eq (tgt := 93) hx hb dX6_sortedPairs_45 (by decide) (fun c_5 => ?_) (fun c_5 => ?_)
    · rw [if_pos c_5] at hf
      refine lv_iinc (v := (v2 + (1 : Int32))) (lv' := [(2, .int (v2 + (1 : Int32))), (4, .int s0), (0, .ref (a 0)), (1, .int v1), (3, .int v3)]) hx hb dX6_sortedPairs_93 hl (k := 3) rfl (by rfl) (by decide) rfl (fun ls hl => ?_)
      refine lv_goto (tgt := 4) hx hb dX6_sortedPairs_96 (by decide) ?_
      exact hk4 _ _ _ _ _ hf hP hD hS (lv_sub hl [2, 3, 0] rfl)
    · rw [if_neg c_5] at hf
      refine lv_iload_n hx hb dX6_sortedPairs_48 rfl (lv_at hl 3 rfl) ?_
      refine lv_iconst (v := (4 : Int32)) hx hb dX6_sortedPairs_49 (by decide) ?_
      refine lv_irem hx hb dX6_sortedPairs_50 (by decide) ?_
      obtain ⟨r6, hc6, hf⟩ := kb_bind hf
      refine kb_ci (ws2 := (w_Ride dA a (pa 0) (pa 1) rd ++ (w_Plan dA pa pl))) (kb_rS (n := 1) (As := [.int (v2 - v2 / (4 : Int32) * (4 : Int32))]) (rest := []) hx hb hml hown hK (c_X0_isWindow l D dA H.size (v2 - v2 / (4 : Int32) * (4 : Int32)) r6 hc6) ⟨ww_3_226, ww_4_125, ww_3_225, ww_1_4, by decide, by decide⟩ rfl rfl (by decide +kernel) ⟨Nat.le_of_ble_eq_true rfl, Nat.le_of_ble_eq_true rfl⟩ hP hD hS hA hE [] rfl (by decide) rfl hl.1 rfl (Nat.le_of_ble_eq_true rfl) dX6_sortedPairs_51 ⟨Nat.le_of_ble_eq_true rfl, Nat.le_of_ble_eq_true rfl⟩) hP hD hS hA [] [0, 1, 2, 3, 4, 5, 6, 7, 8, 9, 10, 11, 12, 13, 14, 15, 16, 17, 18, 19, 20, 21, 22, 23, 24, 25, 26, 27, 28, 29] [0, 1, 2, 3, 4, 5, 6, 7, 8, 9, 10, 11, 12, 13, 14, 15, 16, 17, 18, 19, 20, 21, 22, 23, 24, 25, 26, 27, 28, 29] rfl rfl (by decide) (by decide) rfl (by decide) (fun H locs hP hD hS => ?_)
      refine lv_if_eq (tgt := 93) hx hb dX6_sortedPairs_54 (by decide) (fun c_7 => ?_) (fun c_7 => ?_)
      · rw [if_pos c_7] at hf
        refine lv_iinc (v := (v2 + (1 : Int32))) (lv' := [(2, .int (v2 + (1 : Int32))), (4, .int s0), (0, .ref (a 0)), (1, .int v1), (3, .int v3)]) hx hb dX6_sortedPairs_93 hl (k := 3) rfl (by rfl) (by decide) rfl (fun ls hl => ?_)
        refine lv_goto (tgt := 4) hx hb dX6_sortedPairs_96 (by decide) ?_
        exact hk4 _ _ _ _ _ hf hP hD hS (lv_sub hl [2, 3, 0] rfl)
      · rw [if_neg c_7] at hf
        refine lv_iload_n hx hb dX6_sortedPairs_57 rfl (lv_at hl 2 rfl) ?_
        refine lv_aload_n hx hb dX6_sortedPairs_58 rfl (lv_at hl 1 rfl) ?_
        refine va_get (D := D) (ci := 6) (v := .ref (pa 0)) (C := RX6) (T := TX6) (N := 11) hx hb hts kb_inX6 hown hK.1 hP 0 rfl rfl 0 (by decide) (hK.2.w ww_2_66 rfl _) (fun _ h9 => h9) rfl dX6_sortedPairs_59 ?_
        refine va_get (D := D) (ci := 5) (v := .ref (pa 12)) (C := RX5) (T := TX5) (N := 8) hx hb hts kb_inX5 hown hK.1 hP 9 rfl rfl 2 (by decide) (hK.2.w ww_1_223 rfl _) (fun _ h9 => h9) rfl dX6_sortedPairs_62 ?_
        refine lv_iload hx hb dX6_sortedPairs_65 (lv_at hl 0 rfl) ?_
        obtain ⟨h_8, hf⟩ := kb_if hf
        refine va_aldq (D := D) hx hb hK.1 hP 21 5 rfl rfl h_8 dX6_sortedPairs_67 ?_
        show W p l e ({ frames := 1, cells := 0, slots := 0, locals := 22 } : Room) s m ([.ref (a 0)] : List Value).toArray below meth c _ _ 0 0 Q (F0 m 68 _ [.ref (pa (13 + (s0).toNatClampNeg)), .int v1])
        refine va_get (D := D) (ci := 7) (v := .int ((qr_off (pl_riders pl)) (s0).toNatClampNeg)) (C := RX7) (T := TX7) (N := 10) hx hb hts kb_inX7 hown hK.1 hP (9 + (13 + (s0).toNatClampNeg)) (kb_at rfl (at_Plan_13 dA pa pl (s0).toNatClampNeg (kb_inlt h_8))) rfl 2 (by decide) (hK.2.w ww_1_167 rfl _) (fun _ h9 => h9) rfl dX6_sortedPairs_68 ?_
        refine lv_aload_n hx hb dX6_sortedPairs_71 rfl (lv_at hl 1 rfl) ?_
        refine va_get (D := D) (ci := 6) (v := .ref (pa 0)) (C := RX6) (T := TX6) (N := 11) hx hb hts kb_inX6 hown hK.1 hP 0 rfl rfl 0 (by decide) (hK.2.w ww_2_66 rfl _) (fun _ h9 => h9) rfl dX6_sortedPairs_72 ?_
        refine va_get (D := D) (ci := 5) (v := .ref (pa 12)) (C := RX5) (T := TX5) (N := 8) hx hb hts kb_inX5 hown hK.1 hP 9 rfl rfl 2 (by decide) (hK.2.w ww_1_223 rfl _) (fun _ h9 => h9) rfl dX6_sortedPairs_75 ?_
        refine lv_iload_n hx hb dX6_sortedPairs_78 rfl (lv_at hl 4 rfl) ?_
        obtain ⟨h_9, hf⟩ := kb_if hf
        refine va_aldq (D := D) hx hb hK.1 hP 21 5 rfl rfl h_9 dX6_sortedPairs_79 ?_
        show W p l e ({ frames := 1, cells := 0, slots := 0, locals := 22 } : Room) s m ([.ref (a 0)] : List Value).toArray below meth c _ _ 0 0 Q (F0 m 80 _ [.ref (pa (13 + (v3).toNatClampNeg)), .int ((qr_off (pl_riders pl)) (s0).toNatClampNeg), .int v1])
        refine va_get (D := D) (ci := 7) (v := .int ((qr_off (pl_riders pl)) (v3).toNatClampNeg)) (C := RX7) (T := TX7) (N := 10) hx hb hts kb_inX7 hown hK.1 hP (9 + (13 + (v3).toNatClampNeg)) (kb_at rfl (at_Plan_13 dA pa pl (v3).toNatClampNeg (kb_inlt h_9))) rfl 2 (by decide) (hK.2.w ww_1_167 rfl _) (fun _ h9 => h9) rfl dX6_sortedPairs_80 ?_
        refine lv_icmp_gt (tgt := 90) hx hb dX6_sortedPairs_83 (by decide) (fun c_10 => ?_) (fun c_10 => ?_)
        · rw [if_pos c_10] at hf
          refine lv_iconst (v := (-1 : Int32)) hx hb dX6_sortedPairs_90 (by decide) ?_
          exact B_91 k4 hk4 _ _ _ _ _ _ hf hP hD hS (lv_sub hl [1, 3] rfl)
        · rw [if_neg c_10] at hf
          refine lv_iconst (v := (1 : Int32)) hx hb dX6_sortedPairs_86 (by decide) ?_
          refine lv_goto (tgt := 91) hx hb dX6_sortedPairs_87 (by decide) ?_
          exact B_91 k4 hk4 _ _ _ _ _ _ hf hP hD hS (lv_sub hl [1, 3] rfl)
  have B_4 : ∀ (n : Nat) (v1 : Int32) (v2 : Int32) (H : Heap) (locs : List Loc) (ls : Array Slot), f_X6_sortedPairs_b4 rd pl n v1 v2 = some (rv) → va_P D vwCl (w_Ride dA a (pa 0) (pa 1) rd ++ (w_Plan dA pa pl)) H → va_D A (w_Ride dA a (pa 0) (pa 1) rd ++ (w_Plan dA pa pl)) → va_S A s.heap H locs → lv_has ls 5 [(0, .ref (a 0)), (1, .int v1), (2, .int v2)] → W p l e ({ frames := 1, cells := 0, slots := 0, locals := 22 } : Room) s m ([.ref (a 0)] : List Value).toArray below meth c H locs 0 0 Q (F0 m 4 ls []) := by
    intro n
    induction n with
    | zero =>
      intro v1 v2 H locs ls hf
      exact absurd hf (by simp [f_X6_sortedPairs_b4])
    | succ n ih =>
      intro v1 v2 H locs ls hf hP hD hS hl
      rw [f_X6_sortedPairs_b4] at hf
      refine lv_iload_n hx hb dX6_sortedPairs_4 rfl (lv_at hl 2 rfl) ?_
      refine lv_bipush (v := (20 : Int32)) hx hb dX6_sortedPairs_5 (by decide) ?_
      refine lv_icmp_ge (tgt := 99) hx hb dX6_sortedPairs_7 (by decide) (fun c_1 => ?_) (fun c_1 => ?_)
      · rw [if_pos c_1] at hf
        refine lv_iload_n hx hb dX6_sortedPairs_99 rfl (lv_at hl 1 rfl) ?_
        exact RET _ H _ ls 100 hf hP hD hS dX6_sortedPairs_100
      · rw [if_neg c_1] at hf
        refine lv_aload_n hx hb dX6_sortedPairs_10 rfl (lv_at hl 0 rfl) ?_
        refine va_get (D := D) (ci := 6) (v := .ref (a 1)) (C := RX6) (T := TX6) (N := 11) hx hb hts kb_inX6 hown hK.1 hP 0 rfl rfl 1 (by decide) (hK.2.w ww_2_67 rfl _) (fun _ h9 => h9) rfl dX6_sortedPairs_11 ?_
        refine va_get (D := D) (ci := 9) (v := .ref (a 2)) (C := RX9) (T := TX9) (N := 3) hx hb hts kb_inX9 hown hK.1 hP 1 rfl rfl 0 (by decide) (hK.2.w ww_2_54 rfl _) (fun _ h9 => h9) rfl dX6_sortedPairs_14 ?_
        refine lv_iload_n hx hb dX6_sortedPairs_17 rfl (lv_at hl 2 rfl) ?_
        obtain ⟨h_2, hf⟩ := kb_if hf
        refine va_iald (D := D) hx hb hK.1 hP 2 0 rfl rfl h_2 dX6_sortedPairs_18 ?_
        refine lv_istore_n (lv' := [(3, .int ((sc_sitter (rd_scene rd)) (v2).toNatClampNeg)), (0, .ref (a 0)), (1, .int v1), (2, .int v2)]) hx hb dX6_sortedPairs_19 rfl hl (by decide) rfl (fun ls hl => ?_)
        refine lv_iload_n hx hb dX6_sortedPairs_20 rfl (lv_at hl 0 rfl) ?_
        refine lv_bipush (v := (-2 : Int32)) hx hb dX6_sortedPairs_21 (by decide) ?_
        refine lv_icmp_ne (tgt := 31) hx hb dX6_sortedPairs_23 (by decide) (fun c_3 => ?_) (fun c_3 => ?_)
        · rw [if_neg c_3] at hf
          refine lv_aload_n hx hb dX6_sortedPairs_31 rfl (lv_at hl 1 rfl) ?_
          refine va_get (D := D) (ci := 6) (v := .ref (a 1)) (C := RX6) (T := TX6) (N := 11) hx hb hts kb_inX6 hown hK.1 hP 0 rfl rfl 1 (by decide) (hK.2.w ww_2_67 rfl _) (fun _ h9 => h9) rfl dX6_sortedPairs_32 ?_
          refine lv_iload_n hx hb dX6_sortedPairs_35 rfl (lv_at hl 3 rfl) ?_
          obtain ⟨r4, hc4, hf⟩ := kb_bind hf
          refine kb_ci (ws2 := (w_Ride dA a (pa 0) (pa 1) rd ++ (w_Plan dA pa pl))) (kb_rV (n := 1) (As := [.int v2]) (rest := []) hx hb hml hown hK (c_X9_besideOf l D dA H.size (fun k => a (1 + k)) (fun k => pa (1 + k)) (rd_scene rd) (pl_cab pl) v2 r4 hc4) ⟨ww_3_212, ww_3_209, ww_3_210, ww_3_211, ww_1_9, rfl, by decide, by decide⟩ rfl rfl (by decide +kernel) ⟨Nat.le_of_ble_eq_true rfl, Nat.le_of_ble_eq_true rfl⟩ hP hD hS hA hE [1, 2, 3, 10, 11] rfl (by decide) 0 rfl rfl rfl hl.1 rfl (Nat.le_of_ble_eq_true rfl) dX6_sortedPairs_36 ⟨Nat.le_of_ble_eq_true rfl, Nat.le_of_ble_eq_true rfl⟩) hP hD hS hA [1, 2, 3, 10, 11] [0, 4, 5, 6, 7, 8, 9, 12, 13, 14, 15, 16, 17, 18, 19, 20, 21, 22, 23, 24, 25, 26, 27, 28, 29] [0, 25, 26, 27, 1, 2, 3, 4, 5, 6, 28, 29, 7, 8, 9, 10, 11, 12, 13, 14, 15, 16, 17, 18, 19, 20, 21, 22, 23, 24] rfl rfl (by decide) (by decide) rfl (by decide) (fun H locs hP hD hS => ?_)
          exact B_39 (f_X6_sortedPairs_b4 rd pl n) ih _ _ _ _ _ _ _ hf hP hD hS (lv_sub hl [1, 2, 3, 0] rfl)
        · rw [if_pos c_3] at hf
          refine lv_bipush (v := (-2 : Int32)) hx hb dX6_sortedPairs_26 (by decide) ?_
          refine lv_goto (tgt := 39) hx hb dX6_sortedPairs_28 (by decide) ?_
          exact B_39 (f_X6_sortedPairs_b4 rd pl n) ih _ _ _ _ _ _ _ hf hP hD hS (lv_sub hl [1, 2, 3, 0] rfl)
  have E0 : ∀ (H : Heap) (locs : List Loc), va_P D vwCl (w_Ride dA a (pa 0) (pa 1) rd ++ (w_Plan dA pa pl)) H → va_D A (w_Ride dA a (pa 0) (pa 1) rd ++ (w_Plan dA pa pl)) → va_S A s.heap H locs → W p l e ({ frames := 1, cells := 0, slots := 0, locals := 22 } : Room) s m ([.ref (a 0)] : List Value).toArray below meth c H locs 0 0 Q (F0 m 0 ls []) := by
    intro H locs hP hD hS
    rw [f_X6_sortedPairs] at hf
    refine lv_iconst (v := (0 : Int32)) hx hb dX6_sortedPairs_0 (by decide) ?_
    refine lv_istore_n (lv' := [(1, .int (0 : Int32)), (0, .ref (a 0))]) hx hb dX6_sortedPairs_1 rfl hl (by decide) rfl (fun ls hl => ?_)
    refine lv_iconst (v := (0 : Int32)) hx hb dX6_sortedPairs_2 (by decide) ?_
    refine lv_istore_n (lv' := [(2, .int (0 : Int32)), (1, .int (0 : Int32)), (0, .ref (a 0))]) hx hb dX6_sortedPairs_3 rfl hl (by decide) rfl (fun ls hl => ?_)
    exact B_4 4096 _ _ _ _ _ hf hP hD hS (lv_sub hl [2, 1, 0] rfl)
  exact E0 _ _ hP hD hS
