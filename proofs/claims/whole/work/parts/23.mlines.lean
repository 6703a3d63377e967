noncomputable def f_X12_readFresh_b109 (y_tape : TapeT) (z0 : MOT) (z2 : BusT) : Option (MOT × BusT) := some (z0, z2)
noncomputable def f_X12_readFresh_b105 (y_tape : TapeT) (z0 : MOT) (z2 : BusT) : Option (MOT × BusT) := (f_X12_goesOn z0 y_tape).bind fun r9 => f_X12_readFresh_b109 y_tape r9 z2
noncomputable def f_X12_readFresh_b92 (y_tape : TapeT) (z0 : MOT) (z2 : BusT) : Option (MOT × BusT) := f_X12_readFresh_b105 y_tape z0 (bu_set_names z2 ((bu_names z2) + (1 : Int32)))
noncomputable def f_X12_readFresh_b76 (y_tape : TapeT) (v2 : Int32) (z0 : MOT) (z2 : BusT) : Option (MOT × BusT) := if kb_in? (bu_names z2) 12 then f_X12_readFresh_b92 y_tape z0 (bu_set_nameNumber z2 (upd (bu_nameNumber z2) ((bu_names z2)).toNatClampNeg v2)) else none
noncomputable def f_X12_readFresh_b60 (y_tape : TapeT) (v1 : Int32) (v2 : Int32) (z0 : MOT) (z2 : BusT) : Option (MOT × BusT) := if kb_in? (bu_names z2) 12 then f_X12_readFresh_b76 y_tape v2 z0 (bu_set_nameSort z2 (upd (bu_nameSort z2) ((bu_names z2)).toNatClampNeg v1)) else none
noncomputable def f_X12_readFresh_b32 (y_tape : TapeT) (v1 : Int32) (v2 : Int32) (z0 : MOT) (z2 : BusT) : Option (MOT × BusT) := (if (mo_sort z0) = (5 : Int32) then some (z0, z2) else if kb_in? (bu_names z2) 12 then f_X12_readFresh_b60 y_tape v1 v2 z0 (bu_set_name z2 (vp_updL (bu_name z2) ((bu_names z2)).toNatClampNeg (mo_word z0))) else none)
noncomputable def f_X12_readFresh_b12 (y_tape : TapeT) (v1 : Int32) (v2 : Int32) (z0 : MOT) (z2 : BusT) : Option (MOT × BusT) := (f_X11_find z2 (mo_word z0)).bind fun r3 => (if r3 = (-1 : Int32) then f_X12_readFresh_b32 y_tape v1 v2 z0 z2 else (f_X12_wrong z0 (3 : Int32)).bind fun r10 => f_X12_readFresh_b32 y_tape v1 v2 r10 z2)
noncomputable def f_X12_readFresh (mo : MOT) (y_tape : TapeT) (bu : BusT) (x0 : Int32) (x1 : Int32) : Option (MOT × BusT) := (f_X12_isName mo).bind fun r1 => (if r1 = 0 then (f_X12_wrong mo (1 : Int32)).bind fun r11 => f_X12_readFresh_b12 y_tape x0 x1 r11 bu else f_X12_readFresh_b12 y_tape x0 x1 mo bu)
set_option maxHeartbeats 4000000 in
set_option maxRecDepth 100000 in
theorem c_X12_readFresh (l : Launch) (D : va_G) (dA : Nat → ClassId) (sz : Nat) (a : Nat → Nat) (ta : Nat → Nat) (ba : Nat → Nat) (q0 : Option Nat) (g3 : Nat) (g4 : Nat) (g5 : Nat) (g6 : Nat) (g7 : Nat) (g8 : Nat) (g9 : Nat) (g10 : Nat) (g11 : Nat) (g12 : Nat) (g13 : Nat) (g14 : Nat) (g15 : Nat) (g16 : Nat) (g17 : Nat) (g18 : Nat) (mo : MOT) (y_tape : TapeT) (bu : BusT) (x0 : Int32) (x1 : Int32) (u0 : MOT) (u2 : BusT) (hf : f_X12_readFresh mo y_tape bu x0 x1 = some (u0, u2)) : kb_Mv l yX12_readFresh cX12_readFresh 3 none ({ frames := 8, cells := 0, slots := 0, locals := 169 } : Room) D dA [.ref (a 0), .int x0, .int x1] sz (w_MO dA a q0 (some (ba 0)) (ta 0) g3 g4 g5 g6 g7 g8 g9 g10 g11 g12 g13 g14 g15 g16 g17 g18 mo ++ (w_Tape dA ta y_tape ++ (w_Bus dA ba bu))) 0 0 (w_MO dA a q0 (some (ba 0)) (ta 0) g3 g4 g5 g6 g7 g8 g9 g10 g11 g12 g13 g14 g15 g16 g17 g18 u0 ++ (w_Tape dA ta y_tape ++ (w_Bus dA ba u2))) := by
  refine Met.ofW (cc := cX12_readFresh) (maxL := 3) (ret := none) (by decide) rfl ?_
  intro p e s m args below meth c s₁ B hml hv
  obtain ⟨rfl, hsz, hP, hK, hD0, hE⟩ := hv
  have hx := B.exec
  have hb := B.bytes
  have hr := B.returns
  have hown : s.vm.findClass RX12 = some m.cls := findClass_of_methodNamed B.named
  have hlocks := B.notSynchronized
  have hts : ∀ w ∈ kb_gw, w.before ([.ref (a 0), .int x0, .int x1] : List Value).toArray s = true := fun w hw => hK.2.1 w hw _
  subst hsz
  have hD := hD0.self (sz := s.heap.size)
  generalize hAe : va_A (w_MO dA a q0 (some (ba 0)) (ta 0) g3 g4 g5 g6 g7 g8 g9 g10 g11 g12 g13 g14 g15 g16 g17 g18 mo ++ (w_Tape dA ta y_tape ++ (w_Bus dA ba bu))) s.heap.size = A at hD hE ⊢
  have hA : ∀ q : Nat, s.heap.size ≤ q → A q := fun q h => by rw [← hAe]; exact Or.inr h
  have hS : va_S A s.heap s.heap [] := va_S.rf
  have hl := lv_entry ([.ref (a 0), .int x0, .int x1]) (n := 3) (Nat.le_of_ble_eq_true rfl)
  rw [lg_entry_eq]
  generalize (lg_sl ([.ref (a 0), .int x0, .int x1]) ++ List.replicate (3 - (lg_sl ([.ref (a 0), .int x0, .int x1])).length) Slot.unset).toArray = ls at hl ⊢
  have hl : lv_has ls 3 [(0, .ref (a 0)), (1, .int x0), (2, .int x1)] := hl
  generalize hQ : MQ below (va_Qv (fun (_ : Unit) => True) (kb_B D A (w_MO dA a q0 (some (ba 0)) (ta 0) g3 g4 g5 g6 g7 g8 g9 g10 g11 g12 g13 g14 g15 g16 g17 g18 u0 ++ (w_Tape dA ta y_tape ++ (w_Bus dA ba u2)))) A) ([.ref (a 0), .int x0, .int x1] : List Value).toArray s 0 0 A = Q
  show W p l e ({ frames := 8, cells := 0, slots := 0, locals := 169 } : Room) s m ([.ref (a 0), .int x0, .int x1] : List Value).toArray below meth c s.heap [] 0 0 Q (F0 m 0 ls [])
  have RET : ∀ (w0 : MOT) (w2 : BusT) (H : Heap) (locs : List Loc) (ls : Array Slot) (pc : Nat), some (w0, w2) = some (u0, u2) → va_P D vwCl (w_MO dA a q0 (some (ba 0)) (ta 0) g3 g4 g5 g6 g7 g8 g9 g10 g11 g12 g13 g14 g15 g16 g17 g18 w0 ++ (w_Tape dA ta y_tape ++ (w_Bus dA ba w2))) H → va_D A (w_MO dA a q0 (some (ba 0)) (ta 0) g3 g4 g5 g6 g7 g8 g9 g10 g11 g12 g13 g14 g15 g16 g17 g18 w0 ++ (w_Tape dA ta y_tape ++ (w_Bus dA ba w2))) → va_S A s.heap H locs → decode cX12_readFresh pc = .ok (.return_, 1) → W p l e ({ frames := 8, cells := 0, slots := 0, locals := 169 } : Room) s m ([.ref (a 0), .int x0, .int x1] : List Value).toArray below meth c H locs 0 0 Q (F0 m pc ls []) := by
    intro w0 w2 H locs ls pc hq hP hD hS hd
    cases hq
    rw [← hQ]
    exact W.vret hx hb hr (fun t ht hW => ⟨⟨(), rfl, trivial, by rw [ht]; exact hP, hD⟩, hS.F ht⟩) hS.2.2 hd
  have B_109 : ∀ (z0 : MOT) (z2 : BusT) (H : Heap) (locs : List Loc) (ls : Array Slot), f_X12_readFresh_b109 y_tape z0 z2 = some (u0, u2) → va_P D vwCl (w_MO dA a q0 (some (ba 0)) (ta 0) g3 g4 g5 g6 g7 g8 g9 g10 g11 g12 g13 g14 g15 g16 g17 g18 z0 ++ (w_Tape dA ta y_tape ++ (w_Bus dA ba z2))) H → va_D A (w_MO dA a q0 (some (ba 0)) (ta 0) g3 g4 g5 g6 g7 g8 g9 g10 g11 g12 g13 g14 g15 g16 g17 g18 z0 ++ (w_Tape dA ta y_tape ++ (w_Bus dA ba z2))) → va_S A s.heap H locs → lv_has ls 3 [] → W p l e ({ frames := 8, cells := 0, slots := 0, locals := 169 } : Room) s m ([.ref (a 0), .int x0, .int x1] : List Value).toArray below meth c H locs 0 0 Q (F0 m 109 ls []) := by
    intro z0 z2 H locs ls hf hP hD hS hl
    rw [f_X12_readFresh_b109] at hf
    exact RET _ _ H _ ls 109 hf hP hD hS dX12_readFresh_109
  have B_105 : ∀ (z0 : MOT) (z2 : BusT) (H : Heap) (locs : List Loc) (ls : Array Slot), f_X12_readFresh_b105 y_tape z0 z2 = some (u0, u2) → va_P D vwCl (w_MO dA a q0 (some (ba 0)) (ta 0) g3 g4 g5 g6 g7 g8 g9 g10 g11 g12 g13 g14 g15 g16 g17 g18 z0 ++ (w_Tape dA ta y_tape ++ (w_Bus dA ba z2))) H → va_D A (w_MO dA a q0 (some (ba 0)) (ta 0) g3 g4 g5 g6 g7 g8 g9 g10 g11 g12 g13 g14 g15 g16 g17 g18 z0 ++ (w_Tape dA ta y_tape ++ (w_Bus dA ba z2))) → va_S A s.heap H locs → lv_has ls 3 [(0, .ref (a 0))] → W p l e ({ frames := 8, cells := 0, slots := 0, locals := 169 } : Room) s m ([.ref (a 0), .int x0, .int x1] : List Value).toArray below meth c H locs 0 0 Q (F0 m 105 ls []) := by
    intro z0 z2 H locs ls hf hP hD hS hl
    rw [f_X12_readFresh_b105] at hf
    refine lv_aload_n hx hb dX12_readFresh_105 rfl (lv_at hl 0 rfl) ?_
    obtain ⟨r9, hc9, hf⟩ := kb_bind hf
    refine kb_cv (ws2 := (w_MO dA a q0 (some (ba 0)) (ta 0) g3 g4 g5 g6 g7 g8 g9 g10 g11 g12 g13 g14 g15 g16 g17 g18 r9 ++ (w_Tape dA ta y_tape ++ (w_Bus dA ba z2)))) (kb_rV (n := 0) (As := []) (rest := []) hx hb hml hown hK (c_X12_goesOn l D dA H.size a ta q0 (some (ba 0)) g3 g4 g5 g6 g7 g8 g9 g10 g11 g12 g13 g14 g15 g16 g17 g18 z0 y_tape r9 hc9) ⟨ww_6_189, ww_6_186, ww_6_188, ws_47, ww_1_12, rfl, by decide, by decide⟩ rfl rfl (by decide +kernel) ⟨Nat.le_of_ble_eq_true rfl, Nat.le_of_ble_eq_true rfl⟩ hP hD hS hA hE [0, 1] rfl (by decide) 0 rfl rfl rfl hl.1 rfl (Nat.le_of_ble_eq_true rfl) dX12_readFresh_106 ⟨Nat.le_of_ble_eq_true rfl, Nat.le_of_ble_eq_true rfl⟩) hP hD hS hA [0, 1] [2, 3, 4, 5, 6, 7, 8, 9, 10, 11, 12, 13, 14, 15, 16, 17] [16, 17, 0, 1, 2, 3, 4, 5, 6, 7, 8, 9, 10, 11, 12, 13, 14, 15] rfl rfl (by decide) (by decide) rfl (by decide) (fun H locs hP hD hS => ?_)
    exact B_109 _ _ _ _ _ hf hP hD hS (lv_sub hl [] rfl)
  have B_92 : ∀ (z0 : MOT) (z2 : BusT) (H : Heap) (locs : List Loc) (ls : Array Slot), f_X12_readFresh_b92 y_tape z0 z2 = some (u0, u2) → va_P D vwCl (w_MO dA a q0 (some (ba 0)) (ta 0) g3 g4 g5 g6 g7 g8 g9 g10 g11 g12 g13 g14 g15 g16 g17 g18 z0 ++ (w_Tape dA ta y_tape ++ (w_Bus dA ba z2))) H → va_D A (w_MO dA a q0 (some (ba 0)) (ta 0) g3 g4 g5 g6 g7 g8 g9 g10 g11 g12 g13 g14 g15 g16 g17 g18 z0 ++ (w_Tape dA ta y_tape ++ (w_Bus dA ba z2))) → va_S A s.heap H locs → lv_has ls 3 [(0, .ref (a 0))] → W p l e ({ frames := 8, cells := 0, slots := 0, locals := 169 } : Room) s m ([.ref (a 0), .int x0, .int x1] : List Value).toArray below meth c H locs 0 0 Q (F0 m 92 ls []) := by
    intro z0 z2 H locs ls hf hP hD hS hl
    rw [f_X12_readFresh_b92] at hf
    refine lv_aload_n hx hb dX12_readFresh_92 rfl (lv_at hl 0 rfl) ?_
    refine va_get (D := D) (ci := 12) (v := .ref (ba 0)) (C := RX12) (T := TX12) (N := 35) hx hb hts kb_inX12 hown hK.1 hP 0 rfl rfl 4 (by decide) (hK.2.w ww_5_204 rfl _) (fun _ h9 => h9) rfl dX12_readFresh_93 ?_
    refine lv_dup hx hb dX12_readFresh_96 rfl ?_
    refine va_getN (D := D) (ci := 11) (v := .int (bu_names z2)) (C := RX11) (T := TX11) (N := 26) hx hb hts kb_inX11 hown hK.1 hP 2 rfl rfl 10 (by decide) (hK.2.nb ww_6_101 rfl rfl _) (fun _ h9 => h9) rfl dX12_readFresh_97 ?_
    refine lv_iconst (v := (1 : Int32)) hx hb dX12_readFresh_100 (by decide) ?_
    refine lv_iadd hx hb dX12_readFresh_101 ?_
    refine va_putN (D := D) (ci := 11) (v := .int ((bu_names z2) + (1 : Int32))) (ty := .int) (C := RX11) (T := TX11) (N := 26) hx hb hts kb_inX11 tyX11 tyX11_ok nmX11 hown hK.1 hP hD hS 2 rfl rfl 10 (by decide) (hK.2.nb ww_6_101 rfl rfl _) (fun _ h9 => h9) rfl (by decide +kernel) rfl rfl (Nat.le_of_ble_eq_true rfl) dX12_readFresh_102 (fun H locs hP hD hS => ?_)
    have hP : va_P D vwCl (w_MO dA a q0 (some (ba 0)) (ta 0) g3 g4 g5 g6 g7 g8 g9 g10 g11 g12 g13 g14 g15 g16 g17 g18 z0 ++ (w_Tape dA ta y_tape ++ (w_Bus dA ba (bu_set_names z2 ((bu_names z2) + (1 : Int32)))))) H := hP
    have hD : va_D A (w_MO dA a q0 (some (ba 0)) (ta 0) g3 g4 g5 g6 g7 g8 g9 g10 g11 g12 g13 g14 g15 g16 g17 g18 z0 ++ (w_Tape dA ta y_tape ++ (w_Bus dA ba (bu_set_names z2 ((bu_names z2) + (1 : Int32)))))) := hD
    exact B_105 _ _ _ _ _ hf hP hD hS (lv_sub hl [0] rfl)
  have B_76 : ∀ (v2 : Int32) (z0 : MOT) (z2 : BusT) (H : Heap) (locs : List Loc) (ls : Array Slot), f_X12_readFresh_b76 y_tape v2 z0 z2 = some (u0, u2) → va_P D vwCl (w_MO dA a q0 (some (ba 0)) (ta 0) g3 g4 g5 g6 g7 g8 g9 g10 g11 g12 g13 g14 g15 g16 g17 g18 z0 ++ (w_Tape dA ta y_tape ++ (w_Bus dA ba z2))) H → va_D A (w_MO dA a q0 (some (ba 0)) (ta 0) g3 g4 g5 g6 g7 g8 g9 g10 g11 g12 g13 g14 g15 g16 g17 g18 z0 ++ (w_Tape dA ta y_tape ++ (w_Bus dA ba z2))) → va_S A s.heap H locs → lv_has ls 3 [(0, .ref (a 0)), (2, .int v2)] → W p l e ({ frames := 8, cells := 0, slots := 0, locals := 169 } : Room) s m ([.ref (a 0), .int x0, .int x1] : List Value).toArray below meth c H locs 0 0 Q (F0 m 76 ls []) := by
    intro v2 z0 z2 H locs ls hf hP hD hS hl
    rw [f_X12_readFresh_b76] at hf
    refine lv_aload_n hx hb dX12_readFresh_76 rfl (lv_at hl 0 rfl) ?_
    refine va_get (D := D) (ci := 12) (v := .ref (ba 0)) (C := RX12) (T := TX12) (N := 35) hx hb hts kb_inX12 hown hK.1 hP 0 rfl rfl 4 (by decide) (hK.2.w ww_5_204 rfl _) (fun _ h9 => h9) rfl dX12_readFresh_77 ?_
    refine va_getN (D := D) (ci := 11) (v := .ref (ba 15)) (C := RX11) (T := TX11) (N := 26) hx hb hts kb_inX11 hown hK.1 hP 2 rfl rfl 25 (by decide) (hK.2.nb ww_6_131 rfl rfl _) (fun _ h9 => h9) rfl dX12_readFresh_80 ?_
    refine lv_aload_n hx hb dX12_readFresh_83 rfl (lv_at hl 0 rfl) ?_
    refine va_get (D := D) (ci := 12) (v := .ref (ba 0)) (C := RX12) (T := TX12) (N := 35) hx hb hts kb_inX12 hown hK.1 hP 0 rfl rfl 4 (by decide) (hK.2.w ww_5_204 rfl _) (fun _ h9 => h9) rfl dX12_readFresh_84 ?_
    refine va_getN (D := D) (ci := 11) (v := .int (bu_names z2)) (C := RX11) (T := TX11) (N := 26) hx hb hts kb_inX11 hown hK.1 hP 2 rfl rfl 10 (by decide) (hK.2.nb ww_6_101 rfl rfl _) (fun _ h9 => h9) rfl dX12_readFresh_87 ?_
    refine lv_iload_n hx hb dX12_readFresh_90 rfl (lv_at hl 1 rfl) ?_
    obtain ⟨h_8, hf⟩ := kb_if hf
    refine va_iast (D := D) hx hb hK.1 hP hD hS 17 0 rfl rfl h_8 dX12_readFresh_91 (fun H locs hP hD hS => ?_)
    have hP : va_P D vwCl (w_MO dA a q0 (some (ba 0)) (ta 0) g3 g4 g5 g6 g7 g8 g9 g10 g11 g12 g13 g14 g15 g16 g17 g18 z0 ++ (w_Tape dA ta y_tape ++ (w_Bus dA ba (bu_set_nameNumber z2 (upd (bu_nameNumber z2) ((bu_names z2)).toNatClampNeg v2))))) H := hP
    have hD : va_D A (w_MO dA a q0 (some (ba 0)) (ta 0) g3 g4 g5 g6 g7 g8 g9 g10 g11 g12 g13 g14 g15 g16 g17 g18 z0 ++ (w_Tape dA ta y_tape ++ (w_Bus dA ba (bu_set_nameNumber z2 (upd (bu_nameNumber z2) ((bu_names z2)).toNatClampNeg v2))))) := hD
    exact B_92 _ _ _ _ _ hf hP hD hS (lv_sub hl [0] rfl)
  have B_60 : ∀ (v1 : Int32) (v2 : Int32) (z0 : MOT) (z2 : BusT) (H : Heap) (locs : List Loc) (ls : Array Slot), f_X12_readFresh_b60 y_tape v1 v2 z0 z2 = some (u0, u2) → va_P D vwCl (w_MO dA a q0 (some (ba 0)) (ta 0) g3 g4 g5 g6 g7 g8 g9 g10 g11 g12 g13 g14 g15 g16 g17 g18 z0 ++ (w_Tape dA ta y_tape ++ (w_Bus dA ba z2))) H → va_D A (w_MO dA a q0 (some (ba 0)) (ta 0) g3 g4 g5 g6 g7 g8 g9 g10 g11 g12 g13 g14 g15 g16 g17 g18 z0 ++ (w_Tape dA ta y_tape ++ (w_Bus dA ba z2))) → va_S A s.heap H locs → lv_has ls 3 [(0, .ref (a 0)), (1, .int v1), (2, .int v2)] → W p l e ({ frames := 8, cells := 0, slots := 0, locals := 169 } : Room) s m ([.ref (a 0), .int x0, .int x1] : List Value).toArray below meth c H locs 0 0 Q (F0 m 60 ls []) := by
    intro v1 v2 z0 z2 H locs ls hf hP hD hS hl
    rw [f_X12_readFresh_b60] at hf
    refine lv_aload_n hx hb dX12_readFresh_60 rfl (lv_at hl 0 rfl) ?_
    refine va_get (D := D) (ci := 12) (v := .ref (ba 0)) (C := RX12) (T := TX12) (N := 35) hx hb hts kb_inX12 hown hK.1 hP 0 rfl rfl 4 (by decide) (hK.2.w ww_5_204 rfl _) (fun _ h9 => h9) rfl dX12_readFresh_61 ?_
    refine va_getN (D := D) (ci := 11) (v := .ref (ba 14)) (C := RX11) (T := TX11) (N := 26) hx hb hts kb_inX11 hown hK.1 hP 2 rfl rfl 24 (by decide) (hK.2.nb ww_6_129 rfl rfl _) (fun _ h9 => h9) rfl dX12_readFresh_64 ?_
    refine lv_aload_n hx hb dX12_readFresh_67 rfl (lv_at hl 0 rfl) ?_
    refine va_get (D := D) (ci := 12) (v := .ref (ba 0)) (C := RX12) (T := TX12) (N := 35) hx hb hts kb_inX12 hown hK.1 hP 0 rfl rfl 4 (by decide) (hK.2.w ww_5_204 rfl _) (fun _ h9 => h9) rfl dX12_readFresh_68 ?_
    refine va_getN (D := D) (ci := 11) (v := .int (bu_names z2)) (C := RX11) (T := TX11) (N := 26) hx hb hts kb_inX11 hown hK.1 hP 2 rfl rfl 10 (by decide) (hK.2.nb ww_6_101 rfl rfl _) (fun _ h9 => h9) rfl dX12_readFresh_71 ?_
    refine lv_iload_n hx hb dX12_readFresh_74 rfl (lv_at hl 1 rfl) ?_
    obtain ⟨h_7, hf⟩ := kb_if hf
    refine va_iast (D := D) hx hb hK.1 hP hD hS 16 0 rfl rfl h_7 dX12_readFresh_75 (fun H locs hP hD hS => ?_)
    have hP : va_P D vwCl (w_MO dA a q0 (some (ba 0)) (ta 0) g3 g4 g5 g6 g7 g8 g9 g10 g11 g12 g13 g14 g15 g16 g17 g18 z0 ++ (w_Tape dA ta y_tape ++ (w_Bus dA ba (bu_set_nameSort z2 (upd (bu_nameSort z2) ((bu_names z2)).toNatClampNeg v1))))) H := hP
    have hD : va_D A (w_MO dA a q0 (some (ba 0)) (ta 0) g3 g4 g5 g6 g7 g8 g9 g10 g11 g12 g13 g14 g15 g16 g17 g18 z0 ++ (w_Tape dA ta y_tape ++ (w_Bus dA ba (bu_set_nameSort z2 (upd (bu_nameSort z2) ((bu_names z2)).toNatClampNeg v1))))) := hD
    exact B_76 _ _ _ _ _ _ hf hP hD hS (lv_sub hl [0, 2] rfl)
  have B_32 : ∀ (v1 : Int32) (v2 : Int32) (z0 : MOT) (z2 : BusT) (H : Heap) (locs : List Loc) (ls : Array Slot), f_X12_readFresh_b32 y_tape v1 v2 z0 z2 = some (u0, u2) → va_P D vwCl (w_MO dA a q0 (some (ba 0)) (ta 0) g3 g4 g5 g6 g7 g8 g9 g10 g11 g12 g13 g14 g15 g16 g17 g18 z0 ++ (w_Tape dA ta y_tape ++ (w_Bus dA ba z2))) H → va_D A (w_MO dA a q0 (some (ba 0)) (ta 0) g3 g4 g5 g6 g7 g8 g9 g10 g11 g12 g13 g14 g15 g16 g17 g18 z0 ++ (w_Tape dA ta y_tape ++ (w_Bus dA ba z2))) → va_S A s.heap H locs → lv_has ls 3 [(0, .ref (a 0)), (1, .int v1), (2, .int v2)] → W p l e ({ frames := 8, cells := 0, slots := 0, locals := 169 } : Room) s m ([.ref (a 0), .int x0, .int x1] : List Value).toArray below meth c H locs 0 0 Q (F0 m 32 ls []) := by
    intro v1 v2 z0 z2 H locs ls hf hP hD hS hl
    rw [f_X12_readFresh_b32] at hf
    refine lv_aload_n hx hb dX12_readFresh_32 rfl (lv_at hl 0 rfl) ?_
    refine va_get (D := D) (ci := 12) (v := .int (mo_sort z0)) (C := RX12) (T := TX12) (N := 35) hx hb hts kb_inX12 hown hK.1 hP 0 rfl rfl 9 (by decide) (hK.2.w ww_5_209 rfl _) (fun _ h9 => h9) rfl dX12_readFresh_33 ?_
    refine lv_iconst (v := (5 : Int32)) hx hb dX12_readFresh_36 (by decide) ?_
    refine lv_icmp_ne (tgt := 41) hx hb dX12_readFresh_37 (by decide) (fun c_5 => ?_) (fun c_5 => ?_)
    · rw [if_neg c_5] at hf
      refine lv_aload_n hx hb dX12_readFresh_41 rfl (lv_at hl 0 rfl) ?_
      refine va_get (D := D) (ci := 12) (v := .ref (ba 0)) (C := RX12) (T := TX12) (N := 35) hx hb hts kb_inX12 hown hK.1 hP 0 rfl rfl 4 (by decide) (hK.2.w ww_5_204 rfl _) (fun _ h9 => h9) rfl dX12_readFresh_42 ?_
      refine va_getN (D := D) (ci := 11) (v := .ref (ba 13)) (C := RX11) (T := TX11) (N := 26) hx hb hts kb_inX11 hown hK.1 hP 2 rfl rfl 23 (by decide) (hK.2.nb ww_6_127 rfl rfl _) (fun _ h9 => h9) rfl dX12_readFresh_45 ?_
      refine lv_aload_n hx hb dX12_readFresh_48 rfl (lv_at hl 0 rfl) ?_
      refine va_get (D := D) (ci := 12) (v := .ref (ba 0)) (C := RX12) (T := TX12) (N := 35) hx hb hts kb_inX12 hown hK.1 hP 0 rfl rfl 4 (by decide) (hK.2.w ww_5_204 rfl _) (fun _ h9 => h9) rfl dX12_readFresh_49 ?_
      refine va_getN (D := D) (ci := 11) (v := .int (bu_names z2)) (C := RX11) (T := TX11) (N := 26) hx hb hts kb_inX11 hown hK.1 hP 2 rfl rfl 10 (by decide) (hK.2.nb ww_6_101 rfl rfl _) (fun _ h9 => h9) rfl dX12_readFresh_52 ?_
      refine lv_aload_n hx hb dX12_readFresh_55 rfl (lv_at hl 0 rfl) ?_
      refine va_get (D := D) (ci := 12) (v := .long (mo_word z0)) (C := RX12) (T := TX12) (N := 35) hx hb hts kb_inX12 hown hK.1 hP 0 rfl rfl 15 (by decide) (hK.2.w ww_5_215 rfl _) (fun _ h9 => h9) rfl dX12_readFresh_56 ?_
      obtain ⟨h_6, hf⟩ := kb_if hf
      refine va_last (D := D) hx hb hK.1 hP hD hS 15 2 rfl rfl h_6 dX12_readFresh_59 (fun H locs hP hD hS => ?_)
      have hP : va_P D vwCl (w_MO dA a q0 (some (ba 0)) (ta 0) g3 g4 g5 g6 g7 g8 g9 g10 g11 g12 g13 g14 g15 g16 g17 g18 z0 ++ (w_Tape dA ta y_tape ++ (w_Bus dA ba (bu_set_name z2 (vp_updL (bu_name z2) ((bu_names z2)).toNatClampNeg (mo_word z0)))))) H := hP
      have hD : va_D A (w_MO dA a q0 (some (ba 0)) (ta 0) g3 g4 g5 g6 g7 g8 g9 g10 g11 g12 g13 g14 g15 g16 g17 g18 z0 ++ (w_Tape dA ta y_tape ++ (w_Bus dA ba (bu_set_name z2 (vp_updL (bu_name z2) ((bu_names z2)).toNatClampNeg (mo_word z0)))))) := hD
      exact B_60 _ _ _ _ _ _ _ hf hP hD hS (lv_sub hl [0, 1, 2] rfl)
    · rw [if_pos c_5] at hf
      exact RET _ _ H _ ls 40 hf hP hD hS dX12_readFresh_40
  have B_12 : ∀ (v1 : Int32) (v2 : Int32) (z0 : MOT) (z2 : BusT) (H : Heap) (locs : List Loc) (ls : Array Slot), f_X12_readFresh_b12 y_tape v1 v2 z0 z2 = some (u0, u2) → va_P D vwCl (w_MO dA a q0 (some (ba 0)) (ta 0) g3 g4 g5 g6 g7 g8 g9 g10 g11 g12 g13 g14 g15 g16 g17 g18 z0 ++ (w_Tape dA ta y_tape ++ (w_Bus dA ba z2))) H → va_D A (w_MO dA a q0 (some (ba 0)) (ta 0) g3 g4 g5 g6 g7 g8 g9 g10 g11 g12 g13 g14 g15 g16 g17 g18 z0 ++ (w_Tape dA ta y_tape ++ (w_Bus dA ba z2))) → va_S A s.heap H locs → lv_has ls 3 [(0, .ref (a 0)), (1, .int v1), (2, .int v2)] → W p l e ({ frames := 8, cells := 0, slots := 0, locals := 169 } : Room) s m ([.ref (a 0), .int x0, .int x1] : List Value).toArray below meth c H locs 0 0 Q (F0 m 12 ls []) := by
    intro v1 v2 z0 z2 H locs ls hf hP hD hS hl
    rw [f_X12_readFresh_b12] at hf
    refine lv_aload_n hx hb dX12_readFresh_12 rfl (lv_at hl 0 rfl) ?_
    refine va_get (D := D) (ci := 12) (v := .ref (ba 0)) (C := RX12) (T := TX12) (N := 35) hx hb hts kb_inX12 hown hK.1 hP 0 rfl rfl 4 (by decide) (hK.2.w ww_5_204 rfl _) (fun _ h9 => h9) rfl dX12_readFresh_13 ?_
    refine lv_aload_n hx hb dX12_readFresh_16 rfl (lv_at hl 0 rfl) ?_
    refine va_get (D := D) (ci := 12) (v := .long (mo_word z0)) (C := RX12) (T := TX12) (N := 35) hx hb hts kb_inX12 hown hK.1 hP 0 rfl rfl 15 (by decide) (hK.2.w ww_5_215 rfl _) (fun _ h9 => h9) rfl dX12_readFresh_17 ?_
    obtain ⟨r3, hc3, hf⟩ := kb_bind hf
    refine kb_ci (ws2 := (w_MO dA a q0 (some (ba 0)) (ta 0) g3 g4 g5 g6 g7 g8 g9 g10 g11 g12 g13 g14 g15 g16 g17 g18 z0 ++ (w_Tape dA ta y_tape ++ (w_Bus dA ba z2)))) (kb_rV (n := 1) (As := [.long (mo_word z0)]) (rest := []) hx hb hml hown hK (c_X11_find l D dA H.size ba z2 (mo_word z0) r3 hc3) ⟨ww_7_49, ww_7_46, ww_7_47, ww_7_48, ww_1_18, rfl, by decide, by decide⟩ rfl rfl (by decide +kernel) ⟨Nat.le_of_ble_eq_true rfl, Nat.le_of_ble_eq_true rfl⟩ hP hD hS hA hE [2, 3, 4, 5, 6, 7, 8, 9, 10, 11, 12, 13, 14, 15, 16, 17] rfl (by decide) 0 rfl rfl rfl hl.1 rfl (Nat.le_of_ble_eq_true rfl) dX12_readFresh_20 ⟨Nat.le_of_ble_eq_true rfl, Nat.le_of_ble_eq_true rfl⟩) hP hD hS hA [2, 3, 4, 5, 6, 7, 8, 9, 10, 11, 12, 13, 14, 15, 16, 17] [0, 1] [0, 1, 2, 3, 4, 5, 6, 7, 8, 9, 10, 11, 12, 13, 14, 15, 16, 17] rfl rfl (by decide) (by decide) rfl (by decide) (fun H locs hP hD hS => ?_)
    refine lv_iconst (v := (-1 : Int32)) hx hb dX12_readFresh_23 (by decide) ?_
    refine lv_icmp_eq (tgt := 32) hx hb dX12_readFresh_24 (by decide) (fun c_4 => ?_) (fun c_4 => ?_)
    · rw [if_pos c_4] at hf
      exact B_32 _ _ _ _ _ _ _ hf hP hD hS (lv_sub hl [0, 1, 2] rfl)
    · rw [if_neg c_4] at hf
      refine lv_aload_n hx hb dX12_readFresh_27 rfl (lv_at hl 0 rfl) ?_
      refine lv_iconst (v := (3 : Int32)) hx hb dX12_readFresh_28 (by decide) ?_
      obtain ⟨r10, hc10, hf⟩ := kb_bind hf
      refine kb_cv (ws2 := (w_MO dA a q0 (some (ba 0)) (ta 0) g3 g4 g5 g6 g7 g8 g9 g10 g11 g12 g13 g14 g15 g16 g17 g18 r10 ++ (w_Tape dA ta y_tape ++ (w_Bus dA ba z2)))) (kb_rV (n := 1) (As := [.int (3 : Int32)]) (rest := []) hx hb hml hown hK (c_X12_wrong l D dA H.size a q0 (some (ba 0)) (ta 0) g3 g4 g5 g6 g7 g8 g9 g10 g11 g12 g13 g14 g15 g16 g17 g18 z0 (3 : Int32) r10 hc10) ⟨ww_6_226, ww_6_223, ww_6_225, ws_53, ww_1_12, rfl, by decide, by decide⟩ rfl rfl (by decide +kernel) ⟨Nat.le_of_ble_eq_true rfl, Nat.le_of_ble_eq_true rfl⟩ hP hD hS hA hE [0] rfl (by decide) 0 rfl rfl rfl hl.1 rfl (Nat.le_of_ble_eq_true rfl) dX12_readFresh_29 ⟨Nat.le_of_ble_eq_true rfl, Nat.le_of_ble_eq_true rfl⟩) hP hD hS hA [0] [1, 2, 3, 4, 5, 6, 7, 8, 9, 10, 11, 12, 13, 14, 15, 16, 17] [17, 0, 1, 2, 3, 4, 5, 6, 7, 8, 9, 10, 11, 12, 13, 14, 15, 16] rfl rfl (by decide) (by decide) rfl (by decide) (fun H locs hP hD hS => ?_)
      exact B_32 _ _ _ _ _ _ _ hf hP hD hS (lv_sub hl [0, 1, 2] rfl)
  have E0 : ∀ (H : Heap) (locs : List Loc), va_P D vwCl (w_MO dA a q0 (some (ba 0)) (ta 0) g3 g4 g5 g6 g7 g8 g9 g10 g11 g12 g13 g14 g15 g16 g17 g18 mo ++ (w_Tape dA ta y_tape ++ (w_Bus dA ba bu))) H → va_D A (w_MO dA a q0 (some (ba 0)) (ta 0) g3 g4 g5 g6 g7 g8 g9 g10 g11 g12 g13 g14 g15 g16 g17 g18 mo ++ (w_Tape dA ta y_tape ++ (w_Bus dA ba bu))) → va_S A s.heap H locs → W p l e ({ frames := 8, cells := 0, slots := 0, locals := 169 } : Room) s m ([.ref (a 0), .int x0, .int x1] : List Value).toArray below meth c H locs 0 0 Q (F0 m 0 ls []) := by
    intro H locs hP hD hS
    rw [f_X12_readFresh] at hf
    refine lv_aload_n hx hb dX12_readFresh_0 rfl (lv_at hl 0 rfl) ?_
    obtain ⟨r1, hc1, hf⟩ := kb_bind hf
    refine kb_ci (ws2 := (w_MO dA a q0 (some (ba 0)) (ta 0) g3 g4 g5 g6 g7 g8 g9 g10 g11 g12 g13 g14 g15 g16 g17 g18 mo ++ (w_Tape dA ta y_tape ++ (w_Bus dA ba bu)))) (kb_rV (n := 0) (As := []) (rest := []) hx hb hml hown hK (c_X12_isName l D dA H.size a q0 (some (ba 0)) (ta 0) g3 g4 g5 g6 g7 g8 g9 g10 g11 g12 g13 g14 g15 g16 g17 g18 mo r1 hc1) ⟨ww_7_27, ww_7_24, ww_7_26, ws_60, ww_1_12, rfl, by decide, by decide⟩ rfl rfl (by decide +kernel) ⟨Nat.le_of_ble_eq_true rfl, Nat.le_of_ble_eq_true rfl⟩ hP hD hS hA hE [0] rfl (by decide) 0 rfl rfl rfl hl.1 rfl (Nat.le_of_ble_eq_true rfl) dX12_readFresh_1 ⟨Nat.le_of_ble_eq_true rfl, Nat.le_of_ble_eq_true rfl⟩) hP hD hS hA [0] [1, 2, 3, 4, 5, 6, 7, 8, 9, 10, 11, 12, 13, 14, 15, 16, 17] [17, 0, 1, 2, 3, 4, 5, 6, 7, 8, 9, 10, 11, 12, 13, 14, 15, 16] rfl rfl (by decide) (by decide) rfl (by decide) (fun H locs hP hD hS => ?_)
    refine lv_if_ne (tgt := 12) hx hb dX12_readFresh_4 (by decide) (fun c_2 => ?_) (fun c_2 => ?_)
    · rw [if_neg c_2] at hf
      exact B_12 _ _ _ _ _ _ _ hf hP hD hS (lv_sub hl [0, 1, 2] rfl)
    · rw [if_pos c_2] at hf
      refine lv_aload_n hx hb dX12_readFresh_7 rfl (lv_at hl 0 rfl) ?_
      refine lv_iconst (v := (1 : Int32)) hx hb dX12_readFresh_8 (by decide) ?_
      obtain ⟨r11, hc11, hf⟩ := kb_bind hf
      refine kb_cv (ws2 := (w_MO dA a q0 (some (ba 0)) (ta 0) g3 g4 g5 g6 g7 g8 g9 g10 g11 g12 g13 g14 g15 g16 g17 g18 r11 ++ (w_Tape dA ta y_tape ++ (w_Bus dA ba bu)))) (kb_rV (n := 1) (As := [.int (1 : Int32)]) (rest := []) hx hb hml hown hK (c_X12_wrong l D dA H.size a q0 (some (ba 0)) (ta 0) g3 g4 g5 g6 g7 g8 g9 g10 g11 g12 g13 g14 g15 g16 g17 g18 mo (1 : Int32) r11 hc11) ⟨ww_6_226, ww_6_223, ww_6_225, ws_53, ww_1_12, rfl, by decide, by decide⟩ rfl rfl (by decide +kernel) ⟨Nat.le_of_ble_eq_true rfl, Nat.le_of_ble_eq_true rfl⟩ hP hD hS hA hE [0] rfl (by decide) 0 rfl rfl rfl hl.1 rfl (Nat.le_of_ble_eq_true rfl) dX12_readFresh_9 ⟨Nat.le_of_ble_eq_true rfl, Nat.le_of_ble_eq_true rfl⟩) hP hD hS hA [0] [1, 2, 3, 4, 5, 6, 7, 8, 9, 10, 11, 12, 13, 14, 15, 16, 17] [17, 0, 1, 2, 3, 4, 5, 6, 7, 8, 9, 10, 11, 12, 13, 14, 15, 16] rfl rfl (by decide) (by decide) rfl (by decide) (fun H locs hP hD hS => ?_)
      exact B_12 _ _ _ _ _ _ _ hf hP hD hS (lv_sub hl [0, 1, 2] rfl)
  exact E0 _ _ hP hD hS

noncomputable def f_X12_known_b47 (bu : BusT) (v2 : Int32) (z0 : MOT) : Option (Int32 × MOT) := (if (mo_sort z0) = (5 : Int32) then some ((0 : Int32), z0) else if kb_in? v2 12 then some (((bu_nameNumber bu) (v2).toNatClampNeg), z0) else none)
noncomputable def f_X12_known_b42 (bu : BusT) (v2 : Int32) (z0 : MOT) : Option (Int32 × MOT) := (f_X12_wrong z0 (2 : Int32)).bind fun r5 => f_X12_known_b47 bu v2 r5
noncomputable def f_X12_known_b12 (bu : BusT) (v1 : Int32) (z0 : MOT) : Option (Int32 × MOT) := (f_X11_find bu (mo_word z0)).bind fun r3 => (if r3 = (-1 : Int32) then f_X12_known_b42 bu r3 z0 else if kb_in? r3 12 then (if ((bu_nameSort bu) (r3).toNatClampNeg) = v1 then f_X12_known_b47 bu r3 z0 else f_X12_known_b42 bu r3 z0) else none)
noncomputable def f_X12_known (mo : MOT) (bu : BusT) (x0 : Int32) : Option (Int32 × MOT) := (f_X12_isName mo).bind fun r1 => (if r1 = 0 then (f_X12_wrong mo (1 : Int32)).bind fun r10 => f_X12_known_b12 bu x0 r10 else f_X12_known_b12 bu x0 mo)
set_option maxHeartbeats 4000000 in
set_option maxRecDepth 100000 in
theorem c_X12_known (l : Launch) (D : va_G) (dA : Nat → ClassId) (sz : Nat) (a : Nat → Nat) (ba : Nat → Nat) (q0 : Option Nat) (g2 : Nat) (g3 : Nat) (g4 : Nat) (g5 : Nat) (g6 : Nat) (g7 : Nat) (g8 : Nat) (g9 : Nat) (g10 : Nat) (g11 : Nat) (g12 : Nat) (g13 : Nat) (g14 : Nat) (g15 : Nat) (g16 : Nat) (g17 : Nat) (g18 : Nat) (mo : MOT) (bu : BusT) (x0 : Int32) (rv : Int32) (u0 : MOT) (hf : f_X12_known mo bu x0 = some (rv, u0)) : kb_Mi l yX12_known cX12_known 3 (some .int) ({ frames := 8, cells := 0, slots := 0, locals := 169 } : Room) D dA [.ref (a 0), .int x0] sz (w_MO dA a q0 (some (ba 0)) g2 g3 g4 g5 g6 g7 g8 g9 g10 g11 g12 g13 g14 g15 g16 g17 g18 mo ++ (w_Bus dA ba bu)) 0 0 rv (w_MO dA a q0 (some (ba 0)) g2 g3 g4 g5 g6 g7 g8 g9 g10 g11 g12 g13 g14 g15 g16 g17 g18 u0 ++ (w_Bus dA ba bu)) := by
  refine Met.ofW (cc := cX12_known) (maxL := 3) (ret := (some .int)) (by decide) rfl ?_
  intro p e s m args below meth c s₁ B hml hv
  obtain ⟨rfl, hsz, hP, hK, hD0, hE⟩ := hv
  have hx := B.exec
  have hb := B.bytes
  have hr := B.returns
  have hown : s.vm.findClass RX12 = some m.cls := findClass_of_methodNamed B.named
  have hlocks := B.notSynchronized
  have hts : ∀ w ∈ kb_gw, w.before ([.ref (a 0), .int x0] : List Value).toArray s = true := fun w hw => hK.2.1 w hw _
  subst hsz
  have hD := hD0.self (sz := s.heap.size)
  generalize hAe : va_A (w_MO dA a q0 (some (ba 0)) g2 g3 g4 g5 g6 g7 g8 g9 g10 g11 g12 g13 g14 g15 g16 g17 g18 mo ++ (w_Bus dA ba bu)) s.heap.size = A at hD hE ⊢
  have hA : ∀ q : Nat, s.heap.size ≤ q → A q := fun q h => by rw [← hAe]; exact Or.inr h
  have hS : va_S A s.heap s.heap [] := va_S.rf
  have hl := lv_entry ([.ref (a 0), .int x0]) (n := 3) (Nat.le_of_ble_eq_true rfl)
  rw [lg_entry_eq]
  generalize (lg_sl ([.ref (a 0), .int x0]) ++ List.replicate (3 - (lg_sl ([.ref (a 0), .int x0])).length) Slot.unset).toArray = ls at hl ⊢
  have hl : lv_has ls 3 [(0, .ref (a 0)), (1, .int x0)] := hl
  generalize hQ : MQ below (va_Qi (fun r (_ : Unit) => r = rv) (kb_B D A (w_MO dA a q0 (some (ba 0)) g2 g3 g4 g5 g6 g7 g8 g9 g10 g11 g12 g13 g14 g15 g16 g17 g18 u0 ++ (w_Bus dA ba bu))) A) ([.ref (a 0), .int x0] : List Value).toArray s 0 0 A = Q
  show W p l e ({ frames := 8, cells := 0, slots := 0, locals := 169 } : Room) s m ([.ref (a 0), .int x0] : List Value).toArray below meth c s.heap [] 0 0 Q (F0 m 0 ls [])
  have RET : ∀ (r2 : Int32) (w0 : MOT) (H : Heap) (locs : List Loc) (ls : Array Slot) (pc : Nat), some (r2, w0) = some (rv, u0) → va_P D vwCl (w_MO dA a q0 (some (ba 0)) g2 g3 g4 g5 g6 g7 g8 g9 g10 g11 g12 g13 g14 g15 g16 g17 g18 w0 ++ (w_Bus dA ba bu)) H → va_D A (w_MO dA a q0 (some (ba 0)) g2 g3 g4 g5 g6 g7 g8 g9 g10 g11 g12 g13 g14 g15 g16 g17 g18 w0 ++ (w_Bus dA ba bu)) → va_S A s.heap H locs → decode cX12_known pc = .ok (.ireturn, 1) → W p l e ({ frames := 8, cells := 0, slots := 0, locals := 169 } : Room) s m ([.ref (a 0), .int x0] : List Value).toArray below meth c H locs 0 0 Q (F0 m pc ls [.int r2]) := by
    intro r2 w0 H locs ls pc hq hP hD hS hd
    cases hq
    rw [← hQ]
    exact W.iret hx hb hr (fun t ht hW => ⟨⟨_, (), rfl, rfl, by rw [ht]; exact hP, hD⟩, hS.F ht⟩) hS.2.2 hd
  have B_47 : ∀ (v2 : Int32) (z0 : MOT) (H : Heap) (locs : List Loc) (ls : Array Slot), f_X12_known_b47 bu v2 z0 = some (rv, u0) → va_P D vwCl (w_MO dA a q0 (some (ba 0)) g2 g3 g4 g5 g6 g7 g8 g9 g10 g11 g12 g13 g14 g15 g16 g17 g18 z0 ++ (w_Bus dA ba bu)) H → va_D A (w_MO dA a q0 (some (ba 0)) g2 g3 g4 g5 g6 g7 g8 g9 g10 g11 g12 g13 g14 g15 g16 g17 g18 z0 ++ (w_Bus dA ba bu)) → va_S A s.heap H locs → lv_has ls 3 [(0, .ref (a 0)), (2, .int v2)] → W p l e ({ frames := 8, cells := 0, slots := 0, locals := 169 } : Room) s m ([.ref (a 0), .int x0] : List Value).toArray below meth c H locs 0 0 Q (F0 m 47 ls []) := by
    intro v2 z0 H locs ls hf hP hD hS hl
    rw [f_X12_known_b47] at hf
    refine lv_aload_n hx hb dX12_known_47 rfl (lv_at hl 0 rfl) ?_
    refine va_get (D := D) (ci := 12) (v := .int (mo_sort z0)) (C := RX12) (T := TX12) (N := 35) hx hb hts kb_inX12 hown hK.1 hP 0 rfl rfl 9 (by decide) (hK.2.w ww_5_209 rfl _) (fun _ h9 => h9) rfl dX12_known_48 ?_
    refine lv_iconst (v := (5 : Int32)) hx hb dX12_known_51 (by decide) ?_
    refine lv_icmp_ne (tgt := 59) hx hb dX12_known_52 (by decide) (fun c_6 => ?_) (fun c_6 => ?_)
    · rw [if_neg c_6] at hf
      refine lv_aload_n hx hb dX12_known_59 rfl (lv_at hl 0 rfl) ?_
      refine va_get (D := D) (ci := 12) (v := .ref (ba 0)) (C := RX12) (T := TX12) (N := 35) hx hb hts kb_inX12 hown hK.1 hP 0 rfl rfl 4 (by decide) (hK.2.w ww_5_204 rfl _) (fun _ h9 => h9) rfl dX12_known_60 ?_
      refine va_getN (D := D) (ci := 11) (v := .ref (ba 15)) (C := RX11) (T := TX11) (N := 26) hx hb hts kb_inX11 hown hK.1 hP 1 rfl rfl 25 (by decide) (hK.2.nb ww_6_131 rfl rfl _) (fun _ h9 => h9) rfl dX12_known_63 ?_
      refine lv_iload_n hx hb dX12_known_66 rfl (lv_at hl 1 rfl) ?_
      obtain ⟨h_7, hf⟩ := kb_if hf
      refine va_iald (D := D) hx hb hK.1 hP 16 0 rfl rfl h_7 dX12_known_67 ?_
      exact RET _ _ H _ ls 68 hf hP hD hS dX12_known_68
    · rw [if_pos c_6] at hf
      refine lv_iconst (v := (0 : Int32)) hx hb dX12_known_55 (by decide) ?_
      refine lv_goto (tgt := 68) hx hb dX12_known_56 (by decide) ?_
      exact RET _ _ H _ ls 68 hf hP hD hS dX12_known_68
  have B_42 : ∀ (v2 : Int32) (z0 : MOT) (H : Heap) (locs : List Loc) (ls : Array Slot), f_X12_known_b42 bu v2 z0 = some (rv, u0) → va_P D vwCl (w_MO dA a q0 (some (ba 0)) g2 g3 g4 g5 g6 g7 g8 g9 g10 g11 g12 g13 g14 g15 g16 g17 g18 z0 ++ (w_Bus dA ba bu)) H → va_D A (w_MO dA a q0 (some (ba 0)) g2 g3 g4 g5 g6 g7 g8 g9 g10 g11 g12 g13 g14 g15 g16 g17 g18 z0 ++ (w_Bus dA ba bu)) → va_S A s.heap H locs → lv_has ls 3 [(0, .ref (a 0)), (2, .int v2)] → W p l e ({ frames := 8, cells := 0, slots := 0, locals := 169 } : Room) s m ([.ref (a 0), .int x0] : List Value).toArray below meth c H locs 0 0 Q (F0 m 42 ls []) := by
    intro v2 z0 H locs ls hf hP hD hS hl
    rw [f_X12_known_b42] at hf
    refine lv_aload_n hx hb dX12_known_42 rfl (lv_at hl 0 rfl) ?_
    refine lv_iconst (v := (2 : Int32)) hx hb dX12_known_43 (by decide) ?_
    obtain ⟨r5, hc5, hf⟩ := kb_bind hf
    refine kb_cv (ws2 := (w_MO dA a q0 (some (ba 0)) g2 g3 g4 g5 g6 g7 g8 g9 g10 g11 g12 g13 g14 g15 g16 g17 g18 r5 ++ (w_Bus dA ba bu))) (kb_rV (n := 1) (As := [.int (2 : Int32)]) (rest := []) hx hb hml hown hK (c_X12_wrong l D dA H.size a q0 (some (ba 0)) g2 g3 g4 g5 g6 g7 g8 g9 g10 g11 g12 g13 g14 g15 g16 g17 g18 z0 (2 : Int32) r5 hc5) ⟨ww_6_226, ww_6_223, ww_6_225, ws_53, ww_1_12, rfl, by decide, by decide⟩ rfl rfl (by decide +kernel) ⟨Nat.le_of_ble_eq_true rfl, Nat.le_of_ble_eq_true rfl⟩ hP hD hS hA hE [0] rfl (by decide) 0 rfl rfl rfl hl.1 rfl (Nat.le_of_ble_eq_true rfl) dX12_known_44 ⟨Nat.le_of_ble_eq_true rfl, Nat.le_of_ble_eq_true rfl⟩) hP hD hS hA [0] [1, 2, 3, 4, 5, 6, 7, 8, 9, 10, 11, 12, 13, 14, 15, 16] [16, 0, 1, 2, 3, 4, 5, 6, 7, 8, 9, 10, 11, 12, 13, 14, 15] rfl rfl (by decide) (by decide) rfl (by decide) (fun H locs hP hD hS => ?_)
    exact B_47 _ _ _ _ _ hf hP hD hS (lv_sub hl [0, 1] rfl)
  have B_12 : ∀ (v1 : Int32) (z0 : MOT) (H : Heap) (locs : List Loc) (ls : Array Slot), f_X12_known_b12 bu v1 z0 = some (rv, u0) → va_P D vwCl (w_MO dA a q0 (some (ba 0)) g2 g3 g4 g5 g6 g7 g8 g9 g10 g11 g12 g13 g14 g15 g16 g17 g18 z0 ++ (w_Bus dA ba bu)) H → va_D A (w_MO dA a q0 (some (ba 0)) g2 g3 g4 g5 g6 g7 g8 g9 g10 g11 g12 g13 g14 g15 g16 g17 g18 z0 ++ (w_Bus dA ba bu)) → va_S A s.heap H locs → lv_has ls 3 [(0, .ref (a 0)), (1, .int v1)] → W p l e ({ frames := 8, cells := 0, slots := 0, locals := 169 } : Room) s m ([.ref (a 0), .int x0] : List Value).toArray below meth c H locs 0 0 Q (F0 m 12 ls []) := by
    intro v1 z0 H locs ls hf hP hD hS hl
    rw [f_X12_known_b12] at hf
    refine lv_aload_n hx hb dX12_known_12 rfl (lv_at hl 0 rfl) ?_
    refine va_get (D := D) (ci := 12) (v := .ref (ba 0)) (C := RX12) (T := TX12) (N := 35) hx hb hts kb_inX12 hown hK.1 hP 0 rfl rfl 4 (by decide) (hK.2.w ww_5_204 rfl _) (fun _ h9 => h9) rfl dX12_known_13 ?_
    refine lv_aload_n hx hb dX12_known_16 rfl (lv_at hl 0 rfl) ?_
    refine va_get (D := D) (ci := 12) (v := .long (mo_word z0)) (C := RX12) (T := TX12) (N := 35) hx hb hts kb_inX12 hown hK.1 hP 0 rfl rfl 15 (by decide) (hK.2.w ww_5_215 rfl _) (fun _ h9 => h9) rfl dX12_known_17 ?_
    obtain ⟨r3, hc3, hf⟩ := kb_bind hf
    refine kb_ci (ws2 := (w_MO dA a q0 (some (ba 0)) g2 g3 g4 g5 g6 g7 g8 g9 g10 g11 g12 g13 g14 g15 g16 g17 g18 z0 ++ (w_Bus dA ba bu))) (kb_rV (n := 1) (As := [.long (mo_word z0)]) (rest := []) hx hb hml hown hK (c_X11_find l D dA H.size ba bu (mo_word z0) r3 hc3) ⟨ww_7_49, ww_7_46, ww_7_47, ww_7_48, ww_1_18, rfl, by decide, by decide⟩ rfl rfl (by decide +kernel) ⟨Nat.le_of_ble_eq_true rfl, Nat.le_of_ble_eq_true rfl⟩ hP hD hS hA hE [1, 2, 3, 4, 5, 6, 7, 8, 9, 10, 11, 12, 13, 14, 15, 16] rfl (by decide) 0 rfl rfl rfl hl.1 rfl (Nat.le_of_ble_eq_true rfl) dX12_known_20 ⟨Nat.le_of_ble_eq_true rfl, Nat.le_of_ble_eq_true rfl⟩) hP hD hS hA [1, 2, 3, 4, 5, 6, 7, 8, 9, 10, 11, 12, 13, 14, 15, 16] [0] [0, 1, 2, 3, 4, 5, 6, 7, 8, 9, 10, 11, 12, 13, 14, 15, 16] rfl rfl (by decide) (by decide) rfl (by decide) (fun H locs hP hD hS => ?_)
    refine lv_istore_n (lv' := [(2, .int r3), (0, .ref (a 0)), (1, .int v1)]) hx hb dX12_known_23 rfl hl (by decide) rfl (fun ls hl => ?_)
    refine lv_iload_n hx hb dX12_known_24 rfl (lv_at hl 0 rfl) ?_
    refine lv_iconst (v := (-1 : Int32)) hx hb dX12_known_25 (by decide) ?_
    refine lv_icmp_eq (tgt := 42) hx hb dX12_known_26 (by decide) (fun c_4 => ?_) (fun c_4 => ?_)
    · rw [if_pos c_4] at hf
      exact B_42 _ _ _ _ _ hf hP hD hS (lv_sub hl [1, 0] rfl)
    · rw [if_neg c_4] at hf
      refine lv_aload_n hx hb dX12_known_29 rfl (lv_at hl 1 rfl) ?_
      refine va_get (D := D) (ci := 12) (v := .ref (ba 0)) (C := RX12) (T := TX12) (N := 35) hx hb hts kb_inX12 hown hK.1 hP 0 rfl rfl 4 (by decide) (hK.2.w ww_5_204 rfl _) (fun _ h9 => h9) rfl dX12_known_30 ?_
      refine va_getN (D := D) (ci := 11) (v := .ref (ba 14)) (C := RX11) (T := TX11) (N := 26) hx hb hts kb_inX11 hown hK.1 hP 1 rfl rfl 24 (by decide) (hK.2.nb ww_6_129 rfl rfl _) (fun _ h9 => h9) rfl dX12_known_33 ?_
      refine lv_iload_n hx hb dX12_known_36 rfl (lv_at hl 0 rfl) ?_
      obtain ⟨h_8, hf⟩ := kb_if hf
      refine va_iald (D := D) hx hb hK.1 hP 15 0 rfl rfl h_8 dX12_known_37 ?_
      refine lv_iload_n hx hb dX12_known_38 rfl (lv_at hl 2 rfl) ?_
      refine lv_icmp_eq (tgt := 47) hx hb dX12_known_39 (by decide) (fun c_9 => ?_) (fun c_9 => ?_)
      · rw [if_pos c_9] at hf
        exact B_47 _ _ _ _ _ hf hP hD hS (lv_sub hl [1, 0] rfl)
      · rw [if_neg c_9] at hf
        exact B_42 _ _ _ _ _ hf hP hD hS (lv_sub hl [1, 0] rfl)
  have E0 : ∀ (H : Heap) (locs : List Loc), va_P D vwCl (w_MO dA a q0 (some (ba 0)) g2 g3 g4 g5 g6 g7 g8 g9 g10 g11 g12 g13 g14 g15 g16 g17 g18 mo ++ (w_Bus dA ba bu)) H → va_D A (w_MO dA a q0 (some (ba 0)) g2 g3 g4 g5 g6 g7 g8 g9 g10 g11 g12 g13 g14 g15 g16 g17 g18 mo ++ (w_Bus dA ba bu)) → va_S A s.heap H locs → W p l e ({ frames := 8, cells := 0, slots := 0, locals := 169 } : Room) s m ([.ref (a 0), .int x0] : List Value).toArray below meth c H locs 0 0 Q (F0 m 0 ls []) := by
    intro H locs hP hD hS
    rw [f_X12_known] at hf
    refine lv_aload_n hx hb dX12_known_0 rfl (lv_at hl 0 rfl) ?_
    obtain ⟨r1, hc1, hf⟩ := kb_bind hf
    refine kb_ci (ws2 := (w_MO dA a q0 (some (ba 0)) g2 g3 g4 g5 g6 g7 g8 g9 g10 g11 g12 g13 g14 g15 g16 g17 g18 mo ++ (w_Bus dA ba bu))) (kb_rV (n := 0) (As := []) (rest := []) hx hb hml hown hK (c_X12_isName l D dA H.size a q0 (some (ba 0)) g2 g3 g4 g5 g6 g7 g8 g9 g10 g11 g12 g13 g14 g15 g16 g17 g18 mo r1 hc1) ⟨ww_7_27, ww_7_24, ww_7_26, ws_60, ww_1_12, rfl, by decide, by decide⟩ rfl rfl (by decide +kernel) ⟨Nat.le_of_ble_eq_true rfl, Nat.le_of_ble_eq_true rfl⟩ hP hD hS hA hE [0] rfl (by decide) 0 rfl rfl rfl hl.1 rfl (Nat.le_of_ble_eq_true rfl) dX12_known_1 ⟨Nat.le_of_ble_eq_true rfl, Nat.le_of_ble_eq_true rfl⟩) hP hD hS hA [0] [1, 2, 3, 4, 5, 6, 7, 8, 9, 10, 11, 12, 13, 14, 15, 16] [16, 0, 1, 2, 3, 4, 5, 6, 7, 8, 9, 10, 11, 12, 13, 14, 15] rfl rfl (by decide) (by decide) rfl (by decide) (fun H locs hP hD hS => ?_)
    refine lv_if_ne (tgt := 12) hx hb dX12_known_4 (by decide) (fun c_2 => ?_) (fun c_2 => ?_)
    · rw [if_neg c_2] at hf
      exact B_12 _ _ _ _ _ hf hP hD hS (lv_sub hl [0, 1] rfl)
    · rw [if_pos c_2] at hf
      refine lv_aload_n hx hb dX12_known_7 rfl (lv_at hl 0 rfl) ?_
      refine lv_iconst (v := (1 : Int32)) hx hb dX12_known_8 (by decide) ?_
      obtain ⟨r10, hc10, hf⟩ := kb_bind hf
      refine kb_cv (ws2 := (w_MO dA a q0 (some (ba 0)) g2 g3 g4 g5 g6 g7 g8 g9 g10 g11 g12 g13 g14 g15 g16 g17 g18 r10 ++ (w_Bus dA ba bu))) (kb_rV (n := 1) (As := [.int (1 : Int32)]) (rest := []) hx hb hml hown hK (c_X12_wrong l D dA H.size a q0 (some (ba 0)) g2 g3 g4 g5 g6 g7 g8 g9 g10 g11 g12 g13 g14 g15 g16 g17 g18 mo (1 : Int32) r10 hc10) ⟨ww_6_226, ww_6_223, ww_6_225, ws_53, ww_1_12, rfl, by decide, by decide⟩ rfl rfl (by decide +kernel) ⟨Nat.le_of_ble_eq_true rfl, Nat.le_of_ble_eq_true rfl⟩ hP hD hS hA hE [0] rfl (by decide) 0 rfl rfl rfl hl.1 rfl (Nat.le_of_ble_eq_true rfl) dX12_known_9 ⟨Nat.le_of_ble_eq_true rfl, Nat.le_of_ble_eq_true rfl⟩) hP hD hS hA [0] [1, 2, 3, 4, 5, 6, 7, 8, 9, 10, 11, 12, 13, 14, 15, 16] [16, 0, 1, 2, 3, 4, 5, 6, 7, 8, 9, 10, 11, 12, 13, 14, 15] rfl rfl (by decide) (by decide) rfl (by decide) (fun H locs hP hD hS => ?_)
      exact B_12 _ _ _ _ _ hf hP hD hS (lv_sub hl [0, 1] rfl)
  exact E0 _ _ hP hD hS

noncomputable def f_X12_readKnown_b10 (y_tape : TapeT) (bu : BusT) (v2 : Int32) (z0 : MOT) : Option (Int32 × MOT) := some (v2, z0)
noncomputable def f_X12_readKnown_b6 (y_tape : TapeT) (bu : BusT) (v2 : Int32) (z0 : MOT) : Option (Int32 × MOT) := (f_X12_goesOn z0 y_tape).bind fun r2 => f_X12_readKnown_b10 y_tape bu v2 r2
noncomputable def f_X12_readKnown (mo : MOT) (y_tape : TapeT) (bu : BusT) (x0 : Int32) : Option (Int32 × MOT) := (f_X12_known mo bu x0).bind fun r1 => f_X12_readKnown_b6 y_tape bu r1.1 r1.2
set_option maxHeartbeats 4000000 in
set_option maxRecDepth 100000 in
theorem c_X12_readKnown (l : Launch) (D : va_G) (dA : Nat → ClassId) (sz : Nat) (a : Nat → Nat) (ta : Nat → Nat) (ba : Nat → Nat) (q0 : Option Nat) (g3 : Nat) (g4 : Nat) (g5 : Nat) (g6 : Nat) (g7 : Nat) (g8 : Nat) (g9 : Nat) (g10 : Nat) (g11 : Nat) (g12 : Nat) (g13 : Nat) (g14 : Nat) (g15 : Nat) (g16 : Nat) (g17 : Nat) (g18 : Nat) (mo : MOT) (y_tape : TapeT) (bu : BusT) (x0 : Int32) (rv : Int32) (u0 : MOT) (hf : f_X12_readKnown mo y_tape bu x0 = some (rv, u0)) : kb_Mi l yX12_readKnown cX12_readKnown 3 (some .int) ({ frames := 9, cells := 0, slots := 0, locals := 191 } : Room) D dA [.ref (a 0), .int x0] sz (w_MO dA a q0 (some (ba 0)) (ta 0) g3 g4 g5 g6 g7 g8 g9 g10 g11 g12 g13 g14 g15 g16 g17 g18 mo ++ (w_Tape dA ta y_tape ++ (w_Bus dA ba bu))) 0 0 rv (w_MO dA a q0 (some (ba 0)) (ta 0) g3 g4 g5 g6 g7 g8 g9 g10 g11 g12 g13 g14 g15 g16 g17 g18 u0 ++ (w_Tape dA ta y_tape ++ (w_Bus dA ba bu))) := by
  refine Met.ofW (cc := cX12_readKnown) (maxL := 3) (ret := (some .int)) (by decide) rfl ?_
  intro p e s m args below meth c s₁ B hml hv
  obtain ⟨rfl, hsz, hP, hK, hD0, hE⟩ := hv
  have hx := B.exec
  have hb := B.bytes
  have hr := B.returns
  have hown : s.vm.findClass RX12 = some m.cls := findClass_of_methodNamed B.named
  have hlocks := B.notSynchronized
  have hts : ∀ w ∈ kb_gw, w.before ([.ref (a 0), .int x0] : List Value).toArray s = true := fun w hw => hK.2.1 w hw _
  subst hsz
  have hD := hD0.self (sz := s.heap.size)
  generalize hAe : va_A (w_MO dA a q0 (some (ba 0)) (ta 0) g3 g4 g5 g6 g7 g8 g9 g10 g11 g12 g13 g14 g15 g16 g17 g18 mo ++ (w_Tape dA ta y_tape ++ (w_Bus dA ba bu))) s.heap.size = A at hD hE ⊢
  have hA : ∀ q : Nat, s.heap.size ≤ q → A q := fun q h => by rw [← hAe]; exact Or.inr h
  have hS : va_S A s.heap s.heap [] := va_S.rf
  have hl := lv_entry ([.ref (a 0), .int x0]) (n := 3) (Nat.le_of_ble_eq_true rfl)
  rw [lg_entry_eq]
  generalize (lg_sl ([.ref (a 0), .int x0]) ++ List.replicate (3 - (lg_sl ([.ref (a 0), .int x0])).length) Slot.unset).toArray = ls at hl ⊢
  have hl : lv_has ls 3 [(0, .ref (a 0)), (1, .int x0)] := hl
  generalize hQ : MQ below (va_Qi (fun r (_ : Unit) => r = rv) (kb_B D A (w_MO dA a q0 (some (ba 0)) (ta 0) g3 g4 g5 g6 g7 g8 g9 g10 g11 g12 g13 g14 g15 g16 g17 g18 u0 ++ (w_Tape dA ta y_tape ++ (w_Bus dA ba bu)))) A) ([.ref (a 0), .int x0] : List Value).toArray s 0 0 A = Q
  show W p l e ({ frames := 9, cells := 0, slots := 0, locals := 191 } : Room) s m ([.ref (a 0), .int x0] : List Value).toArray below meth c s.heap [] 0 0 Q (F0 m 0 ls [])
  have RET : ∀ (r2 : Int32) (w0 : MOT) (H : Heap) (locs : List Loc) (ls : Array Slot) (pc : Nat), some (r2, w0) = some (rv, u0) → va_P D vwCl (w_MO dA a q0 (some (ba 0)) (ta 0) g3 g4 g5 g6 g7 g8 g9 g10 g11 g12 g13 g14 g15 g16 g17 g18 w0 ++ (w_Tape dA ta y_tape ++ (w_Bus dA ba bu))) H → va_D A (w_MO dA a q0 (some (ba 0)) (ta 0) g3 g4 g5 g6 g7 g8 g9 g10 g11 g12 g13 g14 g15 g16 g17 g18 w0 ++ (w_Tape dA ta y_tape ++ (w_Bus dA ba bu))) → va_S A s.heap H locs → decode cX12_readKnown pc = .ok (.ireturn, 1) → W p l e ({ frames := 9, cells := 0, slots := 0, locals := 191 } : Room) s m ([.ref (a 0), .int x0] : List Value).toArray below meth c H locs 0 0 Q (F0 m pc ls [.int r2]) := by
    intro r2 w0 H locs ls pc hq hP hD hS hd
    cases hq
    rw [← hQ]
    exact W.iret hx hb hr (fun t ht hW => ⟨⟨_, (), rfl, rfl, by rw [ht]; exact hP, hD⟩, hS.F ht⟩) hS.2.2 hd
  have B_10 : ∀ (v2 : Int32) (z0 : MOT) (H : Heap) (locs : List Loc) (ls : Array Slot), f_X12_readKnown_b10 y_tape bu v2 z0 = some (rv, u0) → va_P D vwCl (w_MO dA a q0 (some (ba 0)) (ta 0) g3 g4 g5 g6 g7 g8 g9 g10 g11 g12 g13 g14 g15 g16 g17 g18 z0 ++ (w_Tape dA ta y_tape ++ (w_Bus dA ba bu))) H → va_D A (w_MO dA a q0 (some (ba 0)) (ta 0) g3 g4 g5 g6 g7 g8 g9 g10 g11 g12 g13 g14 g15 g16 g17 g18 z0 ++ (w_Tape dA ta y_tape ++ (w_Bus dA ba bu))) → va_S A s.heap H locs → lv_has ls 3 [(2, .int v2)] → W p l e ({ frames := 9, cells := 0, slots := 0, locals := 191 } : Room) s m ([.ref (a 0), .int x0] : List Value).toArray below meth c H locs 0 0 Q (F0 m 10 ls []) := by
    intro v2 z0 H locs ls hf hP hD hS hl
    rw [f_X12_readKnown_b10] at hf
    refine lv_iload_n hx hb dX12_readKnown_10 rfl (lv_at hl 0 rfl) ?_
    exact RET _ _ H _ ls 11 hf hP hD hS dX12_readKnown_11
  have B_6 : ∀ (v2 : Int32) (z0 : MOT) (H : Heap) (locs : List Loc) (ls : Array Slot), f_X12_readKnown_b6 y_tape bu v2 z0 = some (rv, u0) → va_P D vwCl (w_MO dA a q0 (some (ba 0)) (ta 0) g3 g4 g5 g6 g7 g8 g9 g10 g11 g12 g13 g14 g15 g16 g17 g18 z0 ++ (w_Tape dA ta y_tape ++ (w_Bus dA ba bu))) H → va_D A (w_MO dA a q0 (some (ba 0)) (ta 0) g3 g4 g5 g6 g7 g8 g9 g10 g11 g12 g13 g14 g15 g16 g17 g18 z0 ++ (w_Tape dA ta y_tape ++ (w_Bus dA ba bu))) → va_S A s.heap H locs → lv_has ls 3 [(0, .ref (a 0)), (2, .int v2)] → W p l e ({ frames := 9, cells := 0, slots := 0, locals := 191 } : Room) s m ([.ref (a 0), .int x0] : List Value).toArray below meth c H locs 0 0 Q (F0 m 6 ls []) := by
    intro v2 z0 H locs ls hf hP hD hS hl
    rw [f_X12_readKnown_b6] at hf
    refine lv_aload_n hx hb dX12_readKnown_6 rfl (lv_at hl 0 rfl) ?_
    obtain ⟨r2, hc2, hf⟩ := kb_bind hf
    refine kb_cv (ws2 := (w_MO dA a q0 (some (ba 0)) (ta 0) g3 g4 g5 g6 g7 g8 g9 g10 g11 g12 g13 g14 g15 g16 g17 g18 r2 ++ (w_Tape dA ta y_tape ++ (w_Bus dA ba bu)))) (kb_rV (n := 0) (As := []) (rest := []) hx hb hml hown hK (c_X12_goesOn l D dA H.size a ta q0 (some (ba 0)) g3 g4 g5 g6 g7 g8 g9 g10 g11 g12 g13 g14 g15 g16 g17 g18 z0 y_tape r2 hc2) ⟨ww_6_189, ww_6_186, ww_6_188, ws_47, ww_1_12, rfl, by decide, by decide⟩ rfl rfl (by decide +kernel) ⟨Nat.le_of_ble_eq_true rfl, Nat.le_of_ble_eq_true rfl⟩ hP hD hS hA hE [0, 1] rfl (by decide) 0 rfl rfl rfl hl.1 rfl (Nat.le_of_ble_eq_true rfl) dX12_readKnown_7 ⟨Nat.le_of_ble_eq_true rfl, Nat.le_of_ble_eq_true rfl⟩) hP hD hS hA [0, 1] [2, 3, 4, 5, 6, 7, 8, 9, 10, 11, 12, 13, 14, 15, 16, 17] [16, 17, 0, 1, 2, 3, 4, 5, 6, 7, 8, 9, 10, 11, 12, 13, 14, 15] rfl rfl (by decide) (by decide) rfl (by decide) (fun H locs hP hD hS => ?_)
    exact B_10 _ _ _ _ _ hf hP hD hS (lv_sub hl [1] rfl)
  have E0 : ∀ (H : Heap) (locs : List Loc), va_P D vwCl (w_MO dA a q0 (some (ba 0)) (ta 0) g3 g4 g5 g6 g7 g8 g9 g10 g11 g12 g13 g14 g15 g16 g17 g18 mo ++ (w_Tape dA ta y_tape ++ (w_Bus dA ba bu))) H → va_D A (w_MO dA a q0 (some (ba 0)) (ta 0) g3 g4 g5 g6 g7 g8 g9 g10 g11 g12 g13 g14 g15 g16 g17 g18 mo ++ (w_Tape dA ta y_tape ++ (w_Bus dA ba bu))) → va_S A s.heap H locs → W p l e ({ frames := 9, cells := 0, slots := 0, locals := 191 } : Room) s m ([.ref (a 0), .int x0] : List Value).toArray below meth c H locs 0 0 Q (F0 m 0 ls []) := by
    intro H locs hP hD hS
    rw [f_X12_readKnown] at hf
    refine lv_aload_n hx hb dX12_readKnown_0 rfl (lv_at hl 0 rfl) ?_
    refine lv_iload_n hx hb dX12_readKnown_1 rfl (lv_at hl 1 rfl) ?_
    obtain ⟨r1, hc1, hf⟩ := kb_bind hf
    refine kb_ci (ws2 := (w_MO dA a q0 (some (ba 0)) (ta 0) g3 g4 g5 g6 g7 g8 g9 g10 g11 g12 g13 g14 g15 g16 g17 g18 r1.2 ++ (w_Tape dA ta y_tape ++ (w_Bus dA ba bu)))) (kb_rV (n := 1) (As := [.int x0]) (rest := []) hx hb hml hown hK (c_X12_known l D dA H.size a ba q0 (ta 0) g3 g4 g5 g6 g7 g8 g9 g10 g11 g12 g13 g14 g15 g16 g17 g18 mo bu x0 r1.1 r1.2 hc1) ⟨ww_7_68, ww_7_65, ww_7_67, ws_65, ww_1_12, rfl, by decide, by decide⟩ rfl rfl (by decide +kernel) ⟨Nat.le_of_ble_eq_true rfl, Nat.le_of_ble_eq_true rfl⟩ hP hD hS hA hE [0, 2, 3, 4, 5, 6, 7, 8, 9, 10, 11, 12, 13, 14, 15, 16, 17] rfl (by decide) 0 rfl rfl rfl hl.1 rfl (Nat.le_of_ble_eq_true rfl) dX12_readKnown_2 ⟨Nat.le_of_ble_eq_true rfl, Nat.le_of_ble_eq_true rfl⟩) hP hD hS hA [0, 2, 3, 4, 5, 6, 7, 8, 9, 10, 11, 12, 13, 14, 15, 16, 17] [1] [1, 0, 2, 3, 4, 5, 6, 7, 8, 9, 10, 11, 12, 13, 14, 15, 16, 17] rfl rfl (by decide) (by decide) rfl (by decide) (fun H locs hP hD hS => ?_)
    refine lv_istore_n (lv' := [(2, .int r1.1), (0, .ref (a 0)), (1, .int x0)]) hx hb dX12_readKnown_5 rfl hl (by decide) rfl (fun ls hl => ?_)
    exact B_6 _ _ _ _ _ hf hP hD hS (lv_sub hl [1, 0] rfl)
  exact E0 _ _ hP hD hS

noncomputable def f_X12_readOne_b182 (y_tape : TapeT) (z0 : MOT) (z2 : BusT) : Option (MOT × BusT) := some (z0, z2)
noncomputable def f_X12_readOne_b174 (y_tape : TapeT) (v1 : Int32) (z0 : MOT) (z2 : BusT) : Option (MOT × BusT) := f_X12_readOne_b182 y_tape z0 (bu_set_rows z2 v1)
noncomputable def f_X12_readOne_b157 (y_tape : TapeT) (v1 : Int32) (v2 : Int32) (z0 : MOT) (z2 : BusT) : Option (MOT × BusT) := (if (mo_sort z0) = (5 : Int32) then some (z0, z2) else f_X12_readOne_b174 y_tape v1 z0 (bu_set_sun z2 v2))
noncomputable def f_X12_readOne_b153 (y_tape : TapeT) (v1 : Int32) (v2 : Int32) (z0 : MOT) (z2 : BusT) : Option (MOT × BusT) := (f_X12_goesOn z0 y_tape).bind fun r14 => f_X12_readOne_b157 y_tape v1 v2 r14 z2
noncomputable def f_X12_readOne_b132 (y_tape : TapeT) (v1 : Int32) (s0 : Int32) (z0 : MOT) (z2 : BusT) : Option (MOT × BusT) := (if s0 = (-1 : Int32) then (f_X12_isWord z0 9).bind fun r16 => (if r16 = 0 then (f_X12_wrong z0 (1 : Int32)).bind fun r18 => f_X12_readOne_b153 y_tape v1 s0 r18 z2 else f_X12_readOne_b153 y_tape v1 s0 z0 z2) else f_X12_readOne_b153 y_tape v1 s0 z0 z2)
noncomputable def f_X12_readOne_b103 (y_tape : TapeT) (v1 : Int32) (z0 : MOT) (z2 : BusT) : Option (MOT × BusT) := (f_X12_isWord z0 7).bind fun r9 => (if r9 = 0 then (f_X12_isWord z0 8).bind fun r11 => (if r11 = 0 then f_X12_readOne_b132 y_tape v1 (-1 : Int32) z0 z2 else f_X12_readOne_b132 y_tape v1 (1 : Int32) z0 z2) else f_X12_readOne_b132 y_tape v1 (0 : Int32) z0 z2)
noncomputable def f_X12_readOne_b96 (y_tape : TapeT) (v1 : Int32) (z0 : MOT) (z2 : BusT) : Option (MOT × BusT) := (f_X12_needs z0 y_tape 6).bind fun r8 => f_X12_readOne_b103 y_tape v1 r8 z2
noncomputable def f_X12_readOne_b79 (y_tape : TapeT) (v1 : Int32) (z0 : MOT) (z2 : BusT) : Option (MOT × BusT) := (f_X12_readPart z0 y_tape 5 (0 : Int32) (9 : Int32)).bind fun r7 => f_X12_readOne_b96 y_tape v1 r7.2 (bu_set_rise z2 r7.1)
noncomputable def f_X12_readOne_b62 (y_tape : TapeT) (v1 : Int32) (z0 : MOT) (z2 : BusT) : Option (MOT × BusT) := (f_X12_readPart z0 y_tape 4 (1 : Int32) (9 : Int32)).bind fun r6 => f_X12_readOne_b79 y_tape v1 r6.2 (bu_set_pace z2 r6.1)
noncomputable def f_X12_readOne_b44 (y_tape : TapeT) (v1 : Int32) (z0 : MOT) (z2 : BusT) : Option (MOT × BusT) := (f_X12_readPart z0 y_tape 3 (0 : Int32) (v1 - (1 : Int32))).bind fun r5 => f_X12_readOne_b62 y_tape v1 r5.2 (bu_set_door z2 r5.1)
noncomputable def f_X12_readOne_b28 (y_tape : TapeT) (v1 : Int32) (z0 : MOT) (z2 : BusT) : Option (MOT × BusT) := (f_X12_readPart z0 y_tape 2 (0 : Int32) (2 : Int32)).bind fun r4 => f_X12_readOne_b44 y_tape v1 r4.2 (bu_set_form z2 r4.1)
noncomputable def f_X12_readOne_b19 (y_tape : TapeT) (z0 : MOT) (z2 : BusT) : Option (MOT × BusT) := (f_X12_readPart z0 y_tape 1 (1 : Int32) (5 : Int32)).bind fun r3 => f_X12_readOne_b28 y_tape r3.1 r3.2 z2
noncomputable def f_X12_readOne_b15 (y_tape : TapeT) (z0 : MOT) (z2 : BusT) : Option (MOT × BusT) := (f_X12_goesOn z0 y_tape).bind fun r2 => f_X12_readOne_b19 y_tape r2 z2
noncomputable def f_X12_readOne (mo : MOT) (y_tape : TapeT) (bu : BusT) : Option (MOT × BusT) := (if (bu_rows bu) ≤ 0 then f_X12_readOne_b15 y_tape mo bu else (f_X12_wrong mo (3 : Int32)).bind fun r19 => f_X12_readOne_b15 y_tape r19 bu)
set_option maxHeartbeats 4000000 in
set_option maxRecDepth 100000 in
theorem c_X12_readOne (l : Launch) (D : va_G) (dA : Nat → ClassId) (sz : Nat) (a : Nat → Nat) (ta : Nat → Nat) (ba : Nat → Nat) (q0 : Option Nat) (g3 : Nat) (g4 : Nat) (g5 : Nat) (g6 : Nat) (g7 : Nat) (g8 : Nat) (g9 : Nat) (g10 : Nat) (g11 : Nat) (g12 : Nat) (g13 : Nat) (g14 : Nat) (g15 : Nat) (g16 : Nat) (g17 : Nat) (g18 : Nat) (mo : MOT) (y_tape : TapeT) (bu : BusT) (u0 : MOT) (u2 : BusT) (hf : f_X12_readOne mo y_tape bu = some (u0, u2)) : kb_Mv l yX12_readOne cX12_readOne 3 none ({ frames := 8, cells := 0, slots := 0, locals := 173 } : Room) D dA [.ref (a 0)] sz (w_MO dA a q0 (some (ba 0)) (ta 0) g3 g4 g5 g6 g7 g8 g9 g10 g11 g12 g13 g14 g15 g16 g17 g18 mo ++ (w_Tape dA ta y_tape ++ (w_Bus dA ba bu))) 0 0 (w_MO dA a q0 (some (ba 0)) (ta 0) g3 g4 g5 g6 g7 g8 g9 g10 g11 g12 g13 g14 g15 g16 g17 g18 u0 ++ (w_Tape dA ta y_tape ++ (w_Bus dA ba u2))) := by
  refine Met.ofW (cc := cX12_readOne) (maxL := 3) (ret := none) (by decide) rfl ?_
  intro p e s m args below meth c s₁ B hml hv
  obtain ⟨rfl, hsz, hP, hK, hD0, hE⟩ := hv
  have hx := B.exec
  have hb := B.bytes
  have hr := B.returns
  have hown : s.vm.findClass RX12 = some m.cls := findClass_of_methodNamed B.named
  have hlocks := B.notSynchronized
  have hts : ∀ w ∈ kb_gw, w.before ([.ref (a 0)] : List Value).toArray s = true := fun w hw => hK.2.1 w hw _
  subst hsz
  have hD := hD0.self (sz := s.heap.size)
  generalize hAe : va_A (w_MO dA a q0 (some (ba 0)) (ta 0) g3 g4 g5 g6 g7 g8 g9 g10 g11 g12 g13 g14 g15 g16 g17 g18 mo ++ (w_Tape dA ta y_tape ++ (w_Bus dA ba bu))) s.heap.size = A at hD hE ⊢
  have hA : ∀ q : Nat, s.heap.size ≤ q → A q := fun q h => by rw [← hAe]; exact Or.inr h
  have hS : va_S A s.heap s.heap [] := va_S.rf
  have hl := lv_entry ([.ref (a 0)]) (n := 3) (Nat.le_of_ble_eq_true rfl)
  rw [lg_entry_eq]
  generalize (lg_sl ([.ref (a 0)]) ++ List.replicate (3 - (lg_sl ([.ref (a 0)])).length) Slot.unset).toArray = ls at hl ⊢
  have hl : lv_has ls 3 [(0, .ref (a 0))] := hl
  generalize hQ : MQ below (va_Qv (fun (_ : Unit) => True) (kb_B D A (w_MO dA a q0 (some (ba 0)) (ta 0) g3 g4 g5 g6 g7 g8 g9 g10 g11 g12 g13 g14 g15 g16 g17 g18 u0 ++ (w_Tape dA ta y_tape ++ (w_Bus dA ba u2)))) A) ([.ref (a 0)] : List Value).toArray s 0 0 A = Q
  show W p l e ({ frames := 8, cells := 0, slots := 0, locals := 173 } : Room) s m ([.ref (a 0)] : List Value).toArray below meth c s.heap [] 0 0 Q (F0 m 0 ls [])
  have RET : ∀ (w0 : MOT) (w2 : BusT) (H : Heap) (locs : List Loc) (ls : Array Slot) (pc : Nat), some (w0, w2) = some (u0, u2) → va_P D vwCl (w_MO dA a q0 (some (ba 0)) (ta 0) g3 g4 g5 g6 g7 g8 g9 g10 g11 g12 g13 g14 g15 g16 g17 g18 w0 ++ (w_Tape dA ta y_tape ++ (w_Bus dA ba w2))) H → va_D A (w_MO dA a q0 (some (ba 0)) (ta 0) g3 g4 g5 g6 g7 g8 g9 g10 g11 g12 g13 g14 g15 g16 g17 g18 w0 ++ (w_Tape dA ta y_tape ++ (w_Bus dA ba w2))) → va_S A s.heap H locs → decode cX12_readOne pc = .ok (.return_, 1) → W p l e ({ frames := 8, cells := 0, slots := 0, locals := 173 } : Room) s m ([.ref (a 0)] : List Value).toArray below meth c H locs 0 0 Q (F0 m pc ls []) := by
    intro w0 w2 H locs ls pc hq hP hD hS hd
    cases hq
    rw [← hQ]
    exact W.vret hx hb hr (fun t ht hW => ⟨⟨(), rfl, trivial, by rw [ht]; exact hP, hD⟩, hS.F ht⟩) hS.2.2 hd
  have B_182 : ∀ (z0 : MOT) (z2 : BusT) (H : Heap) (locs : List Loc) (ls : Array Slot), f_X12_readOne_b182 y_tape z0 z2 = some (u0, u2) → va_P D vwCl (w_MO dA a q0 (some (ba 0)) (ta 0) g3 g4 g5 g6 g7 g8 g9 g10 g11 g12 g13 g14 g15 g16 g17 g18 z0 ++ (w_Tape dA ta y_tape ++ (w_Bus dA ba z2))) H → va_D A (w_MO dA a q0 (some (ba 0)) (ta 0) g3 g4 g5 g6 g7 g8 g9 g10 g11 g12 g13 g14 g15 g16 g17 g18 z0 ++ (w_Tape dA ta y_tape ++ (w_Bus dA ba z2))) → va_S A s.heap H locs → lv_has ls 3 [] → W p l e ({ frames := 8, cells := 0, slots := 0, locals := 173 } : Room) s m ([.ref (a 0)] : List Value).toArray below meth c H locs 0 0 Q (F0 m 182 ls []) := by
    intro z0 z2 H locs ls hf hP hD hS hl
    rw [f_X12_readOne_b182] at hf
    exact RET _ _ H _ ls 182 hf hP hD hS dX12_readOne_182
  have B_174 : ∀ (v1 : Int32) (z0 : MOT) (z2 : BusT) (H : Heap) (locs : List Loc) (ls : Array Slot), f_X12_readOne_b174 y_tape v1 z0 z2 = some (u0, u2) → va_P D vwCl (w_MO dA a q0 (some (ba 0)) (ta 0) g3 g4 g5 g6 g7 g8 g9 g10 g11 g12 g13 g14 g15 g16 g17 g18 z0 ++ (w_Tape dA ta y_tape ++ (w_Bus dA ba z2))) H → va_D A (w_MO dA a q0 (some (ba 0)) (ta 0) g3 g4 g5 g6 g7 g8 g9 g10 g11 g12 g13 g14 g15 g16 g17 g18 z0 ++ (w_Tape dA ta y_tape ++ (w_Bus dA ba z2))) → va_S A s.heap H locs → lv_has ls 3 [(0, .ref (a 0)), (1, .int v1)] → W p l e ({ frames := 8, cells := 0, slots := 0, locals := 173 } : Room) s m ([.ref (a 0)] : List Value).toArray below meth c H locs 0 0 Q (F0 m 174 ls []) := by
    intro v1 z0 z2 H locs ls hf hP hD hS hl
    rw [f_X12_readOne_b174] at hf
    refine lv_aload_n hx hb dX12_readOne_174 rfl (lv_at hl 0 rfl) ?_
    refine va_get (D := D) (ci := 12) (v := .ref (ba 0)) (C := RX12) (T := TX12) (N := 35) hx hb hts kb_inX12 hown hK.1 hP 0 rfl rfl 4 (by decide) (hK.2.w ww_5_204 rfl _) (fun _ h9 => h9) rfl dX12_readOne_175 ?_
    refine lv_iload_n hx hb dX12_readOne_178 rfl (lv_at hl 1 rfl) ?_
    refine va_putN (D := D) (ci := 11) (v := .int v1) (ty := .int) (C := RX11) (T := TX11) (N := 26) hx hb hts kb_inX11 tyX11 tyX11_ok nmX11 hown hK.1 hP hD hS 2 rfl rfl 0 (by decide) (hK.2.nb ww_6_89 rfl rfl _) (fun _ h9 => h9) rfl (by decide +kernel) rfl rfl (Nat.le_of_ble_eq_true rfl) dX12_readOne_179 (fun H locs hP hD hS => ?_)
    have hP : va_P D vwCl (w_MO dA a q0 (some (ba 0)) (ta 0) g3 g4 g5 g6 g7 g8 g9 g10 g11 g12 g13 g14 g15 g16 g17 g18 z0 ++ (w_Tape dA ta y_tape ++ (w_Bus dA ba (bu_set_rows z2 v1)))) H := hP
    have hD : va_D A (w_MO dA a q0 (some (ba 0)) (ta 0) g3 g4 g5 g6 g7 g8 g9 g10 g11 g12 g13 g14 g15 g16 g17 g18 z0 ++ (w_Tape dA ta y_tape ++ (w_Bus dA ba (bu_set_rows z2 v1)))) := hD
    exact B_182 _ _ _ _ _ hf hP hD hS (lv_sub hl [] rfl)
  have B_157 : ∀ (v1 : Int32) (v2 : Int32) (z0 : MOT) (z2 : BusT) (H : Heap) (locs : List Loc) (ls : Array Slot), f_X12_readOne_b157 y_tape v1 v2 z0 z2 = some (u0, u2) → va_P D vwCl (w_MO dA a q0 (some (ba 0)) (ta 0) g3 g4 g5 g6 g7 g8 g9 g10 g11 g12 g13 g14 g15 g16 g17 g18 z0 ++ (w_Tape dA ta y_tape ++ (w_Bus dA ba z2))) H → va_D A (w_MO dA a q0 (some (ba 0)) (ta 0) g3 g4 g5 g6 g7 g8 g9 g10 g11 g12 g13 g14 g15 g16 g17 g18 z0 ++ (w_Tape dA ta y_tape ++ (w_Bus dA ba z2))) → va_S A s.heap H locs → lv_has ls 3 [(0, .ref (a 0)), (1, .int v1), (2, .int v2)] → W p l e ({ frames := 8, cells := 0, slots := 0, locals := 173 } : Room) s m ([.ref (a 0)] : List Value).toArray below meth c H locs 0 0 Q (F0 m 157 ls []) := by
    intro v1 v2 z0 z2 H locs ls hf hP hD hS hl
    rw [f_X12_readOne_b157] at hf
    refine lv_aload_n hx hb dX12_readOne_157 rfl (lv_at hl 0 rfl) ?_
    refine va_get (D := D) (ci := 12) (v := .int (mo_sort z0)) (C := RX12) (T := TX12) (N := 35) hx hb hts kb_inX12 hown hK.1 hP 0 rfl rfl 9 (by decide) (hK.2.w ww_5_209 rfl _) (fun _ h9 => h9) rfl dX12_readOne_158 ?_
    refine lv_iconst (v := (5 : Int32)) hx hb dX12_readOne_161 (by decide) ?_
    refine lv_icmp_ne (tgt := 166) hx hb dX12_readOne_162 (by decide) (fun c_15 => ?_) (fun c_15 => ?_)
    · rw [if_neg c_15] at hf
      refine lv_aload_n hx hb dX12_readOne_166 rfl (lv_at hl 0 rfl) ?_
      refine va_get (D := D) (ci := 12) (v := .ref (ba 0)) (C := RX12) (T := TX12) (N := 35) hx hb hts kb_inX12 hown hK.1 hP 0 rfl rfl 4 (by decide) (hK.2.w ww_5_204 rfl _) (fun _ h9 => h9) rfl dX12_readOne_167 ?_
      refine lv_iload_n hx hb dX12_readOne_170 rfl (lv_at hl 2 rfl) ?_
      refine va_putN (D := D) (ci := 11) (v := .int v2) (ty := .int) (C := RX11) (T := TX11) (N := 26) hx hb hts kb_inX11 tyX11 tyX11_ok nmX11 hown hK.1 hP hD hS 2 rfl rfl 5 (by decide) (hK.2.nb ww_6_94 rfl rfl _) (fun _ h9 => h9) rfl (by decide +kernel) rfl rfl (Nat.le_of_ble_eq_true rfl) dX12_readOne_171 (fun H locs hP hD hS => ?_)
      have hP : va_P D vwCl (w_MO dA a q0 (some (ba 0)) (ta 0) g3 g4 g5 g6 g7 g8 g9 g10 g11 g12 g13 g14 g15 g16 g17 g18 z0 ++ (w_Tape dA ta y_tape ++ (w_Bus dA ba (bu_set_sun z2 v2)))) H := hP
      have hD : va_D A (w_MO dA a q0 (some (ba 0)) (ta 0) g3 g4 g5 g6 g7 g8 g9 g10 g11 g12 g13 g14 g15 g16 g17 g18 z0 ++ (w_Tape dA ta y_tape ++ (w_Bus dA ba (bu_set_sun z2 v2)))) := hD
      exact B_174 _ _ _ _ _ _ hf hP hD hS (lv_sub hl [0, 1] rfl)
    · rw [if_pos c_15] at hf
      exact RET _ _ H _ ls 165 hf hP hD hS dX12_readOne_165
  have B_153 : ∀ (v1 : Int32) (v2 : Int32) (z0 : MOT) (z2 : BusT) (H : Heap) (locs : List Loc) (ls : Array Slot), f_X12_readOne_b153 y_tape v1 v2 z0 z2 = some (u0, u2) → va_P D vwCl (w_MO dA a q0 (some (ba 0)) (ta 0) g3 g4 g5 g6 g7 g8 g9 g10 g11 g12 g13 g14 g15 g16 g17 g18 z0 ++ (w_Tape dA ta y_tape ++ (w_Bus dA ba z2))) H → va_D A (w_MO dA a q0 (some (ba 0)) (ta 0) g3 g4 g5 g6 g7 g8 g9 g10 g11 g12 g13 g14 g15 g16 g17 g18 z0 ++ (w_Tape dA ta y_tape ++ (w_Bus dA ba z2))) → va_S A s.heap H locs → lv_has ls 3 [(0, .ref (a 0)), (1, .int v1), (2, .int v2)] → W p l e ({ frames := 8, cells := 0, slots := 0, locals := 173 } : Room) s m ([.ref (a 0)] : List Value).toArray below meth c H locs 0 0 Q (F0 m 153 ls []) := by
    intro v1 v2 z0 z2 H locs ls hf hP hD hS hl
    rw [f_X12_readOne_b153] at hf
    refine lv_aload_n hx hb dX12_readOne_153 rfl (lv_at hl 0 rfl) ?_
    obtain ⟨r14, hc14, hf⟩ := kb_bind hf
    refine kb_cv (ws2 := (w_MO dA a q0 (some (ba 0)) (ta 0) g3 g4 g5 g6 g7 g8 g9 g10 g11 g12 g13 g14 g15 g16 g17 g18 r14 ++ (w_Tape dA ta y_tape ++ (w_Bus dA ba z2)))) (kb_rV (n := 0) (As := []) (rest := []) hx hb hml hown hK (c_X12_goesOn l D dA H.size a ta q0 (some (ba 0)) g3 g4 g5 g6 g7 g8 g9 g10 g11 g12 g13 g14 g15 g16 g17 g18 z0 y_tape r14 hc14) ⟨ww_6_189, ww_6_186, ww_6_188, ws_47, ww_1_12, rfl, by decide, by decide⟩ rfl rfl (by decide +kernel) ⟨Nat.le_of_ble_eq_true rfl, Nat.le_of_ble_eq_true rfl⟩ hP hD hS hA hE [0, 1] rfl (by decide) 0 rfl rfl rfl hl.1 rfl (Nat.le_of_ble_eq_true rfl) dX12_readOne_154 ⟨Nat.le_of_ble_eq_true rfl, Nat.le_of_ble_eq_true rfl⟩) hP hD hS hA [0, 1] [2, 3, 4, 5, 6, 7, 8, 9, 10, 11, 12, 13, 14, 15, 16, 17] [16, 17, 0, 1, 2, 3, 4, 5, 6, 7, 8, 9, 10, 11, 12, 13, 14, 15] rfl rfl (by decide) (by decide) rfl (by decide) (fun H locs hP hD hS => ?_)
    exact B_157 _ _ _ _ _ _ _ hf hP hD hS (lv_sub hl [0, 1, 2] rfl)
  have B_132 : ∀ (v1 : Int32) (s0 : Int32) (z0 : MOT) (z2 : BusT) (H : Heap) (locs : List Loc) (ls : Array Slot), f_X12_readOne_b132 y_tape v1 s0 z0 z2 = some (u0, u2) → va_P D vwCl (w_MO dA a q0 (some (ba 0)) (ta 0) g3 g4 g5 g6 g7 g8 g9 g10 g11 g12 g13 g14 g15 g16 g17 g18 z0 ++ (w_Tape dA ta y_tape ++ (w_Bus dA ba z2))) H → va_D A (w_MO dA a q0 (some (ba 0)) (ta 0) g3 g4 g5 g6 g7 g8 g9 g10 g11 g12 g13 g14 g15 g16 g17 g18 z0 ++ (w_Tape dA ta y_tape ++ (w_Bus dA ba z2))) → va_S A s.heap H locs → lv_has ls 3 [(0, .ref (a 0)), (1, .int v1)] → W p l e ({ frames := 8, cells := 0, slots := 0, locals := 173 } : Room) s m ([.ref (a 0)] : List Value).toArray below meth c H locs 0 0 Q (F0 m 132 ls [.int s0]) := by
    intro v1 s0 z0 z2 H locs ls hf hP hD hS hl
    rw [f_X12_readOne_b132] at hf
    refine lv_istore_n (lv' := [(2, .int s0), (0, .ref (a 0)), (1, .int v1)]) hx hb dX12_readOne_132 rfl hl (by decide) rfl (fun ls hl => ?_)
    refine lv_iload_n hx hb dX12_readOne_133 rfl (lv_at hl 0 rfl) ?_
    refine lv_iconst (v := (-1 : Int32)) hx hb dX12_readOne_134 (by decide) ?_
    refine lv_icmp_ne (tgt := 153) hx hb dX12_readOne_135 (by decide) (fun c_13 => ?_) (fun c_13 => ?_)
    · rw [if_neg c_13] at hf
      exact B_153 _ _ _ _ _ _ _ hf hP hD hS (lv_sub hl [1, 2, 0] rfl)
    · rw [if_pos c_13] at hf
      refine lv_aload_n hx hb dX12_readOne_138 rfl (lv_at hl 1 rfl) ?_
      refine kb_ldcwS (tx := "none") (q := dA (100 + 9)) hx hb hown (hE.2.2.2 ("BusSeatsModel", 277, "none", 9) (by decide)) dX12_readOne_139 ?_
      obtain ⟨r16, hc16, hf⟩ := kb_bind hf
      refine kb_ci (ws2 := (w_MO dA a q0 (some (ba 0)) (ta 0) g3 g4 g5 g6 g7 g8 g9 g10 g11 g12 g13 g14 g15 g16 g17 g18 z0 ++ (w_Tape dA ta y_tape ++ (w_Bus dA ba z2)))) (kb_rV (n := 1) (As := [.ref (dA (100 + 9))]) (rest := []) hx hb hml hown hK (c_X12_isWord l D dA H.size a q0 (some (ba 0)) (ta 0) g3 g4 g5 g6 g7 g8 g9 g10 g11 g12 g13 g14 g15 g16 g17 g18 z0 9 (by decide) r16 hc16) ⟨ww_6_213, ww_6_210, ww_6_212, ws_51, ww_1_12, rfl, by decide, by decide⟩ rfl rfl (by decide +kernel) ⟨Nat.le_of_ble_eq_true rfl, Nat.le_of_ble_eq_true rfl⟩ hP hD hS hA hE [0] rfl (by decide) 0 rfl rfl rfl hl.1 rfl (Nat.le_of_ble_eq_true rfl) dX12_readOne_142 ⟨Nat.le_of_ble_eq_true rfl, Nat.le_of_ble_eq_true rfl⟩) hP hD hS hA [0] [1, 2, 3, 4, 5, 6, 7, 8, 9, 10, 11, 12, 13, 14, 15, 16, 17] [17, 0, 1, 2, 3, 4, 5, 6, 7, 8, 9, 10, 11, 12, 13, 14, 15, 16] rfl rfl (by decide) (by decide) rfl (by decide) (fun H locs hP hD hS => ?_)
      refine lv_if_ne (tgt := 153) hx hb dX12_readOne_145 (by decide) (fun c_17 => ?_) (fun c_17 => ?_)
      · rw [if_neg c_17] at hf
        exact B_153 _ _ _ _ _ _ _ hf hP hD hS (lv_sub hl [1, 2, 0] rfl)
      · rw [if_pos c_17] at hf
        refine lv_aload_n hx hb dX12_readOne_148 rfl (lv_at hl 1 rfl) ?_
        refine lv_iconst (v := (1 : Int32)) hx hb dX12_readOne_149 (by decide) ?_
        obtain ⟨r18, hc18, hf⟩ := kb_bind hf
        refine kb_cv (ws2 := (w_MO dA a q0 (some (ba 0)) (ta 0) g3 g4 g5 g6 g7 g8 g9 g10 g11 g12 g13 g14 g15 g16 g17 g18 r18 ++ (w_Tape dA ta y_tape ++ (w_Bus dA ba z2)))) (kb_rV (n := 1) (As := [.int (1 : Int32)]) (rest := []) hx hb hml hown hK (c_X12_wrong l D dA H.size a q0 (some (ba 0)) (ta 0) g3 g4 g5 g6 g7 g8 g9 g10 g11 g12 g13 g14 g15 g16 g17 g18 z0 (1 : Int32) r18 hc18) ⟨ww_6_226, ww_6_223, ww_6_225, ws_53, ww_1_12, rfl, by decide, by decide⟩ rfl rfl (by decide +kernel) ⟨Nat.le_of_ble_eq_true rfl, Nat.le_of_ble_eq_true rfl⟩ hP hD hS hA hE [0] rfl (by decide) 0 rfl rfl rfl hl.1 rfl (Nat.le_of_ble_eq_true rfl) dX12_readOne_150 ⟨Nat.le_of_ble_eq_true rfl, Nat.le_of_ble_eq_true rfl⟩) hP hD hS hA [0] [1, 2, 3, 4, 5, 6, 7, 8, 9, 10, 11, 12, 13, 14, 15, 16, 17] [17, 0, 1, 2, 3, 4, 5, 6, 7, 8, 9, 10, 11, 12, 13, 14, 15, 16] rfl rfl (by decide) (by decide) rfl (by decide) (fun H locs hP hD hS => ?_)
        exact B_153 _ _ _ _ _ _ _ hf hP hD hS (lv_sub hl [1, 2, 0] rfl)
  have B_103 : ∀ (v1 : Int32) (z0 : MOT) (z2 : BusT) (H : Heap) (locs : List Loc) (ls : Array Slot), f_X12_readOne_b103 y_tape v1 z0 z2 = some (u0, u2) → va_P D vwCl (w_MO dA a q0 (some (ba 0)) (ta 0) g3 g4 g5 g6 g7 g8 g9 g10 g11 g12 g13 g14 g15 g16 g17 g18 z0 ++ (w_Tape dA ta y_tape ++ (w_Bus dA ba z2))) H → va_D A (w_MO dA a q0 (some (ba 0)) (ta 0) g3 g4 g5 g6 g7 g8 g9 g10 g11 g12 g13 g14 g15 g16 g17 g18 z0 ++ (w_Tape dA ta y_tape ++ (w_Bus dA ba z2))) → va_S A s.heap H locs → lv_has ls 3 [(0, .ref (a 0)), (1, .int v1)] → W p l e ({ frames := 8, cells := 0, slots := 0, locals := 173 } : Room) s m ([.ref (a 0)] : List Value).toArray below meth c H locs 0 0 Q (F0 m 103 ls []) := by
    intro v1 z0 z2 H locs ls hf hP hD hS hl
    rw [f_X12_readOne_b103] at hf
    refine lv_aload_n hx hb dX12_readOne_103 rfl (lv_at hl 0 rfl) ?_
    refine kb_ldcwS (tx := "left") (q := dA (100 + 7)) hx hb hown (hE.2.2.2 ("BusSeatsModel", 274, "left", 7) (by decide)) dX12_readOne_104 ?_
    obtain ⟨r9, hc9, hf⟩ := kb_bind hf
    refine kb_ci (ws2 := (w_MO dA a q0 (some (ba 0)) (ta 0) g3 g4 g5 g6 g7 g8 g9 g10 g11 g12 g13 g14 g15 g16 g17 g18 z0 ++ (w_Tape dA ta y_tape ++ (w_Bus dA ba z2)))) (kb_rV (n := 1) (As := [.ref (dA (100 + 7))]) (rest := []) hx hb hml hown hK (c_X12_isWord l D dA H.size a q0 (some (ba 0)) (ta 0) g3 g4 g5 g6 g7 g8 g9 g10 g11 g12 g13 g14 g15 g16 g17 g18 z0 7 (by decide) r9 hc9) ⟨ww_6_213, ww_6_210, ww_6_212, ws_51, ww_1_12, rfl, by decide, by decide⟩ rfl rfl (by decide +kernel) ⟨Nat.le_of_ble_eq_true rfl, Nat.le_of_ble_eq_true rfl⟩ hP hD hS hA hE [0] rfl (by decide) 0 rfl rfl rfl hl.1 rfl (Nat.le_of_ble_eq_true rfl) dX12_readOne_107 ⟨Nat.le_of_ble_eq_true rfl, Nat.le_of_ble_eq_true rfl⟩) hP hD hS hA [0] [1, 2, 3, 4, 5, 6, 7, 8, 9, 10, 11, 12, 13, 14, 15, 16, 17] [17, 0, 1, 2, 3, 4, 5, 6, 7, 8, 9, 10, 11, 12, 13, 14, 15, 16] rfl rfl (by decide) (by decide) rfl (by decide) (fun H locs hP hD hS => ?_)
    refine lv_if_eq (tgt := 117) hx hb dX12_readOne_110 (by decide) (fun c_10 => ?_) (fun c_10 => ?_)
    · rw [if_pos c_10] at hf
      refine lv_aload_n hx hb dX12_readOne_117 rfl (lv_at hl 0 rfl) ?_
      refine kb_ldcwS (tx := "right") (q := dA (100 + 8)) hx hb hown (hE.2.2.2 ("BusSeatsModel", 275, "right", 8) (by decide)) dX12_readOne_118 ?_
      obtain ⟨r11, hc11, hf⟩ := kb_bind hf
      refine kb_ci (ws2 := (w_MO dA a q0 (some (ba 0)) (ta 0) g3 g4 g5 g6 g7 g8 g9 g10 g11 g12 g13 g14 g15 g16 g17 g18 z0 ++ (w_Tape dA ta y_tape ++ (w_Bus dA ba z2)))) (kb_rV (n := 1) (As := [.ref (dA (100 + 8))]) (rest := []) hx hb hml hown hK (c_X12_isWord l D dA H.size a q0 (some (ba 0)) (ta 0) g3 g4 g5 g6 g7 g8 g9 g10 g11 g12 g13 g14 g15 g16 g17 g18 z0 8 (by decide) r11 hc11) ⟨ww_6_213, ww_6_210, ww_6_212, ws_51, ww_1_12, rfl, by decide, by decide⟩ rfl rfl (by decide +kernel) ⟨Nat.le_of_ble_eq_true rfl, Nat.le_of_ble_eq_true rfl⟩ hP hD hS hA hE [0] rfl (by decide) 0 rfl rfl rfl hl.1 rfl (Nat.le_of_ble_eq_true rfl) dX12_readOne_121 ⟨Nat.le_of_ble_eq_true rfl, Nat.le_of_ble_eq_true rfl⟩) hP hD hS hA [0] [1, 2, 3, 4, 5, 6, 7, 8, 9, 10, 11, 12, 13, 14, 15, 16, 17] [17, 0, 1, 2, 3, 4, 5, 6, 7, 8, 9, 10, 11, 12, 13, 14, 15, 16] rfl rfl (by decide) (by decide) rfl (by decide) (fun H locs hP hD hS => ?_)
      refine lv_if_eq (tgt := 131) hx hb dX12_readOne_124 (by decide) (fun c_12 => ?_) (fun c_12 => ?_)
      · rw [if_pos c_12] at hf
        refine lv_iconst (v := (-1 : Int32)) hx hb dX12_readOne_131 (by decide) ?_
        exact B_132 _ _ _ _ _ _ _ hf hP hD hS (lv_sub hl [0, 1] rfl)
      · rw [if_neg c_12] at hf
        refine lv_iconst (v := (1 : Int32)) hx hb dX12_readOne_127 (by decide) ?_
        refine lv_goto (tgt := 132) hx hb dX12_readOne_128 (by decide) ?_
        exact B_132 _ _ _ _ _ _ _ hf hP hD hS (lv_sub hl [0, 1] rfl)
    · rw [if_neg c_10] at hf
      refine lv_iconst (v := (0 : Int32)) hx hb dX12_readOne_113 (by decide) ?_
      refine lv_goto (tgt := 132) hx hb dX12_readOne_114 (by decide) ?_
      exact B_132 _ _ _ _ _ _ _ hf hP hD hS (lv_sub hl [0, 1] rfl)
  have B_96 : ∀ (v1 : Int32) (z0 : MOT) (z2 : BusT) (H : Heap) (locs : List Loc) (ls : Array Slot), f_X12_readOne_b96 y_tape v1 z0 z2 = some (u0, u2) → va_P D vwCl (w_MO dA a q0 (some (ba 0)) (ta 0) g3 g4 g5 g6 g7 g8 g9 g10 g11 g12 g13 g14 g15 g16 g17 g18 z0 ++ (w_Tape dA ta y_tape ++ (w_Bus dA ba z2))) H → va_D A (w_MO dA a q0 (some (ba 0)) (ta 0) g3 g4 g5 g6 g7 g8 g9 g10 g11 g12 g13 g14 g15 g16 g17 g18 z0 ++ (w_Tape dA ta y_tape ++ (w_Bus dA ba z2))) → va_S A s.heap H locs → lv_has ls 3 [(0, .ref (a 0)), (1, .int v1)] → W p l e ({ frames := 8, cells := 0, slots := 0, locals := 173 } : Room) s m ([.ref (a 0)] : List Value).toArray below meth c H locs 0 0 Q (F0 m 96 ls []) := by
    intro v1 z0 z2 H locs ls hf hP hD hS hl
    rw [f_X12_readOne_b96] at hf
    refine lv_aload_n hx hb dX12_readOne_96 rfl (lv_at hl 0 rfl) ?_
    refine kb_ldcwS (tx := "sun") (q := dA (100 + 6)) hx hb hown (hE.2.2.2 ("BusSeatsModel", 272, "sun", 6) (by decide)) dX12_readOne_97 ?_
    obtain ⟨r8, hc8, hf⟩ := kb_bind hf
    refine kb_cv (ws2 := (w_MO dA a q0 (some (ba 0)) (ta 0) g3 g4 g5 g6 g7 g8 g9 g10 g11 g12 g13 g14 g15 g16 g17 g18 r8 ++ (w_Tape dA ta y_tape ++ (w_Bus dA ba z2)))) (kb_rV (n := 1) (As := [.ref (dA (100 + 6))]) (rest := []) hx hb hml hown hK (c_X12_needs l D dA H.size a ta q0 (some (ba 0)) g3 g4 g5 g6 g7 g8 g9 g10 g11 g12 g13 g14 g15 g16 g17 g18 z0 y_tape 6 (by decide) r8 hc8) ⟨ww_6_235, ww_6_232, ww_6_234, ws_55, ww_1_12, rfl, by decide, by decide⟩ rfl rfl (by decide +kernel) ⟨Nat.le_of_ble_eq_true rfl, Nat.le_of_ble_eq_true rfl⟩ hP hD hS hA hE [0, 1] rfl (by decide) 0 rfl rfl rfl hl.1 rfl (Nat.le_of_ble_eq_true rfl) dX12_readOne_100 ⟨Nat.le_of_ble_eq_true rfl, Nat.le_of_ble_eq_true rfl⟩) hP hD hS hA [0, 1] [2, 3, 4, 5, 6, 7, 8, 9, 10, 11, 12, 13, 14, 15, 16, 17] [16, 17, 0, 1, 2, 3, 4, 5, 6, 7, 8, 9, 10, 11, 12, 13, 14, 15] rfl rfl (by decide) (by decide) rfl (by decide) (fun H locs hP hD hS => ?_)
    exact B_103 _ _ _ _ _ _ hf hP hD hS (lv_sub hl [0, 1] rfl)
  have B_79 : ∀ (v1 : Int32) (z0 : MOT) (z2 : BusT) (H : Heap) (locs : List Loc) (ls : Array Slot), f_X12_readOne_b79 y_tape v1 z0 z2 = some (u0, u2) → va_P D vwCl (w_MO dA a q0 (some (ba 0)) (ta 0) g3 g4 g5 g6 g7 g8 g9 g10 g11 g12 g13 g14 g15 g16 g17 g18 z0 ++ (w_Tape dA ta y_tape ++ (w_Bus dA ba z2))) H → va_D A (w_MO dA a q0 (some (ba 0)) (ta 0) g3 g4 g5 g6 g7 g8 g9 g10 g11 g12 g13 g14 g15 g16 g17 g18 z0 ++ (w_Tape dA ta y_tape ++ (w_Bus dA ba z2))) → va_S A s.heap H locs → lv_has ls 3 [(0, .ref (a 0)), (1, .int v1)] → W p l e ({ frames := 8, cells := 0, slots := 0, locals := 173 } : Room) s m ([.ref (a 0)] : List Value).toArray below meth c H locs 0 0 Q (F0 m 79 ls []) := by
    intro v1 z0 z2 H locs ls hf hP hD hS hl
    rw [f_X12_readOne_b79] at hf
    refine lv_aload_n hx hb dX12_readOne_79 rfl (lv_at hl 0 rfl) ?_
    refine va_get (D := D) (ci := 12) (v := .ref (ba 0)) (C := RX12) (T := TX12) (N := 35) hx hb hts kb_inX12 hown hK.1 hP 0 rfl rfl 4 (by decide) (hK.2.w ww_5_204 rfl _) (fun _ h9 => h9) rfl dX12_readOne_80 ?_
    refine lv_aload_n hx hb dX12_readOne_83 rfl (lv_at hl 0 rfl) ?_
    refine kb_ldcwS (tx := "rise") (q := dA (100 + 5)) hx hb hown (hE.2.2.2 ("BusSeatsModel", 268, "rise", 5) (by decide)) dX12_readOne_84 ?_
    refine lv_iconst (v := (0 : Int32)) hx hb dX12_readOne_87 (by decide) ?_
    refine lv_bipush (v := (9 : Int32)) hx hb dX12_readOne_88 (by decide) ?_
    obtain ⟨r7, hc7, hf⟩ := kb_bind hf
    refine kb_ci (ws2 := (w_MO dA a q0 (some (ba 0)) (ta 0) g3 g4 g5 g6 g7 g8 g9 g10 g11 g12 g13 g14 g15 g16 g17 g18 r7.2 ++ (w_Tape dA ta y_tape ++ (w_Bus dA ba z2)))) (kb_rV (n := 3) (As := [.ref (dA (100 + 5)), .int (0 : Int32), .int (9 : Int32)]) (rest := [.ref (ba 0)]) hx hb hml hown hK (c_X12_readPart l D dA H.size a ta q0 (some (ba 0)) g3 g4 g5 g6 g7 g8 g9 g10 g11 g12 g13 g14 g15 g16 g17 g18 z0 y_tape 5 (by decide) (0 : Int32) (9 : Int32) r7.1 r7.2 hc7) ⟨ww_6_231, ww_6_228, ww_6_230, ws_54, ww_1_12, rfl, by decide, by decide⟩ rfl rfl (by decide +kernel) ⟨Nat.le_of_ble_eq_true rfl, Nat.le_of_ble_eq_true rfl⟩ hP hD hS hA hE [0, 1] rfl (by decide) 0 rfl rfl rfl hl.1 rfl (Nat.le_of_ble_eq_true rfl) dX12_readOne_90 ⟨Nat.le_of_ble_eq_true rfl, Nat.le_of_ble_eq_true rfl⟩) hP hD hS hA [0, 1] [2, 3, 4, 5, 6, 7, 8, 9, 10, 11, 12, 13, 14, 15, 16, 17] [16, 17, 0, 1, 2, 3, 4, 5, 6, 7, 8, 9, 10, 11, 12, 13, 14, 15] rfl rfl (by decide) (by decide) rfl (by decide) (fun H locs hP hD hS => ?_)
    refine va_putN (D := D) (ci := 11) (v := .int r7.1) (ty := .int) (C := RX11) (T := TX11) (N := 26) hx hb hts kb_inX11 tyX11 tyX11_ok nmX11 hown hK.1 hP hD hS 2 rfl rfl 4 (by decide) (hK.2.nb ww_6_93 rfl rfl _) (fun _ h9 => h9) rfl (by decide +kernel) rfl rfl (Nat.le_of_ble_eq_true rfl) dX12_readOne_93 (fun H locs hP hD hS => ?_)
    have hP : va_P D vwCl (w_MO dA a q0 (some (ba 0)) (ta 0) g3 g4 g5 g6 g7 g8 g9 g10 g11 g12 g13 g14 g15 g16 g17 g18 r7.2 ++ (w_Tape dA ta y_tape ++ (w_Bus dA ba (bu_set_rise z2 r7.1)))) H := hP
    have hD : va_D A (w_MO dA a q0 (some (ba 0)) (ta 0) g3 g4 g5 g6 g7 g8 g9 g10 g11 g12 g13 g14 g15 g16 g17 g18 r7.2 ++ (w_Tape dA ta y_tape ++ (w_Bus dA ba (bu_set_rise z2 r7.1)))) := hD
    exact B_96 _ _ _ _ _ _ hf hP hD hS (lv_sub hl [0, 1] rfl)
  have B_62 : ∀ (v1 : Int32) (z0 : MOT) (z2 : BusT) (H : Heap) (locs : List Loc) (ls : Array Slot), f_X12_readOne_b62 y_tape v1 z0 z2 = some (u0, u2) → va_P D vwCl (w_MO dA a q0 (some (ba 0)) (ta 0) g3 g4 g5 g6 g7 g8 g9 g10 g11 g12 g13 g14 g15 g16 g17 g18 z0 ++ (w_Tape dA ta y_tape ++ (w_Bus dA ba z2))) H → va_D A (w_MO dA a q0 (some (ba 0)) (ta 0) g3 g4 g5 g6 g7 g8 g9 g10 g11 g12 g13 g14 g15 g16 g17 g18 z0 ++ (w_Tape dA ta y_tape ++ (w_Bus dA ba z2))) → va_S A s.heap H locs → lv_has ls 3 [(0, .ref (a 0)), (1, .int v1)] → W p l e ({ frames := 8, cells := 0, slots := 0, locals := 173 } : Room) s m ([.ref (a 0)] : List Value).toArray below meth c H locs 0 0 Q (F0 m 62 ls []) := by
    intro v1 z0 z2 H locs ls hf hP hD hS hl
    rw [f_X12_readOne_b62] at hf
    refine lv_aload_n hx hb dX12_readOne_62 rfl (lv_at hl 0 rfl) ?_
    refine va_get (D := D) (ci := 12) (v := .ref (ba 0)) (C := RX12) (T := TX12) (N := 35) hx hb hts kb_inX12 hown hK.1 hP 0 rfl rfl 4 (by decide) (hK.2.w ww_5_204 rfl _) (fun _ h9 => h9) rfl dX12_readOne_63 ?_
    refine lv_aload_n hx hb dX12_readOne_66 rfl (lv_at hl 0 rfl) ?_
    refine kb_ldcwS (tx := "pace") (q := dA (100 + 4)) hx hb hown (hE.2.2.2 ("BusSeatsModel", 264, "pace", 4) (by decide)) dX12_readOne_67 ?_
    refine lv_iconst (v := (1 : Int32)) hx hb dX12_readOne_70 (by decide) ?_
    refine lv_bipush (v := (9 : Int32)) hx hb dX12_readOne_71 (by decide) ?_
    obtain ⟨r6, hc6, hf⟩ := kb_bind hf
    refine kb_ci (ws2 := (w_MO dA a q0 (some (ba 0)) (ta 0) g3 g4 g5 g6 g7 g8 g9 g10 g11 g12 g13 g14 g15 g16 g17 g18 r6.2 ++ (w_Tape dA ta y_tape ++ (w_Bus dA ba z2)))) (kb_rV (n := 3) (As := [.ref (dA (100 + 4)), .int (1 : Int32), .int (9 : Int32)]) (rest := [.ref (ba 0)]) hx hb hml hown hK (c_X12_readPart l D dA H.size a ta q0 (some (ba 0)) g3 g4 g5 g6 g7 g8 g9 g10 g11 g12 g13 g14 g15 g16 g17 g18 z0 y_tape 4 (by decide) (1 : Int32) (9 : Int32) r6.1 r6.2 hc6) ⟨ww_6_231, ww_6_228, ww_6_230, ws_54, ww_1_12, rfl, by decide, by decide⟩ rfl rfl (by decide +kernel) ⟨Nat.le_of_ble_eq_true rfl, Nat.le_of_ble_eq_true rfl⟩ hP hD hS hA hE [0, 1] rfl (by decide) 0 rfl rfl rfl hl.1 rfl (Nat.le_of_ble_eq_true rfl) dX12_readOne_73 ⟨Nat.le_of_ble_eq_true rfl, Nat.le_of_ble_eq_true rfl⟩) hP hD hS hA [0, 1] [2, 3, 4, 5, 6, 7, 8, 9, 10, 11, 12, 13, 14, 15, 16, 17] [16, 17, 0, 1, 2, 3, 4, 5, 6, 7, 8, 9, 10, 11, 12, 13, 14, 15] rfl rfl (by decide) (by decide) rfl (by decide) (fun H locs hP hD hS => ?_)
    refine va_putN (D := D) (ci := 11) (v := .int r6.1) (ty := .int) (C := RX11) (T := TX11) (N := 26) hx hb hts kb_inX11 tyX11 tyX11_ok nmX11 hown hK.1 hP hD hS 2 rfl rfl 3 (by decide) (hK.2.nb ww_6_92 rfl rfl _) (fun _ h9 => h9) rfl (by decide +kernel) rfl rfl (Nat.le_of_ble_eq_true rfl) dX12_readOne_76 (fun H locs hP hD hS => ?_)
    have hP : va_P D vwCl (w_MO dA a q0 (some (ba 0)) (ta 0) g3 g4 g5 g6 g7 g8 g9 g10 g11 g12 g13 g14 g15 g16 g17 g18 r6.2 ++ (w_Tape dA ta y_tape ++ (w_Bus dA ba (bu_set_pace z2 r6.1)))) H := hP
    have hD : va_D A (w_MO dA a q0 (some (ba 0)) (ta 0) g3 g4 g5 g6 g7 g8 g9 g10 g11 g12 g13 g14 g15 g16 g17 g18 r6.2 ++ (w_Tape dA ta y_tape ++ (w_Bus dA ba (bu_set_pace z2 r6.1)))) := hD
    exact B_79 _ _ _ _ _ _ hf hP hD hS (lv_sub hl [0, 1] rfl)
  have B_44 : ∀ (v1 : Int32) (z0 : MOT) (z2 : BusT) (H : Heap) (locs : List Loc) (ls : Array Slot), f_X12_readOne_b44 y_tape v1 z0 z2 = some (u0, u2) → va_P D vwCl (w_MO dA a q0 (some (ba 0)) (ta 0) g3 g4 g5 g6 g7 g8 g9 g10 g11 g12 g13 g14 g15 g16 g17 g18 z0 ++ (w_Tape dA ta y_tape ++ (w_Bus dA ba z2))) H → va_D A (w_MO dA a q0 (some (ba 0)) (ta 0) g3 g4 g5 g6 g7 g8 g9 g10 g11 g12 g13 g14 g15 g16 g17 g18 z0 ++ (w_Tape dA ta y_tape ++ (w_Bus dA ba z2))) → va_S A s.heap H locs → lv_has ls 3 [(0, .ref (a 0)), (1, .int v1)] → W p l e ({ frames := 8, cells := 0, slots := 0, locals := 173 } : Room) s m ([.ref (a 0)] : List Value).toArray below meth c H locs 0 0 Q (F0 m 44 ls []) := by
    intro v1 z0 z2 H locs ls hf hP hD hS hl
    rw [f_X12_readOne_b44] at hf
    refine lv_aload_n hx hb dX12_readOne_44 rfl (lv_at hl 0 rfl) ?_
    refine va_get (D := D) (ci := 12) (v := .ref (ba 0)) (C := RX12) (T := TX12) (N := 35) hx hb hts kb_inX12 hown hK.1 hP 0 rfl rfl 4 (by decide) (hK.2.w ww_5_204 rfl _) (fun _ h9 => h9) rfl dX12_readOne_45 ?_
    refine lv_aload_n hx hb dX12_readOne_48 rfl (lv_at hl 0 rfl) ?_
    refine kb_ldcwS (tx := "door") (q := dA (100 + 3)) hx hb hown (hE.2.2.2 ("BusSeatsModel", 260, "door", 3) (by decide)) dX12_readOne_49 ?_
    refine lv_iconst (v := (0 : Int32)) hx hb dX12_readOne_52 (by decide) ?_
    refine lv_iload_n hx hb dX12_readOne_53 rfl (lv_at hl 1 rfl) ?_
    refine lv_iconst (v := (1 : Int32)) hx hb dX12_readOne_54 (by decide) ?_
    refine lv_isub hx hb dX12_readOne_55 ?_
    obtain ⟨r5, hc5, hf⟩ := kb_bind hf
    refine kb_ci (ws2 := (w_MO dA a q0 (some (ba 0)) (ta 0) g3 g4 g5 g6 g7 g8 g9 g10 g11 g12 g13 g14 g15 g16 g17 g18 r5.2 ++ (w_Tape dA ta y_tape ++ (w_Bus dA ba z2)))) (kb_rV (n := 3) (As := [.ref (dA (100 + 3)), .int (0 : Int32), .int (v1 - (1 : Int32))]) (rest := [.ref (ba 0)]) hx hb hml hown hK (c_X12_readPart l D dA H.size a ta q0 (some (ba 0)) g3 g4 g5 g6 g7 g8 g9 g10 g11 g12 g13 g14 g15 g16 g17 g18 z0 y_tape 3 (by decide) (0 : Int32) (v1 - (1 : Int32)) r5.1 r5.2 hc5) ⟨ww_6_231, ww_6_228, ww_6_230, ws_54, ww_1_12, rfl, by decide, by decide⟩ rfl rfl (by decide +kernel) ⟨Nat.le_of_ble_eq_true rfl, Nat.le_of_ble_eq_true rfl⟩ hP hD hS hA hE [0, 1] rfl (by decide) 0 rfl rfl rfl hl.1 rfl (Nat.le_of_ble_eq_true rfl) dX12_readOne_56 ⟨Nat.le_of_ble_eq_true rfl, Nat.le_of_ble_eq_true rfl⟩) hP hD hS hA [0, 1] [2, 3, 4, 5, 6, 7, 8, 9, 10, 11, 12, 13, 14, 15, 16, 17] [16, 17, 0, 1, 2, 3, 4, 5, 6, 7, 8, 9, 10, 11, 12, 13, 14, 15] rfl rfl (by decide) (by decide) rfl (by decide) (fun H locs hP hD hS => ?_)
    refine va_putN (D := D) (ci := 11) (v := .int r5.1) (ty := .int) (C := RX11) (T := TX11) (N := 26) hx hb hts kb_inX11 tyX11 tyX11_ok nmX11 hown hK.1 hP hD hS 2 rfl rfl 2 (by decide) (hK.2.nb ww_6_91 rfl rfl _) (fun _ h9 => h9) rfl (by decide +kernel) rfl rfl (Nat.le_of_ble_eq_true rfl) dX12_readOne_59 (fun H locs hP hD hS => ?_)
    have hP : va_P D vwCl (w_MO dA a q0 (some (ba 0)) (ta 0) g3 g4 g5 g6 g7 g8 g9 g10 g11 g12 g13 g14 g15 g16 g17 g18 r5.2 ++ (w_Tape dA ta y_tape ++ (w_Bus dA ba (bu_set_door z2 r5.1)))) H := hP
    have hD : va_D A (w_MO dA a q0 (some (ba 0)) (ta 0) g3 g4 g5 g6 g7 g8 g9 g10 g11 g12 g13 g14 g15 g16 g17 g18 r5.2 ++ (w_Tape dA ta y_tape ++ (w_Bus dA ba (bu_set_door z2 r5.1)))) := hD
    exact B_62 _ _ _ _ _ _ hf hP hD hS (lv_sub hl [0, 1] rfl)
  have B_28 : ∀ (v1 : Int32) (z0 : MOT) (z2 : BusT) (H : Heap) (locs : List Loc) (ls : Array Slot), f_X12_readOne_b28 y_tape v1 z0 z2 = some (u0, u2) → va_P D vwCl (w_MO dA a q0 (some (ba 0)) (ta 0) g3 g4 g5 g6 g7 g8 g9 g10 g11 g12 g13 g14 g15 g16 g17 g18 z0 ++ (w_Tape dA ta y_tape ++ (w_Bus dA ba z2))) H → va_D A (w_MO dA a q0 (some (ba 0)) (ta 0) g3 g4 g5 g6 g7 g8 g9 g10 g11 g12 g13 g14 g15 g16 g17 g18 z0 ++ (w_Tape dA ta y_tape ++ (w_Bus dA ba z2))) → va_S A s.heap H locs → lv_has ls 3 [(0, .ref (a 0)), (1, .int v1)] → W p l e ({ frames := 8, cells := 0, slots := 0, locals := 173 } : Room) s m ([.ref (a 0)] : List Value).toArray below meth c H locs 0 0 Q (F0 m 28 ls []) := by
    intro v1 z0 z2 H locs ls hf hP hD hS hl
    rw [f_X12_readOne_b28] at hf
    refine lv_aload_n hx hb dX12_readOne_28 rfl (lv_at hl 0 rfl) ?_
    refine va_get (D := D) (ci := 12) (v := .ref (ba 0)) (C := RX12) (T := TX12) (N := 35) hx hb hts kb_inX12 hown hK.1 hP 0 rfl rfl 4 (by decide) (hK.2.w ww_5_204 rfl _) (fun _ h9 => h9) rfl dX12_readOne_29 ?_
    refine lv_aload_n hx hb dX12_readOne_32 rfl (lv_at hl 0 rfl) ?_
    refine kb_ldcwS (tx := "form") (q := dA (100 + 2)) hx hb hown (hE.2.2.2 ("BusSeatsModel", 256, "form", 2) (by decide)) dX12_readOne_33 ?_
    refine lv_iconst (v := (0 : Int32)) hx hb dX12_readOne_36 (by decide) ?_
    refine lv_iconst (v := (2 : Int32)) hx hb dX12_readOne_37 (by decide) ?_
    obtain ⟨r4, hc4, hf⟩ := kb_bind hf
    refine kb_ci (ws2 := (w_MO dA a q0 (some (ba 0)) (ta 0) g3 g4 g5 g6 g7 g8 g9 g10 g11 g12 g13 g14 g15 g16 g17 g18 r4.2 ++ (w_Tape dA ta y_tape ++ (w_Bus dA ba z2)))) (kb_rV (n := 3) (As := [.ref (dA (100 + 2)), .int (0 : Int32), .int (2 : Int32)]) (rest := [.ref (ba 0)]) hx hb hml hown hK (c_X12_readPart l D dA H.size a ta q0 (some (ba 0)) g3 g4 g5 g6 g7 g8 g9 g10 g11 g12 g13 g14 g15 g16 g17 g18 z0 y_tape 2 (by decide) (0 : Int32) (2 : Int32) r4.1 r4.2 hc4) ⟨ww_6_231, ww_6_228, ww_6_230, ws_54, ww_1_12, rfl, by decide, by decide⟩ rfl rfl (by decide +kernel) ⟨Nat.le_of_ble_eq_true rfl, Nat.le_of_ble_eq_true rfl⟩ hP hD hS hA hE [0, 1] rfl (by decide) 0 rfl rfl rfl hl.1 rfl (Nat.le_of_ble_eq_true rfl) dX12_readOne_38 ⟨Nat.le_of_ble_eq_true rfl, Nat.le_of_ble_eq_true rfl⟩) hP hD hS hA [0, 1] [2, 3, 4, 5, 6, 7, 8, 9, 10, 11, 12, 13, 14, 15, 16, 17] [16, 17, 0, 1, 2, 3, 4, 5, 6, 7, 8, 9, 10, 11, 12, 13, 14, 15] rfl rfl (by decide) (by decide) rfl (by decide) (fun H locs hP hD hS => ?_)
    refine va_putN (D := D) (ci := 11) (v := .int r4.1) (ty := .int) (C := RX11) (T := TX11) (N := 26) hx hb hts kb_inX11 tyX11 tyX11_ok nmX11 hown hK.1 hP hD hS 2 rfl rfl 1 (by decide) (hK.2.nb ww_6_90 rfl rfl _) (fun _ h9 => h9) rfl (by decide +kernel) rfl rfl (Nat.le_of_ble_eq_true rfl) dX12_readOne_41 (fun H locs hP hD hS => ?_)
    have hP : va_P D vwCl (w_MO dA a q0 (some (ba 0)) (ta 0) g3 g4 g5 g6 g7 g8 g9 g10 g11 g12 g13 g14 g15 g16 g17 g18 r4.2 ++ (w_Tape dA ta y_tape ++ (w_Bus dA ba (bu_set_form z2 r4.1)))) H := hP
    have hD : va_D A (w_MO dA a q0 (some (ba 0)) (ta 0) g3 g4 g5 g6 g7 g8 g9 g10 g11 g12 g13 g14 g15 g16 g17 g18 r4.2 ++ (w_Tape dA ta y_tape ++ (w_Bus dA ba (bu_set_form z2 r4.1)))) := hD
    exact B_44 _ _ _ _ _ _ hf hP hD hS (lv_sub hl [0, 1] rfl)
  have B_19 : ∀ (z0 : MOT) (z2 : BusT) (H : Heap) (locs : List Loc) (ls : Array Slot), f_X12_readOne_b19 y_tape z0 z2 = some (u0, u2) → va_P D vwCl (w_MO dA a q0 (some (ba 0)) (ta 0) g3 g4 g5 g6 g7 g8 g9 g10 g11 g12 g13 g14 g15 g16 g17 g18 z0 ++ (w_Tape dA ta y_tape ++ (w_Bus dA ba z2))) H → va_D A (w_MO dA a q0 (some (ba 0)) (ta 0) g3 g4 g5 g6 g7 g8 g9 g10 g11 g12 g13 g14 g15 g16 g17 g18 z0 ++ (w_Tape dA ta y_tape ++ (w_Bus dA ba z2))) → va_S A s.heap H locs → lv_has ls 3 [(0, .ref (a 0))] → W p l e ({ frames := 8, cells := 0, slots := 0, locals := 173 } : Room) s m ([.ref (a 0)] : List Value).toArray below meth c H locs 0 0 Q (F0 m 19 ls []) := by
    intro z0 z2 H locs ls hf hP hD hS hl
    rw [f_X12_readOne_b19] at hf
    refine lv_aload_n hx hb dX12_readOne_19 rfl (lv_at hl 0 rfl) ?_
    refine va_ldcS (tx := "rows") (q := dA (100 + 1)) hx hb hown (hE.2.2.2 ("BusSeatsModel", 251, "rows", 1) (by decide)) dX12_readOne_20 ?_
    refine lv_iconst (v := (1 : Int32)) hx hb dX12_readOne_22 (by decide) ?_
    refine lv_iconst (v := (5 : Int32)) hx hb dX12_readOne_23 (by decide) ?_
    obtain ⟨r3, hc3, hf⟩ := kb_bind hf
    refine kb_ci (ws2 := (w_MO dA a q0 (some (ba 0)) (ta 0) g3 g4 g5 g6 g7 g8 g9 g10 g11 g12 g13 g14 g15 g16 g17 g18 r3.2 ++ (w_Tape dA ta y_tape ++ (w_Bus dA ba z2)))) (kb_rV (n := 3) (As := [.ref (dA (100 + 1)), .int (1 : Int32), .int (5 : Int32)]) (rest := []) hx hb hml hown hK (c_X12_readPart l D dA H.size a ta q0 (some (ba 0)) g3 g4 g5 g6 g7 g8 g9 g10 g11 g12 g13 g14 g15 g16 g17 g18 z0 y_tape 1 (by decide) (1 : Int32) (5 : Int32) r3.1 r3.2 hc3) ⟨ww_6_231, ww_6_228, ww_6_230, ws_54, ww_1_12, rfl, by decide, by decide⟩ rfl rfl (by decide +kernel) ⟨Nat.le_of_ble_eq_true rfl, Nat.le_of_ble_eq_true rfl⟩ hP hD hS hA hE [0, 1] rfl (by decide) 0 rfl rfl rfl hl.1 rfl (Nat.le_of_ble_eq_true rfl) dX12_readOne_24 ⟨Nat.le_of_ble_eq_true rfl, Nat.le_of_ble_eq_true rfl⟩) hP hD hS hA [0, 1] [2, 3, 4, 5, 6, 7, 8, 9, 10, 11, 12, 13, 14, 15, 16, 17] [16, 17, 0, 1, 2, 3, 4, 5, 6, 7, 8, 9, 10, 11, 12, 13, 14, 15] rfl rfl (by decide) (by decide) rfl (by decide) (fun H locs hP hD hS => ?_)
    refine lv_istore_n (lv' := [(1, .int r3.1), (0, .ref (a 0))]) hx hb dX12_readOne_27 rfl hl (by decide) rfl (fun ls hl => ?_)
    exact B_28 _ _ _ _ _ _ hf hP hD hS (lv_sub hl [1, 0] rfl)
  have B_15 : ∀ (z0 : MOT) (z2 : BusT) (H : Heap) (locs : List Loc) (ls : Array Slot), f_X12_readOne_b15 y_tape z0 z2 = some (u0, u2) → va_P D vwCl (w_MO dA a q0 (some (ba 0)) (ta 0) g3 g4 g5 g6 g7 g8 g9 g10 g11 g12 g13 g14 g15 g16 g17 g18 z0 ++ (w_Tape dA ta y_tape ++ (w_Bus dA ba z2))) H → va_D A (w_MO dA a q0 (some (ba 0)) (ta 0) g3 g4 g5 g6 g7 g8 g9 g10 g11 g12 g13 g14 g15 g16 g17 g18 z0 ++ (w_Tape dA ta y_tape ++ (w_Bus dA ba z2))) → va_S A s.heap H locs → lv_has ls 3 [(0, .ref (a 0))] → W p l e ({ frames := 8, cells := 0, slots := 0, locals := 173 } : Room) s m ([.ref (a 0)] : List Value).toArray below meth c H locs 0 0 Q (F0 m 15 ls []) := by
    intro z0 z2 H locs ls hf hP hD hS hl
    rw [f_X12_readOne_b15] at hf
    refine lv_aload_n hx hb dX12_readOne_15 rfl (lv_at hl 0 rfl) ?_
    obtain ⟨r2, hc2, hf⟩ := kb_bind hf
    refine kb_cv (ws2 := (w_MO dA a q0 (some (ba 0)) (ta 0) g3 g4 g5 g6 g7 g8 g9 g10 g11 g12 g13 g14 g15 g16 g17 g18 r2 ++ (w_Tape dA ta y_tape ++ (w_Bus dA ba z2)))) (kb_rV (n := 0) (As := []) (rest := []) hx hb hml hown hK (c_X12_goesOn l D dA H.size a ta q0 (some (ba 0)) g3 g4 g5 g6 g7 g8 g9 g10 g11 g12 g13 g14 g15 g16 g17 g18 z0 y_tape r2 hc2) ⟨ww_6_189, ww_6_186, ww_6_188, ws_47, ww_1_12, rfl, by decide, by decide⟩ rfl rfl (by decide +kernel) ⟨Nat.le_of_ble_eq_true rfl, Nat.le_of_ble_eq_true rfl⟩ hP hD hS hA hE [0, 1] rfl (by decide) 0 rfl rfl rfl hl.1 rfl (Nat.le_of_ble_eq_true rfl) dX12_readOne_16 ⟨Nat.le_of_ble_eq_true rfl, Nat.le_of_ble_eq_true rfl⟩) hP hD hS hA [0, 1] [2, 3, 4, 5, 6, 7, 8, 9, 10, 11, 12, 13, 14, 15, 16, 17] [16, 17, 0, 1, 2, 3, 4, 5, 6, 7, 8, 9, 10, 11, 12, 13, 14, 15] rfl rfl (by decide) (by decide) rfl (by decide) (fun H locs hP hD hS => ?_)
    exact B_19 _ _ _ _ _ hf hP hD hS (lv_sub hl [0] rfl)
  have E0 : ∀ (H : Heap) (locs : List Loc), va_P D vwCl (w_MO dA a q0 (some (ba 0)) (ta 0) g3 g4 g5 g6 g7 g8 g9 g10 g11 g12 g13 g14 g15 g16 g17 g18 mo ++ (w_Tape dA ta y_tape ++ (w_Bus dA ba bu))) H → va_D A (w_MO dA a q0 (some (ba 0)) (ta 0) g3 g4 g5 g6 g7 g8 g9 g10 g11 g12 g13 g14 g15 g16 g17 g18 mo ++ (w_Tape dA ta y_tape ++ (w_Bus dA ba bu))) → va_S A s.heap H locs → W p l e ({ frames := 8, cells := 0, slots := 0, locals := 173 } : Room) s m ([.ref (a 0)] : List Value).toArray below meth c H locs 0 0 Q (F0 m 0 ls []) := by
    intro H locs hP hD hS
    rw [f_X12_readOne] at hf
    refine lv_aload_n hx hb dX12_readOne_0 rfl (lv_at hl 0 rfl) ?_
    refine va_get (D := D) (ci := 12) (v := .ref (ba 0)) (C := RX12) (T := TX12) (N := 35) hx hb hts kb_inX12 hown hK.1 hP 0 rfl rfl 4 (by decide) (hK.2.w ww_5_204 rfl _) (fun _ h9 => h9) rfl dX12_readOne_1 ?_
    refine va_getN (D := D) (ci := 11) (v := .int (bu_rows bu)) (C := RX11) (T := TX11) (N := 26) hx hb hts kb_inX11 hown hK.1 hP 2 rfl rfl 0 (by decide) (hK.2.nb ww_6_89 rfl rfl _) (fun _ h9 => h9) rfl dX12_readOne_4 ?_
    refine lv_if_le (tgt := 15) hx hb dX12_readOne_7 (by decide) (fun c_1 => ?_) (fun c_1 => ?_)
    · rw [if_pos c_1] at hf
      exact B_15 _ _ _ _ _ hf hP hD hS (lv_sub hl [0] rfl)
    · rw [if_neg c_1] at hf
      refine lv_aload_n hx hb dX12_readOne_10 rfl (lv_at hl 0 rfl) ?_
      refine lv_iconst (v := (3 : Int32)) hx hb dX12_readOne_11 (by decide) ?_
      obtain ⟨r19, hc19, hf⟩ := kb_bind hf
      refine kb_cv (ws2 := (w_MO dA a q0 (some (ba 0)) (ta 0) g3 g4 g5 g6 g7 g8 g9 g10 g11 g12 g13 g14 g15 g16 g17 g18 r19 ++ (w_Tape dA ta y_tape ++ (w_Bus dA ba bu)))) (kb_rV (n := 1) (As := [.int (3 : Int32)]) (rest := []) hx hb hml hown hK (c_X12_wrong l D dA H.size a q0 (some (ba 0)) (ta 0) g3 g4 g5 g6 g7 g8 g9 g10 g11 g12 g13 g14 g15 g16 g17 g18 mo (3 : Int32) r19 hc19) ⟨ww_6_226, ww_6_223, ww_6_225, ws_53, ww_1_12, rfl, by decide, by decide⟩ rfl rfl (by decide +kernel) ⟨Nat.le_of_ble_eq_true rfl, Nat.le_of_ble_eq_true rfl⟩ hP hD hS hA hE [0] rfl (by decide) 0 rfl rfl rfl hl.1 rfl (Nat.le_of_ble_eq_true rfl) dX12_readOne_12 ⟨Nat.le_of_ble_eq_true rfl, Nat.le_of_ble_eq_true rfl⟩) hP hD hS hA [0] [1, 2, 3, 4, 5, 6, 7, 8, 9, 10, 11, 12, 13, 14, 15, 16, 17] [17, 0, 1, 2, 3, 4, 5, 6, 7, 8, 9, 10, 11, 12, 13, 14, 15, 16] rfl rfl (by decide) (by decide) rfl (by decide) (fun H locs hP hD hS => ?_)
      exact B_15 _ _ _ _ _ hf hP hD hS (lv_sub hl [0] rfl)
  exact E0 _ _ hP hD hS

noncomputable def f_X12_readRule_b199 (y_tape : TapeT) (z0 : MOT) (z2 : BusT) : Option (MOT × BusT) := some (z0, z2)
noncomputable def f_X12_readRule_b186 (y_tape : TapeT) (z0 : MOT) (z2 : BusT) : Option (MOT × BusT) := f_X12_readRule_b199 y_tape z0 (bu_set_rules z2 ((bu_rules z2) + (1 : Int32)))
noncomputable def f_X12_readRule_b161 (y_tape : TapeT) (v2 : Int32) (z0 : MOT) (z2 : BusT) : Option (MOT × BusT) := (if (mo_sort z0) = (5 : Int32) then some (z0, z2) else if kb_in? (bu_rules z2) 4 then f_X12_readRule_b186 y_tape z0 (bu_set_waysMany z2 (upd (bu_waysMany z2) ((bu_rules z2)).toNatClampNeg v2)) else none)
noncomputable def f_X12_readRule_b158 (y_tape : TapeT) (k28 : Int32 → Int32 → MOT → BusT → Option (MOT × BusT)) (v1 : Int32) (v2 : Int32) (z0 : MOT) (z2 : BusT) : Option (MOT × BusT) := k28 v1 v2 z0 z2
noncomputable def f_X12_readRule_b151 (y_tape : TapeT) (k28 : Int32 → Int32 → MOT → BusT → Option (MOT × BusT)) (v2 : Int32) (z0 : MOT) (z2 : BusT) : Option (MOT × BusT) := (f_X12_eatsSign z0 y_tape (44 : Int32)).bind fun r14 => f_X12_readRule_b158 y_tape k28 r14.1 v2 r14.2 z2
noncomputable def f_X12_readRule_b144 (y_tape : TapeT) (k28 : Int32 → Int32 → MOT → BusT → Option (MOT × BusT)) (v2 : Int32) (z0 : MOT) (z2 : BusT) : Option (MOT × BusT) := (f_X12_goesOn z0 y_tape).bind fun r13 => f_X12_readRule_b151 y_tape k28 (v2 + (1 : Int32)) r13 z2
noncomputable def f_X12_readRule_b115 (y_tape : TapeT) (k28 : Int32 → Int32 → MOT → BusT → Option (MOT × BusT)) (v2 : Int32) (v3 : Int32) (z0 : MOT) (z2 : BusT) : Option (MOT × BusT) := (if (mo_sort z0) = (5 : Int32) then some (z0, z2) else if kb_in? (((4 : Int32) * (bu_rules z2)) + v2) 16 then f_X12_readRule_b144 y_tape k28 v2 z0 (bu_set_way z2 (upd (bu_way z2) ((((4 : Int32) * (bu_rules z2)) + v2)).toNatClampNeg v3)) else none)
noncomputable def f_X12_readRule_b105 (y_tape : TapeT) (k28 : Int32 → Int32 → MOT → BusT → Option (MOT × BusT)) (v2 : Int32) (v3 : Int32) (z0 : MOT) (z2 : BusT) : Option (MOT × BusT) := (if v2 = (4 : Int32) then (f_X12_wrong z0 (5 : Int32)).bind fun r15 => f_X12_readRule_b115 y_tape k28 v2 v3 r15 z2 else f_X12_readRule_b115 y_tape k28 v2 v3 z0 z2)
noncomputable def f_X12_readRule_b99 (y_tape : TapeT) (k28 : Int32 → Int32 → MOT → BusT → Option (MOT × BusT)) (k58 : Int32 → Int32 → Int32 → MOT → BusT → Option (MOT × BusT)) (v2 : Int32) (v3 : Int32) (v4 : Int32) (z0 : MOT) (z2 : BusT) : Option (MOT × BusT) := k58 v2 v3 (v4 + (1 : Int32)) z0 z2
noncomputable def f_X12_readRule_b58 (y_tape : TapeT) (k28 : Int32 → Int32 → MOT → BusT → Option (MOT × BusT)) : Nat → Int32 → Int32 → Int32 → MOT → BusT → Option (MOT × BusT)
  | 0, _, _, _, _, _ => none
  | n + 1, v2, v3, v4, z0, z2 => (if v2 ≤ v4 then f_X12_readRule_b105 y_tape k28 v2 v3 z0 z2 else (if (4 : Int32) ≤ v4 then f_X12_readRule_b105 y_tape k28 v2 v3 z0 z2 else if kb_in? (((4 : Int32) * (bu_rules z2)) + v4) 16 then (if ((bu_way z2) ((((4 : Int32) * (bu_rules z2)) + v4)).toNatClampNeg) = v3 then (f_X12_wrong z0 (3 : Int32)).bind fun r19 => f_X12_readRule_b99 y_tape k28 (f_X12_readRule_b58 y_tape k28 n) v2 v3 v4 r19 z2 else f_X12_readRule_b58 y_tape k28 n v2 v3 (v4 + (1 : Int32)) z0 z2) else none))
noncomputable def f_X12_readRule_b55 (y_tape : TapeT) (k28 : Int32 → Int32 → MOT → BusT → Option (MOT × BusT)) (v2 : Int32) (v3 : Int32) (z0 : MOT) (z2 : BusT) : Option (MOT × BusT) := f_X12_readRule_b58 y_tape k28 4096 v2 v3 (0 : Int32) z0 z2
noncomputable def f_X12_readRule_b28 (y_tape : TapeT) : Nat → Int32 → Int32 → MOT → BusT → Option (MOT × BusT)
  | 0, _, _, _, _ => none
  | n + 1, v1, v2, z0, z2 => (if v1 = 0 then f_X12_readRule_b161 y_tape v2 z0 z2 else (if (mo_sort z0) = (5 : Int32) then f_X12_readRule_b161 y_tape v2 z0 z2 else (f_X12_wayNow z0).bind fun r7 => (if r7 = (-1 : Int32) then (f_X12_wrong z0 (1 : Int32)).bind fun r20 => f_X12_readRule_b55 y_tape (f_X12_readRule_b28 y_tape n) v2 r7 r20 z2 else f_X12_readRule_b55 y_tape (f_X12_readRule_b28 y_tape n) v2 r7 z0 z2)))
noncomputable def f_X12_readRule_b24 (y_tape : TapeT) (z0 : MOT) (z2 : BusT) : Option (MOT × BusT) := f_X12_readRule_b28 y_tape 4096 (1 : Int32) (0 : Int32) z0 z2
noncomputable def f_X12_readRule_b12 (y_tape : TapeT) (z0 : MOT) (z2 : BusT) : Option (MOT × BusT) := (f_X12_readFresh z0 y_tape z2 (0 : Int32) (bu_rules z2)).bind fun r2 => f_X12_readRule_b24 y_tape r2.1 r2.2
noncomputable def f_X12_readRule (mo : MOT) (y_tape : TapeT) (bu : BusT) : Option (MOT × BusT) := (f_X12_begins mo y_tape (bu_rules bu) (4 : Int32)).bind fun r1 => f_X12_readRule_b12 y_tape r1 bu
set_option maxHeartbeats 4000000 in
set_option maxRecDepth 100000 in
theorem c_X12_readRule (l : Launch) (D : va_G) (dA : Nat → ClassId) (sz : Nat) (a : Nat → Nat) (ta : Nat → Nat) (ba : Nat → Nat) (q0 : Option Nat) (g3 : Nat) (g4 : Nat) (g5 : Nat) (g6 : Nat) (g7 : Nat) (g8 : Nat) (g9 : Nat) (g10 : Nat) (g11 : Nat) (g12 : Nat) (g13 : Nat) (g14 : Nat) (g15 : Nat) (g16 : Nat) (g17 : Nat) (g18 : Nat) (mo : MOT) (y_tape : TapeT) (bu : BusT) (u0 : MOT) (u2 : BusT) (hf : f_X12_readRule mo y_tape bu = some (u0, u2)) : kb_Mv l yX12_readRule cX12_readRule 5 none ({ frames := 9, cells := 0, slots := 0, locals := 191 } : Room) D dA [.ref (a 0)] sz (w_MO dA a q0 (some (ba 0)) (ta 0) g3 g4 g5 g6 g7 g8 g9 g10 g11 g12 g13 g14 g15 g16 g17 g18 mo ++ (w_Tape dA ta y_tape ++ (w_Bus dA ba bu))) 0 0 (w_MO dA a q0 (some (ba 0)) (ta 0) g3 g4 g5 g6 g7 g8 g9 g10 g11 g12 g13 g14 g15 g16 g17 g18 u0 ++ (w_Tape dA ta y_tape ++ (w_Bus dA ba u2))) := by
  refine Met.ofW (cc := cX12_readRule) (maxL := 5) (ret := none) (by decide) rfl ?_
  intro p e s m args below meth c s₁ B hml hv
  obtain ⟨rfl, hsz, hP, hK, hD0, hE⟩ := hv
  have hx := B.exec
  have hb := B.bytes
  have hr := B.returns
  have hown : s.vm.findClass RX12 = some m.cls := findClass_of_methodNamed B.named
  have hlocks := B.notSynchronized
  have hts : ∀ w ∈ kb_gw, w.before ([.ref (a 0)] : List Value).toArray s = true := fun w hw => hK.2.1 w hw _
  subst hsz
  have hD := hD0.self (sz := s.heap.size)
  generalize hAe : va_A (w_MO dA a q0 (some (ba 0)) (ta 0) g3 g4 g5 g6 g7 g8 g9 g10 g11 g12 g13 g14 g15 g16 g17 g18 mo ++ (w_Tape dA ta y_tape ++ (w_Bus dA ba bu))) s.heap.size = A at hD hE ⊢
  have hA : ∀ q : Nat, s.heap.size ≤ q → A q := fun q h => by rw [← hAe]; exact Or.inr h
  have hS : va_S A s.heap s.heap [] := va_S.rf
  have hl := lv_entry ([.ref (a 0)]) (n := 5) (Nat.le_of_ble_eq_true rfl)
  rw [lg_entry_eq]
  generalize (lg_sl ([.ref (a 0)]) ++ List.replicate (5 - (lg_sl ([.ref (a 0)])).length) Slot.unset).toArray = ls at hl ⊢
  have hl : lv_has ls 5 [(0, .ref (a 0))] := hl
  generalize hQ : MQ below (va_Qv (fun (_ : Unit) => True) (kb_B D A (w_MO dA a q0 (some (ba 0)) (ta 0) g3 g4 g5 g6 g7 g8 g9 g10 g11 g12 g13 g14 g15 g16 g17 g18 u0 ++ (w_Tape dA ta y_tape ++ (w_Bus dA ba u2)))) A) ([.ref (a 0)] : List Value).toArray s 0 0 A = Q
  show W p l e ({ frames := 9, cells := 0, slots := 0, locals := 191 } : Room) s m ([.ref (a 0)] : List Value).toArray below meth c s.heap [] 0 0 Q (F0 m 0 ls [])
  have RET : ∀ (w0 : MOT) (w2 : BusT) (H : Heap) (locs : List Loc) (ls : Array Slot) (pc : Nat), some (w0, w2) = some (u0, u2) → va_P D vwCl (w_MO dA a q0 (some (ba 0)) (ta 0) g3 g4 g5 g6 g7 g8 g9 g10 g11 g12 g13 g14 g15 g16 g17 g18 w0 ++ (w_Tape dA ta y_tape ++ (w_Bus dA ba w2))) H → va_D A (w_MO dA a q0 (some (ba 0)) (ta 0) g3 g4 g5 g6 g7 g8 g9 g10 g11 g12 g13 g14 g15 g16 g17 g18 w0 ++ (w_Tape dA ta y_tape ++ (w_Bus dA ba w2))) → va_S A s.heap H locs → decode cX12_readRule pc = .ok (.return_, 1) → W p l e ({ frames := 9, cells := 0, slots := 0, locals := 191 } : Room) s m ([.ref (a 0)] : List Value).toArray below meth c H locs 0 0 Q (F0 m pc ls []) := by
    intro w0 w2 H locs ls pc hq hP hD hS hd
    cases hq
    rw [← hQ]
    exact W.vret hx hb hr (fun t ht hW => ⟨⟨(), rfl, trivial, by rw [ht]; exact hP, hD⟩, hS.F ht⟩) hS.2.2 hd
  have B_199 : ∀ (z0 : MOT) (z2 : BusT) (H : Heap) (locs : List Loc) (ls : Array Slot), f_X12_readRule_b199 y_tape z0 z2 = some (u0, u2) → va_P D vwCl (w_MO dA a q0 (some (ba 0)) (ta 0) g3 g4 g5 g6 g7 g8 g9 g10 g11 g12 g13 g14 g15 g16 g17 g18 z0 ++ (w_Tape dA ta y_tape ++ (w_Bus dA ba z2))) H → va_D A (w_MO dA a q0 (some (ba 0)) (ta 0) g3 g4 g5 g6 g7 g8 g9 g10 g11 g12 g13 g14 g15 g16 g17 g18 z0 ++ (w_Tape dA ta y_tape ++ (w_Bus dA ba z2))) → va_S A s.heap H locs → lv_has ls 5 [] → W p l e ({ frames := 9, cells := 0, slots := 0, locals := 191 } : Room) s m ([.ref (a 0)] : List Value).toArray below meth c H locs 0 0 Q (F0 m 199 ls []) := by
    intro z0 z2 H locs ls hf hP hD hS hl
    rw [f_X12_readRule_b199] at hf
    exact RET _ _ H _ ls 199 hf hP hD hS dX12_readRule_199
  have B_186 : ∀ (z0 : MOT) (z2 : BusT) (H : Heap) (locs : List Loc) (ls : Array Slot), f_X12_readRule_b186 y_tape z0 z2 = some (u0, u2) → va_P D vwCl (w_MO dA a q0 (some (ba 0)) (ta 0) g3 g4 g5 g6 g7 g8 g9 g10 g11 g12 g13 g14 g15 g16 g17 g18 z0 ++ (w_Tape dA ta y_tape ++ (w_Bus dA ba z2))) H → va_D A (w_MO dA a q0 (some (ba 0)) (ta 0) g3 g4 g5 g6 g7 g8 g9 g10 g11 g12 g13 g14 g15 g16 g17 g18 z0 ++ (w_Tape dA ta y_tape ++ (w_Bus dA ba z2))) → va_S A s.heap H locs → lv_has ls 5 [(0, .ref (a 0))] → W p l e ({ frames := 9, cells := 0, slots := 0, locals := 191 } : Room) s m ([.ref (a 0)] : List Value).toArray below meth c H locs 0 0 Q (F0 m 186 ls []) := by
    intro z0 z2 H locs ls hf hP hD hS hl
    rw [f_X12_readRule_b186] at hf
    refine lv_aload_n hx hb dX12_readRule_186 rfl (lv_at hl 0 rfl) ?_
    refine va_get (D := D) (ci := 12) (v := .ref (ba 0)) (C := RX12) (T := TX12) (N := 35) hx hb hts kb_inX12 hown hK.1 hP 0 rfl rfl 4 (by decide) (hK.2.w ww_5_204 rfl _) (fun _ h9 => h9) rfl dX12_readRule_187 ?_
    refine lv_dup hx hb dX12_readRule_190 rfl ?_
    refine va_getN (D := D) (ci := 11) (v := .int (bu_rules z2)) (C := RX11) (T := TX11) (N := 26) hx hb hts kb_inX11 hown hK.1 hP 2 rfl rfl 6 (by decide) (hK.2.nb ww_6_95 rfl rfl _) (fun _ h9 => h9) rfl dX12_readRule_191 ?_
    refine lv_iconst (v := (1 : Int32)) hx hb dX12_readRule_194 (by decide) ?_
    refine lv_iadd hx hb dX12_readRule_195 ?_
    refine va_putN (D := D) (ci := 11) (v := .int ((bu_rules z2) + (1 : Int32))) (ty := .int) (C := RX11) (T := TX11) (N := 26) hx hb hts kb_inX11 tyX11 tyX11_ok nmX11 hown hK.1 hP hD hS 2 rfl rfl 6 (by decide) (hK.2.nb ww_6_95 rfl rfl _) (fun _ h9 => h9) rfl (by decide +kernel) rfl rfl (Nat.le_of_ble_eq_true rfl) dX12_readRule_196 (fun H locs hP hD hS => ?_)
    have hP : va_P D vwCl (w_MO dA a q0 (some (ba 0)) (ta 0) g3 g4 g5 g6 g7 g8 g9 g10 g11 g12 g13 g14 g15 g16 g17 g18 z0 ++ (w_Tape dA ta y_tape ++ (w_Bus dA ba (bu_set_rules z2 ((bu_rules z2) + (1 : Int32)))))) H := hP
    have hD : va_D A (w_MO dA a q0 (some (ba 0)) (ta 0) g3 g4 g5 g6 g7 g8 g9 g10 g11 g12 g13 g14 g15 g16 g17 g18 z0 ++ (w_Tape dA ta y_tape ++ (w_Bus dA ba (bu_set_rules z2 ((bu_rules z2) + (1 : Int32)))))) := hD
    exact B_199 _ _ _ _ _ hf hP hD hS (lv_sub hl [] rfl)
  have B_161 : ∀ (v2 : Int32) (z0 : MOT) (z2 : BusT) (H : Heap) (locs : List Loc) (ls : Array Slot), f_X12_readRule_b161 y_tape v2 z0 z2 = some (u0, u2) → va_P D vwCl (w_MO dA a q0 (some (ba 0)) (ta 0) g3 g4 g5 g6 g7 g8 g9 g10 g11 g12 g13 g14 g15 g16 g17 g18 z0 ++ (w_Tape dA ta y_tape ++ (w_Bus dA ba z2))) H → va_D A (w_MO dA a q0 (some (ba 0)) (ta 0) g3 g4 g5 g6 g7 g8 g9 g10 g11 g12 g13 g14 g15 g16 g17 g18 z0 ++ (w_Tape dA ta y_tape ++ (w_Bus dA ba z2))) → va_S A s.heap H locs → lv_has ls 5 [(0, .ref (a 0)), (2, .int v2)] → W p l e ({ frames := 9, cells := 0, slots := 0, locals := 191 } : Room) s m ([.ref (a 0)] : List Value).toArray below meth c H locs 0 0 Q (F0 m 161 ls []) := by
    intro v2 z0 z2 H locs ls hf hP hD hS hl
    rw [f_X12_readRule_b161] at hf
    refine lv_aload_n hx hb dX12_readRule_161 rfl (lv_at hl 0 rfl) ?_
    refine va_get (D := D) (ci := 12) (v := .int (mo_sort z0)) (C := RX12) (T := TX12) (N := 35) hx hb hts kb_inX12 hown hK.1 hP 0 rfl rfl 9 (by decide) (hK.2.w ww_5_209 rfl _) (fun _ h9 => h9) rfl dX12_readRule_162 ?_
    refine lv_iconst (v := (5 : Int32)) hx hb dX12_readRule_165 (by decide) ?_
    refine lv_icmp_ne (tgt := 170) hx hb dX12_readRule_166 (by decide) (fun c_4 => ?_) (fun c_4 => ?_)
    · rw [if_neg c_4] at hf
      refine lv_aload_n hx hb dX12_readRule_170 rfl (lv_at hl 0 rfl) ?_
      refine va_get (D := D) (ci := 12) (v := .ref (ba 0)) (C := RX12) (T := TX12) (N := 35) hx hb hts kb_inX12 hown hK.1 hP 0 rfl rfl 4 (by decide) (hK.2.w ww_5_204 rfl _) (fun _ h9 => h9) rfl dX12_readRule_171 ?_
      refine va_getN (D := D) (ci := 11) (v := .ref (ba 1)) (C := RX11) (T := TX11) (N := 26) hx hb hts kb_inX11 hown hK.1 hP 2 rfl rfl 11 (by decide) (hK.2.nb ww_6_103 rfl rfl _) (fun _ h9 => h9) rfl dX12_readRule_174 ?_
      refine lv_aload_n hx hb dX12_readRule_177 rfl (lv_at hl 0 rfl) ?_
      refine va_get (D := D) (ci := 12) (v := .ref (ba 0)) (C := RX12) (T := TX12) (N := 35) hx hb hts kb_inX12 hown hK.1 hP 0 rfl rfl 4 (by decide) (hK.2.w ww_5_204 rfl _) (fun _ h9 => h9) rfl dX12_readRule_178 ?_
      refine va_getN (D := D) (ci := 11) (v := .int (bu_rules z2)) (C := RX11) (T := TX11) (N := 26) hx hb hts kb_inX11 hown hK.1 hP 2 rfl rfl 6 (by decide) (hK.2.nb ww_6_95 rfl rfl _) (fun _ h9 => h9) rfl dX12_readRule_181 ?_
      refine lv_iload_n hx hb dX12_readRule_184 rfl (lv_at hl 1 rfl) ?_
      obtain ⟨h_5, hf⟩ := kb_if hf
      refine va_iast (D := D) hx hb hK.1 hP hD hS 3 0 rfl rfl h_5 dX12_readRule_185 (fun H locs hP hD hS => ?_)
      have hP : va_P D vwCl (w_MO dA a q0 (some (ba 0)) (ta 0) g3 g4 g5 g6 g7 g8 g9 g10 g11 g12 g13 g14 g15 g16 g17 g18 z0 ++ (w_Tape dA ta y_tape ++ (w_Bus dA ba (bu_set_waysMany z2 (upd (bu_waysMany z2) ((bu_rules z2)).toNatClampNeg v2))))) H := hP
      have hD : va_D A (w_MO dA a q0 (some (ba 0)) (ta 0) g3 g4 g5 g6 g7 g8 g9 g10 g11 g12 g13 g14 g15 g16 g17 g18 z0 ++ (w_Tape dA ta y_tape ++ (w_Bus dA ba (bu_set_waysMany z2 (upd (bu_waysMany z2) ((bu_rules z2)).toNatClampNeg v2))))) := hD
      exact B_186 _ _ _ _ _ hf hP hD hS (lv_sub hl [0] rfl)
    · rw [if_pos c_4] at hf
      exact RET _ _ H _ ls 169 hf hP hD hS dX12_readRule_169
  have B_158 : ∀ (k28 : Int32 → Int32 → MOT → BusT → Option (MOT × BusT)) (hk28 : ∀ (v1 : Int32) (v2 : Int32) (z0 : MOT) (z2 : BusT) (H : Heap) (locs : List Loc) (ls : Array Slot), k28 v1 v2 z0 z2 = some (u0, u2) → va_P D vwCl (w_MO dA a q0 (some (ba 0)) (ta 0) g3 g4 g5 g6 g7 g8 g9 g10 g11 g12 g13 g14 g15 g16 g17 g18 z0 ++ (w_Tape dA ta y_tape ++ (w_Bus dA ba z2))) H → va_D A (w_MO dA a q0 (some (ba 0)) (ta 0) g3 g4 g5 g6 g7 g8 g9 g10 g11 g12 g13 g14 g15 g16 g17 g18 z0 ++ (w_Tape dA ta y_tape ++ (w_Bus dA ba z2))) → va_S A s.heap H locs → lv_has ls 5 [(0, .ref (a 0)), (1, .int v1), (2, .int v2)] → W p l e ({ frames := 9, cells := 0, slots := 0, locals := 191 } : Room) s m ([.ref (a 0)] : List Value).toArray below meth c H locs 0 0 Q (F0 m 28 ls [])) (v1 : Int32) (v2 : Int32) (z0 : MOT) (z2 : BusT) (H : Heap) (locs : List Loc) (ls : Array Slot), f_X12_readRule_b158 y_tape k28 v1 v2 z0 z2 = some (u0, u2) → va_P D vwCl (w_MO dA a q0 (some (ba 0)) (ta 0) g3 g4 g5 g6 g7 g8 g9 g10 g11 g12 g13 g14 g15 g16 g17 g18 z0 ++ (w_Tape dA ta y_tape ++ (w_Bus dA ba z2))) H → va_D A (w_MO dA a q0 (some (ba 0)) (ta 0) g3 g4 g5 g6 g7 g8 g9 g10 g11 g12 g13 g14 g15 g16 g17 g18 z0 ++ (w_Tape dA ta y_tape ++ (w_Bus dA ba z2))) → va_S A s.heap H locs → lv_has ls 5 [(0, .ref (a 0)), (1, .int v1), (2, .int v2)] → W p l e ({ frames := 9, cells := 0, slots := 0, locals := 191 } : Room) s m ([.ref (a 0)] : List Value).toArray below meth c H locs 0 0 Q (F0 m 158 ls []) := by
    intro k28 hk28 v1 v2 z0 z2 H locs ls hf hP hD hS hl
    rw [f_X12_readRule_b158] at hf
    refine lv_goto (tgt := 28) hx hb dX12_readRule_158 (by decide) ?_
    exact hk28 _ _ _ _ _ _ _ hf hP hD hS (lv_sub hl [0, 1, 2] rfl)
  have B_151 : ∀ (k28 : Int32 → Int32 → MOT → BusT → Option (MOT × BusT)) (hk28 : ∀ (v1 : Int32) (v2 : Int32) (z0 : MOT) (z2 : BusT) (H : Heap) (locs : List Loc) (ls : Array Slot), k28 v1 v2 z0 z2 = some (u0, u2) → va_P D vwCl (w_MO dA a q0 (some (ba 0)) (ta 0) g3 g4 g5 g6 g7 g8 g9 g10 g11 g12 g13 g14 g15 g16 g17 g18 z0 ++ (w_Tape dA ta y_tape ++ (w_Bus dA ba z2))) H → va_D A (w_MO dA a q0 (some (ba 0)) (ta 0) g3 g4 g5 g6 g7 g8 g9 g10 g11 g12 g13 g14 g15 g16 g17 g18 z0 ++ (w_Tape dA ta y_tape ++ (w_Bus dA ba z2))) → va_S A s.heap H locs → lv_has ls 5 [(0, .ref (a 0)), (1, .int v1), (2, .int v2)] → W p l e ({ frames := 9, cells := 0, slots := 0, locals := 191 } : Room) s m ([.ref (a 0)] : List Value).toArray below meth c H locs 0 0 Q (F0 m 28 ls [])) (v2 : Int32) (z0 : MOT) (z2 : BusT) (H : Heap) (locs : List Loc) (ls : Array Slot), f_X12_readRule_b151 y_tape k28 v2 z0 z2 = some (u0, u2) → va_P D vwCl (w_MO dA a q0 (some (ba 0)) (ta 0) g3 g4 g5 g6 g7 g8 g9 g10 g11 g12 g13 g14 g15 g16 g17 g18 z0 ++ (w_Tape dA ta y_tape ++ (w_Bus dA ba z2))) H → va_D A (w_MO dA a q0 (some (ba 0)) (ta 0) g3 g4 g5 g6 g7 g8 g9 g10 g11 g12 g13 g14 g15 g16 g17 g18 z0 ++ (w_Tape dA ta y_tape ++ (w_Bus dA ba z2))) → va_S A s.heap H locs → lv_has ls 5 [(0, .ref (a 0)), (2, .int v2)] → W p l e ({ frames := 9, cells := 0, slots := 0, locals := 191 } : Room) s m ([.ref (a 0)] : List Value).toArray below meth c H locs 0 0 Q (F0 m 151 ls []) := by
    intro k28 hk28 v2 z0 z2 H locs ls hf hP hD hS hl
    rw [f_X12_readRule_b151] at hf
    refine lv_aload_n hx hb dX12_readRule_151 rfl (lv_at hl 0 rfl) ?_
    refine lv_bipush (v := (44 : Int32)) hx hb dX12_readRule_152 (by decide) ?_
    obtain ⟨r14, hc14, hf⟩ := kb_bind hf
    refine kb_ci (ws2 := (w_MO dA a q0 (some (ba 0)) (ta 0) g3 g4 g5 g6 g7 g8 g9 g10 g11 g12 g13 g14 g15 g16 g17 g18 r14.2 ++ (w_Tape dA ta y_tape ++ (w_Bus dA ba z2)))) (kb_rV (n := 1) (As := [.int (44 : Int32)]) (rest := []) hx hb hml hown hK (c_X12_eatsSign l D dA H.size a ta q0 (some (ba 0)) g3 g4 g5 g6 g7 g8 g9 g10 g11 g12 g13 g14 g15 g16 g17 g18 z0 y_tape (44 : Int32) r14.1 r14.2 hc14) ⟨ww_7_53, ww_7_50, ww_7_52, ws_62, ww_1_12, rfl, by decide, by decide⟩ rfl rfl (by decide +kernel) ⟨Nat.le_of_ble_eq_true rfl, Nat.le_of_ble_eq_true rfl⟩ hP hD hS hA hE [0, 1] rfl (by decide) 0 rfl rfl rfl hl.1 rfl (Nat.le_of_ble_eq_true rfl) dX12_readRule_154 ⟨Nat.le_of_ble_eq_true rfl, Nat.le_of_ble_eq_true rfl⟩) hP hD hS hA [0, 1] [2, 3, 4, 5, 6, 7, 8, 9, 10, 11, 12, 13, 14, 15, 16, 17] [16, 17, 0, 1, 2, 3, 4, 5, 6, 7, 8, 9, 10, 11, 12, 13, 14, 15] rfl rfl (by decide) (by decide) rfl (by decide) (fun H locs hP hD hS => ?_)
    refine lv_istore_n (lv' := [(1, .int r14.1), (0, .ref (a 0)), (2, .int v2)]) hx hb dX12_readRule_157 rfl hl (by decide) rfl (fun ls hl => ?_)
    exact B_158 k28 hk28 _ _ _ _ _ _ _ hf hP hD hS (lv_sub hl [1, 0, 2] rfl)
  have B_144 : ∀ (k28 : Int32 → Int32 → MOT → BusT → Option (MOT × BusT)) (hk28 : ∀ (v1 : Int32) (v2 : Int32) (z0 : MOT) (z2 : BusT) (H : Heap) (locs : List Loc) (ls : Array Slot), k28 v1 v2 z0 z2 = some (u0, u2) → va_P D vwCl (w_MO dA a q0 (some (ba 0)) (ta 0) g3 g4 g5 g6 g7 g8 g9 g10 g11 g12 g13 g14 g15 g16 g17 g18 z0 ++ (w_Tape dA ta y_tape ++ (w_Bus dA ba z2))) H → va_D A (w_MO dA a q0 (some (ba 0)) (ta 0) g3 g4 g5 g6 g7 g8 g9 g10 g11 g12 g13 g14 g15 g16 g17 g18 z0 ++ (w_Tape dA ta y_tape ++ (w_Bus dA ba z2))) → va_S A s.heap H locs → lv_has ls 5 [(0, .ref (a 0)), (1, .int v1), (2, .int v2)] → W p l e ({ frames := 9, cells := 0, slots := 0, locals := 191 } : Room) s m ([.ref (a 0)] : List Value).toArray below meth c H locs 0 0 Q (F0 m 28 ls [])) (v2 : Int32) (z0 : MOT) (z2 : BusT) (H : Heap) (locs : List Loc) (ls : Array Slot), f_X12_readRule_b144 y_tape k28 v2 z0 z2 = some (u0, u2) → va_P D vwCl (w_MO dA a q0 (some (ba 0)) (ta 0) g3 g4 g5 g6 g7 g8 g9 g10 g11 g12 g13 g14 g15 g16 g17 g18 z0 ++ (w_Tape dA ta y_tape ++ (w_Bus dA ba z2))) H → va_D A (w_MO dA a q0 (some (ba 0)) (ta 0) g3 g4 g5 g6 g7 g8 g9 g10 g11 g12 g13 g14 g15 g16 g17 g18 z0 ++ (w_Tape dA ta y_tape ++ (w_Bus dA ba z2))) → va_S A s.heap H locs → lv_has ls 5 [(0, .ref (a 0)), (2, .int v2)] → W p l e ({ frames := 9, cells := 0, slots := 0, locals := 191 } : Room) s m ([.ref (a 0)] : List Value).toArray below meth c H locs 0 0 Q (F0 m 144 ls []) := by
    intro k28 hk28 v2 z0 z2 H locs ls hf hP hD hS hl
    rw [f_X12_readRule_b144] at hf
    refine lv_iinc (v := (v2 + (1 : Int32))) (lv' := [(2, .int (v2 + (1 : Int32))), (0, .ref (a 0))]) hx hb dX12_readRule_144 hl (k := 1) rfl (by rfl) (by decide) rfl (fun ls hl => ?_)
    refine lv_aload_n hx hb dX12_readRule_147 rfl (lv_at hl 1 rfl) ?_
    obtain ⟨r13, hc13, hf⟩ := kb_bind hf
    refine kb_cv (ws2 := (w_MO dA a q0 (some (ba 0)) (ta 0) g3 g4 g5 g6 g7 g8 g9 g10 g11 g12 g13 g14 g15 g16 g17 g18 r13 ++ (w_Tape dA ta y_tape ++ (w_Bus dA ba z2)))) (kb_rV (n := 0) (As := []) (rest := []) hx hb hml hown hK (c_X12_goesOn l D dA H.size a ta q0 (some (ba 0)) g3 g4 g5 g6 g7 g8 g9 g10 g11 g12 g13 g14 g15 g16 g17 g18 z0 y_tape r13 hc13) ⟨ww_6_189, ww_6_186, ww_6_188, ws_47, ww_1_12, rfl, by decide, by decide⟩ rfl rfl (by decide +kernel) ⟨Nat.le_of_ble_eq_true rfl, Nat.le_of_ble_eq_true rfl⟩ hP hD hS hA hE [0, 1] rfl (by decide) 0 rfl rfl rfl hl.1 rfl (Nat.le_of_ble_eq_true rfl) dX12_readRule_148 ⟨Nat.le_of_ble_eq_true rfl, Nat.le_of_ble_eq_true rfl⟩) hP hD hS hA [0, 1] [2, 3, 4, 5, 6, 7, 8, 9, 10, 11, 12, 13, 14, 15, 16, 17] [16, 17, 0, 1, 2, 3, 4, 5, 6, 7, 8, 9, 10, 11, 12, 13, 14, 15] rfl rfl (by decide) (by decide) rfl (by decide) (fun H locs hP hD hS => ?_)
    exact B_151 k28 hk28 _ _ _ _ _ _ hf hP hD hS (lv_sub hl [1, 0] rfl)
  have B_115 : ∀ (k28 : Int32 → Int32 → MOT → BusT → Option (MOT × BusT)) (hk28 : ∀ (v1 : Int32) (v2 : Int32) (z0 : MOT) (z2 : BusT) (H : Heap) (locs : List Loc) (ls : Array Slot), k28 v1 v2 z0 z2 = some (u0, u2) → va_P D vwCl (w_MO dA a q0 (some (ba 0)) (ta 0) g3 g4 g5 g6 g7 g8 g9 g10 g11 g12 g13 g14 g15 g16 g17 g18 z0 ++ (w_Tape dA ta y_tape ++ (w_Bus dA ba z2))) H → va_D A (w_MO dA a q0 (some (ba 0)) (ta 0) g3 g4 g5 g6 g7 g8 g9 g10 g11 g12 g13 g14 g15 g16 g17 g18 z0 ++ (w_Tape dA ta y_tape ++ (w_Bus dA ba z2))) → va_S A s.heap H locs → lv_has ls 5 [(0, .ref (a 0)), (1, .int v1), (2, .int v2)] → W p l e ({ frames := 9, cells := 0, slots := 0, locals := 191 } : Room) s m ([.ref (a 0)] : List Value).toArray below meth c H locs 0 0 Q (F0 m 28 ls [])) (v2 : Int32) (v3 : Int32) (z0 : MOT) (z2 : BusT) (H : Heap) (locs : List Loc) (ls : Array Slot), f_X12_readRule_b115 y_tape k28 v2 v3 z0 z2 = some (u0, u2) → va_P D vwCl (w_MO dA a q0 (some (ba 0)) (ta 0) g3 g4 g5 g6 g7 g8 g9 g10 g11 g12 g13 g14 g15 g16 g17 g18 z0 ++ (w_Tape dA ta y_tape ++ (w_Bus dA ba z2))) H → va_D A (w_MO dA a q0 (some (ba 0)) (ta 0) g3 g4 g5 g6 g7 g8 g9 g10 g11 g12 g13 g14 g15 g16 g17 g18 z0 ++ (w_Tape dA ta y_tape ++ (w_Bus dA ba z2))) → va_S A s.heap H locs → lv_has ls 5 [(0, .ref (a 0)), (2, .int v2), (3, .int v3)] → W p l e ({ frames := 9, cells := 0, slots := 0, locals := 191 } : Room) s m ([.ref (a 0)] : List Value).toArray below meth c H locs 0 0 Q (F0 m 115 ls []) := by
    intro k28 hk28 v2 v3 z0 z2 H locs ls hf hP hD hS hl
    rw [f_X12_readRule_b115] at hf
    refine lv_aload_n hx hb dX12_readRule_115 rfl (lv_at hl 0 rfl) ?_
    refine va_get (D := D) (ci := 12) (v := .int (mo_sort z0)) (C := RX12) (T := TX12) (N := 35) hx hb hts kb_inX12 hown hK.1 hP 0 rfl rfl 9 (by decide) (hK.2.w ww_5_209 rfl _) (fun _ h9 => h9) rfl dX12_readRule_116 ?_
    refine lv_iconst (v := (5 : Int32)) hx hb dX12_readRule_119 (by decide) ?_
    refine lv_icmp_ne (tgt := 124) hx hb dX12_readRule_120 (by decide) (fun c_11 => ?_) (fun c_11 => ?_)
    · rw [if_neg c_11] at hf
      refine lv_aload_n hx hb dX12_readRule_124 rfl (lv_at hl 0 rfl) ?_
      refine va_get (D := D) (ci := 12) (v := .ref (ba 0)) (C := RX12) (T := TX12) (N := 35) hx hb hts kb_inX12 hown hK.1 hP 0 rfl rfl 4 (by decide) (hK.2.w ww_5_204 rfl _) (fun _ h9 => h9) rfl dX12_readRule_125 ?_
      refine va_getN (D := D) (ci := 11) (v := .ref (ba 2)) (C := RX11) (T := TX11) (N := 26) hx hb hts kb_inX11 hown hK.1 hP 2 rfl rfl 12 (by decide) (hK.2.nb ww_6_105 rfl rfl _) (fun _ h9 => h9) rfl dX12_readRule_128 ?_
      refine lv_iconst (v := (4 : Int32)) hx hb dX12_readRule_131 (by decide) ?_
      refine lv_aload_n hx hb dX12_readRule_132 rfl (lv_at hl 0 rfl) ?_
      refine va_get (D := D) (ci := 12) (v := .ref (ba 0)) (C := RX12) (T := TX12) (N := 35) hx hb hts kb_inX12 hown hK.1 hP 0 rfl rfl 4 (by decide) (hK.2.w ww_5_204 rfl _) (fun _ h9 => h9) rfl dX12_readRule_133 ?_
      refine va_getN (D := D) (ci := 11) (v := .int (bu_rules z2)) (C := RX11) (T := TX11) (N := 26) hx hb hts kb_inX11 hown hK.1 hP 2 rfl rfl 6 (by decide) (hK.2.nb ww_6_95 rfl rfl _) (fun _ h9 => h9) rfl dX12_readRule_136 ?_
      refine lv_imul hx hb dX12_readRule_139 ?_
      refine lv_iload_n hx hb dX12_readRule_140 rfl (lv_at hl 1 rfl) ?_
      refine lv_iadd hx hb dX12_readRule_141 ?_
      refine lv_iload_n hx hb dX12_readRule_142 rfl (lv_at hl 2 rfl) ?_
      obtain ⟨h_12, hf⟩ := kb_if hf
      refine va_iast (D := D) hx hb hK.1 hP hD hS 4 0 rfl rfl h_12 dX12_readRule_143 (fun H locs hP hD hS => ?_)
      have hP : va_P D vwCl (w_MO dA a q0 (some (ba 0)) (ta 0) g3 g4 g5 g6 g7 g8 g9 g10 g11 g12 g13 g14 g15 g16 g17 g18 z0 ++ (w_Tape dA ta y_tape ++ (w_Bus dA ba (bu_set_way z2 (upd (bu_way z2) ((((4 : Int32) * (bu_rules z2)) + v2)).toNatClampNeg v3))))) H := hP
      have hD : va_D A (w_MO dA a q0 (some (ba 0)) (ta 0) g3 g4 g5 g6 g7 g8 g9 g10 g11 g12 g13 g14 g15 g16 g17 g18 z0 ++ (w_Tape dA ta y_tape ++ (w_Bus dA ba (bu_set_way z2 (upd (bu_way z2) ((((4 : Int32) * (bu_rules z2)) + v2)).toNatClampNeg v3))))) := hD
      exact B_144 k28 hk28 _ _ _ _ _ _ hf hP hD hS (lv_sub hl [0, 1] rfl)
    · rw [if_pos c_11] at hf
      exact RET _ _ H _ ls 123 hf hP hD hS dX12_readRule_123
  have B_105 : ∀ (k28 : Int32 → Int32 → MOT → BusT → Option (MOT × BusT)) (hk28 : ∀ (v1 : Int32) (v2 : Int32) (z0 : MOT) (z2 : BusT) (H : Heap) (locs : List Loc) (ls : Array Slot), k28 v1 v2 z0 z2 = some (u0, u2) → va_P D vwCl (w_MO dA a q0 (some (ba 0)) (ta 0) g3 g4 g5 g6 g7 g8 g9 g10 g11 g12 g13 g14 g15 g16 g17 g18 z0 ++ (w_Tape dA ta y_tape ++ (w_Bus dA ba z2))) H → va_D A (w_MO dA a q0 (some (ba 0)) (ta 0) g3 g4 g5 g6 g7 g8 g9 g10 g11 g12 g13 g14 g15 g16 g17 g18 z0 ++ (w_Tape dA ta y_tape ++ (w_Bus dA ba z2))) → va_S A s.heap H locs → lv_has ls 5 [(0, .ref (a 0)), (1, .int v1), (2, .int v2)] → W p l e ({ frames := 9, cells := 0, slots := 0, locals := 191 } : Room) s m ([.ref (a 0)] : List Value).toArray below meth c H locs 0 0 Q (F0 m 28 ls [])) (v2 : Int32) (v3 : Int32) (z0 : MOT) (z2 : BusT) (H : Heap) (locs : List Loc) (ls : Array Slot), f_X12_readRule_b105 y_tape k28 v2 v3 z0 z2 = some (u0, u2) → va_P D vwCl (w_MO dA a q0 (some (ba 0)) (ta 0) g3 g4 g5 g6 g7 g8 g9 g10 g11 g12 g13 g14 g15 g16 g17 g18 z0 ++ (w_Tape dA ta y_tape ++ (w_Bus dA ba z2))) H → va_D A (w_MO dA a q0 (some (ba 0)) (ta 0) g3 g4 g5 g6 g7 g8 g9 g10 g11 g12 g13 g14 g15 g16 g17 g18 z0 ++ (w_Tape dA ta y_tape ++ (w_Bus dA ba z2))) → va_S A s.heap H locs → lv_has ls 5 [(0, .ref (a 0)), (2, .int v2), (3, .int v3)] → W p l e ({ frames := 9, cells := 0, slots := 0, locals := 191 } : Room) s m ([.ref (a 0)] : List Value).toArray below meth c H locs 0 0 Q (F0 m 105 ls []) := by
    intro k28 hk28 v2 v3 z0 z2 H locs ls hf hP hD hS hl
    rw [f_X12_readRule_b105] at hf
    refine lv_iload_n hx hb dX12_readRule_105 rfl (lv_at hl 1 rfl) ?_
    refine lv_iconst (v := (4 : Int32)) hx hb dX12_readRule_106 (by decide) ?_
    refine lv_icmp_ne (tgt := 115) hx hb dX12_readRule_107 (by decide) (fun c_10 => ?_) (fun c_10 => ?_)
    · rw [if_neg c_10] at hf
      exact B_115 k28 hk28 _ _ _ _ _ _ _ hf hP hD hS (lv_sub hl [0, 1, 2] rfl)
    · rw [if_pos c_10] at hf
      refine lv_aload_n hx hb dX12_readRule_110 rfl (lv_at hl 0 rfl) ?_
      refine lv_iconst (v := (5 : Int32)) hx hb dX12_readRule_111 (by decide) ?_
      obtain ⟨r15, hc15, hf⟩ := kb_bind hf
      refine kb_cv (ws2 := (w_MO dA a q0 (some (ba 0)) (ta 0) g3 g4 g5 g6 g7 g8 g9 g10 g11 g12 g13 g14 g15 g16 g17 g18 r15 ++ (w_Tape dA ta y_tape ++ (w_Bus dA ba z2)))) (kb_rV (n := 1) (As := [.int (5 : Int32)]) (rest := []) hx hb hml hown hK (c_X12_wrong l D dA H.size a q0 (some (ba 0)) (ta 0) g3 g4 g5 g6 g7 g8 g9 g10 g11 g12 g13 g14 g15 g16 g17 g18 z0 (5 : Int32) r15 hc15) ⟨ww_6_226, ww_6_223, ww_6_225, ws_53, ww_1_12, rfl, by decide, by decide⟩ rfl rfl (by decide +kernel) ⟨Nat.le_of_ble_eq_true rfl, Nat.le_of_ble_eq_true rfl⟩ hP hD hS hA hE [0] rfl (by decide) 0 rfl rfl rfl hl.1 rfl (Nat.le_of_ble_eq_true rfl) dX12_readRule_112 ⟨Nat.le_of_ble_eq_true rfl, Nat.le_of_ble_eq_true rfl⟩) hP hD hS hA [0] [1, 2, 3, 4, 5, 6, 7, 8, 9, 10, 11, 12, 13, 14, 15, 16, 17] [17, 0, 1, 2, 3, 4, 5, 6, 7, 8, 9, 10, 11, 12, 13, 14, 15, 16] rfl rfl (by decide) (by decide) rfl (by decide) (fun H locs hP hD hS => ?_)
      exact B_115 k28 hk28 _ _ _ _ _ _ _ hf hP hD hS (lv_sub hl [0, 1, 2] rfl)
  have B_99 : ∀ (k28 : Int32 → Int32 → MOT → BusT → Option (MOT × BusT)) (hk28 : ∀ (v1 : Int32) (v2 : Int32) (z0 : MOT) (z2 : BusT) (H : Heap) (locs : List Loc) (ls : Array Slot), k28 v1 v2 z0 z2 = some (u0, u2) → va_P D vwCl (w_MO dA a q0 (some (ba 0)) (ta 0) g3 g4 g5 g6 g7 g8 g9 g10 g11 g12 g13 g14 g15 g16 g17 g18 z0 ++ (w_Tape dA ta y_tape ++ (w_Bus dA ba z2))) H → va_D A (w_MO dA a q0 (some (ba 0)) (ta 0) g3 g4 g5 g6 g7 g8 g9 g10 g11 g12 g13 g14 g15 g16 g17 g18 z0 ++ (w_Tape dA ta y_tape ++ (w_Bus dA ba z2))) → va_S A s.heap H locs → lv_has ls 5 [(0, .ref (a 0)), (1, .int v1), (2, .int v2)] → W p l e ({ frames := 9, cells := 0, slots := 0, locals := 191 } : Room) s m ([.ref (a 0)] : List Value).toArray below meth c H locs 0 0 Q (F0 m 28 ls [])) (k58 : Int32 → Int32 → Int32 → MOT → BusT → Option (MOT × BusT)) (hk58 : ∀ (v2 : Int32) (v3 : Int32) (v4 : Int32) (z0 : MOT) (z2 : BusT) (H : Heap) (locs : List Loc) (ls : Array Slot), k58 v2 v3 v4 z0 z2 = some (u0, u2) → va_P D vwCl (w_MO dA a q0 (some (ba 0)) (ta 0) g3 g4 g5 g6 g7 g8 g9 g10 g11 g12 g13 g14 g15 g16 g17 g18 z0 ++ (w_Tape dA ta y_tape ++ (w_Bus dA ba z2))) H → va_D A (w_MO dA a q0 (some (ba 0)) (ta 0) g3 g4 g5 g6 g7 g8 g9 g10 g11 g12 g13 g14 g15 g16 g17 g18 z0 ++ (w_Tape dA ta y_tape ++ (w_Bus dA ba z2))) → va_S A s.heap H locs → lv_has ls 5 [(0, .ref (a 0)), (2, .int v2), (3, .int v3), (4, .int v4)] → W p l e ({ frames := 9, cells := 0, slots := 0, locals := 191 } : Room) s m ([.ref (a 0)] : List Value).toArray below meth c H locs 0 0 Q (F0 m 58 ls [])) (v2 : Int32) (v3 : Int32) (v4 : Int32) (z0 : MOT) (z2 : BusT) (H : Heap) (locs : List Loc) (ls : Array Slot), f_X12_readRule_b99 y_tape k28 k58 v2 v3 v4 z0 z2 = some (u0, u2) → va_P D vwCl (w_MO dA a q0 (some (ba 0)) (ta 0) g3 g4 g5 g6 g7 g8 g9 g10 g11 g12 g13 g14 g15 g16 g17 g18 z0 ++ (w_Tape dA ta y_tape ++ (w_Bus dA ba z2))) H → va_D A (w_MO dA a q0 (some (ba 0)) (ta 0) g3 g4 g5 g6 g7 g8 g9 g10 g11 g12 g13 g14 g15 g16 g17 g18 z0 ++ (w_Tape dA ta y_tape ++ (w_Bus dA ba z2))) → va_S A s.heap H locs → lv_has ls 5 [(0, .ref (a 0)), (2, .int v2), (3, .int v3), (4, .int v4)] → W p l e ({ frames := 9, cells := 0, slots := 0, locals := 191 } : Room) s m ([.ref (a 0)] : List Value).toArray below meth c H locs 0 0 Q (F0 m 99 ls []) := by
    intro k28 hk28 k58 hk58 v2 v3 v4 z0 z2 H locs ls hf hP hD hS hl
    rw [f_X12_readRule_b99] at hf
    refine lv_iinc (v := (v4 + (1 : Int32))) (lv' := [(4, .int (v4 + (1 : Int32))), (0, .ref (a 0)), (2, .int v2), (3, .int v3)]) hx hb dX12_readRule_99 hl (k := 3) rfl (by rfl) (by decide) rfl (fun ls hl => ?_)
    refine lv_goto (tgt := 58) hx hb dX12_readRule_102 (by decide) ?_
    exact hk58 _ _ _ _ _ _ _ _ hf hP hD hS (lv_sub hl [1, 2, 3, 0] rfl)
  have B_58 : ∀ (k28 : Int32 → Int32 → MOT → BusT → Option (MOT × BusT)) (hk28 : ∀ (v1 : Int32) (v2 : Int32) (z0 : MOT) (z2 : BusT) (H : Heap) (locs : List Loc) (ls : Array Slot), k28 v1 v2 z0 z2 = some (u0, u2) → va_P D vwCl (w_MO dA a q0 (some (ba 0)) (ta 0) g3 g4 g5 g6 g7 g8 g9 g10 g11 g12 g13 g14 g15 g16 g17 g18 z0 ++ (w_Tape dA ta y_tape ++ (w_Bus dA ba z2))) H → va_D A (w_MO dA a q0 (some (ba 0)) (ta 0) g3 g4 g5 g6 g7 g8 g9 g10 g11 g12 g13 g14 g15 g16 g17 g18 z0 ++ (w_Tape dA ta y_tape ++ (w_Bus dA ba z2))) → va_S A s.heap H locs → lv_has ls 5 [(0, .ref (a 0)), (1, .int v1), (2, .int v2)] → W p l e ({ frames := 9, cells := 0, slots := 0, locals := 191 } : Room) s m ([.ref (a 0)] : List Value).toArray below meth c H locs 0 0 Q (F0 m 28 ls [])) (n : Nat) (v2 : Int32) (v3 : Int32) (v4 : Int32) (z0 : MOT) (z2 : BusT) (H : Heap) (locs : List Loc) (ls : Array Slot), f_X12_readRule_b58 y_tape k28 n v2 v3 v4 z0 z2 = some (u0, u2) → va_P D vwCl (w_MO dA a q0 (some (ba 0)) (ta 0) g3 g4 g5 g6 g7 g8 g9 g10 g11 g12 g13 g14 g15 g16 g17 g18 z0 ++ (w_Tape dA ta y_tape ++ (w_Bus dA ba z2))) H → va_D A (w_MO dA a q0 (some (ba 0)) (ta 0) g3 g4 g5 g6 g7 g8 g9 g10 g11 g12 g13 g14 g15 g16 g17 g18 z0 ++ (w_Tape dA ta y_tape ++ (w_Bus dA ba z2))) → va_S A s.heap H locs → lv_has ls 5 [(0, .ref (a 0)), (2, .int v2), (3, .int v3), (4, .int v4)] → W p l e ({ frames := 9, cells := 0, slots := 0, locals := 191 } : Room) s m ([.ref (a 0)] : List Value).toArray below meth c H locs 0 0 Q (F0 m 58 ls []) := by
    intro k28 hk28 n
    induction n with
    | zero =>
      intro v2 v3 v4 z0 z2 H locs ls hf
      exact absurd hf (by simp [f_X12_readRule_b58])
    | succ n ih =>
      intro v2 v3 v4 z0 z2 H locs ls hf hP hD hS hl
      rw [f_X12_readRule_b58] at hf
      refine lv_iload hx hb dX12_readRule_58 (lv_at hl 3 rfl) ?_
      refine lv_iload_n hx hb dX12_readRule_60 rfl (lv_at hl 1 rfl) ?_
      refine lv_icmp_ge (tgt := 105) hx hb dX12_readRule_61 (by decide) (fun c_9 => ?_) (fun c_9 => ?_)
      · rw [if_pos c_9] at hf
        exact B_105 k28 hk28 _ _ _ _ _ _ _ hf hP hD hS (lv_sub hl [0, 1, 2] rfl)
      · rw [if_neg c_9] at hf
        refine lv_iload hx hb dX12_readRule_64 (lv_at hl 3 rfl) ?_
        refine lv_iconst (v := (4 : Int32)) hx hb dX12_readRule_66 (by decide) ?_
        refine lv_icmp_ge (tgt := 105) hx hb dX12_readRule_67 (by decide) (fun c_16 => ?_) (fun c_16 => ?_)
        · rw [if_pos c_16] at hf
          exact B_105 k28 hk28 _ _ _ _ _ _ _ hf hP hD hS (lv_sub hl [0, 1, 2] rfl)
        · rw [if_neg c_16] at hf
          refine lv_aload_n hx hb dX12_readRule_70 rfl (lv_at hl 0 rfl) ?_
          refine va_get (D := D) (ci := 12) (v := .ref (ba 0)) (C := RX12) (T := TX12) (N := 35) hx hb hts kb_inX12 hown hK.1 hP 0 rfl rfl 4 (by decide) (hK.2.w ww_5_204 rfl _) (fun _ h9 => h9) rfl dX12_readRule_71 ?_
          refine va_getN (D := D) (ci := 11) (v := .ref (ba 2)) (C := RX11) (T := TX11) (N := 26) hx hb hts kb_inX11 hown hK.1 hP 2 rfl rfl 12 (by decide) (hK.2.nb ww_6_105 rfl rfl _) (fun _ h9 => h9) rfl dX12_readRule_74 ?_
          refine lv_iconst (v := (4 : Int32)) hx hb dX12_readRule_77 (by decide) ?_
          refine lv_aload_n hx hb dX12_readRule_78 rfl (lv_at hl 0 rfl) ?_
          refine va_get (D := D) (ci := 12) (v := .ref (ba 0)) (C := RX12) (T := TX12) (N := 35) hx hb hts kb_inX12 hown hK.1 hP 0 rfl rfl 4 (by decide) (hK.2.w ww_5_204 rfl _) (fun _ h9 => h9) rfl dX12_readRule_79 ?_
          refine va_getN (D := D) (ci := 11) (v := .int (bu_rules z2)) (C := RX11) (T := TX11) (N := 26) hx hb hts kb_inX11 hown hK.1 hP 2 rfl rfl 6 (by decide) (hK.2.nb ww_6_95 rfl rfl _) (fun _ h9 => h9) rfl dX12_readRule_82 ?_
          refine lv_imul hx hb dX12_readRule_85 ?_
          refine lv_iload hx hb dX12_readRule_86 (lv_at hl 3 rfl) ?_
          refine lv_iadd hx hb dX12_readRule_88 ?_
          obtain ⟨h_17, hf⟩ := kb_if hf
          refine va_iald (D := D) hx hb hK.1 hP 4 0 rfl rfl h_17 dX12_readRule_89 ?_
          refine lv_iload_n hx hb dX12_readRule_90 rfl (lv_at hl 2 rfl) ?_
          refine lv_icmp_ne (tgt := 99) hx hb dX12_readRule_91 (by decide) (fun c_18 => ?_) (fun c_18 => ?_)
          · rw [if_neg c_18] at hf
            refine lv_iinc (v := (v4 + (1 : Int32))) (lv' := [(4, .int (v4 + (1 : Int32))), (0, .ref (a 0)), (2, .int v2), (3, .int v3)]) hx hb dX12_readRule_99 hl (k := 3) rfl (by rfl) (by decide) rfl (fun ls hl => ?_)
            refine lv_goto (tgt := 58) hx hb dX12_readRule_102 (by decide) ?_
            exact ih _ _ _ _ _ _ _ _ hf hP hD hS (lv_sub hl [1, 2, 3, 0] rfl)
          · rw [if_pos c_18] at hf
            refine lv_aload_n hx hb dX12_readRule_94 rfl (lv_at hl 0 rfl) ?_
            refine lv_iconst (v := (3 : Int32)) hx hb dX12_readRule_95 (by decide) ?_
            obtain ⟨r19, hc19, hf⟩ := kb_bind hf
            refine kb_cv (ws2 := (w_MO dA a q0 (some (ba 0)) (ta 0) g3 g4 g5 g6 g7 g8 g9 g10 g11 g12 g13 g14 g15 g16 g17 g18 r19 ++ (w_Tape dA ta y_tape ++ (w_Bus dA ba z2)))) (kb_rV (n := 1) (As := [.int (3 : Int32)]) (rest := []) hx hb hml hown hK (c_X12_wrong l D dA H.size a q0 (some (ba 0)) (ta 0) g3 g4 g5 g6 g7 g8 g9 g10 g11 g12 g13 g14 g15 g16 g17 g18 z0 (3 : Int32) r19 hc19) ⟨ww_6_226, ww_6_223, ww_6_225, ws_53, ww_1_12, rfl, by decide, by decide⟩ rfl rfl (by decide +kernel) ⟨Nat.le_of_ble_eq_true rfl, Nat.le_of_ble_eq_true rfl⟩ hP hD hS hA hE [0] rfl (by decide) 0 rfl rfl rfl hl.1 rfl (Nat.le_of_ble_eq_true rfl) dX12_readRule_96 ⟨Nat.le_of_ble_eq_true rfl, Nat.le_of_ble_eq_true rfl⟩) hP hD hS hA [0] [1, 2, 3, 4, 5, 6, 7, 8, 9, 10, 11, 12, 13, 14, 15, 16, 17] [17, 0, 1, 2, 3, 4, 5, 6, 7, 8, 9, 10, 11, 12, 13, 14, 15, 16] rfl rfl (by decide) (by decide) rfl (by decide) (fun H locs hP hD hS => ?_)
            exact B_99 k28 hk28 (f_X12_readRule_b58 y_tape k28 n) ih _ _ _ _ _ _ _ _ hf hP hD hS (lv_sub hl [0, 1, 2, 3] rfl)
  have B_55 : ∀ (k28 : Int32 → Int32 → MOT → BusT → Option (MOT × BusT)) (hk28 : ∀ (v1 : Int32) (v2 : Int32) (z0 : MOT) (z2 : BusT) (H : Heap) (locs : List Loc) (ls : Array Slot), k28 v1 v2 z0 z2 = some (u0, u2) → va_P D vwCl (w_MO dA a q0 (some (ba 0)) (ta 0) g3 g4 g5 g6 g7 g8 g9 g10 g11 g12 g13 g14 g15 g16 g17 g18 z0 ++ (w_Tape dA ta y_tape ++ (w_Bus dA ba z2))) H → va_D A (w_MO dA a q0 (some (ba 0)) (ta 0) g3 g4 g5 g6 g7 g8 g9 g10 g11 g12 g13 g14 g15 g16 g17 g18 z0 ++ (w_Tape dA ta y_tape ++ (w_Bus dA ba z2))) → va_S A s.heap H locs → lv_has ls 5 [(0, .ref (a 0)), (1, .int v1), (2, .int v2)] → W p l e ({ frames := 9, cells := 0, slots := 0, locals := 191 } : Room) s m ([.ref (a 0)] : List Value).toArray below meth c H locs 0 0 Q (F0 m 28 ls [])) (v2 : Int32) (v3 : Int32) (z0 : MOT) (z2 : BusT) (H : Heap) (locs : List Loc) (ls : Array Slot), f_X12_readRule_b55 y_tape k28 v2 v3 z0 z2 = some (u0, u2) → va_P D vwCl (w_MO dA a q0 (some (ba 0)) (ta 0) g3 g4 g5 g6 g7 g8 g9 g10 g11 g12 g13 g14 g15 g16 g17 g18 z0 ++ (w_Tape dA ta y_tape ++ (w_Bus dA ba z2))) H → va_D A (w_MO dA a q0 (some (ba 0)) (ta 0) g3 g4 g5 g6 g7 g8 g9 g10 g11 g12 g13 g14 g15 g16 g17 g18 z0 ++ (w_Tape dA ta y_tape ++ (w_Bus dA ba z2))) → va_S A s.heap H locs → lv_has ls 5 [(0, .ref (a 0)), (2, .int v2), (3, .int v3)] → W p l e ({ frames := 9, cells := 0, slots := 0, locals := 191 } : Room) s m ([.ref (a 0)] : List Value).toArray below meth c H locs 0 0 Q (F0 m 55 ls []) := by
    intro k28 hk28 v2 v3 z0 z2 H locs ls hf hP hD hS hl
    rw [f_X12_readRule_b55] at hf
    refine lv_iconst (v := (0 : Int32)) hx hb dX12_readRule_55 (by decide) ?_
    refine lv_istore (lv' := [(4, .int (0 : Int32)), (0, .ref (a 0)), (2, .int v2), (3, .int v3)]) hx hb dX12_readRule_56 hl (by decide) rfl (fun ls hl => ?_)
    exact B_58 k28 hk28 4096 _ _ _ _ _ _ _ _ hf hP hD hS (lv_sub hl [1, 2, 3, 0] rfl)
  have B_28 : ∀ (n : Nat) (v1 : Int32) (v2 : Int32) (z0 : MOT) (z2 : BusT) (H : Heap) (locs : List Loc) (ls : Array Slot), f_X12_readRule_b28 y_tape n v1 v2 z0 z2 = some (u0, u2) → va_P D vwCl (w_MO dA a q0 (some (ba 0)) (ta 0) g3 g4 g5 g6 g7 g8 g9 g10 g11 g12 g13 g14 g15 g16 g17 g18 z0 ++ (w_Tape dA ta y_tape ++ (w_Bus dA ba z2))) H → va_D A (w_MO dA a q0 (some (ba 0)) (ta 0) g3 g4 g5 g6 g7 g8 g9 g10 g11 g12 g13 g14 g15 g16 g17 g18 z0 ++ (w_Tape dA ta y_tape ++ (w_Bus dA ba z2))) → va_S A s.heap H locs → lv_has ls 5 [(0, .ref (a 0)), (1, .int v1), (2, .int v2)] → W p l e ({ frames := 9, cells := 0, slots := 0, locals := 191 } : Room) s m ([.ref (a 0)] : List Value).toArray below meth c H locs 0 0 Q (F0 m 28 ls []) := by
    intro n
    induction n with
    | zero =>
      intro v1 v2 z0 z2 H locs ls hf
      exact absurd hf (by simp [f_X12_readRule_b28])
    | succ n ih =>
      intro v1 v2 z0 z2 H locs ls hf hP hD hS hl
      rw [f_X12_readRule_b28] at hf
      refine lv_iload_n hx hb dX12_readRule_28 rfl (lv_at hl 1 rfl) ?_
      refine lv_if_eq (tgt := 161) hx hb dX12_readRule_29 (by decide) (fun c_3 => ?_) (fun c_3 => ?_)
      · rw [if_pos c_3] at hf
        exact B_161 _ _ _ _ _ _ hf hP hD hS (lv_sub hl [0, 2] rfl)
      · rw [if_neg c_3] at hf
        refine lv_aload_n hx hb dX12_readRule_32 rfl (lv_at hl 0 rfl) ?_
        refine va_get (D := D) (ci := 12) (v := .int (mo_sort z0)) (C := RX12) (T := TX12) (N := 35) hx hb hts kb_inX12 hown hK.1 hP 0 rfl rfl 9 (by decide) (hK.2.w ww_5_209 rfl _) (fun _ h9 => h9) rfl dX12_readRule_33 ?_
        refine lv_iconst (v := (5 : Int32)) hx hb dX12_readRule_36 (by decide) ?_
        refine lv_icmp_eq (tgt := 161) hx hb dX12_readRule_37 (by decide) (fun c_6 => ?_) (fun c_6 => ?_)
        · rw [if_pos c_6] at hf
          exact B_161 _ _ _ _ _ _ hf hP hD hS (lv_sub hl [0, 2] rfl)
        · rw [if_neg c_6] at hf
          refine lv_aload_n hx hb dX12_readRule_40 rfl (lv_at hl 0 rfl) ?_
          obtain ⟨r7, hc7, hf⟩ := kb_bind hf
          refine kb_ci (ws2 := (w_MO dA a q0 (some (ba 0)) (ta 0) g3 g4 g5 g6 g7 g8 g9 g10 g11 g12 g13 g14 g15 g16 g17 g18 z0 ++ (w_Tape dA ta y_tape ++ (w_Bus dA ba z2)))) (kb_rV (n := 0) (As := []) (rest := []) hx hb hml hown hK (c_X12_wayNow l D dA H.size a q0 (some (ba 0)) (ta 0) g3 g4 g5 g6 g7 g8 g9 g10 g11 g12 g13 g14 g15 g16 g17 g18 z0 r7 hc7) ⟨ww_7_31, ww_7_28, ww_7_30, ws_61, ww_1_12, rfl, by decide, by decide⟩ rfl rfl (by decide +kernel) ⟨Nat.le_of_ble_eq_true rfl, Nat.le_of_ble_eq_true rfl⟩ hP hD hS hA hE [0] rfl (by decide) 0 rfl rfl rfl hl.1 rfl (Nat.le_of_ble_eq_true rfl) dX12_readRule_41 ⟨Nat.le_of_ble_eq_true rfl, Nat.le_of_ble_eq_true rfl⟩) hP hD hS hA [0] [1, 2, 3, 4, 5, 6, 7, 8, 9, 10, 11, 12, 13, 14, 15, 16, 17] [17, 0, 1, 2, 3, 4, 5, 6, 7, 8, 9, 10, 11, 12, 13, 14, 15, 16] rfl rfl (by decide) (by decide) rfl (by decide) (fun H locs hP hD hS => ?_)
          refine lv_istore_n (lv' := [(3, .int r7), (0, .ref (a 0)), (1, .int v1), (2, .int v2)]) hx hb dX12_readRule_44 rfl hl (by decide) rfl (fun ls hl => ?_)
          refine lv_iload_n hx hb dX12_readRule_45 rfl (lv_at hl 0 rfl) ?_
          refine lv_iconst (v := (-1 : Int32)) hx hb dX12_readRule_46 (by decide) ?_
          refine lv_icmp_ne (tgt := 55) hx hb dX12_readRule_47 (by decide) (fun c_8 => ?_) (fun c_8 => ?_)
          · rw [if_neg c_8] at hf
            exact B_55 (f_X12_readRule_b28 y_tape n) ih _ _ _ _ _ _ _ hf hP hD hS (lv_sub hl [1, 3, 0] rfl)
          · rw [if_pos c_8] at hf
            refine lv_aload_n hx hb dX12_readRule_50 rfl (lv_at hl 1 rfl) ?_
            refine lv_iconst (v := (1 : Int32)) hx hb dX12_readRule_51 (by decide) ?_
            obtain ⟨r20, hc20, hf⟩ := kb_bind hf
            refine kb_cv (ws2 := (w_MO dA a q0 (some (ba 0)) (ta 0) g3 g4 g5 g6 g7 g8 g9 g10 g11 g12 g13 g14 g15 g16 g17 g18 r20 ++ (w_Tape dA ta y_tape ++ (w_Bus dA ba z2)))) (kb_rV (n := 1) (As := [.int (1 : Int32)]) (rest := []) hx hb hml hown hK (c_X12_wrong l D dA H.size a q0 (some (ba 0)) (ta 0) g3 g4 g5 g6 g7 g8 g9 g10 g11 g12 g13 g14 g15 g16 g17 g18 z0 (1 : Int32) r20 hc20) ⟨ww_6_226, ww_6_223, ww_6_225, ws_53, ww_1_12, rfl, by decide, by decide⟩ rfl rfl (by decide +kernel) ⟨Nat.le_of_ble_eq_true rfl, Nat.le_of_ble_eq_true rfl⟩ hP hD hS hA hE [0] rfl (by decide) 0 rfl rfl rfl hl.1 rfl (Nat.le_of_ble_eq_true rfl) dX12_readRule_52 ⟨Nat.le_of_ble_eq_true rfl, Nat.le_of_ble_eq_true rfl⟩) hP hD hS hA [0] [1, 2, 3, 4, 5, 6, 7, 8, 9, 10, 11, 12, 13, 14, 15, 16, 17] [17, 0, 1, 2, 3, 4, 5, 6, 7, 8, 9, 10, 11, 12, 13, 14, 15, 16] rfl rfl (by decide) (by decide) rfl (by decide) (fun H locs hP hD hS => ?_)
            exact B_55 (f_X12_readRule_b28 y_tape n) ih _ _ _ _ _ _ _ hf hP hD hS (lv_sub hl [1, 3, 0] rfl)
  have B_24 : ∀ (z0 : MOT) (z2 : BusT) (H : Heap) (locs : List Loc) (ls : Array Slot), f_X12_readRule_b24 y_tape z0 z2 = some (u0, u2) → va_P D vwCl (w_MO dA a q0 (some (ba 0)) (ta 0) g3 g4 g5 g6 g7 g8 g9 g10 g11 g12 g13 g14 g15 g16 g17 g18 z0 ++ (w_Tape dA ta y_tape ++ (w_Bus dA ba z2))) H → va_D A (w_MO dA a q0 (some (ba 0)) (ta 0) g3 g4 g5 g6 g7 g8 g9 g10 g11 g12 g13 g14 g15 g16 g17 g18 z0 ++ (w_Tape dA ta y_tape ++ (w_Bus dA ba z2))) → va_S A s.heap H locs → lv_has ls 5 [(0, .ref (a 0))] → W p l e ({ frames := 9, cells := 0, slots := 0, locals := 191 } : Room) s m ([.ref (a 0)] : List Value).toArray below meth c H locs 0 0 Q (F0 m 24 ls []) := by
    intro z0 z2 H locs ls hf hP hD hS hl
    rw [f_X12_readRule_b24] at hf
    refine lv_iconst (v := (1 : Int32)) hx hb dX12_readRule_24 (by decide) ?_
    refine lv_istore_n (lv' := [(1, .int (1 : Int32)), (0, .ref (a 0))]) hx hb dX12_readRule_25 rfl hl (by decide) rfl (fun ls hl => ?_)
    refine lv_iconst (v := (0 : Int32)) hx hb dX12_readRule_26 (by decide) ?_
    refine lv_istore_n (lv' := [(2, .int (0 : Int32)), (1, .int (1 : Int32)), (0, .ref (a 0))]) hx hb dX12_readRule_27 rfl hl (by decide) rfl (fun ls hl => ?_)
    exact B_28 4096 _ _ _ _ _ _ _ hf hP hD hS (lv_sub hl [2, 1, 0] rfl)
  have B_12 : ∀ (z0 : MOT) (z2 : BusT) (H : Heap) (locs : List Loc) (ls : Array Slot), f_X12_readRule_b12 y_tape z0 z2 = some (u0, u2) → va_P D vwCl (w_MO dA a q0 (some (ba 0)) (ta 0) g3 g4 g5 g6 g7 g8 g9 g10 g11 g12 g13 g14 g15 g16 g17 g18 z0 ++ (w_Tape dA ta y_tape ++ (w_Bus dA ba z2))) H → va_D A (w_MO dA a q0 (some (ba 0)) (ta 0) g3 g4 g5 g6 g7 g8 g9 g10 g11 g12 g13 g14 g15 g16 g17 g18 z0 ++ (w_Tape dA ta y_tape ++ (w_Bus dA ba z2))) → va_S A s.heap H locs → lv_has ls 5 [(0, .ref (a 0))] → W p l e ({ frames := 9, cells := 0, slots := 0, locals := 191 } : Room) s m ([.ref (a 0)] : List Value).toArray below meth c H locs 0 0 Q (F0 m 12 ls []) := by
    intro z0 z2 H locs ls hf hP hD hS hl
    rw [f_X12_readRule_b12] at hf
    refine lv_aload_n hx hb dX12_readRule_12 rfl (lv_at hl 0 rfl) ?_
    refine lv_iconst (v := (0 : Int32)) hx hb dX12_readRule_13 (by decide) ?_
    refine lv_aload_n hx hb dX12_readRule_14 rfl (lv_at hl 0 rfl) ?_
    refine va_get (D := D) (ci := 12) (v := .ref (ba 0)) (C := RX12) (T := TX12) (N := 35) hx hb hts kb_inX12 hown hK.1 hP 0 rfl rfl 4 (by decide) (hK.2.w ww_5_204 rfl _) (fun _ h9 => h9) rfl dX12_readRule_15 ?_
    refine va_getN (D := D) (ci := 11) (v := .int (bu_rules z2)) (C := RX11) (T := TX11) (N := 26) hx hb hts kb_inX11 hown hK.1 hP 2 rfl rfl 6 (by decide) (hK.2.nb ww_6_95 rfl rfl _) (fun _ h9 => h9) rfl dX12_readRule_18 ?_
    obtain ⟨r2, hc2, hf⟩ := kb_bind hf
    refine kb_cv (ws2 := (w_MO dA a q0 (some (ba 0)) (ta 0) g3 g4 g5 g6 g7 g8 g9 g10 g11 g12 g13 g14 g15 g16 g17 g18 r2.1 ++ (w_Tape dA ta y_tape ++ (w_Bus dA ba r2.2)))) (kb_rV (n := 2) (As := [.int (0 : Int32), .int (bu_rules z2)]) (rest := []) hx hb hml hown hK (c_X12_readFresh l D dA H.size a ta ba q0 g3 g4 g5 g6 g7 g8 g9 g10 g11 g12 g13 g14 g15 g16 g17 g18 z0 y_tape z2 (0 : Int32) (bu_rules z2) r2.1 r2.2 hc2) ⟨ww_7_23, ww_7_20, ww_7_22, ws_59, ww_1_12, rfl, by decide, by decide⟩ rfl rfl (by decide +kernel) ⟨Nat.le_of_ble_eq_true rfl, Nat.le_of_ble_eq_true rfl⟩ hP hD hS hA hE [0, 1, 2, 3, 4, 5, 6, 7, 8, 9, 10, 11, 12, 13, 14, 15, 16, 17] rfl (by decide) 0 rfl rfl rfl hl.1 rfl (Nat.le_of_ble_eq_true rfl) dX12_readRule_21 ⟨Nat.le_of_ble_eq_true rfl, Nat.le_of_ble_eq_true rfl⟩) hP hD hS hA [0, 1, 2, 3, 4, 5, 6, 7, 8, 9, 10, 11, 12, 13, 14, 15, 16, 17] [] [0, 1, 2, 3, 4, 5, 6, 7, 8, 9, 10, 11, 12, 13, 14, 15, 16, 17] rfl rfl (by decide) (by decide) rfl (by decide) (fun H locs hP hD hS => ?_)
    exact B_24 _ _ _ _ _ hf hP hD hS (lv_sub hl [0] rfl)
  have E0 : ∀ (H : Heap) (locs : List Loc), va_P D vwCl (w_MO dA a q0 (some (ba 0)) (ta 0) g3 g4 g5 g6 g7 g8 g9 g10 g11 g12 g13 g14 g15 g16 g17 g18 mo ++ (w_Tape dA ta y_tape ++ (w_Bus dA ba bu))) H → va_D A (w_MO dA a q0 (some (ba 0)) (ta 0) g3 g4 g5 g6 g7 g8 g9 g10 g11 g12 g13 g14 g15 g16 g17 g18 mo ++ (w_Tape dA ta y_tape ++ (w_Bus dA ba bu))) → va_S A s.heap H locs → W p l e ({ frames := 9, cells := 0, slots := 0, locals := 191 } : Room) s m ([.ref (a 0)] : List Value).toArray below meth c H locs 0 0 Q (F0 m 0 ls []) := by
    intro H locs hP hD hS
    rw [f_X12_readRule] at hf
    refine lv_aload_n hx hb dX12_readRule_0 rfl (lv_at hl 0 rfl) ?_
    refine lv_aload_n hx hb dX12_readRule_1 rfl (lv_at hl 0 rfl) ?_
    refine va_get (D := D) (ci := 12) (v := .ref (ba 0)) (C := RX12) (T := TX12) (N := 35) hx hb hts kb_inX12 hown hK.1 hP 0 rfl rfl 4 (by decide) (hK.2.w ww_5_204 rfl _) (fun _ h9 => h9) rfl dX12_readRule_2 ?_
    refine va_getN (D := D) (ci := 11) (v := .int (bu_rules bu)) (C := RX11) (T := TX11) (N := 26) hx hb hts kb_inX11 hown hK.1 hP 2 rfl rfl 6 (by decide) (hK.2.nb ww_6_95 rfl rfl _) (fun _ h9 => h9) rfl dX12_readRule_5 ?_
    refine lv_iconst (v := (4 : Int32)) hx hb dX12_readRule_8 (by decide) ?_
    obtain ⟨r1, hc1, hf⟩ := kb_bind hf
    refine kb_cv (ws2 := (w_MO dA a q0 (some (ba 0)) (ta 0) g3 g4 g5 g6 g7 g8 g9 g10 g11 g12 g13 g14 g15 g16 g17 g18 r1 ++ (w_Tape dA ta y_tape ++ (w_Bus dA ba bu)))) (kb_rV (n := 2) (As := [.int (bu_rules bu), .int (4 : Int32)]) (rest := []) hx hb hml hown hK (c_X12_begins l D dA H.size a ta q0 (some (ba 0)) g3 g4 g5 g6 g7 g8 g9 g10 g11 g12 g13 g14 g15 g16 g17 g18 mo y_tape (bu_rules bu) (4 : Int32) r1 hc1) ⟨ww_7_19, ww_7_16, ww_7_18, ws_58, ww_1_12, rfl, by decide, by decide⟩ rfl rfl (by decide +kernel) ⟨Nat.le_of_ble_eq_true rfl, Nat.le_of_ble_eq_true rfl⟩ hP hD hS hA hE [0, 1] rfl (by decide) 0 rfl rfl rfl hl.1 rfl (Nat.le_of_ble_eq_true rfl) dX12_readRule_9 ⟨Nat.le_of_ble_eq_true rfl, Nat.le_of_ble_eq_true rfl⟩) hP hD hS hA [0, 1] [2, 3, 4, 5, 6, 7, 8, 9, 10, 11, 12, 13, 14, 15, 16, 17] [16, 17, 0, 1, 2, 3, 4, 5, 6, 7, 8, 9, 10, 11, 12, 13, 14, 15] rfl rfl (by decide) (by decide) rfl (by decide) (fun H locs hP hD hS => ?_)
    exact B_12 _ _ _ _ _ hf hP hD hS (lv_sub hl [0] rfl)
  exact E0 _ _ hP hD hS

noncomputable def f_X12_readRider_b225 (y_tape : TapeT) (z0 : MOT) (z2 : BusT) : Option (MOT × BusT) := some (z0, z2)
noncomputable def f_X12_readRider_b212 (y_tape : TapeT) (z0 : MOT) (z2 : BusT) : Option (MOT × BusT) := f_X12_readRider_b225 y_tape z0 (bu_set_riders z2 ((bu_riders z2) + (1 : Int32)))
noncomputable def f_X12_readRider_b200 (y_tape : TapeT) (v7 : Int32) (v8 : Int32) (z0 : MOT) (z2 : BusT) : Option (MOT × BusT) := if kb_in? v8 8 then f_X12_readRider_b212 y_tape z0 (bu_set_isProud z2 (upd (bu_isProud z2) (v8).toNatClampNeg (vp_nar .boolean v7))) else none
noncomputable def f_X12_readRider_b188 (y_tape : TapeT) (v6 : Int32) (v7 : Int32) (v8 : Int32) (z0 : MOT) (z2 : BusT) : Option (MOT × BusT) := if kb_in? v8 8 then f_X12_readRider_b200 y_tape v7 v8 z0 (bu_set_hasBag z2 (upd (bu_hasBag z2) (v8).toNatClampNeg (vp_nar .boolean v6))) else none
noncomputable def f_X12_readRider_b177 (y_tape : TapeT) (v6 : Int32) (v7 : Int32) (v8 : Int32) (z0 : MOT) (z2 : BusT) : Option (MOT × BusT) := if kb_in? v8 8 then f_X12_readRider_b188 y_tape v6 v7 v8 z0 (bu_set_holds z2 (upd (bu_holds z2) (v8).toNatClampNeg (-1 : Int32))) else none
noncomputable def f_X12_readRider_b165 (y_tape : TapeT) (v5 : Int32) (v6 : Int32) (v7 : Int32) (v8 : Int32) (z0 : MOT) (z2 : BusT) : Option (MOT × BusT) := if kb_in? v8 8 then f_X12_readRider_b177 y_tape v6 v7 v8 z0 (bu_set_age z2 (upd (bu_age z2) (v8).toNatClampNeg v5)) else none
noncomputable def f_X12_readRider_b153 (y_tape : TapeT) (v4 : Int32) (v5 : Int32) (v6 : Int32) (v7 : Int32) (v8 : Int32) (z0 : MOT) (z2 : BusT) : Option (MOT × BusT) := if kb_in? v8 8 then f_X12_readRider_b165 y_tape v5 v6 v7 v8 z0 (bu_set_looks z2 (upd (bu_looks z2) (v8).toNatClampNeg v4)) else none
noncomputable def f_X12_readRider_b142 (y_tape : TapeT) (v3 : Int32) (v4 : Int32) (v5 : Int32) (v6 : Int32) (v7 : Int32) (v8 : Int32) (z0 : MOT) (z2 : BusT) : Option (MOT × BusT) := if kb_in? v8 8 then f_X12_readRider_b153 y_tape v4 v5 v6 v7 v8 z0 (bu_set_rule z2 (upd (bu_rule z2) (v8).toNatClampNeg v3)) else none
noncomputable def f_X12_readRider_b131 (y_tape : TapeT) (v2 : Int32) (v3 : Int32) (v4 : Int32) (v5 : Int32) (v6 : Int32) (v7 : Int32) (v8 : Int32) (z0 : MOT) (z2 : BusT) : Option (MOT × BusT) := if kb_in? v8 8 then f_X12_readRider_b142 y_tape v3 v4 v5 v6 v7 v8 z0 (bu_set_off z2 (upd (bu_off z2) (v8).toNatClampNeg v2)) else none
noncomputable def f_X12_readRider_b102 (y_tape : TapeT) (v1 : Int32) (v2 : Int32) (v3 : Int32) (v4 : Int32) (v5 : Int32) (v6 : Int32) (v7 : Int32) (z0 : MOT) (z2 : BusT) : Option (MOT × BusT) := (if (mo_sort z0) = (5 : Int32) then some (z0, z2) else if kb_in? (bu_riders z2) 8 then f_X12_readRider_b131 y_tape v2 v3 v4 v5 v6 v7 (bu_riders z2) z0 (bu_set_on z2 (upd (bu_on z2) ((bu_riders z2)).toNatClampNeg v1)) else none)
noncomputable def f_X12_readRider_b94 (y_tape : TapeT) (v1 : Int32) (v2 : Int32) (v3 : Int32) (v4 : Int32) (v5 : Int32) (v6 : Int32) (z0 : MOT) (z2 : BusT) : Option (MOT × BusT) := (f_X12_eatsWord z0 y_tape 24).bind fun r10 => f_X12_readRider_b102 y_tape v1 v2 v3 v4 v5 v6 r10.1 r10.2 z2
noncomputable def f_X12_readRider_b86 (y_tape : TapeT) (v1 : Int32) (v2 : Int32) (v3 : Int32) (v4 : Int32) (v5 : Int32) (z0 : MOT) (z2 : BusT) : Option (MOT × BusT) := (f_X12_eatsWord z0 y_tape 23).bind fun r9 => f_X12_readRider_b94 y_tape v1 v2 v3 v4 v5 r9.1 r9.2 z2
noncomputable def f_X12_readRider_b74 (y_tape : TapeT) (v1 : Int32) (v2 : Int32) (v3 : Int32) (v4 : Int32) (z0 : MOT) (z2 : BusT) : Option (MOT × BusT) := (f_X12_readPart z0 y_tape 29 (0 : Int32) (99 : Int32)).bind fun r8 => f_X12_readRider_b86 y_tape v1 v2 v3 v4 r8.1 r8.2 z2
noncomputable def f_X12_readRider_b62 (y_tape : TapeT) (v1 : Int32) (v2 : Int32) (v3 : Int32) (z0 : MOT) (z2 : BusT) : Option (MOT × BusT) := (f_X12_readPart z0 y_tape 28 (0 : Int32) (9 : Int32)).bind fun r7 => f_X12_readRider_b74 y_tape v1 v2 v3 r7.1 r7.2 z2
noncomputable def f_X12_readRider_b56 (y_tape : TapeT) (v1 : Int32) (v2 : Int32) (z0 : MOT) (z2 : BusT) : Option (MOT × BusT) := (f_X12_readKnown z0 y_tape z2 (0 : Int32)).bind fun r6 => f_X12_readRider_b62 y_tape v1 v2 r6.1 r6.2 z2
noncomputable def f_X12_readRider_b49 (y_tape : TapeT) (v1 : Int32) (v2 : Int32) (z0 : MOT) (z2 : BusT) : Option (MOT × BusT) := (f_X12_needs z0 y_tape 27).bind fun r5 => f_X12_readRider_b56 y_tape v1 v2 r5 z2
noncomputable def f_X12_readRider_b36 (y_tape : TapeT) (v1 : Int32) (z0 : MOT) (z2 : BusT) : Option (MOT × BusT) := (f_X12_readPart z0 y_tape 26 (v1 + (1 : Int32)) (11 : Int32)).bind fun r4 => f_X12_readRider_b49 y_tape v1 r4.1 r4.2 z2
noncomputable def f_X12_readRider_b25 (y_tape : TapeT) (z0 : MOT) (z2 : BusT) : Option (MOT × BusT) := (f_X12_readPart z0 y_tape 25 (0 : Int32) (10 : Int32)).bind fun r3 => f_X12_readRider_b36 y_tape r3.1 r3.2 z2
noncomputable def f_X12_readRider_b13 (y_tape : TapeT) (z0 : MOT) (z2 : BusT) : Option (MOT × BusT) := (f_X12_readFresh z0 y_tape z2 (1 : Int32) (bu_riders z2)).bind fun r2 => f_X12_readRider_b25 y_tape r2.1 r2.2
noncomputable def f_X12_readRider (mo : MOT) (y_tape : TapeT) (bu : BusT) : Option (MOT × BusT) := (f_X12_begins mo y_tape (bu_riders bu) (8 : Int32)).bind fun r1 => f_X12_readRider_b13 y_tape r1 bu
set_option maxHeartbeats 4000000 in
set_option maxRecDepth 100000 in
theorem c_X12_readRider (l : Launch) (D : va_G) (dA : Nat → ClassId) (sz : Nat) (a : Nat → Nat) (ta : Nat → Nat) (ba : Nat → Nat) (q0 : Option Nat) (g3 : Nat) (g4 : Nat) (g5 : Nat) (g6 : Nat) (g7 : Nat) (g8 : Nat) (g9 : Nat) (g10 : Nat) (g11 : Nat) (g12 : Nat) (g13 : Nat) (g14 : Nat) (g15 : Nat) (g16 : Nat) (g17 : Nat) (g18 : Nat) (mo : MOT) (y_tape : TapeT) (bu : BusT) (u0 : MOT) (u2 : BusT) (hf : f_X12_readRider mo y_tape bu = some (u0, u2)) : kb_Mv l yX12_readRider cX12_readRider 9 none ({ frames := 10, cells := 0, slots := 0, locals := 213 } : Room) D dA [.ref (a 0)] sz (w_MO dA a q0 (some (ba 0)) (ta 0) g3 g4 g5 g6 g7 g8 g9 g10 g11 g12 g13 g14 g15 g16 g17 g18 mo ++ (w_Tape dA ta y_tape ++ (w_Bus dA ba bu))) 0 0 (w_MO dA a q0 (some (ba 0)) (ta 0) g3 g4 g5 g6 g7 g8 g9 g10 g11 g12 g13 g14 g15 g16 g17 g18 u0 ++ (w_Tape dA ta y_tape ++ (w_Bus dA ba u2))) := by
  refine Met.ofW (cc := cX12_readRider) (maxL := 9) (ret := none) (by decide) rfl ?_
  intro p e s m args below meth c s₁ B hml hv
  obtain ⟨rfl, hsz, hP, hK, hD0, hE⟩ := hv
  have hx := B.exec
  have hb := B.bytes
  have hr := B.returns
  have hown : s.vm.findClass RX12 = some m.cls := findClass_of_methodNamed B.named
  have hlocks := B.notSynchronized
  have hts : ∀ w ∈ kb_gw, w.before ([.ref (a 0)] : List Value).toArray s = true := fun w hw => hK.2.1 w hw _
  subst hsz
  have hD := hD0.self (sz := s.heap.size)
  generalize hAe : va_A (w_MO dA a q0 (some (ba 0)) (ta 0) g3 g4 g5 g6 g7 g8 g9 g10 g11 g12 g13 g14 g15 g16 g17 g18 mo ++ (w_Tape dA ta y_tape ++ (w_Bus dA ba bu))) s.heap.size = A at hD hE ⊢
  have hA : ∀ q : Nat, s.heap.size ≤ q → A q := fun q h => by rw [← hAe]; exact Or.inr h
  have hS : va_S A s.heap s.heap [] := va_S.rf
  have hl := lv_entry ([.ref (a 0)]) (n := 9) (Nat.le_of_ble_eq_true rfl)
  rw [lg_entry_eq]
  generalize (lg_sl ([.ref (a 0)]) ++ List.replicate (9 - (lg_sl ([.ref (a 0)])).length) Slot.unset).toArray = ls at hl ⊢
  have hl : lv_has ls 9 [(0, .ref (a 0))] := hl
  generalize hQ : MQ below (va_Qv (fun (_ : Unit) => True) (kb_B D A (w_MO dA a q0 (some (ba 0)) (ta 0) g3 g4 g5 g6 g7 g8 g9 g10 g11 g12 g13 g14 g15 g16 g17 g18 u0 ++ (w_Tape dA ta y_tape ++ (w_Bus dA ba u2)))) A) ([.ref (a 0)] : List Value).toArray s 0 0 A = Q
  show W p l e ({ frames := 10, cells := 0, slots := 0, locals := 213 } : Room) s m ([.ref (a 0)] : List Value).toArray below meth c s.heap [] 0 0 Q (F0 m 0 ls [])
  have RET : ∀ (w0 : MOT) (w2 : BusT) (H : Heap) (locs : List Loc) (ls : Array Slot) (pc : Nat), some (w0, w2) = some (u0, u2) → va_P D vwCl (w_MO dA a q0 (some (ba 0)) (ta 0) g3 g4 g5 g6 g7 g8 g9 g10 g11 g12 g13 g14 g15 g16 g17 g18 w0 ++ (w_Tape dA ta y_tape ++ (w_Bus dA ba w2))) H → va_D A (w_MO dA a q0 (some (ba 0)) (ta 0) g3 g4 g5 g6 g7 g8 g9 g10 g11 g12 g13 g14 g15 g16 g17 g18 w0 ++ (w_Tape dA ta y_tape ++ (w_Bus dA ba w2))) → va_S A s.heap H locs → decode cX12_readRider pc = .ok (.return_, 1) → W p l e ({ frames := 10, cells := 0, slots := 0, locals := 213 } : Room) s m ([.ref (a 0)] : List Value).toArray below meth c H locs 0 0 Q (F0 m pc ls []) := by
    intro w0 w2 H locs ls pc hq hP hD hS hd
    cases hq
    rw [← hQ]
    exact W.vret hx hb hr (fun t ht hW => ⟨⟨(), rfl, trivial, by rw [ht]; exact hP, hD⟩, hS.F ht⟩) hS.2.2 hd
  have B_225 : ∀ (z0 : MOT) (z2 : BusT) (H : Heap) (locs : List Loc) (ls : Array Slot), f_X12_readRider_b225 y_tape z0 z2 = some (u0, u2) → va_P D vwCl (w_MO dA a q0 (some (ba 0)) (ta 0) g3 g4 g5 g6 g7 g8 g9 g10 g11 g12 g13 g14 g15 g16 g17 g18 z0 ++ (w_Tape dA ta y_tape ++ (w_Bus dA ba z2))) H → va_D A (w_MO dA a q0 (some (ba 0)) (ta 0) g3 g4 g5 g6 g7 g8 g9 g10 g11 g12 g13 g14 g15 g16 g17 g18 z0 ++ (w_Tape dA ta y_tape ++ (w_Bus dA ba z2))) → va_S A s.heap H locs → lv_has ls 9 [] → W p l e ({ frames := 10, cells := 0, slots := 0, locals := 213 } : Room) s m ([.ref (a 0)] : List Value).toArray below meth c H locs 0 0 Q (F0 m 225 ls []) := by
    intro z0 z2 H locs ls hf hP hD hS hl
    rw [f_X12_readRider_b225] at hf
    exact RET _ _ H _ ls 225 hf hP hD hS dX12_readRider_225
  have B_212 : ∀ (z0 : MOT) (z2 : BusT) (H : Heap) (locs : List Loc) (ls : Array Slot), f_X12_readRider_b212 y_tape z0 z2 = some (u0, u2) → va_P D vwCl (w_MO dA a q0 (some (ba 0)) (ta 0) g3 g4 g5 g6 g7 g8 g9 g10 g11 g12 g13 g14 g15 g16 g17 g18 z0 ++ (w_Tape dA ta y_tape ++ (w_Bus dA ba z2))) H → va_D A (w_MO dA a q0 (some (ba 0)) (ta 0) g3 g4 g5 g6 g7 g8 g9 g10 g11 g12 g13 g14 g15 g16 g17 g18 z0 ++ (w_Tape dA ta y_tape ++ (w_Bus dA ba z2))) → va_S A s.heap H locs → lv_has ls 9 [(0, .ref (a 0))] → W p l e ({ frames := 10, cells := 0, slots := 0, locals := 213 } : Room) s m ([.ref (a 0)] : List Value).toArray below meth c H locs 0 0 Q (F0 m 212 ls []) := by
    intro z0 z2 H locs ls hf hP hD hS hl
    rw [f_X12_readRider_b212] at hf
    refine lv_aload_n hx hb dX12_readRider_212 rfl (lv_at hl 0 rfl) ?_
    refine va_get (D := D) (ci := 12) (v := .ref (ba 0)) (C := RX12) (T := TX12) (N := 35) hx hb hts kb_inX12 hown hK.1 hP 0 rfl rfl 4 (by decide) (hK.2.w ww_5_204 rfl _) (fun _ h9 => h9) rfl dX12_readRider_213 ?_
    refine lv_dup hx hb dX12_readRider_216 rfl ?_
    refine va_getN (D := D) (ci := 11) (v := .int (bu_riders z2)) (C := RX11) (T := TX11) (N := 26) hx hb hts kb_inX11 hown hK.1 hP 2 rfl rfl 7 (by decide) (hK.2.nb ww_6_96 rfl rfl _) (fun _ h9 => h9) rfl dX12_readRider_217 ?_
    refine lv_iconst (v := (1 : Int32)) hx hb dX12_readRider_220 (by decide) ?_
    refine lv_iadd hx hb dX12_readRider_221 ?_
    refine va_putN (D := D) (ci := 11) (v := .int ((bu_riders z2) + (1 : Int32))) (ty := .int) (C := RX11) (T := TX11) (N := 26) hx hb hts kb_inX11 tyX11 tyX11_ok nmX11 hown hK.1 hP hD hS 2 rfl rfl 7 (by decide) (hK.2.nb ww_6_96 rfl rfl _) (fun _ h9 => h9) rfl (by decide +kernel) rfl rfl (Nat.le_of_ble_eq_true rfl) dX12_readRider_222 (fun H locs hP hD hS => ?_)
    have hP : va_P D vwCl (w_MO dA a q0 (some (ba 0)) (ta 0) g3 g4 g5 g6 g7 g8 g9 g10 g11 g12 g13 g14 g15 g16 g17 g18 z0 ++ (w_Tape dA ta y_tape ++ (w_Bus dA ba (bu_set_riders z2 ((bu_riders z2) + (1 : Int32)))))) H := hP
    have hD : va_D A (w_MO dA a q0 (some (ba 0)) (ta 0) g3 g4 g5 g6 g7 g8 g9 g10 g11 g12 g13 g14 g15 g16 g17 g18 z0 ++ (w_Tape dA ta y_tape ++ (w_Bus dA ba (bu_set_riders z2 ((bu_riders z2) + (1 : Int32)))))) := hD
    exact B_225 _ _ _ _ _ hf hP hD hS (lv_sub hl [] rfl)
  have B_200 : ∀ (v7 : Int32) (v8 : Int32) (z0 : MOT) (z2 : BusT) (H : Heap) (locs : List Loc) (ls : Array Slot), f_X12_readRider_b200 y_tape v7 v8 z0 z2 = some (u0, u2) → va_P D vwCl (w_MO dA a q0 (some (ba 0)) (ta 0) g3 g4 g5 g6 g7 g8 g9 g10 g11 g12 g13 g14 g15 g16 g17 g18 z0 ++ (w_Tape dA ta y_tape ++ (w_Bus dA ba z2))) H → va_D A (w_MO dA a q0 (some (ba 0)) (ta 0) g3 g4 g5 g6 g7 g8 g9 g10 g11 g12 g13 g14 g15 g16 g17 g18 z0 ++ (w_Tape dA ta y_tape ++ (w_Bus dA ba z2))) → va_S A s.heap H locs → lv_has ls 9 [(0, .ref (a 0)), (7, .int v7), (8, .int v8)] → W p l e ({ frames := 10, cells := 0, slots := 0, locals := 213 } : Room) s m ([.ref (a 0)] : List Value).toArray below meth c H locs 0 0 Q (F0 m 200 ls []) := by
    intro v7 v8 z0 z2 H locs ls hf hP hD hS hl
    rw [f_X12_readRider_b200] at hf
    refine lv_aload_n hx hb dX12_readRider_200 rfl (lv_at hl 0 rfl) ?_
    refine va_get (D := D) (ci := 12) (v := .ref (ba 0)) (C := RX12) (T := TX12) (N := 35) hx hb hts kb_inX12 hown hK.1 hP 0 rfl rfl 4 (by decide) (hK.2.w ww_5_204 rfl _) (fun _ h9 => h9) rfl dX12_readRider_201 ?_
    refine va_getN (D := D) (ci := 11) (v := .ref (ba 10)) (C := RX11) (T := TX11) (N := 26) hx hb hts kb_inX11 hown hK.1 hP 2 rfl rfl 20 (by decide) (hK.2.nb ww_6_121 rfl rfl _) (fun _ h9 => h9) rfl dX12_readRider_204 ?_
    refine lv_iload hx hb dX12_readRider_207 (lv_at hl 2 rfl) ?_
    refine lv_iload hx hb dX12_readRider_209 (lv_at hl 1 rfl) ?_
    obtain ⟨h_19, hf⟩ := kb_if hf
    refine va_zast (D := D) hx hb hK.1 hP hD hS 12 3 rfl rfl h_19 dX12_readRider_211 (fun H locs hP hD hS => ?_)
    have hP : va_P D vwCl (w_MO dA a q0 (some (ba 0)) (ta 0) g3 g4 g5 g6 g7 g8 g9 g10 g11 g12 g13 g14 g15 g16 g17 g18 z0 ++ (w_Tape dA ta y_tape ++ (w_Bus dA ba (bu_set_isProud z2 (upd (bu_isProud z2) (v8).toNatClampNeg (vp_nar .boolean v7)))))) H := hP
    have hD : va_D A (w_MO dA a q0 (some (ba 0)) (ta 0) g3 g4 g5 g6 g7 g8 g9 g10 g11 g12 g13 g14 g15 g16 g17 g18 z0 ++ (w_Tape dA ta y_tape ++ (w_Bus dA ba (bu_set_isProud z2 (upd (bu_isProud z2) (v8).toNatClampNeg (vp_nar .boolean v7)))))) := hD
    exact B_212 _ _ _ _ _ hf hP hD hS (lv_sub hl [0] rfl)
  have B_188 : ∀ (v6 : Int32) (v7 : Int32) (v8 : Int32) (z0 : MOT) (z2 : BusT) (H : Heap) (locs : List Loc) (ls : Array Slot), f_X12_readRider_b188 y_tape v6 v7 v8 z0 z2 = some (u0, u2) → va_P D vwCl (w_MO dA a q0 (some (ba 0)) (ta 0) g3 g4 g5 g6 g7 g8 g9 g10 g11 g12 g13 g14 g15 g16 g17 g18 z0 ++ (w_Tape dA ta y_tape ++ (w_Bus dA ba z2))) H → va_D A (w_MO dA a q0 (some (ba 0)) (ta 0) g3 g4 g5 g6 g7 g8 g9 g10 g11 g12 g13 g14 g15 g16 g17 g18 z0 ++ (w_Tape dA ta y_tape ++ (w_Bus dA ba z2))) → va_S A s.heap H locs → lv_has ls 9 [(0, .ref (a 0)), (6, .int v6), (7, .int v7), (8, .int v8)] → W p l e ({ frames := 10, cells := 0, slots := 0, locals := 213 } : Room) s m ([.ref (a 0)] : List Value).toArray below meth c H locs 0 0 Q (F0 m 188 ls []) := by
    intro v6 v7 v8 z0 z2 H locs ls hf hP hD hS hl
    rw [f_X12_readRider_b188] at hf
    refine lv_aload_n hx hb dX12_readRider_188 rfl (lv_at hl 0 rfl) ?_
    refine va_get (D := D) (ci := 12) (v := .ref (ba 0)) (C := RX12) (T := TX12) (N := 35) hx hb hts kb_inX12 hown hK.1 hP 0 rfl rfl 4 (by decide) (hK.2.w ww_5_204 rfl _) (fun _ h9 => h9) rfl dX12_readRider_189 ?_
    refine va_getN (D := D) (ci := 11) (v := .ref (ba 9)) (C := RX11) (T := TX11) (N := 26) hx hb hts kb_inX11 hown hK.1 hP 2 rfl rfl 19 (by decide) (hK.2.nb ww_6_119 rfl rfl _) (fun _ h9 => h9) rfl dX12_readRider_192 ?_
    refine lv_iload hx hb dX12_readRider_195 (lv_at hl 3 rfl) ?_
    refine lv_iload hx hb dX12_readRider_197 (lv_at hl 1 rfl) ?_
    obtain ⟨h_18, hf⟩ := kb_if hf
    refine va_zast (D := D) hx hb hK.1 hP hD hS 11 3 rfl rfl h_18 dX12_readRider_199 (fun H locs hP hD hS => ?_)
    have hP : va_P D vwCl (w_MO dA a q0 (some (ba 0)) (ta 0) g3 g4 g5 g6 g7 g8 g9 g10 g11 g12 g13 g14 g15 g16 g17 g18 z0 ++ (w_Tape dA ta y_tape ++ (w_Bus dA ba (bu_set_hasBag z2 (upd (bu_hasBag z2) (v8).toNatClampNeg (vp_nar .boolean v6)))))) H := hP
    have hD : va_D A (w_MO dA a q0 (some (ba 0)) (ta 0) g3 g4 g5 g6 g7 g8 g9 g10 g11 g12 g13 g14 g15 g16 g17 g18 z0 ++ (w_Tape dA ta y_tape ++ (w_Bus dA ba (bu_set_hasBag z2 (upd (bu_hasBag z2) (v8).toNatClampNeg (vp_nar .boolean v6)))))) := hD
    exact B_200 _ _ _ _ _ _ _ hf hP hD hS (lv_sub hl [0, 2, 3] rfl)
  have B_177 : ∀ (v6 : Int32) (v7 : Int32) (v8 : Int32) (z0 : MOT) (z2 : BusT) (H : Heap) (locs : List Loc) (ls : Array Slot), f_X12_readRider_b177 y_tape v6 v7 v8 z0 z2 = some (u0, u2) → va_P D vwCl (w_MO dA a q0 (some (ba 0)) (ta 0) g3 g4 g5 g6 g7 g8 g9 g10 g11 g12 g13 g14 g15 g16 g17 g18 z0 ++ (w_Tape dA ta y_tape ++ (w_Bus dA ba z2))) H → va_D A (w_MO dA a q0 (some (ba 0)) (ta 0) g3 g4 g5 g6 g7 g8 g9 g10 g11 g12 g13 g14 g15 g16 g17 g18 z0 ++ (w_Tape dA ta y_tape ++ (w_Bus dA ba z2))) → va_S A s.heap H locs → lv_has ls 9 [(0, .ref (a 0)), (6, .int v6), (7, .int v7), (8, .int v8)] → W p l e ({ frames := 10, cells := 0, slots := 0, locals := 213 } : Room) s m ([.ref (a 0)] : List Value).toArray below meth c H locs 0 0 Q (F0 m 177 ls []) := by
    intro v6 v7 v8 z0 z2 H locs ls hf hP hD hS hl
    rw [f_X12_readRider_b177] at hf
    refine lv_aload_n hx hb dX12_readRider_177 rfl (lv_at hl 0 rfl) ?_
    refine va_get (D := D) (ci := 12) (v := .ref (ba 0)) (C := RX12) (T := TX12) (N := 35) hx hb hts kb_inX12 hown hK.1 hP 0 rfl rfl 4 (by decide) (hK.2.w ww_5_204 rfl _) (fun _ h9 => h9) rfl dX12_readRider_178 ?_
    refine va_getN (D := D) (ci := 11) (v := .ref (ba 8)) (C := RX11) (T := TX11) (N := 26) hx hb hts kb_inX11 hown hK.1 hP 2 rfl rfl 18 (by decide) (hK.2.nb ww_6_117 rfl rfl _) (fun _ h9 => h9) rfl dX12_readRider_181 ?_
    refine lv_iload hx hb dX12_readRider_184 (lv_at hl 3 rfl) ?_
    refine lv_iconst (v := (-1 : Int32)) hx hb dX12_readRider_186 (by decide) ?_
    obtain ⟨h_17, hf⟩ := kb_if hf
    refine va_iast (D := D) hx hb hK.1 hP hD hS 10 0 rfl rfl h_17 dX12_readRider_187 (fun H locs hP hD hS => ?_)
    have hP : va_P D vwCl (w_MO dA a q0 (some (ba 0)) (ta 0) g3 g4 g5 g6 g7 g8 g9 g10 g11 g12 g13 g14 g15 g16 g17 g18 z0 ++ (w_Tape dA ta y_tape ++ (w_Bus dA ba (bu_set_holds z2 (upd (bu_holds z2) (v8).toNatClampNeg (-1 : Int32)))))) H := hP
    have hD : va_D A (w_MO dA a q0 (some (ba 0)) (ta 0) g3 g4 g5 g6 g7 g8 g9 g10 g11 g12 g13 g14 g15 g16 g17 g18 z0 ++ (w_Tape dA ta y_tape ++ (w_Bus dA ba (bu_set_holds z2 (upd (bu_holds z2) (v8).toNatClampNeg (-1 : Int32)))))) := hD
    exact B_188 _ _ _ _ _ _ _ _ hf hP hD hS (lv_sub hl [0, 1, 2, 3] rfl)
  have B_165 : ∀ (v5 : Int32) (v6 : Int32) (v7 : Int32) (v8 : Int32) (z0 : MOT) (z2 : BusT) (H : Heap) (locs : List Loc) (ls : Array Slot), f_X12_readRider_b165 y_tape v5 v6 v7 v8 z0 z2 = some (u0, u2) → va_P D vwCl (w_MO dA a q0 (some (ba 0)) (ta 0) g3 g4 g5 g6 g7 g8 g9 g10 g11 g12 g13 g14 g15 g16 g17 g18 z0 ++ (w_Tape dA ta y_tape ++ (w_Bus dA ba z2))) H → va_D A (w_MO dA a q0 (some (ba 0)) (ta 0) g3 g4 g5 g6 g7 g8 g9 g10 g11 g12 g13 g14 g15 g16 g17 g18 z0 ++ (w_Tape dA ta y_tape ++ (w_Bus dA ba z2))) → va_S A s.heap H locs → lv_has ls 9 [(0, .ref (a 0)), (5, .int v5), (6, .int v6), (7, .int v7), (8, .int v8)] → W p l e ({ frames := 10, cells := 0, slots := 0, locals := 213 } : Room) s m ([.ref (a 0)] : List Value).toArray below meth c H locs 0 0 Q (F0 m 165 ls []) := by
    intro v5 v6 v7 v8 z0 z2 H locs ls hf hP hD hS hl
    rw [f_X12_readRider_b165] at hf
    refine lv_aload_n hx hb dX12_readRider_165 rfl (lv_at hl 0 rfl) ?_
    refine va_get (D := D) (ci := 12) (v := .ref (ba 0)) (C := RX12) (T := TX12) (N := 35) hx hb hts kb_inX12 hown hK.1 hP 0 rfl rfl 4 (by decide) (hK.2.w ww_5_204 rfl _) (fun _ h9 => h9) rfl dX12_readRider_166 ?_
    refine va_getN (D := D) (ci := 11) (v := .ref (ba 7)) (C := RX11) (T := TX11) (N := 26) hx hb hts kb_inX11 hown hK.1 hP 2 rfl rfl 17 (by decide) (hK.2.nb ww_6_115 rfl rfl _) (fun _ h9 => h9) rfl dX12_readRider_169 ?_
    refine lv_iload hx hb dX12_readRider_172 (lv_at hl 4 rfl) ?_
    refine lv_iload hx hb dX12_readRider_174 (lv_at hl 1 rfl) ?_
    obtain ⟨h_16, hf⟩ := kb_if hf
    refine va_iast (D := D) hx hb hK.1 hP hD hS 9 0 rfl rfl h_16 dX12_readRider_176 (fun H locs hP hD hS => ?_)
    have hP : va_P D vwCl (w_MO dA a q0 (some (ba 0)) (ta 0) g3 g4 g5 g6 g7 g8 g9 g10 g11 g12 g13 g14 g15 g16 g17 g18 z0 ++ (w_Tape dA ta y_tape ++ (w_Bus dA ba (bu_set_age z2 (upd (bu_age z2) (v8).toNatClampNeg v5))))) H := hP
    have hD : va_D A (w_MO dA a q0 (some (ba 0)) (ta 0) g3 g4 g5 g6 g7 g8 g9 g10 g11 g12 g13 g14 g15 g16 g17 g18 z0 ++ (w_Tape dA ta y_tape ++ (w_Bus dA ba (bu_set_age z2 (upd (bu_age z2) (v8).toNatClampNeg v5))))) := hD
    exact B_177 _ _ _ _ _ _ _ _ hf hP hD hS (lv_sub hl [0, 2, 3, 4] rfl)
  have B_153 : ∀ (v4 : Int32) (v5 : Int32) (v6 : Int32) (v7 : Int32) (v8 : Int32) (z0 : MOT) (z2 : BusT) (H : Heap) (locs : List Loc) (ls : Array Slot), f_X12_readRider_b153 y_tape v4 v5 v6 v7 v8 z0 z2 = some (u0, u2) → va_P D vwCl (w_MO dA a q0 (some (ba 0)) (ta 0) g3 g4 g5 g6 g7 g8 g9 g10 g11 g12 g13 g14 g15 g16 g17 g18 z0 ++ (w_Tape dA ta y_tape ++ (w_Bus dA ba z2))) H → va_D A (w_MO dA a q0 (some (ba 0)) (ta 0) g3 g4 g5 g6 g7 g8 g9 g10 g11 g12 g13 g14 g15 g16 g17 g18 z0 ++ (w_Tape dA ta y_tape ++ (w_Bus dA ba z2))) → va_S A s.heap H locs → lv_has ls 9 [(0, .ref (a 0)), (4, .int v4), (5, .int v5), (6, .int v6), (7, .int v7), (8, .int v8)] → W p l e ({ frames := 10, cells := 0, slots := 0, locals := 213 } : Room) s m ([.ref (a 0)] : List Value).toArray below meth c H locs 0 0 Q (F0 m 153 ls []) := by
    intro v4 v5 v6 v7 v8 z0 z2 H locs ls hf hP hD hS hl
    rw [f_X12_readRider_b153] at hf
    refine lv_aload_n hx hb dX12_readRider_153 rfl (lv_at hl 0 rfl) ?_
    refine va_get (D := D) (ci := 12) (v := .ref (ba 0)) (C := RX12) (T := TX12) (N := 35) hx hb hts kb_inX12 hown hK.1 hP 0 rfl rfl 4 (by decide) (hK.2.w ww_5_204 rfl _) (fun _ h9 => h9) rfl dX12_readRider_154 ?_
    refine va_getN (D := D) (ci := 11) (v := .ref (ba 6)) (C := RX11) (T := TX11) (N := 26) hx hb hts kb_inX11 hown hK.1 hP 2 rfl rfl 16 (by decide) (hK.2.nb ww_6_113 rfl rfl _) (fun _ h9 => h9) rfl dX12_readRider_157 ?_
    refine lv_iload hx hb dX12_readRider_160 (lv_at hl 5 rfl) ?_
    refine lv_iload hx hb dX12_readRider_162 (lv_at hl 1 rfl) ?_
    obtain ⟨h_15, hf⟩ := kb_if hf
    refine va_iast (D := D) hx hb hK.1 hP hD hS 8 0 rfl rfl h_15 dX12_readRider_164 (fun H locs hP hD hS => ?_)
    have hP : va_P D vwCl (w_MO dA a q0 (some (ba 0)) (ta 0) g3 g4 g5 g6 g7 g8 g9 g10 g11 g12 g13 g14 g15 g16 g17 g18 z0 ++ (w_Tape dA ta y_tape ++ (w_Bus dA ba (bu_set_looks z2 (upd (bu_looks z2) (v8).toNatClampNeg v4))))) H := hP
    have hD : va_D A (w_MO dA a q0 (some (ba 0)) (ta 0) g3 g4 g5 g6 g7 g8 g9 g10 g11 g12 g13 g14 g15 g16 g17 g18 z0 ++ (w_Tape dA ta y_tape ++ (w_Bus dA ba (bu_set_looks z2 (upd (bu_looks z2) (v8).toNatClampNeg v4))))) := hD
    exact B_165 _ _ _ _ _ _ _ _ _ hf hP hD hS (lv_sub hl [0, 2, 3, 4, 5] rfl)
  have B_142 : ∀ (v3 : Int32) (v4 : Int32) (v5 : Int32) (v6 : Int32) (v7 : Int32) (v8 : Int32) (z0 : MOT) (z2 : BusT) (H : Heap) (locs : List Loc) (ls : Array Slot), f_X12_readRider_b142 y_tape v3 v4 v5 v6 v7 v8 z0 z2 = some (u0, u2) → va_P D vwCl (w_MO dA a q0 (some (ba 0)) (ta 0) g3 g4 g5 g6 g7 g8 g9 g10 g11 g12 g13 g14 g15 g16 g17 g18 z0 ++ (w_Tape dA ta y_tape ++ (w_Bus dA ba z2))) H → va_D A (w_MO dA a q0 (some (ba 0)) (ta 0) g3 g4 g5 g6 g7 g8 g9 g10 g11 g12 g13 g14 g15 g16 g17 g18 z0 ++ (w_Tape dA ta y_tape ++ (w_Bus dA ba z2))) → va_S A s.heap H locs → lv_has ls 9 [(0, .ref (a 0)), (3, .int v3), (4, .int v4), (5, .int v5), (6, .int v6), (7, .int v7), (8, .int v8)] → W p l e ({ frames := 10, cells := 0, slots := 0, locals := 213 } : Room) s m ([.ref (a 0)] : List Value).toArray below meth c H locs 0 0 Q (F0 m 142 ls []) := by
    intro v3 v4 v5 v6 v7 v8 z0 z2 H locs ls hf hP hD hS hl
    rw [f_X12_readRider_b142] at hf
    refine lv_aload_n hx hb dX12_readRider_142 rfl (lv_at hl 0 rfl) ?_
    refine va_get (D := D) (ci := 12) (v := .ref (ba 0)) (C := RX12) (T := TX12) (N := 35) hx hb hts kb_inX12 hown hK.1 hP 0 rfl rfl 4 (by decide) (hK.2.w ww_5_204 rfl _) (fun _ h9 => h9) rfl dX12_readRider_143 ?_
    refine va_getN (D := D) (ci := 11) (v := .ref (ba 5)) (C := RX11) (T := TX11) (N := 26) hx hb hts kb_inX11 hown hK.1 hP 2 rfl rfl 15 (by decide) (hK.2.nb ww_6_111 rfl rfl _) (fun _ h9 => h9) rfl dX12_readRider_146 ?_
    refine lv_iload hx hb dX12_readRider_149 (lv_at hl 6 rfl) ?_
    refine lv_iload_n hx hb dX12_readRider_151 rfl (lv_at hl 1 rfl) ?_
    obtain ⟨h_14, hf⟩ := kb_if hf
    refine va_iast (D := D) hx hb hK.1 hP hD hS 7 0 rfl rfl h_14 dX12_readRider_152 (fun H locs hP hD hS => ?_)
    have hP : va_P D vwCl (w_MO dA a q0 (some (ba 0)) (ta 0) g3 g4 g5 g6 g7 g8 g9 g10 g11 g12 g13 g14 g15 g16 g17 g18 z0 ++ (w_Tape dA ta y_tape ++ (w_Bus dA ba (bu_set_rule z2 (upd (bu_rule z2) (v8).toNatClampNeg v3))))) H := hP
    have hD : va_D A (w_MO dA a q0 (some (ba 0)) (ta 0) g3 g4 g5 g6 g7 g8 g9 g10 g11 g12 g13 g14 g15 g16 g17 g18 z0 ++ (w_Tape dA ta y_tape ++ (w_Bus dA ba (bu_set_rule z2 (upd (bu_rule z2) (v8).toNatClampNeg v3))))) := hD
    exact B_153 _ _ _ _ _ _ _ _ _ _ hf hP hD hS (lv_sub hl [0, 2, 3, 4, 5, 6] rfl)
  have B_131 : ∀ (v2 : Int32) (v3 : Int32) (v4 : Int32) (v5 : Int32) (v6 : Int32) (v7 : Int32) (v8 : Int32) (z0 : MOT) (z2 : BusT) (H : Heap) (locs : List Loc) (ls : Array Slot), f_X12_readRider_b131 y_tape v2 v3 v4 v5 v6 v7 v8 z0 z2 = some (u0, u2) → va_P D vwCl (w_MO dA a q0 (some (ba 0)) (ta 0) g3 g4 g5 g6 g7 g8 g9 g10 g11 g12 g13 g14 g15 g16 g17 g18 z0 ++ (w_Tape dA ta y_tape ++ (w_Bus dA ba z2))) H → va_D A (w_MO dA a q0 (some (ba 0)) (ta 0) g3 g4 g5 g6 g7 g8 g9 g10 g11 g12 g13 g14 g15 g16 g17 g18 z0 ++ (w_Tape dA ta y_tape ++ (w_Bus dA ba z2))) → va_S A s.heap H locs → lv_has ls 9 [(0, .ref (a 0)), (2, .int v2), (3, .int v3), (4, .int v4), (5, .int v5), (6, .int v6), (7, .int v7), (8, .int v8)] → W p l e ({ frames := 10, cells := 0, slots := 0, locals := 213 } : Room) s m ([.ref (a 0)] : List Value).toArray below meth c H locs 0 0 Q (F0 m 131 ls []) := by
    intro v2 v3 v4 v5 v6 v7 v8 z0 z2 H locs ls hf hP hD hS hl
    rw [f_X12_readRider_b131] at hf
    refine lv_aload_n hx hb dX12_readRider_131 rfl (lv_at hl 0 rfl) ?_
    refine va_get (D := D) (ci := 12) (v := .ref (ba 0)) (C := RX12) (T := TX12) (N := 35) hx hb hts kb_inX12 hown hK.1 hP 0 rfl rfl 4 (by decide) (hK.2.w ww_5_204 rfl _) (fun _ h9 => h9) rfl dX12_readRider_132 ?_
    refine va_getN (D := D) (ci := 11) (v := .ref (ba 4)) (C := RX11) (T := TX11) (N := 26) hx hb hts kb_inX11 hown hK.1 hP 2 rfl rfl 14 (by decide) (hK.2.nb ww_6_109 rfl rfl _) (fun _ h9 => h9) rfl dX12_readRider_135 ?_
    refine lv_iload hx hb dX12_readRider_138 (lv_at hl 7 rfl) ?_
    refine lv_iload_n hx hb dX12_readRider_140 rfl (lv_at hl 1 rfl) ?_
    obtain ⟨h_13, hf⟩ := kb_if hf
    refine va_iast (D := D) hx hb hK.1 hP hD hS 6 0 rfl rfl h_13 dX12_readRider_141 (fun H locs hP hD hS => ?_)
    have hP : va_P D vwCl (w_MO dA a q0 (some (ba 0)) (ta 0) g3 g4 g5 g6 g7 g8 g9 g10 g11 g12 g13 g14 g15 g16 g17 g18 z0 ++ (w_Tape dA ta y_tape ++ (w_Bus dA ba (bu_set_off z2 (upd (bu_off z2) (v8).toNatClampNeg v2))))) H := hP
    have hD : va_D A (w_MO dA a q0 (some (ba 0)) (ta 0) g3 g4 g5 g6 g7 g8 g9 g10 g11 g12 g13 g14 g15 g16 g17 g18 z0 ++ (w_Tape dA ta y_tape ++ (w_Bus dA ba (bu_set_off z2 (upd (bu_off z2) (v8).toNatClampNeg v2))))) := hD
    exact B_142 _ _ _ _ _ _ _ _ _ _ _ hf hP hD hS (lv_sub hl [0, 2, 3, 4, 5, 6, 7] rfl)
  have B_102 : ∀ (v1 : Int32) (v2 : Int32) (v3 : Int32) (v4 : Int32) (v5 : Int32) (v6 : Int32) (v7 : Int32) (z0 : MOT) (z2 : BusT) (H : Heap) (locs : List Loc) (ls : Array Slot), f_X12_readRider_b102 y_tape v1 v2 v3 v4 v5 v6 v7 z0 z2 = some (u0, u2) → va_P D vwCl (w_MO dA a q0 (some (ba 0)) (ta 0) g3 g4 g5 g6 g7 g8 g9 g10 g11 g12 g13 g14 g15 g16 g17 g18 z0 ++ (w_Tape dA ta y_tape ++ (w_Bus dA ba z2))) H → va_D A (w_MO dA a q0 (some (ba 0)) (ta 0) g3 g4 g5 g6 g7 g8 g9 g10 g11 g12 g13 g14 g15 g16 g17 g18 z0 ++ (w_Tape dA ta y_tape ++ (w_Bus dA ba z2))) → va_S A s.heap H locs → lv_has ls 9 [(0, .ref (a 0)), (1, .int v1), (2, .int v2), (3, .int v3), (4, .int v4), (5, .int v5), (6, .int v6), (7, .int v7)] → W p l e ({ frames := 10, cells := 0, slots := 0, locals := 213 } : Room) s m ([.ref (a 0)] : List Value).toArray below meth c H locs 0 0 Q (F0 m 102 ls []) := by
    intro v1 v2 v3 v4 v5 v6 v7 z0 z2 H locs ls hf hP hD hS hl
    rw [f_X12_readRider_b102] at hf
    refine lv_aload_n hx hb dX12_readRider_102 rfl (lv_at hl 0 rfl) ?_
    refine va_get (D := D) (ci := 12) (v := .int (mo_sort z0)) (C := RX12) (T := TX12) (N := 35) hx hb hts kb_inX12 hown hK.1 hP 0 rfl rfl 9 (by decide) (hK.2.w ww_5_209 rfl _) (fun _ h9 => h9) rfl dX12_readRider_103 ?_
    refine lv_iconst (v := (5 : Int32)) hx hb dX12_readRider_106 (by decide) ?_
    refine lv_icmp_ne (tgt := 111) hx hb dX12_readRider_107 (by decide) (fun c_11 => ?_) (fun c_11 => ?_)
    · rw [if_neg c_11] at hf
      refine lv_aload_n hx hb dX12_readRider_111 rfl (lv_at hl 0 rfl) ?_
      refine va_get (D := D) (ci := 12) (v := .ref (ba 0)) (C := RX12) (T := TX12) (N := 35) hx hb hts kb_inX12 hown hK.1 hP 0 rfl rfl 4 (by decide) (hK.2.w ww_5_204 rfl _) (fun _ h9 => h9) rfl dX12_readRider_112 ?_
      refine va_getN (D := D) (ci := 11) (v := .int (bu_riders z2)) (C := RX11) (T := TX11) (N := 26) hx hb hts kb_inX11 hown hK.1 hP 2 rfl rfl 7 (by decide) (hK.2.nb ww_6_96 rfl rfl _) (fun _ h9 => h9) rfl dX12_readRider_115 ?_
      refine lv_istore (lv' := [(8, .int (bu_riders z2)), (0, .ref (a 0)), (1, .int v1), (2, .int v2), (3, .int v3), (4, .int v4), (5, .int v5), (6, .int v6), (7, .int v7)]) hx hb dX12_readRider_118 hl (by decide) rfl (fun ls hl => ?_)
      refine lv_aload_n hx hb dX12_readRider_120 rfl (lv_at hl 1 rfl) ?_
      refine va_get (D := D) (ci := 12) (v := .ref (ba 0)) (C := RX12) (T := TX12) (N := 35) hx hb hts kb_inX12 hown hK.1 hP 0 rfl rfl 4 (by decide) (hK.2.w ww_5_204 rfl _) (fun _ h9 => h9) rfl dX12_readRider_121 ?_
      refine va_getN (D := D) (ci := 11) (v := .ref (ba 3)) (C := RX11) (T := TX11) (N := 26) hx hb hts kb_inX11 hown hK.1 hP 2 rfl rfl 13 (by decide) (hK.2.nb ww_6_107 rfl rfl _) (fun _ h9 => h9) rfl dX12_readRider_124 ?_
      refine lv_iload hx hb dX12_readRider_127 (lv_at hl 0 rfl) ?_
      refine lv_iload_n hx hb dX12_readRider_129 rfl (lv_at hl 2 rfl) ?_
      obtain ⟨h_12, hf⟩ := kb_if hf
      refine va_iast (D := D) hx hb hK.1 hP hD hS 5 0 rfl rfl h_12 dX12_readRider_130 (fun H locs hP hD hS => ?_)
      have hP : va_P D vwCl (w_MO dA a q0 (some (ba 0)) (ta 0) g3 g4 g5 g6 g7 g8 g9 g10 g11 g12 g13 g14 g15 g16 g17 g18 z0 ++ (w_Tape dA ta y_tape ++ (w_Bus dA ba (bu_set_on z2 (upd (bu_on z2) ((bu_riders z2)).toNatClampNeg v1))))) H := hP
      have hD : va_D A (w_MO dA a q0 (some (ba 0)) (ta 0) g3 g4 g5 g6 g7 g8 g9 g10 g11 g12 g13 g14 g15 g16 g17 g18 z0 ++ (w_Tape dA ta y_tape ++ (w_Bus dA ba (bu_set_on z2 (upd (bu_on z2) ((bu_riders z2)).toNatClampNeg v1))))) := hD
      exact B_131 _ _ _ _ _ _ _ _ _ _ _ _ hf hP hD hS (lv_sub hl [1, 3, 4, 5, 6, 7, 8, 0] rfl)
    · rw [if_pos c_11] at hf
      exact RET _ _ H _ ls 110 hf hP hD hS dX12_readRider_110
  have B_94 : ∀ (v1 : Int32) (v2 : Int32) (v3 : Int32) (v4 : Int32) (v5 : Int32) (v6 : Int32) (z0 : MOT) (z2 : BusT) (H : Heap) (locs : List Loc) (ls : Array Slot), f_X12_readRider_b94 y_tape v1 v2 v3 v4 v5 v6 z0 z2 = some (u0, u2) → va_P D vwCl (w_MO dA a q0 (some (ba 0)) (ta 0) g3 g4 g5 g6 g7 g8 g9 g10 g11 g12 g13 g14 g15 g16 g17 g18 z0 ++ (w_Tape dA ta y_tape ++ (w_Bus dA ba z2))) H → va_D A (w_MO dA a q0 (some (ba 0)) (ta 0) g3 g4 g5 g6 g7 g8 g9 g10 g11 g12 g13 g14 g15 g16 g17 g18 z0 ++ (w_Tape dA ta y_tape ++ (w_Bus dA ba z2))) → va_S A s.heap H locs → lv_has ls 9 [(0, .ref (a 0)), (1, .int v1), (2, .int v2), (3, .int v3), (4, .int v4), (5, .int v5), (6, .int v6)] → W p l e ({ frames := 10, cells := 0, slots := 0, locals := 213 } : Room) s m ([.ref (a 0)] : List Value).toArray below meth c H locs 0 0 Q (F0 m 94 ls []) := by
    intro v1 v2 v3 v4 v5 v6 z0 z2 H locs ls hf hP hD hS hl
    rw [f_X12_readRider_b94] at hf
    refine lv_aload_n hx hb dX12_readRider_94 rfl (lv_at hl 0 rfl) ?_
    refine va_ldcS (tx := "proud") (q := dA (100 + 24)) hx hb hown (hE.2.2.2 ("BusSeatsModel", 190, "proud", 24) (by decide)) dX12_readRider_95 ?_
    obtain ⟨r10, hc10, hf⟩ := kb_bind hf
    refine kb_ci (ws2 := (w_MO dA a q0 (some (ba 0)) (ta 0) g3 g4 g5 g6 g7 g8 g9 g10 g11 g12 g13 g14 g15 g16 g17 g18 r10.2 ++ (w_Tape dA ta y_tape ++ (w_Bus dA ba z2)))) (kb_rV (n := 1) (As := [.ref (dA (100 + 24))]) (rest := []) hx hb hml hown hK (c_X12_eatsWord l D dA H.size a ta q0 (some (ba 0)) g3 g4 g5 g6 g7 g8 g9 g10 g11 g12 g13 g14 g15 g16 g17 g18 z0 y_tape 24 (by decide) r10.1 r10.2 hc10) ⟨ww_7_74, ww_7_71, ww_7_73, ws_66, ww_1_12, rfl, by decide, by decide⟩ rfl rfl (by decide +kernel) ⟨Nat.le_of_ble_eq_true rfl, Nat.le_of_ble_eq_true rfl⟩ hP hD hS hA hE [0, 1] rfl (by decide) 0 rfl rfl rfl hl.1 rfl (Nat.le_of_ble_eq_true rfl) dX12_readRider_97 ⟨Nat.le_of_ble_eq_true rfl, Nat.le_of_ble_eq_true rfl⟩) hP hD hS hA [0, 1] [2, 3, 4, 5, 6, 7, 8, 9, 10, 11, 12, 13, 14, 15, 16, 17] [16, 17, 0, 1, 2, 3, 4, 5, 6, 7, 8, 9, 10, 11, 12, 13, 14, 15] rfl rfl (by decide) (by decide) rfl (by decide) (fun H locs hP hD hS => ?_)
    refine lv_istore (lv' := [(7, .int r10.1), (0, .ref (a 0)), (1, .int v1), (2, .int v2), (3, .int v3), (4, .int v4), (5, .int v5), (6, .int v6)]) hx hb dX12_readRider_100 hl (by decide) rfl (fun ls hl => ?_)
    exact B_102 _ _ _ _ _ _ _ _ _ _ _ _ hf hP hD hS (lv_sub hl [1, 2, 3, 4, 5, 6, 7, 0] rfl)
  have B_86 : ∀ (v1 : Int32) (v2 : Int32) (v3 : Int32) (v4 : Int32) (v5 : Int32) (z0 : MOT) (z2 : BusT) (H : Heap) (locs : List Loc) (ls : Array Slot), f_X12_readRider_b86 y_tape v1 v2 v3 v4 v5 z0 z2 = some (u0, u2) → va_P D vwCl (w_MO dA a q0 (some (ba 0)) (ta 0) g3 g4 g5 g6 g7 g8 g9 g10 g11 g12 g13 g14 g15 g16 g17 g18 z0 ++ (w_Tape dA ta y_tape ++ (w_Bus dA ba z2))) H → va_D A (w_MO dA a q0 (some (ba 0)) (ta 0) g3 g4 g5 g6 g7 g8 g9 g10 g11 g12 g13 g14 g15 g16 g17 g18 z0 ++ (w_Tape dA ta y_tape ++ (w_Bus dA ba z2))) → va_S A s.heap H locs → lv_has ls 9 [(0, .ref (a 0)), (1, .int v1), (2, .int v2), (3, .int v3), (4, .int v4), (5, .int v5)] → W p l e ({ frames := 10, cells := 0, slots := 0, locals := 213 } : Room) s m ([.ref (a 0)] : List Value).toArray below meth c H locs 0 0 Q (F0 m 86 ls []) := by
    intro v1 v2 v3 v4 v5 z0 z2 H locs ls hf hP hD hS hl
    rw [f_X12_readRider_b86] at hf
    refine lv_aload_n hx hb dX12_readRider_86 rfl (lv_at hl 0 rfl) ?_
    refine va_ldcS (tx := "bag") (q := dA (100 + 23)) hx hb hown (hE.2.2.2 ("BusSeatsModel", 188, "bag", 23) (by decide)) dX12_readRider_87 ?_
    obtain ⟨r9, hc9, hf⟩ := kb_bind hf
    refine kb_ci (ws2 := (w_MO dA a q0 (some (ba 0)) (ta 0) g3 g4 g5 g6 g7 g8 g9 g10 g11 g12 g13 g14 g15 g16 g17 g18 r9.2 ++ (w_Tape dA ta y_tape ++ (w_Bus dA ba z2)))) (kb_rV (n := 1) (As := [.ref (dA (100 + 23))]) (rest := []) hx hb hml hown hK (c_X12_eatsWord l D dA H.size a ta q0 (some (ba 0)) g3 g4 g5 g6 g7 g8 g9 g10 g11 g12 g13 g14 g15 g16 g17 g18 z0 y_tape 23 (by decide) r9.1 r9.2 hc9) ⟨ww_7_74, ww_7_71, ww_7_73, ws_66, ww_1_12, rfl, by decide, by decide⟩ rfl rfl (by decide +kernel) ⟨Nat.le_of_ble_eq_true rfl, Nat.le_of_ble_eq_true rfl⟩ hP hD hS hA hE [0, 1] rfl (by decide) 0 rfl rfl rfl hl.1 rfl (Nat.le_of_ble_eq_true rfl) dX12_readRider_89 ⟨Nat.le_of_ble_eq_true rfl, Nat.le_of_ble_eq_true rfl⟩) hP hD hS hA [0, 1] [2, 3, 4, 5, 6, 7, 8, 9, 10, 11, 12, 13, 14, 15, 16, 17] [16, 17, 0, 1, 2, 3, 4, 5, 6, 7, 8, 9, 10, 11, 12, 13, 14, 15] rfl rfl (by decide) (by decide) rfl (by decide) (fun H locs hP hD hS => ?_)
    refine lv_istore (lv' := [(6, .int r9.1), (0, .ref (a 0)), (1, .int v1), (2, .int v2), (3, .int v3), (4, .int v4), (5, .int v5)]) hx hb dX12_readRider_92 hl (by decide) rfl (fun ls hl => ?_)
    exact B_94 _ _ _ _ _ _ _ _ _ _ _ hf hP hD hS (lv_sub hl [1, 2, 3, 4, 5, 6, 0] rfl)
  have B_74 : ∀ (v1 : Int32) (v2 : Int32) (v3 : Int32) (v4 : Int32) (z0 : MOT) (z2 : BusT) (H : Heap) (locs : List Loc) (ls : Array Slot), f_X12_readRider_b74 y_tape v1 v2 v3 v4 z0 z2 = some (u0, u2) → va_P D vwCl (w_MO dA a q0 (some (ba 0)) (ta 0) g3 g4 g5 g6 g7 g8 g9 g10 g11 g12 g13 g14 g15 g16 g17 g18 z0 ++ (w_Tape dA ta y_tape ++ (w_Bus dA ba z2))) H → va_D A (w_MO dA a q0 (some (ba 0)) (ta 0) g3 g4 g5 g6 g7 g8 g9 g10 g11 g12 g13 g14 g15 g16 g17 g18 z0 ++ (w_Tape dA ta y_tape ++ (w_Bus dA ba z2))) → va_S A s.heap H locs → lv_has ls 9 [(0, .ref (a 0)), (1, .int v1), (2, .int v2), (3, .int v3), (4, .int v4)] → W p l e ({ frames := 10, cells := 0, slots := 0, locals := 213 } : Room) s m ([.ref (a 0)] : List Value).toArray below meth c H locs 0 0 Q (F0 m 74 ls []) := by
    intro v1 v2 v3 v4 z0 z2 H locs ls hf hP hD hS hl
    rw [f_X12_readRider_b74] at hf
    refine lv_aload_n hx hb dX12_readRider_74 rfl (lv_at hl 0 rfl) ?_
    refine kb_ldcwS (tx := "age") (q := dA (100 + 29)) hx hb hown (hE.2.2.2 ("BusSeatsModel", 304, "age", 29) (by decide)) dX12_readRider_75 ?_
    refine lv_iconst (v := (0 : Int32)) hx hb dX12_readRider_78 (by decide) ?_
    refine lv_bipush (v := (99 : Int32)) hx hb dX12_readRider_79 (by decide) ?_
    obtain ⟨r8, hc8, hf⟩ := kb_bind hf
    refine kb_ci (ws2 := (w_MO dA a q0 (some (ba 0)) (ta 0) g3 g4 g5 g6 g7 g8 g9 g10 g11 g12 g13 g14 g15 g16 g17 g18 r8.2 ++ (w_Tape dA ta y_tape ++ (w_Bus dA ba z2)))) (kb_rV (n := 3) (As := [.ref (dA (100 + 29)), .int (0 : Int32), .int (99 : Int32)]) (rest := []) hx hb hml hown hK (c_X12_readPart l D dA H.size a ta q0 (some (ba 0)) g3 g4 g5 g6 g7 g8 g9 g10 g11 g12 g13 g14 g15 g16 g17 g18 z0 y_tape 29 (by decide) (0 : Int32) (99 : Int32) r8.1 r8.2 hc8) ⟨ww_6_231, ww_6_228, ww_6_230, ws_54, ww_1_12, rfl, by decide, by decide⟩ rfl rfl (by decide +kernel) ⟨Nat.le_of_ble_eq_true rfl, Nat.le_of_ble_eq_true rfl⟩ hP hD hS hA hE [0, 1] rfl (by decide) 0 rfl rfl rfl hl.1 rfl (Nat.le_of_ble_eq_true rfl) dX12_readRider_81 ⟨Nat.le_of_ble_eq_true rfl, Nat.le_of_ble_eq_true rfl⟩) hP hD hS hA [0, 1] [2, 3, 4, 5, 6, 7, 8, 9, 10, 11, 12, 13, 14, 15, 16, 17] [16, 17, 0, 1, 2, 3, 4, 5, 6, 7, 8, 9, 10, 11, 12, 13, 14, 15] rfl rfl (by decide) (by decide) rfl (by decide) (fun H locs hP hD hS => ?_)
    refine lv_istore (lv' := [(5, .int r8.1), (0, .ref (a 0)), (1, .int v1), (2, .int v2), (3, .int v3), (4, .int v4)]) hx hb dX12_readRider_84 hl (by decide) rfl (fun ls hl => ?_)
    exact B_86 _ _ _ _ _ _ _ _ _ _ hf hP hD hS (lv_sub hl [1, 2, 3, 4, 5, 0] rfl)
  have B_62 : ∀ (v1 : Int32) (v2 : Int32) (v3 : Int32) (z0 : MOT) (z2 : BusT) (H : Heap) (locs : List Loc) (ls : Array Slot), f_X12_readRider_b62 y_tape v1 v2 v3 z0 z2 = some (u0, u2) → va_P D vwCl (w_MO dA a q0 (some (ba 0)) (ta 0) g3 g4 g5 g6 g7 g8 g9 g10 g11 g12 g13 g14 g15 g16 g17 g18 z0 ++ (w_Tape dA ta y_tape ++ (w_Bus dA ba z2))) H → va_D A (w_MO dA a q0 (some (ba 0)) (ta 0) g3 g4 g5 g6 g7 g8 g9 g10 g11 g12 g13 g14 g15 g16 g17 g18 z0 ++ (w_Tape dA ta y_tape ++ (w_Bus dA ba z2))) → va_S A s.heap H locs → lv_has ls 9 [(0, .ref (a 0)), (1, .int v1), (2, .int v2), (3, .int v3)] → W p l e ({ frames := 10, cells := 0, slots := 0, locals := 213 } : Room) s m ([.ref (a 0)] : List Value).toArray below meth c H locs 0 0 Q (F0 m 62 ls []) := by
    intro v1 v2 v3 z0 z2 H locs ls hf hP hD hS hl
    rw [f_X12_readRider_b62] at hf
    refine lv_aload_n hx hb dX12_readRider_62 rfl (lv_at hl 0 rfl) ?_
    refine kb_ldcwS (tx := "looks") (q := dA (100 + 28)) hx hb hown (hE.2.2.2 ("BusSeatsModel", 303, "looks", 28) (by decide)) dX12_readRider_63 ?_
    refine lv_iconst (v := (0 : Int32)) hx hb dX12_readRider_66 (by decide) ?_
    refine lv_bipush (v := (9 : Int32)) hx hb dX12_readRider_67 (by decide) ?_
    obtain ⟨r7, hc7, hf⟩ := kb_bind hf
    refine kb_ci (ws2 := (w_MO dA a q0 (some (ba 0)) (ta 0) g3 g4 g5 g6 g7 g8 g9 g10 g11 g12 g13 g14 g15 g16 g17 g18 r7.2 ++ (w_Tape dA ta y_tape ++ (w_Bus dA ba z2)))) (kb_rV (n := 3) (As := [.ref (dA (100 + 28)), .int (0 : Int32), .int (9 : Int32)]) (rest := []) hx hb hml hown hK (c_X12_readPart l D dA H.size a ta q0 (some (ba 0)) g3 g4 g5 g6 g7 g8 g9 g10 g11 g12 g13 g14 g15 g16 g17 g18 z0 y_tape 28 (by decide) (0 : Int32) (9 : Int32) r7.1 r7.2 hc7) ⟨ww_6_231, ww_6_228, ww_6_230, ws_54, ww_1_12, rfl, by decide, by decide⟩ rfl rfl (by decide +kernel) ⟨Nat.le_of_ble_eq_true rfl, Nat.le_of_ble_eq_true rfl⟩ hP hD hS hA hE [0, 1] rfl (by decide) 0 rfl rfl rfl hl.1 rfl (Nat.le_of_ble_eq_true rfl) dX12_readRider_69 ⟨Nat.le_of_ble_eq_true rfl, Nat.le_of_ble_eq_true rfl⟩) hP hD hS hA [0, 1] [2, 3, 4, 5, 6, 7, 8, 9, 10, 11, 12, 13, 14, 15, 16, 17] [16, 17, 0, 1, 2, 3, 4, 5, 6, 7, 8, 9, 10, 11, 12, 13, 14, 15] rfl rfl (by decide) (by decide) rfl (by decide) (fun H locs hP hD hS => ?_)
    refine lv_istore (lv' := [(4, .int r7.1), (0, .ref (a 0)), (1, .int v1), (2, .int v2), (3, .int v3)]) hx hb dX12_readRider_72 hl (by decide) rfl (fun ls hl => ?_)
    exact B_74 _ _ _ _ _ _ _ _ _ hf hP hD hS (lv_sub hl [1, 2, 3, 4, 0] rfl)
  have B_56 : ∀ (v1 : Int32) (v2 : Int32) (z0 : MOT) (z2 : BusT) (H : Heap) (locs : List Loc) (ls : Array Slot), f_X12_readRider_b56 y_tape v1 v2 z0 z2 = some (u0, u2) → va_P D vwCl (w_MO dA a q0 (some (ba 0)) (ta 0) g3 g4 g5 g6 g7 g8 g9 g10 g11 g12 g13 g14 g15 g16 g17 g18 z0 ++ (w_Tape dA ta y_tape ++ (w_Bus dA ba z2))) H → va_D A (w_MO dA a q0 (some (ba 0)) (ta 0) g3 g4 g5 g6 g7 g8 g9 g10 g11 g12 g13 g14 g15 g16 g17 g18 z0 ++ (w_Tape dA ta y_tape ++ (w_Bus dA ba z2))) → va_S A s.heap H locs → lv_has ls 9 [(0, .ref (a 0)), (1, .int v1), (2, .int v2)] → W p l e ({ frames := 10, cells := 0, slots := 0, locals := 213 } : Room) s m ([.ref (a 0)] : List Value).toArray below meth c H locs 0 0 Q (F0 m 56 ls []) := by
    intro v1 v2 z0 z2 H locs ls hf hP hD hS hl
    rw [f_X12_readRider_b56] at hf
    refine lv_aload_n hx hb dX12_readRider_56 rfl (lv_at hl 0 rfl) ?_
    refine lv_iconst (v := (0 : Int32)) hx hb dX12_readRider_57 (by decide) ?_
    obtain ⟨r6, hc6, hf⟩ := kb_bind hf
    refine kb_ci (ws2 := (w_MO dA a q0 (some (ba 0)) (ta 0) g3 g4 g5 g6 g7 g8 g9 g10 g11 g12 g13 g14 g15 g16 g17 g18 r6.2 ++ (w_Tape dA ta y_tape ++ (w_Bus dA ba z2)))) (kb_rV (n := 1) (As := [.int (0 : Int32)]) (rest := []) hx hb hml hown hK (c_X12_readKnown l D dA H.size a ta ba q0 g3 g4 g5 g6 g7 g8 g9 g10 g11 g12 g13 g14 g15 g16 g17 g18 z0 y_tape z2 (0 : Int32) r6.1 r6.2 hc6) ⟨ww_7_64, ww_7_61, ww_7_63, ws_64, ww_1_12, rfl, by decide, by decide⟩ rfl rfl (by decide +kernel) ⟨Nat.le_of_ble_eq_true rfl, Nat.le_of_ble_eq_true rfl⟩ hP hD hS hA hE [0, 1, 2, 3, 4, 5, 6, 7, 8, 9, 10, 11, 12, 13, 14, 15, 16, 17] rfl (by decide) 0 rfl rfl rfl hl.1 rfl (Nat.le_of_ble_eq_true rfl) dX12_readRider_58 ⟨Nat.le_of_ble_eq_true rfl, Nat.le_of_ble_eq_true rfl⟩) hP hD hS hA [0, 1, 2, 3, 4, 5, 6, 7, 8, 9, 10, 11, 12, 13, 14, 15, 16, 17] [] [0, 1, 2, 3, 4, 5, 6, 7, 8, 9, 10, 11, 12, 13, 14, 15, 16, 17] rfl rfl (by decide) (by decide) rfl (by decide) (fun H locs hP hD hS => ?_)
    refine lv_istore_n (lv' := [(3, .int r6.1), (0, .ref (a 0)), (1, .int v1), (2, .int v2)]) hx hb dX12_readRider_61 rfl hl (by decide) rfl (fun ls hl => ?_)
    exact B_62 _ _ _ _ _ _ _ _ hf hP hD hS (lv_sub hl [1, 2, 3, 0] rfl)
  have B_49 : ∀ (v1 : Int32) (v2 : Int32) (z0 : MOT) (z2 : BusT) (H : Heap) (locs : List Loc) (ls : Array Slot), f_X12_readRider_b49 y_tape v1 v2 z0 z2 = some (u0, u2) → va_P D vwCl (w_MO dA a q0 (some (ba 0)) (ta 0) g3 g4 g5 g6 g7 g8 g9 g10 g11 g12 g13 g14 g15 g16 g17 g18 z0 ++ (w_Tape dA ta y_tape ++ (w_Bus dA ba z2))) H → va_D A (w_MO dA a q0 (some (ba 0)) (ta 0) g3 g4 g5 g6 g7 g8 g9 g10 g11 g12 g13 g14 g15 g16 g17 g18 z0 ++ (w_Tape dA ta y_tape ++ (w_Bus dA ba z2))) → va_S A s.heap H locs → lv_has ls 9 [(0, .ref (a 0)), (1, .int v1), (2, .int v2)] → W p l e ({ frames := 10, cells := 0, slots := 0, locals := 213 } : Room) s m ([.ref (a 0)] : List Value).toArray below meth c H locs 0 0 Q (F0 m 49 ls []) := by
    intro v1 v2 z0 z2 H locs ls hf hP hD hS hl
    rw [f_X12_readRider_b49] at hf
    refine lv_aload_n hx hb dX12_readRider_49 rfl (lv_at hl 0 rfl) ?_
    refine kb_ldcwS (tx := "by") (q := dA (100 + 27)) hx hb hown (hE.2.2.2 ("BusSeatsModel", 298, "by", 27) (by decide)) dX12_readRider_50 ?_
    obtain ⟨r5, hc5, hf⟩ := kb_bind hf
    refine kb_cv (ws2 := (w_MO dA a q0 (some (ba 0)) (ta 0) g3 g4 g5 g6 g7 g8 g9 g10 g11 g12 g13 g14 g15 g16 g17 g18 r5 ++ (w_Tape dA ta y_tape ++ (w_Bus dA ba z2)))) (kb_rV (n := 1) (As := [.ref (dA (100 + 27))]) (rest := []) hx hb hml hown hK (c_X12_needs l D dA H.size a ta q0 (some (ba 0)) g3 g4 g5 g6 g7 g8 g9 g10 g11 g12 g13 g14 g15 g16 g17 g18 z0 y_tape 27 (by decide) r5 hc5) ⟨ww_6_235, ww_6_232, ww_6_234, ws_55, ww_1_12, rfl, by decide, by decide⟩ rfl rfl (by decide +kernel) ⟨Nat.le_of_ble_eq_true rfl, Nat.le_of_ble_eq_true rfl⟩ hP hD hS hA hE [0, 1] rfl (by decide) 0 rfl rfl rfl hl.1 rfl (Nat.le_of_ble_eq_true rfl) dX12_readRider_53 ⟨Nat.le_of_ble_eq_true rfl, Nat.le_of_ble_eq_true rfl⟩) hP hD hS hA [0, 1] [2, 3, 4, 5, 6, 7, 8, 9, 10, 11, 12, 13, 14, 15, 16, 17] [16, 17, 0, 1, 2, 3, 4, 5, 6, 7, 8, 9, 10, 11, 12, 13, 14, 15] rfl rfl (by decide) (by decide) rfl (by decide) (fun H locs hP hD hS => ?_)
    exact B_56 _ _ _ _ _ _ _ hf hP hD hS (lv_sub hl [0, 1, 2] rfl)
  have B_36 : ∀ (v1 : Int32) (z0 : MOT) (z2 : BusT) (H : Heap) (locs : List Loc) (ls : Array Slot), f_X12_readRider_b36 y_tape v1 z0 z2 = some (u0, u2) → va_P D vwCl (w_MO dA a q0 (some (ba 0)) (ta 0) g3 g4 g5 g6 g7 g8 g9 g10 g11 g12 g13 g14 g15 g16 g17 g18 z0 ++ (w_Tape dA ta y_tape ++ (w_Bus dA ba z2))) H → va_D A (w_MO dA a q0 (some (ba 0)) (ta 0) g3 g4 g5 g6 g7 g8 g9 g10 g11 g12 g13 g14 g15 g16 g17 g18 z0 ++ (w_Tape dA ta y_tape ++ (w_Bus dA ba z2))) → va_S A s.heap H locs → lv_has ls 9 [(0, .ref (a 0)), (1, .int v1)] → W p l e ({ frames := 10, cells := 0, slots := 0, locals := 213 } : Room) s m ([.ref (a 0)] : List Value).toArray below meth c H locs 0 0 Q (F0 m 36 ls []) := by
    intro v1 z0 z2 H locs ls hf hP hD hS hl
    rw [f_X12_readRider_b36] at hf
    refine lv_aload_n hx hb dX12_readRider_36 rfl (lv_at hl 0 rfl) ?_
    refine kb_ldcwS (tx := "off") (q := dA (100 + 26)) hx hb hown (hE.2.2.2 ("BusSeatsModel", 296, "off", 26) (by decide)) dX12_readRider_37 ?_
    refine lv_iload_n hx hb dX12_readRider_40 rfl (lv_at hl 1 rfl) ?_
    refine lv_iconst (v := (1 : Int32)) hx hb dX12_readRider_41 (by decide) ?_
    refine lv_iadd hx hb dX12_readRider_42 ?_
    refine lv_bipush (v := (11 : Int32)) hx hb dX12_readRider_43 (by decide) ?_
    obtain ⟨r4, hc4, hf⟩ := kb_bind hf
    refine kb_ci (ws2 := (w_MO dA a q0 (some (ba 0)) (ta 0) g3 g4 g5 g6 g7 g8 g9 g10 g11 g12 g13 g14 g15 g16 g17 g18 r4.2 ++ (w_Tape dA ta y_tape ++ (w_Bus dA ba z2)))) (kb_rV (n := 3) (As := [.ref (dA (100 + 26)), .int (v1 + (1 : Int32)), .int (11 : Int32)]) (rest := []) hx hb hml hown hK (c_X12_readPart l D dA H.size a ta q0 (some (ba 0)) g3 g4 g5 g6 g7 g8 g9 g10 g11 g12 g13 g14 g15 g16 g17 g18 z0 y_tape 26 (by decide) (v1 + (1 : Int32)) (11 : Int32) r4.1 r4.2 hc4) ⟨ww_6_231, ww_6_228, ww_6_230, ws_54, ww_1_12, rfl, by decide, by decide⟩ rfl rfl (by decide +kernel) ⟨Nat.le_of_ble_eq_true rfl, Nat.le_of_ble_eq_true rfl⟩ hP hD hS hA hE [0, 1] rfl (by decide) 0 rfl rfl rfl hl.1 rfl (Nat.le_of_ble_eq_true rfl) dX12_readRider_45 ⟨Nat.le_of_ble_eq_true rfl, Nat.le_of_ble_eq_true rfl⟩) hP hD hS hA [0, 1] [2, 3, 4, 5, 6, 7, 8, 9, 10, 11, 12, 13, 14, 15, 16, 17] [16, 17, 0, 1, 2, 3, 4, 5, 6, 7, 8, 9, 10, 11, 12, 13, 14, 15] rfl rfl (by decide) (by decide) rfl (by decide) (fun H locs hP hD hS => ?_)
    refine lv_istore_n (lv' := [(2, .int r4.1), (0, .ref (a 0)), (1, .int v1)]) hx hb dX12_readRider_48 rfl hl (by decide) rfl (fun ls hl => ?_)
    exact B_49 _ _ _ _ _ _ _ hf hP hD hS (lv_sub hl [1, 2, 0] rfl)
  have B_25 : ∀ (z0 : MOT) (z2 : BusT) (H : Heap) (locs : List Loc) (ls : Array Slot), f_X12_readRider_b25 y_tape z0 z2 = some (u0, u2) → va_P D vwCl (w_MO dA a q0 (some (ba 0)) (ta 0) g3 g4 g5 g6 g7 g8 g9 g10 g11 g12 g13 g14 g15 g16 g17 g18 z0 ++ (w_Tape dA ta y_tape ++ (w_Bus dA ba z2))) H → va_D A (w_MO dA a q0 (some (ba 0)) (ta 0) g3 g4 g5 g6 g7 g8 g9 g10 g11 g12 g13 g14 g15 g16 g17 g18 z0 ++ (w_Tape dA ta y_tape ++ (w_Bus dA ba z2))) → va_S A s.heap H locs → lv_has ls 9 [(0, .ref (a 0))] → W p l e ({ frames := 10, cells := 0, slots := 0, locals := 213 } : Room) s m ([.ref (a 0)] : List Value).toArray below meth c H locs 0 0 Q (F0 m 25 ls []) := by
    intro z0 z2 H locs ls hf hP hD hS hl
    rw [f_X12_readRider_b25] at hf
    refine lv_aload_n hx hb dX12_readRider_25 rfl (lv_at hl 0 rfl) ?_
    refine kb_ldcwS (tx := "on") (q := dA (100 + 25)) hx hb hown (hE.2.2.2 ("BusSeatsModel", 294, "on", 25) (by decide)) dX12_readRider_26 ?_
    refine lv_iconst (v := (0 : Int32)) hx hb dX12_readRider_29 (by decide) ?_
    refine lv_bipush (v := (10 : Int32)) hx hb dX12_readRider_30 (by decide) ?_
    obtain ⟨r3, hc3, hf⟩ := kb_bind hf
    refine kb_ci (ws2 := (w_MO dA a q0 (some (ba 0)) (ta 0) g3 g4 g5 g6 g7 g8 g9 g10 g11 g12 g13 g14 g15 g16 g17 g18 r3.2 ++ (w_Tape dA ta y_tape ++ (w_Bus dA ba z2)))) (kb_rV (n := 3) (As := [.ref (dA (100 + 25)), .int (0 : Int32), .int (10 : Int32)]) (rest := []) hx hb hml hown hK (c_X12_readPart l D dA H.size a ta q0 (some (ba 0)) g3 g4 g5 g6 g7 g8 g9 g10 g11 g12 g13 g14 g15 g16 g17 g18 z0 y_tape 25 (by decide) (0 : Int32) (10 : Int32) r3.1 r3.2 hc3) ⟨ww_6_231, ww_6_228, ww_6_230, ws_54, ww_1_12, rfl, by decide, by decide⟩ rfl rfl (by decide +kernel) ⟨Nat.le_of_ble_eq_true rfl, Nat.le_of_ble_eq_true rfl⟩ hP hD hS hA hE [0, 1] rfl (by decide) 0 rfl rfl rfl hl.1 rfl (Nat.le_of_ble_eq_true rfl) dX12_readRider_32 ⟨Nat.le_of_ble_eq_true rfl, Nat.le_of_ble_eq_true rfl⟩) hP hD hS hA [0, 1] [2, 3, 4, 5, 6, 7, 8, 9, 10, 11, 12, 13, 14, 15, 16, 17] [16, 17, 0, 1, 2, 3, 4, 5, 6, 7, 8, 9, 10, 11, 12, 13, 14, 15] rfl rfl (by decide) (by decide) rfl (by decide) (fun H locs hP hD hS => ?_)
    refine lv_istore_n (lv' := [(1, .int r3.1), (0, .ref (a 0))]) hx hb dX12_readRider_35 rfl hl (by decide) rfl (fun ls hl => ?_)
    exact B_36 _ _ _ _ _ _ hf hP hD hS (lv_sub hl [1, 0] rfl)
  have B_13 : ∀ (z0 : MOT) (z2 : BusT) (H : Heap) (locs : List Loc) (ls : Array Slot), f_X12_readRider_b13 y_tape z0 z2 = some (u0, u2) → va_P D vwCl (w_MO dA a q0 (some (ba 0)) (ta 0) g3 g4 g5 g6 g7 g8 g9 g10 g11 g12 g13 g14 g15 g16 g17 g18 z0 ++ (w_Tape dA ta y_tape ++ (w_Bus dA ba z2))) H → va_D A (w_MO dA a q0 (some (ba 0)) (ta 0) g3 g4 g5 g6 g7 g8 g9 g10 g11 g12 g13 g14 g15 g16 g17 g18 z0 ++ (w_Tape dA ta y_tape ++ (w_Bus dA ba z2))) → va_S A s.heap H locs → lv_has ls 9 [(0, .ref (a 0))] → W p l e ({ frames := 10, cells := 0, slots := 0, locals := 213 } : Room) s m ([.ref (a 0)] : List Value).toArray below meth c H locs 0 0 Q (F0 m 13 ls []) := by
    intro z0 z2 H locs ls hf hP hD hS hl
    rw [f_X12_readRider_b13] at hf
    refine lv_aload_n hx hb dX12_readRider_13 rfl (lv_at hl 0 rfl) ?_
    refine lv_iconst (v := (1 : Int32)) hx hb dX12_readRider_14 (by decide) ?_
    refine lv_aload_n hx hb dX12_readRider_15 rfl (lv_at hl 0 rfl) ?_
    refine va_get (D := D) (ci := 12) (v := .ref (ba 0)) (C := RX12) (T := TX12) (N := 35) hx hb hts kb_inX12 hown hK.1 hP 0 rfl rfl 4 (by decide) (hK.2.w ww_5_204 rfl _) (fun _ h9 => h9) rfl dX12_readRider_16 ?_
    refine va_getN (D := D) (ci := 11) (v := .int (bu_riders z2)) (C := RX11) (T := TX11) (N := 26) hx hb hts kb_inX11 hown hK.1 hP 2 rfl rfl 7 (by decide) (hK.2.nb ww_6_96 rfl rfl _) (fun _ h9 => h9) rfl dX12_readRider_19 ?_
    obtain ⟨r2, hc2, hf⟩ := kb_bind hf
    refine kb_cv (ws2 := (w_MO dA a q0 (some (ba 0)) (ta 0) g3 g4 g5 g6 g7 g8 g9 g10 g11 g12 g13 g14 g15 g16 g17 g18 r2.1 ++ (w_Tape dA ta y_tape ++ (w_Bus dA ba r2.2)))) (kb_rV (n := 2) (As := [.int (1 : Int32), .int (bu_riders z2)]) (rest := []) hx hb hml hown hK (c_X12_readFresh l D dA H.size a ta ba q0 g3 g4 g5 g6 g7 g8 g9 g10 g11 g12 g13 g14 g15 g16 g17 g18 z0 y_tape z2 (1 : Int32) (bu_riders z2) r2.1 r2.2 hc2) ⟨ww_7_23, ww_7_20, ww_7_22, ws_59, ww_1_12, rfl, by decide, by decide⟩ rfl rfl (by decide +kernel) ⟨Nat.le_of_ble_eq_true rfl, Nat.le_of_ble_eq_true rfl⟩ hP hD hS hA hE [0, 1, 2, 3, 4, 5, 6, 7, 8, 9, 10, 11, 12, 13, 14, 15, 16, 17] rfl (by decide) 0 rfl rfl rfl hl.1 rfl (Nat.le_of_ble_eq_true rfl) dX12_readRider_22 ⟨Nat.le_of_ble_eq_true rfl, Nat.le_of_ble_eq_true rfl⟩) hP hD hS hA [0, 1, 2, 3, 4, 5, 6, 7, 8, 9, 10, 11, 12, 13, 14, 15, 16, 17] [] [0, 1, 2, 3, 4, 5, 6, 7, 8, 9, 10, 11, 12, 13, 14, 15, 16, 17] rfl rfl (by decide) (by decide) rfl (by decide) (fun H locs hP hD hS => ?_)
    exact B_25 _ _ _ _ _ hf hP hD hS (lv_sub hl [0] rfl)
  have E0 : ∀ (H : Heap) (locs : List Loc), va_P D vwCl (w_MO dA a q0 (some (ba 0)) (ta 0) g3 g4 g5 g6 g7 g8 g9 g10 g11 g12 g13 g14 g15 g16 g17 g18 mo ++ (w_Tape dA ta y_tape ++ (w_Bus dA ba bu))) H → va_D A (w_MO dA a q0 (some (ba 0)) (ta 0) g3 g4 g5 g6 g7 g8 g9 g10 g11 g12 g13 g14 g15 g16 g17 g18 mo ++ (w_Tape dA ta y_tape ++ (w_Bus dA ba bu))) → va_S A s.heap H locs → W p l e ({ frames := 10, cells := 0, slots := 0, locals := 213 } : Room) s m ([.ref (a 0)] : List Value).toArray below meth c H locs 0 0 Q (F0 m 0 ls []) := by
    intro H locs hP hD hS
    rw [f_X12_readRider] at hf
    refine lv_aload_n hx hb dX12_readRider_0 rfl (lv_at hl 0 rfl) ?_
    refine lv_aload_n hx hb dX12_readRider_1 rfl (lv_at hl 0 rfl) ?_
    refine va_get (D := D) (ci := 12) (v := .ref (ba 0)) (C := RX12) (T := TX12) (N := 35) hx hb hts kb_inX12 hown hK.1 hP 0 rfl rfl 4 (by decide) (hK.2.w ww_5_204 rfl _) (fun _ h9 => h9) rfl dX12_readRider_2 ?_
    refine va_getN (D := D) (ci := 11) (v := .int (bu_riders bu)) (C := RX11) (T := TX11) (N := 26) hx hb hts kb_inX11 hown hK.1 hP 2 rfl rfl 7 (by decide) (hK.2.nb ww_6_96 rfl rfl _) (fun _ h9 => h9) rfl dX12_readRider_5 ?_
    refine lv_bipush (v := (8 : Int32)) hx hb dX12_readRider_8 (by decide) ?_
    obtain ⟨r1, hc1, hf⟩ := kb_bind hf
    refine kb_cv (ws2 := (w_MO dA a q0 (some (ba 0)) (ta 0) g3 g4 g5 g6 g7 g8 g9 g10 g11 g12 g13 g14 g15 g16 g17 g18 r1 ++ (w_Tape dA ta y_tape ++ (w_Bus dA ba bu)))) (kb_rV (n := 2) (As := [.int (bu_riders bu), .int (8 : Int32)]) (rest := []) hx hb hml hown hK (c_X12_begins l D dA H.size a ta q0 (some (ba 0)) g3 g4 g5 g6 g7 g8 g9 g10 g11 g12 g13 g14 g15 g16 g17 g18 mo y_tape (bu_riders bu) (8 : Int32) r1 hc1) ⟨ww_7_19, ww_7_16, ww_7_18, ws_58, ww_1_12, rfl, by decide, by decide⟩ rfl rfl (by decide +kernel) ⟨Nat.le_of_ble_eq_true rfl, Nat.le_of_ble_eq_true rfl⟩ hP hD hS hA hE [0, 1] rfl (by decide) 0 rfl rfl rfl hl.1 rfl (Nat.le_of_ble_eq_true rfl) dX12_readRider_10 ⟨Nat.le_of_ble_eq_true rfl, Nat.le_of_ble_eq_true rfl⟩) hP hD hS hA [0, 1] [2, 3, 4, 5, 6, 7, 8, 9, 10, 11, 12, 13, 14, 15, 16, 17] [16, 17, 0, 1, 2, 3, 4, 5, 6, 7, 8, 9, 10, 11, 12, 13, 14, 15] rfl rfl (by decide) (by decide) rfl (by decide) (fun H locs hP hD hS => ?_)
    exact B_13 _ _ _ _ _ hf hP hD hS (lv_sub hl [0] rfl)
  exact E0 _ _ hP hD hS

noncomputable def f_X12_readFriends_b110 (y_tape : TapeT) (z0 : MOT) (z2 : BusT) : Option (MOT × BusT) := some (z0, z2)
noncomputable def f_X12_readFriends_b97 (y_tape : TapeT) (z0 : MOT) (z2 : BusT) : Option (MOT × BusT) := f_X12_readFriends_b110 y_tape z0 (bu_set_friends z2 ((bu_friends z2) + (1 : Int32)))
noncomputable def f_X12_readFriends_b81 (y_tape : TapeT) (v2 : Int32) (z0 : MOT) (z2 : BusT) : Option (MOT × BusT) := if kb_in? (bu_friends z2) 3 then f_X12_readFriends_b97 y_tape z0 (bu_set_friendB z2 (upd (bu_friendB z2) ((bu_friends z2)).toNatClampNeg v2)) else none
noncomputable def f_X12_readFriends_b56 (y_tape : TapeT) (v1 : Int32) (v2 : Int32) (z0 : MOT) (z2 : BusT) : Option (MOT × BusT) := (if (mo_sort z0) = (5 : Int32) then some (z0, z2) else if kb_in? (bu_friends z2) 3 then f_X12_readFriends_b81 y_tape v2 z0 (bu_set_friendA z2 (upd (bu_friendA z2) ((bu_friends z2)).toNatClampNeg v1)) else none)
noncomputable def f_X12_readFriends_b52 (y_tape : TapeT) (v1 : Int32) (v2 : Int32) (z0 : MOT) (z2 : BusT) : Option (MOT × BusT) := (f_X12_goesOn z0 y_tape).bind fun r7 => f_X12_readFriends_b56 y_tape v1 v2 r7 z2
noncomputable def f_X12_readFriends_b47 (y_tape : TapeT) (v1 : Int32) (v2 : Int32) (z0 : MOT) (z2 : BusT) : Option (MOT × BusT) := (f_X12_wrong z0 (3 : Int32)).bind fun r6 => f_X12_readFriends_b52 y_tape v1 v2 r6 z2
noncomputable def f_X12_readFriends_b30 (y_tape : TapeT) (v1 : Int32) (v2 : Int32) (z0 : MOT) (z2 : BusT) : Option (MOT × BusT) := (if v1 = v2 then f_X12_readFriends_b47 y_tape v1 v2 z0 z2 else (f_X11_areFriends z2 v1 v2).bind fun r11 => (if r11 = 0 then f_X12_readFriends_b52 y_tape v1 v2 z0 z2 else f_X12_readFriends_b47 y_tape v1 v2 z0 z2))
noncomputable def f_X12_readFriends_b24 (y_tape : TapeT) (v1 : Int32) (z0 : MOT) (z2 : BusT) : Option (MOT × BusT) := (f_X12_known z0 z2 (1 : Int32)).bind fun r4 => f_X12_readFriends_b30 y_tape v1 r4.1 r4.2 z2
noncomputable def f_X12_readFriends_b18 (y_tape : TapeT) (v1 : Int32) (z0 : MOT) (z2 : BusT) : Option (MOT × BusT) := (f_X12_needsSign z0 y_tape (44 : Int32)).bind fun r3 => f_X12_readFriends_b24 y_tape v1 r3 z2
noncomputable def f_X12_readFriends_b12 (y_tape : TapeT) (z0 : MOT) (z2 : BusT) : Option (MOT × BusT) := (f_X12_readKnown z0 y_tape z2 (1 : Int32)).bind fun r2 => f_X12_readFriends_b18 y_tape r2.1 r2.2 z2
noncomputable def f_X12_readFriends (mo : MOT) (y_tape : TapeT) (bu : BusT) : Option (MOT × BusT) := (f_X12_begins mo y_tape (bu_friends bu) (3 : Int32)).bind fun r1 => f_X12_readFriends_b12 y_tape r1 bu
set_option maxHeartbeats 4000000 in
set_option maxRecDepth 100000 in
theorem c_X12_readFriends (l : Launch) (D : va_G) (dA : Nat → ClassId) (sz : Nat) (a : Nat → Nat) (ta : Nat → Nat) (ba : Nat → Nat) (q0 : Option Nat) (g3 : Nat) (g4 : Nat) (g5 : Nat) (g6 : Nat) (g7 : Nat) (g8 : Nat) (g9 : Nat) (g10 : Nat) (g11 : Nat) (g12 : Nat) (g13 : Nat) (g14 : Nat) (g15 : Nat) (g16 : Nat) (g17 : Nat) (g18 : Nat) (mo : MOT) (y_tape : TapeT) (bu : BusT) (u0 : MOT) (u2 : BusT) (hf : f_X12_readFriends mo y_tape bu = some (u0, u2)) : kb_Mv l yX12_readFriends cX12_readFriends 3 none ({ frames := 10, cells := 0, slots := 0, locals := 213 } : Room) D dA [.ref (a 0)] sz (w_MO dA a q0 (some (ba 0)) (ta 0) g3 g4 g5 g6 g7 g8 g9 g10 g11 g12 g13 g14 g15 g16 g17 g18 mo ++ (w_Tape dA ta y_tape ++ (w_Bus dA ba bu))) 0 0 (w_MO dA a q0 (some (ba 0)) (ta 0) g3 g4 g5 g6 g7 g8 g9 g10 g11 g12 g13 g14 g15 g16 g17 g18 u0 ++ (w_Tape dA ta y_tape ++ (w_Bus dA ba u2))) := by
  refine Met.ofW (cc := cX12_readFriends) (maxL := 3) (ret := none) (by decide) rfl ?_
  intro p e s m args below meth c s₁ B hml hv
  obtain ⟨rfl, hsz, hP, hK, hD0, hE⟩ := hv
  have hx := B.exec
  have hb := B.bytes
  have hr := B.returns
  have hown : s.vm.findClass RX12 = some m.cls := findClass_of_methodNamed B.named
  have hlocks := B.notSynchronized
  have hts : ∀ w ∈ kb_gw, w.before ([.ref (a 0)] : List Value).toArray s = true := fun w hw => hK.2.1 w hw _
  subst hsz
  have hD := hD0.self (sz := s.heap.size)
  generalize hAe : va_A (w_MO dA a q0 (some (ba 0)) (ta 0) g3 g4 g5 g6 g7 g8 g9 g10 g11 g12 g13 g14 g15 g16 g17 g18 mo ++ (w_Tape dA ta y_tape ++ (w_Bus dA ba bu))) s.heap.size = A at hD hE ⊢
  have hA : ∀ q : Nat, s.heap.size ≤ q → A q := fun q h => by rw [← hAe]; exact Or.inr h
  have hS : va_S A s.heap s.heap [] := va_S.rf
  have hl := lv_entry ([.ref (a 0)]) (n := 3) (Nat.le_of_ble_eq_true rfl)
  rw [lg_entry_eq]
  generalize (lg_sl ([.ref (a 0)]) ++ List.replicate (3 - (lg_sl ([.ref (a 0)])).length) Slot.unset).toArray = ls at hl ⊢
  have hl : lv_has ls 3 [(0, .ref (a 0))] := hl
  generalize hQ : MQ below (va_Qv (fun (_ : Unit) => True) (kb_B D A (w_MO dA a q0 (some (ba 0)) (ta 0) g3 g4 g5 g6 g7 g8 g9 g10 g11 g12 g13 g14 g15 g16 g17 g18 u0 ++ (w_Tape dA ta y_tape ++ (w_Bus dA ba u2)))) A) ([.ref (a 0)] : List Value).toArray s 0 0 A = Q
  show W p l e ({ frames := 10, cells := 0, slots := 0, locals := 213 } : Room) s m ([.ref (a 0)] : List Value).toArray below meth c s.heap [] 0 0 Q (F0 m 0 ls [])
  have RET : ∀ (w0 : MOT) (w2 : BusT) (H : Heap) (locs : List Loc) (ls : Array Slot) (pc : Nat), some (w0, w2) = some (u0, u2) → va_P D vwCl (w_MO dA a q0 (some (ba 0)) (ta 0) g3 g4 g5 g6 g7 g8 g9 g10 g11 g12 g13 g14 g15 g16 g17 g18 w0 ++ (w_Tape dA ta y_tape ++ (w_Bus dA ba w2))) H → va_D A (w_MO dA a q0 (some (ba 0)) (ta 0) g3 g4 g5 g6 g7 g8 g9 g10 g11 g12 g13 g14 g15 g16 g17 g18 w0 ++ (w_Tape dA ta y_tape ++ (w_Bus dA ba w2))) → va_S A s.heap H locs → decode cX12_readFriends pc = .ok (.return_, 1) → W p l e ({ frames := 10, cells := 0, slots := 0, locals := 213 } : Room) s m ([.ref (a 0)] : List Value).toArray below meth c H locs 0 0 Q (F0 m pc ls []) := by
    intro w0 w2 H locs ls pc hq hP hD hS hd
    cases hq
    rw [← hQ]
    exact W.vret hx hb hr (fun t ht hW => ⟨⟨(), rfl, trivial, by rw [ht]; exact hP, hD⟩, hS.F ht⟩) hS.2.2 hd
  have B_110 : ∀ (z0 : MOT) (z2 : BusT) (H : Heap) (locs : List Loc) (ls : Array Slot), f_X12_readFriends_b110 y_tape z0 z2 = some (u0, u2) → va_P D vwCl (w_MO dA a q0 (some (ba 0)) (ta 0) g3 g4 g5 g6 g7 g8 g9 g10 g11 g12 g13 g14 g15 g16 g17 g18 z0 ++ (w_Tape dA ta y_tape ++ (w_Bus dA ba z2))) H → va_D A (w_MO dA a q0 (some (ba 0)) (ta 0) g3 g4 g5 g6 g7 g8 g9 g10 g11 g12 g13 g14 g15 g16 g17 g18 z0 ++ (w_Tape dA ta y_tape ++ (w_Bus dA ba z2))) → va_S A s.heap H locs → lv_has ls 3 [] → W p l e ({ frames := 10, cells := 0, slots := 0, locals := 213 } : Room) s m ([.ref (a 0)] : List Value).toArray below meth c H locs 0 0 Q (F0 m 110 ls []) := by
    intro z0 z2 H locs ls hf hP hD hS hl
    rw [f_X12_readFriends_b110] at hf
    exact RET _ _ H _ ls 110 hf hP hD hS dX12_readFriends_110
  have B_97 : ∀ (z0 : MOT) (z2 : BusT) (H : Heap) (locs : List Loc) (ls : Array Slot), f_X12_readFriends_b97 y_tape z0 z2 = some (u0, u2) → va_P D vwCl (w_MO dA a q0 (some (ba 0)) (ta 0) g3 g4 g5 g6 g7 g8 g9 g10 g11 g12 g13 g14 g15 g16 g17 g18 z0 ++ (w_Tape dA ta y_tape ++ (w_Bus dA ba z2))) H → va_D A (w_MO dA a q0 (some (ba 0)) (ta 0) g3 g4 g5 g6 g7 g8 g9 g10 g11 g12 g13 g14 g15 g16 g17 g18 z0 ++ (w_Tape dA ta y_tape ++ (w_Bus dA ba z2))) → va_S A s.heap H locs → lv_has ls 3 [(0, .ref (a 0))] → W p l e ({ frames := 10, cells := 0, slots := 0, locals := 213 } : Room) s m ([.ref (a 0)] : List Value).toArray below meth c H locs 0 0 Q (F0 m 97 ls []) := by
    intro z0 z2 H locs ls hf hP hD hS hl
    rw [f_X12_readFriends_b97] at hf
    refine lv_aload_n hx hb dX12_readFriends_97 rfl (lv_at hl 0 rfl) ?_
    refine va_get (D := D) (ci := 12) (v := .ref (ba 0)) (C := RX12) (T := TX12) (N := 35) hx hb hts kb_inX12 hown hK.1 hP 0 rfl rfl 4 (by decide) (hK.2.w ww_5_204 rfl _) (fun _ h9 => h9) rfl dX12_readFriends_98 ?_
    refine lv_dup hx hb dX12_readFriends_101 rfl ?_
    refine va_getN (D := D) (ci := 11) (v := .int (bu_friends z2)) (C := RX11) (T := TX11) (N := 26) hx hb hts kb_inX11 hown hK.1 hP 2 rfl rfl 8 (by decide) (hK.2.nb ww_6_98 rfl rfl _) (fun _ h9 => h9) rfl dX12_readFriends_102 ?_
    refine lv_iconst (v := (1 : Int32)) hx hb dX12_readFriends_105 (by decide) ?_
    refine lv_iadd hx hb dX12_readFriends_106 ?_
    refine va_putN (D := D) (ci := 11) (v := .int ((bu_friends z2) + (1 : Int32))) (ty := .int) (C := RX11) (T := TX11) (N := 26) hx hb hts kb_inX11 tyX11 tyX11_ok nmX11 hown hK.1 hP hD hS 2 rfl rfl 8 (by decide) (hK.2.nb ww_6_98 rfl rfl _) (fun _ h9 => h9) rfl (by decide +kernel) rfl rfl (Nat.le_of_ble_eq_true rfl) dX12_readFriends_107 (fun H locs hP hD hS => ?_)
    have hP : va_P D vwCl (w_MO dA a q0 (some (ba 0)) (ta 0) g3 g4 g5 g6 g7 g8 g9 g10 g11 g12 g13 g14 g15 g16 g17 g18 z0 ++ (w_Tape dA ta y_tape ++ (w_Bus dA ba (bu_set_friends z2 ((bu_friends z2) + (1 : Int32)))))) H := hP
    have hD : va_D A (w_MO dA a q0 (some (ba 0)) (ta 0) g3 g4 g5 g6 g7 g8 g9 g10 g11 g12 g13 g14 g15 g16 g17 g18 z0 ++ (w_Tape dA ta y_tape ++ (w_Bus dA ba (bu_set_friends z2 ((bu_friends z2) + (1 : Int32)))))) := hD
    exact B_110 _ _ _ _ _ hf hP hD hS (lv_sub hl [] rfl)
  have B_81 : ∀ (v2 : Int32) (z0 : MOT) (z2 : BusT) (H : Heap) (locs : List Loc) (ls : Array Slot), f_X12_readFriends_b81 y_tape v2 z0 z2 = some (u0, u2) → va_P D vwCl (w_MO dA a q0 (some (ba 0)) (ta 0) g3 g4 g5 g6 g7 g8 g9 g10 g11 g12 g13 g14 g15 g16 g17 g18 z0 ++ (w_Tape dA ta y_tape ++ (w_Bus dA ba z2))) H → va_D A (w_MO dA a q0 (some (ba 0)) (ta 0) g3 g4 g5 g6 g7 g8 g9 g10 g11 g12 g13 g14 g15 g16 g17 g18 z0 ++ (w_Tape dA ta y_tape ++ (w_Bus dA ba z2))) → va_S A s.heap H locs → lv_has ls 3 [(0, .ref (a 0)), (2, .int v2)] → W p l e ({ frames := 10, cells := 0, slots := 0, locals := 213 } : Room) s m ([.ref (a 0)] : List Value).toArray below meth c H locs 0 0 Q (F0 m 81 ls []) := by
    intro v2 z0 z2 H locs ls hf hP hD hS hl
    rw [f_X12_readFriends_b81] at hf
    refine lv_aload_n hx hb dX12_readFriends_81 rfl (lv_at hl 0 rfl) ?_
    refine va_get (D := D) (ci := 12) (v := .ref (ba 0)) (C := RX12) (T := TX12) (N := 35) hx hb hts kb_inX12 hown hK.1 hP 0 rfl rfl 4 (by decide) (hK.2.w ww_5_204 rfl _) (fun _ h9 => h9) rfl dX12_readFriends_82 ?_
    refine va_getN (D := D) (ci := 11) (v := .ref (ba 12)) (C := RX11) (T := TX11) (N := 26) hx hb hts kb_inX11 hown hK.1 hP 2 rfl rfl 22 (by decide) (hK.2.nb ww_6_125 rfl rfl _) (fun _ h9 => h9) rfl dX12_readFriends_85 ?_
    refine lv_aload_n hx hb dX12_readFriends_88 rfl (lv_at hl 0 rfl) ?_
    refine va_get (D := D) (ci := 12) (v := .ref (ba 0)) (C := RX12) (T := TX12) (N := 35) hx hb hts kb_inX12 hown hK.1 hP 0 rfl rfl 4 (by decide) (hK.2.w ww_5_204 rfl _) (fun _ h9 => h9) rfl dX12_readFriends_89 ?_
    refine va_getN (D := D) (ci := 11) (v := .int (bu_friends z2)) (C := RX11) (T := TX11) (N := 26) hx hb hts kb_inX11 hown hK.1 hP 2 rfl rfl 8 (by decide) (hK.2.nb ww_6_98 rfl rfl _) (fun _ h9 => h9) rfl dX12_readFriends_92 ?_
    refine lv_iload_n hx hb dX12_readFriends_95 rfl (lv_at hl 1 rfl) ?_
    obtain ⟨h_10, hf⟩ := kb_if hf
    refine va_iast (D := D) hx hb hK.1 hP hD hS 14 0 rfl rfl h_10 dX12_readFriends_96 (fun H locs hP hD hS => ?_)
    have hP : va_P D vwCl (w_MO dA a q0 (some (ba 0)) (ta 0) g3 g4 g5 g6 g7 g8 g9 g10 g11 g12 g13 g14 g15 g16 g17 g18 z0 ++ (w_Tape dA ta y_tape ++ (w_Bus dA ba (bu_set_friendB z2 (upd (bu_friendB z2) ((bu_friends z2)).toNatClampNeg v2))))) H := hP
    have hD : va_D A (w_MO dA a q0 (some (ba 0)) (ta 0) g3 g4 g5 g6 g7 g8 g9 g10 g11 g12 g13 g14 g15 g16 g17 g18 z0 ++ (w_Tape dA ta y_tape ++ (w_Bus dA ba (bu_set_friendB z2 (upd (bu_friendB z2) ((bu_friends z2)).toNatClampNeg v2))))) := hD
    exact B_97 _ _ _ _ _ hf hP hD hS (lv_sub hl [0] rfl)
  have B_56 : ∀ (v1 : Int32) (v2 : Int32) (z0 : MOT) (z2 : BusT) (H : Heap) (locs : List Loc) (ls : Array Slot), f_X12_readFriends_b56 y_tape v1 v2 z0 z2 = some (u0, u2) → va_P D vwCl (w_MO dA a q0 (some (ba 0)) (ta 0) g3 g4 g5 g6 g7 g8 g9 g10 g11 g12 g13 g14 g15 g16 g17 g18 z0 ++ (w_Tape dA ta y_tape ++ (w_Bus dA ba z2))) H → va_D A (w_MO dA a q0 (some (ba 0)) (ta 0) g3 g4 g5 g6 g7 g8 g9 g10 g11 g12 g13 g14 g15 g16 g17 g18 z0 ++ (w_Tape dA ta y_tape ++ (w_Bus dA ba z2))) → va_S A s.heap H locs → lv_has ls 3 [(0, .ref (a 0)), (1, .int v1), (2, .int v2)] → W p l e ({ frames := 10, cells := 0, slots := 0, locals := 213 } : Room) s m ([.ref (a 0)] : List Value).toArray below meth c H locs 0 0 Q (F0 m 56 ls []) := by
    intro v1 v2 z0 z2 H locs ls hf hP hD hS hl
    rw [f_X12_readFriends_b56] at hf
    refine lv_aload_n hx hb dX12_readFriends_56 rfl (lv_at hl 0 rfl) ?_
    refine va_get (D := D) (ci := 12) (v := .int (mo_sort z0)) (C := RX12) (T := TX12) (N := 35) hx hb hts kb_inX12 hown hK.1 hP 0 rfl rfl 9 (by decide) (hK.2.w ww_5_209 rfl _) (fun _ h9 => h9) rfl dX12_readFriends_57 ?_
    refine lv_iconst (v := (5 : Int32)) hx hb dX12_readFriends_60 (by decide) ?_
    refine lv_icmp_ne (tgt := 65) hx hb dX12_readFriends_61 (by decide) (fun c_8 => ?_) (fun c_8 => ?_)
    · rw [if_neg c_8] at hf
      refine lv_aload_n hx hb dX12_readFriends_65 rfl (lv_at hl 0 rfl) ?_
      refine va_get (D := D) (ci := 12) (v := .ref (ba 0)) (C := RX12) (T := TX12) (N := 35) hx hb hts kb_inX12 hown hK.1 hP 0 rfl rfl 4 (by decide) (hK.2.w ww_5_204 rfl _) (fun _ h9 => h9) rfl dX12_readFriends_66 ?_
      refine va_getN (D := D) (ci := 11) (v := .ref (ba 11)) (C := RX11) (T := TX11) (N := 26) hx hb hts kb_inX11 hown hK.1 hP 2 rfl rfl 21 (by decide) (hK.2.nb ww_6_123 rfl rfl _) (fun _ h9 => h9) rfl dX12_readFriends_69 ?_
      refine lv_aload_n hx hb dX12_readFriends_72 rfl (lv_at hl 0 rfl) ?_
      refine va_get (D := D) (ci := 12) (v := .ref (ba 0)) (C := RX12) (T := TX12) (N := 35) hx hb hts kb_inX12 hown hK.1 hP 0 rfl rfl 4 (by decide) (hK.2.w ww_5_204 rfl _) (fun _ h9 => h9) rfl dX12_readFriends_73 ?_
      refine va_getN (D := D) (ci := 11) (v := .int (bu_friends z2)) (C := RX11) (T := TX11) (N := 26) hx hb hts kb_inX11 hown hK.1 hP 2 rfl rfl 8 (by decide) (hK.2.nb ww_6_98 rfl rfl _) (fun _ h9 => h9) rfl dX12_readFriends_76 ?_
      refine lv_iload_n hx hb dX12_readFriends_79 rfl (lv_at hl 1 rfl) ?_
      obtain ⟨h_9, hf⟩ := kb_if hf
      refine va_iast (D := D) hx hb hK.1 hP hD hS 13 0 rfl rfl h_9 dX12_readFriends_80 (fun H locs hP hD hS => ?_)
      have hP : va_P D vwCl (w_MO dA a q0 (some (ba 0)) (ta 0) g3 g4 g5 g6 g7 g8 g9 g10 g11 g12 g13 g14 g15 g16 g17 g18 z0 ++ (w_Tape dA ta y_tape ++ (w_Bus dA ba (bu_set_friendA z2 (upd (bu_friendA z2) ((bu_friends z2)).toNatClampNeg v1))))) H := hP
      have hD : va_D A (w_MO dA a q0 (some (ba 0)) (ta 0) g3 g4 g5 g6 g7 g8 g9 g10 g11 g12 g13 g14 g15 g16 g17 g18 z0 ++ (w_Tape dA ta y_tape ++ (w_Bus dA ba (bu_set_friendA z2 (upd (bu_friendA z2) ((bu_friends z2)).toNatClampNeg v1))))) := hD
      exact B_81 _ _ _ _ _ _ hf hP hD hS (lv_sub hl [0, 2] rfl)
    · rw [if_pos c_8] at hf
      exact RET _ _ H _ ls 64 hf hP hD hS dX12_readFriends_64
  have B_52 : ∀ (v1 : Int32) (v2 : Int32) (z0 : MOT) (z2 : BusT) (H : Heap) (locs : List Loc) (ls : Array Slot), f_X12_readFriends_b52 y_tape v1 v2 z0 z2 = some (u0, u2) → va_P D vwCl (w_MO dA a q0 (some (ba 0)) (ta 0) g3 g4 g5 g6 g7 g8 g9 g10 g11 g12 g13 g14 g15 g16 g17 g18 z0 ++ (w_Tape dA ta y_tape ++ (w_Bus dA ba z2))) H → va_D A (w_MO dA a q0 (some (ba 0)) (ta 0) g3 g4 g5 g6 g7 g8 g9 g10 g11 g12 g13 g14 g15 g16 g17 g18 z0 ++ (w_Tape dA ta y_tape ++ (w_Bus dA ba z2))) → va_S A s.heap H locs → lv_has ls 3 [(0, .ref (a 0)), (1, .int v1), (2, .int v2)] → W p l e ({ frames := 10, cells := 0, slots := 0, locals := 213 } : Room) s m ([.ref (a 0)] : List Value).toArray below meth c H locs 0 0 Q (F0 m 52 ls []) := by
    intro v1 v2 z0 z2 H locs ls hf hP hD hS hl
    rw [f_X12_readFriends_b52] at hf
    refine lv_aload_n hx hb dX12_readFriends_52 rfl (lv_at hl 0 rfl) ?_
    obtain ⟨r7, hc7, hf⟩ := kb_bind hf
    refine kb_cv (ws2 := (w_MO dA a q0 (some (ba 0)) (ta 0) g3 g4 g5 g6 g7 g8 g9 g10 g11 g12 g13 g14 g15 g16 g17 g18 r7 ++ (w_Tape dA ta y_tape ++ (w_Bus dA ba z2)))) (kb_rV (n := 0) (As := []) (rest := []) hx hb hml hown hK (c_X12_goesOn l D dA H.size a ta q0 (some (ba 0)) g3 g4 g5 g6 g7 g8 g9 g10 g11 g12 g13 g14 g15 g16 g17 g18 z0 y_tape r7 hc7) ⟨ww_6_189, ww_6_186, ww_6_188, ws_47, ww_1_12, rfl, by decide, by decide⟩ rfl rfl (by decide +kernel) ⟨Nat.le_of_ble_eq_true rfl, Nat.le_of_ble_eq_true rfl⟩ hP hD hS hA hE [0, 1] rfl (by decide) 0 rfl rfl rfl hl.1 rfl (Nat.le_of_ble_eq_true rfl) dX12_readFriends_53 ⟨Nat.le_of_ble_eq_true rfl, Nat.le_of_ble_eq_true rfl⟩) hP hD hS hA [0, 1] [2, 3, 4, 5, 6, 7, 8, 9, 10, 11, 12, 13, 14, 15, 16, 17] [16, 17, 0, 1, 2, 3, 4, 5, 6, 7, 8, 9, 10, 11, 12, 13, 14, 15] rfl rfl (by decide) (by decide) rfl (by decide) (fun H locs hP hD hS => ?_)
    exact B_56 _ _ _ _ _ _ _ hf hP hD hS (lv_sub hl [0, 1, 2] rfl)
  have B_47 : ∀ (v1 : Int32) (v2 : Int32) (z0 : MOT) (z2 : BusT) (H : Heap) (locs : List Loc) (ls : Array Slot), f_X12_readFriends_b47 y_tape v1 v2 z0 z2 = some (u0, u2) → va_P D vwCl (w_MO dA a q0 (some (ba 0)) (ta 0) g3 g4 g5 g6 g7 g8 g9 g10 g11 g12 g13 g14 g15 g16 g17 g18 z0 ++ (w_Tape dA ta y_tape ++ (w_Bus dA ba z2))) H → va_D A (w_MO dA a q0 (some (ba 0)) (ta 0) g3 g4 g5 g6 g7 g8 g9 g10 g11 g12 g13 g14 g15 g16 g17 g18 z0 ++ (w_Tape dA ta y_tape ++ (w_Bus dA ba z2))) → va_S A s.heap H locs → lv_has ls 3 [(0, .ref (a 0)), (1, .int v1), (2, .int v2)] → W p l e ({ frames := 10, cells := 0, slots := 0, locals := 213 } : Room) s m ([.ref (a 0)] : List Value).toArray below meth c H locs 0 0 Q (F0 m 47 ls []) := by
    intro v1 v2 z0 z2 H locs ls hf hP hD hS hl
    rw [f_X12_readFriends_b47] at hf
    refine lv_aload_n hx hb dX12_readFriends_47 rfl (lv_at hl 0 rfl) ?_
    refine lv_iconst (v := (3 : Int32)) hx hb dX12_readFriends_48 (by decide) ?_
    obtain ⟨r6, hc6, hf⟩ := kb_bind hf
    refine kb_cv (ws2 := (w_MO dA a q0 (some (ba 0)) (ta 0) g3 g4 g5 g6 g7 g8 g9 g10 g11 g12 g13 g14 g15 g16 g17 g18 r6 ++ (w_Tape dA ta y_tape ++ (w_Bus dA ba z2)))) (kb_rV (n := 1) (As := [.int (3 : Int32)]) (rest := []) hx hb hml hown hK (c_X12_wrong l D dA H.size a q0 (some (ba 0)) (ta 0) g3 g4 g5 g6 g7 g8 g9 g10 g11 g12 g13 g14 g15 g16 g17 g18 z0 (3 : Int32) r6 hc6) ⟨ww_6_226, ww_6_223, ww_6_225, ws_53, ww_1_12, rfl, by decide, by decide⟩ rfl rfl (by decide +kernel) ⟨Nat.le_of_ble_eq_true rfl, Nat.le_of_ble_eq_true rfl⟩ hP hD hS hA hE [0] rfl (by decide) 0 rfl rfl rfl hl.1 rfl (Nat.le_of_ble_eq_true rfl) dX12_readFriends_49 ⟨Nat.le_of_ble_eq_true rfl, Nat.le_of_ble_eq_true rfl⟩) hP hD hS hA [0] [1, 2, 3, 4, 5, 6, 7, 8, 9, 10, 11, 12, 13, 14, 15, 16, 17] [17, 0, 1, 2, 3, 4, 5, 6, 7, 8, 9, 10, 11, 12, 13, 14, 15, 16] rfl rfl (by decide) (by decide) rfl (by decide) (fun H locs hP hD hS => ?_)
    exact B_52 _ _ _ _ _ _ _ hf hP hD hS (lv_sub hl [0, 1, 2] rfl)
  have B_30 : ∀ (v1 : Int32) (v2 : Int32) (z0 : MOT) (z2 : BusT) (H : Heap) (locs : List Loc) (ls : Array Slot), f_X12_readFriends_b30 y_tape v1 v2 z0 z2 = some (u0, u2) → va_P D vwCl (w_MO dA a q0 (some (ba 0)) (ta 0) g3 g4 g5 g6 g7 g8 g9 g10 g11 g12 g13 g14 g15 g16 g17 g18 z0 ++ (w_Tape dA ta y_tape ++ (w_Bus dA ba z2))) H → va_D A (w_MO dA a q0 (some (ba 0)) (ta 0) g3 g4 g5 g6 g7 g8 g9 g10 g11 g12 g13 g14 g15 g16 g17 g18 z0 ++ (w_Tape dA ta y_tape ++ (w_Bus dA ba z2))) → va_S A s.heap H locs → lv_has ls 3 [(0, .ref (a 0)), (1, .int v1), (2, .int v2)] → W p l e ({ frames := 10, cells := 0, slots := 0, locals := 213 } : Room) s m ([.ref (a 0)] : List Value).toArray below meth c H locs 0 0 Q (F0 m 30 ls []) := by
    intro v1 v2 z0 z2 H locs ls hf hP hD hS hl
    rw [f_X12_readFriends_b30] at hf
    refine lv_iload_n hx hb dX12_readFriends_30 rfl (lv_at hl 1 rfl) ?_
    refine lv_iload_n hx hb dX12_readFriends_31 rfl (lv_at hl 2 rfl) ?_
    refine lv_icmp_eq (tgt := 47) hx hb dX12_readFriends_32 (by decide) (fun c_5 => ?_) (fun c_5 => ?_)
    · rw [if_pos c_5] at hf
      exact B_47 _ _ _ _ _ _ _ hf hP hD hS (lv_sub hl [0, 1, 2] rfl)
    · rw [if_neg c_5] at hf
      refine lv_aload_n hx hb dX12_readFriends_35 rfl (lv_at hl 0 rfl) ?_
      refine va_get (D := D) (ci := 12) (v := .ref (ba 0)) (C := RX12) (T := TX12) (N := 35) hx hb hts kb_inX12 hown hK.1 hP 0 rfl rfl 4 (by decide) (hK.2.w ww_5_204 rfl _) (fun _ h9 => h9) rfl dX12_readFriends_36 ?_
      refine lv_iload_n hx hb dX12_readFriends_39 rfl (lv_at hl 1 rfl) ?_
      refine lv_iload_n hx hb dX12_readFriends_40 rfl (lv_at hl 2 rfl) ?_
      obtain ⟨r11, hc11, hf⟩ := kb_bind hf
      refine kb_ci (ws2 := (w_MO dA a q0 (some (ba 0)) (ta 0) g3 g4 g5 g6 g7 g8 g9 g10 g11 g12 g13 g14 g15 g16 g17 g18 z0 ++ (w_Tape dA ta y_tape ++ (w_Bus dA ba z2)))) (kb_rV (n := 2) (As := [.int v1, .int v2]) (rest := []) hx hb hml hown hK (c_X11_areFriends l D dA H.size ba z2 v1 v2 r11 hc11) ⟨ww_7_86, ww_7_83, ww_7_84, ww_7_85, ww_1_18, rfl, by decide, by decide⟩ rfl rfl (by decide +kernel) ⟨Nat.le_of_ble_eq_true rfl, Nat.le_of_ble_eq_true rfl⟩ hP hD hS hA hE [2, 3, 4, 5, 6, 7, 8, 9, 10, 11, 12, 13, 14, 15, 16, 17] rfl (by decide) 0 rfl rfl rfl hl.1 rfl (Nat.le_of_ble_eq_true rfl) dX12_readFriends_41 ⟨Nat.le_of_ble_eq_true rfl, Nat.le_of_ble_eq_true rfl⟩) hP hD hS hA [2, 3, 4, 5, 6, 7, 8, 9, 10, 11, 12, 13, 14, 15, 16, 17] [0, 1] [0, 1, 2, 3, 4, 5, 6, 7, 8, 9, 10, 11, 12, 13, 14, 15, 16, 17] rfl rfl (by decide) (by decide) rfl (by decide) (fun H locs hP hD hS => ?_)
      refine lv_if_eq (tgt := 52) hx hb dX12_readFriends_44 (by decide) (fun c_12 => ?_) (fun c_12 => ?_)
      · rw [if_pos c_12] at hf
        exact B_52 _ _ _ _ _ _ _ hf hP hD hS (lv_sub hl [0, 1, 2] rfl)
      · rw [if_neg c_12] at hf
        exact B_47 _ _ _ _ _ _ _ hf hP hD hS (lv_sub hl [0, 1, 2] rfl)
  have B_24 : ∀ (v1 : Int32) (z0 : MOT) (z2 : BusT) (H : Heap) (locs : List Loc) (ls : Array Slot), f_X12_readFriends_b24 y_tape v1 z0 z2 = some (u0, u2) → va_P D vwCl (w_MO dA a q0 (some (ba 0)) (ta 0) g3 g4 g5 g6 g7 g8 g9 g10 g11 g12 g13 g14 g15 g16 g17 g18 z0 ++ (w_Tape dA ta y_tape ++ (w_Bus dA ba z2))) H → va_D A (w_MO dA a q0 (some (ba 0)) (ta 0) g3 g4 g5 g6 g7 g8 g9 g10 g11 g12 g13 g14 g15 g16 g17 g18 z0 ++ (w_Tape dA ta y_tape ++ (w_Bus dA ba z2))) → va_S A s.heap H locs → lv_has ls 3 [(0, .ref (a 0)), (1, .int v1)] → W p l e ({ frames := 10, cells := 0, slots := 0, locals := 213 } : Room) s m ([.ref (a 0)] : List Value).toArray below meth c H locs 0 0 Q (F0 m 24 ls []) := by
    intro v1 z0 z2 H locs ls hf hP hD hS hl
    rw [f_X12_readFriends_b24] at hf
    refine lv_aload_n hx hb dX12_readFriends_24 rfl (lv_at hl 0 rfl) ?_
    refine lv_iconst (v := (1 : Int32)) hx hb dX12_readFriends_25 (by decide) ?_
    obtain ⟨r4, hc4, hf⟩ := kb_bind hf
    refine kb_ci (ws2 := (w_MO dA a q0 (some (ba 0)) (ta 0) g3 g4 g5 g6 g7 g8 g9 g10 g11 g12 g13 g14 g15 g16 g17 g18 r4.2 ++ (w_Tape dA ta y_tape ++ (w_Bus dA ba z2)))) (kb_rV (n := 1) (As := [.int (1 : Int32)]) (rest := []) hx hb hml hown hK (c_X12_known l D dA H.size a ba q0 (ta 0) g3 g4 g5 g6 g7 g8 g9 g10 g11 g12 g13 g14 g15 g16 g17 g18 z0 z2 (1 : Int32) r4.1 r4.2 hc4) ⟨ww_7_68, ww_7_65, ww_7_67, ws_65, ww_1_12, rfl, by decide, by decide⟩ rfl rfl (by decide +kernel) ⟨Nat.le_of_ble_eq_true rfl, Nat.le_of_ble_eq_true rfl⟩ hP hD hS hA hE [0, 2, 3, 4, 5, 6, 7, 8, 9, 10, 11, 12, 13, 14, 15, 16, 17] rfl (by decide) 0 rfl rfl rfl hl.1 rfl (Nat.le_of_ble_eq_true rfl) dX12_readFriends_26 ⟨Nat.le_of_ble_eq_true rfl, Nat.le_of_ble_eq_true rfl⟩) hP hD hS hA [0, 2, 3, 4, 5, 6, 7, 8, 9, 10, 11, 12, 13, 14, 15, 16, 17] [1] [1, 0, 2, 3, 4, 5, 6, 7, 8, 9, 10, 11, 12, 13, 14, 15, 16, 17] rfl rfl (by decide) (by decide) rfl (by decide) (fun H locs hP hD hS => ?_)
    refine lv_istore_n (lv' := [(2, .int r4.1), (0, .ref (a 0)), (1, .int v1)]) hx hb dX12_readFriends_29 rfl hl (by decide) rfl (fun ls hl => ?_)
    exact B_30 _ _ _ _ _ _ _ hf hP hD hS (lv_sub hl [1, 2, 0] rfl)
  have B_18 : ∀ (v1 : Int32) (z0 : MOT) (z2 : BusT) (H : Heap) (locs : List Loc) (ls : Array Slot), f_X12_readFriends_b18 y_tape v1 z0 z2 = some (u0, u2) → va_P D vwCl (w_MO dA a q0 (some (ba 0)) (ta 0) g3 g4 g5 g6 g7 g8 g9 g10 g11 g12 g13 g14 g15 g16 g17 g18 z0 ++ (w_Tape dA ta y_tape ++ (w_Bus dA ba z2))) H → va_D A (w_MO dA a q0 (some (ba 0)) (ta 0) g3 g4 g5 g6 g7 g8 g9 g10 g11 g12 g13 g14 g15 g16 g17 g18 z0 ++ (w_Tape dA ta y_tape ++ (w_Bus dA ba z2))) → va_S A s.heap H locs → lv_has ls 3 [(0, .ref (a 0)), (1, .int v1)] → W p l e ({ frames := 10, cells := 0, slots := 0, locals := 213 } : Room) s m ([.ref (a 0)] : List Value).toArray below meth c H locs 0 0 Q (F0 m 18 ls []) := by
    intro v1 z0 z2 H locs ls hf hP hD hS hl
    rw [f_X12_readFriends_b18] at hf
    refine lv_aload_n hx hb dX12_readFriends_18 rfl (lv_at hl 0 rfl) ?_
    refine lv_bipush (v := (44 : Int32)) hx hb dX12_readFriends_19 (by decide) ?_
    obtain ⟨r3, hc3, hf⟩ := kb_bind hf
    refine kb_cv (ws2 := (w_MO dA a q0 (some (ba 0)) (ta 0) g3 g4 g5 g6 g7 g8 g9 g10 g11 g12 g13 g14 g15 g16 g17 g18 r3 ++ (w_Tape dA ta y_tape ++ (w_Bus dA ba z2)))) (kb_rV (n := 1) (As := [.int (44 : Int32)]) (rest := []) hx hb hml hown hK (c_X12_needsSign l D dA H.size a ta q0 (some (ba 0)) g3 g4 g5 g6 g7 g8 g9 g10 g11 g12 g13 g14 g15 g16 g17 g18 z0 y_tape (44 : Int32) r3 hc3) ⟨ww_7_82, ww_7_79, ww_7_81, ws_68, ww_1_12, rfl, by decide, by decide⟩ rfl rfl (by decide +kernel) ⟨Nat.le_of_ble_eq_true rfl, Nat.le_of_ble_eq_true rfl⟩ hP hD hS hA hE [0, 1] rfl (by decide) 0 rfl rfl rfl hl.1 rfl (Nat.le_of_ble_eq_true rfl) dX12_readFriends_21 ⟨Nat.le_of_ble_eq_true rfl, Nat.le_of_ble_eq_true rfl⟩) hP hD hS hA [0, 1] [2, 3, 4, 5, 6, 7, 8, 9, 10, 11, 12, 13, 14, 15, 16, 17] [16, 17, 0, 1, 2, 3, 4, 5, 6, 7, 8, 9, 10, 11, 12, 13, 14, 15] rfl rfl (by decide) (by decide) rfl (by decide) (fun H locs hP hD hS => ?_)
    exact B_24 _ _ _ _ _ _ hf hP hD hS (lv_sub hl [0, 1] rfl)
  have B_12 : ∀ (z0 : MOT) (z2 : BusT) (H : Heap) (locs : List Loc) (ls : Array Slot), f_X12_readFriends_b12 y_tape z0 z2 = some (u0, u2) → va_P D vwCl (w_MO dA a q0 (some (ba 0)) (ta 0) g3 g4 g5 g6 g7 g8 g9 g10 g11 g12 g13 g14 g15 g16 g17 g18 z0 ++ (w_Tape dA ta y_tape ++ (w_Bus dA ba z2))) H → va_D A (w_MO dA a q0 (some (ba 0)) (ta 0) g3 g4 g5 g6 g7 g8 g9 g10 g11 g12 g13 g14 g15 g16 g17 g18 z0 ++ (w_Tape dA ta y_tape ++ (w_Bus dA ba z2))) → va_S A s.heap H locs → lv_has ls 3 [(0, .ref (a 0))] → W p l e ({ frames := 10, cells := 0, slots := 0, locals := 213 } : Room) s m ([.ref (a 0)] : List Value).toArray below meth c H locs 0 0 Q (F0 m 12 ls []) := by
    intro z0 z2 H locs ls hf hP hD hS hl
    rw [f_X12_readFriends_b12] at hf
    refine lv_aload_n hx hb dX12_readFriends_12 rfl (lv_at hl 0 rfl) ?_
    refine lv_iconst (v := (1 : Int32)) hx hb dX12_readFriends_13 (by decide) ?_
    obtain ⟨r2, hc2, hf⟩ := kb_bind hf
    refine kb_ci (ws2 := (w_MO dA a q0 (some (ba 0)) (ta 0) g3 g4 g5 g6 g7 g8 g9 g10 g11 g12 g13 g14 g15 g16 g17 g18 r2.2 ++ (w_Tape dA ta y_tape ++ (w_Bus dA ba z2)))) (kb_rV (n := 1) (As := [.int (1 : Int32)]) (rest := []) hx hb hml hown hK (c_X12_readKnown l D dA H.size a ta ba q0 g3 g4 g5 g6 g7 g8 g9 g10 g11 g12 g13 g14 g15 g16 g17 g18 z0 y_tape z2 (1 : Int32) r2.1 r2.2 hc2) ⟨ww_7_64, ww_7_61, ww_7_63, ws_64, ww_1_12, rfl, by decide, by decide⟩ rfl rfl (by decide +kernel) ⟨Nat.le_of_ble_eq_true rfl, Nat.le_of_ble_eq_true rfl⟩ hP hD hS hA hE [0, 1, 2, 3, 4, 5, 6, 7, 8, 9, 10, 11, 12, 13, 14, 15, 16, 17] rfl (by decide) 0 rfl rfl rfl hl.1 rfl (Nat.le_of_ble_eq_true rfl) dX12_readFriends_14 ⟨Nat.le_of_ble_eq_true rfl, Nat.le_of_ble_eq_true rfl⟩) hP hD hS hA [0, 1, 2, 3, 4, 5, 6, 7, 8, 9, 10, 11, 12, 13, 14, 15, 16, 17] [] [0, 1, 2, 3, 4, 5, 6, 7, 8, 9, 10, 11, 12, 13, 14, 15, 16, 17] rfl rfl (by decide) (by decide) rfl (by decide) (fun H locs hP hD hS => ?_)
    refine lv_istore_n (lv' := [(1, .int r2.1), (0, .ref (a 0))]) hx hb dX12_readFriends_17 rfl hl (by decide) rfl (fun ls hl => ?_)
    exact B_18 _ _ _ _ _ _ hf hP hD hS (lv_sub hl [1, 0] rfl)
  have E0 : ∀ (H : Heap) (locs : List Loc), va_P D vwCl (w_MO dA a q0 (some (ba 0)) (ta 0) g3 g4 g5 g6 g7 g8 g9 g10 g11 g12 g13 g14 g15 g16 g17 g18 mo ++ (w_Tape dA ta y_tape ++ (w_Bus dA ba bu))) H → va_D A (w_MO dA a q0 (some (ba 0)) (ta 0) g3 g4 g5 g6 g7 g8 g9 g10 g11 g12 g13 g14 g15 g16 g17 g18 mo ++ (w_Tape dA ta y_tape ++ (w_Bus dA ba bu))) → va_S A s.heap H locs → W p l e ({ frames := 10, cells := 0, slots := 0, locals := 213 } : Room) s m ([.ref (a 0)] : List Value).toArray below meth c H locs 0 0 Q (F0 m 0 ls []) := by
    intro H locs hP hD hS
    rw [f_X12_readFriends] at hf
    refine lv_aload_n hx hb dX12_readFriends_0 rfl (lv_at hl 0 rfl) ?_
    refine lv_aload_n hx hb dX12_readFriends_1 rfl (lv_at hl 0 rfl) ?_
    refine va_get (D := D) (ci := 12) (v := .ref (ba 0)) (C := RX12) (T := TX12) (N := 35) hx hb hts kb_inX12 hown hK.1 hP 0 rfl rfl 4 (by decide) (hK.2.w ww_5_204 rfl _) (fun _ h9 => h9) rfl dX12_readFriends_2 ?_
    refine va_getN (D := D) (ci := 11) (v := .int (bu_friends bu)) (C := RX11) (T := TX11) (N := 26) hx hb hts kb_inX11 hown hK.1 hP 2 rfl rfl 8 (by decide) (hK.2.nb ww_6_98 rfl rfl _) (fun _ h9 => h9) rfl dX12_readFriends_5 ?_
    refine lv_iconst (v := (3 : Int32)) hx hb dX12_readFriends_8 (by decide) ?_
    obtain ⟨r1, hc1, hf⟩ := kb_bind hf
    refine kb_cv (ws2 := (w_MO dA a q0 (some (ba 0)) (ta 0) g3 g4 g5 g6 g7 g8 g9 g10 g11 g12 g13 g14 g15 g16 g17 g18 r1 ++ (w_Tape dA ta y_tape ++ (w_Bus dA ba bu)))) (kb_rV (n := 2) (As := [.int (bu_friends bu), .int (3 : Int32)]) (rest := []) hx hb hml hown hK (c_X12_begins l D dA H.size a ta q0 (some (ba 0)) g3 g4 g5 g6 g7 g8 g9 g10 g11 g12 g13 g14 g15 g16 g17 g18 mo y_tape (bu_friends bu) (3 : Int32) r1 hc1) ⟨ww_7_19, ww_7_16, ww_7_18, ws_58, ww_1_12, rfl, by decide, by decide⟩ rfl rfl (by decide +kernel) ⟨Nat.le_of_ble_eq_true rfl, Nat.le_of_ble_eq_true rfl⟩ hP hD hS hA hE [0, 1] rfl (by decide) 0 rfl rfl rfl hl.1 rfl (Nat.le_of_ble_eq_true rfl) dX12_readFriends_9 ⟨Nat.le_of_ble_eq_true rfl, Nat.le_of_ble_eq_true rfl⟩) hP hD hS hA [0, 1] [2, 3, 4, 5, 6, 7, 8, 9, 10, 11, 12, 13, 14, 15, 16, 17] [16, 17, 0, 1, 2, 3, 4, 5, 6, 7, 8, 9, 10, 11, 12, 13, 14, 15] rfl rfl (by decide) (by decide) rfl (by decide) (fun H locs hP hD hS => ?_)
    exact B_12 _ _ _ _ _ hf hP hD hS (lv_sub hl [0] rfl)
  exact E0 _ _ hP hD hS

noncomputable def f_X12_readHolds_b104 (y_tape : TapeT) (z0 : MOT) (z2 : BusT) : Option (MOT × BusT) := some (z0, z2)
noncomputable def f_X12_readHolds_b91 (y_tape : TapeT) (z0 : MOT) (z2 : BusT) : Option (MOT × BusT) := f_X12_readHolds_b104 y_tape z0 (bu_set_holders z2 ((bu_holders z2) + (1 : Int32)))
noncomputable def f_X12_readHolds_b68 (y_tape : TapeT) (v1 : Int32) (v2 : Int32) (v3 : Int32) (z0 : MOT) (z2 : BusT) : Option (MOT × BusT) := (if (mo_sort z0) = (5 : Int32) then some (z0, z2) else if kb_in? v1 8 then f_X12_readHolds_b91 y_tape z0 (bu_set_holds z2 (upd (bu_holds z2) (v1).toNatClampNeg (((4 : Int32) * v2) + v3))) else none)
noncomputable def f_X12_readHolds_b58 (y_tape : TapeT) (v1 : Int32) (v2 : Int32) (z0 : MOT) (z2 : BusT) : Option (MOT × BusT) := (f_X12_readPart z0 y_tape 31 (0 : Int32) (3 : Int32)).bind fun r6 => f_X12_readHolds_b68 y_tape v1 v2 r6.1 r6.2 z2
noncomputable def f_X12_readHolds_b48 (y_tape : TapeT) (v1 : Int32) (z0 : MOT) (z2 : BusT) : Option (MOT × BusT) := (f_X12_readPart z0 y_tape 30 (0 : Int32) (4 : Int32)).bind fun r5 => f_X12_readHolds_b58 y_tape v1 r5.1 r5.2 z2
noncomputable def f_X12_readHolds_b44 (y_tape : TapeT) (v1 : Int32) (z0 : MOT) (z2 : BusT) : Option (MOT × BusT) := (f_X12_goesOn z0 y_tape).bind fun r4 => f_X12_readHolds_b48 y_tape v1 r4 z2
noncomputable def f_X12_readHolds_b18 (y_tape : TapeT) (v1 : Int32) (z0 : MOT) (z2 : BusT) : Option (MOT × BusT) := (if (mo_sort z0) = (5 : Int32) then f_X12_readHolds_b44 y_tape v1 z0 z2 else if kb_in? v1 8 then (if ((bu_holds z2) (v1).toNatClampNeg) = (-1 : Int32) then f_X12_readHolds_b44 y_tape v1 z0 z2 else (f_X12_wrong z0 (3 : Int32)).bind fun r11 => f_X12_readHolds_b44 y_tape v1 r11 z2) else none)
noncomputable def f_X12_readHolds_b12 (y_tape : TapeT) (z0 : MOT) (z2 : BusT) : Option (MOT × BusT) := (f_X12_known z0 z2 (1 : Int32)).bind fun r2 => f_X12_readHolds_b18 y_tape r2.1 r2.2 z2
noncomputable def f_X12_readHolds (mo : MOT) (y_tape : TapeT) (bu : BusT) : Option (MOT × BusT) := (f_X12_begins mo y_tape (bu_holders bu) (4 : Int32)).bind fun r1 => f_X12_readHolds_b12 y_tape r1 bu
set_option maxHeartbeats 4000000 in
set_option maxRecDepth 100000 in
theorem c_X12_readHolds (l : Launch) (D : va_G) (dA : Nat → ClassId) (sz : Nat) (a : Nat → Nat) (ta : Nat → Nat) (ba : Nat → Nat) (q0 : Option Nat) (g3 : Nat) (g4 : Nat) (g5 : Nat) (g6 : Nat) (g7 : Nat) (g8 : Nat) (g9 : Nat) (g10 : Nat) (g11 : Nat) (g12 : Nat) (g13 : Nat) (g14 : Nat) (g15 : Nat) (g16 : Nat) (g17 : Nat) (g18 : Nat) (mo : MOT) (y_tape : TapeT) (bu : BusT) (u0 : MOT) (u2 : BusT) (hf : f_X12_readHolds mo y_tape bu = some (u0, u2)) : kb_Mv l yX12_readHolds cX12_readHolds 4 none ({ frames := 9, cells := 0, slots := 0, locals := 191 } : Room) D dA [.ref (a 0)] sz (w_MO dA a q0 (some (ba 0)) (ta 0) g3 g4 g5 g6 g7 g8 g9 g10 g11 g12 g13 g14 g15 g16 g17 g18 mo ++ (w_Tape dA ta y_tape ++ (w_Bus dA ba bu))) 0 0 (w_MO dA a q0 (some (ba 0)) (ta 0) g3 g4 g5 g6 g7 g8 g9 g10 g11 g12 g13 g14 g15 g16 g17 g18 u0 ++ (w_Tape dA ta y_tape ++ (w_Bus dA ba u2))) := by
  refine Met.ofW (cc := cX12_readHolds) (maxL := 4) (ret := none) (by decide) rfl ?_
  intro p e s m args below meth c s₁ B hml hv
  obtain ⟨rfl, hsz, hP, hK, hD0, hE⟩ := hv
  have hx := B.exec
  have hb := B.bytes
  have hr := B.returns
  have hown : s.vm.findClass RX12 = some m.cls := findClass_of_methodNamed B.named
  have hlocks := B.notSynchronized
  have hts : ∀ w ∈ kb_gw, w.before ([.ref (a 0)] : List Value).toArray s = true := fun w hw => hK.2.1 w hw _
  subst hsz
  have hD := hD0.self (sz := s.heap.size)
  generalize hAe : va_A (w_MO dA a q0 (some (ba 0)) (ta 0) g3 g4 g5 g6 g7 g8 g9 g10 g11 g12 g13 g14 g15 g16 g17 g18 mo ++ (w_Tape dA ta y_tape ++ (w_Bus dA ba bu))) s.heap.size = A at hD hE ⊢
  have hA : ∀ q : Nat, s.heap.size ≤ q → A q := fun q h => by rw [← hAe]; exact Or.inr h
  have hS : va_S A s.heap s.heap [] := va_S.rf
  have hl := lv_entry ([.ref (a 0)]) (n := 4) (Nat.le_of_ble_eq_true rfl)
  rw [lg_entry_eq]
  generalize (lg_sl ([.ref (a 0)]) ++ List.replicate (4 - (lg_sl ([.ref (a 0)])).length) Slot.unset).toArray = ls at hl ⊢
  have hl : lv_has ls 4 [(0, .ref (a 0))] := hl
  generalize hQ : MQ below (va_Qv (fun (_ : Unit) => True) (kb_B D A (w_MO dA a q0 (some (ba 0)) (ta 0) g3 g4 g5 g6 g7 g8 g9 g10 g11 g12 g13 g14 g15 g16 g17 g18 u0 ++ (w_Tape dA ta y_tape ++ (w_Bus dA ba u2)))) A) ([.ref (a 0)] : List Value).toArray s 0 0 A = Q
  show W p l e ({ frames := 9, cells := 0, slots := 0, locals := 191 } : Room) s m ([.ref (a 0)] : List Value).toArray below meth c s.heap [] 0 0 Q (F0 m 0 ls [])
  have RET : ∀ (w0 : MOT) (w2 : BusT) (H : Heap) (locs : List Loc) (ls : Array Slot) (pc : Nat), some (w0, w2) = some (u0, u2) → va_P D vwCl (w_MO dA a q0 (some (ba 0)) (ta 0) g3 g4 g5 g6 g7 g8 g9 g10 g11 g12 g13 g14 g15 g16 g17 g18 w0 ++ (w_Tape dA ta y_tape ++ (w_Bus dA ba w2))) H → va_D A (w_MO dA a q0 (some (ba 0)) (ta 0) g3 g4 g5 g6 g7 g8 g9 g10 g11 g12 g13 g14 g15 g16 g17 g18 w0 ++ (w_Tape dA ta y_tape ++ (w_Bus dA ba w2))) → va_S A s.heap H locs → decode cX12_readHolds pc = .ok (.return_, 1) → W p l e ({ frames := 9, cells := 0, slots := 0, locals := 191 } : Room) s m ([.ref (a 0)] : List Value).toArray below meth c H locs 0 0 Q (F0 m pc ls []) := by
    intro w0 w2 H locs ls pc hq hP hD hS hd
    cases hq
    rw [← hQ]
    exact W.vret hx hb hr (fun t ht hW => ⟨⟨(), rfl, trivial, by rw [ht]; exact hP, hD⟩, hS.F ht⟩) hS.2.2 hd
  have B_104 : ∀ (z0 : MOT) (z2 : BusT) (H : Heap) (locs : List Loc) (ls : Array Slot), f_X12_readHolds_b104 y_tape z0 z2 = some (u0, u2) → va_P D vwCl (w_MO dA a q0 (some (ba 0)) (ta 0) g3 g4 g5 g6 g7 g8 g9 g10 g11 g12 g13 g14 g15 g16 g17 g18 z0 ++ (w_Tape dA ta y_tape ++ (w_Bus dA ba z2))) H → va_D A (w_MO dA a q0 (some (ba 0)) (ta 0) g3 g4 g5 g6 g7 g8 g9 g10 g11 g12 g13 g14 g15 g16 g17 g18 z0 ++ (w_Tape dA ta y_tape ++ (w_Bus dA ba z2))) → va_S A s.heap H locs → lv_has ls 4 [] → W p l e ({ frames := 9, cells := 0, slots := 0, locals := 191 } : Room) s m ([.ref (a 0)] : List Value).toArray below meth c H locs 0 0 Q (F0 m 104 ls []) := by
    intro z0 z2 H locs ls hf hP hD hS hl
    rw [f_X12_readHolds_b104] at hf
    exact RET _ _ H _ ls 104 hf hP hD hS dX12_readHolds_104
  have B_91 : ∀ (z0 : MOT) (z2 : BusT) (H : Heap) (locs : List Loc) (ls : Array Slot), f_X12_readHolds_b91 y_tape z0 z2 = some (u0, u2) → va_P D vwCl (w_MO dA a q0 (some (ba 0)) (ta 0) g3 g4 g5 g6 g7 g8 g9 g10 g11 g12 g13 g14 g15 g16 g17 g18 z0 ++ (w_Tape dA ta y_tape ++ (w_Bus dA ba z2))) H → va_D A (w_MO dA a q0 (some (ba 0)) (ta 0) g3 g4 g5 g6 g7 g8 g9 g10 g11 g12 g13 g14 g15 g16 g17 g18 z0 ++ (w_Tape dA ta y_tape ++ (w_Bus dA ba z2))) → va_S A s.heap H locs → lv_has ls 4 [(0, .ref (a 0))] → W p l e ({ frames := 9, cells := 0, slots := 0, locals := 191 } : Room) s m ([.ref (a 0)] : List Value).toArray below meth c H locs 0 0 Q (F0 m 91 ls []) := by
    intro z0 z2 H locs ls hf hP hD hS hl
    rw [f_X12_readHolds_b91] at hf
    refine lv_aload_n hx hb dX12_readHolds_91 rfl (lv_at hl 0 rfl) ?_
    refine va_get (D := D) (ci := 12) (v := .ref (ba 0)) (C := RX12) (T := TX12) (N := 35) hx hb hts kb_inX12 hown hK.1 hP 0 rfl rfl 4 (by decide) (hK.2.w ww_5_204 rfl _) (fun _ h9 => h9) rfl dX12_readHolds_92 ?_
    refine lv_dup hx hb dX12_readHolds_95 rfl ?_
    refine va_getN (D := D) (ci := 11) (v := .int (bu_holders z2)) (C := RX11) (T := TX11) (N := 26) hx hb hts kb_inX11 hown hK.1 hP 2 rfl rfl 9 (by decide) (hK.2.nb ww_6_99 rfl rfl _) (fun _ h9 => h9) rfl dX12_readHolds_96 ?_
    refine lv_iconst (v := (1 : Int32)) hx hb dX12_readHolds_99 (by decide) ?_
    refine lv_iadd hx hb dX12_readHolds_100 ?_
    refine va_putN (D := D) (ci := 11) (v := .int ((bu_holders z2) + (1 : Int32))) (ty := .int) (C := RX11) (T := TX11) (N := 26) hx hb hts kb_inX11 tyX11 tyX11_ok nmX11 hown hK.1 hP hD hS 2 rfl rfl 9 (by decide) (hK.2.nb ww_6_99 rfl rfl _) (fun _ h9 => h9) rfl (by decide +kernel) rfl rfl (Nat.le_of_ble_eq_true rfl) dX12_readHolds_101 (fun H locs hP hD hS => ?_)
    have hP : va_P D vwCl (w_MO dA a q0 (some (ba 0)) (ta 0) g3 g4 g5 g6 g7 g8 g9 g10 g11 g12 g13 g14 g15 g16 g17 g18 z0 ++ (w_Tape dA ta y_tape ++ (w_Bus dA ba (bu_set_holders z2 ((bu_holders z2) + (1 : Int32)))))) H := hP
    have hD : va_D A (w_MO dA a q0 (some (ba 0)) (ta 0) g3 g4 g5 g6 g7 g8 g9 g10 g11 g12 g13 g14 g15 g16 g17 g18 z0 ++ (w_Tape dA ta y_tape ++ (w_Bus dA ba (bu_set_holders z2 ((bu_holders z2) + (1 : Int32)))))) := hD
    exact B_104 _ _ _ _ _ hf hP hD hS (lv_sub hl [] rfl)
  have B_68 : ∀ (v1 : Int32) (v2 : Int32) (v3 : Int32) (z0 : MOT) (z2 : BusT) (H : Heap) (locs : List Loc) (ls : Array Slot), f_X12_readHolds_b68 y_tape v1 v2 v3 z0 z2 = some (u0, u2) → va_P D vwCl (w_MO dA a q0 (some (ba 0)) (ta 0) g3 g4 g5 g6 g7 g8 g9 g10 g11 g12 g13 g14 g15 g16 g17 g18 z0 ++ (w_Tape dA ta y_tape ++ (w_Bus dA ba z2))) H → va_D A (w_MO dA a q0 (some (ba 0)) (ta 0) g3 g4 g5 g6 g7 g8 g9 g10 g11 g12 g13 g14 g15 g16 g17 g18 z0 ++ (w_Tape dA ta y_tape ++ (w_Bus dA ba z2))) → va_S A s.heap H locs → lv_has ls 4 [(0, .ref (a 0)), (1, .int v1), (2, .int v2), (3, .int v3)] → W p l e ({ frames := 9, cells := 0, slots := 0, locals := 191 } : Room) s m ([.ref (a 0)] : List Value).toArray below meth c H locs 0 0 Q (F0 m 68 ls []) := by
    intro v1 v2 v3 z0 z2 H locs ls hf hP hD hS hl
    rw [f_X12_readHolds_b68] at hf
    refine lv_aload_n hx hb dX12_readHolds_68 rfl (lv_at hl 0 rfl) ?_
    refine va_get (D := D) (ci := 12) (v := .int (mo_sort z0)) (C := RX12) (T := TX12) (N := 35) hx hb hts kb_inX12 hown hK.1 hP 0 rfl rfl 9 (by decide) (hK.2.w ww_5_209 rfl _) (fun _ h9 => h9) rfl dX12_readHolds_69 ?_
    refine lv_iconst (v := (5 : Int32)) hx hb dX12_readHolds_72 (by decide) ?_
    refine lv_icmp_ne (tgt := 77) hx hb dX12_readHolds_73 (by decide) (fun c_7 => ?_) (fun c_7 => ?_)
    · rw [if_neg c_7] at hf
      refine lv_aload_n hx hb dX12_readHolds_77 rfl (lv_at hl 0 rfl) ?_
      refine va_get (D := D) (ci := 12) (v := .ref (ba 0)) (C := RX12) (T := TX12) (N := 35) hx hb hts kb_inX12 hown hK.1 hP 0 rfl rfl 4 (by decide) (hK.2.w ww_5_204 rfl _) (fun _ h9 => h9) rfl dX12_readHolds_78 ?_
      refine va_getN (D := D) (ci := 11) (v := .ref (ba 8)) (C := RX11) (T := TX11) (N := 26) hx hb hts kb_inX11 hown hK.1 hP 2 rfl rfl 18 (by decide) (hK.2.nb ww_6_117 rfl rfl _) (fun _ h9 => h9) rfl dX12_readHolds_81 ?_
      refine lv_iload_n hx hb dX12_readHolds_84 rfl (lv_at hl 1 rfl) ?_
      refine lv_iconst (v := (4 : Int32)) hx hb dX12_readHolds_85 (by decide) ?_
      refine lv_iload_n hx hb dX12_readHolds_86 rfl (lv_at hl 2 rfl) ?_
      refine lv_imul hx hb dX12_readHolds_87 ?_
      refine lv_iload_n hx hb dX12_readHolds_88 rfl (lv_at hl 3 rfl) ?_
      refine lv_iadd hx hb dX12_readHolds_89 ?_
      obtain ⟨h_8, hf⟩ := kb_if hf
      refine va_iast (D := D) hx hb hK.1 hP hD hS 10 0 rfl rfl h_8 dX12_readHolds_90 (fun H locs hP hD hS => ?_)
      have hP : va_P D vwCl (w_MO dA a q0 (some (ba 0)) (ta 0) g3 g4 g5 g6 g7 g8 g9 g10 g11 g12 g13 g14 g15 g16 g17 g18 z0 ++ (w_Tape dA ta y_tape ++ (w_Bus dA ba (bu_set_holds z2 (upd (bu_holds z2) (v1).toNatClampNeg (((4 : Int32) * v2) + v3)))))) H := hP
      have hD : va_D A (w_MO dA a q0 (some (ba 0)) (ta 0) g3 g4 g5 g6 g7 g8 g9 g10 g11 g12 g13 g14 g15 g16 g17 g18 z0 ++ (w_Tape dA ta y_tape ++ (w_Bus dA ba (bu_set_holds z2 (upd (bu_holds z2) (v1).toNatClampNeg (((4 : Int32) * v2) + v3)))))) := hD
      exact B_91 _ _ _ _ _ hf hP hD hS (lv_sub hl [0] rfl)
    · rw [if_pos c_7] at hf
      exact RET _ _ H _ ls 76 hf hP hD hS dX12_readHolds_76
  have B_58 : ∀ (v1 : Int32) (v2 : Int32) (z0 : MOT) (z2 : BusT) (H : Heap) (locs : List Loc) (ls : Array Slot), f_X12_readHolds_b58 y_tape v1 v2 z0 z2 = some (u0, u2) → va_P D vwCl (w_MO dA a q0 (some (ba 0)) (ta 0) g3 g4 g5 g6 g7 g8 g9 g10 g11 g12 g13 g14 g15 g16 g17 g18 z0 ++ (w_Tape dA ta y_tape ++ (w_Bus dA ba z2))) H → va_D A (w_MO dA a q0 (some (ba 0)) (ta 0) g3 g4 g5 g6 g7 g8 g9 g10 g11 g12 g13 g14 g15 g16 g17 g18 z0 ++ (w_Tape dA ta y_tape ++ (w_Bus dA ba z2))) → va_S A s.heap H locs → lv_has ls 4 [(0, .ref (a 0)), (1, .int v1), (2, .int v2)] → W p l e ({ frames := 9, cells := 0, slots := 0, locals := 191 } : Room) s m ([.ref (a 0)] : List Value).toArray below meth c H locs 0 0 Q (F0 m 58 ls []) := by
    intro v1 v2 z0 z2 H locs ls hf hP hD hS hl
    rw [f_X12_readHolds_b58] at hf
    refine lv_aload_n hx hb dX12_readHolds_58 rfl (lv_at hl 0 rfl) ?_
    refine kb_ldcwS (tx := "seat") (q := dA (100 + 31)) hx hb hown (hE.2.2.2 ("BusSeatsModel", 347, "seat", 31) (by decide)) dX12_readHolds_59 ?_
    refine lv_iconst (v := (0 : Int32)) hx hb dX12_readHolds_62 (by decide) ?_
    refine lv_iconst (v := (3 : Int32)) hx hb dX12_readHolds_63 (by decide) ?_
    obtain ⟨r6, hc6, hf⟩ := kb_bind hf
    refine kb_ci (ws2 := (w_MO dA a q0 (some (ba 0)) (ta 0) g3 g4 g5 g6 g7 g8 g9 g10 g11 g12 g13 g14 g15 g16 g17 g18 r6.2 ++ (w_Tape dA ta y_tape ++ (w_Bus dA ba z2)))) (kb_rV (n := 3) (As := [.ref (dA (100 + 31)), .int (0 : Int32), .int (3 : Int32)]) (rest := []) hx hb hml hown hK (c_X12_readPart l D dA H.size a ta q0 (some (ba 0)) g3 g4 g5 g6 g7 g8 g9 g10 g11 g12 g13 g14 g15 g16 g17 g18 z0 y_tape 31 (by decide) (0 : Int32) (3 : Int32) r6.1 r6.2 hc6) ⟨ww_6_231, ww_6_228, ww_6_230, ws_54, ww_1_12, rfl, by decide, by decide⟩ rfl rfl (by decide +kernel) ⟨Nat.le_of_ble_eq_true rfl, Nat.le_of_ble_eq_true rfl⟩ hP hD hS hA hE [0, 1] rfl (by decide) 0 rfl rfl rfl hl.1 rfl (Nat.le_of_ble_eq_true rfl) dX12_readHolds_64 ⟨Nat.le_of_ble_eq_true rfl, Nat.le_of_ble_eq_true rfl⟩) hP hD hS hA [0, 1] [2, 3, 4, 5, 6, 7, 8, 9, 10, 11, 12, 13, 14, 15, 16, 17] [16, 17, 0, 1, 2, 3, 4, 5, 6, 7, 8, 9, 10, 11, 12, 13, 14, 15] rfl rfl (by decide) (by decide) rfl (by decide) (fun H locs hP hD hS => ?_)
    refine lv_istore_n (lv' := [(3, .int r6.1), (0, .ref (a 0)), (1, .int v1), (2, .int v2)]) hx hb dX12_readHolds_67 rfl hl (by decide) rfl (fun ls hl => ?_)
    exact B_68 _ _ _ _ _ _ _ _ hf hP hD hS (lv_sub hl [1, 2, 3, 0] rfl)
  have B_48 : ∀ (v1 : Int32) (z0 : MOT) (z2 : BusT) (H : Heap) (locs : List Loc) (ls : Array Slot), f_X12_readHolds_b48 y_tape v1 z0 z2 = some (u0, u2) → va_P D vwCl (w_MO dA a q0 (some (ba 0)) (ta 0) g3 g4 g5 g6 g7 g8 g9 g10 g11 g12 g13 g14 g15 g16 g17 g18 z0 ++ (w_Tape dA ta y_tape ++ (w_Bus dA ba z2))) H → va_D A (w_MO dA a q0 (some (ba 0)) (ta 0) g3 g4 g5 g6 g7 g8 g9 g10 g11 g12 g13 g14 g15 g16 g17 g18 z0 ++ (w_Tape dA ta y_tape ++ (w_Bus dA ba z2))) → va_S A s.heap H locs → lv_has ls 4 [(0, .ref (a 0)), (1, .int v1)] → W p l e ({ frames := 9, cells := 0, slots := 0, locals := 191 } : Room) s m ([.ref (a 0)] : List Value).toArray below meth c H locs 0 0 Q (F0 m 48 ls []) := by
    intro v1 z0 z2 H locs ls hf hP hD hS hl
    rw [f_X12_readHolds_b48] at hf
    refine lv_aload_n hx hb dX12_readHolds_48 rfl (lv_at hl 0 rfl) ?_
    refine kb_ldcwS (tx := "row") (q := dA (100 + 30)) hx hb hown (hE.2.2.2 ("BusSeatsModel", 345, "row", 30) (by decide)) dX12_readHolds_49 ?_
    refine lv_iconst (v := (0 : Int32)) hx hb dX12_readHolds_52 (by decide) ?_
    refine lv_iconst (v := (4 : Int32)) hx hb dX12_readHolds_53 (by decide) ?_
    obtain ⟨r5, hc5, hf⟩ := kb_bind hf
    refine kb_ci (ws2 := (w_MO dA a q0 (some (ba 0)) (ta 0) g3 g4 g5 g6 g7 g8 g9 g10 g11 g12 g13 g14 g15 g16 g17 g18 r5.2 ++ (w_Tape dA ta y_tape ++ (w_Bus dA ba z2)))) (kb_rV (n := 3) (As := [.ref (dA (100 + 30)), .int (0 : Int32), .int (4 : Int32)]) (rest := []) hx hb hml hown hK (c_X12_readPart l D dA H.size a ta q0 (some (ba 0)) g3 g4 g5 g6 g7 g8 g9 g10 g11 g12 g13 g14 g15 g16 g17 g18 z0 y_tape 30 (by decide) (0 : Int32) (4 : Int32) r5.1 r5.2 hc5) ⟨ww_6_231, ww_6_228, ww_6_230, ws_54, ww_1_12, rfl, by decide, by decide⟩ rfl rfl (by decide +kernel) ⟨Nat.le_of_ble_eq_true rfl, Nat.le_of_ble_eq_true rfl⟩ hP hD hS hA hE [0, 1] rfl (by decide) 0 rfl rfl rfl hl.1 rfl (Nat.le_of_ble_eq_true rfl) dX12_readHolds_54 ⟨Nat.le_of_ble_eq_true rfl, Nat.le_of_ble_eq_true rfl⟩) hP hD hS hA [0, 1] [2, 3, 4, 5, 6, 7, 8, 9, 10, 11, 12, 13, 14, 15, 16, 17] [16, 17, 0, 1, 2, 3, 4, 5, 6, 7, 8, 9, 10, 11, 12, 13, 14, 15] rfl rfl (by decide) (by decide) rfl (by decide) (fun H locs hP hD hS => ?_)
    refine lv_istore_n (lv' := [(2, .int r5.1), (0, .ref (a 0)), (1, .int v1)]) hx hb dX12_readHolds_57 rfl hl (by decide) rfl (fun ls hl => ?_)
    exact B_58 _ _ _ _ _ _ _ hf hP hD hS (lv_sub hl [1, 2, 0] rfl)
  have B_44 : ∀ (v1 : Int32) (z0 : MOT) (z2 : BusT) (H : Heap) (locs : List Loc) (ls : Array Slot), f_X12_readHolds_b44 y_tape v1 z0 z2 = some (u0, u2) → va_P D vwCl (w_MO dA a q0 (some (ba 0)) (ta 0) g3 g4 g5 g6 g7 g8 g9 g10 g11 g12 g13 g14 g15 g16 g17 g18 z0 ++ (w_Tape dA ta y_tape ++ (w_Bus dA ba z2))) H → va_D A (w_MO dA a q0 (some (ba 0)) (ta 0) g3 g4 g5 g6 g7 g8 g9 g10 g11 g12 g13 g14 g15 g16 g17 g18 z0 ++ (w_Tape dA ta y_tape ++ (w_Bus dA ba z2))) → va_S A s.heap H locs → lv_has ls 4 [(0, .ref (a 0)), (1, .int v1)] → W p l e ({ frames := 9, cells := 0, slots := 0, locals := 191 } : Room) s m ([.ref (a 0)] : List Value).toArray below meth c H locs 0 0 Q (F0 m 44 ls []) := by
    intro v1 z0 z2 H locs ls hf hP hD hS hl
    rw [f_X12_readHolds_b44] at hf
    refine lv_aload_n hx hb dX12_readHolds_44 rfl (lv_at hl 0 rfl) ?_
    obtain ⟨r4, hc4, hf⟩ := kb_bind hf
    refine kb_cv (ws2 := (w_MO dA a q0 (some (ba 0)) (ta 0) g3 g4 g5 g6 g7 g8 g9 g10 g11 g12 g13 g14 g15 g16 g17 g18 r4 ++ (w_Tape dA ta y_tape ++ (w_Bus dA ba z2)))) (kb_rV (n := 0) (As := []) (rest := []) hx hb hml hown hK (c_X12_goesOn l D dA H.size a ta q0 (some (ba 0)) g3 g4 g5 g6 g7 g8 g9 g10 g11 g12 g13 g14 g15 g16 g17 g18 z0 y_tape r4 hc4) ⟨ww_6_189, ww_6_186, ww_6_188, ws_47, ww_1_12, rfl, by decide, by decide⟩ rfl rfl (by decide +kernel) ⟨Nat.le_of_ble_eq_true rfl, Nat.le_of_ble_eq_true rfl⟩ hP hD hS hA hE [0, 1] rfl (by decide) 0 rfl rfl rfl hl.1 rfl (Nat.le_of_ble_eq_true rfl) dX12_readHolds_45 ⟨Nat.le_of_ble_eq_true rfl, Nat.le_of_ble_eq_true rfl⟩) hP hD hS hA [0, 1] [2, 3, 4, 5, 6, 7, 8, 9, 10, 11, 12, 13, 14, 15, 16, 17] [16, 17, 0, 1, 2, 3, 4, 5, 6, 7, 8, 9, 10, 11, 12, 13, 14, 15] rfl rfl (by decide) (by decide) rfl (by decide) (fun H locs hP hD hS => ?_)
    exact B_48 _ _ _ _ _ _ hf hP hD hS (lv_sub hl [0, 1] rfl)
  have B_18 : ∀ (v1 : Int32) (z0 : MOT) (z2 : BusT) (H : Heap) (locs : List Loc) (ls : Array Slot), f_X12_readHolds_b18 y_tape v1 z0 z2 = some (u0, u2) → va_P D vwCl (w_MO dA a q0 (some (ba 0)) (ta 0) g3 g4 g5 g6 g7 g8 g9 g10 g11 g12 g13 g14 g15 g16 g17 g18 z0 ++ (w_Tape dA ta y_tape ++ (w_Bus dA ba z2))) H → va_D A (w_MO dA a q0 (some (ba 0)) (ta 0) g3 g4 g5 g6 g7 g8 g9 g10 g11 g12 g13 g14 g15 g16 g17 g18 z0 ++ (w_Tape dA ta y_tape ++ (w_Bus dA ba z2))) → va_S A s.heap H locs → lv_has ls 4 [(0, .ref (a 0)), (1, .int v1)] → W p l e ({ frames := 9, cells := 0, slots := 0, locals := 191 } : Room) s m ([.ref (a 0)] : List Value).toArray below meth c H locs 0 0 Q (F0 m 18 ls []) := by
    intro v1 z0 z2 H locs ls hf hP hD hS hl
    rw [f_X12_readHolds_b18] at hf
    refine lv_aload_n hx hb dX12_readHolds_18 rfl (lv_at hl 0 rfl) ?_
    refine va_get (D := D) (ci := 12) (v := .int (mo_sort z0)) (C := RX12) (T := TX12) (N := 35) hx hb hts kb_inX12 hown hK.1 hP 0 rfl rfl 9 (by decide) (hK.2.w ww_5_209 rfl _) (fun _ h9 => h9) rfl dX12_readHolds_19 ?_
    refine lv_iconst (v := (5 : Int32)) hx hb dX12_readHolds_22 (by decide) ?_
    refine lv_icmp_eq (tgt := 44) hx hb dX12_readHolds_23 (by decide) (fun c_3 => ?_) (fun c_3 => ?_)
    · rw [if_pos c_3] at hf
      exact B_44 _ _ _ _ _ _ hf hP hD hS (lv_sub hl [0, 1] rfl)
    · rw [if_neg c_3] at hf
      refine lv_aload_n hx hb dX12_readHolds_26 rfl (lv_at hl 0 rfl) ?_
      refine va_get (D := D) (ci := 12) (v := .ref (ba 0)) (C := RX12) (T := TX12) (N := 35) hx hb hts kb_inX12 hown hK.1 hP 0 rfl rfl 4 (by decide) (hK.2.w ww_5_204 rfl _) (fun _ h9 => h9) rfl dX12_readHolds_27 ?_
      refine va_getN (D := D) (ci := 11) (v := .ref (ba 8)) (C := RX11) (T := TX11) (N := 26) hx hb hts kb_inX11 hown hK.1 hP 2 rfl rfl 18 (by decide) (hK.2.nb ww_6_117 rfl rfl _) (fun _ h9 => h9) rfl dX12_readHolds_30 ?_
      refine lv_iload_n hx hb dX12_readHolds_33 rfl (lv_at hl 1 rfl) ?_
      obtain ⟨h_9, hf⟩ := kb_if hf
      refine va_iald (D := D) hx hb hK.1 hP 10 0 rfl rfl h_9 dX12_readHolds_34 ?_
      refine lv_iconst (v := (-1 : Int32)) hx hb dX12_readHolds_35 (by decide) ?_
      refine lv_icmp_eq (tgt := 44) hx hb dX12_readHolds_36 (by decide) (fun c_10 => ?_) (fun c_10 => ?_)
      · rw [if_pos c_10] at hf
        exact B_44 _ _ _ _ _ _ hf hP hD hS (lv_sub hl [0, 1] rfl)
      · rw [if_neg c_10] at hf
        refine lv_aload_n hx hb dX12_readHolds_39 rfl (lv_at hl 0 rfl) ?_
        refine lv_iconst (v := (3 : Int32)) hx hb dX12_readHolds_40 (by decide) ?_
        obtain ⟨r11, hc11, hf⟩ := kb_bind hf
        refine kb_cv (ws2 := (w_MO dA a q0 (some (ba 0)) (ta 0) g3 g4 g5 g6 g7 g8 g9 g10 g11 g12 g13 g14 g15 g16 g17 g18 r11 ++ (w_Tape dA ta y_tape ++ (w_Bus dA ba z2)))) (kb_rV (n := 1) (As := [.int (3 : Int32)]) (rest := []) hx hb hml hown hK (c_X12_wrong l D dA H.size a q0 (some (ba 0)) (ta 0) g3 g4 g5 g6 g7 g8 g9 g10 g11 g12 g13 g14 g15 g16 g17 g18 z0 (3 : Int32) r11 hc11) ⟨ww_6_226, ww_6_223, ww_6_225, ws_53, ww_1_12, rfl, by decide, by decide⟩ rfl rfl (by decide +kernel) ⟨Nat.le_of_ble_eq_true rfl, Nat.le_of_ble_eq_true rfl⟩ hP hD hS hA hE [0] rfl (by decide) 0 rfl rfl rfl hl.1 rfl (Nat.le_of_ble_eq_true rfl) dX12_readHolds_41 ⟨Nat.le_of_ble_eq_true rfl, Nat.le_of_ble_eq_true rfl⟩) hP hD hS hA [0] [1, 2, 3, 4, 5, 6, 7, 8, 9, 10, 11, 12, 13, 14, 15, 16, 17] [17, 0, 1, 2, 3, 4, 5, 6, 7, 8, 9, 10, 11, 12, 13, 14, 15, 16] rfl rfl (by decide) (by decide) rfl (by decide) (fun H locs hP hD hS => ?_)
        exact B_44 _ _ _ _ _ _ hf hP hD hS (lv_sub hl [0, 1] rfl)
  have B_12 : ∀ (z0 : MOT) (z2 : BusT) (H : Heap) (locs : List Loc) (ls : Array Slot), f_X12_readHolds_b12 y_tape z0 z2 = some (u0, u2) → va_P D vwCl (w_MO dA a q0 (some (ba 0)) (ta 0) g3 g4 g5 g6 g7 g8 g9 g10 g11 g12 g13 g14 g15 g16 g17 g18 z0 ++ (w_Tape dA ta y_tape ++ (w_Bus dA ba z2))) H → va_D A (w_MO dA a q0 (some (ba 0)) (ta 0) g3 g4 g5 g6 g7 g8 g9 g10 g11 g12 g13 g14 g15 g16 g17 g18 z0 ++ (w_Tape dA ta y_tape ++ (w_Bus dA ba z2))) → va_S A s.heap H locs → lv_has ls 4 [(0, .ref (a 0))] → W p l e ({ frames := 9, cells := 0, slots := 0, locals := 191 } : Room) s m ([.ref (a 0)] : List Value).toArray below meth c H locs 0 0 Q (F0 m 12 ls []) := by
    intro z0 z2 H locs ls hf hP hD hS hl
    rw [f_X12_readHolds_b12] at hf
    refine lv_aload_n hx hb dX12_readHolds_12 rfl (lv_at hl 0 rfl) ?_
    refine lv_iconst (v := (1 : Int32)) hx hb dX12_readHolds_13 (by decide) ?_
    obtain ⟨r2, hc2, hf⟩ := kb_bind hf
    refine kb_ci (ws2 := (w_MO dA a q0 (some (ba 0)) (ta 0) g3 g4 g5 g6 g7 g8 g9 g10 g11 g12 g13 g14 g15 g16 g17 g18 r2.2 ++ (w_Tape dA ta y_tape ++ (w_Bus dA ba z2)))) (kb_rV (n := 1) (As := [.int (1 : Int32)]) (rest := []) hx hb hml hown hK (c_X12_known l D dA H.size a ba q0 (ta 0) g3 g4 g5 g6 g7 g8 g9 g10 g11 g12 g13 g14 g15 g16 g17 g18 z0 z2 (1 : Int32) r2.1 r2.2 hc2) ⟨ww_7_68, ww_7_65, ww_7_67, ws_65, ww_1_12, rfl, by decide, by decide⟩ rfl rfl (by decide +kernel) ⟨Nat.le_of_ble_eq_true rfl, Nat.le_of_ble_eq_true rfl⟩ hP hD hS hA hE [0, 2, 3, 4, 5, 6, 7, 8, 9, 10, 11, 12, 13, 14, 15, 16, 17] rfl (by decide) 0 rfl rfl rfl hl.1 rfl (Nat.le_of_ble_eq_true rfl) dX12_readHolds_14 ⟨Nat.le_of_ble_eq_true rfl, Nat.le_of_ble_eq_true rfl⟩) hP hD hS hA [0, 2, 3, 4, 5, 6, 7, 8, 9, 10, 11, 12, 13, 14, 15, 16, 17] [1] [1, 0, 2, 3, 4, 5, 6, 7, 8, 9, 10, 11, 12, 13, 14, 15, 16, 17] rfl rfl (by decide) (by decide) rfl (by decide) (fun H locs hP hD hS => ?_)
    refine lv_istore_n (lv' := [(1, .int r2.1), (0, .ref (a 0))]) hx hb dX12_readHolds_17 rfl hl (by decide) rfl (fun ls hl => ?_)
    exact B_18 _ _ _ _ _ _ hf hP hD hS (lv_sub hl [1, 0] rfl)
  have E0 : ∀ (H : Heap) (locs : List Loc), va_P D vwCl (w_MO dA a q0 (some (ba 0)) (ta 0) g3 g4 g5 g6 g7 g8 g9 g10 g11 g12 g13 g14 g15 g16 g17 g18 mo ++ (w_Tape dA ta y_tape ++ (w_Bus dA ba bu))) H → va_D A (w_MO dA a q0 (some (ba 0)) (ta 0) g3 g4 g5 g6 g7 g8 g9 g10 g11 g12 g13 g14 g15 g16 g17 g18 mo ++ (w_Tape dA ta y_tape ++ (w_Bus dA ba bu))) → va_S A s.heap H locs → W p l e ({ frames := 9, cells := 0, slots := 0, locals := 191 } : Room) s m ([.ref (a 0)] : List Value).toArray below meth c H locs 0 0 Q (F0 m 0 ls []) := by
    intro H locs hP hD hS
    rw [f_X12_readHolds] at hf
    refine lv_aload_n hx hb dX12_readHolds_0 rfl (lv_at hl 0 rfl) ?_
    refine lv_aload_n hx hb dX12_readHolds_1 rfl (lv_at hl 0 rfl) ?_
    refine va_get (D := D) (ci := 12) (v := .ref (ba 0)) (C := RX12) (T := TX12) (N := 35) hx hb hts kb_inX12 hown hK.1 hP 0 rfl rfl 4 (by decide) (hK.2.w ww_5_204 rfl _) (fun _ h9 => h9) rfl dX12_readHolds_2 ?_
    refine va_getN (D := D) (ci := 11) (v := .int (bu_holders bu)) (C := RX11) (T := TX11) (N := 26) hx hb hts kb_inX11 hown hK.1 hP 2 rfl rfl 9 (by decide) (hK.2.nb ww_6_99 rfl rfl _) (fun _ h9 => h9) rfl dX12_readHolds_5 ?_
    refine lv_iconst (v := (4 : Int32)) hx hb dX12_readHolds_8 (by decide) ?_
    obtain ⟨r1, hc1, hf⟩ := kb_bind hf
    refine kb_cv (ws2 := (w_MO dA a q0 (some (ba 0)) (ta 0) g3 g4 g5 g6 g7 g8 g9 g10 g11 g12 g13 g14 g15 g16 g17 g18 r1 ++ (w_Tape dA ta y_tape ++ (w_Bus dA ba bu)))) (kb_rV (n := 2) (As := [.int (bu_holders bu), .int (4 : Int32)]) (rest := []) hx hb hml hown hK (c_X12_begins l D dA H.size a ta q0 (some (ba 0)) g3 g4 g5 g6 g7 g8 g9 g10 g11 g12 g13 g14 g15 g16 g17 g18 mo y_tape (bu_holders bu) (4 : Int32) r1 hc1) ⟨ww_7_19, ww_7_16, ww_7_18, ws_58, ww_1_12, rfl, by decide, by decide⟩ rfl rfl (by decide +kernel) ⟨Nat.le_of_ble_eq_true rfl, Nat.le_of_ble_eq_true rfl⟩ hP hD hS hA hE [0, 1] rfl (by decide) 0 rfl rfl rfl hl.1 rfl (Nat.le_of_ble_eq_true rfl) dX12_readHolds_9 ⟨Nat.le_of_ble_eq_true rfl, Nat.le_of_ble_eq_true rfl⟩) hP hD hS hA [0, 1] [2, 3, 4, 5, 6, 7, 8, 9, 10, 11, 12, 13, 14, 15, 16, 17] [16, 17, 0, 1, 2, 3, 4, 5, 6, 7, 8, 9, 10, 11, 12, 13, 14, 15] rfl rfl (by decide) (by decide) rfl (by decide) (fun H locs hP hD hS => ?_)
    exact B_12 _ _ _ _ _ hf hP hD hS (lv_sub hl [0] rfl)
  exact E0 _ _ hP hD hS

noncomputable def f_X12_readLine_b85 (y_tape : TapeT) (z0 : MOT) (z2 : BusT) : Option (MOT × BusT) := some (z0, z2)
noncomputable def f_X12_readLine_b77 (y_tape : TapeT) (z0 : MOT) (z2 : BusT) : Option (MOT × BusT) := f_X12_readLine_b85 y_tape z0 z2
noncomputable def f_X12_readLine_b61 (y_tape : TapeT) (z0 : MOT) (z2 : BusT) : Option (MOT × BusT) := f_X12_readLine_b85 y_tape z0 z2
noncomputable def f_X12_readLine_b45 (y_tape : TapeT) (z0 : MOT) (z2 : BusT) : Option (MOT × BusT) := f_X12_readLine_b85 y_tape z0 z2
noncomputable def f_X12_readLine_b29 (y_tape : TapeT) (z0 : MOT) (z2 : BusT) : Option (MOT × BusT) := f_X12_readLine_b85 y_tape z0 z2
noncomputable def f_X12_readLine_b13 (y_tape : TapeT) (z0 : MOT) (z2 : BusT) : Option (MOT × BusT) := f_X12_readLine_b85 y_tape z0 z2
noncomputable def f_X12_readLine (mo : MOT) (y_tape : TapeT) (bu : BusT) : Option (MOT × BusT) := (f_X12_isWord mo 0).bind fun r1 => (if r1 = 0 then (f_X12_isWord mo 10).bind fun r3 => (if r3 = 0 then (f_X12_isWord mo 20).bind fun r5 => (if r5 = 0 then (f_X12_isWord mo 21).bind fun r7 => (if r7 = 0 then (f_X12_isWord mo 22).bind fun r9 => (if r9 = 0 then (f_X12_wrong mo (1 : Int32)).bind fun r11 => f_X12_readLine_b85 y_tape r11 bu else (f_X12_readHolds mo y_tape bu).bind fun r12 => f_X12_readLine_b77 y_tape r12.1 r12.2) else (f_X12_readFriends mo y_tape bu).bind fun r13 => f_X12_readLine_b61 y_tape r13.1 r13.2) else (f_X12_readRider mo y_tape bu).bind fun r14 => f_X12_readLine_b45 y_tape r14.1 r14.2) else (f_X12_readRule mo y_tape bu).bind fun r15 => f_X12_readLine_b29 y_tape r15.1 r15.2) else (f_X12_readOne mo y_tape bu).bind fun r16 => f_X12_readLine_b13 y_tape r16.1 r16.2)
set_option maxHeartbeats 4000000 in
set_option maxRecDepth 100000 in
theorem c_X12_readLine (l : Launch) (D : va_G) (dA : Nat → ClassId) (sz : Nat) (a : Nat → Nat) (ta : Nat → Nat) (ba : Nat → Nat) (q0 : Option Nat) (g3 : Nat) (g4 : Nat) (g5 : Nat) (g6 : Nat) (g7 : Nat) (g8 : Nat) (g9 : Nat) (g10 : Nat) (g11 : Nat) (g12 : Nat) (g13 : Nat) (g14 : Nat) (g15 : Nat) (g16 : Nat) (g17 : Nat) (g18 : Nat) (mo : MOT) (y_tape : TapeT) (bu : BusT) (u0 : MOT) (u2 : BusT) (hf : f_X12_readLine mo y_tape bu = some (u0, u2)) : kb_Mv l yX12_readLine cX12_readLine 1 none ({ frames := 11, cells := 0, slots := 0, locals := 241 } : Room) D dA [.ref (a 0)] sz (w_MO dA a q0 (some (ba 0)) (ta 0) g3 g4 g5 g6 g7 g8 g9 g10 g11 g12 g13 g14 g15 g16 g17 g18 mo ++ (w_Tape dA ta y_tape ++ (w_Bus dA ba bu))) 0 0 (w_MO dA a q0 (some (ba 0)) (ta 0) g3 g4 g5 g6 g7 g8 g9 g10 g11 g12 g13 g14 g15 g16 g17 g18 u0 ++ (w_Tape dA ta y_tape ++ (w_Bus dA ba u2))) := by
  refine Met.ofW (cc := cX12_readLine) (maxL := 1) (ret := none) (by decide) rfl ?_
  intro p e s m args below meth c s₁ B hml hv
  obtain ⟨rfl, hsz, hP, hK, hD0, hE⟩ := hv
  have hx := B.exec
  have hb := B.bytes
  have hr := B.returns
  have hown : s.vm.findClass RX12 = some m.cls := findClass_of_methodNamed B.named
  have hlocks := B.notSynchronized
  have hts : ∀ w ∈ kb_gw, w.before ([.ref (a 0)] : List Value).toArray s = true := fun w hw => hK.2.1 w hw _
  subst hsz
  have hD := hD0.self (sz := s.heap.size)
  generalize hAe : va_A (w_MO dA a q0 (some (ba 0)) (ta 0) g3 g4 g5 g6 g7 g8 g9 g10 g11 g12 g13 g14 g15 g16 g17 g18 mo ++ (w_Tape dA ta y_tape ++ (w_Bus dA ba bu))) s.heap.size = A at hD hE ⊢
  have hA : ∀ q : Nat, s.heap.size ≤ q → A q := fun q h => by rw [← hAe]; exact Or.inr h
  have hS : va_S A s.heap s.heap [] := va_S.rf
  have hl := lv_entry ([.ref (a 0)]) (n := 1) (Nat.le_of_ble_eq_true rfl)
  rw [lg_entry_eq]
  generalize (lg_sl ([.ref (a 0)]) ++ List.replicate (1 - (lg_sl ([.ref (a 0)])).length) Slot.unset).toArray = ls at hl ⊢
  have hl : lv_has ls 1 [(0, .ref (a 0))] := hl
  generalize hQ : MQ below (va_Qv (fun (_ : Unit) => True) (kb_B D A (w_MO dA a q0 (some (ba 0)) (ta 0) g3 g4 g5 g6 g7 g8 g9 g10 g11 g12 g13 g14 g15 g16 g17 g18 u0 ++ (w_Tape dA ta y_tape ++ (w_Bus dA ba u2)))) A) ([.ref (a 0)] : List Value).toArray s 0 0 A = Q
  show W p l e ({ frames := 11, cells := 0, slots := 0, locals := 241 } : Room) s m ([.ref (a 0)] : List Value).toArray below meth c s.heap [] 0 0 Q (F0 m 0 ls [])
  have RET : ∀ (w0 : MOT) (w2 : BusT) (H : Heap) (locs : List Loc) (ls : Array Slot) (pc : Nat), some (w0, w2) = some (u0, u2) → va_P D vwCl (w_MO dA a q0 (some (ba 0)) (ta 0) g3 g4 g5 g6 g7 g8 g9 g10 g11 g12 g13 g14 g15 g16 g17 g18 w0 ++ (w_Tape dA ta y_tape ++ (w_Bus dA ba w2))) H → va_D A (w_MO dA a q0 (some (ba 0)) (ta 0) g3 g4 g5 g6 g7 g8 g9 g10 g11 g12 g13 g14 g15 g16 g17 g18 w0 ++ (w_Tape dA ta y_tape ++ (w_Bus dA ba w2))) → va_S A s.heap H locs → decode cX12_readLine pc = .ok (.return_, 1) → W p l e ({ frames := 11, cells := 0, slots := 0, locals := 241 } : Room) s m ([.ref (a 0)] : List Value).toArray below meth c H locs 0 0 Q (F0 m pc ls []) := by
    intro w0 w2 H locs ls pc hq hP hD hS hd
    cases hq
    rw [← hQ]
    exact W.vret hx hb hr (fun t ht hW => ⟨⟨(), rfl, trivial, by rw [ht]; exact hP, hD⟩, hS.F ht⟩) hS.2.2 hd
  have B_85 : ∀ (z0 : MOT) (z2 : BusT) (H : Heap) (locs : List Loc) (ls : Array Slot), f_X12_readLine_b85 y_tape z0 z2 = some (u0, u2) → va_P D vwCl (w_MO dA a q0 (some (ba 0)) (ta 0) g3 g4 g5 g6 g7 g8 g9 g10 g11 g12 g13 g14 g15 g16 g17 g18 z0 ++ (w_Tape dA ta y_tape ++ (w_Bus dA ba z2))) H → va_D A (w_MO dA a q0 (some (ba 0)) (ta 0) g3 g4 g5 g6 g7 g8 g9 g10 g11 g12 g13 g14 g15 g16 g17 g18 z0 ++ (w_Tape dA ta y_tape ++ (w_Bus dA ba z2))) → va_S A s.heap H locs → lv_has ls 1 [] → W p l e ({ frames := 11, cells := 0, slots := 0, locals := 241 } : Room) s m ([.ref (a 0)] : List Value).toArray below meth c H locs 0 0 Q (F0 m 85 ls []) := by
    intro z0 z2 H locs ls hf hP hD hS hl
    rw [f_X12_readLine_b85] at hf
    exact RET _ _ H _ ls 85 hf hP hD hS dX12_readLine_85
  have B_77 : ∀ (z0 : MOT) (z2 : BusT) (H : Heap) (locs : List Loc) (ls : Array Slot), f_X12_readLine_b77 y_tape z0 z2 = some (u0, u2) → va_P D vwCl (w_MO dA a q0 (some (ba 0)) (ta 0) g3 g4 g5 g6 g7 g8 g9 g10 g11 g12 g13 g14 g15 g16 g17 g18 z0 ++ (w_Tape dA ta y_tape ++ (w_Bus dA ba z2))) H → va_D A (w_MO dA a q0 (some (ba 0)) (ta 0) g3 g4 g5 g6 g7 g8 g9 g10 g11 g12 g13 g14 g15 g16 g17 g18 z0 ++ (w_Tape dA ta y_tape ++ (w_Bus dA ba z2))) → va_S A s.heap H locs → lv_has ls 1 [] → W p l e ({ frames := 11, cells := 0, slots := 0, locals := 241 } : Room) s m ([.ref (a 0)] : List Value).toArray below meth c H locs 0 0 Q (F0 m 77 ls []) := by
    intro z0 z2 H locs ls hf hP hD hS hl
    rw [f_X12_readLine_b77] at hf
    refine lv_goto (tgt := 85) hx hb dX12_readLine_77 (by decide) ?_
    exact B_85 _ _ _ _ _ hf hP hD hS (lv_sub hl [] rfl)
  have B_61 : ∀ (z0 : MOT) (z2 : BusT) (H : Heap) (locs : List Loc) (ls : Array Slot), f_X12_readLine_b61 y_tape z0 z2 = some (u0, u2) → va_P D vwCl (w_MO dA a q0 (some (ba 0)) (ta 0) g3 g4 g5 g6 g7 g8 g9 g10 g11 g12 g13 g14 g15 g16 g17 g18 z0 ++ (w_Tape dA ta y_tape ++ (w_Bus dA ba z2))) H → va_D A (w_MO dA a q0 (some (ba 0)) (ta 0) g3 g4 g5 g6 g7 g8 g9 g10 g11 g12 g13 g14 g15 g16 g17 g18 z0 ++ (w_Tape dA ta y_tape ++ (w_Bus dA ba z2))) → va_S A s.heap H locs → lv_has ls 1 [] → W p l e ({ frames := 11, cells := 0, slots := 0, locals := 241 } : Room) s m ([.ref (a 0)] : List Value).toArray below meth c H locs 0 0 Q (F0 m 61 ls []) := by
    intro z0 z2 H locs ls hf hP hD hS hl
    rw [f_X12_readLine_b61] at hf
    refine lv_goto (tgt := 85) hx hb dX12_readLine_61 (by decide) ?_
    exact B_85 _ _ _ _ _ hf hP hD hS (lv_sub hl [] rfl)
  have B_45 : ∀ (z0 : MOT) (z2 : BusT) (H : Heap) (locs : List Loc) (ls : Array Slot), f_X12_readLine_b45 y_tape z0 z2 = some (u0, u2) → va_P D vwCl (w_MO dA a q0 (some (ba 0)) (ta 0) g3 g4 g5 g6 g7 g8 g9 g10 g11 g12 g13 g14 g15 g16 g17 g18 z0 ++ (w_Tape dA ta y_tape ++ (w_Bus dA ba z2))) H → va_D A (w_MO dA a q0 (some (ba 0)) (ta 0) g3 g4 g5 g6 g7 g8 g9 g10 g11 g12 g13 g14 g15 g16 g17 g18 z0 ++ (w_Tape dA ta y_tape ++ (w_Bus dA ba z2))) → va_S A s.heap H locs → lv_has ls 1 [] → W p l e ({ frames := 11, cells := 0, slots := 0, locals := 241 } : Room) s m ([.ref (a 0)] : List Value).toArray below meth c H locs 0 0 Q (F0 m 45 ls []) := by
    intro z0 z2 H locs ls hf hP hD hS hl
    rw [f_X12_readLine_b45] at hf
    refine lv_goto (tgt := 85) hx hb dX12_readLine_45 (by decide) ?_
    exact B_85 _ _ _ _ _ hf hP hD hS (lv_sub hl [] rfl)
  have B_29 : ∀ (z0 : MOT) (z2 : BusT) (H : Heap) (locs : List Loc) (ls : Array Slot), f_X12_readLine_b29 y_tape z0 z2 = some (u0, u2) → va_P D vwCl (w_MO dA a q0 (some (ba 0)) (ta 0) g3 g4 g5 g6 g7 g8 g9 g10 g11 g12 g13 g14 g15 g16 g17 g18 z0 ++ (w_Tape dA ta y_tape ++ (w_Bus dA ba z2))) H → va_D A (w_MO dA a q0 (some (ba 0)) (ta 0) g3 g4 g5 g6 g7 g8 g9 g10 g11 g12 g13 g14 g15 g16 g17 g18 z0 ++ (w_Tape dA ta y_tape ++ (w_Bus dA ba z2))) → va_S A s.heap H locs → lv_has ls 1 [] → W p l e ({ frames := 11, cells := 0, slots := 0, locals := 241 } : Room) s m ([.ref (a 0)] : List Value).toArray below meth c H locs 0 0 Q (F0 m 29 ls []) := by
    intro z0 z2 H locs ls hf hP hD hS hl
    rw [f_X12_readLine_b29] at hf
    refine lv_goto (tgt := 85) hx hb dX12_readLine_29 (by decide) ?_
    exact B_85 _ _ _ _ _ hf hP hD hS (lv_sub hl [] rfl)
  have B_13 : ∀ (z0 : MOT) (z2 : BusT) (H : Heap) (locs : List Loc) (ls : Array Slot), f_X12_readLine_b13 y_tape z0 z2 = some (u0, u2) → va_P D vwCl (w_MO dA a q0 (some (ba 0)) (ta 0) g3 g4 g5 g6 g7 g8 g9 g10 g11 g12 g13 g14 g15 g16 g17 g18 z0 ++ (w_Tape dA ta y_tape ++ (w_Bus dA ba z2))) H → va_D A (w_MO dA a q0 (some (ba 0)) (ta 0) g3 g4 g5 g6 g7 g8 g9 g10 g11 g12 g13 g14 g15 g16 g17 g18 z0 ++ (w_Tape dA ta y_tape ++ (w_Bus dA ba z2))) → va_S A s.heap H locs → lv_has ls 1 [] → W p l e ({ frames := 11, cells := 0, slots := 0, locals := 241 } : Room) s m ([.ref (a 0)] : List Value).toArray below meth c H locs 0 0 Q (F0 m 13 ls []) := by
    intro z0 z2 H locs ls hf hP hD hS hl
    rw [f_X12_readLine_b13] at hf
    refine lv_goto (tgt := 85) hx hb dX12_readLine_13 (by decide) ?_
    exact B_85 _ _ _ _ _ hf hP hD hS (lv_sub hl [] rfl)
  have E0 : ∀ (H : Heap) (locs : List Loc), va_P D vwCl (w_MO dA a q0 (some (ba 0)) (ta 0) g3 g4 g5 g6 g7 g8 g9 g10 g11 g12 g13 g14 g15 g16 g17 g18 mo ++ (w_Tape dA ta y_tape ++ (w_Bus dA ba bu))) H → va_D A (w_MO dA a q0 (some (ba 0)) (ta 0) g3 g4 g5 g6 g7 g8 g9 g10 g11 g12 g13 g14 g15 g16 g17 g18 mo ++ (w_Tape dA ta y_tape ++ (w_Bus dA ba bu))) → va_S A s.heap H locs → W p l e ({ frames := 11, cells := 0, slots := 0, locals := 241 } : Room) s m ([.ref (a 0)] : List Value).toArray below meth c H locs 0 0 Q (F0 m 0 ls []) := by
    intro H locs hP hD hS
    rw [f_X12_readLine] at hf
    refine lv_aload_n hx hb dX12_readLine_0 rfl (lv_at hl 0 rfl) ?_
    refine va_ldcS (tx := "bus") (q := dA (100 + 0)) hx hb hown (hE.2.2.2 ("BusSeatsModel", 178, "bus", 0) (by decide)) dX12_readLine_1 ?_
    obtain ⟨r1, hc1, hf⟩ := kb_bind hf
    refine kb_ci (ws2 := (w_MO dA a q0 (some (ba 0)) (ta 0) g3 g4 g5 g6 g7 g8 g9 g10 g11 g12 g13 g14 g15 g16 g17 g18 mo ++ (w_Tape dA ta y_tape ++ (w_Bus dA ba bu)))) (kb_rV (n := 1) (As := [.ref (dA (100 + 0))]) (rest := []) hx hb hml hown hK (c_X12_isWord l D dA H.size a q0 (some (ba 0)) (ta 0) g3 g4 g5 g6 g7 g8 g9 g10 g11 g12 g13 g14 g15 g16 g17 g18 mo 0 (by decide) r1 hc1) ⟨ww_6_213, ww_6_210, ww_6_212, ws_51, ww_1_12, rfl, by decide, by decide⟩ rfl rfl (by decide +kernel) ⟨Nat.le_of_ble_eq_true rfl, Nat.le_of_ble_eq_true rfl⟩ hP hD hS hA hE [0] rfl (by decide) 0 rfl rfl rfl hl.1 rfl (Nat.le_of_ble_eq_true rfl) dX12_readLine_3 ⟨Nat.le_of_ble_eq_true rfl, Nat.le_of_ble_eq_true rfl⟩) hP hD hS hA [0] [1, 2, 3, 4, 5, 6, 7, 8, 9, 10, 11, 12, 13, 14, 15, 16, 17] [17, 0, 1, 2, 3, 4, 5, 6, 7, 8, 9, 10, 11, 12, 13, 14, 15, 16] rfl rfl (by decide) (by decide) rfl (by decide) (fun H locs hP hD hS => ?_)
    refine lv_if_eq (tgt := 16) hx hb dX12_readLine_6 (by decide) (fun c_2 => ?_) (fun c_2 => ?_)
    · rw [if_pos c_2] at hf
      refine lv_aload_n hx hb dX12_readLine_16 rfl (lv_at hl 0 rfl) ?_
      refine va_ldcS (tx := "rule") (q := dA (100 + 10)) hx hb hown (hE.2.2.2 ("BusSeatsModel", 180, "rule", 10) (by decide)) dX12_readLine_17 ?_
      obtain ⟨r3, hc3, hf⟩ := kb_bind hf
      refine kb_ci (ws2 := (w_MO dA a q0 (some (ba 0)) (ta 0) g3 g4 g5 g6 g7 g8 g9 g10 g11 g12 g13 g14 g15 g16 g17 g18 mo ++ (w_Tape dA ta y_tape ++ (w_Bus dA ba bu)))) (kb_rV (n := 1) (As := [.ref (dA (100 + 10))]) (rest := []) hx hb hml hown hK (c_X12_isWord l D dA H.size a q0 (some (ba 0)) (ta 0) g3 g4 g5 g6 g7 g8 g9 g10 g11 g12 g13 g14 g15 g16 g17 g18 mo 10 (by decide) r3 hc3) ⟨ww_6_213, ww_6_210, ww_6_212, ws_51, ww_1_12, rfl, by decide, by decide⟩ rfl rfl (by decide +kernel) ⟨Nat.le_of_ble_eq_true rfl, Nat.le_of_ble_eq_true rfl⟩ hP hD hS hA hE [0] rfl (by decide) 0 rfl rfl rfl hl.1 rfl (Nat.le_of_ble_eq_true rfl) dX12_readLine_19 ⟨Nat.le_of_ble_eq_true rfl, Nat.le_of_ble_eq_true rfl⟩) hP hD hS hA [0] [1, 2, 3, 4, 5, 6, 7, 8, 9, 10, 11, 12, 13, 14, 15, 16, 17] [17, 0, 1, 2, 3, 4, 5, 6, 7, 8, 9, 10, 11, 12, 13, 14, 15, 16] rfl rfl (by decide) (by decide) rfl (by decide) (fun H locs hP hD hS => ?_)
      refine lv_if_eq (tgt := 32) hx hb dX12_readLine_22 (by decide) (fun c_4 => ?_) (fun c_4 => ?_)
      · rw [if_pos c_4] at hf
        refine lv_aload_n hx hb dX12_readLine_32 rfl (lv_at hl 0 rfl) ?_
        refine va_ldcS (tx := "rider") (q := dA (100 + 20)) hx hb hown (hE.2.2.2 ("BusSeatsModel", 182, "rider", 20) (by decide)) dX12_readLine_33 ?_
        obtain ⟨r5, hc5, hf⟩ := kb_bind hf
        refine kb_ci (ws2 := (w_MO dA a q0 (some (ba 0)) (ta 0) g3 g4 g5 g6 g7 g8 g9 g10 g11 g12 g13 g14 g15 g16 g17 g18 mo ++ (w_Tape dA ta y_tape ++ (w_Bus dA ba bu)))) (kb_rV (n := 1) (As := [.ref (dA (100 + 20))]) (rest := []) hx hb hml hown hK (c_X12_isWord l D dA H.size a q0 (some (ba 0)) (ta 0) g3 g4 g5 g6 g7 g8 g9 g10 g11 g12 g13 g14 g15 g16 g17 g18 mo 20 (by decide) r5 hc5) ⟨ww_6_213, ww_6_210, ww_6_212, ws_51, ww_1_12, rfl, by decide, by decide⟩ rfl rfl (by decide +kernel) ⟨Nat.le_of_ble_eq_true rfl, Nat.le_of_ble_eq_true rfl⟩ hP hD hS hA hE [0] rfl (by decide) 0 rfl rfl rfl hl.1 rfl (Nat.le_of_ble_eq_true rfl) dX12_readLine_35 ⟨Nat.le_of_ble_eq_true rfl, Nat.le_of_ble_eq_true rfl⟩) hP hD hS hA [0] [1, 2, 3, 4, 5, 6, 7, 8, 9, 10, 11, 12, 13, 14, 15, 16, 17] [17, 0, 1, 2, 3, 4, 5, 6, 7, 8, 9, 10, 11, 12, 13, 14, 15, 16] rfl rfl (by decide) (by decide) rfl (by decide) (fun H locs hP hD hS => ?_)
        refine lv_if_eq (tgt := 48) hx hb dX12_readLine_38 (by decide) (fun c_6 => ?_) (fun c_6 => ?_)
        · rw [if_pos c_6] at hf
          refine lv_aload_n hx hb dX12_readLine_48 rfl (lv_at hl 0 rfl) ?_
          refine va_ldcS (tx := "friends") (q := dA (100 + 21)) hx hb hown (hE.2.2.2 ("BusSeatsModel", 184, "friends", 21) (by decide)) dX12_readLine_49 ?_
          obtain ⟨r7, hc7, hf⟩ := kb_bind hf
          refine kb_ci (ws2 := (w_MO dA a q0 (some (ba 0)) (ta 0) g3 g4 g5 g6 g7 g8 g9 g10 g11 g12 g13 g14 g15 g16 g17 g18 mo ++ (w_Tape dA ta y_tape ++ (w_Bus dA ba bu)))) (kb_rV (n := 1) (As := [.ref (dA (100 + 21))]) (rest := []) hx hb hml hown hK (c_X12_isWord l D dA H.size a q0 (some (ba 0)) (ta 0) g3 g4 g5 g6 g7 g8 g9 g10 g11 g12 g13 g14 g15 g16 g17 g18 mo 21 (by decide) r7 hc7) ⟨ww_6_213, ww_6_210, ww_6_212, ws_51, ww_1_12, rfl, by decide, by decide⟩ rfl rfl (by decide +kernel) ⟨Nat.le_of_ble_eq_true rfl, Nat.le_of_ble_eq_true rfl⟩ hP hD hS hA hE [0] rfl (by decide) 0 rfl rfl rfl hl.1 rfl (Nat.le_of_ble_eq_true rfl) dX12_readLine_51 ⟨Nat.le_of_ble_eq_true rfl, Nat.le_of_ble_eq_true rfl⟩) hP hD hS hA [0] [1, 2, 3, 4, 5, 6, 7, 8, 9, 10, 11, 12, 13, 14, 15, 16, 17] [17, 0, 1, 2, 3, 4, 5, 6, 7, 8, 9, 10, 11, 12, 13, 14, 15, 16] rfl rfl (by decide) (by decide) rfl (by decide) (fun H locs hP hD hS => ?_)
          refine lv_if_eq (tgt := 64) hx hb dX12_readLine_54 (by decide) (fun c_8 => ?_) (fun c_8 => ?_)
          · rw [if_pos c_8] at hf
            refine lv_aload_n hx hb dX12_readLine_64 rfl (lv_at hl 0 rfl) ?_
            refine va_ldcS (tx := "holds") (q := dA (100 + 22)) hx hb hown (hE.2.2.2 ("BusSeatsModel", 186, "holds", 22) (by decide)) dX12_readLine_65 ?_
            obtain ⟨r9, hc9, hf⟩ := kb_bind hf
            refine kb_ci (ws2 := (w_MO dA a q0 (some (ba 0)) (ta 0) g3 g4 g5 g6 g7 g8 g9 g10 g11 g12 g13 g14 g15 g16 g17 g18 mo ++ (w_Tape dA ta y_tape ++ (w_Bus dA ba bu)))) (kb_rV (n := 1) (As := [.ref (dA (100 + 22))]) (rest := []) hx hb hml hown hK (c_X12_isWord l D dA H.size a q0 (some (ba 0)) (ta 0) g3 g4 g5 g6 g7 g8 g9 g10 g11 g12 g13 g14 g15 g16 g17 g18 mo 22 (by decide) r9 hc9) ⟨ww_6_213, ww_6_210, ww_6_212, ws_51, ww_1_12, rfl, by decide, by decide⟩ rfl rfl (by decide +kernel) ⟨Nat.le_of_ble_eq_true rfl, Nat.le_of_ble_eq_true rfl⟩ hP hD hS hA hE [0] rfl (by decide) 0 rfl rfl rfl hl.1 rfl (Nat.le_of_ble_eq_true rfl) dX12_readLine_67 ⟨Nat.le_of_ble_eq_true rfl, Nat.le_of_ble_eq_true rfl⟩) hP hD hS hA [0] [1, 2, 3, 4, 5, 6, 7, 8, 9, 10, 11, 12, 13, 14, 15, 16, 17] [17, 0, 1, 2, 3, 4, 5, 6, 7, 8, 9, 10, 11, 12, 13, 14, 15, 16] rfl rfl (by decide) (by decide) rfl (by decide) (fun H locs hP hD hS => ?_)
            refine lv_if_eq (tgt := 80) hx hb dX12_readLine_70 (by decide) (fun c_10 => ?_) (fun c_10 => ?_)
            · rw [if_pos c_10] at hf
              refine lv_aload_n hx hb dX12_readLine_80 rfl (lv_at hl 0 rfl) ?_
              refine lv_iconst (v := (1 : Int32)) hx hb dX12_readLine_81 (by decide) ?_
              obtain ⟨r11, hc11, hf⟩ := kb_bind hf
              refine kb_cv (ws2 := (w_MO dA a q0 (some (ba 0)) (ta 0) g3 g4 g5 g6 g7 g8 g9 g10 g11 g12 g13 g14 g15 g16 g17 g18 r11 ++ (w_Tape dA ta y_tape ++ (w_Bus dA ba bu)))) (kb_rV (n := 1) (As := [.int (1 : Int32)]) (rest := []) hx hb hml hown hK (c_X12_wrong l D dA H.size a q0 (some (ba 0)) (ta 0) g3 g4 g5 g6 g7 g8 g9 g10 g11 g12 g13 g14 g15 g16 g17 g18 mo (1 : Int32) r11 hc11) ⟨ww_6_226, ww_6_223, ww_6_225, ws_53, ww_1_12, rfl, by decide, by decide⟩ rfl rfl (by decide +kernel) ⟨Nat.le_of_ble_eq_true rfl, Nat.le_of_ble_eq_true rfl⟩ hP hD hS hA hE [0] rfl (by decide) 0 rfl rfl rfl hl.1 rfl (Nat.le_of_ble_eq_true rfl) dX12_readLine_82 ⟨Nat.le_of_ble_eq_true rfl, Nat.le_of_ble_eq_true rfl⟩) hP hD hS hA [0] [1, 2, 3, 4, 5, 6, 7, 8, 9, 10, 11, 12, 13, 14, 15, 16, 17] [17, 0, 1, 2, 3, 4, 5, 6, 7, 8, 9, 10, 11, 12, 13, 14, 15, 16] rfl rfl (by decide) (by decide) rfl (by decide) (fun H locs hP hD hS => ?_)
              exact B_85 _ _ _ _ _ hf hP hD hS (lv_sub hl [] rfl)
            · rw [if_neg c_10] at hf
              refine lv_aload_n hx hb dX12_readLine_73 rfl (lv_at hl 0 rfl) ?_
              obtain ⟨r12, hc12, hf⟩ := kb_bind hf
              refine kb_cv (ws2 := (w_MO dA a q0 (some (ba 0)) (ta 0) g3 g4 g5 g6 g7 g8 g9 g10 g11 g12 g13 g14 g15 g16 g17 g18 r12.1 ++ (w_Tape dA ta y_tape ++ (w_Bus dA ba r12.2)))) (kb_rV (n := 0) (As := []) (rest := []) hx hb hml hown hK (c_X12_readHolds l D dA H.size a ta ba q0 g3 g4 g5 g6 g7 g8 g9 g10 g11 g12 g13 g14 g15 g16 g17 g18 mo y_tape bu r12.1 r12.2 hc12) ⟨ww_7_90, ww_7_87, ww_7_89, ws_69, ww_1_12, rfl, by decide, by decide⟩ rfl rfl (by decide +kernel) ⟨Nat.le_of_ble_eq_true rfl, Nat.le_of_ble_eq_true rfl⟩ hP hD hS hA hE [0, 1, 2, 3, 4, 5, 6, 7, 8, 9, 10, 11, 12, 13, 14, 15, 16, 17] rfl (by decide) 0 rfl rfl rfl hl.1 rfl (Nat.le_of_ble_eq_true rfl) dX12_readLine_74 ⟨Nat.le_of_ble_eq_true rfl, Nat.le_of_ble_eq_true rfl⟩) hP hD hS hA [0, 1, 2, 3, 4, 5, 6, 7, 8, 9, 10, 11, 12, 13, 14, 15, 16, 17] [] [0, 1, 2, 3, 4, 5, 6, 7, 8, 9, 10, 11, 12, 13, 14, 15, 16, 17] rfl rfl (by decide) (by decide) rfl (by decide) (fun H locs hP hD hS => ?_)
              exact B_77 _ _ _ _ _ hf hP hD hS (lv_sub hl [] rfl)
          · rw [if_neg c_8] at hf
            refine lv_aload_n hx hb dX12_readLine_57 rfl (lv_at hl 0 rfl) ?_
            obtain ⟨r13, hc13, hf⟩ := kb_bind hf
            refine kb_cv (ws2 := (w_MO dA a q0 (some (ba 0)) (ta 0) g3 g4 g5 g6 g7 g8 g9 g10 g11 g12 g13 g14 g15 g16 g17 g18 r13.1 ++ (w_Tape dA ta y_tape ++ (w_Bus dA ba r13.2)))) (kb_rV (n := 0) (As := []) (rest := []) hx hb hml hown hK (c_X12_readFriends l D dA H.size a ta ba q0 g3 g4 g5 g6 g7 g8 g9 g10 g11 g12 g13 g14 g15 g16 g17 g18 mo y_tape bu r13.1 r13.2 hc13) ⟨ww_7_78, ww_7_75, ww_7_77, ws_67, ww_1_12, rfl, by decide, by decide⟩ rfl rfl (by decide +kernel) ⟨Nat.le_of_ble_eq_true rfl, Nat.le_of_ble_eq_true rfl⟩ hP hD hS hA hE [0, 1, 2, 3, 4, 5, 6, 7, 8, 9, 10, 11, 12, 13, 14, 15, 16, 17] rfl (by decide) 0 rfl rfl rfl hl.1 rfl (Nat.le_of_ble_eq_true rfl) dX12_readLine_58 ⟨Nat.le_of_ble_eq_true rfl, Nat.le_of_ble_eq_true rfl⟩) hP hD hS hA [0, 1, 2, 3, 4, 5, 6, 7, 8, 9, 10, 11, 12, 13, 14, 15, 16, 17] [] [0, 1, 2, 3, 4, 5, 6, 7, 8, 9, 10, 11, 12, 13, 14, 15, 16, 17] rfl rfl (by decide) (by decide) rfl (by decide) (fun H locs hP hD hS => ?_)
            exact B_61 _ _ _ _ _ hf hP hD hS (lv_sub hl [] rfl)
        · rw [if_neg c_6] at hf
          refine lv_aload_n hx hb dX12_readLine_41 rfl (lv_at hl 0 rfl) ?_
          obtain ⟨r14, hc14, hf⟩ := kb_bind hf
          refine kb_cv (ws2 := (w_MO dA a q0 (some (ba 0)) (ta 0) g3 g4 g5 g6 g7 g8 g9 g10 g11 g12 g13 g14 g15 g16 g17 g18 r14.1 ++ (w_Tape dA ta y_tape ++ (w_Bus dA ba r14.2)))) (kb_rV (n := 0) (As := []) (rest := []) hx hb hml hown hK (c_X12_readRider l D dA H.size a ta ba q0 g3 g4 g5 g6 g7 g8 g9 g10 g11 g12 g13 g14 g15 g16 g17 g18 mo y_tape bu r14.1 r14.2 hc14) ⟨ww_7_57, ww_7_54, ww_7_56, ws_63, ww_1_12, rfl, by decide, by decide⟩ rfl rfl (by decide +kernel) ⟨Nat.le_of_ble_eq_true rfl, Nat.le_of_ble_eq_true rfl⟩ hP hD hS hA hE [0, 1, 2, 3, 4, 5, 6, 7, 8, 9, 10, 11, 12, 13, 14, 15, 16, 17] rfl (by decide) 0 rfl rfl rfl hl.1 rfl (Nat.le_of_ble_eq_true rfl) dX12_readLine_42 ⟨Nat.le_of_ble_eq_true rfl, Nat.le_of_ble_eq_true rfl⟩) hP hD hS hA [0, 1, 2, 3, 4, 5, 6, 7, 8, 9, 10, 11, 12, 13, 14, 15, 16, 17] [] [0, 1, 2, 3, 4, 5, 6, 7, 8, 9, 10, 11, 12, 13, 14, 15, 16, 17] rfl rfl (by decide) (by decide) rfl (by decide) (fun H locs hP hD hS => ?_)
          exact B_45 _ _ _ _ _ hf hP hD hS (lv_sub hl [] rfl)
      · rw [if_neg c_4] at hf
        refine lv_aload_n hx hb dX12_readLine_25 rfl (lv_at hl 0 rfl) ?_
        obtain ⟨r15, hc15, hf⟩ := kb_bind hf
        refine kb_cv (ws2 := (w_MO dA a q0 (some (ba 0)) (ta 0) g3 g4 g5 g6 g7 g8 g9 g10 g11 g12 g13 g14 g15 g16 g17 g18 r15.1 ++ (w_Tape dA ta y_tape ++ (w_Bus dA ba r15.2)))) (kb_rV (n := 0) (As := []) (rest := []) hx hb hml hown hK (c_X12_readRule l D dA H.size a ta ba q0 g3 g4 g5 g6 g7 g8 g9 g10 g11 g12 g13 g14 g15 g16 g17 g18 mo y_tape bu r15.1 r15.2 hc15) ⟨ww_7_15, ww_7_12, ww_7_14, ws_57, ww_1_12, rfl, by decide, by decide⟩ rfl rfl (by decide +kernel) ⟨Nat.le_of_ble_eq_true rfl, Nat.le_of_ble_eq_true rfl⟩ hP hD hS hA hE [0, 1, 2, 3, 4, 5, 6, 7, 8, 9, 10, 11, 12, 13, 14, 15, 16, 17] rfl (by decide) 0 rfl rfl rfl hl.1 rfl (Nat.le_of_ble_eq_true rfl) dX12_readLine_26 ⟨Nat.le_of_ble_eq_true rfl, Nat.le_of_ble_eq_true rfl⟩) hP hD hS hA [0, 1, 2, 3, 4, 5, 6, 7, 8, 9, 10, 11, 12, 13, 14, 15, 16, 17] [] [0, 1, 2, 3, 4, 5, 6, 7, 8, 9, 10, 11, 12, 13, 14, 15, 16, 17] rfl rfl (by decide) (by decide) rfl (by decide) (fun H locs hP hD hS => ?_)
        exact B_29 _ _ _ _ _ hf hP hD hS (lv_sub hl [] rfl)
    · rw [if_neg c_2] at hf
      refine lv_aload_n hx hb dX12_readLine_9 rfl (lv_at hl 0 rfl) ?_
      obtain ⟨r16, hc16, hf⟩ := kb_bind hf
      refine kb_cv (ws2 := (w_MO dA a q0 (some (ba 0)) (ta 0) g3 g4 g5 g6 g7 g8 g9 g10 g11 g12 g13 g14 g15 g16 g17 g18 r16.1 ++ (w_Tape dA ta y_tape ++ (w_Bus dA ba r16.2)))) (kb_rV (n := 0) (As := []) (rest := []) hx hb hml hown hK (c_X12_readOne l D dA H.size a ta ba q0 g3 g4 g5 g6 g7 g8 g9 g10 g11 g12 g13 g14 g15 g16 g17 g18 mo y_tape bu r16.1 r16.2 hc16) ⟨ww_6_222, ww_6_219, ww_6_221, ws_52, ww_1_12, rfl, by decide, by decide⟩ rfl rfl (by decide +kernel) ⟨Nat.le_of_ble_eq_true rfl, Nat.le_of_ble_eq_true rfl⟩ hP hD hS hA hE [0, 1, 2, 3, 4, 5, 6, 7, 8, 9, 10, 11, 12, 13, 14, 15, 16, 17] rfl (by decide) 0 rfl rfl rfl hl.1 rfl (Nat.le_of_ble_eq_true rfl) dX12_readLine_10 ⟨Nat.le_of_ble_eq_true rfl, Nat.le_of_ble_eq_true rfl⟩) hP hD hS hA [0, 1, 2, 3, 4, 5, 6, 7, 8, 9, 10, 11, 12, 13, 14, 15, 16, 17] [] [0, 1, 2, 3, 4, 5, 6, 7, 8, 9, 10, 11, 12, 13, 14, 15, 16, 17] rfl rfl (by decide) (by decide) rfl (by decide) (fun H locs hP hD hS => ?_)
      exact B_13 _ _ _ _ _ hf hP hD hS (lv_sub hl [] rfl)
  exact E0 _ _ hP hD hS

noncomputable def f_X12_readBus_b69 (y_tape : TapeT) (z0 : MOT) (z2 : BusT) : Option (MOT × BusT) := some (z0, z2)
noncomputable def f_X12_readBus_b63 (y_tape : TapeT) (z0 : MOT) (z2 : BusT) : Option (MOT × BusT) := (f_X12_wrong z0 (6 : Int32)).bind fun r4 => f_X12_readBus_b69 y_tape r4 z2
noncomputable def f_X12_readBus_b33 (y_tape : TapeT) (z0 : MOT) (z2 : BusT) : Option (MOT × BusT) := (if (bu_rows z2) = 0 then f_X12_readBus_b63 y_tape z0 z2 else (if (bu_rules z2) = 0 then f_X12_readBus_b63 y_tape z0 z2 else (if (bu_riders z2) = 0 then f_X12_readBus_b63 y_tape z0 z2 else f_X12_readBus_b69 y_tape z0 z2)))
noncomputable def f_X12_readBus_b17 (y_tape : TapeT) (k2 : Int32 → MOT → BusT → Option (MOT × BusT)) (v1 : Int32) (z0 : MOT) (z2 : BusT) : Option (MOT × BusT) := k2 v1 z0 z2
noncomputable def f_X12_readBus_b10 (y_tape : TapeT) (k2 : Int32 → MOT → BusT → Option (MOT × BusT)) (z0 : MOT) (z2 : BusT) : Option (MOT × BusT) := (f_X12_eatsSign z0 y_tape (59 : Int32)).bind fun r9 => f_X12_readBus_b17 y_tape k2 r9.1 r9.2 z2
noncomputable def f_X12_readBus_b2 (y_tape : TapeT) : Nat → Int32 → MOT → BusT → Option (MOT × BusT)
  | 0, _, _, _ => none
  | n + 1, v1, z0, z2 => (if v1 = 0 then (if (mo_sort z0) = (1 : Int32) then f_X12_readBus_b33 y_tape z0 z2 else (f_X12_wrong z0 (1 : Int32)).bind fun r7 => f_X12_readBus_b33 y_tape r7 z2) else (f_X12_readLine z0 y_tape z2).bind fun r8 => f_X12_readBus_b10 y_tape (f_X12_readBus_b2 y_tape n) r8.1 r8.2)
noncomputable def f_X12_readBus (mo : MOT) (y_tape : TapeT) (bu : BusT) : Option (MOT × BusT) := f_X12_readBus_b2 y_tape 4096 (1 : Int32) mo bu
set_option maxHeartbeats 4000000 in
set_option maxRecDepth 100000 in
theorem c_X12_readBus (l : Launch) (D : va_G) (dA : Nat → ClassId) (sz : Nat) (a : Nat → Nat) (ta : Nat → Nat) (ba : Nat → Nat) (q0 : Option Nat) (g3 : Nat) (g4 : Nat) (g5 : Nat) (g6 : Nat) (g7 : Nat) (g8 : Nat) (g9 : Nat) (g10 : Nat) (g11 : Nat) (g12 : Nat) (g13 : Nat) (g14 : Nat) (g15 : Nat) (g16 : Nat) (g17 : Nat) (g18 : Nat) (mo : MOT) (y_tape : TapeT) (bu : BusT) (u0 : MOT) (u2 : BusT) (hf : f_X12_readBus mo y_tape bu = some (u0, u2)) : kb_Mv l yX12_readBus cX12_readBus 2 none ({ frames := 12, cells := 0, slots := 0, locals := 261 } : Room) D dA [.ref (a 0)] sz (w_MO dA a q0 (some (ba 0)) (ta 0) g3 g4 g5 g6 g7 g8 g9 g10 g11 g12 g13 g14 g15 g16 g17 g18 mo ++ (w_Tape dA ta y_tape ++ (w_Bus dA ba bu))) 0 0 (w_MO dA a q0 (some (ba 0)) (ta 0) g3 g4 g5 g6 g7 g8 g9 g10 g11 g12 g13 g14 g15 g16 g17 g18 u0 ++ (w_Tape dA ta y_tape ++ (w_Bus dA ba u2))) := by
  refine Met.ofW (cc := cX12_readBus) (maxL := 2) (ret := none) (by decide) rfl ?_
  intro p e s m args below meth c s₁ B hml hv
  obtain ⟨rfl, hsz, hP, hK, hD0, hE⟩ := hv
  have hx := B.exec
  have hb := B.bytes
  have hr := B.returns
  have hown : s.vm.findClass RX12 = some m.cls := findClass_of_methodNamed B.named
  have hlocks := B.notSynchronized
  have hts : ∀ w ∈ kb_gw, w.before ([.ref (a 0)] : List Value).toArray s = true := fun w hw => hK.2.1 w hw _
  subst hsz
  have hD := hD0.self (sz := s.heap.size)
  generalize hAe : va_A (w_MO dA a q0 (some (ba 0)) (ta 0) g3 g4 g5 g6 g7 g8 g9 g10 g11 g12 g13 g14 g15 g16 g17 g18 mo ++ (w_Tape dA ta y_tape ++ (w_Bus dA ba bu))) s.heap.size = A at hD hE ⊢
  have hA : ∀ q : Nat, s.heap.size ≤ q → A q := fun q h => by rw [← hAe]; exact Or.inr h
  have hS : va_S A s.heap s.heap [] := va_S.rf
  have hl := lv_entry ([.ref (a 0)]) (n := 2) (Nat.le_of_ble_eq_true rfl)
  rw [lg_entry_eq]
  generalize (lg_sl ([.ref (a 0)]) ++ List.replicate (2 - (lg_sl ([.ref (a 0)])).length) Slot.unset).toArray = ls at hl ⊢
  have hl : lv_has ls 2 [(0, .ref (a 0))] := hl
  generalize hQ : MQ below (va_Qv (fun (_ : Unit) => True) (kb_B D A (w_MO dA a q0 (some (ba 0)) (ta 0) g3 g4 g5 g6 g7 g8 g9 g10 g11 g12 g13 g14 g15 g16 g17 g18 u0 ++ (w_Tape dA ta y_tape ++ (w_Bus dA ba u2)))) A) ([.ref (a 0)] : List Value).toArray s 0 0 A = Q
  show W p l e ({ frames := 12, cells := 0, slots := 0, locals := 261 } : Room) s m ([.ref (a 0)] : List Value).toArray below meth c s.heap [] 0 0 Q (F0 m 0 ls [])
  have RET : ∀ (w0 : MOT) (w2 : BusT) (H : Heap) (locs : List Loc) (ls : Array Slot) (pc : Nat), some (w0, w2) = some (u0, u2) → va_P D vwCl (w_MO dA a q0 (some (ba 0)) (ta 0) g3 g4 g5 g6 g7 g8 g9 g10 g11 g12 g13 g14 g15 g16 g17 g18 w0 ++ (w_Tape dA ta y_tape ++ (w_Bus dA ba w2))) H → va_D A (w_MO dA a q0 (some (ba 0)) (ta 0) g3 g4 g5 g6 g7 g8 g9 g10 g11 g12 g13 g14 g15 g16 g17 g18 w0 ++ (w_Tape dA ta y_tape ++ (w_Bus dA ba w2))) → va_S A s.heap H locs → decode cX12_readBus pc = .ok (.return_, 1) → W p l e ({ frames := 12, cells := 0, slots := 0, locals := 261 } : Room) s m ([.ref (a 0)] : List Value).toArray below meth c H locs 0 0 Q (F0 m pc ls []) := by
    intro w0 w2 H locs ls pc hq hP hD hS hd
    cases hq
    rw [← hQ]
    exact W.vret hx hb hr (fun t ht hW => ⟨⟨(), rfl, trivial, by rw [ht]; exact hP, hD⟩, hS.F ht⟩) hS.2.2 hd
  have B_69 : ∀ (z0 : MOT) (z2 : BusT) (H : Heap) (locs : List Loc) (ls : Array Slot), f_X12_readBus_b69 y_tape z0 z2 = some (u0, u2) → va_P D vwCl (w_MO dA a q0 (some (ba 0)) (ta 0) g3 g4 g5 g6 g7 g8 g9 g10 g11 g12 g13 g14 g15 g16 g17 g18 z0 ++ (w_Tape dA ta y_tape ++ (w_Bus dA ba z2))) H → va_D A (w_MO dA a q0 (some (ba 0)) (ta 0) g3 g4 g5 g6 g7 g8 g9 g10 g11 g12 g13 g14 g15 g16 g17 g18 z0 ++ (w_Tape dA ta y_tape ++ (w_Bus dA ba z2))) → va_S A s.heap H locs → lv_has ls 2 [] → W p l e ({ frames := 12, cells := 0, slots := 0, locals := 261 } : Room) s m ([.ref (a 0)] : List Value).toArray below meth c H locs 0 0 Q (F0 m 69 ls []) := by
    intro z0 z2 H locs ls hf hP hD hS hl
    rw [f_X12_readBus_b69] at hf
    exact RET _ _ H _ ls 69 hf hP hD hS dX12_readBus_69
  have B_63 : ∀ (z0 : MOT) (z2 : BusT) (H : Heap) (locs : List Loc) (ls : Array Slot), f_X12_readBus_b63 y_tape z0 z2 = some (u0, u2) → va_P D vwCl (w_MO dA a q0 (some (ba 0)) (ta 0) g3 g4 g5 g6 g7 g8 g9 g10 g11 g12 g13 g14 g15 g16 g17 g18 z0 ++ (w_Tape dA ta y_tape ++ (w_Bus dA ba z2))) H → va_D A (w_MO dA a q0 (some (ba 0)) (ta 0) g3 g4 g5 g6 g7 g8 g9 g10 g11 g12 g13 g14 g15 g16 g17 g18 z0 ++ (w_Tape dA ta y_tape ++ (w_Bus dA ba z2))) → va_S A s.heap H locs → lv_has ls 2 [(0, .ref (a 0))] → W p l e ({ frames := 12, cells := 0, slots := 0, locals := 261 } : Room) s m ([.ref (a 0)] : List Value).toArray below meth c H locs 0 0 Q (F0 m 63 ls []) := by
    intro z0 z2 H locs ls hf hP hD hS hl
    rw [f_X12_readBus_b63] at hf
    refine lv_aload_n hx hb dX12_readBus_63 rfl (lv_at hl 0 rfl) ?_
    refine lv_bipush (v := (6 : Int32)) hx hb dX12_readBus_64 (by decide) ?_
    obtain ⟨r4, hc4, hf⟩ := kb_bind hf
    refine kb_cv (ws2 := (w_MO dA a q0 (some (ba 0)) (ta 0) g3 g4 g5 g6 g7 g8 g9 g10 g11 g12 g13 g14 g15 g16 g17 g18 r4 ++ (w_Tape dA ta y_tape ++ (w_Bus dA ba z2)))) (kb_rV (n := 1) (As := [.int (6 : Int32)]) (rest := []) hx hb hml hown hK (c_X12_wrong l D dA H.size a q0 (some (ba 0)) (ta 0) g3 g4 g5 g6 g7 g8 g9 g10 g11 g12 g13 g14 g15 g16 g17 g18 z0 (6 : Int32) r4 hc4) ⟨ww_6_226, ww_6_223, ww_6_225, ws_53, ww_1_12, rfl, by decide, by decide⟩ rfl rfl (by decide +kernel) ⟨Nat.le_of_ble_eq_true rfl, Nat.le_of_ble_eq_true rfl⟩ hP hD hS hA hE [0] rfl (by decide) 0 rfl rfl rfl hl.1 rfl (Nat.le_of_ble_eq_true rfl) dX12_readBus_66 ⟨Nat.le_of_ble_eq_true rfl, Nat.le_of_ble_eq_true rfl⟩) hP hD hS hA [0] [1, 2, 3, 4, 5, 6, 7, 8, 9, 10, 11, 12, 13, 14, 15, 16, 17] [17, 0, 1, 2, 3, 4, 5, 6, 7, 8, 9, 10, 11, 12, 13, 14, 15, 16] rfl rfl (by decide) (by decide) rfl (by decide) (fun H locs hP hD hS => ?_)
    exact B_69 _ _ _ _ _ hf hP hD hS (lv_sub hl [] rfl)
  have B_33 : ∀ (z0 : MOT) (z2 : BusT) (H : Heap) (locs : List Loc) (ls : Array Slot), f_X12_readBus_b33 y_tape z0 z2 = some (u0, u2) → va_P D vwCl (w_MO dA a q0 (some (ba 0)) (ta 0) g3 g4 g5 g6 g7 g8 g9 g10 g11 g12 g13 g14 g15 g16 g17 g18 z0 ++ (w_Tape dA ta y_tape ++ (w_Bus dA ba z2))) H → va_D A (w_MO dA a q0 (some (ba 0)) (ta 0) g3 g4 g5 g6 g7 g8 g9 g10 g11 g12 g13 g14 g15 g16 g17 g18 z0 ++ (w_Tape dA ta y_tape ++ (w_Bus dA ba z2))) → va_S A s.heap H locs → lv_has ls 2 [(0, .ref (a 0))] → W p l e ({ frames := 12, cells := 0, slots := 0, locals := 261 } : Room) s m ([.ref (a 0)] : List Value).toArray below meth c H locs 0 0 Q (F0 m 33 ls []) := by
    intro z0 z2 H locs ls hf hP hD hS hl
    rw [f_X12_readBus_b33] at hf
    refine lv_aload_n hx hb dX12_readBus_33 rfl (lv_at hl 0 rfl) ?_
    refine va_get (D := D) (ci := 12) (v := .ref (ba 0)) (C := RX12) (T := TX12) (N := 35) hx hb hts kb_inX12 hown hK.1 hP 0 rfl rfl 4 (by decide) (hK.2.w ww_5_204 rfl _) (fun _ h9 => h9) rfl dX12_readBus_34 ?_
    refine va_getN (D := D) (ci := 11) (v := .int (bu_rows z2)) (C := RX11) (T := TX11) (N := 26) hx hb hts kb_inX11 hown hK.1 hP 2 rfl rfl 0 (by decide) (hK.2.nb ww_6_89 rfl rfl _) (fun _ h9 => h9) rfl dX12_readBus_37 ?_
    refine lv_if_eq (tgt := 63) hx hb dX12_readBus_40 (by decide) (fun c_3 => ?_) (fun c_3 => ?_)
    · rw [if_pos c_3] at hf
      exact B_63 _ _ _ _ _ hf hP hD hS (lv_sub hl [0] rfl)
    · rw [if_neg c_3] at hf
      refine lv_aload_n hx hb dX12_readBus_43 rfl (lv_at hl 0 rfl) ?_
      refine va_get (D := D) (ci := 12) (v := .ref (ba 0)) (C := RX12) (T := TX12) (N := 35) hx hb hts kb_inX12 hown hK.1 hP 0 rfl rfl 4 (by decide) (hK.2.w ww_5_204 rfl _) (fun _ h9 => h9) rfl dX12_readBus_44 ?_
      refine va_getN (D := D) (ci := 11) (v := .int (bu_rules z2)) (C := RX11) (T := TX11) (N := 26) hx hb hts kb_inX11 hown hK.1 hP 2 rfl rfl 6 (by decide) (hK.2.nb ww_6_95 rfl rfl _) (fun _ h9 => h9) rfl dX12_readBus_47 ?_
      refine lv_if_eq (tgt := 63) hx hb dX12_readBus_50 (by decide) (fun c_5 => ?_) (fun c_5 => ?_)
      · rw [if_pos c_5] at hf
        exact B_63 _ _ _ _ _ hf hP hD hS (lv_sub hl [0] rfl)
      · rw [if_neg c_5] at hf
        refine lv_aload_n hx hb dX12_readBus_53 rfl (lv_at hl 0 rfl) ?_
        refine va_get (D := D) (ci := 12) (v := .ref (ba 0)) (C := RX12) (T := TX12) (N := 35) hx hb hts kb_inX12 hown hK.1 hP 0 rfl rfl 4 (by decide) (hK.2.w ww_5_204 rfl _) (fun _ h9 => h9) rfl dX12_readBus_54 ?_
        refine va_getN (D := D) (ci := 11) (v := .int (bu_riders z2)) (C := RX11) (T := TX11) (N := 26) hx hb hts kb_inX11 hown hK.1 hP 2 rfl rfl 7 (by decide) (hK.2.nb ww_6_96 rfl rfl _) (fun _ h9 => h9) rfl dX12_readBus_57 ?_
        refine lv_if_ne (tgt := 69) hx hb dX12_readBus_60 (by decide) (fun c_6 => ?_) (fun c_6 => ?_)
        · rw [if_neg c_6] at hf
          exact B_69 _ _ _ _ _ hf hP hD hS (lv_sub hl [] rfl)
        · rw [if_pos c_6] at hf
          exact B_63 _ _ _ _ _ hf hP hD hS (lv_sub hl [0] rfl)
  have B_17 : ∀ (k2 : Int32 → MOT → BusT → Option (MOT × BusT)) (hk2 : ∀ (v1 : Int32) (z0 : MOT) (z2 : BusT) (H : Heap) (locs : List Loc) (ls : Array Slot), k2 v1 z0 z2 = some (u0, u2) → va_P D vwCl (w_MO dA a q0 (some (ba 0)) (ta 0) g3 g4 g5 g6 g7 g8 g9 g10 g11 g12 g13 g14 g15 g16 g17 g18 z0 ++ (w_Tape dA ta y_tape ++ (w_Bus dA ba z2))) H → va_D A (w_MO dA a q0 (some (ba 0)) (ta 0) g3 g4 g5 g6 g7 g8 g9 g10 g11 g12 g13 g14 g15 g16 g17 g18 z0 ++ (w_Tape dA ta y_tape ++ (w_Bus dA ba z2))) → va_S A s.heap H locs → lv_has ls 2 [(0, .ref (a 0)), (1, .int v1)] → W p l e ({ frames := 12, cells := 0, slots := 0, locals := 261 } : Room) s m ([.ref (a 0)] : List Value).toArray below meth c H locs 0 0 Q (F0 m 2 ls [])) (v1 : Int32) (z0 : MOT) (z2 : BusT) (H : Heap) (locs : List Loc) (ls : Array Slot), f_X12_readBus_b17 y_tape k2 v1 z0 z2 = some (u0, u2) → va_P D vwCl (w_MO dA a q0 (some (ba 0)) (ta 0) g3 g4 g5 g6 g7 g8 g9 g10 g11 g12 g13 g14 g15 g16 g17 g18 z0 ++ (w_Tape dA ta y_tape ++ (w_Bus dA ba z2))) H → va_D A (w_MO dA a q0 (some (ba 0)) (ta 0) g3 g4 g5 g6 g7 g8 g9 g10 g11 g12 g13 g14 g15 g16 g17 g18 z0 ++ (w_Tape dA ta y_tape ++ (w_Bus dA ba z2))) → va_S A s.heap H locs → lv_has ls 2 [(0, .ref (a 0)), (1, .int v1)] → W p l e ({ frames := 12, cells := 0, slots := 0, locals := 261 } : Room) s m ([.ref (a 0)] : List Value).toArray below meth c H locs 0 0 Q (F0 m 17 ls []) := by
    intro k2 hk2 v1 z0 z2 H locs ls hf hP hD hS hl
    rw [f_X12_readBus_b17] at hf
    refine lv_goto (tgt := 2) hx hb dX12_readBus_17 (by decide) ?_
    exact hk2 _ _ _ _ _ _ hf hP hD hS (lv_sub hl [0, 1] rfl)
  have B_10 : ∀ (k2 : Int32 → MOT → BusT → Option (MOT × BusT)) (hk2 : ∀ (v1 : Int32) (z0 : MOT) (z2 : BusT) (H : Heap) (locs : List Loc) (ls : Array Slot), k2 v1 z0 z2 = some (u0, u2) → va_P D vwCl (w_MO dA a q0 (some (ba 0)) (ta 0) g3 g4 g5 g6 g7 g8 g9 g10 g11 g12 g13 g14 g15 g16 g17 g18 z0 ++ (w_Tape dA ta y_tape ++ (w_Bus dA ba z2))) H → va_D A (w_MO dA a q0 (some (ba 0)) (ta 0) g3 g4 g5 g6 g7 g8 g9 g10 g11 g12 g13 g14 g15 g16 g17 g18 z0 ++ (w_Tape dA ta y_tape ++ (w_Bus dA ba z2))) → va_S A s.heap H locs → lv_has ls 2 [(0, .ref (a 0)), (1, .int v1)] → W p l e ({ frames := 12, cells := 0, slots := 0, locals := 261 } : Room) s m ([.ref (a 0)] : List Value).toArray below meth c H locs 0 0 Q (F0 m 2 ls [])) (z0 : MOT) (z2 : BusT) (H : Heap) (locs : List Loc) (ls : Array Slot), f_X12_readBus_b10 y_tape k2 z0 z2 = some (u0, u2) → va_P D vwCl (w_MO dA a q0 (some (ba 0)) (ta 0) g3 g4 g5 g6 g7 g8 g9 g10 g11 g12 g13 g14 g15 g16 g17 g18 z0 ++ (w_Tape dA ta y_tape ++ (w_Bus dA ba z2))) H → va_D A (w_MO dA a q0 (some (ba 0)) (ta 0) g3 g4 g5 g6 g7 g8 g9 g10 g11 g12 g13 g14 g15 g16 g17 g18 z0 ++ (w_Tape dA ta y_tape ++ (w_Bus dA ba z2))) → va_S A s.heap H locs → lv_has ls 2 [(0, .ref (a 0))] → W p l e ({ frames := 12, cells := 0, slots := 0, locals := 261 } : Room) s m ([.ref (a 0)] : List Value).toArray below meth c H locs 0 0 Q (F0 m 10 ls []) := by
    intro k2 hk2 z0 z2 H locs ls hf hP hD hS hl
    rw [f_X12_readBus_b10] at hf
    refine lv_aload_n hx hb dX12_readBus_10 rfl (lv_at hl 0 rfl) ?_
    refine lv_bipush (v := (59 : Int32)) hx hb dX12_readBus_11 (by decide) ?_
    obtain ⟨r9, hc9, hf⟩ := kb_bind hf
    refine kb_ci (ws2 := (w_MO dA a q0 (some (ba 0)) (ta 0) g3 g4 g5 g6 g7 g8 g9 g10 g11 g12 g13 g14 g15 g16 g17 g18 r9.2 ++ (w_Tape dA ta y_tape ++ (w_Bus dA ba z2)))) (kb_rV (n := 1) (As := [.int (59 : Int32)]) (rest := []) hx hb hml hown hK (c_X12_eatsSign l D dA H.size a ta q0 (some (ba 0)) g3 g4 g5 g6 g7 g8 g9 g10 g11 g12 g13 g14 g15 g16 g17 g18 z0 y_tape (59 : Int32) r9.1 r9.2 hc9) ⟨ww_7_53, ww_7_50, ww_7_52, ws_62, ww_1_12, rfl, by decide, by decide⟩ rfl rfl (by decide +kernel) ⟨Nat.le_of_ble_eq_true rfl, Nat.le_of_ble_eq_true rfl⟩ hP hD hS hA hE [0, 1] rfl (by decide) 0 rfl rfl rfl hl.1 rfl (Nat.le_of_ble_eq_true rfl) dX12_readBus_13 ⟨Nat.le_of_ble_eq_true rfl, Nat.le_of_ble_eq_true rfl⟩) hP hD hS hA [0, 1] [2, 3, 4, 5, 6, 7, 8, 9, 10, 11, 12, 13, 14, 15, 16, 17] [16, 17, 0, 1, 2, 3, 4, 5, 6, 7, 8, 9, 10, 11, 12, 13, 14, 15] rfl rfl (by decide) (by decide) rfl (by decide) (fun H locs hP hD hS => ?_)
    refine lv_istore_n (lv' := [(1, .int r9.1), (0, .ref (a 0))]) hx hb dX12_readBus_16 rfl hl (by decide) rfl (fun ls hl => ?_)
    exact B_17 k2 hk2 _ _ _ _ _ _ hf hP hD hS (lv_sub hl [1, 0] rfl)
  have B_2 : ∀ (n : Nat) (v1 : Int32) (z0 : MOT) (z2 : BusT) (H : Heap) (locs : List Loc) (ls : Array Slot), f_X12_readBus_b2 y_tape n v1 z0 z2 = some (u0, u2) → va_P D vwCl (w_MO dA a q0 (some (ba 0)) (ta 0) g3 g4 g5 g6 g7 g8 g9 g10 g11 g12 g13 g14 g15 g16 g17 g18 z0 ++ (w_Tape dA ta y_tape ++ (w_Bus dA ba z2))) H → va_D A (w_MO dA a q0 (some (ba 0)) (ta 0) g3 g4 g5 g6 g7 g8 g9 g10 g11 g12 g13 g14 g15 g16 g17 g18 z0 ++ (w_Tape dA ta y_tape ++ (w_Bus dA ba z2))) → va_S A s.heap H locs → lv_has ls 2 [(0, .ref (a 0)), (1, .int v1)] → W p l e ({ frames := 12, cells := 0, slots := 0, locals := 261 } : Room) s m ([.ref (a 0)] : List Value).toArray below meth c H locs 0 0 Q (F0 m 2 ls []) := by
    intro n
    induction n with
    | zero =>
      intro v1 z0 z2 H locs ls hf
      exact absurd hf (by simp [f_X12_readBus_b2])
    | succ n ih =>
      intro v1 z0 z2 H locs ls hf hP hD hS hl
      rw [f_X12_readBus_b2] at hf
      refine lv_iload_n hx hb dX12_readBus_2 rfl (lv_at hl 1 rfl) ?_
      refine lv_if_eq (tgt := 20) hx hb dX12_readBus_3 (by decide) (fun c_1 => ?_) (fun c_1 => ?_)
      · rw [if_pos c_1] at hf
        refine lv_aload_n hx hb dX12_readBus_20 rfl (lv_at hl 0 rfl) ?_
        refine va_get (D := D) (ci := 12) (v := .int (mo_sort z0)) (C := RX12) (T := TX12) (N := 35) hx hb hts kb_inX12 hown hK.1 hP 0 rfl rfl 9 (by decide) (hK.2.w ww_5_209 rfl _) (fun _ h9 => h9) rfl dX12_readBus_21 ?_
        refine lv_iconst (v := (1 : Int32)) hx hb dX12_readBus_24 (by decide) ?_
        refine lv_icmp_eq (tgt := 33) hx hb dX12_readBus_25 (by decide) (fun c_2 => ?_) (fun c_2 => ?_)
        · rw [if_pos c_2] at hf
          exact B_33 _ _ _ _ _ hf hP hD hS (lv_sub hl [0] rfl)
        · rw [if_neg c_2] at hf
          refine lv_aload_n hx hb dX12_readBus_28 rfl (lv_at hl 0 rfl) ?_
          refine lv_iconst (v := (1 : Int32)) hx hb dX12_readBus_29 (by decide) ?_
          obtain ⟨r7, hc7, hf⟩ := kb_bind hf
          refine kb_cv (ws2 := (w_MO dA a q0 (some (ba 0)) (ta 0) g3 g4 g5 g6 g7 g8 g9 g10 g11 g12 g13 g14 g15 g16 g17 g18 r7 ++ (w_Tape dA ta y_tape ++ (w_Bus dA ba z2)))) (kb_rV (n := 1) (As := [.int (1 : Int32)]) (rest := []) hx hb hml hown hK (c_X12_wrong l D dA H.size a q0 (some (ba 0)) (ta 0) g3 g4 g5 g6 g7 g8 g9 g10 g11 g12 g13 g14 g15 g16 g17 g18 z0 (1 : Int32) r7 hc7) ⟨ww_6_226, ww_6_223, ww_6_225, ws_53, ww_1_12, rfl, by decide, by decide⟩ rfl rfl (by decide +kernel) ⟨Nat.le_of_ble_eq_true rfl, Nat.le_of_ble_eq_true rfl⟩ hP hD hS hA hE [0] rfl (by decide) 0 rfl rfl rfl hl.1 rfl (Nat.le_of_ble_eq_true rfl) dX12_readBus_30 ⟨Nat.le_of_ble_eq_true rfl, Nat.le_of_ble_eq_true rfl⟩) hP hD hS hA [0] [1, 2, 3, 4, 5, 6, 7, 8, 9, 10, 11, 12, 13, 14, 15, 16, 17] [17, 0, 1, 2, 3, 4, 5, 6, 7, 8, 9, 10, 11, 12, 13, 14, 15, 16] rfl rfl (by decide) (by decide) rfl (by decide) (fun H locs hP hD hS => ?_)
          exact B_33 _ _ _ _ _ hf hP hD hS (lv_sub hl [0] rfl)
      · rw [if_neg c_1] at hf
        refine lv_aload_n hx hb dX12_readBus_6 rfl (lv_at hl 0 rfl) ?_
        obtain ⟨r8, hc8, hf⟩ := kb_bind hf
        refine kb_cv (ws2 := (w_MO dA a q0 (some (ba 0)) (ta 0) g3 g4 g5 g6 g7 g8 g9 g10 g11 g12 g13 g14 g15 g16 g17 g18 r8.1 ++ (w_Tape dA ta y_tape ++ (w_Bus dA ba r8.2)))) (kb_rV (n := 0) (As := []) (rest := []) hx hb hml hown hK (c_X12_readLine l D dA H.size a ta ba q0 g3 g4 g5 g6 g7 g8 g9 g10 g11 g12 g13 g14 g15 g16 g17 g18 z0 y_tape z2 r8.1 r8.2 hc8) ⟨ww_6_208, ww_6_205, ww_6_207, ws_50, ww_1_12, rfl, by decide, by decide⟩ rfl rfl (by decide +kernel) ⟨Nat.le_of_ble_eq_true rfl, Nat.le_of_ble_eq_true rfl⟩ hP hD hS hA hE [0, 1, 2, 3, 4, 5, 6, 7, 8, 9, 10, 11, 12, 13, 14, 15, 16, 17] rfl (by decide) 0 rfl rfl rfl hl.1 rfl (Nat.le_of_ble_eq_true rfl) dX12_readBus_7 ⟨Nat.le_of_ble_eq_true rfl, Nat.le_of_ble_eq_true rfl⟩) hP hD hS hA [0, 1, 2, 3, 4, 5, 6, 7, 8, 9, 10, 11, 12, 13, 14, 15, 16, 17] [] [0, 1, 2, 3, 4, 5, 6, 7, 8, 9, 10, 11, 12, 13, 14, 15, 16, 17] rfl rfl (by decide) (by decide) rfl (by decide) (fun H locs hP hD hS => ?_)
        exact B_10 (f_X12_readBus_b2 y_tape n) ih _ _ _ _ _ hf hP hD hS (lv_sub hl [0] rfl)
  have E0 : ∀ (H : Heap) (locs : List Loc), va_P D vwCl (w_MO dA a q0 (some (ba 0)) (ta 0) g3 g4 g5 g6 g7 g8 g9 g10 g11 g12 g13 g14 g15 g16 g17 g18 mo ++ (w_Tape dA ta y_tape ++ (w_Bus dA ba bu))) H → va_D A (w_MO dA a q0 (some (ba 0)) (ta 0) g3 g4 g5 g6 g7 g8 g9 g10 g11 g12 g13 g14 g15 g16 g17 g18 mo ++ (w_Tape dA ta y_tape ++ (w_Bus dA ba bu))) → va_S A s.heap H locs → W p l e ({ frames := 12, cells := 0, slots := 0, locals := 261 } : Room) s m ([.ref (a 0)] : List Value).toArray below meth c H locs 0 0 Q (F0 m 0 ls []) := by
    intro H locs hP hD hS
    rw [f_X12_readBus] at hf
    refine lv_iconst (v := (1 : Int32)) hx hb dX12_readBus_0 (by decide) ?_
    refine lv_istore_n (lv' := [(1, .int (1 : Int32)), (0, .ref (a 0))]) hx hb dX12_readBus_1 rfl hl (by decide) rfl (fun ls hl => ?_)
    exact B_2 4096 _ _ _ _ _ _ hf hP hD hS (lv_sub hl [1, 0] rfl)
  exact E0 _ _ hP hD hS
