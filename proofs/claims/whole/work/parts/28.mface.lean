noncomputable def f_X12_alone_b25 (z0 : MOT) (z1 : OpenT) (z2 : ShutT) : Option (Int64 × MOT × OpenT × ShutT) := (f_X12_refused z0 (2 : Int32)).bind fun r3 => some ((r3.1).toInt64, r3.2, z1, z2)
noncomputable def f_X12_alone_b130 (k70 : Int32 → Int32 → Int32 → MOT → OpenT → ShutT → Option (Int64 × MOT × OpenT × ShutT)) (k79 : Int32 → Int32 → Int32 → Int32 → MOT → OpenT → ShutT → Option (Int64 × MOT × OpenT × ShutT)) (v1 : Int32) (v2 : Int32) (v3 : Int32) (v4 : Int32) (z0 : MOT) (z1 : OpenT) (z2 : ShutT) : Option (Int64 × MOT × OpenT × ShutT) := k79 v1 v2 v3 (v4 + (-1 : Int32)) z0 z1 z2
noncomputable def f_X12_alone_b121 (k70 : Int32 → Int32 → Int32 → MOT → OpenT → ShutT → Option (Int64 × MOT × OpenT × ShutT)) (k79 : Int32 → Int32 → Int32 → Int32 → MOT → OpenT → ShutT → Option (Int64 × MOT × OpenT × ShutT)) (v1 : Int32) (v2 : Int32) (v3 : Int32) (v4 : Int32) (v5 : Int64) (z0 : MOT) (z1 : OpenT) (z2 : ShutT) : Option (Int64 × MOT × OpenT × ShutT) := if kb_in? v4 42 then f_X12_alone_b130 k70 k79 v1 v2 v3 v4 z0 z1 (yShut_set_r z2 (vp_updL (yShut_r z2) (v4).toNatClampNeg v5)) else none
noncomputable def f_X12_alone_b102 (k70 : Int32 → Int32 → Int32 → MOT → OpenT → ShutT → Option (Int64 × MOT × OpenT × ShutT)) (k79 : Int32 → Int32 → Int32 → Int32 → MOT → OpenT → ShutT → Option (Int64 × MOT × OpenT × ShutT)) (v1 : Int32) (v2 : Int32) (v3 : Int32) (v4 : Int32) (s0 : Int64) (z0 : MOT) (z1 : OpenT) (z2 : ShutT) : Option (Int64 × MOT × OpenT × ShutT) := if kb_in? v4 42 then if kb_in? v4 42 then if kb_in? v4 42 then f_X12_alone_b121 k70 k79 v1 v2 v3 v4 s0 z0 (yOpen_set_r z1 (vp_updL (yOpen_r z1) (v4).toNatClampNeg (((yOpen_r z1) (v4).toNatClampNeg) + ((yShut_r z2) (v4).toNatClampNeg)))) z2 else none else none else none
noncomputable def f_X12_alone_b79 (k70 : Int32 → Int32 → Int32 → MOT → OpenT → ShutT → Option (Int64 × MOT × OpenT × ShutT)) : Nat → Int32 → Int32 → Int32 → Int32 → MOT → OpenT → ShutT → Option (Int64 × MOT × OpenT × ShutT)
  | 0, _, _, _, _, _, _, _ => none
  | n + 1, v1, v2, v3, v4, z0, z1, z2 => (if v4 < 0 then k70 v1 v2 (v3 + (1 : Int32)) z0 z1 z2 else (if v4 = 0 then f_X12_alone_b102 k70 (f_X12_alone_b79 k70 n) v1 v2 v3 v4 (0 : Int64) z0 z1 z2 else if kb_in? (v4 - (1 : Int32)) 42 then f_X12_alone_b102 k70 (f_X12_alone_b79 k70 n) v1 v2 v3 v4 ((yOpen_r z1) ((v4 - (1 : Int32))).toNatClampNeg) z0 z1 z2 else none))
noncomputable def f_X12_alone_b70 : Nat → Int32 → Int32 → Int32 → MOT → OpenT → ShutT → Option (Int64 × MOT × OpenT × ShutT)
  | 0, _, _, _, _, _, _ => none
  | n + 1, v1, v2, v3, z0, z1, z2 => (if v1 ≤ v3 then if kb_in? v2 42 then if kb_in? v2 42 then (f_X12_doneLong z0 (((yOpen_r z1) (v2).toNatClampNeg) + ((yShut_r z2) (v2).toNatClampNeg))).bind fun r10 => some (r10.1, r10.2, z1, z2) else none else none else f_X12_alone_b79 (f_X12_alone_b70 n) 4096 v1 v2 v3 (40 : Int32) z0 z1 z2)
noncomputable def f_X12_alone_b62 (k34 : Int32 → Int32 → Int32 → MOT → OpenT → ShutT → Option (Int64 × MOT × OpenT × ShutT)) (v1 : Int32) (v2 : Int32) (v3 : Int32) (z0 : MOT) (z1 : OpenT) (z2 : ShutT) : Option (Int64 × MOT × OpenT × ShutT) := k34 v1 v2 (v3 + (1 : Int32)) z0 z1 z2
noncomputable def f_X12_alone_b55 (k34 : Int32 → Int32 → Int32 → MOT → OpenT → ShutT → Option (Int64 × MOT × OpenT × ShutT)) (v1 : Int32) (v2 : Int32) (v3 : Int32) (z0 : MOT) (z1 : OpenT) (z2 : ShutT) : Option (Int64 × MOT × OpenT × ShutT) := if kb_in? v3 42 then f_X12_alone_b62 k34 v1 v2 v3 z0 z1 (yShut_set_r z2 (vp_updL (yShut_r z2) (v3).toNatClampNeg (0 : Int64))) else none
noncomputable def f_X12_alone_b54 (k34 : Int32 → Int32 → Int32 → MOT → OpenT → ShutT → Option (Int64 × MOT × OpenT × ShutT)) (v1 : Int32) (v2 : Int32) (v3 : Int32) (s0 : Int64) (s1 : Int32) (z0 : MOT) (z1 : OpenT) (z2 : ShutT) : Option (Int64 × MOT × OpenT × ShutT) := if kb_in? s1 42 then f_X12_alone_b55 k34 v1 v2 v3 z0 (yOpen_set_r z1 (vp_updL (yOpen_r z1) (s1).toNatClampNeg s0)) z2 else none
noncomputable def f_X12_alone_b34 : Nat → Int32 → Int32 → Int32 → MOT → OpenT → ShutT → Option (Int64 × MOT × OpenT × ShutT)
  | 0, _, _, _, _, _, _ => none
  | n + 1, v1, v2, v3, z0, z1, z2 => (if (40 : Int32) < v3 then f_X12_alone_b70 4096 v1 v2 (0 : Int32) z0 z1 z2 else (if v3 = 0 then f_X12_alone_b54 (f_X12_alone_b34 n) v1 v2 v3 (1 : Int64) v3 z0 z1 z2 else f_X12_alone_b54 (f_X12_alone_b34 n) v1 v2 v3 (0 : Int64) v3 z0 z1 z2))
noncomputable def f_X12_alone_b5 (v1 : Int32) (v2 : Int32) (z0 : MOT) (z1 : OpenT) (z2 : ShutT) : Option (Int64 × MOT × OpenT × ShutT) := (f_X12_in v1 (1 : Int32) (40 : Int32)).bind fun r1 => (if r1 = 0 then f_X12_alone_b25 z0 z1 z2 else (f_X12_in v2 (0 : Int32) (40 : Int32)).bind fun r4 => (if r4 = 0 then f_X12_alone_b25 z0 z1 z2 else f_X12_alone_b34 4096 v1 v2 (0 : Int32) z0 z1 z2))
noncomputable def f_X12_alone (mo : MOT) (y_open : OpenT) (y_shut : ShutT) (x0 : Int32) (x1 : Int32) : Option (Int64 × MOT × OpenT × ShutT) := f_X12_alone_b5 x0 x1 (mo_set_thrown mo (0 : Int32)) y_open y_shut
set_option maxHeartbeats 4000000 in
set_option maxRecDepth 100000 in
theorem c_X12_alone (l : Launch) (D : va_G) (dA : Nat → ClassId) (sz : Nat) (a : Nat → Nat) (oa : Nat → Nat) (ua : Nat → Nat) (q0 : Option Nat) (q1 : Option Nat) (g2 : Nat) (g3 : Nat) (g4 : Nat) (g5 : Nat) (g6 : Nat) (g7 : Nat) (g8 : Nat) (g9 : Nat) (g10 : Nat) (g11 : Nat) (g12 : Nat) (g13 : Nat) (g14 : Nat) (g15 : Nat) (g16 : Nat) (mo : MOT) (y_open : OpenT) (y_shut : ShutT) (x0 : Int32) (x1 : Int32) (rv : Int64) (u0 : MOT) (u1 : OpenT) (u2 : ShutT) (hf : f_X12_alone mo y_open y_shut x0 x1 = some (rv, u0, u1, u2)) : kb_Ml l yX12_alone cX12_alone 7 (some .long) ({ frames := 2, cells := 0, slots := 0, locals := 43 } : Room) D dA [.ref (a 0), .int x0, .int x1] sz (w_MO dA a q0 q1 g2 g3 g4 g5 g6 g7 g8 g9 g10 g11 g12 g13 g14 g15 g16 (oa 0) (ua 0) mo ++ (w_Open dA oa y_open ++ (w_Shut dA ua y_shut))) 0 0 rv (w_MO dA a q0 q1 g2 g3 g4 g5 g6 g7 g8 g9 g10 g11 g12 g13 g14 g15 g16 (oa 0) (ua 0) u0 ++ (w_Open dA oa u1 ++ (w_Shut dA ua u2))) := by
  refine Met.ofW (cc := cX12_alone) (maxL := 7) (ret := (some .long)) (by decide) rfl ?_
  intro p e s m args below meth c s₁ B hml hv
  obtain ⟨rfl, hsz, hP, hK, hD0, hE⟩ := hv
  have hx := B.exec
  have hb := B.bytes
  have hr := B.returns
  have hown : s.vm.findClass RX12 = some m.cls := findClass_of_methodNamed B.named
  have hlocks := B.notSynchronized
  have hts : ∀ w ∈ kb_gw, w.before ([.ref (a 0), .int x0, .int x1] : List Value).toArray s = true := fun w hw => hK.2.1 w hw _
  subst hsz
  have hD := hD0.self (sz := s.heap.size)
  generalize hAe : va_A (w_MO dA a q0 q1 g2 g3 g4 g5 g6 g7 g8 g9 g10 g11 g12 g13 g14 g15 g16 (oa 0) (ua 0) mo ++ (w_Open dA oa y_open ++ (w_Shut dA ua y_shut))) s.heap.size = A at hD hE ⊢
  have hA : ∀ q : Nat, s.heap.size ≤ q → A q := fun q h => by rw [← hAe]; exact Or.inr h
  have hS : va_S A s.heap s.heap [] := va_S.rf
  have hl := lv_entry ([.ref (a 0), .int x0, .int x1]) (n := 7) (Nat.le_of_ble_eq_true rfl)
  rw [lg_entry_eq]
  generalize (lg_sl ([.ref (a 0), .int x0, .int x1]) ++ List.replicate (7 - (lg_sl ([.ref (a 0), .int x0, .int x1])).length) Slot.unset).toArray = ls at hl ⊢
  have hl : lv_has ls 7 [(0, .ref (a 0)), (1, .int x0), (2, .int x1)] := hl
  generalize hQ : MQ below (va_Ql (fun r (_ : Unit) => r = rv) (kb_B D A (w_MO dA a q0 q1 g2 g3 g4 g5 g6 g7 g8 g9 g10 g11 g12 g13 g14 g15 g16 (oa 0) (ua 0) u0 ++ (w_Open dA oa u1 ++ (w_Shut dA ua u2)))) A) ([.ref (a 0), .int x0, .int x1] : List Value).toArray s 0 0 A = Q
  show W p l e ({ frames := 2, cells := 0, slots := 0, locals := 43 } : Room) s m ([.ref (a 0), .int x0, .int x1] : List Value).toArray below meth c s.heap [] 0 0 Q (F0 m 0 ls [])
  have RET : ∀ (r2 : Int64) (w0 : MOT) (w1 : OpenT) (w2 : ShutT) (H : Heap) (locs : List Loc) (ls : Array Slot) (pc : Nat), some (r2, w0, w1, w2) = some (rv, u0, u1, u2) → va_P D vwCl (w_MO dA a q0 q1 g2 g3 g4 g5 g6 g7 g8 g9 g10 g11 g12 g13 g14 g15 g16 (oa 0) (ua 0) w0 ++ (w_Open dA oa w1 ++ (w_Shut dA ua w2))) H → va_D A (w_MO dA a q0 q1 g2 g3 g4 g5 g6 g7 g8 g9 g10 g11 g12 g13 g14 g15 g16 (oa 0) (ua 0) w0 ++ (w_Open dA oa w1 ++ (w_Shut dA ua w2))) → va_S A s.heap H locs → decode cX12_alone pc = .ok (.lreturn, 1) → W p l e ({ frames := 2, cells := 0, slots := 0, locals := 43 } : Room) s m ([.ref (a 0), .int x0, .int x1] : List Value).toArray below meth c H locs 0 0 Q (F0 m pc ls [.long r2]) := by
    intro r2 w0 w1 w2 H locs ls pc hq hP hD hS hd
    cases hq
    rw [← hQ]
    exact W.lret hx hb hr (fun t ht hW => ⟨⟨_, (), rfl, rfl, by rw [ht]; exact hP, hD⟩, hS.F ht⟩) hS.2.2 hd
  have B_25 : ∀ (z0 : MOT) (z1 : OpenT) (z2 : ShutT) (H : Heap) (locs : List Loc) (ls : Array Slot), f_X12_alone_b25 z0 z1 z2 = some (rv, u0, u1, u2) → va_P D vwCl (w_MO dA a q0 q1 g2 g3 g4 g5 g6 g7 g8 g9 g10 g11 g12 g13 g14 g15 g16 (oa 0) (ua 0) z0 ++ (w_Open dA oa z1 ++ (w_Shut dA ua z2))) H → va_D A (w_MO dA a q0 q1 g2 g3 g4 g5 g6 g7 g8 g9 g10 g11 g12 g13 g14 g15 g16 (oa 0) (ua 0) z0 ++ (w_Open dA oa z1 ++ (w_Shut dA ua z2))) → va_S A s.heap H locs → lv_has ls 7 [(0, .ref (a 0))] → W p l e ({ frames := 2, cells := 0, slots := 0, locals := 43 } : Room) s m ([.ref (a 0), .int x0, .int x1] : List Value).toArray below meth c H locs 0 0 Q (F0 m 25 ls []) := by
    intro z0 z1 z2 H locs ls hf hP hD hS hl
    rw [f_X12_alone_b25] at hf
    refine lv_aload_n hx hb dX12_alone_25 rfl (lv_at hl 0 rfl) ?_
    refine lv_iconst (v := (2 : Int32)) hx hb dX12_alone_26 (by decide) ?_
    obtain ⟨r3, hc3, hf⟩ := kb_bind hf
    refine kb_ci (ws2 := (w_MO dA a q0 q1 g2 g3 g4 g5 g6 g7 g8 g9 g10 g11 g12 g13 g14 g15 g16 (oa 0) (ua 0) r3.2 ++ (w_Open dA oa z1 ++ (w_Shut dA ua z2)))) (kb_rV (n := 1) (As := [.int (2 : Int32)]) (rest := []) hx hb hml hown hK (c_X12_refused l D dA H.size a q0 q1 g2 g3 g4 g5 g6 g7 g8 g9 g10 g11 g12 g13 g14 g15 g16 (oa 0) (ua 0) z0 (2 : Int32) r3.1 r3.2 hc3) ⟨ww_6_82, ww_6_79, ww_6_81, ws_46, ww_1_12, rfl, by decide, by decide⟩ rfl rfl (by decide +kernel) ⟨Nat.le_of_ble_eq_true rfl, Nat.le_of_ble_eq_true rfl⟩ hP hD hS hA hE [0] rfl (by decide) 0 rfl rfl rfl hl.1 rfl (Nat.le_of_ble_eq_true rfl) dX12_alone_27 ⟨Nat.le_of_ble_eq_true rfl, Nat.le_of_ble_eq_true rfl⟩) hP hD hS hA [0] [1, 2] [2, 0, 1] rfl rfl (by decide) (by decide) rfl (by decide) (fun H locs hP hD hS => ?_)
    refine lv_i2l hx hb dX12_alone_30 rfl ?_
    exact RET _ _ _ _ H _ ls 31 hf hP hD hS dX12_alone_31
  have B_130 : ∀ (k70 : Int32 → Int32 → Int32 → MOT → OpenT → ShutT → Option (Int64 × MOT × OpenT × ShutT)) (hk70 : ∀ (v1 : Int32) (v2 : Int32) (v3 : Int32) (z0 : MOT) (z1 : OpenT) (z2 : ShutT) (H : Heap) (locs : List Loc) (ls : Array Slot), k70 v1 v2 v3 z0 z1 z2 = some (rv, u0, u1, u2) → va_P D vwCl (w_MO dA a q0 q1 g2 g3 g4 g5 g6 g7 g8 g9 g10 g11 g12 g13 g14 g15 g16 (oa 0) (ua 0) z0 ++ (w_Open dA oa z1 ++ (w_Shut dA ua z2))) H → va_D A (w_MO dA a q0 q1 g2 g3 g4 g5 g6 g7 g8 g9 g10 g11 g12 g13 g14 g15 g16 (oa 0) (ua 0) z0 ++ (w_Open dA oa z1 ++ (w_Shut dA ua z2))) → va_S A s.heap H locs → lv_has ls 7 [(0, .ref (a 0)), (1, .int v1), (2, .int v2), (3, .int v3)] → W p l e ({ frames := 2, cells := 0, slots := 0, locals := 43 } : Room) s m ([.ref (a 0), .int x0, .int x1] : List Value).toArray below meth c H locs 0 0 Q (F0 m 70 ls [])) (k79 : Int32 → Int32 → Int32 → Int32 → MOT → OpenT → ShutT → Option (Int64 × MOT × OpenT × ShutT)) (hk79 : ∀ (v1 : Int32) (v2 : Int32) (v3 : Int32) (v4 : Int32) (z0 : MOT) (z1 : OpenT) (z2 : ShutT) (H : Heap) (locs : List Loc) (ls : Array Slot), k79 v1 v2 v3 v4 z0 z1 z2 = some (rv, u0, u1, u2) → va_P D vwCl (w_MO dA a q0 q1 g2 g3 g4 g5 g6 g7 g8 g9 g10 g11 g12 g13 g14 g15 g16 (oa 0) (ua 0) z0 ++ (w_Open dA oa z1 ++ (w_Shut dA ua z2))) H → va_D A (w_MO dA a q0 q1 g2 g3 g4 g5 g6 g7 g8 g9 g10 g11 g12 g13 g14 g15 g16 (oa 0) (ua 0) z0 ++ (w_Open dA oa z1 ++ (w_Shut dA ua z2))) → va_S A s.heap H locs → lv_has ls 7 [(0, .ref (a 0)), (1, .int v1), (2, .int v2), (3, .int v3), (4, .int v4)] → W p l e ({ frames := 2, cells := 0, slots := 0, locals := 43 } : Room) s m ([.ref (a 0), .int x0, .int x1] : List Value).toArray below meth c H locs 0 0 Q (F0 m 79 ls [])) (v1 : Int32) (v2 : Int32) (v3 : Int32) (v4 : Int32) (z0 : MOT) (z1 : OpenT) (z2 : ShutT) (H : Heap) (locs : List Loc) (ls : Array Slot), f_X12_alone_b130 k70 k79 v1 v2 v3 v4 z0 z1 z2 = some (rv, u0, u1, u2) → va_P D vwCl (w_MO dA a q0 q1 g2 g3 g4 g5 g6 g7 g8 g9 g10 g11 g12 g13 g14 g15 g16 (oa 0) (ua 0) z0 ++ (w_Open dA oa z1 ++ (w_Shut dA ua z2))) H → va_D A (w_MO dA a q0 q1 g2 g3 g4 g5 g6 g7 g8 g9 g10 g11 g12 g13 g14 g15 g16 (oa 0) (ua 0) z0 ++ (w_Open dA oa z1 ++ (w_Shut dA ua z2))) → va_S A s.heap H locs → lv_has ls 7 [(0, .ref (a 0)), (1, .int v1), (2, .int v2), (3, .int v3), (4, .int v4)] → W p l e ({ frames := 2, cells := 0, slots := 0, locals := 43 } : Room) s m ([.ref (a 0), .int x0, .int x1] : List Value).toArray below meth c H locs 0 0 Q (F0 m 130 ls []) := by
    intro k70 hk70 k79 hk79 v1 v2 v3 v4 z0 z1 z2 H locs ls hf hP hD hS hl
    rw [f_X12_alone_b130] at hf
    refine lv_iinc (v := (v4 + (-1 : Int32))) (lv' := [(4, .int (v4 + (-1 : Int32))), (0, .ref (a 0)), (1, .int v1), (2, .int v2), (3, .int v3)]) hx hb dX12_alone_130 hl (k := 4) rfl (by rfl) (by decide) rfl (fun ls hl => ?_)
    refine lv_goto (tgt := 79) hx hb dX12_alone_133 (by decide) ?_
    exact hk79 _ _ _ _ _ _ _ _ _ _ hf hP hD hS (lv_sub hl [1, 2, 3, 4, 0] rfl)
  have B_121 : ∀ (k70 : Int32 → Int32 → Int32 → MOT → OpenT → ShutT → Option (Int64 × MOT × OpenT × ShutT)) (hk70 : ∀ (v1 : Int32) (v2 : Int32) (v3 : Int32) (z0 : MOT) (z1 : OpenT) (z2 : ShutT) (H : Heap) (locs : List Loc) (ls : Array Slot), k70 v1 v2 v3 z0 z1 z2 = some (rv, u0, u1, u2) → va_P D vwCl (w_MO dA a q0 q1 g2 g3 g4 g5 g6 g7 g8 g9 g10 g11 g12 g13 g14 g15 g16 (oa 0) (ua 0) z0 ++ (w_Open dA oa z1 ++ (w_Shut dA ua z2))) H → va_D A (w_MO dA a q0 q1 g2 g3 g4 g5 g6 g7 g8 g9 g10 g11 g12 g13 g14 g15 g16 (oa 0) (ua 0) z0 ++ (w_Open dA oa z1 ++ (w_Shut dA ua z2))) → va_S A s.heap H locs → lv_has ls 7 [(0, .ref (a 0)), (1, .int v1), (2, .int v2), (3, .int v3)] → W p l e ({ frames := 2, cells := 0, slots := 0, locals := 43 } : Room) s m ([.ref (a 0), .int x0, .int x1] : List Value).toArray below meth c H locs 0 0 Q (F0 m 70 ls [])) (k79 : Int32 → Int32 → Int32 → Int32 → MOT → OpenT → ShutT → Option (Int64 × MOT × OpenT × ShutT)) (hk79 : ∀ (v1 : Int32) (v2 : Int32) (v3 : Int32) (v4 : Int32) (z0 : MOT) (z1 : OpenT) (z2 : ShutT) (H : Heap) (locs : List Loc) (ls : Array Slot), k79 v1 v2 v3 v4 z0 z1 z2 = some (rv, u0, u1, u2) → va_P D vwCl (w_MO dA a q0 q1 g2 g3 g4 g5 g6 g7 g8 g9 g10 g11 g12 g13 g14 g15 g16 (oa 0) (ua 0) z0 ++ (w_Open dA oa z1 ++ (w_Shut dA ua z2))) H → va_D A (w_MO dA a q0 q1 g2 g3 g4 g5 g6 g7 g8 g9 g10 g11 g12 g13 g14 g15 g16 (oa 0) (ua 0) z0 ++ (w_Open dA oa z1 ++ (w_Shut dA ua z2))) → va_S A s.heap H locs → lv_has ls 7 [(0, .ref (a 0)), (1, .int v1), (2, .int v2), (3, .int v3), (4, .int v4)] → W p l e ({ frames := 2, cells := 0, slots := 0, locals := 43 } : Room) s m ([.ref (a 0), .int x0, .int x1] : List Value).toArray below meth c H locs 0 0 Q (F0 m 79 ls [])) (v1 : Int32) (v2 : Int32) (v3 : Int32) (v4 : Int32) (v5 : Int64) (z0 : MOT) (z1 : OpenT) (z2 : ShutT) (H : Heap) (locs : List Loc) (ls : Array Slot), f_X12_alone_b121 k70 k79 v1 v2 v3 v4 v5 z0 z1 z2 = some (rv, u0, u1, u2) → va_P D vwCl (w_MO dA a q0 q1 g2 g3 g4 g5 g6 g7 g8 g9 g10 g11 g12 g13 g14 g15 g16 (oa 0) (ua 0) z0 ++ (w_Open dA oa z1 ++ (w_Shut dA ua z2))) H → va_D A (w_MO dA a q0 q1 g2 g3 g4 g5 g6 g7 g8 g9 g10 g11 g12 g13 g14 g15 g16 (oa 0) (ua 0) z0 ++ (w_Open dA oa z1 ++ (w_Shut dA ua z2))) → va_S A s.heap H locs → lv_has ls 7 [(0, .ref (a 0)), (1, .int v1), (2, .int v2), (3, .int v3), (4, .int v4), (5, .long v5)] → W p l e ({ frames := 2, cells := 0, slots := 0, locals := 43 } : Room) s m ([.ref (a 0), .int x0, .int x1] : List Value).toArray below meth c H locs 0 0 Q (F0 m 121 ls []) := by
    intro k70 hk70 k79 hk79 v1 v2 v3 v4 v5 z0 z1 z2 H locs ls hf hP hD hS hl
    rw [f_X12_alone_b121] at hf
    refine lv_aload_n hx hb dX12_alone_121 rfl (lv_at hl 0 rfl) ?_
    refine va_get (D := D) (ci := 12) (v := .ref (ua 0)) (C := RX12) (T := TX12) (N := 35) hx hb hts kb_inX12 hown hK.1 hP 0 rfl rfl 34 (by decide) (hK.2.w ww_5_234 rfl _) (fun _ h9 => h9) rfl dX12_alone_122 ?_
    refine lv_iload hx hb dX12_alone_125 (lv_at hl 4 rfl) ?_
    refine lv_lload hx hb dX12_alone_127 (lv_at hl 5 rfl) ?_
    obtain ⟨h_17, hf⟩ := kb_if hf
    refine va_last (D := D) hx hb hK.1 hP hD hS 2 2 rfl rfl h_17 dX12_alone_129 (fun H locs hP hD hS => ?_)
    have hP : va_P D vwCl (w_MO dA a q0 q1 g2 g3 g4 g5 g6 g7 g8 g9 g10 g11 g12 g13 g14 g15 g16 (oa 0) (ua 0) z0 ++ (w_Open dA oa z1 ++ (w_Shut dA ua (yShut_set_r z2 (vp_updL (yShut_r z2) (v4).toNatClampNeg v5))))) H := hP
    have hD : va_D A (w_MO dA a q0 q1 g2 g3 g4 g5 g6 g7 g8 g9 g10 g11 g12 g13 g14 g15 g16 (oa 0) (ua 0) z0 ++ (w_Open dA oa z1 ++ (w_Shut dA ua (yShut_set_r z2 (vp_updL (yShut_r z2) (v4).toNatClampNeg v5))))) := hD
    exact B_130 k70 hk70 k79 hk79 _ _ _ _ _ _ _ _ _ _ hf hP hD hS (lv_sub hl [0, 1, 2, 3, 4] rfl)
  have B_102 : ∀ (k70 : Int32 → Int32 → Int32 → MOT → OpenT → ShutT → Option (Int64 × MOT × OpenT × ShutT)) (hk70 : ∀ (v1 : Int32) (v2 : Int32) (v3 : Int32) (z0 : MOT) (z1 : OpenT) (z2 : ShutT) (H : Heap) (locs : List Loc) (ls : Array Slot), k70 v1 v2 v3 z0 z1 z2 = some (rv, u0, u1, u2) → va_P D vwCl (w_MO dA a q0 q1 g2 g3 g4 g5 g6 g7 g8 g9 g10 g11 g12 g13 g14 g15 g16 (oa 0) (ua 0) z0 ++ (w_Open dA oa z1 ++ (w_Shut dA ua z2))) H → va_D A (w_MO dA a q0 q1 g2 g3 g4 g5 g6 g7 g8 g9 g10 g11 g12 g13 g14 g15 g16 (oa 0) (ua 0) z0 ++ (w_Open dA oa z1 ++ (w_Shut dA ua z2))) → va_S A s.heap H locs → lv_has ls 7 [(0, .ref (a 0)), (1, .int v1), (2, .int v2), (3, .int v3)] → W p l e ({ frames := 2, cells := 0, slots := 0, locals := 43 } : Room) s m ([.ref (a 0), .int x0, .int x1] : List Value).toArray below meth c H locs 0 0 Q (F0 m 70 ls [])) (k79 : Int32 → Int32 → Int32 → Int32 → MOT → OpenT → ShutT → Option (Int64 × MOT × OpenT × ShutT)) (hk79 : ∀ (v1 : Int32) (v2 : Int32) (v3 : Int32) (v4 : Int32) (z0 : MOT) (z1 : OpenT) (z2 : ShutT) (H : Heap) (locs : List Loc) (ls : Array Slot), k79 v1 v2 v3 v4 z0 z1 z2 = some (rv, u0, u1, u2) → va_P D vwCl (w_MO dA a q0 q1 g2 g3 g4 g5 g6 g7 g8 g9 g10 g11 g12 g13 g14 g15 g16 (oa 0) (ua 0) z0 ++ (w_Open dA oa z1 ++ (w_Shut dA ua z2))) H → va_D A (w_MO dA a q0 q1 g2 g3 g4 g5 g6 g7 g8 g9 g10 g11 g12 g13 g14 g15 g16 (oa 0) (ua 0) z0 ++ (w_Open dA oa z1 ++ (w_Shut dA ua z2))) → va_S A s.heap H locs → lv_has ls 7 [(0, .ref (a 0)), (1, .int v1), (2, .int v2), (3, .int v3), (4, .int v4)] → W p l e ({ frames := 2, cells := 0, slots := 0, locals := 43 } : Room) s m ([.ref (a 0), .int x0, .int x1] : List Value).toArray below meth c H locs 0 0 Q (F0 m 79 ls [])) (v1 : Int32) (v2 : Int32) (v3 : Int32) (v4 : Int32) (s0 : Int64) (z0 : MOT) (z1 : OpenT) (z2 : ShutT) (H : Heap) (locs : List Loc) (ls : Array Slot), f_X12_alone_b102 k70 k79 v1 v2 v3 v4 s0 z0 z1 z2 = some (rv, u0, u1, u2) → va_P D vwCl (w_MO dA a q0 q1 g2 g3 g4 g5 g6 g7 g8 g9 g10 g11 g12 g13 g14 g15 g16 (oa 0) (ua 0) z0 ++ (w_Open dA oa z1 ++ (w_Shut dA ua z2))) H → va_D A (w_MO dA a q0 q1 g2 g3 g4 g5 g6 g7 g8 g9 g10 g11 g12 g13 g14 g15 g16 (oa 0) (ua 0) z0 ++ (w_Open dA oa z1 ++ (w_Shut dA ua z2))) → va_S A s.heap H locs → lv_has ls 7 [(0, .ref (a 0)), (1, .int v1), (2, .int v2), (3, .int v3), (4, .int v4)] → W p l e ({ frames := 2, cells := 0, slots := 0, locals := 43 } : Room) s m ([.ref (a 0), .int x0, .int x1] : List Value).toArray below meth c H locs 0 0 Q (F0 m 102 ls [.long s0]) := by
    intro k70 hk70 k79 hk79 v1 v2 v3 v4 s0 z0 z1 z2 H locs ls hf hP hD hS hl
    rw [f_X12_alone_b102] at hf
    refine lv_lstore (lv' := [(5, .long s0), (0, .ref (a 0)), (1, .int v1), (2, .int v2), (3, .int v3), (4, .int v4)]) hx hb dX12_alone_102 hl (by decide) rfl (fun ls hl => ?_)
    refine lv_aload_n hx hb dX12_alone_104 rfl (lv_at hl 1 rfl) ?_
    refine va_get (D := D) (ci := 12) (v := .ref (oa 0)) (C := RX12) (T := TX12) (N := 35) hx hb hts kb_inX12 hown hK.1 hP 0 rfl rfl 33 (by decide) (hK.2.w ww_5_233 rfl _) (fun _ h9 => h9) rfl dX12_alone_105 ?_
    refine lv_iload hx hb dX12_alone_108 (lv_at hl 5 rfl) ?_
    refine lv_dup2_11 hx hb dX12_alone_110 rfl rfl ?_
    obtain ⟨h_14, hf⟩ := kb_if hf
    refine va_lald (D := D) hx hb hK.1 hP 1 2 rfl rfl h_14 dX12_alone_111 ?_
    refine lv_aload_n hx hb dX12_alone_112 rfl (lv_at hl 1 rfl) ?_
    refine va_get (D := D) (ci := 12) (v := .ref (ua 0)) (C := RX12) (T := TX12) (N := 35) hx hb hts kb_inX12 hown hK.1 hP 0 rfl rfl 34 (by decide) (hK.2.w ww_5_234 rfl _) (fun _ h9 => h9) rfl dX12_alone_113 ?_
    refine lv_iload hx hb dX12_alone_116 (lv_at hl 5 rfl) ?_
    obtain ⟨h_15, hf⟩ := kb_if hf
    refine va_lald (D := D) hx hb hK.1 hP 2 2 rfl rfl h_15 dX12_alone_118 ?_
    refine lv_ladd hx hb dX12_alone_119 ?_
    obtain ⟨h_16, hf⟩ := kb_if hf
    refine va_last (D := D) hx hb hK.1 hP hD hS 1 2 rfl rfl h_16 dX12_alone_120 (fun H locs hP hD hS => ?_)
    have hP : va_P D vwCl (w_MO dA a q0 q1 g2 g3 g4 g5 g6 g7 g8 g9 g10 g11 g12 g13 g14 g15 g16 (oa 0) (ua 0) z0 ++ (w_Open dA oa (yOpen_set_r z1 (vp_updL (yOpen_r z1) (v4).toNatClampNeg (((yOpen_r z1) (v4).toNatClampNeg) + ((yShut_r z2) (v4).toNatClampNeg)))) ++ (w_Shut dA ua z2))) H := hP
    have hD : va_D A (w_MO dA a q0 q1 g2 g3 g4 g5 g6 g7 g8 g9 g10 g11 g12 g13 g14 g15 g16 (oa 0) (ua 0) z0 ++ (w_Open dA oa (yOpen_set_r z1 (vp_updL (yOpen_r z1) (v4).toNatClampNeg (((yOpen_r z1) (v4).toNatClampNeg) + ((yShut_r z2) (v4).toNatClampNeg)))) ++ (w_Shut dA ua z2))) := hD
    exact B_121 k70 hk70 k79 hk79 _ _ _ _ _ _ _ _ _ _ _ hf hP hD hS (lv_sub hl [1, 2, 3, 4, 5, 0] rfl)
  have B_79 : ∀ (k70 : Int32 → Int32 → Int32 → MOT → OpenT → ShutT → Option (Int64 × MOT × OpenT × ShutT)) (hk70 : ∀ (v1 : Int32) (v2 : Int32) (v3 : Int32) (z0 : MOT) (z1 : OpenT) (z2 : ShutT) (H : Heap) (locs : List Loc) (ls : Array Slot), k70 v1 v2 v3 z0 z1 z2 = some (rv, u0, u1, u2) → va_P D vwCl (w_MO dA a q0 q1 g2 g3 g4 g5 g6 g7 g8 g9 g10 g11 g12 g13 g14 g15 g16 (oa 0) (ua 0) z0 ++ (w_Open dA oa z1 ++ (w_Shut dA ua z2))) H → va_D A (w_MO dA a q0 q1 g2 g3 g4 g5 g6 g7 g8 g9 g10 g11 g12 g13 g14 g15 g16 (oa 0) (ua 0) z0 ++ (w_Open dA oa z1 ++ (w_Shut dA ua z2))) → va_S A s.heap H locs → lv_has ls 7 [(0, .ref (a 0)), (1, .int v1), (2, .int v2), (3, .int v3)] → W p l e ({ frames := 2, cells := 0, slots := 0, locals := 43 } : Room) s m ([.ref (a 0), .int x0, .int x1] : List Value).toArray below meth c H locs 0 0 Q (F0 m 70 ls [])) (n : Nat) (v1 : Int32) (v2 : Int32) (v3 : Int32) (v4 : Int32) (z0 : MOT) (z1 : OpenT) (z2 : ShutT) (H : Heap) (locs : List Loc) (ls : Array Slot), f_X12_alone_b79 k70 n v1 v2 v3 v4 z0 z1 z2 = some (rv, u0, u1, u2) → va_P D vwCl (w_MO dA a q0 q1 g2 g3 g4 g5 g6 g7 g8 g9 g10 g11 g12 g13 g14 g15 g16 (oa 0) (ua 0) z0 ++ (w_Open dA oa z1 ++ (w_Shut dA ua z2))) H → va_D A (w_MO dA a q0 q1 g2 g3 g4 g5 g6 g7 g8 g9 g10 g11 g12 g13 g14 g15 g16 (oa 0) (ua 0) z0 ++ (w_Open dA oa z1 ++ (w_Shut dA ua z2))) → va_S A s.heap H locs → lv_has ls 7 [(0, .ref (a 0)), (1, .int v1), (2, .int v2), (3, .int v3), (4, .int v4)] → W p l e ({ frames := 2, cells := 0, slots := 0, locals := 43 } : Room) s m ([.ref (a 0), .int x0, .int x1] : List Value).toArray below meth c H locs 0 0 Q (F0 m 79 ls []) := by
    intro k70 hk70 n
    induction n with
    | zero =>
      intro v1 v2 v3 v4 z0 z1 z2 H locs ls hf
      exact absurd hf (by simp [f_X12_alone_b79])
    | succ n ih =>
      intro v1 v2 v3 v4 z0 z1 z2 H locs ls hf hP hD hS hl
      rw [f_X12_alone_b79] at hf
      refine lv_iload hx hb dX12_alone_79 (lv_at hl 4 rfl) ?_
      refine lv_if_lt (tgt := 136) hx hb dX12_alone_81 (by decide) (fun c_11 => ?_) (fun c_11 => ?_)
      · rw [if_pos c_11] at hf
        refine lv_iinc (v := (v3 + (1 : Int32))) (lv' := [(3, .int (v3 + (1 : Int32))), (0, .ref (a 0)), (1, .int v1), (2, .int v2), (4, .int v4)]) hx hb dX12_alone_136 hl (k := 3) rfl (by rfl) (by decide) rfl (fun ls hl => ?_)
        refine lv_goto (tgt := 70) hx hb dX12_alone_139 (by decide) ?_
        exact hk70 _ _ _ _ _ _ _ _ _ hf hP hD hS (lv_sub hl [1, 2, 3, 0] rfl)
      · rw [if_neg c_11] at hf
        refine lv_iload hx hb dX12_alone_84 (lv_at hl 4 rfl) ?_
        refine lv_if_ne (tgt := 93) hx hb dX12_alone_86 (by decide) (fun c_12 => ?_) (fun c_12 => ?_)
        · rw [if_neg c_12] at hf
          refine lv_aload_n hx hb dX12_alone_93 rfl (lv_at hl 0 rfl) ?_
          refine va_get (D := D) (ci := 12) (v := .ref (oa 0)) (C := RX12) (T := TX12) (N := 35) hx hb hts kb_inX12 hown hK.1 hP 0 rfl rfl 33 (by decide) (hK.2.w ww_5_233 rfl _) (fun _ h9 => h9) rfl dX12_alone_94 ?_
          refine lv_iload hx hb dX12_alone_97 (lv_at hl 4 rfl) ?_
          refine lv_iconst (v := (1 : Int32)) hx hb dX12_alone_99 (by decide) ?_
          refine lv_isub hx hb dX12_alone_100 ?_
          obtain ⟨h_13, hf⟩ := kb_if hf
          refine va_lald (D := D) hx hb hK.1 hP 1 2 rfl rfl h_13 dX12_alone_101 ?_
          exact B_102 k70 hk70 (f_X12_alone_b79 k70 n) ih _ _ _ _ _ _ _ _ _ _ _ hf hP hD hS (lv_sub hl [0, 1, 2, 3, 4] rfl)
        · rw [if_pos c_12] at hf
          refine lv_lconst (v := (0 : Int64)) hx hb dX12_alone_89 (by decide) ?_
          refine lv_goto (tgt := 102) hx hb dX12_alone_90 (by decide) ?_
          exact B_102 k70 hk70 (f_X12_alone_b79 k70 n) ih _ _ _ _ _ _ _ _ _ _ _ hf hP hD hS (lv_sub hl [0, 1, 2, 3, 4] rfl)
  have B_70 : ∀ (n : Nat) (v1 : Int32) (v2 : Int32) (v3 : Int32) (z0 : MOT) (z1 : OpenT) (z2 : ShutT) (H : Heap) (locs : List Loc) (ls : Array Slot), f_X12_alone_b70 n v1 v2 v3 z0 z1 z2 = some (rv, u0, u1, u2) → va_P D vwCl (w_MO dA a q0 q1 g2 g3 g4 g5 g6 g7 g8 g9 g10 g11 g12 g13 g14 g15 g16 (oa 0) (ua 0) z0 ++ (w_Open dA oa z1 ++ (w_Shut dA ua z2))) H → va_D A (w_MO dA a q0 q1 g2 g3 g4 g5 g6 g7 g8 g9 g10 g11 g12 g13 g14 g15 g16 (oa 0) (ua 0) z0 ++ (w_Open dA oa z1 ++ (w_Shut dA ua z2))) → va_S A s.heap H locs → lv_has ls 7 [(0, .ref (a 0)), (1, .int v1), (2, .int v2), (3, .int v3)] → W p l e ({ frames := 2, cells := 0, slots := 0, locals := 43 } : Room) s m ([.ref (a 0), .int x0, .int x1] : List Value).toArray below meth c H locs 0 0 Q (F0 m 70 ls []) := by
    intro n
    induction n with
    | zero =>
      intro v1 v2 v3 z0 z1 z2 H locs ls hf
      exact absurd hf (by simp [f_X12_alone_b70])
    | succ n ih =>
      intro v1 v2 v3 z0 z1 z2 H locs ls hf hP hD hS hl
      rw [f_X12_alone_b70] at hf
      refine lv_iload_n hx hb dX12_alone_70 rfl (lv_at hl 3 rfl) ?_
      refine lv_iload_n hx hb dX12_alone_71 rfl (lv_at hl 1 rfl) ?_
      refine lv_icmp_ge (tgt := 142) hx hb dX12_alone_72 (by decide) (fun c_7 => ?_) (fun c_7 => ?_)
      · rw [if_pos c_7] at hf
        refine lv_aload_n hx hb dX12_alone_142 rfl (lv_at hl 0 rfl) ?_
        refine lv_aload_n hx hb dX12_alone_143 rfl (lv_at hl 0 rfl) ?_
        refine va_get (D := D) (ci := 12) (v := .ref (oa 0)) (C := RX12) (T := TX12) (N := 35) hx hb hts kb_inX12 hown hK.1 hP 0 rfl rfl 33 (by decide) (hK.2.w ww_5_233 rfl _) (fun _ h9 => h9) rfl dX12_alone_144 ?_
        refine lv_iload_n hx hb dX12_alone_147 rfl (lv_at hl 2 rfl) ?_
        obtain ⟨h_8, hf⟩ := kb_if hf
        refine va_lald (D := D) hx hb hK.1 hP 1 2 rfl rfl h_8 dX12_alone_148 ?_
        refine lv_aload_n hx hb dX12_alone_149 rfl (lv_at hl 0 rfl) ?_
        refine va_get (D := D) (ci := 12) (v := .ref (ua 0)) (C := RX12) (T := TX12) (N := 35) hx hb hts kb_inX12 hown hK.1 hP 0 rfl rfl 34 (by decide) (hK.2.w ww_5_234 rfl _) (fun _ h9 => h9) rfl dX12_alone_150 ?_
        refine lv_iload_n hx hb dX12_alone_153 rfl (lv_at hl 2 rfl) ?_
        obtain ⟨h_9, hf⟩ := kb_if hf
        refine va_lald (D := D) hx hb hK.1 hP 2 2 rfl rfl h_9 dX12_alone_154 ?_
        refine lv_ladd hx hb dX12_alone_155 ?_
        obtain ⟨r10, hc10, hf⟩ := kb_bind hf
        refine kb_cl (ws2 := (w_MO dA a q0 q1 g2 g3 g4 g5 g6 g7 g8 g9 g10 g11 g12 g13 g14 g15 g16 (oa 0) (ua 0) r10.2 ++ (w_Open dA oa z1 ++ (w_Shut dA ua z2)))) (kb_rV (n := 1) (As := [.long (((yOpen_r z1) (v2).toNatClampNeg) + ((yShut_r z2) (v2).toNatClampNeg))]) (rest := []) hx hb hml hown hK (c_X12_doneLong l D dA H.size a q0 q1 g2 g3 g4 g5 g6 g7 g8 g9 g10 g11 g12 g13 g14 g15 g16 (oa 0) (ua 0) z0 (((yOpen_r z1) (v2).toNatClampNeg) + ((yShut_r z2) (v2).toNatClampNeg)) r10.1 r10.2 hc10) ⟨ww_8_105, ww_8_102, ww_8_104, ws_106, ww_1_12, rfl, by decide, by decide⟩ rfl rfl (by decide +kernel) ⟨Nat.le_of_ble_eq_true rfl, Nat.le_of_ble_eq_true rfl⟩ hP hD hS hA hE [0] rfl (by decide) 0 rfl rfl rfl hl.1 rfl (Nat.le_of_ble_eq_true rfl) dX12_alone_156 ⟨Nat.le_of_ble_eq_true rfl, Nat.le_of_ble_eq_true rfl⟩) hP hD hS hA [0] [1, 2] [2, 0, 1] rfl rfl (by decide) (by decide) rfl (by decide) (fun H locs hP hD hS => ?_)
        exact RET _ _ _ _ H _ ls 159 hf hP hD hS dX12_alone_159
      · rw [if_neg c_7] at hf
        refine lv_bipush (v := (40 : Int32)) hx hb dX12_alone_75 (by decide) ?_
        refine lv_istore (lv' := [(4, .int (40 : Int32)), (0, .ref (a 0)), (1, .int v1), (2, .int v2), (3, .int v3)]) hx hb dX12_alone_77 hl (by decide) rfl (fun ls hl => ?_)
        exact B_79 (f_X12_alone_b70 n) ih 4096 _ _ _ _ _ _ _ _ _ _ hf hP hD hS (lv_sub hl [1, 2, 3, 4, 0] rfl)
  have B_62 : ∀ (k34 : Int32 → Int32 → Int32 → MOT → OpenT → ShutT → Option (Int64 × MOT × OpenT × ShutT)) (hk34 : ∀ (v1 : Int32) (v2 : Int32) (v3 : Int32) (z0 : MOT) (z1 : OpenT) (z2 : ShutT) (H : Heap) (locs : List Loc) (ls : Array Slot), k34 v1 v2 v3 z0 z1 z2 = some (rv, u0, u1, u2) → va_P D vwCl (w_MO dA a q0 q1 g2 g3 g4 g5 g6 g7 g8 g9 g10 g11 g12 g13 g14 g15 g16 (oa 0) (ua 0) z0 ++ (w_Open dA oa z1 ++ (w_Shut dA ua z2))) H → va_D A (w_MO dA a q0 q1 g2 g3 g4 g5 g6 g7 g8 g9 g10 g11 g12 g13 g14 g15 g16 (oa 0) (ua 0) z0 ++ (w_Open dA oa z1 ++ (w_Shut dA ua z2))) → va_S A s.heap H locs → lv_has ls 7 [(0, .ref (a 0)), (1, .int v1), (2, .int v2), (3, .int v3)] → W p l e ({ frames := 2, cells := 0, slots := 0, locals := 43 } : Room) s m ([.ref (a 0), .int x0, .int x1] : List Value).toArray below meth c H locs 0 0 Q (F0 m 34 ls [])) (v1 : Int32) (v2 : Int32) (v3 : Int32) (z0 : MOT) (z1 : OpenT) (z2 : ShutT) (H : Heap) (locs : List Loc) (ls : Array Slot), f_X12_alone_b62 k34 v1 v2 v3 z0 z1 z2 = some (rv, u0, u1, u2) → va_P D vwCl (w_MO dA a q0 q1 g2 g3 g4 g5 g6 g7 g8 g9 g10 g11 g12 g13 g14 g15 g16 (oa 0) (ua 0) z0 ++ (w_Open dA oa z1 ++ (w_Shut dA ua z2))) H → va_D A (w_MO dA a q0 q1 g2 g3 g4 g5 g6 g7 g8 g9 g10 g11 g12 g13 g14 g15 g16 (oa 0) (ua 0) z0 ++ (w_Open dA oa z1 ++ (w_Shut dA ua z2))) → va_S A s.heap H locs → lv_has ls 7 [(0, .ref (a 0)), (1, .int v1), (2, .int v2), (3, .int v3)] → W p l e ({ frames := 2, cells := 0, slots := 0, locals := 43 } : Room) s m ([.ref (a 0), .int x0, .int x1] : List Value).toArray below meth c H locs 0 0 Q (F0 m 62 ls []) := by
    intro k34 hk34 v1 v2 v3 z0 z1 z2 H locs ls hf hP hD hS hl
    rw [f_X12_alone_b62] at hf
    refine lv_iinc (v := (v3 + (1 : Int32))) (lv' := [(3, .int (v3 + (1 : Int32))), (0, .ref (a 0)), (1, .int v1), (2, .int v2)]) hx hb dX12_alone_62 hl (k := 3) rfl (by rfl) (by decide) rfl (fun ls hl => ?_)
    refine lv_goto (tgt := 34) hx hb dX12_alone_65 (by decide) ?_
    exact hk34 _ _ _ _ _ _ _ _ _ hf hP hD hS (lv_sub hl [1, 2, 3, 0] rfl)
  have B_55 : ∀ (k34 : Int32 → Int32 → Int32 → MOT → OpenT → ShutT → Option (Int64 × MOT × OpenT × ShutT)) (hk34 : ∀ (v1 : Int32) (v2 : Int32) (v3 : Int32) (z0 : MOT) (z1 : OpenT) (z2 : ShutT) (H : Heap) (locs : List Loc) (ls : Array Slot), k34 v1 v2 v3 z0 z1 z2 = some (rv, u0, u1, u2) → va_P D vwCl (w_MO dA a q0 q1 g2 g3 g4 g5 g6 g7 g8 g9 g10 g11 g12 g13 g14 g15 g16 (oa 0) (ua 0) z0 ++ (w_Open dA oa z1 ++ (w_Shut dA ua z2))) H → va_D A (w_MO dA a q0 q1 g2 g3 g4 g5 g6 g7 g8 g9 g10 g11 g12 g13 g14 g15 g16 (oa 0) (ua 0) z0 ++ (w_Open dA oa z1 ++ (w_Shut dA ua z2))) → va_S A s.heap H locs → lv_has ls 7 [(0, .ref (a 0)), (1, .int v1), (2, .int v2), (3, .int v3)] → W p l e ({ frames := 2, cells := 0, slots := 0, locals := 43 } : Room) s m ([.ref (a 0), .int x0, .int x1] : List Value).toArray below meth c H locs 0 0 Q (F0 m 34 ls [])) (v1 : Int32) (v2 : Int32) (v3 : Int32) (z0 : MOT) (z1 : OpenT) (z2 : ShutT) (H : Heap) (locs : List Loc) (ls : Array Slot), f_X12_alone_b55 k34 v1 v2 v3 z0 z1 z2 = some (rv, u0, u1, u2) → va_P D vwCl (w_MO dA a q0 q1 g2 g3 g4 g5 g6 g7 g8 g9 g10 g11 g12 g13 g14 g15 g16 (oa 0) (ua 0) z0 ++ (w_Open dA oa z1 ++ (w_Shut dA ua z2))) H → va_D A (w_MO dA a q0 q1 g2 g3 g4 g5 g6 g7 g8 g9 g10 g11 g12 g13 g14 g15 g16 (oa 0) (ua 0) z0 ++ (w_Open dA oa z1 ++ (w_Shut dA ua z2))) → va_S A s.heap H locs → lv_has ls 7 [(0, .ref (a 0)), (1, .int v1), (2, .int v2), (3, .int v3)] → W p l e ({ frames := 2, cells := 0, slots := 0, locals := 43 } : Room) s m ([.ref (a 0), .int x0, .int x1] : List Value).toArray below meth c H locs 0 0 Q (F0 m 55 ls []) := by
    intro k34 hk34 v1 v2 v3 z0 z1 z2 H locs ls hf hP hD hS hl
    rw [f_X12_alone_b55] at hf
    refine lv_aload_n hx hb dX12_alone_55 rfl (lv_at hl 0 rfl) ?_
    refine va_get (D := D) (ci := 12) (v := .ref (ua 0)) (C := RX12) (T := TX12) (N := 35) hx hb hts kb_inX12 hown hK.1 hP 0 rfl rfl 34 (by decide) (hK.2.w ww_5_234 rfl _) (fun _ h9 => h9) rfl dX12_alone_56 ?_
    refine lv_iload_n hx hb dX12_alone_59 rfl (lv_at hl 3 rfl) ?_
    refine lv_lconst (v := (0 : Int64)) hx hb dX12_alone_60 (by decide) ?_
    obtain ⟨h_20, hf⟩ := kb_if hf
    refine va_last (D := D) hx hb hK.1 hP hD hS 2 2 rfl rfl h_20 dX12_alone_61 (fun H locs hP hD hS => ?_)
    have hP : va_P D vwCl (w_MO dA a q0 q1 g2 g3 g4 g5 g6 g7 g8 g9 g10 g11 g12 g13 g14 g15 g16 (oa 0) (ua 0) z0 ++ (w_Open dA oa z1 ++ (w_Shut dA ua (yShut_set_r z2 (vp_updL (yShut_r z2) (v3).toNatClampNeg (0 : Int64)))))) H := hP
    have hD : va_D A (w_MO dA a q0 q1 g2 g3 g4 g5 g6 g7 g8 g9 g10 g11 g12 g13 g14 g15 g16 (oa 0) (ua 0) z0 ++ (w_Open dA oa z1 ++ (w_Shut dA ua (yShut_set_r z2 (vp_updL (yShut_r z2) (v3).toNatClampNeg (0 : Int64)))))) := hD
    exact B_62 k34 hk34 _ _ _ _ _ _ _ _ _ hf hP hD hS (lv_sub hl [0, 1, 2, 3] rfl)
  have B_54 : ∀ (k34 : Int32 → Int32 → Int32 → MOT → OpenT → ShutT → Option (Int64 × MOT × OpenT × ShutT)) (hk34 : ∀ (v1 : Int32) (v2 : Int32) (v3 : Int32) (z0 : MOT) (z1 : OpenT) (z2 : ShutT) (H : Heap) (locs : List Loc) (ls : Array Slot), k34 v1 v2 v3 z0 z1 z2 = some (rv, u0, u1, u2) → va_P D vwCl (w_MO dA a q0 q1 g2 g3 g4 g5 g6 g7 g8 g9 g10 g11 g12 g13 g14 g15 g16 (oa 0) (ua 0) z0 ++ (w_Open dA oa z1 ++ (w_Shut dA ua z2))) H → va_D A (w_MO dA a q0 q1 g2 g3 g4 g5 g6 g7 g8 g9 g10 g11 g12 g13 g14 g15 g16 (oa 0) (ua 0) z0 ++ (w_Open dA oa z1 ++ (w_Shut dA ua z2))) → va_S A s.heap H locs → lv_has ls 7 [(0, .ref (a 0)), (1, .int v1), (2, .int v2), (3, .int v3)] → W p l e ({ frames := 2, cells := 0, slots := 0, locals := 43 } : Room) s m ([.ref (a 0), .int x0, .int x1] : List Value).toArray below meth c H locs 0 0 Q (F0 m 34 ls [])) (v1 : Int32) (v2 : Int32) (v3 : Int32) (s0 : Int64) (s1 : Int32) (z0 : MOT) (z1 : OpenT) (z2 : ShutT) (H : Heap) (locs : List Loc) (ls : Array Slot), f_X12_alone_b54 k34 v1 v2 v3 s0 s1 z0 z1 z2 = some (rv, u0, u1, u2) → va_P D vwCl (w_MO dA a q0 q1 g2 g3 g4 g5 g6 g7 g8 g9 g10 g11 g12 g13 g14 g15 g16 (oa 0) (ua 0) z0 ++ (w_Open dA oa z1 ++ (w_Shut dA ua z2))) H → va_D A (w_MO dA a q0 q1 g2 g3 g4 g5 g6 g7 g8 g9 g10 g11 g12 g13 g14 g15 g16 (oa 0) (ua 0) z0 ++ (w_Open dA oa z1 ++ (w_Shut dA ua z2))) → va_S A s.heap H locs → lv_has ls 7 [(0, .ref (a 0)), (1, .int v1), (2, .int v2), (3, .int v3)] → W p l e ({ frames := 2, cells := 0, slots := 0, locals := 43 } : Room) s m ([.ref (a 0), .int x0, .int x1] : List Value).toArray below meth c H locs 0 0 Q (F0 m 54 ls [.long s0, .int s1, .ref (oa 0)]) := by
    intro k34 hk34 v1 v2 v3 s0 s1 z0 z1 z2 H locs ls hf hP hD hS hl
    rw [f_X12_alone_b54] at hf
    obtain ⟨h_19, hf⟩ := kb_if hf
    refine va_last (D := D) hx hb hK.1 hP hD hS 1 2 rfl rfl h_19 dX12_alone_54 (fun H locs hP hD hS => ?_)
    have hP : va_P D vwCl (w_MO dA a q0 q1 g2 g3 g4 g5 g6 g7 g8 g9 g10 g11 g12 g13 g14 g15 g16 (oa 0) (ua 0) z0 ++ (w_Open dA oa (yOpen_set_r z1 (vp_updL (yOpen_r z1) (s1).toNatClampNeg s0)) ++ (w_Shut dA ua z2))) H := hP
    have hD : va_D A (w_MO dA a q0 q1 g2 g3 g4 g5 g6 g7 g8 g9 g10 g11 g12 g13 g14 g15 g16 (oa 0) (ua 0) z0 ++ (w_Open dA oa (yOpen_set_r z1 (vp_updL (yOpen_r z1) (s1).toNatClampNeg s0)) ++ (w_Shut dA ua z2))) := hD
    exact B_55 k34 hk34 _ _ _ _ _ _ _ _ _ hf hP hD hS (lv_sub hl [0, 1, 2, 3] rfl)
  have B_34 : ∀ (n : Nat) (v1 : Int32) (v2 : Int32) (v3 : Int32) (z0 : MOT) (z1 : OpenT) (z2 : ShutT) (H : Heap) (locs : List Loc) (ls : Array Slot), f_X12_alone_b34 n v1 v2 v3 z0 z1 z2 = some (rv, u0, u1, u2) → va_P D vwCl (w_MO dA a q0 q1 g2 g3 g4 g5 g6 g7 g8 g9 g10 g11 g12 g13 g14 g15 g16 (oa 0) (ua 0) z0 ++ (w_Open dA oa z1 ++ (w_Shut dA ua z2))) H → va_D A (w_MO dA a q0 q1 g2 g3 g4 g5 g6 g7 g8 g9 g10 g11 g12 g13 g14 g15 g16 (oa 0) (ua 0) z0 ++ (w_Open dA oa z1 ++ (w_Shut dA ua z2))) → va_S A s.heap H locs → lv_has ls 7 [(0, .ref (a 0)), (1, .int v1), (2, .int v2), (3, .int v3)] → W p l e ({ frames := 2, cells := 0, slots := 0, locals := 43 } : Room) s m ([.ref (a 0), .int x0, .int x1] : List Value).toArray below meth c H locs 0 0 Q (F0 m 34 ls []) := by
    intro n
    induction n with
    | zero =>
      intro v1 v2 v3 z0 z1 z2 H locs ls hf
      exact absurd hf (by simp [f_X12_alone_b34])
    | succ n ih =>
      intro v1 v2 v3 z0 z1 z2 H locs ls hf hP hD hS hl
      rw [f_X12_alone_b34] at hf
      refine lv_iload_n hx hb dX12_alone_34 rfl (lv_at hl 3 rfl) ?_
      refine lv_bipush (v := (40 : Int32)) hx hb dX12_alone_35 (by decide) ?_
      refine lv_icmp_gt (tgt := 68) hx hb dX12_alone_37 (by decide) (fun c_6 => ?_) (fun c_6 => ?_)
      · rw [if_pos c_6] at hf
        refine lv_iconst (v := (0 : Int32)) hx hb dX12_alone_68 (by decide) ?_
        refine lv_istore_n (lv' := [(3, .int (0 : Int32)), (0, .ref (a 0)), (1, .int v1), (2, .int v2)]) hx hb dX12_alone_69 rfl hl (by decide) rfl (fun ls hl => ?_)
        exact B_70 4096 _ _ _ _ _ _ _ _ _ hf hP hD hS (lv_sub hl [1, 2, 3, 0] rfl)
      · rw [if_neg c_6] at hf
        refine lv_aload_n hx hb dX12_alone_40 rfl (lv_at hl 0 rfl) ?_
        refine va_get (D := D) (ci := 12) (v := .ref (oa 0)) (C := RX12) (T := TX12) (N := 35) hx hb hts kb_inX12 hown hK.1 hP 0 rfl rfl 33 (by decide) (hK.2.w ww_5_233 rfl _) (fun _ h9 => h9) rfl dX12_alone_41 ?_
        refine lv_iload_n hx hb dX12_alone_44 rfl (lv_at hl 3 rfl) ?_
        refine lv_iload_n hx hb dX12_alone_45 rfl (lv_at hl 3 rfl) ?_
        refine lv_if_ne (tgt := 53) hx hb dX12_alone_46 (by decide) (fun c_18 => ?_) (fun c_18 => ?_)
        · rw [if_neg c_18] at hf
          refine lv_lconst (v := (0 : Int64)) hx hb dX12_alone_53 (by decide) ?_
          exact B_54 (f_X12_alone_b34 n) ih _ _ _ _ _ _ _ _ _ _ _ hf hP hD hS (lv_sub hl [0, 1, 2, 3] rfl)
        · rw [if_pos c_18] at hf
          refine lv_lconst (v := (1 : Int64)) hx hb dX12_alone_49 (by decide) ?_
          refine lv_goto (tgt := 54) hx hb dX12_alone_50 (by decide) ?_
          exact B_54 (f_X12_alone_b34 n) ih _ _ _ _ _ _ _ _ _ _ _ hf hP hD hS (lv_sub hl [0, 1, 2, 3] rfl)
  have B_5 : ∀ (v1 : Int32) (v2 : Int32) (z0 : MOT) (z1 : OpenT) (z2 : ShutT) (H : Heap) (locs : List Loc) (ls : Array Slot), f_X12_alone_b5 v1 v2 z0 z1 z2 = some (rv, u0, u1, u2) → va_P D vwCl (w_MO dA a q0 q1 g2 g3 g4 g5 g6 g7 g8 g9 g10 g11 g12 g13 g14 g15 g16 (oa 0) (ua 0) z0 ++ (w_Open dA oa z1 ++ (w_Shut dA ua z2))) H → va_D A (w_MO dA a q0 q1 g2 g3 g4 g5 g6 g7 g8 g9 g10 g11 g12 g13 g14 g15 g16 (oa 0) (ua 0) z0 ++ (w_Open dA oa z1 ++ (w_Shut dA ua z2))) → va_S A s.heap H locs → lv_has ls 7 [(0, .ref (a 0)), (1, .int v1), (2, .int v2)] → W p l e ({ frames := 2, cells := 0, slots := 0, locals := 43 } : Room) s m ([.ref (a 0), .int x0, .int x1] : List Value).toArray below meth c H locs 0 0 Q (F0 m 5 ls []) := by
    intro v1 v2 z0 z1 z2 H locs ls hf hP hD hS hl
    rw [f_X12_alone_b5] at hf
    refine lv_iload_n hx hb dX12_alone_5 rfl (lv_at hl 1 rfl) ?_
    refine lv_iconst (v := (1 : Int32)) hx hb dX12_alone_6 (by decide) ?_
    refine lv_bipush (v := (40 : Int32)) hx hb dX12_alone_7 (by decide) ?_
    obtain ⟨r1, hc1, hf⟩ := kb_bind hf
    refine kb_ci (ws2 := (w_MO dA a q0 q1 g2 g3 g4 g5 g6 g7 g8 g9 g10 g11 g12 g13 g14 g15 g16 (oa 0) (ua 0) z0 ++ (w_Open dA oa z1 ++ (w_Shut dA ua z2)))) (kb_rS (n := 3) (As := [.int v1, .int (1 : Int32), .int (40 : Int32)]) (rest := []) hx hb hml hown hK (c_X12_in l D dA H.size v1 (1 : Int32) (40 : Int32) r1 hc1) ⟨ww_7_2, ww_7_0, ww_7_1, ww_1_12, by decide, by decide⟩ rfl rfl (by decide +kernel) ⟨Nat.le_of_ble_eq_true rfl, Nat.le_of_ble_eq_true rfl⟩ hP hD hS hA hE [] rfl (by decide) rfl hl.1 rfl (Nat.le_of_ble_eq_true rfl) dX12_alone_9 ⟨Nat.le_of_ble_eq_true rfl, Nat.le_of_ble_eq_true rfl⟩) hP hD hS hA [] [0, 1, 2] [0, 1, 2] rfl rfl (by decide) (by decide) rfl (by decide) (fun H locs hP hD hS => ?_)
    refine lv_if_eq (tgt := 25) hx hb dX12_alone_12 (by decide) (fun c_2 => ?_) (fun c_2 => ?_)
    · rw [if_pos c_2] at hf
      exact B_25 _ _ _ _ _ _ hf hP hD hS (lv_sub hl [0] rfl)
    · rw [if_neg c_2] at hf
      refine lv_iload_n hx hb dX12_alone_15 rfl (lv_at hl 2 rfl) ?_
      refine lv_iconst (v := (0 : Int32)) hx hb dX12_alone_16 (by decide) ?_
      refine lv_bipush (v := (40 : Int32)) hx hb dX12_alone_17 (by decide) ?_
      obtain ⟨r4, hc4, hf⟩ := kb_bind hf
      refine kb_ci (ws2 := (w_MO dA a q0 q1 g2 g3 g4 g5 g6 g7 g8 g9 g10 g11 g12 g13 g14 g15 g16 (oa 0) (ua 0) z0 ++ (w_Open dA oa z1 ++ (w_Shut dA ua z2)))) (kb_rS (n := 3) (As := [.int v2, .int (0 : Int32), .int (40 : Int32)]) (rest := []) hx hb hml hown hK (c_X12_in l D dA H.size v2 (0 : Int32) (40 : Int32) r4 hc4) ⟨ww_7_2, ww_7_0, ww_7_1, ww_1_12, by decide, by decide⟩ rfl rfl (by decide +kernel) ⟨Nat.le_of_ble_eq_true rfl, Nat.le_of_ble_eq_true rfl⟩ hP hD hS hA hE [] rfl (by decide) rfl hl.1 rfl (Nat.le_of_ble_eq_true rfl) dX12_alone_19 ⟨Nat.le_of_ble_eq_true rfl, Nat.le_of_ble_eq_true rfl⟩) hP hD hS hA [] [0, 1, 2] [0, 1, 2] rfl rfl (by decide) (by decide) rfl (by decide) (fun H locs hP hD hS => ?_)
      refine lv_if_ne (tgt := 32) hx hb dX12_alone_22 (by decide) (fun c_5 => ?_) (fun c_5 => ?_)
      · rw [if_neg c_5] at hf
        refine lv_iconst (v := (0 : Int32)) hx hb dX12_alone_32 (by decide) ?_
        refine lv_istore_n (lv' := [(3, .int (0 : Int32)), (0, .ref (a 0)), (1, .int v1), (2, .int v2)]) hx hb dX12_alone_33 rfl hl (by decide) rfl (fun ls hl => ?_)
        exact B_34 4096 _ _ _ _ _ _ _ _ _ hf hP hD hS (lv_sub hl [1, 2, 3, 0] rfl)
      · rw [if_pos c_5] at hf
        exact B_25 _ _ _ _ _ _ hf hP hD hS (lv_sub hl [0] rfl)
  have E0 : ∀ (H : Heap) (locs : List Loc), va_P D vwCl (w_MO dA a q0 q1 g2 g3 g4 g5 g6 g7 g8 g9 g10 g11 g12 g13 g14 g15 g16 (oa 0) (ua 0) mo ++ (w_Open dA oa y_open ++ (w_Shut dA ua y_shut))) H → va_D A (w_MO dA a q0 q1 g2 g3 g4 g5 g6 g7 g8 g9 g10 g11 g12 g13 g14 g15 g16 (oa 0) (ua 0) mo ++ (w_Open dA oa y_open ++ (w_Shut dA ua y_shut))) → va_S A s.heap H locs → W p l e ({ frames := 2, cells := 0, slots := 0, locals := 43 } : Room) s m ([.ref (a 0), .int x0, .int x1] : List Value).toArray below meth c H locs 0 0 Q (F0 m 0 ls []) := by
    intro H locs hP hD hS
    rw [f_X12_alone] at hf
    refine lv_aload_n hx hb dX12_alone_0 rfl (lv_at hl 0 rfl) ?_
    refine lv_iconst (v := (0 : Int32)) hx hb dX12_alone_1 (by decide) ?_
    refine va_put (D := D) (ci := 12) (v := .int (0 : Int32)) (ty := .int) (C := RX12) (T := TX12) (N := 35) hx hb hts kb_inX12 tyX12 tyX12_ok nmX12 hown hK.1 hP hD hS 0 rfl rfl 0 (by decide) (hK.2.w ww_5_200 rfl _) (fun _ h9 => h9) rfl (by decide +kernel) rfl rfl (Nat.le_of_ble_eq_true rfl) dX12_alone_2 (fun H locs hP hD hS => ?_)
    have hP : va_P D vwCl (w_MO dA a q0 q1 g2 g3 g4 g5 g6 g7 g8 g9 g10 g11 g12 g13 g14 g15 g16 (oa 0) (ua 0) (mo_set_thrown mo (0 : Int32)) ++ (w_Open dA oa y_open ++ (w_Shut dA ua y_shut))) H := hP
    have hD : va_D A (w_MO dA a q0 q1 g2 g3 g4 g5 g6 g7 g8 g9 g10 g11 g12 g13 g14 g15 g16 (oa 0) (ua 0) (mo_set_thrown mo (0 : Int32)) ++ (w_Open dA oa y_open ++ (w_Shut dA ua y_shut))) := hD
    exact B_5 _ _ _ _ _ _ _ _ hf hP hD hS (lv_sub hl [0, 1, 2] rfl)
  exact E0 _ _ hP hD hS

noncomputable def f_X12_full_b5 (v1 : Int32) (z0 : MOT) : Option (Int32 × MOT) := (f_X12_in v1 (1 : Int32) (40 : Int32)).bind fun r1 => (if r1 = 0 then (f_X12_refused z0 (2 : Int32)).bind fun r3 => some (r3.1, r3.2) else (f_X12_done z0 ((v1 + (1 : Int32)) / (2 : Int32))).bind fun r4 => some (r4.1, r4.2))
noncomputable def f_X12_full (mo : MOT) (x0 : Int32) : Option (Int32 × MOT) := f_X12_full_b5 x0 (mo_set_thrown mo (0 : Int32))
set_option maxHeartbeats 4000000 in
set_option maxRecDepth 100000 in
theorem c_X12_full (l : Launch) (D : va_G) (dA : Nat → ClassId) (sz : Nat) (a : Nat → Nat) (q0 : Option Nat) (q1 : Option Nat) (g2 : Nat) (g3 : Nat) (g4 : Nat) (g5 : Nat) (g6 : Nat) (g7 : Nat) (g8 : Nat) (g9 : Nat) (g10 : Nat) (g11 : Nat) (g12 : Nat) (g13 : Nat) (g14 : Nat) (g15 : Nat) (g16 : Nat) (g17 : Nat) (g18 : Nat) (mo : MOT) (x0 : Int32) (rv : Int32) (u0 : MOT) (hf : f_X12_full mo x0 = some (rv, u0)) : kb_Mi l yX12_full cX12_full 2 (some .int) ({ frames := 1, cells := 0, slots := 0, locals := 22 } : Room) D dA [.ref (a 0), .int x0] sz (w_MO dA a q0 q1 g2 g3 g4 g5 g6 g7 g8 g9 g10 g11 g12 g13 g14 g15 g16 g17 g18 mo) 0 0 rv (w_MO dA a q0 q1 g2 g3 g4 g5 g6 g7 g8 g9 g10 g11 g12 g13 g14 g15 g16 g17 g18 u0) := by
  refine Met.ofW (cc := cX12_full) (maxL := 2) (ret := (some .int)) (by decide) rfl ?_
  intro p e s m args below meth c s₁ B hml hv
  obtain ⟨rfl, hsz, hP, hK, hD0, hE⟩ := hv
  have hx := B.exec
  have hb := B.bytes
  have hr := B.returns
  have hown : s.vm.findClass RX12 = some m.cls := findClass_of_methodNamed B.named
  have hlocks := B.notSynchronized
  have hts : ∀ w ∈ kb_gw, w.before ([.ref (a 0), .int x0] : List Value).toArray s = true := fun w hw => hK.2.1 w hw _
  subst hsz
  have hD := hD0.self (sz := s.heap.size)
  generalize hAe : va_A (w_MO dA a q0 q1 g2 g3 g4 g5 g6 g7 g8 g9 g10 g11 g12 g13 g14 g15 g16 g17 g18 mo) s.heap.size = A at hD hE ⊢
  have hA : ∀ q : Nat, s.heap.size ≤ q → A q := fun q h => by rw [← hAe]; exact Or.inr h
  have hS : va_S A s.heap s.heap [] := va_S.rf
  have hl := lv_entry ([.ref (a 0), .int x0]) (n := 2) (Nat.le_of_ble_eq_true rfl)
  rw [lg_entry_eq]
  generalize (lg_sl ([.ref (a 0), .int x0]) ++ List.replicate (2 - (lg_sl ([.ref (a 0), .int x0])).length) Slot.unset).toArray = ls at hl ⊢
  have hl : lv_has ls 2 [(0, .ref (a 0)), (1, .int x0)] := hl
  generalize hQ : MQ below (va_Qi (fun r (_ : Unit) => r = rv) (kb_B D A (w_MO dA a q0 q1 g2 g3 g4 g5 g6 g7 g8 g9 g10 g11 g12 g13 g14 g15 g16 g17 g18 u0)) A) ([.ref (a 0), .int x0] : List Value).toArray s 0 0 A = Q
  show W p l e ({ frames := 1, cells := 0, slots := 0, locals := 22 } : Room) s m ([.ref (a 0), .int x0] : List Value).toArray below meth c s.heap [] 0 0 Q (F0 m 0 ls [])
  have RET : ∀ (r2 : Int32) (w0 : MOT) (H : Heap) (locs : List Loc) (ls : Array Slot) (pc : Nat), some (r2, w0) = some (rv, u0) → va_P D vwCl (w_MO dA a q0 q1 g2 g3 g4 g5 g6 g7 g8 g9 g10 g11 g12 g13 g14 g15 g16 g17 g18 w0) H → va_D A (w_MO dA a q0 q1 g2 g3 g4 g5 g6 g7 g8 g9 g10 g11 g12 g13 g14 g15 g16 g17 g18 w0) → va_S A s.heap H locs → decode cX12_full pc = .ok (.ireturn, 1) → W p l e ({ frames := 1, cells := 0, slots := 0, locals := 22 } : Room) s m ([.ref (a 0), .int x0] : List Value).toArray below meth c H locs 0 0 Q (F0 m pc ls [.int r2]) := by
    intro r2 w0 H locs ls pc hq hP hD hS hd
    cases hq
    rw [← hQ]
    exact W.iret hx hb hr (fun t ht hW => ⟨⟨_, (), rfl, rfl, by rw [ht]; exact hP, hD⟩, hS.F ht⟩) hS.2.2 hd
  have B_5 : ∀ (v1 : Int32) (z0 : MOT) (H : Heap) (locs : List Loc) (ls : Array Slot), f_X12_full_b5 v1 z0 = some (rv, u0) → va_P D vwCl (w_MO dA a q0 q1 g2 g3 g4 g5 g6 g7 g8 g9 g10 g11 g12 g13 g14 g15 g16 g17 g18 z0) H → va_D A (w_MO dA a q0 q1 g2 g3 g4 g5 g6 g7 g8 g9 g10 g11 g12 g13 g14 g15 g16 g17 g18 z0) → va_S A s.heap H locs → lv_has ls 2 [(0, .ref (a 0)), (1, .int v1)] → W p l e ({ frames := 1, cells := 0, slots := 0, locals := 22 } : Room) s m ([.ref (a 0), .int x0] : List Value).toArray below meth c H locs 0 0 Q (F0 m 5 ls []) := by
    intro v1 z0 H locs ls hf hP hD hS hl
    rw [f_X12_full_b5] at hf
    refine lv_iload_n hx hb dX12_full_5 rfl (lv_at hl 1 rfl) ?_
    refine lv_iconst (v := (1 : Int32)) hx hb dX12_full_6 (by decide) ?_
    refine lv_bipush (v := (40 : Int32)) hx hb dX12_full_7 (by decide) ?_
    obtain ⟨r1, hc1, hf⟩ := kb_bind hf
    refine kb_ci (ws2 := (w_MO dA a q0 q1 g2 g3 g4 g5 g6 g7 g8 g9 g10 g11 g12 g13 g14 g15 g16 g17 g18 z0)) (kb_rS (n := 3) (As := [.int v1, .int (1 : Int32), .int (40 : Int32)]) (rest := []) hx hb hml hown hK (c_X12_in l D dA H.size v1 (1 : Int32) (40 : Int32) r1 hc1) ⟨ww_7_2, ww_7_0, ww_7_1, ww_1_12, by decide, by decide⟩ rfl rfl (by decide +kernel) ⟨Nat.le_of_ble_eq_true rfl, Nat.le_of_ble_eq_true rfl⟩ hP hD hS hA hE [] rfl (by decide) rfl hl.1 rfl (Nat.le_of_ble_eq_true rfl) dX12_full_9 ⟨Nat.le_of_ble_eq_true rfl, Nat.le_of_ble_eq_true rfl⟩) hP hD hS hA [] [0] [0] rfl rfl (by decide) (by decide) rfl (by decide) (fun H locs hP hD hS => ?_)
    refine lv_if_eq (tgt := 27) hx hb dX12_full_12 (by decide) (fun c_2 => ?_) (fun c_2 => ?_)
    · rw [if_pos c_2] at hf
      refine lv_aload_n hx hb dX12_full_27 rfl (lv_at hl 0 rfl) ?_
      refine lv_iconst (v := (2 : Int32)) hx hb dX12_full_28 (by decide) ?_
      obtain ⟨r3, hc3, hf⟩ := kb_bind hf
      refine kb_ci (ws2 := (w_MO dA a q0 q1 g2 g3 g4 g5 g6 g7 g8 g9 g10 g11 g12 g13 g14 g15 g16 g17 g18 r3.2)) (kb_rV (n := 1) (As := [.int (2 : Int32)]) (rest := []) hx hb hml hown hK (c_X12_refused l D dA H.size a q0 q1 g2 g3 g4 g5 g6 g7 g8 g9 g10 g11 g12 g13 g14 g15 g16 g17 g18 z0 (2 : Int32) r3.1 r3.2 hc3) ⟨ww_6_82, ww_6_79, ww_6_81, ws_46, ww_1_12, rfl, by decide, by decide⟩ rfl rfl (by decide +kernel) ⟨Nat.le_of_ble_eq_true rfl, Nat.le_of_ble_eq_true rfl⟩ hP hD hS hA hE [0] rfl (by decide) 0 rfl rfl rfl hl.1 rfl (Nat.le_of_ble_eq_true rfl) dX12_full_29 ⟨Nat.le_of_ble_eq_true rfl, Nat.le_of_ble_eq_true rfl⟩) hP hD hS hA [0] [] [0] rfl rfl (by decide) (by decide) rfl (by decide) (fun H locs hP hD hS => ?_)
      exact RET _ _ H _ ls 32 hf hP hD hS dX12_full_32
    · rw [if_neg c_2] at hf
      refine lv_aload_n hx hb dX12_full_15 rfl (lv_at hl 0 rfl) ?_
      refine lv_iload_n hx hb dX12_full_16 rfl (lv_at hl 1 rfl) ?_
      refine lv_iconst (v := (1 : Int32)) hx hb dX12_full_17 (by decide) ?_
      refine lv_iadd hx hb dX12_full_18 ?_
      refine lv_iconst (v := (2 : Int32)) hx hb dX12_full_19 (by decide) ?_
      refine lv_idiv hx hb dX12_full_20 (by decide) ?_
      obtain ⟨r4, hc4, hf⟩ := kb_bind hf
      refine kb_ci (ws2 := (w_MO dA a q0 q1 g2 g3 g4 g5 g6 g7 g8 g9 g10 g11 g12 g13 g14 g15 g16 g17 g18 r4.2)) (kb_rV (n := 1) (As := [.int ((v1 + (1 : Int32)) / (2 : Int32))]) (rest := []) hx hb hml hown hK (c_X12_done l D dA H.size a q0 q1 g2 g3 g4 g5 g6 g7 g8 g9 g10 g11 g12 g13 g14 g15 g16 g17 g18 z0 ((v1 + (1 : Int32)) / (2 : Int32)) r4.1 r4.2 hc4) ⟨ww_7_100, ww_7_97, ww_7_99, ws_71, ww_1_12, rfl, by decide, by decide⟩ rfl rfl (by decide +kernel) ⟨Nat.le_of_ble_eq_true rfl, Nat.le_of_ble_eq_true rfl⟩ hP hD hS hA hE [0] rfl (by decide) 0 rfl rfl rfl hl.1 rfl (Nat.le_of_ble_eq_true rfl) dX12_full_21 ⟨Nat.le_of_ble_eq_true rfl, Nat.le_of_ble_eq_true rfl⟩) hP hD hS hA [0] [] [0] rfl rfl (by decide) (by decide) rfl (by decide) (fun H locs hP hD hS => ?_)
      refine lv_goto (tgt := 32) hx hb dX12_full_24 (by decide) ?_
      exact RET _ _ H _ ls 32 hf hP hD hS dX12_full_32
  have E0 : ∀ (H : Heap) (locs : List Loc), va_P D vwCl (w_MO dA a q0 q1 g2 g3 g4 g5 g6 g7 g8 g9 g10 g11 g12 g13 g14 g15 g16 g17 g18 mo) H → va_D A (w_MO dA a q0 q1 g2 g3 g4 g5 g6 g7 g8 g9 g10 g11 g12 g13 g14 g15 g16 g17 g18 mo) → va_S A s.heap H locs → W p l e ({ frames := 1, cells := 0, slots := 0, locals := 22 } : Room) s m ([.ref (a 0), .int x0] : List Value).toArray below meth c H locs 0 0 Q (F0 m 0 ls []) := by
    intro H locs hP hD hS
    rw [f_X12_full] at hf
    refine lv_aload_n hx hb dX12_full_0 rfl (lv_at hl 0 rfl) ?_
    refine lv_iconst (v := (0 : Int32)) hx hb dX12_full_1 (by decide) ?_
    refine va_put (D := D) (ci := 12) (v := .int (0 : Int32)) (ty := .int) (C := RX12) (T := TX12) (N := 35) hx hb hts kb_inX12 tyX12 tyX12_ok nmX12 hown hK.1 hP hD hS 0 rfl rfl 0 (by decide) (hK.2.w ww_5_200 rfl _) (fun _ h9 => h9) rfl (by decide +kernel) rfl rfl (Nat.le_of_ble_eq_true rfl) dX12_full_2 (fun H locs hP hD hS => ?_)
    have hP : va_P D vwCl (w_MO dA a q0 q1 g2 g3 g4 g5 g6 g7 g8 g9 g10 g11 g12 g13 g14 g15 g16 g17 g18 (mo_set_thrown mo (0 : Int32))) H := hP
    have hD : va_D A (w_MO dA a q0 q1 g2 g3 g4 g5 g6 g7 g8 g9 g10 g11 g12 g13 g14 g15 g16 g17 g18 (mo_set_thrown mo (0 : Int32))) := hD
    exact B_5 _ _ _ _ _ hf hP hD hS (lv_sub hl [0, 1] rfl)
  exact E0 _ _ hP hD hS

noncomputable def f_X12_fewest_b5 (v1 : Int32) (z0 : MOT) : Option (Int32 × MOT) := (f_X12_in v1 (1 : Int32) (40 : Int32)).bind fun r1 => (if r1 = 0 then (f_X12_refused z0 (2 : Int32)).bind fun r3 => some (r3.1, r3.2) else (f_X12_done z0 ((v1 + (2 : Int32)) / (3 : Int32))).bind fun r4 => some (r4.1, r4.2))
noncomputable def f_X12_fewest (mo : MOT) (x0 : Int32) : Option (Int32 × MOT) := f_X12_fewest_b5 x0 (mo_set_thrown mo (0 : Int32))
set_option maxHeartbeats 4000000 in
set_option maxRecDepth 100000 in
theorem c_X12_fewest (l : Launch) (D : va_G) (dA : Nat → ClassId) (sz : Nat) (a : Nat → Nat) (q0 : Option Nat) (q1 : Option Nat) (g2 : Nat) (g3 : Nat) (g4 : Nat) (g5 : Nat) (g6 : Nat) (g7 : Nat) (g8 : Nat) (g9 : Nat) (g10 : Nat) (g11 : Nat) (g12 : Nat) (g13 : Nat) (g14 : Nat) (g15 : Nat) (g16 : Nat) (g17 : Nat) (g18 : Nat) (mo : MOT) (x0 : Int32) (rv : Int32) (u0 : MOT) (hf : f_X12_fewest mo x0 = some (rv, u0)) : kb_Mi l yX12_fewest cX12_fewest 2 (some .int) ({ frames := 1, cells := 0, slots := 0, locals := 22 } : Room) D dA [.ref (a 0), .int x0] sz (w_MO dA a q0 q1 g2 g3 g4 g5 g6 g7 g8 g9 g10 g11 g12 g13 g14 g15 g16 g17 g18 mo) 0 0 rv (w_MO dA a q0 q1 g2 g3 g4 g5 g6 g7 g8 g9 g10 g11 g12 g13 g14 g15 g16 g17 g18 u0) := by
  refine Met.ofW (cc := cX12_fewest) (maxL := 2) (ret := (some .int)) (by decide) rfl ?_
  intro p e s m args below meth c s₁ B hml hv
  obtain ⟨rfl, hsz, hP, hK, hD0, hE⟩ := hv
  have hx := B.exec
  have hb := B.bytes
  have hr := B.returns
  have hown : s.vm.findClass RX12 = some m.cls := findClass_of_methodNamed B.named
  have hlocks := B.notSynchronized
  have hts : ∀ w ∈ kb_gw, w.before ([.ref (a 0), .int x0] : List Value).toArray s = true := fun w hw => hK.2.1 w hw _
  subst hsz
  have hD := hD0.self (sz := s.heap.size)
  generalize hAe : va_A (w_MO dA a q0 q1 g2 g3 g4 g5 g6 g7 g8 g9 g10 g11 g12 g13 g14 g15 g16 g17 g18 mo) s.heap.size = A at hD hE ⊢
  have hA : ∀ q : Nat, s.heap.size ≤ q → A q := fun q h => by rw [← hAe]; exact Or.inr h
  have hS : va_S A s.heap s.heap [] := va_S.rf
  have hl := lv_entry ([.ref (a 0), .int x0]) (n := 2) (Nat.le_of_ble_eq_true rfl)
  rw [lg_entry_eq]
  generalize (lg_sl ([.ref (a 0), .int x0]) ++ List.replicate (2 - (lg_sl ([.ref (a 0), .int x0])).length) Slot.unset).toArray = ls at hl ⊢
  have hl : lv_has ls 2 [(0, .ref (a 0)), (1, .int x0)] := hl
  generalize hQ : MQ below (va_Qi (fun r (_ : Unit) => r = rv) (kb_B D A (w_MO dA a q0 q1 g2 g3 g4 g5 g6 g7 g8 g9 g10 g11 g12 g13 g14 g15 g16 g17 g18 u0)) A) ([.ref (a 0), .int x0] : List Value).toArray s 0 0 A = Q
  show W p l e ({ frames := 1, cells := 0, slots := 0, locals := 22 } : Room) s m ([.ref (a 0), .int x0] : List Value).toArray below meth c s.heap [] 0 0 Q (F0 m 0 ls [])
  have RET : ∀ (r2 : Int32) (w0 : MOT) (H : Heap) (locs : List Loc) (ls : Array Slot) (pc : Nat), some (r2, w0) = some (rv, u0) → va_P D vwCl (w_MO dA a q0 q1 g2 g3 g4 g5 g6 g7 g8 g9 g10 g11 g12 g13 g14 g15 g16 g17 g18 w0) H → va_D A (w_MO dA a q0 q1 g2 g3 g4 g5 g6 g7 g8 g9 g10 g11 g12 g13 g14 g15 g16 g17 g18 w0) → va_S A s.heap H locs → decode cX12_fewest pc = .ok (.ireturn, 1) → W p l e ({ frames := 1, cells := 0, slots := 0, locals := 22 } : Room) s m ([.ref (a 0), .int x0] : List Value).toArray below meth c H locs 0 0 Q (F0 m pc ls [.int r2]) := by
    intro r2 w0 H locs ls pc hq hP hD hS hd
    cases hq
    rw [← hQ]
    exact W.iret hx hb hr (fun t ht hW => ⟨⟨_, (), rfl, rfl, by rw [ht]; exact hP, hD⟩, hS.F ht⟩) hS.2.2 hd
  have B_5 : ∀ (v1 : Int32) (z0 : MOT) (H : Heap) (locs : List Loc) (ls : Array Slot), f_X12_fewest_b5 v1 z0 = some (rv, u0) → va_P D vwCl (w_MO dA a q0 q1 g2 g3 g4 g5 g6 g7 g8 g9 g10 g11 g12 g13 g14 g15 g16 g17 g18 z0) H → va_D A (w_MO dA a q0 q1 g2 g3 g4 g5 g6 g7 g8 g9 g10 g11 g12 g13 g14 g15 g16 g17 g18 z0) → va_S A s.heap H locs → lv_has ls 2 [(0, .ref (a 0)), (1, .int v1)] → W p l e ({ frames := 1, cells := 0, slots := 0, locals := 22 } : Room) s m ([.ref (a 0), .int x0] : List Value).toArray below meth c H locs 0 0 Q (F0 m 5 ls []) := by
    intro v1 z0 H locs ls hf hP hD hS hl
    rw [f_X12_fewest_b5] at hf
    refine lv_iload_n hx hb dX12_fewest_5 rfl (lv_at hl 1 rfl) ?_
    refine lv_iconst (v := (1 : Int32)) hx hb dX12_fewest_6 (by decide) ?_
    refine lv_bipush (v := (40 : Int32)) hx hb dX12_fewest_7 (by decide) ?_
    obtain ⟨r1, hc1, hf⟩ := kb_bind hf
    refine kb_ci (ws2 := (w_MO dA a q0 q1 g2 g3 g4 g5 g6 g7 g8 g9 g10 g11 g12 g13 g14 g15 g16 g17 g18 z0)) (kb_rS (n := 3) (As := [.int v1, .int (1 : Int32), .int (40 : Int32)]) (rest := []) hx hb hml hown hK (c_X12_in l D dA H.size v1 (1 : Int32) (40 : Int32) r1 hc1) ⟨ww_7_2, ww_7_0, ww_7_1, ww_1_12, by decide, by decide⟩ rfl rfl (by decide +kernel) ⟨Nat.le_of_ble_eq_true rfl, Nat.le_of_ble_eq_true rfl⟩ hP hD hS hA hE [] rfl (by decide) rfl hl.1 rfl (Nat.le_of_ble_eq_true rfl) dX12_fewest_9 ⟨Nat.le_of_ble_eq_true rfl, Nat.le_of_ble_eq_true rfl⟩) hP hD hS hA [] [0] [0] rfl rfl (by decide) (by decide) rfl (by decide) (fun H locs hP hD hS => ?_)
    refine lv_if_eq (tgt := 27) hx hb dX12_fewest_12 (by decide) (fun c_2 => ?_) (fun c_2 => ?_)
    · rw [if_pos c_2] at hf
      refine lv_aload_n hx hb dX12_fewest_27 rfl (lv_at hl 0 rfl) ?_
      refine lv_iconst (v := (2 : Int32)) hx hb dX12_fewest_28 (by decide) ?_
      obtain ⟨r3, hc3, hf⟩ := kb_bind hf
      refine kb_ci (ws2 := (w_MO dA a q0 q1 g2 g3 g4 g5 g6 g7 g8 g9 g10 g11 g12 g13 g14 g15 g16 g17 g18 r3.2)) (kb_rV (n := 1) (As := [.int (2 : Int32)]) (rest := []) hx hb hml hown hK (c_X12_refused l D dA H.size a q0 q1 g2 g3 g4 g5 g6 g7 g8 g9 g10 g11 g12 g13 g14 g15 g16 g17 g18 z0 (2 : Int32) r3.1 r3.2 hc3) ⟨ww_6_82, ww_6_79, ww_6_81, ws_46, ww_1_12, rfl, by decide, by decide⟩ rfl rfl (by decide +kernel) ⟨Nat.le_of_ble_eq_true rfl, Nat.le_of_ble_eq_true rfl⟩ hP hD hS hA hE [0] rfl (by decide) 0 rfl rfl rfl hl.1 rfl (Nat.le_of_ble_eq_true rfl) dX12_fewest_29 ⟨Nat.le_of_ble_eq_true rfl, Nat.le_of_ble_eq_true rfl⟩) hP hD hS hA [0] [] [0] rfl rfl (by decide) (by decide) rfl (by decide) (fun H locs hP hD hS => ?_)
      exact RET _ _ H _ ls 32 hf hP hD hS dX12_fewest_32
    · rw [if_neg c_2] at hf
      refine lv_aload_n hx hb dX12_fewest_15 rfl (lv_at hl 0 rfl) ?_
      refine lv_iload_n hx hb dX12_fewest_16 rfl (lv_at hl 1 rfl) ?_
      refine lv_iconst (v := (2 : Int32)) hx hb dX12_fewest_17 (by decide) ?_
      refine lv_iadd hx hb dX12_fewest_18 ?_
      refine lv_iconst (v := (3 : Int32)) hx hb dX12_fewest_19 (by decide) ?_
      refine lv_idiv hx hb dX12_fewest_20 (by decide) ?_
      obtain ⟨r4, hc4, hf⟩ := kb_bind hf
      refine kb_ci (ws2 := (w_MO dA a q0 q1 g2 g3 g4 g5 g6 g7 g8 g9 g10 g11 g12 g13 g14 g15 g16 g17 g18 r4.2)) (kb_rV (n := 1) (As := [.int ((v1 + (2 : Int32)) / (3 : Int32))]) (rest := []) hx hb hml hown hK (c_X12_done l D dA H.size a q0 q1 g2 g3 g4 g5 g6 g7 g8 g9 g10 g11 g12 g13 g14 g15 g16 g17 g18 z0 ((v1 + (2 : Int32)) / (3 : Int32)) r4.1 r4.2 hc4) ⟨ww_7_100, ww_7_97, ww_7_99, ws_71, ww_1_12, rfl, by decide, by decide⟩ rfl rfl (by decide +kernel) ⟨Nat.le_of_ble_eq_true rfl, Nat.le_of_ble_eq_true rfl⟩ hP hD hS hA hE [0] rfl (by decide) 0 rfl rfl rfl hl.1 rfl (Nat.le_of_ble_eq_true rfl) dX12_fewest_21 ⟨Nat.le_of_ble_eq_true rfl, Nat.le_of_ble_eq_true rfl⟩) hP hD hS hA [0] [] [0] rfl rfl (by decide) (by decide) rfl (by decide) (fun H locs hP hD hS => ?_)
      refine lv_goto (tgt := 32) hx hb dX12_fewest_24 (by decide) ?_
      exact RET _ _ H _ ls 32 hf hP hD hS dX12_fewest_32
  have E0 : ∀ (H : Heap) (locs : List Loc), va_P D vwCl (w_MO dA a q0 q1 g2 g3 g4 g5 g6 g7 g8 g9 g10 g11 g12 g13 g14 g15 g16 g17 g18 mo) H → va_D A (w_MO dA a q0 q1 g2 g3 g4 g5 g6 g7 g8 g9 g10 g11 g12 g13 g14 g15 g16 g17 g18 mo) → va_S A s.heap H locs → W p l e ({ frames := 1, cells := 0, slots := 0, locals := 22 } : Room) s m ([.ref (a 0), .int x0] : List Value).toArray below meth c H locs 0 0 Q (F0 m 0 ls []) := by
    intro H locs hP hD hS
    rw [f_X12_fewest] at hf
    refine lv_aload_n hx hb dX12_fewest_0 rfl (lv_at hl 0 rfl) ?_
    refine lv_iconst (v := (0 : Int32)) hx hb dX12_fewest_1 (by decide) ?_
    refine va_put (D := D) (ci := 12) (v := .int (0 : Int32)) (ty := .int) (C := RX12) (T := TX12) (N := 35) hx hb hts kb_inX12 tyX12 tyX12_ok nmX12 hown hK.1 hP hD hS 0 rfl rfl 0 (by decide) (hK.2.w ww_5_200 rfl _) (fun _ h9 => h9) rfl (by decide +kernel) rfl rfl (Nat.le_of_ble_eq_true rfl) dX12_fewest_2 (fun H locs hP hD hS => ?_)
    have hP : va_P D vwCl (w_MO dA a q0 q1 g2 g3 g4 g5 g6 g7 g8 g9 g10 g11 g12 g13 g14 g15 g16 g17 g18 (mo_set_thrown mo (0 : Int32))) H := hP
    have hD : va_D A (w_MO dA a q0 q1 g2 g3 g4 g5 g6 g7 g8 g9 g10 g11 g12 g13 g14 g15 g16 g17 g18 (mo_set_thrown mo (0 : Int32))) := hD
    exact B_5 _ _ _ _ _ hf hP hD hS (lv_sub hl [0, 1] rfl)
  exact E0 _ _ hP hD hS

noncomputable def f_X12_layoutOf_b70 (mo : MOT) (bu : BusT) (k5 : Int32 → Int32 → Int32 → Int32 → Option (Int32)) (v1 : Int32) (v2 : Int32) (v3 : Int32) (v4 : Int32) : Option (Int32) := (if v2 = (3 : Int32) then (f_X12_far (v4 >>> ((2 : Int32) &&& 31)) (bu_door bu)).bind fun r6 => k5 v1 v2 (v3 + ((bu_pace bu) * ((1 : Int32) + r6))) (v4 + (1 : Int32)) else k5 v1 v2 v3 (v4 + (1 : Int32)))
noncomputable def f_X12_layoutOf_b67 (mo : MOT) (bu : BusT) (k5 : Int32 → Int32 → Int32 → Int32 → Option (Int32)) (v1 : Int32) (v2 : Int32) (v3 : Int32) (v4 : Int32) : Option (Int32) := f_X12_layoutOf_b70 mo bu k5 v1 v2 (v3 + (1 : Int32)) v4
noncomputable def f_X12_layoutOf_b52 (mo : MOT) (bu : BusT) (k5 : Int32 → Int32 → Int32 → Int32 → Option (Int32)) (v1 : Int32) (v2 : Int32) (v3 : Int32) (v4 : Int32) : Option (Int32) := (if v2 = (2 : Int32) then (f_X12_besideOf v1 v4).bind fun r9 => (if r9 = (-1 : Int32) then f_X12_layoutOf_b67 mo bu k5 v1 v2 v3 v4 else f_X12_layoutOf_b70 mo bu k5 v1 v2 v3 v4) else f_X12_layoutOf_b70 mo bu k5 v1 v2 v3 v4)
noncomputable def f_X12_layoutOf_b5 (mo : MOT) (bu : BusT) : Nat → Int32 → Int32 → Int32 → Int32 → Option (Int32)
  | 0, _, _, _, _ => none
  | n + 1, v1, v2, v3, v4 => (if ((4 : Int32) * (bu_rows bu)) ≤ v4 then some (v3) else (f_X12_isSeatOf v1 (v4 &&& (3 : Int32))).bind fun r2 => (if r2 = 0 then f_X12_layoutOf_b5 mo bu n v1 v2 v3 (v4 + (1 : Int32)) else (if v2 = 0 then f_X12_layoutOf_b67 mo bu (f_X12_layoutOf_b5 mo bu n) v1 v2 v3 v4 else (if v2 = (1 : Int32) then (f_X12_isWindow (v4 &&& (3 : Int32))).bind fun r11 => (if r11 = 0 then f_X12_layoutOf_b52 mo bu (f_X12_layoutOf_b5 mo bu n) v1 v2 v3 v4 else f_X12_layoutOf_b67 mo bu (f_X12_layoutOf_b5 mo bu n) v1 v2 v3 v4) else f_X12_layoutOf_b52 mo bu (f_X12_layoutOf_b5 mo bu n) v1 v2 v3 v4))))
noncomputable def f_X12_layoutOf (mo : MOT) (bu : BusT) (x0 : Int32) (x1 : Int32) : Option (Int32) := f_X12_layoutOf_b5 mo bu 4096 x0 x1 (0 : Int32) (0 : Int32)
set_option maxHeartbeats 4000000 in
set_option maxRecDepth 100000 in
theorem c_X12_layoutOf (l : Launch) (D : va_G) (dA : Nat → ClassId) (sz : Nat) (a : Nat → Nat) (ba : Nat → Nat) (q1 : Option Nat) (g2 : Nat) (g3 : Nat) (g4 : Nat) (g5 : Nat) (g6 : Nat) (g7 : Nat) (g8 : Nat) (g9 : Nat) (g10 : Nat) (g11 : Nat) (g12 : Nat) (g13 : Nat) (g14 : Nat) (g15 : Nat) (g16 : Nat) (g17 : Nat) (g18 : Nat) (mo : MOT) (bu : BusT) (x0 : Int32) (x1 : Int32) (rv : Int32) (hf : f_X12_layoutOf mo bu x0 x1 = some (rv)) : kb_Mi l yX12_layoutOf cX12_layoutOf 5 (some .int) ({ frames := 2, cells := 0, slots := 0, locals := 43 } : Room) D dA [.ref (a 0), .int x0, .int x1] sz (w_MO dA a (some (ba 0)) q1 g2 g3 g4 g5 g6 g7 g8 g9 g10 g11 g12 g13 g14 g15 g16 g17 g18 mo ++ (w_Bus dA ba bu)) 0 0 rv (w_MO dA a (some (ba 0)) q1 g2 g3 g4 g5 g6 g7 g8 g9 g10 g11 g12 g13 g14 g15 g16 g17 g18 mo ++ (w_Bus dA ba bu)) := by
  refine Met.ofW (cc := cX12_layoutOf) (maxL := 5) (ret := (some .int)) (by decide) rfl ?_
  intro p e s m args below meth c s₁ B hml hv
  obtain ⟨rfl, hsz, hP, hK, hD0, hE⟩ := hv
  have hx := B.exec
  have hb := B.bytes
  have hr := B.returns
  have hown : s.vm.findClass RX12 = some m.cls := findClass_of_methodNamed B.named
  have hlocks := B.notSynchronized
  have hts : ∀ w ∈ kb_gw, w.before ([.ref (a 0), .int x0, .int x1] : List Value).toArray s = true := fun w hw => hK.2.1 w hw _
  subst hsz
  have hD := hD0.self (sz := s.heap.size)
  generalize hAe : va_A (w_MO dA a (some (ba 0)) q1 g2 g3 g4 g5 g6 g7 g8 g9 g10 g11 g12 g13 g14 g15 g16 g17 g18 mo ++ (w_Bus dA ba bu)) s.heap.size = A at hD hE ⊢
  have hA : ∀ q : Nat, s.heap.size ≤ q → A q := fun q h => by rw [← hAe]; exact Or.inr h
  have hS : va_S A s.heap s.heap [] := va_S.rf
  have hl := lv_entry ([.ref (a 0), .int x0, .int x1]) (n := 5) (Nat.le_of_ble_eq_true rfl)
  rw [lg_entry_eq]
  generalize (lg_sl ([.ref (a 0), .int x0, .int x1]) ++ List.replicate (5 - (lg_sl ([.ref (a 0), .int x0, .int x1])).length) Slot.unset).toArray = ls at hl ⊢
  have hl : lv_has ls 5 [(0, .ref (a 0)), (1, .int x0), (2, .int x1)] := hl
  generalize hQ : MQ below (va_Qi (fun r (_ : Unit) => r = rv) (kb_B D A (w_MO dA a (some (ba 0)) q1 g2 g3 g4 g5 g6 g7 g8 g9 g10 g11 g12 g13 g14 g15 g16 g17 g18 mo ++ (w_Bus dA ba bu))) A) ([.ref (a 0), .int x0, .int x1] : List Value).toArray s 0 0 A = Q
  show W p l e ({ frames := 2, cells := 0, slots := 0, locals := 43 } : Room) s m ([.ref (a 0), .int x0, .int x1] : List Value).toArray below meth c s.heap [] 0 0 Q (F0 m 0 ls [])
  have RET : ∀ (r2 : Int32) (H : Heap) (locs : List Loc) (ls : Array Slot) (pc : Nat), some (r2) = some (rv) → va_P D vwCl (w_MO dA a (some (ba 0)) q1 g2 g3 g4 g5 g6 g7 g8 g9 g10 g11 g12 g13 g14 g15 g16 g17 g18 mo ++ (w_Bus dA ba bu)) H → va_D A (w_MO dA a (some (ba 0)) q1 g2 g3 g4 g5 g6 g7 g8 g9 g10 g11 g12 g13 g14 g15 g16 g17 g18 mo ++ (w_Bus dA ba bu)) → va_S A s.heap H locs → decode cX12_layoutOf pc = .ok (.ireturn, 1) → W p l e ({ frames := 2, cells := 0, slots := 0, locals := 43 } : Room) s m ([.ref (a 0), .int x0, .int x1] : List Value).toArray below meth c H locs 0 0 Q (F0 m pc ls [.int r2]) := by
    intro r2 H locs ls pc hq hP hD hS hd
    cases hq
    rw [← hQ]
    exact W.iret hx hb hr (fun t ht hW => ⟨⟨_, (), rfl, rfl, by rw [ht]; exact hP, hD⟩, hS.F ht⟩) hS.2.2 hd
  have B_70 : ∀ (k5 : Int32 → Int32 → Int32 → Int32 → Option (Int32)) (hk5 : ∀ (v1 : Int32) (v2 : Int32) (v3 : Int32) (v4 : Int32) (H : Heap) (locs : List Loc) (ls : Array Slot), k5 v1 v2 v3 v4 = some (rv) → va_P D vwCl (w_MO dA a (some (ba 0)) q1 g2 g3 g4 g5 g6 g7 g8 g9 g10 g11 g12 g13 g14 g15 g16 g17 g18 mo ++ (w_Bus dA ba bu)) H → va_D A (w_MO dA a (some (ba 0)) q1 g2 g3 g4 g5 g6 g7 g8 g9 g10 g11 g12 g13 g14 g15 g16 g17 g18 mo ++ (w_Bus dA ba bu)) → va_S A s.heap H locs → lv_has ls 5 [(0, .ref (a 0)), (1, .int v1), (2, .int v2), (3, .int v3), (4, .int v4)] → W p l e ({ frames := 2, cells := 0, slots := 0, locals := 43 } : Room) s m ([.ref (a 0), .int x0, .int x1] : List Value).toArray below meth c H locs 0 0 Q (F0 m 5 ls [])) (v1 : Int32) (v2 : Int32) (v3 : Int32) (v4 : Int32) (H : Heap) (locs : List Loc) (ls : Array Slot), f_X12_layoutOf_b70 mo bu k5 v1 v2 v3 v4 = some (rv) → va_P D vwCl (w_MO dA a (some (ba 0)) q1 g2 g3 g4 g5 g6 g7 g8 g9 g10 g11 g12 g13 g14 g15 g16 g17 g18 mo ++ (w_Bus dA ba bu)) H → va_D A (w_MO dA a (some (ba 0)) q1 g2 g3 g4 g5 g6 g7 g8 g9 g10 g11 g12 g13 g14 g15 g16 g17 g18 mo ++ (w_Bus dA ba bu)) → va_S A s.heap H locs → lv_has ls 5 [(0, .ref (a 0)), (1, .int v1), (2, .int v2), (3, .int v3), (4, .int v4)] → W p l e ({ frames := 2, cells := 0, slots := 0, locals := 43 } : Room) s m ([.ref (a 0), .int x0, .int x1] : List Value).toArray below meth c H locs 0 0 Q (F0 m 70 ls []) := by
    intro k5 hk5 v1 v2 v3 v4 H locs ls hf hP hD hS hl
    rw [f_X12_layoutOf_b70] at hf
    refine lv_iload_n hx hb dX12_layoutOf_70 rfl (lv_at hl 2 rfl) ?_
    refine lv_iconst (v := (3 : Int32)) hx hb dX12_layoutOf_71 (by decide) ?_
    refine lv_icmp_ne (tgt := 102) hx hb dX12_layoutOf_72 (by decide) (fun c_5 => ?_) (fun c_5 => ?_)
    · rw [if_neg c_5] at hf
      refine lv_iinc (v := (v4 + (1 : Int32))) (lv' := [(4, .int (v4 + (1 : Int32))), (0, .ref (a 0)), (1, .int v1), (2, .int v2), (3, .int v3)]) hx hb dX12_layoutOf_102 hl (k := 4) rfl (by rfl) (by decide) rfl (fun ls hl => ?_)
      refine lv_goto (tgt := 5) hx hb dX12_layoutOf_105 (by decide) ?_
      exact hk5 _ _ _ _ _ _ _ hf hP hD hS (lv_sub hl [1, 2, 3, 4, 0] rfl)
    · rw [if_pos c_5] at hf
      refine lv_iload_n hx hb dX12_layoutOf_75 rfl (lv_at hl 3 rfl) ?_
      refine lv_aload_n hx hb dX12_layoutOf_76 rfl (lv_at hl 0 rfl) ?_
      refine va_get (D := D) (ci := 12) (v := .ref (ba 0)) (C := RX12) (T := TX12) (N := 35) hx hb hts kb_inX12 hown hK.1 hP 0 rfl rfl 3 (by decide) (hK.2.w ww_5_203 rfl _) (fun _ h9 => h9) rfl dX12_layoutOf_77 ?_
      refine va_getN (D := D) (ci := 11) (v := .int (bu_pace bu)) (C := RX11) (T := TX11) (N := 26) hx hb hts kb_inX11 hown hK.1 hP 1 rfl rfl 3 (by decide) (hK.2.nb ww_6_92 rfl rfl _) (fun _ h9 => h9) rfl dX12_layoutOf_80 ?_
      refine lv_iconst (v := (1 : Int32)) hx hb dX12_layoutOf_83 (by decide) ?_
      refine lv_iload hx hb dX12_layoutOf_84 (lv_at hl 4 rfl) ?_
      refine lv_iconst (v := (2 : Int32)) hx hb dX12_layoutOf_86 (by decide) ?_
      refine lv_ishr hx hb dX12_layoutOf_87 ?_
      refine lv_aload_n hx hb dX12_layoutOf_88 rfl (lv_at hl 0 rfl) ?_
      refine va_get (D := D) (ci := 12) (v := .ref (ba 0)) (C := RX12) (T := TX12) (N := 35) hx hb hts kb_inX12 hown hK.1 hP 0 rfl rfl 3 (by decide) (hK.2.w ww_5_203 rfl _) (fun _ h9 => h9) rfl dX12_layoutOf_89 ?_
      refine va_getN (D := D) (ci := 11) (v := .int (bu_door bu)) (C := RX11) (T := TX11) (N := 26) hx hb hts kb_inX11 hown hK.1 hP 1 rfl rfl 2 (by decide) (hK.2.nb ww_6_91 rfl rfl _) (fun _ h9 => h9) rfl dX12_layoutOf_92 ?_
      obtain ⟨r6, hc6, hf⟩ := kb_bind hf
      refine kb_ci (ws2 := (w_MO dA a (some (ba 0)) q1 g2 g3 g4 g5 g6 g7 g8 g9 g10 g11 g12 g13 g14 g15 g16 g17 g18 mo ++ (w_Bus dA ba bu))) (kb_rS (n := 2) (As := [.int (v4 >>> ((2 : Int32) &&& 31)), .int (bu_door bu)]) (rest := [.int (1 : Int32), .int (bu_pace bu), .int v3]) hx hb hml hown hK (c_X12_far l D dA H.size (v4 >>> ((2 : Int32) &&& 31)) (bu_door bu) r6 hc6) ⟨ww_7_135, ww_7_133, ww_7_134, ww_1_12, by decide, by decide⟩ rfl rfl (by decide +kernel) ⟨Nat.le_of_ble_eq_true rfl, Nat.le_of_ble_eq_true rfl⟩ hP hD hS hA hE [] rfl (by decide) rfl hl.1 rfl (Nat.le_of_ble_eq_true rfl) dX12_layoutOf_95 ⟨Nat.le_of_ble_eq_true rfl, Nat.le_of_ble_eq_true rfl⟩) hP hD hS hA [] [0, 1, 2, 3, 4, 5, 6, 7, 8, 9, 10, 11, 12, 13, 14, 15, 16] [0, 1, 2, 3, 4, 5, 6, 7, 8, 9, 10, 11, 12, 13, 14, 15, 16] rfl rfl (by decide) (by decide) rfl (by decide) (fun H locs hP hD hS => ?_)
      refine lv_iadd hx hb dX12_layoutOf_98 ?_
      refine lv_imul hx hb dX12_layoutOf_99 ?_
      refine lv_iadd hx hb dX12_layoutOf_100 ?_
      refine lv_istore_n (lv' := [(3, .int (v3 + ((bu_pace bu) * ((1 : Int32) + r6)))), (0, .ref (a 0)), (1, .int v1), (2, .int v2), (4, .int v4)]) hx hb dX12_layoutOf_101 rfl hl (by decide) rfl (fun ls hl => ?_)
      refine lv_iinc (v := (v4 + (1 : Int32))) (lv' := [(4, .int (v4 + (1 : Int32))), (3, .int (v3 + ((bu_pace bu) * ((1 : Int32) + r6)))), (0, .ref (a 0)), (1, .int v1), (2, .int v2)]) hx hb dX12_layoutOf_102 hl (k := 4) rfl (by rfl) (by decide) rfl (fun ls hl => ?_)
      refine lv_goto (tgt := 5) hx hb dX12_layoutOf_105 (by decide) ?_
      exact hk5 _ _ _ _ _ _ _ hf hP hD hS (lv_sub hl [2, 3, 4, 1, 0] rfl)
  have B_67 : ∀ (k5 : Int32 → Int32 → Int32 → Int32 → Option (Int32)) (hk5 : ∀ (v1 : Int32) (v2 : Int32) (v3 : Int32) (v4 : Int32) (H : Heap) (locs : List Loc) (ls : Array Slot), k5 v1 v2 v3 v4 = some (rv) → va_P D vwCl (w_MO dA a (some (ba 0)) q1 g2 g3 g4 g5 g6 g7 g8 g9 g10 g11 g12 g13 g14 g15 g16 g17 g18 mo ++ (w_Bus dA ba bu)) H → va_D A (w_MO dA a (some (ba 0)) q1 g2 g3 g4 g5 g6 g7 g8 g9 g10 g11 g12 g13 g14 g15 g16 g17 g18 mo ++ (w_Bus dA ba bu)) → va_S A s.heap H locs → lv_has ls 5 [(0, .ref (a 0)), (1, .int v1), (2, .int v2), (3, .int v3), (4, .int v4)] → W p l e ({ frames := 2, cells := 0, slots := 0, locals := 43 } : Room) s m ([.ref (a 0), .int x0, .int x1] : List Value).toArray below meth c H locs 0 0 Q (F0 m 5 ls [])) (v1 : Int32) (v2 : Int32) (v3 : Int32) (v4 : Int32) (H : Heap) (locs : List Loc) (ls : Array Slot), f_X12_layoutOf_b67 mo bu k5 v1 v2 v3 v4 = some (rv) → va_P D vwCl (w_MO dA a (some (ba 0)) q1 g2 g3 g4 g5 g6 g7 g8 g9 g10 g11 g12 g13 g14 g15 g16 g17 g18 mo ++ (w_Bus dA ba bu)) H → va_D A (w_MO dA a (some (ba 0)) q1 g2 g3 g4 g5 g6 g7 g8 g9 g10 g11 g12 g13 g14 g15 g16 g17 g18 mo ++ (w_Bus dA ba bu)) → va_S A s.heap H locs → lv_has ls 5 [(0, .ref (a 0)), (1, .int v1), (2, .int v2), (3, .int v3), (4, .int v4)] → W p l e ({ frames := 2, cells := 0, slots := 0, locals := 43 } : Room) s m ([.ref (a 0), .int x0, .int x1] : List Value).toArray below meth c H locs 0 0 Q (F0 m 67 ls []) := by
    intro k5 hk5 v1 v2 v3 v4 H locs ls hf hP hD hS hl
    rw [f_X12_layoutOf_b67] at hf
    refine lv_iinc (v := (v3 + (1 : Int32))) (lv' := [(3, .int (v3 + (1 : Int32))), (0, .ref (a 0)), (1, .int v1), (2, .int v2), (4, .int v4)]) hx hb dX12_layoutOf_67 hl (k := 3) rfl (by rfl) (by decide) rfl (fun ls hl => ?_)
    exact B_70 k5 hk5 _ _ _ _ _ _ _ hf hP hD hS (lv_sub hl [1, 2, 3, 0, 4] rfl)
  have B_52 : ∀ (k5 : Int32 → Int32 → Int32 → Int32 → Option (Int32)) (hk5 : ∀ (v1 : Int32) (v2 : Int32) (v3 : Int32) (v4 : Int32) (H : Heap) (locs : List Loc) (ls : Array Slot), k5 v1 v2 v3 v4 = some (rv) → va_P D vwCl (w_MO dA a (some (ba 0)) q1 g2 g3 g4 g5 g6 g7 g8 g9 g10 g11 g12 g13 g14 g15 g16 g17 g18 mo ++ (w_Bus dA ba bu)) H → va_D A (w_MO dA a (some (ba 0)) q1 g2 g3 g4 g5 g6 g7 g8 g9 g10 g11 g12 g13 g14 g15 g16 g17 g18 mo ++ (w_Bus dA ba bu)) → va_S A s.heap H locs → lv_has ls 5 [(0, .ref (a 0)), (1, .int v1), (2, .int v2), (3, .int v3), (4, .int v4)] → W p l e ({ frames := 2, cells := 0, slots := 0, locals := 43 } : Room) s m ([.ref (a 0), .int x0, .int x1] : List Value).toArray below meth c H locs 0 0 Q (F0 m 5 ls [])) (v1 : Int32) (v2 : Int32) (v3 : Int32) (v4 : Int32) (H : Heap) (locs : List Loc) (ls : Array Slot), f_X12_layoutOf_b52 mo bu k5 v1 v2 v3 v4 = some (rv) → va_P D vwCl (w_MO dA a (some (ba 0)) q1 g2 g3 g4 g5 g6 g7 g8 g9 g10 g11 g12 g13 g14 g15 g16 g17 g18 mo ++ (w_Bus dA ba bu)) H → va_D A (w_MO dA a (some (ba 0)) q1 g2 g3 g4 g5 g6 g7 g8 g9 g10 g11 g12 g13 g14 g15 g16 g17 g18 mo ++ (w_Bus dA ba bu)) → va_S A s.heap H locs → lv_has ls 5 [(0, .ref (a 0)), (1, .int v1), (2, .int v2), (3, .int v3), (4, .int v4)] → W p l e ({ frames := 2, cells := 0, slots := 0, locals := 43 } : Room) s m ([.ref (a 0), .int x0, .int x1] : List Value).toArray below meth c H locs 0 0 Q (F0 m 52 ls []) := by
    intro k5 hk5 v1 v2 v3 v4 H locs ls hf hP hD hS hl
    rw [f_X12_layoutOf_b52] at hf
    refine lv_iload_n hx hb dX12_layoutOf_52 rfl (lv_at hl 2 rfl) ?_
    refine lv_iconst (v := (2 : Int32)) hx hb dX12_layoutOf_53 (by decide) ?_
    refine lv_icmp_ne (tgt := 70) hx hb dX12_layoutOf_54 (by decide) (fun c_8 => ?_) (fun c_8 => ?_)
    · rw [if_neg c_8] at hf
      exact B_70 k5 hk5 _ _ _ _ _ _ _ hf hP hD hS (lv_sub hl [0, 1, 2, 3, 4] rfl)
    · rw [if_pos c_8] at hf
      refine lv_iload_n hx hb dX12_layoutOf_57 rfl (lv_at hl 1 rfl) ?_
      refine lv_iload hx hb dX12_layoutOf_58 (lv_at hl 4 rfl) ?_
      obtain ⟨r9, hc9, hf⟩ := kb_bind hf
      refine kb_ci (ws2 := (w_MO dA a (some (ba 0)) q1 g2 g3 g4 g5 g6 g7 g8 g9 g10 g11 g12 g13 g14 g15 g16 g17 g18 mo ++ (w_Bus dA ba bu))) (kb_rS (n := 2) (As := [.int v1, .int v4]) (rest := []) hx hb hml hown hK (c_X12_besideOf l D dA H.size v1 v4 r9 hc9) ⟨ww_7_142, ww_7_140, ww_7_141, ww_1_12, by decide, by decide⟩ rfl rfl (by decide +kernel) ⟨Nat.le_of_ble_eq_true rfl, Nat.le_of_ble_eq_true rfl⟩ hP hD hS hA hE [] rfl (by decide) rfl hl.1 rfl (Nat.le_of_ble_eq_true rfl) dX12_layoutOf_60 ⟨Nat.le_of_ble_eq_true rfl, Nat.le_of_ble_eq_true rfl⟩) hP hD hS hA [] [0, 1, 2, 3, 4, 5, 6, 7, 8, 9, 10, 11, 12, 13, 14, 15, 16] [0, 1, 2, 3, 4, 5, 6, 7, 8, 9, 10, 11, 12, 13, 14, 15, 16] rfl rfl (by decide) (by decide) rfl (by decide) (fun H locs hP hD hS => ?_)
      refine lv_iconst (v := (-1 : Int32)) hx hb dX12_layoutOf_63 (by decide) ?_
      refine lv_icmp_ne (tgt := 70) hx hb dX12_layoutOf_64 (by decide) (fun c_10 => ?_) (fun c_10 => ?_)
      · rw [if_neg c_10] at hf
        exact B_70 k5 hk5 _ _ _ _ _ _ _ hf hP hD hS (lv_sub hl [0, 1, 2, 3, 4] rfl)
      · rw [if_pos c_10] at hf
        exact B_67 k5 hk5 _ _ _ _ _ _ _ hf hP hD hS (lv_sub hl [0, 1, 2, 3, 4] rfl)
  have B_5 : ∀ (n : Nat) (v1 : Int32) (v2 : Int32) (v3 : Int32) (v4 : Int32) (H : Heap) (locs : List Loc) (ls : Array Slot), f_X12_layoutOf_b5 mo bu n v1 v2 v3 v4 = some (rv) → va_P D vwCl (w_MO dA a (some (ba 0)) q1 g2 g3 g4 g5 g6 g7 g8 g9 g10 g11 g12 g13 g14 g15 g16 g17 g18 mo ++ (w_Bus dA ba bu)) H → va_D A (w_MO dA a (some (ba 0)) q1 g2 g3 g4 g5 g6 g7 g8 g9 g10 g11 g12 g13 g14 g15 g16 g17 g18 mo ++ (w_Bus dA ba bu)) → va_S A s.heap H locs → lv_has ls 5 [(0, .ref (a 0)), (1, .int v1), (2, .int v2), (3, .int v3), (4, .int v4)] → W p l e ({ frames := 2, cells := 0, slots := 0, locals := 43 } : Room) s m ([.ref (a 0), .int x0, .int x1] : List Value).toArray below meth c H locs 0 0 Q (F0 m 5 ls []) := by
    intro n
    induction n with
    | zero =>
      intro v1 v2 v3 v4 H locs ls hf
      exact absurd hf (by simp [f_X12_layoutOf_b5])
    | succ n ih =>
      intro v1 v2 v3 v4 H locs ls hf hP hD hS hl
      rw [f_X12_layoutOf_b5] at hf
      refine lv_iload hx hb dX12_layoutOf_5 (lv_at hl 4 rfl) ?_
      refine lv_iconst (v := (4 : Int32)) hx hb dX12_layoutOf_7 (by decide) ?_
      refine lv_aload_n hx hb dX12_layoutOf_8 rfl (lv_at hl 0 rfl) ?_
      refine va_get (D := D) (ci := 12) (v := .ref (ba 0)) (C := RX12) (T := TX12) (N := 35) hx hb hts kb_inX12 hown hK.1 hP 0 rfl rfl 3 (by decide) (hK.2.w ww_5_203 rfl _) (fun _ h9 => h9) rfl dX12_layoutOf_9 ?_
      refine va_getN (D := D) (ci := 11) (v := .int (bu_rows bu)) (C := RX11) (T := TX11) (N := 26) hx hb hts kb_inX11 hown hK.1 hP 1 rfl rfl 0 (by decide) (hK.2.nb ww_6_89 rfl rfl _) (fun _ h9 => h9) rfl dX12_layoutOf_12 ?_
      refine lv_imul hx hb dX12_layoutOf_15 ?_
      refine lv_icmp_ge (tgt := 108) hx hb dX12_layoutOf_16 (by decide) (fun c_1 => ?_) (fun c_1 => ?_)
      · rw [if_pos c_1] at hf
        refine lv_iload_n hx hb dX12_layoutOf_108 rfl (lv_at hl 3 rfl) ?_
        exact RET _ H _ ls 109 hf hP hD hS dX12_layoutOf_109
      · rw [if_neg c_1] at hf
        refine lv_iload_n hx hb dX12_layoutOf_19 rfl (lv_at hl 1 rfl) ?_
        refine lv_iload hx hb dX12_layoutOf_20 (lv_at hl 4 rfl) ?_
        refine lv_iconst (v := (3 : Int32)) hx hb dX12_layoutOf_22 (by decide) ?_
        refine lv_iand hx hb dX12_layoutOf_23 ?_
        obtain ⟨r2, hc2, hf⟩ := kb_bind hf
        refine kb_ci (ws2 := (w_MO dA a (some (ba 0)) q1 g2 g3 g4 g5 g6 g7 g8 g9 g10 g11 g12 g13 g14 g15 g16 g17 g18 mo ++ (w_Bus dA ba bu))) (kb_rS (n := 2) (As := [.int v1, .int (v4 &&& (3 : Int32))]) (rest := []) hx hb hml hown hK (c_X12_isSeatOf l D dA H.size v1 (v4 &&& (3 : Int32)) r2 hc2) ⟨ww_7_145, ww_7_143, ww_7_144, ww_1_12, by decide, by decide⟩ rfl rfl (by decide +kernel) ⟨Nat.le_of_ble_eq_true rfl, Nat.le_of_ble_eq_true rfl⟩ hP hD hS hA hE [] rfl (by decide) rfl hl.1 rfl (Nat.le_of_ble_eq_true rfl) dX12_layoutOf_24 ⟨Nat.le_of_ble_eq_true rfl, Nat.le_of_ble_eq_true rfl⟩) hP hD hS hA [] [0, 1, 2, 3, 4, 5, 6, 7, 8, 9, 10, 11, 12, 13, 14, 15, 16] [0, 1, 2, 3, 4, 5, 6, 7, 8, 9, 10, 11, 12, 13, 14, 15, 16] rfl rfl (by decide) (by decide) rfl (by decide) (fun H locs hP hD hS => ?_)
        refine lv_if_ne (tgt := 33) hx hb dX12_layoutOf_27 (by decide) (fun c_3 => ?_) (fun c_3 => ?_)
        · rw [if_neg c_3] at hf
          refine lv_iload_n hx hb dX12_layoutOf_33 rfl (lv_at hl 2 rfl) ?_
          refine lv_if_eq (tgt := 67) hx hb dX12_layoutOf_34 (by decide) (fun c_4 => ?_) (fun c_4 => ?_)
          · rw [if_pos c_4] at hf
            exact B_67 (f_X12_layoutOf_b5 mo bu n) ih _ _ _ _ _ _ _ hf hP hD hS (lv_sub hl [0, 1, 2, 3, 4] rfl)
          · rw [if_neg c_4] at hf
            refine lv_iload_n hx hb dX12_layoutOf_37 rfl (lv_at hl 2 rfl) ?_
            refine lv_iconst (v := (1 : Int32)) hx hb dX12_layoutOf_38 (by decide) ?_
            refine lv_icmp_ne (tgt := 52) hx hb dX12_layoutOf_39 (by decide) (fun c_7 => ?_) (fun c_7 => ?_)
            · rw [if_neg c_7] at hf
              exact B_52 (f_X12_layoutOf_b5 mo bu n) ih _ _ _ _ _ _ _ hf hP hD hS (lv_sub hl [0, 1, 2, 3, 4] rfl)
            · rw [if_pos c_7] at hf
              refine lv_iload hx hb dX12_layoutOf_42 (lv_at hl 4 rfl) ?_
              refine lv_iconst (v := (3 : Int32)) hx hb dX12_layoutOf_44 (by decide) ?_
              refine lv_iand hx hb dX12_layoutOf_45 ?_
              obtain ⟨r11, hc11, hf⟩ := kb_bind hf
              refine kb_ci (ws2 := (w_MO dA a (some (ba 0)) q1 g2 g3 g4 g5 g6 g7 g8 g9 g10 g11 g12 g13 g14 g15 g16 g17 g18 mo ++ (w_Bus dA ba bu))) (kb_rS (n := 1) (As := [.int (v4 &&& (3 : Int32))]) (rest := []) hx hb hml hown hK (c_X12_isWindow l D dA H.size (v4 &&& (3 : Int32)) r11 hc11) ⟨ww_7_151, ww_7_149, ww_7_150, ww_1_12, by decide, by decide⟩ rfl rfl (by decide +kernel) ⟨Nat.le_of_ble_eq_true rfl, Nat.le_of_ble_eq_true rfl⟩ hP hD hS hA hE [] rfl (by decide) rfl hl.1 rfl (Nat.le_of_ble_eq_true rfl) dX12_layoutOf_46 ⟨Nat.le_of_ble_eq_true rfl, Nat.le_of_ble_eq_true rfl⟩) hP hD hS hA [] [0, 1, 2, 3, 4, 5, 6, 7, 8, 9, 10, 11, 12, 13, 14, 15, 16] [0, 1, 2, 3, 4, 5, 6, 7, 8, 9, 10, 11, 12, 13, 14, 15, 16] rfl rfl (by decide) (by decide) rfl (by decide) (fun H locs hP hD hS => ?_)
              refine lv_if_ne (tgt := 67) hx hb dX12_layoutOf_49 (by decide) (fun c_12 => ?_) (fun c_12 => ?_)
              · rw [if_neg c_12] at hf
                exact B_67 (f_X12_layoutOf_b5 mo bu n) ih _ _ _ _ _ _ _ hf hP hD hS (lv_sub hl [0, 1, 2, 3, 4] rfl)
              · rw [if_pos c_12] at hf
                exact B_52 (f_X12_layoutOf_b5 mo bu n) ih _ _ _ _ _ _ _ hf hP hD hS (lv_sub hl [0, 1, 2, 3, 4] rfl)
        · rw [if_pos c_3] at hf
          refine lv_goto (tgt := 102) hx hb dX12_layoutOf_30 (by decide) ?_
          refine lv_iinc (v := (v4 + (1 : Int32))) (lv' := [(4, .int (v4 + (1 : Int32))), (0, .ref (a 0)), (1, .int v1), (2, .int v2), (3, .int v3)]) hx hb dX12_layoutOf_102 hl (k := 4) rfl (by rfl) (by decide) rfl (fun ls hl => ?_)
          refine lv_goto (tgt := 5) hx hb dX12_layoutOf_105 (by decide) ?_
          exact ih _ _ _ _ _ _ _ hf hP hD hS (lv_sub hl [1, 2, 3, 4, 0] rfl)
  have E0 : ∀ (H : Heap) (locs : List Loc), va_P D vwCl (w_MO dA a (some (ba 0)) q1 g2 g3 g4 g5 g6 g7 g8 g9 g10 g11 g12 g13 g14 g15 g16 g17 g18 mo ++ (w_Bus dA ba bu)) H → va_D A (w_MO dA a (some (ba 0)) q1 g2 g3 g4 g5 g6 g7 g8 g9 g10 g11 g12 g13 g14 g15 g16 g17 g18 mo ++ (w_Bus dA ba bu)) → va_S A s.heap H locs → W p l e ({ frames := 2, cells := 0, slots := 0, locals := 43 } : Room) s m ([.ref (a 0), .int x0, .int x1] : List Value).toArray below meth c H locs 0 0 Q (F0 m 0 ls []) := by
    intro H locs hP hD hS
    rw [f_X12_layoutOf] at hf
    refine lv_iconst (v := (0 : Int32)) hx hb dX12_layoutOf_0 (by decide) ?_
    refine lv_istore_n (lv' := [(3, .int (0 : Int32)), (0, .ref (a 0)), (1, .int x0), (2, .int x1)]) hx hb dX12_layoutOf_1 rfl hl (by decide) rfl (fun ls hl => ?_)
    refine lv_iconst (v := (0 : Int32)) hx hb dX12_layoutOf_2 (by decide) ?_
    refine lv_istore (lv' := [(4, .int (0 : Int32)), (3, .int (0 : Int32)), (0, .ref (a 0)), (1, .int x0), (2, .int x1)]) hx hb dX12_layoutOf_3 hl (by decide) rfl (fun ls hl => ?_)
    exact B_5 4096 _ _ _ _ _ _ _ hf hP hD hS (lv_sub hl [2, 3, 4, 1, 0] rfl)
  exact E0 _ _ hP hD hS

noncomputable def f_X12_isForm_b20 (mo : MOT)  : Option (Int32) := some ((0 : Int32))
noncomputable def f_X12_isForm (mo : MOT) (x0 : Int32) : Option (Int32) := (f_X12_in x0 (0 : Int32) (2 : Int32)).bind fun r1 => (if r1 = 0 then f_X12_isForm_b20 mo  else some ((1 : Int32)))
set_option maxHeartbeats 4000000 in
set_option maxRecDepth 100000 in
theorem c_X12_isForm (l : Launch) (D : va_G) (dA : Nat → ClassId) (sz : Nat) (a : Nat → Nat) (g0 : Nat) (q1 : Option Nat) (g2 : Nat) (g3 : Nat) (g4 : Nat) (g5 : Nat) (g6 : Nat) (g7 : Nat) (g8 : Nat) (g9 : Nat) (g10 : Nat) (g11 : Nat) (g12 : Nat) (g13 : Nat) (g14 : Nat) (g15 : Nat) (g16 : Nat) (g17 : Nat) (g18 : Nat) (mo : MOT) (x0 : Int32) (rv : Int32) (hf : f_X12_isForm mo x0 = some (rv)) : kb_Mi l yX12_isForm cX12_isForm 2 (some .boolean) ({ frames := 1, cells := 0, slots := 0, locals := 22 } : Room) D dA [.ref (a 0), .int x0] sz (w_MO dA a (some g0) q1 g2 g3 g4 g5 g6 g7 g8 g9 g10 g11 g12 g13 g14 g15 g16 g17 g18 mo) 0 0 rv (w_MO dA a (some g0) q1 g2 g3 g4 g5 g6 g7 g8 g9 g10 g11 g12 g13 g14 g15 g16 g17 g18 mo) := by
  refine Met.ofW (cc := cX12_isForm) (maxL := 2) (ret := (some .boolean)) (by decide) rfl ?_
  intro p e s m args below meth c s₁ B hml hv
  obtain ⟨rfl, hsz, hP, hK, hD0, hE⟩ := hv
  have hx := B.exec
  have hb := B.bytes
  have hr := B.returns
  have hown : s.vm.findClass RX12 = some m.cls := findClass_of_methodNamed B.named
  have hlocks := B.notSynchronized
  have hts : ∀ w ∈ kb_gw, w.before ([.ref (a 0), .int x0] : List Value).toArray s = true := fun w hw => hK.2.1 w hw _
  subst hsz
  have hD := hD0.self (sz := s.heap.size)
  generalize hAe : va_A (w_MO dA a (some g0) q1 g2 g3 g4 g5 g6 g7 g8 g9 g10 g11 g12 g13 g14 g15 g16 g17 g18 mo) s.heap.size = A at hD hE ⊢
  have hA : ∀ q : Nat, s.heap.size ≤ q → A q := fun q h => by rw [← hAe]; exact Or.inr h
  have hS : va_S A s.heap s.heap [] := va_S.rf
  have hl := lv_entry ([.ref (a 0), .int x0]) (n := 2) (Nat.le_of_ble_eq_true rfl)
  rw [lg_entry_eq]
  generalize (lg_sl ([.ref (a 0), .int x0]) ++ List.replicate (2 - (lg_sl ([.ref (a 0), .int x0])).length) Slot.unset).toArray = ls at hl ⊢
  have hl : lv_has ls 2 [(0, .ref (a 0)), (1, .int x0)] := hl
  generalize hQ : MQ below (va_Qi (fun r (_ : Unit) => r = rv) (kb_B D A (w_MO dA a (some g0) q1 g2 g3 g4 g5 g6 g7 g8 g9 g10 g11 g12 g13 g14 g15 g16 g17 g18 mo)) A) ([.ref (a 0), .int x0] : List Value).toArray s 0 0 A = Q
  show W p l e ({ frames := 1, cells := 0, slots := 0, locals := 22 } : Room) s m ([.ref (a 0), .int x0] : List Value).toArray below meth c s.heap [] 0 0 Q (F0 m 0 ls [])
  have RET : ∀ (r2 : Int32) (H : Heap) (locs : List Loc) (ls : Array Slot) (pc : Nat), some (r2) = some (rv) → va_P D vwCl (w_MO dA a (some g0) q1 g2 g3 g4 g5 g6 g7 g8 g9 g10 g11 g12 g13 g14 g15 g16 g17 g18 mo) H → va_D A (w_MO dA a (some g0) q1 g2 g3 g4 g5 g6 g7 g8 g9 g10 g11 g12 g13 g14 g15 g16 g17 g18 mo) → va_S A s.heap H locs → kb_01 r2 → decode cX12_isForm pc = .ok (.ireturn, 1) → W p l e ({ frames := 1, cells := 0, slots := 0, locals := 22 } : Room) s m ([.ref (a 0), .int x0] : List Value).toArray below meth c H locs 0 0 Q (F0 m pc ls [.int r2]) := by
    intro r2 H locs ls pc hq hP hD hS h01 hd
    cases hq
    rw [← hQ]
    exact W.zret (ty := .boolean) hx hb hr (kb_nz h01) (fun t ht hW => ⟨⟨_, (), rfl, rfl, by rw [ht]; exact hP, hD⟩, hS.F ht⟩) hS.2.2 hd
  have B_20 : ∀  (H : Heap) (locs : List Loc) (ls : Array Slot), f_X12_isForm_b20 mo  = some (rv) → va_P D vwCl (w_MO dA a (some g0) q1 g2 g3 g4 g5 g6 g7 g8 g9 g10 g11 g12 g13 g14 g15 g16 g17 g18 mo) H → va_D A (w_MO dA a (some g0) q1 g2 g3 g4 g5 g6 g7 g8 g9 g10 g11 g12 g13 g14 g15 g16 g17 g18 mo) → va_S A s.heap H locs → lv_has ls 2 [] → W p l e ({ frames := 1, cells := 0, slots := 0, locals := 22 } : Room) s m ([.ref (a 0), .int x0] : List Value).toArray below meth c H locs 0 0 Q (F0 m 20 ls []) := by
    intro  H locs ls hf hP hD hS hl
    rw [f_X12_isForm_b20] at hf
    refine lv_iconst (v := (0 : Int32)) hx hb dX12_isForm_20 (by decide) ?_
    exact RET _ H _ ls 21 hf hP hD hS (by decide) dX12_isForm_21
  have E0 : ∀ (H : Heap) (locs : List Loc), va_P D vwCl (w_MO dA a (some g0) q1 g2 g3 g4 g5 g6 g7 g8 g9 g10 g11 g12 g13 g14 g15 g16 g17 g18 mo) H → va_D A (w_MO dA a (some g0) q1 g2 g3 g4 g5 g6 g7 g8 g9 g10 g11 g12 g13 g14 g15 g16 g17 g18 mo) → va_S A s.heap H locs → W p l e ({ frames := 1, cells := 0, slots := 0, locals := 22 } : Room) s m ([.ref (a 0), .int x0] : List Value).toArray below meth c H locs 0 0 Q (F0 m 0 ls []) := by
    intro H locs hP hD hS
    rw [f_X12_isForm] at hf
    refine lv_aload_n hx hb dX12_isForm_0 rfl (lv_at hl 0 rfl) ?_
    refine va_get (D := D) (ci := 12) (v := .ref g0) (C := RX12) (T := TX12) (N := 35) hx hb hts kb_inX12 hown hK.1 hP 0 rfl rfl 3 (by decide) (hK.2.w ww_5_203 rfl _) (fun _ h9 => h9) rfl dX12_isForm_1 ?_
    refine lv_ifnull hx hb dX12_isForm_4 ?_
    refine lv_iload_n hx hb dX12_isForm_7 rfl (lv_at hl 1 rfl) ?_
    refine lv_iconst (v := (0 : Int32)) hx hb dX12_isForm_8 (by decide) ?_
    refine lv_iconst (v := (2 : Int32)) hx hb dX12_isForm_9 (by decide) ?_
    obtain ⟨r1, hc1, hf⟩ := kb_bind hf
    refine kb_ci (ws2 := (w_MO dA a (some g0) q1 g2 g3 g4 g5 g6 g7 g8 g9 g10 g11 g12 g13 g14 g15 g16 g17 g18 mo)) (kb_rS (n := 3) (As := [.int x0, .int (0 : Int32), .int (2 : Int32)]) (rest := []) hx hb hml hown hK (c_X12_in l D dA H.size x0 (0 : Int32) (2 : Int32) r1 hc1) ⟨ww_7_2, ww_7_0, ww_7_1, ww_1_12, by decide, by decide⟩ rfl rfl (by decide +kernel) ⟨Nat.le_of_ble_eq_true rfl, Nat.le_of_ble_eq_true rfl⟩ hP hD hS hA hE [] rfl (by decide) rfl hl.1 rfl (Nat.le_of_ble_eq_true rfl) dX12_isForm_10 ⟨Nat.le_of_ble_eq_true rfl, Nat.le_of_ble_eq_true rfl⟩) hP hD hS hA [] [0] [0] rfl rfl (by decide) (by decide) rfl (by decide) (fun H locs hP hD hS => ?_)
    refine lv_if_eq (tgt := 20) hx hb dX12_isForm_13 (by decide) (fun c_2 => ?_) (fun c_2 => ?_)
    · rw [if_pos c_2] at hf
      exact B_20 _ _ _ hf hP hD hS (lv_sub hl [] rfl)
    · rw [if_neg c_2] at hf
      refine lv_iconst (v := (1 : Int32)) hx hb dX12_isForm_16 (by decide) ?_
      refine lv_goto (tgt := 21) hx hb dX12_isForm_17 (by decide) ?_
      exact RET _ H _ ls 21 hf hP hD hS (by decide) dX12_isForm_21
  exact E0 _ _ hP hD hS

noncomputable def f_X12_layout_b35 (bu : BusT) (z0 : MOT) : Option (Int32 × MOT) := (f_X12_refused z0 (1 : Int32)).bind fun r3 => some (r3.1, r3.2)
noncomputable def f_X12_layout_b5 (bu : BusT) (v1 : Int32) (v2 : Int32) (z0 : MOT) : Option (Int32 × MOT) := (f_X12_isForm z0 v1).bind fun r1 => (if r1 = 0 then f_X12_layout_b35 bu z0 else (f_X12_in v2 (0 : Int32) (3 : Int32)).bind fun r4 => (if r4 = 0 then f_X12_layout_b35 bu z0 else (f_X12_layoutOf z0 bu v1 v2).bind fun r6 => (f_X12_done z0 r6).bind fun r7 => some (r7.1, r7.2)))
noncomputable def f_X12_layout (mo : MOT) (bu : BusT) (x0 : Int32) (x1 : Int32) : Option (Int32 × MOT) := f_X12_layout_b5 bu x0 x1 (mo_set_thrown mo (0 : Int32))
set_option maxHeartbeats 4000000 in
set_option maxRecDepth 100000 in
theorem c_X12_layout (l : Launch) (D : va_G) (dA : Nat → ClassId) (sz : Nat) (a : Nat → Nat) (ba : Nat → Nat) (q1 : Option Nat) (g2 : Nat) (g3 : Nat) (g4 : Nat) (g5 : Nat) (g6 : Nat) (g7 : Nat) (g8 : Nat) (g9 : Nat) (g10 : Nat) (g11 : Nat) (g12 : Nat) (g13 : Nat) (g14 : Nat) (g15 : Nat) (g16 : Nat) (g17 : Nat) (g18 : Nat) (mo : MOT) (bu : BusT) (x0 : Int32) (x1 : Int32) (rv : Int32) (u0 : MOT) (hf : f_X12_layout mo bu x0 x1 = some (rv, u0)) : kb_Mi l yX12_layout cX12_layout 3 (some .int) ({ frames := 3, cells := 0, slots := 0, locals := 67 } : Room) D dA [.ref (a 0), .int x0, .int x1] sz (w_MO dA a (some (ba 0)) q1 g2 g3 g4 g5 g6 g7 g8 g9 g10 g11 g12 g13 g14 g15 g16 g17 g18 mo ++ (w_Bus dA ba bu)) 0 0 rv (w_MO dA a (some (ba 0)) q1 g2 g3 g4 g5 g6 g7 g8 g9 g10 g11 g12 g13 g14 g15 g16 g17 g18 u0 ++ (w_Bus dA ba bu)) := by
  refine Met.ofW (cc := cX12_layout) (maxL := 3) (ret := (some .int)) (by decide) rfl ?_
  intro p e s m args below meth c s₁ B hml hv
  obtain ⟨rfl, hsz, hP, hK, hD0, hE⟩ := hv
  have hx := B.exec
  have hb := B.bytes
  have hr := B.returns
  have hown : s.vm.findClass RX12 = some m.cls := findClass_of_methodNamed B.named
  have hlocks := B.notSynchronized
  have hts : ∀ w ∈ kb_gw, w.before ([.ref (a 0), .int x0, .int x1] : List Value).toArray s = true := fun w hw => hK.2.1 w hw _
  subst hsz
  have hD := hD0.self (sz := s.heap.size)
  generalize hAe : va_A (w_MO dA a (some (ba 0)) q1 g2 g3 g4 g5 g6 g7 g8 g9 g10 g11 g12 g13 g14 g15 g16 g17 g18 mo ++ (w_Bus dA ba bu)) s.heap.size = A at hD hE ⊢
  have hA : ∀ q : Nat, s.heap.size ≤ q → A q := fun q h => by rw [← hAe]; exact Or.inr h
  have hS : va_S A s.heap s.heap [] := va_S.rf
  have hl := lv_entry ([.ref (a 0), .int x0, .int x1]) (n := 3) (Nat.le_of_ble_eq_true rfl)
  rw [lg_entry_eq]
  generalize (lg_sl ([.ref (a 0), .int x0, .int x1]) ++ List.replicate (3 - (lg_sl ([.ref (a 0), .int x0, .int x1])).length) Slot.unset).toArray = ls at hl ⊢
  have hl : lv_has ls 3 [(0, .ref (a 0)), (1, .int x0), (2, .int x1)] := hl
  generalize hQ : MQ below (va_Qi (fun r (_ : Unit) => r = rv) (kb_B D A (w_MO dA a (some (ba 0)) q1 g2 g3 g4 g5 g6 g7 g8 g9 g10 g11 g12 g13 g14 g15 g16 g17 g18 u0 ++ (w_Bus dA ba bu))) A) ([.ref (a 0), .int x0, .int x1] : List Value).toArray s 0 0 A = Q
  show W p l e ({ frames := 3, cells := 0, slots := 0, locals := 67 } : Room) s m ([.ref (a 0), .int x0, .int x1] : List Value).toArray below meth c s.heap [] 0 0 Q (F0 m 0 ls [])
  have RET : ∀ (r2 : Int32) (w0 : MOT) (H : Heap) (locs : List Loc) (ls : Array Slot) (pc : Nat), some (r2, w0) = some (rv, u0) → va_P D vwCl (w_MO dA a (some (ba 0)) q1 g2 g3 g4 g5 g6 g7 g8 g9 g10 g11 g12 g13 g14 g15 g16 g17 g18 w0 ++ (w_Bus dA ba bu)) H → va_D A (w_MO dA a (some (ba 0)) q1 g2 g3 g4 g5 g6 g7 g8 g9 g10 g11 g12 g13 g14 g15 g16 g17 g18 w0 ++ (w_Bus dA ba bu)) → va_S A s.heap H locs → decode cX12_layout pc = .ok (.ireturn, 1) → W p l e ({ frames := 3, cells := 0, slots := 0, locals := 67 } : Room) s m ([.ref (a 0), .int x0, .int x1] : List Value).toArray below meth c H locs 0 0 Q (F0 m pc ls [.int r2]) := by
    intro r2 w0 H locs ls pc hq hP hD hS hd
    cases hq
    rw [← hQ]
    exact W.iret hx hb hr (fun t ht hW => ⟨⟨_, (), rfl, rfl, by rw [ht]; exact hP, hD⟩, hS.F ht⟩) hS.2.2 hd
  have B_35 : ∀ (z0 : MOT) (H : Heap) (locs : List Loc) (ls : Array Slot), f_X12_layout_b35 bu z0 = some (rv, u0) → va_P D vwCl (w_MO dA a (some (ba 0)) q1 g2 g3 g4 g5 g6 g7 g8 g9 g10 g11 g12 g13 g14 g15 g16 g17 g18 z0 ++ (w_Bus dA ba bu)) H → va_D A (w_MO dA a (some (ba 0)) q1 g2 g3 g4 g5 g6 g7 g8 g9 g10 g11 g12 g13 g14 g15 g16 g17 g18 z0 ++ (w_Bus dA ba bu)) → va_S A s.heap H locs → lv_has ls 3 [(0, .ref (a 0))] → W p l e ({ frames := 3, cells := 0, slots := 0, locals := 67 } : Room) s m ([.ref (a 0), .int x0, .int x1] : List Value).toArray below meth c H locs 0 0 Q (F0 m 35 ls []) := by
    intro z0 H locs ls hf hP hD hS hl
    rw [f_X12_layout_b35] at hf
    refine lv_aload_n hx hb dX12_layout_35 rfl (lv_at hl 0 rfl) ?_
    refine lv_iconst (v := (1 : Int32)) hx hb dX12_layout_36 (by decide) ?_
    obtain ⟨r3, hc3, hf⟩ := kb_bind hf
    refine kb_ci (ws2 := (w_MO dA a (some (ba 0)) q1 g2 g3 g4 g5 g6 g7 g8 g9 g10 g11 g12 g13 g14 g15 g16 g17 g18 r3.2 ++ (w_Bus dA ba bu))) (kb_rV (n := 1) (As := [.int (1 : Int32)]) (rest := []) hx hb hml hown hK (c_X12_refused l D dA H.size a (some (ba 0)) q1 g2 g3 g4 g5 g6 g7 g8 g9 g10 g11 g12 g13 g14 g15 g16 g17 g18 z0 (1 : Int32) r3.1 r3.2 hc3) ⟨ww_6_82, ww_6_79, ww_6_81, ws_46, ww_1_12, rfl, by decide, by decide⟩ rfl rfl (by decide +kernel) ⟨Nat.le_of_ble_eq_true rfl, Nat.le_of_ble_eq_true rfl⟩ hP hD hS hA hE [0] rfl (by decide) 0 rfl rfl rfl hl.1 rfl (Nat.le_of_ble_eq_true rfl) dX12_layout_37 ⟨Nat.le_of_ble_eq_true rfl, Nat.le_of_ble_eq_true rfl⟩) hP hD hS hA [0] [1, 2, 3, 4, 5, 6, 7, 8, 9, 10, 11, 12, 13, 14, 15, 16] [16, 0, 1, 2, 3, 4, 5, 6, 7, 8, 9, 10, 11, 12, 13, 14, 15] rfl rfl (by decide) (by decide) rfl (by decide) (fun H locs hP hD hS => ?_)
    exact RET _ _ H _ ls 40 hf hP hD hS dX12_layout_40
  have B_5 : ∀ (v1 : Int32) (v2 : Int32) (z0 : MOT) (H : Heap) (locs : List Loc) (ls : Array Slot), f_X12_layout_b5 bu v1 v2 z0 = some (rv, u0) → va_P D vwCl (w_MO dA a (some (ba 0)) q1 g2 g3 g4 g5 g6 g7 g8 g9 g10 g11 g12 g13 g14 g15 g16 g17 g18 z0 ++ (w_Bus dA ba bu)) H → va_D A (w_MO dA a (some (ba 0)) q1 g2 g3 g4 g5 g6 g7 g8 g9 g10 g11 g12 g13 g14 g15 g16 g17 g18 z0 ++ (w_Bus dA ba bu)) → va_S A s.heap H locs → lv_has ls 3 [(0, .ref (a 0)), (1, .int v1), (2, .int v2)] → W p l e ({ frames := 3, cells := 0, slots := 0, locals := 67 } : Room) s m ([.ref (a 0), .int x0, .int x1] : List Value).toArray below meth c H locs 0 0 Q (F0 m 5 ls []) := by
    intro v1 v2 z0 H locs ls hf hP hD hS hl
    rw [f_X12_layout_b5] at hf
    refine lv_aload_n hx hb dX12_layout_5 rfl (lv_at hl 0 rfl) ?_
    refine lv_iload_n hx hb dX12_layout_6 rfl (lv_at hl 1 rfl) ?_
    obtain ⟨r1, hc1, hf⟩ := kb_bind hf
    refine kb_ci (ws2 := (w_MO dA a (some (ba 0)) q1 g2 g3 g4 g5 g6 g7 g8 g9 g10 g11 g12 g13 g14 g15 g16 g17 g18 z0 ++ (w_Bus dA ba bu))) (kb_rV (n := 1) (As := [.int v1]) (rest := []) hx hb hml hown hK (c_X12_isForm l D dA H.size a (ba 0) q1 g2 g3 g4 g5 g6 g7 g8 g9 g10 g11 g12 g13 g14 g15 g16 g17 g18 z0 v1 r1 hc1) ⟨ww_8_198, ww_8_195, ww_8_197, ws_117, ww_1_12, rfl, by decide, by decide⟩ rfl rfl (by decide +kernel) ⟨Nat.le_of_ble_eq_true rfl, Nat.le_of_ble_eq_true rfl⟩ hP hD hS hA hE [0] rfl (by decide) 0 rfl rfl rfl hl.1 rfl (Nat.le_of_ble_eq_true rfl) dX12_layout_7 ⟨Nat.le_of_ble_eq_true rfl, Nat.le_of_ble_eq_true rfl⟩) hP hD hS hA [0] [1, 2, 3, 4, 5, 6, 7, 8, 9, 10, 11, 12, 13, 14, 15, 16] [16, 0, 1, 2, 3, 4, 5, 6, 7, 8, 9, 10, 11, 12, 13, 14, 15] rfl rfl (by decide) (by decide) rfl (by decide) (fun H locs hP hD hS => ?_)
    refine lv_if_eq (tgt := 35) hx hb dX12_layout_10 (by decide) (fun c_2 => ?_) (fun c_2 => ?_)
    · rw [if_pos c_2] at hf
      exact B_35 _ _ _ _ hf hP hD hS (lv_sub hl [0] rfl)
    · rw [if_neg c_2] at hf
      refine lv_iload_n hx hb dX12_layout_13 rfl (lv_at hl 2 rfl) ?_
      refine lv_iconst (v := (0 : Int32)) hx hb dX12_layout_14 (by decide) ?_
      refine lv_iconst (v := (3 : Int32)) hx hb dX12_layout_15 (by decide) ?_
      obtain ⟨r4, hc4, hf⟩ := kb_bind hf
      refine kb_ci (ws2 := (w_MO dA a (some (ba 0)) q1 g2 g3 g4 g5 g6 g7 g8 g9 g10 g11 g12 g13 g14 g15 g16 g17 g18 z0 ++ (w_Bus dA ba bu))) (kb_rS (n := 3) (As := [.int v2, .int (0 : Int32), .int (3 : Int32)]) (rest := []) hx hb hml hown hK (c_X12_in l D dA H.size v2 (0 : Int32) (3 : Int32) r4 hc4) ⟨ww_7_2, ww_7_0, ww_7_1, ww_1_12, by decide, by decide⟩ rfl rfl (by decide +kernel) ⟨Nat.le_of_ble_eq_true rfl, Nat.le_of_ble_eq_true rfl⟩ hP hD hS hA hE [] rfl (by decide) rfl hl.1 rfl (Nat.le_of_ble_eq_true rfl) dX12_layout_16 ⟨Nat.le_of_ble_eq_true rfl, Nat.le_of_ble_eq_true rfl⟩) hP hD hS hA [] [0, 1, 2, 3, 4, 5, 6, 7, 8, 9, 10, 11, 12, 13, 14, 15, 16] [0, 1, 2, 3, 4, 5, 6, 7, 8, 9, 10, 11, 12, 13, 14, 15, 16] rfl rfl (by decide) (by decide) rfl (by decide) (fun H locs hP hD hS => ?_)
      refine lv_if_eq (tgt := 35) hx hb dX12_layout_19 (by decide) (fun c_5 => ?_) (fun c_5 => ?_)
      · rw [if_pos c_5] at hf
        exact B_35 _ _ _ _ hf hP hD hS (lv_sub hl [0] rfl)
      · rw [if_neg c_5] at hf
        refine lv_aload_n hx hb dX12_layout_22 rfl (lv_at hl 0 rfl) ?_
        refine lv_aload_n hx hb dX12_layout_23 rfl (lv_at hl 0 rfl) ?_
        refine lv_iload_n hx hb dX12_layout_24 rfl (lv_at hl 1 rfl) ?_
        refine lv_iload_n hx hb dX12_layout_25 rfl (lv_at hl 2 rfl) ?_
        obtain ⟨r6, hc6, hf⟩ := kb_bind hf
        refine kb_ci (ws2 := (w_MO dA a (some (ba 0)) q1 g2 g3 g4 g5 g6 g7 g8 g9 g10 g11 g12 g13 g14 g15 g16 g17 g18 z0 ++ (w_Bus dA ba bu))) (kb_rV (n := 2) (As := [.int v1, .int v2]) (rest := [.ref (a 0)]) hx hb hml hown hK (c_X12_layoutOf l D dA H.size a ba q1 g2 g3 g4 g5 g6 g7 g8 g9 g10 g11 g12 g13 g14 g15 g16 g17 g18 z0 bu v1 v2 r6 hc6) ⟨ww_8_202, ww_8_199, ww_8_201, ws_118, ww_1_12, rfl, by decide, by decide⟩ rfl rfl (by decide +kernel) ⟨Nat.le_of_ble_eq_true rfl, Nat.le_of_ble_eq_true rfl⟩ hP hD hS hA hE [0, 1, 2, 3, 4, 5, 6, 7, 8, 9, 10, 11, 12, 13, 14, 15, 16] rfl (by decide) 0 rfl rfl rfl hl.1 rfl (Nat.le_of_ble_eq_true rfl) dX12_layout_26 ⟨Nat.le_of_ble_eq_true rfl, Nat.le_of_ble_eq_true rfl⟩) hP hD hS hA [0, 1, 2, 3, 4, 5, 6, 7, 8, 9, 10, 11, 12, 13, 14, 15, 16] [] [0, 1, 2, 3, 4, 5, 6, 7, 8, 9, 10, 11, 12, 13, 14, 15, 16] rfl rfl (by decide) (by decide) rfl (by decide) (fun H locs hP hD hS => ?_)
        obtain ⟨r7, hc7, hf⟩ := kb_bind hf
        refine kb_ci (ws2 := (w_MO dA a (some (ba 0)) q1 g2 g3 g4 g5 g6 g7 g8 g9 g10 g11 g12 g13 g14 g15 g16 g17 g18 r7.2 ++ (w_Bus dA ba bu))) (kb_rV (n := 1) (As := [.int r6]) (rest := []) hx hb hml hown hK (c_X12_done l D dA H.size a (some (ba 0)) q1 g2 g3 g4 g5 g6 g7 g8 g9 g10 g11 g12 g13 g14 g15 g16 g17 g18 z0 r6 r7.1 r7.2 hc7) ⟨ww_7_100, ww_7_97, ww_7_99, ws_71, ww_1_12, rfl, by decide, by decide⟩ rfl rfl (by decide +kernel) ⟨Nat.le_of_ble_eq_true rfl, Nat.le_of_ble_eq_true rfl⟩ hP hD hS hA hE [0] rfl (by decide) 0 rfl rfl rfl hl.1 rfl (Nat.le_of_ble_eq_true rfl) dX12_layout_29 ⟨Nat.le_of_ble_eq_true rfl, Nat.le_of_ble_eq_true rfl⟩) hP hD hS hA [0] [1, 2, 3, 4, 5, 6, 7, 8, 9, 10, 11, 12, 13, 14, 15, 16] [16, 0, 1, 2, 3, 4, 5, 6, 7, 8, 9, 10, 11, 12, 13, 14, 15] rfl rfl (by decide) (by decide) rfl (by decide) (fun H locs hP hD hS => ?_)
        refine lv_goto (tgt := 40) hx hb dX12_layout_32 (by decide) ?_
        exact RET _ _ H _ ls 40 hf hP hD hS dX12_layout_40
  have E0 : ∀ (H : Heap) (locs : List Loc), va_P D vwCl (w_MO dA a (some (ba 0)) q1 g2 g3 g4 g5 g6 g7 g8 g9 g10 g11 g12 g13 g14 g15 g16 g17 g18 mo ++ (w_Bus dA ba bu)) H → va_D A (w_MO dA a (some (ba 0)) q1 g2 g3 g4 g5 g6 g7 g8 g9 g10 g11 g12 g13 g14 g15 g16 g17 g18 mo ++ (w_Bus dA ba bu)) → va_S A s.heap H locs → W p l e ({ frames := 3, cells := 0, slots := 0, locals := 67 } : Room) s m ([.ref (a 0), .int x0, .int x1] : List Value).toArray below meth c H locs 0 0 Q (F0 m 0 ls []) := by
    intro H locs hP hD hS
    rw [f_X12_layout] at hf
    refine lv_aload_n hx hb dX12_layout_0 rfl (lv_at hl 0 rfl) ?_
    refine lv_iconst (v := (0 : Int32)) hx hb dX12_layout_1 (by decide) ?_
    refine va_put (D := D) (ci := 12) (v := .int (0 : Int32)) (ty := .int) (C := RX12) (T := TX12) (N := 35) hx hb hts kb_inX12 tyX12 tyX12_ok nmX12 hown hK.1 hP hD hS 0 rfl rfl 0 (by decide) (hK.2.w ww_5_200 rfl _) (fun _ h9 => h9) rfl (by decide +kernel) rfl rfl (Nat.le_of_ble_eq_true rfl) dX12_layout_2 (fun H locs hP hD hS => ?_)
    have hP : va_P D vwCl (w_MO dA a (some (ba 0)) q1 g2 g3 g4 g5 g6 g7 g8 g9 g10 g11 g12 g13 g14 g15 g16 g17 g18 (mo_set_thrown mo (0 : Int32)) ++ (w_Bus dA ba bu)) H := hP
    have hD : va_D A (w_MO dA a (some (ba 0)) q1 g2 g3 g4 g5 g6 g7 g8 g9 g10 g11 g12 g13 g14 g15 g16 g17 g18 (mo_set_thrown mo (0 : Int32)) ++ (w_Bus dA ba bu)) := hD
    exact B_5 _ _ _ _ _ _ hf hP hD hS (lv_sub hl [0, 1, 2] rfl)
  exact E0 _ _ hP hD hS

noncomputable def f_X12_doesBeat_b55 (mo : MOT) (bu : BusT) (k5 : Int32 → Int32 → Int32 → Int32 → Option (Int32)) (v1 : Int32) (v2 : Int32) (v4 : Int32) : Option (Int32) := k5 v1 v2 (1 : Int32) (v4 + (1 : Int32))
noncomputable def f_X12_doesBeat_b39 (mo : MOT) (bu : BusT) (k5 : Int32 → Int32 → Int32 → Int32 → Option (Int32)) (v1 : Int32) (v2 : Int32) (v3 : Int32) (v4 : Int32) (v5 : Int32) : Option (Int32) := (if 0 ≤ v5 then (if v3 = 0 then (if v5 ≤ 0 then k5 v1 v2 (0 : Int32) (v4 + (1 : Int32)) else f_X12_doesBeat_b55 mo bu k5 v1 v2 v4) else f_X12_doesBeat_b55 mo bu k5 v1 v2 v4) else some ((0 : Int32)))
noncomputable def f_X12_doesBeat_b5 (mo : MOT) (bu : BusT) : Nat → Int32 → Int32 → Int32 → Int32 → Option (Int32)
  | 0, _, _, _, _ => none
  | n + 1, v1, v2, v3, v4 => (if (4 : Int32) ≤ v4 then if kb_01 v3 then some (v3) else none else (f_X12_layoutOf mo bu v1 v4).bind fun r3 => (f_X12_layoutOf mo bu v2 v4).bind fun r4 => (if v4 = (3 : Int32) then f_X12_doesBeat_b39 mo bu (f_X12_doesBeat_b5 mo bu n) v1 v2 v3 v4 (-(r3 - r4)) else f_X12_doesBeat_b39 mo bu (f_X12_doesBeat_b5 mo bu n) v1 v2 v3 v4 (r3 - r4)))
noncomputable def f_X12_doesBeat (mo : MOT) (bu : BusT) (x0 : Int32) (x1 : Int32) : Option (Int32) := f_X12_doesBeat_b5 mo bu 4096 x0 x1 (0 : Int32) (0 : Int32)
set_option maxHeartbeats 4000000 in
set_option maxRecDepth 100000 in
theorem c_X12_doesBeat (l : Launch) (D : va_G) (dA : Nat → ClassId) (sz : Nat) (a : Nat → Nat) (ba : Nat → Nat) (q1 : Option Nat) (g2 : Nat) (g3 : Nat) (g4 : Nat) (g5 : Nat) (g6 : Nat) (g7 : Nat) (g8 : Nat) (g9 : Nat) (g10 : Nat) (g11 : Nat) (g12 : Nat) (g13 : Nat) (g14 : Nat) (g15 : Nat) (g16 : Nat) (g17 : Nat) (g18 : Nat) (mo : MOT) (bu : BusT) (x0 : Int32) (x1 : Int32) (rv : Int32) (hf : f_X12_doesBeat mo bu x0 x1 = some (rv)) : kb_Mi l yX12_doesBeat cX12_doesBeat 6 (some .boolean) ({ frames := 3, cells := 0, slots := 0, locals := 67 } : Room) D dA [.ref (a 0), .int x0, .int x1] sz (w_MO dA a (some (ba 0)) q1 g2 g3 g4 g5 g6 g7 g8 g9 g10 g11 g12 g13 g14 g15 g16 g17 g18 mo ++ (w_Bus dA ba bu)) 0 0 rv (w_MO dA a (some (ba 0)) q1 g2 g3 g4 g5 g6 g7 g8 g9 g10 g11 g12 g13 g14 g15 g16 g17 g18 mo ++ (w_Bus dA ba bu)) := by
  refine Met.ofW (cc := cX12_doesBeat) (maxL := 6) (ret := (some .boolean)) (by decide) rfl ?_
  intro p e s m args below meth c s₁ B hml hv
  obtain ⟨rfl, hsz, hP, hK, hD0, hE⟩ := hv
  have hx := B.exec
  have hb := B.bytes
  have hr := B.returns
  have hown : s.vm.findClass RX12 = some m.cls := findClass_of_methodNamed B.named
  have hlocks := B.notSynchronized
  have hts : ∀ w ∈ kb_gw, w.before ([.ref (a 0), .int x0, .int x1] : List Value).toArray s = true := fun w hw => hK.2.1 w hw _
  subst hsz
  have hD := hD0.self (sz := s.heap.size)
  generalize hAe : va_A (w_MO dA a (some (ba 0)) q1 g2 g3 g4 g5 g6 g7 g8 g9 g10 g11 g12 g13 g14 g15 g16 g17 g18 mo ++ (w_Bus dA ba bu)) s.heap.size = A at hD hE ⊢
  have hA : ∀ q : Nat, s.heap.size ≤ q → A q := fun q h => by rw [← hAe]; exact Or.inr h
  have hS : va_S A s.heap s.heap [] := va_S.rf
  have hl := lv_entry ([.ref (a 0), .int x0, .int x1]) (n := 6) (Nat.le_of_ble_eq_true rfl)
  rw [lg_entry_eq]
  generalize (lg_sl ([.ref (a 0), .int x0, .int x1]) ++ List.replicate (6 - (lg_sl ([.ref (a 0), .int x0, .int x1])).length) Slot.unset).toArray = ls at hl ⊢
  have hl : lv_has ls 6 [(0, .ref (a 0)), (1, .int x0), (2, .int x1)] := hl
  generalize hQ : MQ below (va_Qi (fun r (_ : Unit) => r = rv) (kb_B D A (w_MO dA a (some (ba 0)) q1 g2 g3 g4 g5 g6 g7 g8 g9 g10 g11 g12 g13 g14 g15 g16 g17 g18 mo ++ (w_Bus dA ba bu))) A) ([.ref (a 0), .int x0, .int x1] : List Value).toArray s 0 0 A = Q
  show W p l e ({ frames := 3, cells := 0, slots := 0, locals := 67 } : Room) s m ([.ref (a 0), .int x0, .int x1] : List Value).toArray below meth c s.heap [] 0 0 Q (F0 m 0 ls [])
  have RET : ∀ (r2 : Int32) (H : Heap) (locs : List Loc) (ls : Array Slot) (pc : Nat), some (r2) = some (rv) → va_P D vwCl (w_MO dA a (some (ba 0)) q1 g2 g3 g4 g5 g6 g7 g8 g9 g10 g11 g12 g13 g14 g15 g16 g17 g18 mo ++ (w_Bus dA ba bu)) H → va_D A (w_MO dA a (some (ba 0)) q1 g2 g3 g4 g5 g6 g7 g8 g9 g10 g11 g12 g13 g14 g15 g16 g17 g18 mo ++ (w_Bus dA ba bu)) → va_S A s.heap H locs → kb_01 r2 → decode cX12_doesBeat pc = .ok (.ireturn, 1) → W p l e ({ frames := 3, cells := 0, slots := 0, locals := 67 } : Room) s m ([.ref (a 0), .int x0, .int x1] : List Value).toArray below meth c H locs 0 0 Q (F0 m pc ls [.int r2]) := by
    intro r2 H locs ls pc hq hP hD hS h01 hd
    cases hq
    rw [← hQ]
    exact W.zret (ty := .boolean) hx hb hr (kb_nz h01) (fun t ht hW => ⟨⟨_, (), rfl, rfl, by rw [ht]; exact hP, hD⟩, hS.F ht⟩) hS.2.2 hd
  have B_55 : ∀ (k5 : Int32 → Int32 → Int32 → Int32 → Option (Int32)) (hk5 : ∀ (v1 : Int32) (v2 : Int32) (v3 : Int32) (v4 : Int32) (H : Heap) (locs : List Loc) (ls : Array Slot), k5 v1 v2 v3 v4 = some (rv) → va_P D vwCl (w_MO dA a (some (ba 0)) q1 g2 g3 g4 g5 g6 g7 g8 g9 g10 g11 g12 g13 g14 g15 g16 g17 g18 mo ++ (w_Bus dA ba bu)) H → va_D A (w_MO dA a (some (ba 0)) q1 g2 g3 g4 g5 g6 g7 g8 g9 g10 g11 g12 g13 g14 g15 g16 g17 g18 mo ++ (w_Bus dA ba bu)) → va_S A s.heap H locs → lv_has ls 6 [(0, .ref (a 0)), (1, .int v1), (2, .int v2), (3, .int v3), (4, .int v4)] → W p l e ({ frames := 3, cells := 0, slots := 0, locals := 67 } : Room) s m ([.ref (a 0), .int x0, .int x1] : List Value).toArray below meth c H locs 0 0 Q (F0 m 5 ls [])) (v1 : Int32) (v2 : Int32) (v4 : Int32) (H : Heap) (locs : List Loc) (ls : Array Slot), f_X12_doesBeat_b55 mo bu k5 v1 v2 v4 = some (rv) → va_P D vwCl (w_MO dA a (some (ba 0)) q1 g2 g3 g4 g5 g6 g7 g8 g9 g10 g11 g12 g13 g14 g15 g16 g17 g18 mo ++ (w_Bus dA ba bu)) H → va_D A (w_MO dA a (some (ba 0)) q1 g2 g3 g4 g5 g6 g7 g8 g9 g10 g11 g12 g13 g14 g15 g16 g17 g18 mo ++ (w_Bus dA ba bu)) → va_S A s.heap H locs → lv_has ls 6 [(0, .ref (a 0)), (1, .int v1), (2, .int v2), (4, .int v4)] → W p l e ({ frames := 3, cells := 0, slots := 0, locals := 67 } : Room) s m ([.ref (a 0), .int x0, .int x1] : List Value).toArray below meth c H locs 0 0 Q (F0 m 55 ls []) := by
    intro k5 hk5 v1 v2 v4 H locs ls hf hP hD hS hl
    rw [f_X12_doesBeat_b55] at hf
    refine lv_iconst (v := (1 : Int32)) hx hb dX12_doesBeat_55 (by decide) ?_
    refine lv_goto (tgt := 60) hx hb dX12_doesBeat_56 (by decide) ?_
    refine lv_istore_n (lv' := [(3, .int (1 : Int32)), (0, .ref (a 0)), (1, .int v1), (2, .int v2), (4, .int v4)]) hx hb dX12_doesBeat_60 rfl hl (by decide) rfl (fun ls hl => ?_)
    refine lv_iinc (v := (v4 + (1 : Int32))) (lv' := [(4, .int (v4 + (1 : Int32))), (3, .int (1 : Int32)), (0, .ref (a 0)), (1, .int v1), (2, .int v2)]) hx hb dX12_doesBeat_61 hl (k := 4) rfl (by rfl) (by decide) rfl (fun ls hl => ?_)
    refine lv_goto (tgt := 5) hx hb dX12_doesBeat_64 (by decide) ?_
    exact hk5 _ _ _ _ _ _ _ hf hP hD hS (lv_sub hl [2, 3, 4, 1, 0] rfl)
  have B_39 : ∀ (k5 : Int32 → Int32 → Int32 → Int32 → Option (Int32)) (hk5 : ∀ (v1 : Int32) (v2 : Int32) (v3 : Int32) (v4 : Int32) (H : Heap) (locs : List Loc) (ls : Array Slot), k5 v1 v2 v3 v4 = some (rv) → va_P D vwCl (w_MO dA a (some (ba 0)) q1 g2 g3 g4 g5 g6 g7 g8 g9 g10 g11 g12 g13 g14 g15 g16 g17 g18 mo ++ (w_Bus dA ba bu)) H → va_D A (w_MO dA a (some (ba 0)) q1 g2 g3 g4 g5 g6 g7 g8 g9 g10 g11 g12 g13 g14 g15 g16 g17 g18 mo ++ (w_Bus dA ba bu)) → va_S A s.heap H locs → lv_has ls 6 [(0, .ref (a 0)), (1, .int v1), (2, .int v2), (3, .int v3), (4, .int v4)] → W p l e ({ frames := 3, cells := 0, slots := 0, locals := 67 } : Room) s m ([.ref (a 0), .int x0, .int x1] : List Value).toArray below meth c H locs 0 0 Q (F0 m 5 ls [])) (v1 : Int32) (v2 : Int32) (v3 : Int32) (v4 : Int32) (v5 : Int32) (H : Heap) (locs : List Loc) (ls : Array Slot), f_X12_doesBeat_b39 mo bu k5 v1 v2 v3 v4 v5 = some (rv) → va_P D vwCl (w_MO dA a (some (ba 0)) q1 g2 g3 g4 g5 g6 g7 g8 g9 g10 g11 g12 g13 g14 g15 g16 g17 g18 mo ++ (w_Bus dA ba bu)) H → va_D A (w_MO dA a (some (ba 0)) q1 g2 g3 g4 g5 g6 g7 g8 g9 g10 g11 g12 g13 g14 g15 g16 g17 g18 mo ++ (w_Bus dA ba bu)) → va_S A s.heap H locs → lv_has ls 6 [(0, .ref (a 0)), (1, .int v1), (2, .int v2), (3, .int v3), (4, .int v4), (5, .int v5)] → W p l e ({ frames := 3, cells := 0, slots := 0, locals := 67 } : Room) s m ([.ref (a 0), .int x0, .int x1] : List Value).toArray below meth c H locs 0 0 Q (F0 m 39 ls []) := by
    intro k5 hk5 v1 v2 v3 v4 v5 H locs ls hf hP hD hS hl
    rw [f_X12_doesBeat_b39] at hf
    refine lv_iload hx hb dX12_doesBeat_39 (lv_at hl 5 rfl) ?_
    refine lv_if_ge (tgt := 46) hx hb dX12_doesBeat_41 (by decide) (fun c_6 => ?_) (fun c_6 => ?_)
    · rw [if_pos c_6] at hf
      refine lv_iload_n hx hb dX12_doesBeat_46 rfl (lv_at hl 3 rfl) ?_
      refine lv_if_ne (tgt := 55) hx hb dX12_doesBeat_47 (by decide) (fun c_7 => ?_) (fun c_7 => ?_)
      · rw [if_neg c_7] at hf
        exact B_55 k5 hk5 _ _ _ _ _ _ hf hP hD hS (lv_sub hl [0, 1, 2, 4] rfl)
      · rw [if_pos c_7] at hf
        refine lv_iload hx hb dX12_doesBeat_50 (lv_at hl 5 rfl) ?_
        refine lv_if_le (tgt := 59) hx hb dX12_doesBeat_52 (by decide) (fun c_8 => ?_) (fun c_8 => ?_)
        · rw [if_pos c_8] at hf
          refine lv_iconst (v := (0 : Int32)) hx hb dX12_doesBeat_59 (by decide) ?_
          refine lv_istore_n (lv' := [(3, .int (0 : Int32)), (0, .ref (a 0)), (1, .int v1), (2, .int v2), (4, .int v4), (5, .int v5)]) hx hb dX12_doesBeat_60 rfl hl (by decide) rfl (fun ls hl => ?_)
          refine lv_iinc (v := (v4 + (1 : Int32))) (lv' := [(4, .int (v4 + (1 : Int32))), (3, .int (0 : Int32)), (0, .ref (a 0)), (1, .int v1), (2, .int v2), (5, .int v5)]) hx hb dX12_doesBeat_61 hl (k := 4) rfl (by rfl) (by decide) rfl (fun ls hl => ?_)
          refine lv_goto (tgt := 5) hx hb dX12_doesBeat_64 (by decide) ?_
          exact hk5 _ _ _ _ _ _ _ hf hP hD hS (lv_sub hl [2, 3, 4, 1, 0] rfl)
        · rw [if_neg c_8] at hf
          exact B_55 k5 hk5 _ _ _ _ _ _ hf hP hD hS (lv_sub hl [0, 1, 2, 4] rfl)
    · rw [if_neg c_6] at hf
      refine lv_iconst (v := (0 : Int32)) hx hb dX12_doesBeat_44 (by decide) ?_
      exact RET _ H _ ls 45 hf hP hD hS (by decide) dX12_doesBeat_45
  have B_5 : ∀ (n : Nat) (v1 : Int32) (v2 : Int32) (v3 : Int32) (v4 : Int32) (H : Heap) (locs : List Loc) (ls : Array Slot), f_X12_doesBeat_b5 mo bu n v1 v2 v3 v4 = some (rv) → va_P D vwCl (w_MO dA a (some (ba 0)) q1 g2 g3 g4 g5 g6 g7 g8 g9 g10 g11 g12 g13 g14 g15 g16 g17 g18 mo ++ (w_Bus dA ba bu)) H → va_D A (w_MO dA a (some (ba 0)) q1 g2 g3 g4 g5 g6 g7 g8 g9 g10 g11 g12 g13 g14 g15 g16 g17 g18 mo ++ (w_Bus dA ba bu)) → va_S A s.heap H locs → lv_has ls 6 [(0, .ref (a 0)), (1, .int v1), (2, .int v2), (3, .int v3), (4, .int v4)] → W p l e ({ frames := 3, cells := 0, slots := 0, locals := 67 } : Room) s m ([.ref (a 0), .int x0, .int x1] : List Value).toArray below meth c H locs 0 0 Q (F0 m 5 ls []) := by
    intro n
    induction n with
    | zero =>
      intro v1 v2 v3 v4 H locs ls hf
      exact absurd hf (by simp [f_X12_doesBeat_b5])
    | succ n ih =>
      intro v1 v2 v3 v4 H locs ls hf hP hD hS hl
      rw [f_X12_doesBeat_b5] at hf
      refine lv_iload hx hb dX12_doesBeat_5 (lv_at hl 4 rfl) ?_
      refine lv_iconst (v := (4 : Int32)) hx hb dX12_doesBeat_7 (by decide) ?_
      refine lv_icmp_ge (tgt := 67) hx hb dX12_doesBeat_8 (by decide) (fun c_1 => ?_) (fun c_1 => ?_)
      · rw [if_pos c_1] at hf
        refine lv_iload_n hx hb dX12_doesBeat_67 rfl (lv_at hl 3 rfl) ?_
        obtain ⟨h_2, hf⟩ := kb_if hf
        exact RET _ H _ ls 68 hf hP hD hS h_2 dX12_doesBeat_68
      · rw [if_neg c_1] at hf
        refine lv_aload_n hx hb dX12_doesBeat_11 rfl (lv_at hl 0 rfl) ?_
        refine lv_iload_n hx hb dX12_doesBeat_12 rfl (lv_at hl 1 rfl) ?_
        refine lv_iload hx hb dX12_doesBeat_13 (lv_at hl 4 rfl) ?_
        obtain ⟨r3, hc3, hf⟩ := kb_bind hf
        refine kb_ci (ws2 := (w_MO dA a (some (ba 0)) q1 g2 g3 g4 g5 g6 g7 g8 g9 g10 g11 g12 g13 g14 g15 g16 g17 g18 mo ++ (w_Bus dA ba bu))) (kb_rV (n := 2) (As := [.int v1, .int v4]) (rest := []) hx hb hml hown hK (c_X12_layoutOf l D dA H.size a ba q1 g2 g3 g4 g5 g6 g7 g8 g9 g10 g11 g12 g13 g14 g15 g16 g17 g18 mo bu v1 v4 r3 hc3) ⟨ww_8_202, ww_8_199, ww_8_201, ws_118, ww_1_12, rfl, by decide, by decide⟩ rfl rfl (by decide +kernel) ⟨Nat.le_of_ble_eq_true rfl, Nat.le_of_ble_eq_true rfl⟩ hP hD hS hA hE [0, 1, 2, 3, 4, 5, 6, 7, 8, 9, 10, 11, 12, 13, 14, 15, 16] rfl (by decide) 0 rfl rfl rfl hl.1 rfl (Nat.le_of_ble_eq_true rfl) dX12_doesBeat_15 ⟨Nat.le_of_ble_eq_true rfl, Nat.le_of_ble_eq_true rfl⟩) hP hD hS hA [0, 1, 2, 3, 4, 5, 6, 7, 8, 9, 10, 11, 12, 13, 14, 15, 16] [] [0, 1, 2, 3, 4, 5, 6, 7, 8, 9, 10, 11, 12, 13, 14, 15, 16] rfl rfl (by decide) (by decide) rfl (by decide) (fun H locs hP hD hS => ?_)
        refine lv_aload_n hx hb dX12_doesBeat_18 rfl (lv_at hl 0 rfl) ?_
        refine lv_iload_n hx hb dX12_doesBeat_19 rfl (lv_at hl 2 rfl) ?_
        refine lv_iload hx hb dX12_doesBeat_20 (lv_at hl 4 rfl) ?_
        obtain ⟨r4, hc4, hf⟩ := kb_bind hf
        refine kb_ci (ws2 := (w_MO dA a (some (ba 0)) q1 g2 g3 g4 g5 g6 g7 g8 g9 g10 g11 g12 g13 g14 g15 g16 g17 g18 mo ++ (w_Bus dA ba bu))) (kb_rV (n := 2) (As := [.int v2, .int v4]) (rest := [.int r3]) hx hb hml hown hK (c_X12_layoutOf l D dA H.size a ba q1 g2 g3 g4 g5 g6 g7 g8 g9 g10 g11 g12 g13 g14 g15 g16 g17 g18 mo bu v2 v4 r4 hc4) ⟨ww_8_202, ww_8_199, ww_8_201, ws_118, ww_1_12, rfl, by decide, by decide⟩ rfl rfl (by decide +kernel) ⟨Nat.le_of_ble_eq_true rfl, Nat.le_of_ble_eq_true rfl⟩ hP hD hS hA hE [0, 1, 2, 3, 4, 5, 6, 7, 8, 9, 10, 11, 12, 13, 14, 15, 16] rfl (by decide) 0 rfl rfl rfl hl.1 rfl (Nat.le_of_ble_eq_true rfl) dX12_doesBeat_22 ⟨Nat.le_of_ble_eq_true rfl, Nat.le_of_ble_eq_true rfl⟩) hP hD hS hA [0, 1, 2, 3, 4, 5, 6, 7, 8, 9, 10, 11, 12, 13, 14, 15, 16] [] [0, 1, 2, 3, 4, 5, 6, 7, 8, 9, 10, 11, 12, 13, 14, 15, 16] rfl rfl (by decide) (by decide) rfl (by decide) (fun H locs hP hD hS => ?_)
        refine lv_isub hx hb dX12_doesBeat_25 ?_
        refine lv_istore (lv' := [(5, .int (r3 - r4)), (0, .ref (a 0)), (1, .int v1), (2, .int v2), (3, .int v3), (4, .int v4)]) hx hb dX12_doesBeat_26 hl (by decide) rfl (fun ls hl => ?_)
        refine lv_iload hx hb dX12_doesBeat_28 (lv_at hl 5 rfl) ?_
        refine lv_iconst (v := (3 : Int32)) hx hb dX12_doesBeat_30 (by decide) ?_
        refine lv_icmp_ne (tgt := 39) hx hb dX12_doesBeat_31 (by decide) (fun c_5 => ?_) (fun c_5 => ?_)
        · rw [if_neg c_5] at hf
          exact B_39 (f_X12_doesBeat_b5 mo bu n) ih _ _ _ _ _ _ _ _ hf hP hD hS (lv_sub hl [1, 2, 3, 4, 5, 0] rfl)
        · rw [if_pos c_5] at hf
          refine lv_iload hx hb dX12_doesBeat_34 (lv_at hl 0 rfl) ?_
          refine lv_ineg hx hb dX12_doesBeat_36 ?_
          refine lv_istore (lv' := [(5, .int (-(r3 - r4))), (0, .ref (a 0)), (1, .int v1), (2, .int v2), (3, .int v3), (4, .int v4)]) hx hb dX12_doesBeat_37 hl (by decide) rfl (fun ls hl => ?_)
          exact B_39 (f_X12_doesBeat_b5 mo bu n) ih _ _ _ _ _ _ _ _ hf hP hD hS (lv_sub hl [1, 2, 3, 4, 5, 0] rfl)
  have E0 : ∀ (H : Heap) (locs : List Loc), va_P D vwCl (w_MO dA a (some (ba 0)) q1 g2 g3 g4 g5 g6 g7 g8 g9 g10 g11 g12 g13 g14 g15 g16 g17 g18 mo ++ (w_Bus dA ba bu)) H → va_D A (w_MO dA a (some (ba 0)) q1 g2 g3 g4 g5 g6 g7 g8 g9 g10 g11 g12 g13 g14 g15 g16 g17 g18 mo ++ (w_Bus dA ba bu)) → va_S A s.heap H locs → W p l e ({ frames := 3, cells := 0, slots := 0, locals := 67 } : Room) s m ([.ref (a 0), .int x0, .int x1] : List Value).toArray below meth c H locs 0 0 Q (F0 m 0 ls []) := by
    intro H locs hP hD hS
    rw [f_X12_doesBeat] at hf
    refine lv_iconst (v := (0 : Int32)) hx hb dX12_doesBeat_0 (by decide) ?_
    refine lv_istore_n (lv' := [(3, .int (0 : Int32)), (0, .ref (a 0)), (1, .int x0), (2, .int x1)]) hx hb dX12_doesBeat_1 rfl hl (by decide) rfl (fun ls hl => ?_)
    refine lv_iconst (v := (0 : Int32)) hx hb dX12_doesBeat_2 (by decide) ?_
    refine lv_istore (lv' := [(4, .int (0 : Int32)), (3, .int (0 : Int32)), (0, .ref (a 0)), (1, .int x0), (2, .int x1)]) hx hb dX12_doesBeat_3 hl (by decide) rfl (fun ls hl => ?_)
    exact B_5 4096 _ _ _ _ _ _ _ hf hP hD hS (lv_sub hl [2, 3, 4, 1, 0] rfl)
  exact E0 _ _ hP hD hS

noncomputable def f_X12_beats_b47 (bu : BusT) (z0 : MOT) : Option (Int32 × MOT) := (f_X12_refused z0 (1 : Int32)).bind fun r3 => some (r3.1, r3.2)
noncomputable def f_X12_beats_b41 (bu : BusT) (s0 : Int32) (z0 : MOT) : Option (Int32 × MOT) := (f_X12_done z0 s0).bind fun r9 => some (r9.1, r9.2)
noncomputable def f_X12_beats_b5 (bu : BusT) (v1 : Int32) (v2 : Int32) (z0 : MOT) : Option (Int32 × MOT) := (f_X12_isForm z0 v1).bind fun r1 => (if r1 = 0 then f_X12_beats_b47 bu z0 else (f_X12_isForm z0 v2).bind fun r4 => (if r4 = 0 then f_X12_beats_b47 bu z0 else (if v1 = v2 then f_X12_beats_b47 bu z0 else (f_X12_doesBeat z0 bu v1 v2).bind fun r7 => (if r7 = 0 then f_X12_beats_b41 bu (0 : Int32) z0 else f_X12_beats_b41 bu (1 : Int32) z0))))
noncomputable def f_X12_beats (mo : MOT) (bu : BusT) (x0 : Int32) (x1 : Int32) : Option (Int32 × MOT) := f_X12_beats_b5 bu x0 x1 (mo_set_thrown mo (0 : Int32))
set_option maxHeartbeats 4000000 in
set_option maxRecDepth 100000 in
theorem c_X12_beats (l : Launch) (D : va_G) (dA : Nat → ClassId) (sz : Nat) (a : Nat → Nat) (ba : Nat → Nat) (q1 : Option Nat) (g2 : Nat) (g3 : Nat) (g4 : Nat) (g5 : Nat) (g6 : Nat) (g7 : Nat) (g8 : Nat) (g9 : Nat) (g10 : Nat) (g11 : Nat) (g12 : Nat) (g13 : Nat) (g14 : Nat) (g15 : Nat) (g16 : Nat) (g17 : Nat) (g18 : Nat) (mo : MOT) (bu : BusT) (x0 : Int32) (x1 : Int32) (rv : Int32) (u0 : MOT) (hf : f_X12_beats mo bu x0 x1 = some (rv, u0)) : kb_Mi l yX12_beats cX12_beats 3 (some .int) ({ frames := 4, cells := 0, slots := 0, locals := 92 } : Room) D dA [.ref (a 0), .int x0, .int x1] sz (w_MO dA a (some (ba 0)) q1 g2 g3 g4 g5 g6 g7 g8 g9 g10 g11 g12 g13 g14 g15 g16 g17 g18 mo ++ (w_Bus dA ba bu)) 0 0 rv (w_MO dA a (some (ba 0)) q1 g2 g3 g4 g5 g6 g7 g8 g9 g10 g11 g12 g13 g14 g15 g16 g17 g18 u0 ++ (w_Bus dA ba bu)) := by
  refine Met.ofW (cc := cX12_beats) (maxL := 3) (ret := (some .int)) (by decide) rfl ?_
  intro p e s m args below meth c s₁ B hml hv
  obtain ⟨rfl, hsz, hP, hK, hD0, hE⟩ := hv
  have hx := B.exec
  have hb := B.bytes
  have hr := B.returns
  have hown : s.vm.findClass RX12 = some m.cls := findClass_of_methodNamed B.named
  have hlocks := B.notSynchronized
  have hts : ∀ w ∈ kb_gw, w.before ([.ref (a 0), .int x0, .int x1] : List Value).toArray s = true := fun w hw => hK.2.1 w hw _
  subst hsz
  have hD := hD0.self (sz := s.heap.size)
  generalize hAe : va_A (w_MO dA a (some (ba 0)) q1 g2 g3 g4 g5 g6 g7 g8 g9 g10 g11 g12 g13 g14 g15 g16 g17 g18 mo ++ (w_Bus dA ba bu)) s.heap.size = A at hD hE ⊢
  have hA : ∀ q : Nat, s.heap.size ≤ q → A q := fun q h => by rw [← hAe]; exact Or.inr h
  have hS : va_S A s.heap s.heap [] := va_S.rf
  have hl := lv_entry ([.ref (a 0), .int x0, .int x1]) (n := 3) (Nat.le_of_ble_eq_true rfl)
  rw [lg_entry_eq]
  generalize (lg_sl ([.ref (a 0), .int x0, .int x1]) ++ List.replicate (3 - (lg_sl ([.ref (a 0), .int x0, .int x1])).length) Slot.unset).toArray = ls at hl ⊢
  have hl : lv_has ls 3 [(0, .ref (a 0)), (1, .int x0), (2, .int x1)] := hl
  generalize hQ : MQ below (va_Qi (fun r (_ : Unit) => r = rv) (kb_B D A (w_MO dA a (some (ba 0)) q1 g2 g3 g4 g5 g6 g7 g8 g9 g10 g11 g12 g13 g14 g15 g16 g17 g18 u0 ++ (w_Bus dA ba bu))) A) ([.ref (a 0), .int x0, .int x1] : List Value).toArray s 0 0 A = Q
  show W p l e ({ frames := 4, cells := 0, slots := 0, locals := 92 } : Room) s m ([.ref (a 0), .int x0, .int x1] : List Value).toArray below meth c s.heap [] 0 0 Q (F0 m 0 ls [])
  have RET : ∀ (r2 : Int32) (w0 : MOT) (H : Heap) (locs : List Loc) (ls : Array Slot) (pc : Nat), some (r2, w0) = some (rv, u0) → va_P D vwCl (w_MO dA a (some (ba 0)) q1 g2 g3 g4 g5 g6 g7 g8 g9 g10 g11 g12 g13 g14 g15 g16 g17 g18 w0 ++ (w_Bus dA ba bu)) H → va_D A (w_MO dA a (some (ba 0)) q1 g2 g3 g4 g5 g6 g7 g8 g9 g10 g11 g12 g13 g14 g15 g16 g17 g18 w0 ++ (w_Bus dA ba bu)) → va_S A s.heap H locs → decode cX12_beats pc = .ok (.ireturn, 1) → W p l e ({ frames := 4, cells := 0, slots := 0, locals := 92 } : Room) s m ([.ref (a 0), .int x0, .int x1] : List Value).toArray below meth c H locs 0 0 Q (F0 m pc ls [.int r2]) := by
    intro r2 w0 H locs ls pc hq hP hD hS hd
    cases hq
    rw [← hQ]
    exact W.iret hx hb hr (fun t ht hW => ⟨⟨_, (), rfl, rfl, by rw [ht]; exact hP, hD⟩, hS.F ht⟩) hS.2.2 hd
  have B_47 : ∀ (z0 : MOT) (H : Heap) (locs : List Loc) (ls : Array Slot), f_X12_beats_b47 bu z0 = some (rv, u0) → va_P D vwCl (w_MO dA a (some (ba 0)) q1 g2 g3 g4 g5 g6 g7 g8 g9 g10 g11 g12 g13 g14 g15 g16 g17 g18 z0 ++ (w_Bus dA ba bu)) H → va_D A (w_MO dA a (some (ba 0)) q1 g2 g3 g4 g5 g6 g7 g8 g9 g10 g11 g12 g13 g14 g15 g16 g17 g18 z0 ++ (w_Bus dA ba bu)) → va_S A s.heap H locs → lv_has ls 3 [(0, .ref (a 0))] → W p l e ({ frames := 4, cells := 0, slots := 0, locals := 92 } : Room) s m ([.ref (a 0), .int x0, .int x1] : List Value).toArray below meth c H locs 0 0 Q (F0 m 47 ls []) := by
    intro z0 H locs ls hf hP hD hS hl
    rw [f_X12_beats_b47] at hf
    refine lv_aload_n hx hb dX12_beats_47 rfl (lv_at hl 0 rfl) ?_
    refine lv_iconst (v := (1 : Int32)) hx hb dX12_beats_48 (by decide) ?_
    obtain ⟨r3, hc3, hf⟩ := kb_bind hf
    refine kb_ci (ws2 := (w_MO dA a (some (ba 0)) q1 g2 g3 g4 g5 g6 g7 g8 g9 g10 g11 g12 g13 g14 g15 g16 g17 g18 r3.2 ++ (w_Bus dA ba bu))) (kb_rV (n := 1) (As := [.int (1 : Int32)]) (rest := []) hx hb hml hown hK (c_X12_refused l D dA H.size a (some (ba 0)) q1 g2 g3 g4 g5 g6 g7 g8 g9 g10 g11 g12 g13 g14 g15 g16 g17 g18 z0 (1 : Int32) r3.1 r3.2 hc3) ⟨ww_6_82, ww_6_79, ww_6_81, ws_46, ww_1_12, rfl, by decide, by decide⟩ rfl rfl (by decide +kernel) ⟨Nat.le_of_ble_eq_true rfl, Nat.le_of_ble_eq_true rfl⟩ hP hD hS hA hE [0] rfl (by decide) 0 rfl rfl rfl hl.1 rfl (Nat.le_of_ble_eq_true rfl) dX12_beats_49 ⟨Nat.le_of_ble_eq_true rfl, Nat.le_of_ble_eq_true rfl⟩) hP hD hS hA [0] [1, 2, 3, 4, 5, 6, 7, 8, 9, 10, 11, 12, 13, 14, 15, 16] [16, 0, 1, 2, 3, 4, 5, 6, 7, 8, 9, 10, 11, 12, 13, 14, 15] rfl rfl (by decide) (by decide) rfl (by decide) (fun H locs hP hD hS => ?_)
    exact RET _ _ H _ ls 52 hf hP hD hS dX12_beats_52
  have B_41 : ∀ (s0 : Int32) (z0 : MOT) (H : Heap) (locs : List Loc) (ls : Array Slot), f_X12_beats_b41 bu s0 z0 = some (rv, u0) → va_P D vwCl (w_MO dA a (some (ba 0)) q1 g2 g3 g4 g5 g6 g7 g8 g9 g10 g11 g12 g13 g14 g15 g16 g17 g18 z0 ++ (w_Bus dA ba bu)) H → va_D A (w_MO dA a (some (ba 0)) q1 g2 g3 g4 g5 g6 g7 g8 g9 g10 g11 g12 g13 g14 g15 g16 g17 g18 z0 ++ (w_Bus dA ba bu)) → va_S A s.heap H locs → lv_has ls 3 [] → W p l e ({ frames := 4, cells := 0, slots := 0, locals := 92 } : Room) s m ([.ref (a 0), .int x0, .int x1] : List Value).toArray below meth c H locs 0 0 Q (F0 m 41 ls [.int s0, .ref (a 0)]) := by
    intro s0 z0 H locs ls hf hP hD hS hl
    rw [f_X12_beats_b41] at hf
    obtain ⟨r9, hc9, hf⟩ := kb_bind hf
    refine kb_ci (ws2 := (w_MO dA a (some (ba 0)) q1 g2 g3 g4 g5 g6 g7 g8 g9 g10 g11 g12 g13 g14 g15 g16 g17 g18 r9.2 ++ (w_Bus dA ba bu))) (kb_rV (n := 1) (As := [.int s0]) (rest := []) hx hb hml hown hK (c_X12_done l D dA H.size a (some (ba 0)) q1 g2 g3 g4 g5 g6 g7 g8 g9 g10 g11 g12 g13 g14 g15 g16 g17 g18 z0 s0 r9.1 r9.2 hc9) ⟨ww_7_100, ww_7_97, ww_7_99, ws_71, ww_1_12, rfl, by decide, by decide⟩ rfl rfl (by decide +kernel) ⟨Nat.le_of_ble_eq_true rfl, Nat.le_of_ble_eq_true rfl⟩ hP hD hS hA hE [0] rfl (by decide) 0 rfl rfl rfl hl.1 rfl (Nat.le_of_ble_eq_true rfl) dX12_beats_41 ⟨Nat.le_of_ble_eq_true rfl, Nat.le_of_ble_eq_true rfl⟩) hP hD hS hA [0] [1, 2, 3, 4, 5, 6, 7, 8, 9, 10, 11, 12, 13, 14, 15, 16] [16, 0, 1, 2, 3, 4, 5, 6, 7, 8, 9, 10, 11, 12, 13, 14, 15] rfl rfl (by decide) (by decide) rfl (by decide) (fun H locs hP hD hS => ?_)
    refine lv_goto (tgt := 52) hx hb dX12_beats_44 (by decide) ?_
    exact RET _ _ H _ ls 52 hf hP hD hS dX12_beats_52
  have B_5 : ∀ (v1 : Int32) (v2 : Int32) (z0 : MOT) (H : Heap) (locs : List Loc) (ls : Array Slot), f_X12_beats_b5 bu v1 v2 z0 = some (rv, u0) → va_P D vwCl (w_MO dA a (some (ba 0)) q1 g2 g3 g4 g5 g6 g7 g8 g9 g10 g11 g12 g13 g14 g15 g16 g17 g18 z0 ++ (w_Bus dA ba bu)) H → va_D A (w_MO dA a (some (ba 0)) q1 g2 g3 g4 g5 g6 g7 g8 g9 g10 g11 g12 g13 g14 g15 g16 g17 g18 z0 ++ (w_Bus dA ba bu)) → va_S A s.heap H locs → lv_has ls 3 [(0, .ref (a 0)), (1, .int v1), (2, .int v2)] → W p l e ({ frames := 4, cells := 0, slots := 0, locals := 92 } : Room) s m ([.ref (a 0), .int x0, .int x1] : List Value).toArray below meth c H locs 0 0 Q (F0 m 5 ls []) := by
    intro v1 v2 z0 H locs ls hf hP hD hS hl
    rw [f_X12_beats_b5] at hf
    refine lv_aload_n hx hb dX12_beats_5 rfl (lv_at hl 0 rfl) ?_
    refine lv_iload_n hx hb dX12_beats_6 rfl (lv_at hl 1 rfl) ?_
    obtain ⟨r1, hc1, hf⟩ := kb_bind hf
    refine kb_ci (ws2 := (w_MO dA a (some (ba 0)) q1 g2 g3 g4 g5 g6 g7 g8 g9 g10 g11 g12 g13 g14 g15 g16 g17 g18 z0 ++ (w_Bus dA ba bu))) (kb_rV (n := 1) (As := [.int v1]) (rest := []) hx hb hml hown hK (c_X12_isForm l D dA H.size a (ba 0) q1 g2 g3 g4 g5 g6 g7 g8 g9 g10 g11 g12 g13 g14 g15 g16 g17 g18 z0 v1 r1 hc1) ⟨ww_8_198, ww_8_195, ww_8_197, ws_117, ww_1_12, rfl, by decide, by decide⟩ rfl rfl (by decide +kernel) ⟨Nat.le_of_ble_eq_true rfl, Nat.le_of_ble_eq_true rfl⟩ hP hD hS hA hE [0] rfl (by decide) 0 rfl rfl rfl hl.1 rfl (Nat.le_of_ble_eq_true rfl) dX12_beats_7 ⟨Nat.le_of_ble_eq_true rfl, Nat.le_of_ble_eq_true rfl⟩) hP hD hS hA [0] [1, 2, 3, 4, 5, 6, 7, 8, 9, 10, 11, 12, 13, 14, 15, 16] [16, 0, 1, 2, 3, 4, 5, 6, 7, 8, 9, 10, 11, 12, 13, 14, 15] rfl rfl (by decide) (by decide) rfl (by decide) (fun H locs hP hD hS => ?_)
    refine lv_if_eq (tgt := 47) hx hb dX12_beats_10 (by decide) (fun c_2 => ?_) (fun c_2 => ?_)
    · rw [if_pos c_2] at hf
      exact B_47 _ _ _ _ hf hP hD hS (lv_sub hl [0] rfl)
    · rw [if_neg c_2] at hf
      refine lv_aload_n hx hb dX12_beats_13 rfl (lv_at hl 0 rfl) ?_
      refine lv_iload_n hx hb dX12_beats_14 rfl (lv_at hl 2 rfl) ?_
      obtain ⟨r4, hc4, hf⟩ := kb_bind hf
      refine kb_ci (ws2 := (w_MO dA a (some (ba 0)) q1 g2 g3 g4 g5 g6 g7 g8 g9 g10 g11 g12 g13 g14 g15 g16 g17 g18 z0 ++ (w_Bus dA ba bu))) (kb_rV (n := 1) (As := [.int v2]) (rest := []) hx hb hml hown hK (c_X12_isForm l D dA H.size a (ba 0) q1 g2 g3 g4 g5 g6 g7 g8 g9 g10 g11 g12 g13 g14 g15 g16 g17 g18 z0 v2 r4 hc4) ⟨ww_8_198, ww_8_195, ww_8_197, ws_117, ww_1_12, rfl, by decide, by decide⟩ rfl rfl (by decide +kernel) ⟨Nat.le_of_ble_eq_true rfl, Nat.le_of_ble_eq_true rfl⟩ hP hD hS hA hE [0] rfl (by decide) 0 rfl rfl rfl hl.1 rfl (Nat.le_of_ble_eq_true rfl) dX12_beats_15 ⟨Nat.le_of_ble_eq_true rfl, Nat.le_of_ble_eq_true rfl⟩) hP hD hS hA [0] [1, 2, 3, 4, 5, 6, 7, 8, 9, 10, 11, 12, 13, 14, 15, 16] [16, 0, 1, 2, 3, 4, 5, 6, 7, 8, 9, 10, 11, 12, 13, 14, 15] rfl rfl (by decide) (by decide) rfl (by decide) (fun H locs hP hD hS => ?_)
      refine lv_if_eq (tgt := 47) hx hb dX12_beats_18 (by decide) (fun c_5 => ?_) (fun c_5 => ?_)
      · rw [if_pos c_5] at hf
        exact B_47 _ _ _ _ hf hP hD hS (lv_sub hl [0] rfl)
      · rw [if_neg c_5] at hf
        refine lv_iload_n hx hb dX12_beats_21 rfl (lv_at hl 1 rfl) ?_
        refine lv_iload_n hx hb dX12_beats_22 rfl (lv_at hl 2 rfl) ?_
        refine lv_icmp_eq (tgt := 47) hx hb dX12_beats_23 (by decide) (fun c_6 => ?_) (fun c_6 => ?_)
        · rw [if_pos c_6] at hf
          exact B_47 _ _ _ _ hf hP hD hS (lv_sub hl [0] rfl)
        · rw [if_neg c_6] at hf
          refine lv_aload_n hx hb dX12_beats_26 rfl (lv_at hl 0 rfl) ?_
          refine lv_aload_n hx hb dX12_beats_27 rfl (lv_at hl 0 rfl) ?_
          refine lv_iload_n hx hb dX12_beats_28 rfl (lv_at hl 1 rfl) ?_
          refine lv_iload_n hx hb dX12_beats_29 rfl (lv_at hl 2 rfl) ?_
          obtain ⟨r7, hc7, hf⟩ := kb_bind hf
          refine kb_ci (ws2 := (w_MO dA a (some (ba 0)) q1 g2 g3 g4 g5 g6 g7 g8 g9 g10 g11 g12 g13 g14 g15 g16 g17 g18 z0 ++ (w_Bus dA ba bu))) (kb_rV (n := 2) (As := [.int v1, .int v2]) (rest := [.ref (a 0)]) hx hb hml hown hK (c_X12_doesBeat l D dA H.size a ba q1 g2 g3 g4 g5 g6 g7 g8 g9 g10 g11 g12 g13 g14 g15 g16 g17 g18 z0 bu v1 v2 r7 hc7) ⟨ww_8_210, ww_8_207, ww_8_209, ws_119, ww_1_12, rfl, by decide, by decide⟩ rfl rfl (by decide +kernel) ⟨Nat.le_of_ble_eq_true rfl, Nat.le_of_ble_eq_true rfl⟩ hP hD hS hA hE [0, 1, 2, 3, 4, 5, 6, 7, 8, 9, 10, 11, 12, 13, 14, 15, 16] rfl (by decide) 0 rfl rfl rfl hl.1 rfl (Nat.le_of_ble_eq_true rfl) dX12_beats_30 ⟨Nat.le_of_ble_eq_true rfl, Nat.le_of_ble_eq_true rfl⟩) hP hD hS hA [0, 1, 2, 3, 4, 5, 6, 7, 8, 9, 10, 11, 12, 13, 14, 15, 16] [] [0, 1, 2, 3, 4, 5, 6, 7, 8, 9, 10, 11, 12, 13, 14, 15, 16] rfl rfl (by decide) (by decide) rfl (by decide) (fun H locs hP hD hS => ?_)
          refine lv_if_eq (tgt := 40) hx hb dX12_beats_33 (by decide) (fun c_8 => ?_) (fun c_8 => ?_)
          · rw [if_pos c_8] at hf
            refine lv_iconst (v := (0 : Int32)) hx hb dX12_beats_40 (by decide) ?_
            exact B_41 _ _ _ _ _ hf hP hD hS (lv_sub hl [] rfl)
          · rw [if_neg c_8] at hf
            refine lv_iconst (v := (1 : Int32)) hx hb dX12_beats_36 (by decide) ?_
            refine lv_goto (tgt := 41) hx hb dX12_beats_37 (by decide) ?_
            exact B_41 _ _ _ _ _ hf hP hD hS (lv_sub hl [] rfl)
  have E0 : ∀ (H : Heap) (locs : List Loc), va_P D vwCl (w_MO dA a (some (ba 0)) q1 g2 g3 g4 g5 g6 g7 g8 g9 g10 g11 g12 g13 g14 g15 g16 g17 g18 mo ++ (w_Bus dA ba bu)) H → va_D A (w_MO dA a (some (ba 0)) q1 g2 g3 g4 g5 g6 g7 g8 g9 g10 g11 g12 g13 g14 g15 g16 g17 g18 mo ++ (w_Bus dA ba bu)) → va_S A s.heap H locs → W p l e ({ frames := 4, cells := 0, slots := 0, locals := 92 } : Room) s m ([.ref (a 0), .int x0, .int x1] : List Value).toArray below meth c H locs 0 0 Q (F0 m 0 ls []) := by
    intro H locs hP hD hS
    rw [f_X12_beats] at hf
    refine lv_aload_n hx hb dX12_beats_0 rfl (lv_at hl 0 rfl) ?_
    refine lv_iconst (v := (0 : Int32)) hx hb dX12_beats_1 (by decide) ?_
    refine va_put (D := D) (ci := 12) (v := .int (0 : Int32)) (ty := .int) (C := RX12) (T := TX12) (N := 35) hx hb hts kb_inX12 tyX12 tyX12_ok nmX12 hown hK.1 hP hD hS 0 rfl rfl 0 (by decide) (hK.2.w ww_5_200 rfl _) (fun _ h9 => h9) rfl (by decide +kernel) rfl rfl (Nat.le_of_ble_eq_true rfl) dX12_beats_2 (fun H locs hP hD hS => ?_)
    have hP : va_P D vwCl (w_MO dA a (some (ba 0)) q1 g2 g3 g4 g5 g6 g7 g8 g9 g10 g11 g12 g13 g14 g15 g16 g17 g18 (mo_set_thrown mo (0 : Int32)) ++ (w_Bus dA ba bu)) H := hP
    have hD : va_D A (w_MO dA a (some (ba 0)) q1 g2 g3 g4 g5 g6 g7 g8 g9 g10 g11 g12 g13 g14 g15 g16 g17 g18 (mo_set_thrown mo (0 : Int32)) ++ (w_Bus dA ba bu)) := hD
    exact B_5 _ _ _ _ _ _ hf hP hD hS (lv_sub hl [0, 1, 2] rfl)
  exact E0 _ _ hP hD hS

noncomputable def f_X12_unbeaten_b30 (bu : BusT) (k23 : Int32 → Int32 → MOT → Option (Int32 × MOT)) : Nat → Int32 → Int32 → Int32 → MOT → Option (Int32 × MOT)
  | 0, _, _, _, _ => none
  | n + 1, v1, v2, v3, z0 => (if (3 : Int32) ≤ v3 then k23 v1 (v2 + (1 : Int32)) z0 else (if v2 = v3 then f_X12_unbeaten_b30 bu k23 n v1 v2 (v3 + (1 : Int32)) z0 else (f_X12_doesBeat z0 bu v2 v3).bind fun r5 => (if r5 = 0 then f_X12_unbeaten_b30 bu k23 n v1 v2 (v3 + (1 : Int32)) z0 else f_X12_unbeaten_b30 bu k23 n (v1 &&& (((1 : Int32) <<< (v3 &&& 31)) ^^^ (-1 : Int32))) v2 (v3 + (1 : Int32)) z0)))
noncomputable def f_X12_unbeaten_b23 (bu : BusT) : Nat → Int32 → Int32 → MOT → Option (Int32 × MOT)
  | 0, _, _, _ => none
  | n + 1, v1, v2, z0 => (if (3 : Int32) ≤ v2 then (f_X12_done z0 v1).bind fun r2 => some (r2.1, r2.2) else f_X12_unbeaten_b30 bu (f_X12_unbeaten_b23 bu n) 4096 v1 v2 (0 : Int32) z0)
noncomputable def f_X12_unbeaten_b5 (bu : BusT) (z0 : MOT) : Option (Int32 × MOT) := f_X12_unbeaten_b23 bu 4096 (7 : Int32) (0 : Int32) z0
noncomputable def f_X12_unbeaten (mo : MOT) (bu : BusT) : Option (Int32 × MOT) := f_X12_unbeaten_b5 bu (mo_set_thrown mo (0 : Int32))
set_option maxHeartbeats 4000000 in
set_option maxRecDepth 100000 in
theorem c_X12_unbeaten (l : Launch) (D : va_G) (dA : Nat → ClassId) (sz : Nat) (a : Nat → Nat) (ba : Nat → Nat) (q1 : Option Nat) (g2 : Nat) (g3 : Nat) (g4 : Nat) (g5 : Nat) (g6 : Nat) (g7 : Nat) (g8 : Nat) (g9 : Nat) (g10 : Nat) (g11 : Nat) (g12 : Nat) (g13 : Nat) (g14 : Nat) (g15 : Nat) (g16 : Nat) (g17 : Nat) (g18 : Nat) (mo : MOT) (bu : BusT) (rv : Int32) (u0 : MOT) (hf : f_X12_unbeaten mo bu = some (rv, u0)) : kb_Mi l yX12_unbeaten cX12_unbeaten 4 (some .int) ({ frames := 4, cells := 0, slots := 0, locals := 92 } : Room) D dA [.ref (a 0)] sz (w_MO dA a (some (ba 0)) q1 g2 g3 g4 g5 g6 g7 g8 g9 g10 g11 g12 g13 g14 g15 g16 g17 g18 mo ++ (w_Bus dA ba bu)) 0 0 rv (w_MO dA a (some (ba 0)) q1 g2 g3 g4 g5 g6 g7 g8 g9 g10 g11 g12 g13 g14 g15 g16 g17 g18 u0 ++ (w_Bus dA ba bu)) := by
  refine Met.ofW (cc := cX12_unbeaten) (maxL := 4) (ret := (some .int)) (by decide) rfl ?_
  intro p e s m args below meth c s₁ B hml hv
  obtain ⟨rfl, hsz, hP, hK, hD0, hE⟩ := hv
  have hx := B.exec
  have hb := B.bytes
  have hr := B.returns
  have hown : s.vm.findClass RX12 = some m.cls := findClass_of_methodNamed B.named
  have hlocks := B.notSynchronized
  have hts : ∀ w ∈ kb_gw, w.before ([.ref (a 0)] : List Value).toArray s = true := fun w hw => hK.2.1 w hw _
  subst hsz
  have hD := hD0.self (sz := s.heap.size)
  generalize hAe : va_A (w_MO dA a (some (ba 0)) q1 g2 g3 g4 g5 g6 g7 g8 g9 g10 g11 g12 g13 g14 g15 g16 g17 g18 mo ++ (w_Bus dA ba bu)) s.heap.size = A at hD hE ⊢
  have hA : ∀ q : Nat, s.heap.size ≤ q → A q := fun q h => by rw [← hAe]; exact Or.inr h
  have hS : va_S A s.heap s.heap [] := va_S.rf
  have hl := lv_entry ([.ref (a 0)]) (n := 4) (Nat.le_of_ble_eq_true rfl)
  rw [lg_entry_eq]
  generalize (lg_sl ([.ref (a 0)]) ++ List.replicate (4 - (lg_sl ([.ref (a 0)])).length) Slot.unset).toArray = ls at hl ⊢
  have hl : lv_has ls 4 [(0, .ref (a 0))] := hl
  generalize hQ : MQ below (va_Qi (fun r (_ : Unit) => r = rv) (kb_B D A (w_MO dA a (some (ba 0)) q1 g2 g3 g4 g5 g6 g7 g8 g9 g10 g11 g12 g13 g14 g15 g16 g17 g18 u0 ++ (w_Bus dA ba bu))) A) ([.ref (a 0)] : List Value).toArray s 0 0 A = Q
  show W p l e ({ frames := 4, cells := 0, slots := 0, locals := 92 } : Room) s m ([.ref (a 0)] : List Value).toArray below meth c s.heap [] 0 0 Q (F0 m 0 ls [])
  have RET : ∀ (r2 : Int32) (w0 : MOT) (H : Heap) (locs : List Loc) (ls : Array Slot) (pc : Nat), some (r2, w0) = some (rv, u0) → va_P D vwCl (w_MO dA a (some (ba 0)) q1 g2 g3 g4 g5 g6 g7 g8 g9 g10 g11 g12 g13 g14 g15 g16 g17 g18 w0 ++ (w_Bus dA ba bu)) H → va_D A (w_MO dA a (some (ba 0)) q1 g2 g3 g4 g5 g6 g7 g8 g9 g10 g11 g12 g13 g14 g15 g16 g17 g18 w0 ++ (w_Bus dA ba bu)) → va_S A s.heap H locs → decode cX12_unbeaten pc = .ok (.ireturn, 1) → W p l e ({ frames := 4, cells := 0, slots := 0, locals := 92 } : Room) s m ([.ref (a 0)] : List Value).toArray below meth c H locs 0 0 Q (F0 m pc ls [.int r2]) := by
    intro r2 w0 H locs ls pc hq hP hD hS hd
    cases hq
    rw [← hQ]
    exact W.iret hx hb hr (fun t ht hW => ⟨⟨_, (), rfl, rfl, by rw [ht]; exact hP, hD⟩, hS.F ht⟩) hS.2.2 hd
  have B_30 : ∀ (k23 : Int32 → Int32 → MOT → Option (Int32 × MOT)) (hk23 : ∀ (v1 : Int32) (v2 : Int32) (z0 : MOT) (H : Heap) (locs : List Loc) (ls : Array Slot), k23 v1 v2 z0 = some (rv, u0) → va_P D vwCl (w_MO dA a (some (ba 0)) q1 g2 g3 g4 g5 g6 g7 g8 g9 g10 g11 g12 g13 g14 g15 g16 g17 g18 z0 ++ (w_Bus dA ba bu)) H → va_D A (w_MO dA a (some (ba 0)) q1 g2 g3 g4 g5 g6 g7 g8 g9 g10 g11 g12 g13 g14 g15 g16 g17 g18 z0 ++ (w_Bus dA ba bu)) → va_S A s.heap H locs → lv_has ls 4 [(0, .ref (a 0)), (1, .int v1), (2, .int v2)] → W p l e ({ frames := 4, cells := 0, slots := 0, locals := 92 } : Room) s m ([.ref (a 0)] : List Value).toArray below meth c H locs 0 0 Q (F0 m 23 ls [])) (n : Nat) (v1 : Int32) (v2 : Int32) (v3 : Int32) (z0 : MOT) (H : Heap) (locs : List Loc) (ls : Array Slot), f_X12_unbeaten_b30 bu k23 n v1 v2 v3 z0 = some (rv, u0) → va_P D vwCl (w_MO dA a (some (ba 0)) q1 g2 g3 g4 g5 g6 g7 g8 g9 g10 g11 g12 g13 g14 g15 g16 g17 g18 z0 ++ (w_Bus dA ba bu)) H → va_D A (w_MO dA a (some (ba 0)) q1 g2 g3 g4 g5 g6 g7 g8 g9 g10 g11 g12 g13 g14 g15 g16 g17 g18 z0 ++ (w_Bus dA ba bu)) → va_S A s.heap H locs → lv_has ls 4 [(0, .ref (a 0)), (1, .int v1), (2, .int v2), (3, .int v3)] → W p l e ({ frames := 4, cells := 0, slots := 0, locals := 92 } : Room) s m ([.ref (a 0)] : List Value).toArray below meth c H locs 0 0 Q (F0 m 30 ls []) := by
    intro k23 hk23 n
    induction n with
    | zero =>
      intro v1 v2 v3 z0 H locs ls hf
      exact absurd hf (by simp [f_X12_unbeaten_b30])
    | succ n ih =>
      intro v1 v2 v3 z0 H locs ls hf hP hD hS hl
      rw [f_X12_unbeaten_b30] at hf
      refine lv_iload_n hx hb dX12_unbeaten_30 rfl (lv_at hl 3 rfl) ?_
      refine lv_iconst (v := (3 : Int32)) hx hb dX12_unbeaten_31 (by decide) ?_
      refine lv_icmp_ge (tgt := 63) hx hb dX12_unbeaten_32 (by decide) (fun c_3 => ?_) (fun c_3 => ?_)
      · rw [if_pos c_3] at hf
        refine lv_iinc (v := (v2 + (1 : Int32))) (lv' := [(2, .int (v2 + (1 : Int32))), (0, .ref (a 0)), (1, .int v1), (3, .int v3)]) hx hb dX12_unbeaten_63 hl (k := 2) rfl (by rfl) (by decide) rfl (fun ls hl => ?_)
        refine lv_goto (tgt := 23) hx hb dX12_unbeaten_66 (by decide) ?_
        exact hk23 _ _ _ _ _ _ hf hP hD hS (lv_sub hl [1, 2, 0] rfl)
      · rw [if_neg c_3] at hf
        refine lv_iload_n hx hb dX12_unbeaten_35 rfl (lv_at hl 2 rfl) ?_
        refine lv_iload_n hx hb dX12_unbeaten_36 rfl (lv_at hl 3 rfl) ?_
        refine lv_icmp_eq (tgt := 57) hx hb dX12_unbeaten_37 (by decide) (fun c_4 => ?_) (fun c_4 => ?_)
        · rw [if_pos c_4] at hf
          refine lv_iinc (v := (v3 + (1 : Int32))) (lv' := [(3, .int (v3 + (1 : Int32))), (0, .ref (a 0)), (1, .int v1), (2, .int v2)]) hx hb dX12_unbeaten_57 hl (k := 3) rfl (by rfl) (by decide) rfl (fun ls hl => ?_)
          refine lv_goto (tgt := 30) hx hb dX12_unbeaten_60 (by decide) ?_
          exact ih _ _ _ _ _ _ _ hf hP hD hS (lv_sub hl [1, 2, 3, 0] rfl)
        · rw [if_neg c_4] at hf
          refine lv_aload_n hx hb dX12_unbeaten_40 rfl (lv_at hl 0 rfl) ?_
          refine lv_iload_n hx hb dX12_unbeaten_41 rfl (lv_at hl 2 rfl) ?_
          refine lv_iload_n hx hb dX12_unbeaten_42 rfl (lv_at hl 3 rfl) ?_
          obtain ⟨r5, hc5, hf⟩ := kb_bind hf
          refine kb_ci (ws2 := (w_MO dA a (some (ba 0)) q1 g2 g3 g4 g5 g6 g7 g8 g9 g10 g11 g12 g13 g14 g15 g16 g17 g18 z0 ++ (w_Bus dA ba bu))) (kb_rV (n := 2) (As := [.int v2, .int v3]) (rest := []) hx hb hml hown hK (c_X12_doesBeat l D dA H.size a ba q1 g2 g3 g4 g5 g6 g7 g8 g9 g10 g11 g12 g13 g14 g15 g16 g17 g18 z0 bu v2 v3 r5 hc5) ⟨ww_8_210, ww_8_207, ww_8_209, ws_119, ww_1_12, rfl, by decide, by decide⟩ rfl rfl (by decide +kernel) ⟨Nat.le_of_ble_eq_true rfl, Nat.le_of_ble_eq_true rfl⟩ hP hD hS hA hE [0, 1, 2, 3, 4, 5, 6, 7, 8, 9, 10, 11, 12, 13, 14, 15, 16] rfl (by decide) 0 rfl rfl rfl hl.1 rfl (Nat.le_of_ble_eq_true rfl) dX12_unbeaten_43 ⟨Nat.le_of_ble_eq_true rfl, Nat.le_of_ble_eq_true rfl⟩) hP hD hS hA [0, 1, 2, 3, 4, 5, 6, 7, 8, 9, 10, 11, 12, 13, 14, 15, 16] [] [0, 1, 2, 3, 4, 5, 6, 7, 8, 9, 10, 11, 12, 13, 14, 15, 16] rfl rfl (by decide) (by decide) rfl (by decide) (fun H locs hP hD hS => ?_)
          refine lv_if_eq (tgt := 57) hx hb dX12_unbeaten_46 (by decide) (fun c_6 => ?_) (fun c_6 => ?_)
          · rw [if_pos c_6] at hf
            refine lv_iinc (v := (v3 + (1 : Int32))) (lv' := [(3, .int (v3 + (1 : Int32))), (0, .ref (a 0)), (1, .int v1), (2, .int v2)]) hx hb dX12_unbeaten_57 hl (k := 3) rfl (by rfl) (by decide) rfl (fun ls hl => ?_)
            refine lv_goto (tgt := 30) hx hb dX12_unbeaten_60 (by decide) ?_
            exact ih _ _ _ _ _ _ _ hf hP hD hS (lv_sub hl [1, 2, 3, 0] rfl)
          · rw [if_neg c_6] at hf
            refine lv_iload_n hx hb dX12_unbeaten_49 rfl (lv_at hl 1 rfl) ?_
            refine lv_iconst (v := (1 : Int32)) hx hb dX12_unbeaten_50 (by decide) ?_
            refine lv_iload_n hx hb dX12_unbeaten_51 rfl (lv_at hl 3 rfl) ?_
            refine lv_ishl hx hb dX12_unbeaten_52 ?_
            refine lv_iconst (v := (-1 : Int32)) hx hb dX12_unbeaten_53 (by decide) ?_
            refine lv_ixor hx hb dX12_unbeaten_54 ?_
            refine lv_iand hx hb dX12_unbeaten_55 ?_
            refine lv_istore_n (lv' := [(1, .int (v1 &&& (((1 : Int32) <<< (v3 &&& 31)) ^^^ (-1 : Int32)))), (0, .ref (a 0)), (2, .int v2), (3, .int v3)]) hx hb dX12_unbeaten_56 rfl hl (by decide) rfl (fun ls hl => ?_)
            refine lv_iinc (v := (v3 + (1 : Int32))) (lv' := [(3, .int (v3 + (1 : Int32))), (1, .int (v1 &&& (((1 : Int32) <<< (v3 &&& 31)) ^^^ (-1 : Int32)))), (0, .ref (a 0)), (2, .int v2)]) hx hb dX12_unbeaten_57 hl (k := 3) rfl (by rfl) (by decide) rfl (fun ls hl => ?_)
            refine lv_goto (tgt := 30) hx hb dX12_unbeaten_60 (by decide) ?_
            exact ih _ _ _ _ _ _ _ hf hP hD hS (lv_sub hl [2, 1, 3, 0] rfl)
  have B_23 : ∀ (n : Nat) (v1 : Int32) (v2 : Int32) (z0 : MOT) (H : Heap) (locs : List Loc) (ls : Array Slot), f_X12_unbeaten_b23 bu n v1 v2 z0 = some (rv, u0) → va_P D vwCl (w_MO dA a (some (ba 0)) q1 g2 g3 g4 g5 g6 g7 g8 g9 g10 g11 g12 g13 g14 g15 g16 g17 g18 z0 ++ (w_Bus dA ba bu)) H → va_D A (w_MO dA a (some (ba 0)) q1 g2 g3 g4 g5 g6 g7 g8 g9 g10 g11 g12 g13 g14 g15 g16 g17 g18 z0 ++ (w_Bus dA ba bu)) → va_S A s.heap H locs → lv_has ls 4 [(0, .ref (a 0)), (1, .int v1), (2, .int v2)] → W p l e ({ frames := 4, cells := 0, slots := 0, locals := 92 } : Room) s m ([.ref (a 0)] : List Value).toArray below meth c H locs 0 0 Q (F0 m 23 ls []) := by
    intro n
    induction n with
    | zero =>
      intro v1 v2 z0 H locs ls hf
      exact absurd hf (by simp [f_X12_unbeaten_b23])
    | succ n ih =>
      intro v1 v2 z0 H locs ls hf hP hD hS hl
      rw [f_X12_unbeaten_b23] at hf
      refine lv_iload_n hx hb dX12_unbeaten_23 rfl (lv_at hl 2 rfl) ?_
      refine lv_iconst (v := (3 : Int32)) hx hb dX12_unbeaten_24 (by decide) ?_
      refine lv_icmp_ge (tgt := 69) hx hb dX12_unbeaten_25 (by decide) (fun c_1 => ?_) (fun c_1 => ?_)
      · rw [if_pos c_1] at hf
        refine lv_aload_n hx hb dX12_unbeaten_69 rfl (lv_at hl 0 rfl) ?_
        refine lv_iload_n hx hb dX12_unbeaten_70 rfl (lv_at hl 1 rfl) ?_
        obtain ⟨r2, hc2, hf⟩ := kb_bind hf
        refine kb_ci (ws2 := (w_MO dA a (some (ba 0)) q1 g2 g3 g4 g5 g6 g7 g8 g9 g10 g11 g12 g13 g14 g15 g16 g17 g18 r2.2 ++ (w_Bus dA ba bu))) (kb_rV (n := 1) (As := [.int v1]) (rest := []) hx hb hml hown hK (c_X12_done l D dA H.size a (some (ba 0)) q1 g2 g3 g4 g5 g6 g7 g8 g9 g10 g11 g12 g13 g14 g15 g16 g17 g18 z0 v1 r2.1 r2.2 hc2) ⟨ww_7_100, ww_7_97, ww_7_99, ws_71, ww_1_12, rfl, by decide, by decide⟩ rfl rfl (by decide +kernel) ⟨Nat.le_of_ble_eq_true rfl, Nat.le_of_ble_eq_true rfl⟩ hP hD hS hA hE [0] rfl (by decide) 0 rfl rfl rfl hl.1 rfl (Nat.le_of_ble_eq_true rfl) dX12_unbeaten_71 ⟨Nat.le_of_ble_eq_true rfl, Nat.le_of_ble_eq_true rfl⟩) hP hD hS hA [0] [1, 2, 3, 4, 5, 6, 7, 8, 9, 10, 11, 12, 13, 14, 15, 16] [16, 0, 1, 2, 3, 4, 5, 6, 7, 8, 9, 10, 11, 12, 13, 14, 15] rfl rfl (by decide) (by decide) rfl (by decide) (fun H locs hP hD hS => ?_)
        exact RET _ _ H _ ls 74 hf hP hD hS dX12_unbeaten_74
      · rw [if_neg c_1] at hf
        refine lv_iconst (v := (0 : Int32)) hx hb dX12_unbeaten_28 (by decide) ?_
        refine lv_istore_n (lv' := [(3, .int (0 : Int32)), (0, .ref (a 0)), (1, .int v1), (2, .int v2)]) hx hb dX12_unbeaten_29 rfl hl (by decide) rfl (fun ls hl => ?_)
        exact B_30 (f_X12_unbeaten_b23 bu n) ih 4096 _ _ _ _ _ _ _ hf hP hD hS (lv_sub hl [1, 2, 3, 0] rfl)
  have B_5 : ∀ (z0 : MOT) (H : Heap) (locs : List Loc) (ls : Array Slot), f_X12_unbeaten_b5 bu z0 = some (rv, u0) → va_P D vwCl (w_MO dA a (some (ba 0)) q1 g2 g3 g4 g5 g6 g7 g8 g9 g10 g11 g12 g13 g14 g15 g16 g17 g18 z0 ++ (w_Bus dA ba bu)) H → va_D A (w_MO dA a (some (ba 0)) q1 g2 g3 g4 g5 g6 g7 g8 g9 g10 g11 g12 g13 g14 g15 g16 g17 g18 z0 ++ (w_Bus dA ba bu)) → va_S A s.heap H locs → lv_has ls 4 [(0, .ref (a 0))] → W p l e ({ frames := 4, cells := 0, slots := 0, locals := 92 } : Room) s m ([.ref (a 0)] : List Value).toArray below meth c H locs 0 0 Q (F0 m 5 ls []) := by
    intro z0 H locs ls hf hP hD hS hl
    rw [f_X12_unbeaten_b5] at hf
    refine lv_aload_n hx hb dX12_unbeaten_5 rfl (lv_at hl 0 rfl) ?_
    refine va_get (D := D) (ci := 12) (v := .ref (ba 0)) (C := RX12) (T := TX12) (N := 35) hx hb hts kb_inX12 hown hK.1 hP 0 rfl rfl 3 (by decide) (hK.2.w ww_5_203 rfl _) (fun _ h9 => h9) rfl dX12_unbeaten_6 ?_
    refine lv_ifnonnull (tgt := 18) hx hb dX12_unbeaten_9 (by decide) ?_
    refine lv_bipush (v := (7 : Int32)) hx hb dX12_unbeaten_18 (by decide) ?_
    refine lv_istore_n (lv' := [(1, .int (7 : Int32)), (0, .ref (a 0))]) hx hb dX12_unbeaten_20 rfl hl (by decide) rfl (fun ls hl => ?_)
    refine lv_iconst (v := (0 : Int32)) hx hb dX12_unbeaten_21 (by decide) ?_
    refine lv_istore_n (lv' := [(2, .int (0 : Int32)), (1, .int (7 : Int32)), (0, .ref (a 0))]) hx hb dX12_unbeaten_22 rfl hl (by decide) rfl (fun ls hl => ?_)
    exact B_23 4096 _ _ _ _ _ _ hf hP hD hS (lv_sub hl [2, 1, 0] rfl)
  have E0 : ∀ (H : Heap) (locs : List Loc), va_P D vwCl (w_MO dA a (some (ba 0)) q1 g2 g3 g4 g5 g6 g7 g8 g9 g10 g11 g12 g13 g14 g15 g16 g17 g18 mo ++ (w_Bus dA ba bu)) H → va_D A (w_MO dA a (some (ba 0)) q1 g2 g3 g4 g5 g6 g7 g8 g9 g10 g11 g12 g13 g14 g15 g16 g17 g18 mo ++ (w_Bus dA ba bu)) → va_S A s.heap H locs → W p l e ({ frames := 4, cells := 0, slots := 0, locals := 92 } : Room) s m ([.ref (a 0)] : List Value).toArray below meth c H locs 0 0 Q (F0 m 0 ls []) := by
    intro H locs hP hD hS
    rw [f_X12_unbeaten] at hf
    refine lv_aload_n hx hb dX12_unbeaten_0 rfl (lv_at hl 0 rfl) ?_
    refine lv_iconst (v := (0 : Int32)) hx hb dX12_unbeaten_1 (by decide) ?_
    refine va_put (D := D) (ci := 12) (v := .int (0 : Int32)) (ty := .int) (C := RX12) (T := TX12) (N := 35) hx hb hts kb_inX12 tyX12 tyX12_ok nmX12 hown hK.1 hP hD hS 0 rfl rfl 0 (by decide) (hK.2.w ww_5_200 rfl _) (fun _ h9 => h9) rfl (by decide +kernel) rfl rfl (Nat.le_of_ble_eq_true rfl) dX12_unbeaten_2 (fun H locs hP hD hS => ?_)
    have hP : va_P D vwCl (w_MO dA a (some (ba 0)) q1 g2 g3 g4 g5 g6 g7 g8 g9 g10 g11 g12 g13 g14 g15 g16 g17 g18 (mo_set_thrown mo (0 : Int32)) ++ (w_Bus dA ba bu)) H := hP
    have hD : va_D A (w_MO dA a (some (ba 0)) q1 g2 g3 g4 g5 g6 g7 g8 g9 g10 g11 g12 g13 g14 g15 g16 g17 g18 (mo_set_thrown mo (0 : Int32)) ++ (w_Bus dA ba bu)) := hD
    exact B_5 _ _ _ _ hf hP hD hS (lv_sub hl [0] rfl)
  exact E0 _ _ hP hD hS

noncomputable def f_X12_seat_b38 (bu : BusT) (z0 : MOT) : Option (Int32 × MOT) := (f_X12_refused z0 (1 : Int32)).bind fun r2 => some (r2.1, r2.2)
noncomputable def f_X12_seat_b155 (bu : BusT) (s0 : Int32) (z0 : MOT) : Option (Int32 × MOT) := (f_X12_done z0 s0).bind fun r14 => some (r14.1, r14.2)
noncomputable def f_X12_seat_b131 (bu : BusT) (s0 : Int32) (z0 : MOT) : Option (Int32 × MOT) := (f_X12_done z0 s0).bind fun r17 => some (r17.1, r17.2)
noncomputable def f_X12_seat_b100 (bu : BusT) (s0 : Int32) (z0 : MOT) : Option (Int32 × MOT) := (f_X12_done z0 s0).bind fun r20 => some (r20.1, r20.2)
noncomputable def f_X12_seat_b62 (bu : BusT) (s0 : Int32) (z0 : MOT) : Option (Int32 × MOT) := (f_X12_done z0 s0).bind fun r24 => some (r24.1, r24.2)
noncomputable def f_X12_seat_b5 (bu : BusT) (v1 : Int32) (v2 : Int32) (z0 : MOT) : Option (Int32 × MOT) := (if v1 < 0 then f_X12_seat_b38 bu z0 else (if ((4 : Int32) * (bu_rows bu)) ≤ v1 then f_X12_seat_b38 bu z0 else (f_X12_in v2 (0 : Int32) (3 : Int32)).bind fun r4 => (if r4 = 0 then f_X12_seat_b38 bu z0 else (if v2 = 0 then (f_X12_isSeat z0 bu v1).bind fun r22 => (if r22 = 0 then f_X12_seat_b62 bu (0 : Int32) z0 else f_X12_seat_b62 bu (1 : Int32) z0) else (f_X12_isSeat z0 bu v1).bind fun r7 => (if r7 = 0 then (f_X12_refused z0 (1 : Int32)).bind fun r21 => some (r21.1, r21.2) else (if v2 = (1 : Int32) then (f_X12_isWindow (v1 &&& (3 : Int32))).bind fun r18 => (if r18 = 0 then f_X12_seat_b100 bu (0 : Int32) z0 else f_X12_seat_b100 bu (1 : Int32) z0) else (if v2 = (2 : Int32) then (f_X12_isAisleOf (bu_form bu) (v1 &&& (3 : Int32))).bind fun r15 => (if r15 = 0 then f_X12_seat_b131 bu (0 : Int32) z0 else f_X12_seat_b131 bu (1 : Int32) z0) else (f_X12_beside z0 bu v1).bind fun r11 => (if r11 = (-1 : Int32) then f_X12_seat_b155 bu (-2 : Int32) z0 else (f_X12_beside z0 bu v1).bind fun r13 => f_X12_seat_b155 bu r13 z0))))))))
noncomputable def f_X12_seat (mo : MOT) (bu : BusT) (x0 : Int32) (x1 : Int32) : Option (Int32 × MOT) := f_X12_seat_b5 bu x0 x1 (mo_set_thrown mo (0 : Int32))
set_option maxHeartbeats 4000000 in
set_option maxRecDepth 100000 in
theorem c_X12_seat (l : Launch) (D : va_G) (dA : Nat → ClassId) (sz : Nat) (a : Nat → Nat) (ba : Nat → Nat) (q1 : Option Nat) (g2 : Nat) (g3 : Nat) (g4 : Nat) (g5 : Nat) (g6 : Nat) (g7 : Nat) (g8 : Nat) (g9 : Nat) (g10 : Nat) (g11 : Nat) (g12 : Nat) (g13 : Nat) (g14 : Nat) (g15 : Nat) (g16 : Nat) (g17 : Nat) (g18 : Nat) (mo : MOT) (bu : BusT) (x0 : Int32) (x1 : Int32) (rv : Int32) (u0 : MOT) (hf : f_X12_seat mo bu x0 x1 = some (rv, u0)) : kb_Mi l yX12_seat cX12_seat 3 (some .int) ({ frames := 3, cells := 0, slots := 0, locals := 64 } : Room) D dA [.ref (a 0), .int x0, .int x1] sz (w_MO dA a (some (ba 0)) q1 g2 g3 g4 g5 g6 g7 g8 g9 g10 g11 g12 g13 g14 g15 g16 g17 g18 mo ++ (w_Bus dA ba bu)) 0 0 rv (w_MO dA a (some (ba 0)) q1 g2 g3 g4 g5 g6 g7 g8 g9 g10 g11 g12 g13 g14 g15 g16 g17 g18 u0 ++ (w_Bus dA ba bu)) := by
  refine Met.ofW (cc := cX12_seat) (maxL := 3) (ret := (some .int)) (by decide) rfl ?_
  intro p e s m args below meth c s₁ B hml hv
  obtain ⟨rfl, hsz, hP, hK, hD0, hE⟩ := hv
  have hx := B.exec
  have hb := B.bytes
  have hr := B.returns
  have hown : s.vm.findClass RX12 = some m.cls := findClass_of_methodNamed B.named
  have hlocks := B.notSynchronized
  have hts : ∀ w ∈ kb_gw, w.before ([.ref (a 0), .int x0, .int x1] : List Value).toArray s = true := fun w hw => hK.2.1 w hw _
  subst hsz
  have hD := hD0.self (sz := s.heap.size)
  generalize hAe : va_A (w_MO dA a (some (ba 0)) q1 g2 g3 g4 g5 g6 g7 g8 g9 g10 g11 g12 g13 g14 g15 g16 g17 g18 mo ++ (w_Bus dA ba bu)) s.heap.size = A at hD hE ⊢
  have hA : ∀ q : Nat, s.heap.size ≤ q → A q := fun q h => by rw [← hAe]; exact Or.inr h
  have hS : va_S A s.heap s.heap [] := va_S.rf
  have hl := lv_entry ([.ref (a 0), .int x0, .int x1]) (n := 3) (Nat.le_of_ble_eq_true rfl)
  rw [lg_entry_eq]
  generalize (lg_sl ([.ref (a 0), .int x0, .int x1]) ++ List.replicate (3 - (lg_sl ([.ref (a 0), .int x0, .int x1])).length) Slot.unset).toArray = ls at hl ⊢
  have hl : lv_has ls 3 [(0, .ref (a 0)), (1, .int x0), (2, .int x1)] := hl
  generalize hQ : MQ below (va_Qi (fun r (_ : Unit) => r = rv) (kb_B D A (w_MO dA a (some (ba 0)) q1 g2 g3 g4 g5 g6 g7 g8 g9 g10 g11 g12 g13 g14 g15 g16 g17 g18 u0 ++ (w_Bus dA ba bu))) A) ([.ref (a 0), .int x0, .int x1] : List Value).toArray s 0 0 A = Q
  show W p l e ({ frames := 3, cells := 0, slots := 0, locals := 64 } : Room) s m ([.ref (a 0), .int x0, .int x1] : List Value).toArray below meth c s.heap [] 0 0 Q (F0 m 0 ls [])
  have RET : ∀ (r2 : Int32) (w0 : MOT) (H : Heap) (locs : List Loc) (ls : Array Slot) (pc : Nat), some (r2, w0) = some (rv, u0) → va_P D vwCl (w_MO dA a (some (ba 0)) q1 g2 g3 g4 g5 g6 g7 g8 g9 g10 g11 g12 g13 g14 g15 g16 g17 g18 w0 ++ (w_Bus dA ba bu)) H → va_D A (w_MO dA a (some (ba 0)) q1 g2 g3 g4 g5 g6 g7 g8 g9 g10 g11 g12 g13 g14 g15 g16 g17 g18 w0 ++ (w_Bus dA ba bu)) → va_S A s.heap H locs → decode cX12_seat pc = .ok (.ireturn, 1) → W p l e ({ frames := 3, cells := 0, slots := 0, locals := 64 } : Room) s m ([.ref (a 0), .int x0, .int x1] : List Value).toArray below meth c H locs 0 0 Q (F0 m pc ls [.int r2]) := by
    intro r2 w0 H locs ls pc hq hP hD hS hd
    cases hq
    rw [← hQ]
    exact W.iret hx hb hr (fun t ht hW => ⟨⟨_, (), rfl, rfl, by rw [ht]; exact hP, hD⟩, hS.F ht⟩) hS.2.2 hd
  have B_38 : ∀ (z0 : MOT) (H : Heap) (locs : List Loc) (ls : Array Slot), f_X12_seat_b38 bu z0 = some (rv, u0) → va_P D vwCl (w_MO dA a (some (ba 0)) q1 g2 g3 g4 g5 g6 g7 g8 g9 g10 g11 g12 g13 g14 g15 g16 g17 g18 z0 ++ (w_Bus dA ba bu)) H → va_D A (w_MO dA a (some (ba 0)) q1 g2 g3 g4 g5 g6 g7 g8 g9 g10 g11 g12 g13 g14 g15 g16 g17 g18 z0 ++ (w_Bus dA ba bu)) → va_S A s.heap H locs → lv_has ls 3 [(0, .ref (a 0))] → W p l e ({ frames := 3, cells := 0, slots := 0, locals := 64 } : Room) s m ([.ref (a 0), .int x0, .int x1] : List Value).toArray below meth c H locs 0 0 Q (F0 m 38 ls []) := by
    intro z0 H locs ls hf hP hD hS hl
    rw [f_X12_seat_b38] at hf
    refine lv_aload_n hx hb dX12_seat_38 rfl (lv_at hl 0 rfl) ?_
    refine lv_iconst (v := (1 : Int32)) hx hb dX12_seat_39 (by decide) ?_
    obtain ⟨r2, hc2, hf⟩ := kb_bind hf
    refine kb_ci (ws2 := (w_MO dA a (some (ba 0)) q1 g2 g3 g4 g5 g6 g7 g8 g9 g10 g11 g12 g13 g14 g15 g16 g17 g18 r2.2 ++ (w_Bus dA ba bu))) (kb_rV (n := 1) (As := [.int (1 : Int32)]) (rest := []) hx hb hml hown hK (c_X12_refused l D dA H.size a (some (ba 0)) q1 g2 g3 g4 g5 g6 g7 g8 g9 g10 g11 g12 g13 g14 g15 g16 g17 g18 z0 (1 : Int32) r2.1 r2.2 hc2) ⟨ww_6_82, ww_6_79, ww_6_81, ws_46, ww_1_12, rfl, by decide, by decide⟩ rfl rfl (by decide +kernel) ⟨Nat.le_of_ble_eq_true rfl, Nat.le_of_ble_eq_true rfl⟩ hP hD hS hA hE [0] rfl (by decide) 0 rfl rfl rfl hl.1 rfl (Nat.le_of_ble_eq_true rfl) dX12_seat_40 ⟨Nat.le_of_ble_eq_true rfl, Nat.le_of_ble_eq_true rfl⟩) hP hD hS hA [0] [1, 2, 3, 4, 5, 6, 7, 8, 9, 10, 11, 12, 13, 14, 15, 16] [16, 0, 1, 2, 3, 4, 5, 6, 7, 8, 9, 10, 11, 12, 13, 14, 15] rfl rfl (by decide) (by decide) rfl (by decide) (fun H locs hP hD hS => ?_)
    exact RET _ _ H _ ls 43 hf hP hD hS dX12_seat_43
  have B_155 : ∀ (s0 : Int32) (z0 : MOT) (H : Heap) (locs : List Loc) (ls : Array Slot), f_X12_seat_b155 bu s0 z0 = some (rv, u0) → va_P D vwCl (w_MO dA a (some (ba 0)) q1 g2 g3 g4 g5 g6 g7 g8 g9 g10 g11 g12 g13 g14 g15 g16 g17 g18 z0 ++ (w_Bus dA ba bu)) H → va_D A (w_MO dA a (some (ba 0)) q1 g2 g3 g4 g5 g6 g7 g8 g9 g10 g11 g12 g13 g14 g15 g16 g17 g18 z0 ++ (w_Bus dA ba bu)) → va_S A s.heap H locs → lv_has ls 3 [] → W p l e ({ frames := 3, cells := 0, slots := 0, locals := 64 } : Room) s m ([.ref (a 0), .int x0, .int x1] : List Value).toArray below meth c H locs 0 0 Q (F0 m 155 ls [.int s0, .ref (a 0)]) := by
    intro s0 z0 H locs ls hf hP hD hS hl
    rw [f_X12_seat_b155] at hf
    obtain ⟨r14, hc14, hf⟩ := kb_bind hf
    refine kb_ci (ws2 := (w_MO dA a (some (ba 0)) q1 g2 g3 g4 g5 g6 g7 g8 g9 g10 g11 g12 g13 g14 g15 g16 g17 g18 r14.2 ++ (w_Bus dA ba bu))) (kb_rV (n := 1) (As := [.int s0]) (rest := []) hx hb hml hown hK (c_X12_done l D dA H.size a (some (ba 0)) q1 g2 g3 g4 g5 g6 g7 g8 g9 g10 g11 g12 g13 g14 g15 g16 g17 g18 z0 s0 r14.1 r14.2 hc14) ⟨ww_7_100, ww_7_97, ww_7_99, ws_71, ww_1_12, rfl, by decide, by decide⟩ rfl rfl (by decide +kernel) ⟨Nat.le_of_ble_eq_true rfl, Nat.le_of_ble_eq_true rfl⟩ hP hD hS hA hE [0] rfl (by decide) 0 rfl rfl rfl hl.1 rfl (Nat.le_of_ble_eq_true rfl) dX12_seat_155 ⟨Nat.le_of_ble_eq_true rfl, Nat.le_of_ble_eq_true rfl⟩) hP hD hS hA [0] [1, 2, 3, 4, 5, 6, 7, 8, 9, 10, 11, 12, 13, 14, 15, 16] [16, 0, 1, 2, 3, 4, 5, 6, 7, 8, 9, 10, 11, 12, 13, 14, 15] rfl rfl (by decide) (by decide) rfl (by decide) (fun H locs hP hD hS => ?_)
    exact RET _ _ H _ ls 158 hf hP hD hS dX12_seat_158
  have B_131 : ∀ (s0 : Int32) (z0 : MOT) (H : Heap) (locs : List Loc) (ls : Array Slot), f_X12_seat_b131 bu s0 z0 = some (rv, u0) → va_P D vwCl (w_MO dA a (some (ba 0)) q1 g2 g3 g4 g5 g6 g7 g8 g9 g10 g11 g12 g13 g14 g15 g16 g17 g18 z0 ++ (w_Bus dA ba bu)) H → va_D A (w_MO dA a (some (ba 0)) q1 g2 g3 g4 g5 g6 g7 g8 g9 g10 g11 g12 g13 g14 g15 g16 g17 g18 z0 ++ (w_Bus dA ba bu)) → va_S A s.heap H locs → lv_has ls 3 [] → W p l e ({ frames := 3, cells := 0, slots := 0, locals := 64 } : Room) s m ([.ref (a 0), .int x0, .int x1] : List Value).toArray below meth c H locs 0 0 Q (F0 m 131 ls [.int s0, .ref (a 0)]) := by
    intro s0 z0 H locs ls hf hP hD hS hl
    rw [f_X12_seat_b131] at hf
    obtain ⟨r17, hc17, hf⟩ := kb_bind hf
    refine kb_ci (ws2 := (w_MO dA a (some (ba 0)) q1 g2 g3 g4 g5 g6 g7 g8 g9 g10 g11 g12 g13 g14 g15 g16 g17 g18 r17.2 ++ (w_Bus dA ba bu))) (kb_rV (n := 1) (As := [.int s0]) (rest := []) hx hb hml hown hK (c_X12_done l D dA H.size a (some (ba 0)) q1 g2 g3 g4 g5 g6 g7 g8 g9 g10 g11 g12 g13 g14 g15 g16 g17 g18 z0 s0 r17.1 r17.2 hc17) ⟨ww_7_100, ww_7_97, ww_7_99, ws_71, ww_1_12, rfl, by decide, by decide⟩ rfl rfl (by decide +kernel) ⟨Nat.le_of_ble_eq_true rfl, Nat.le_of_ble_eq_true rfl⟩ hP hD hS hA hE [0] rfl (by decide) 0 rfl rfl rfl hl.1 rfl (Nat.le_of_ble_eq_true rfl) dX12_seat_131 ⟨Nat.le_of_ble_eq_true rfl, Nat.le_of_ble_eq_true rfl⟩) hP hD hS hA [0] [1, 2, 3, 4, 5, 6, 7, 8, 9, 10, 11, 12, 13, 14, 15, 16] [16, 0, 1, 2, 3, 4, 5, 6, 7, 8, 9, 10, 11, 12, 13, 14, 15] rfl rfl (by decide) (by decide) rfl (by decide) (fun H locs hP hD hS => ?_)
    exact RET _ _ H _ ls 134 hf hP hD hS dX12_seat_134
  have B_100 : ∀ (s0 : Int32) (z0 : MOT) (H : Heap) (locs : List Loc) (ls : Array Slot), f_X12_seat_b100 bu s0 z0 = some (rv, u0) → va_P D vwCl (w_MO dA a (some (ba 0)) q1 g2 g3 g4 g5 g6 g7 g8 g9 g10 g11 g12 g13 g14 g15 g16 g17 g18 z0 ++ (w_Bus dA ba bu)) H → va_D A (w_MO dA a (some (ba 0)) q1 g2 g3 g4 g5 g6 g7 g8 g9 g10 g11 g12 g13 g14 g15 g16 g17 g18 z0 ++ (w_Bus dA ba bu)) → va_S A s.heap H locs → lv_has ls 3 [] → W p l e ({ frames := 3, cells := 0, slots := 0, locals := 64 } : Room) s m ([.ref (a 0), .int x0, .int x1] : List Value).toArray below meth c H locs 0 0 Q (F0 m 100 ls [.int s0, .ref (a 0)]) := by
    intro s0 z0 H locs ls hf hP hD hS hl
    rw [f_X12_seat_b100] at hf
    obtain ⟨r20, hc20, hf⟩ := kb_bind hf
    refine kb_ci (ws2 := (w_MO dA a (some (ba 0)) q1 g2 g3 g4 g5 g6 g7 g8 g9 g10 g11 g12 g13 g14 g15 g16 g17 g18 r20.2 ++ (w_Bus dA ba bu))) (kb_rV (n := 1) (As := [.int s0]) (rest := []) hx hb hml hown hK (c_X12_done l D dA H.size a (some (ba 0)) q1 g2 g3 g4 g5 g6 g7 g8 g9 g10 g11 g12 g13 g14 g15 g16 g17 g18 z0 s0 r20.1 r20.2 hc20) ⟨ww_7_100, ww_7_97, ww_7_99, ws_71, ww_1_12, rfl, by decide, by decide⟩ rfl rfl (by decide +kernel) ⟨Nat.le_of_ble_eq_true rfl, Nat.le_of_ble_eq_true rfl⟩ hP hD hS hA hE [0] rfl (by decide) 0 rfl rfl rfl hl.1 rfl (Nat.le_of_ble_eq_true rfl) dX12_seat_100 ⟨Nat.le_of_ble_eq_true rfl, Nat.le_of_ble_eq_true rfl⟩) hP hD hS hA [0] [1, 2, 3, 4, 5, 6, 7, 8, 9, 10, 11, 12, 13, 14, 15, 16] [16, 0, 1, 2, 3, 4, 5, 6, 7, 8, 9, 10, 11, 12, 13, 14, 15] rfl rfl (by decide) (by decide) rfl (by decide) (fun H locs hP hD hS => ?_)
    exact RET _ _ H _ ls 103 hf hP hD hS dX12_seat_103
  have B_62 : ∀ (s0 : Int32) (z0 : MOT) (H : Heap) (locs : List Loc) (ls : Array Slot), f_X12_seat_b62 bu s0 z0 = some (rv, u0) → va_P D vwCl (w_MO dA a (some (ba 0)) q1 g2 g3 g4 g5 g6 g7 g8 g9 g10 g11 g12 g13 g14 g15 g16 g17 g18 z0 ++ (w_Bus dA ba bu)) H → va_D A (w_MO dA a (some (ba 0)) q1 g2 g3 g4 g5 g6 g7 g8 g9 g10 g11 g12 g13 g14 g15 g16 g17 g18 z0 ++ (w_Bus dA ba bu)) → va_S A s.heap H locs → lv_has ls 3 [] → W p l e ({ frames := 3, cells := 0, slots := 0, locals := 64 } : Room) s m ([.ref (a 0), .int x0, .int x1] : List Value).toArray below meth c H locs 0 0 Q (F0 m 62 ls [.int s0, .ref (a 0)]) := by
    intro s0 z0 H locs ls hf hP hD hS hl
    rw [f_X12_seat_b62] at hf
    obtain ⟨r24, hc24, hf⟩ := kb_bind hf
    refine kb_ci (ws2 := (w_MO dA a (some (ba 0)) q1 g2 g3 g4 g5 g6 g7 g8 g9 g10 g11 g12 g13 g14 g15 g16 g17 g18 r24.2 ++ (w_Bus dA ba bu))) (kb_rV (n := 1) (As := [.int s0]) (rest := []) hx hb hml hown hK (c_X12_done l D dA H.size a (some (ba 0)) q1 g2 g3 g4 g5 g6 g7 g8 g9 g10 g11 g12 g13 g14 g15 g16 g17 g18 z0 s0 r24.1 r24.2 hc24) ⟨ww_7_100, ww_7_97, ww_7_99, ws_71, ww_1_12, rfl, by decide, by decide⟩ rfl rfl (by decide +kernel) ⟨Nat.le_of_ble_eq_true rfl, Nat.le_of_ble_eq_true rfl⟩ hP hD hS hA hE [0] rfl (by decide) 0 rfl rfl rfl hl.1 rfl (Nat.le_of_ble_eq_true rfl) dX12_seat_62 ⟨Nat.le_of_ble_eq_true rfl, Nat.le_of_ble_eq_true rfl⟩) hP hD hS hA [0] [1, 2, 3, 4, 5, 6, 7, 8, 9, 10, 11, 12, 13, 14, 15, 16] [16, 0, 1, 2, 3, 4, 5, 6, 7, 8, 9, 10, 11, 12, 13, 14, 15] rfl rfl (by decide) (by decide) rfl (by decide) (fun H locs hP hD hS => ?_)
    exact RET _ _ H _ ls 65 hf hP hD hS dX12_seat_65
  have B_5 : ∀ (v1 : Int32) (v2 : Int32) (z0 : MOT) (H : Heap) (locs : List Loc) (ls : Array Slot), f_X12_seat_b5 bu v1 v2 z0 = some (rv, u0) → va_P D vwCl (w_MO dA a (some (ba 0)) q1 g2 g3 g4 g5 g6 g7 g8 g9 g10 g11 g12 g13 g14 g15 g16 g17 g18 z0 ++ (w_Bus dA ba bu)) H → va_D A (w_MO dA a (some (ba 0)) q1 g2 g3 g4 g5 g6 g7 g8 g9 g10 g11 g12 g13 g14 g15 g16 g17 g18 z0 ++ (w_Bus dA ba bu)) → va_S A s.heap H locs → lv_has ls 3 [(0, .ref (a 0)), (1, .int v1), (2, .int v2)] → W p l e ({ frames := 3, cells := 0, slots := 0, locals := 64 } : Room) s m ([.ref (a 0), .int x0, .int x1] : List Value).toArray below meth c H locs 0 0 Q (F0 m 5 ls []) := by
    intro v1 v2 z0 H locs ls hf hP hD hS hl
    rw [f_X12_seat_b5] at hf
    refine lv_aload_n hx hb dX12_seat_5 rfl (lv_at hl 0 rfl) ?_
    refine va_get (D := D) (ci := 12) (v := .ref (ba 0)) (C := RX12) (T := TX12) (N := 35) hx hb hts kb_inX12 hown hK.1 hP 0 rfl rfl 3 (by decide) (hK.2.w ww_5_203 rfl _) (fun _ h9 => h9) rfl dX12_seat_6 ?_
    refine lv_ifnull hx hb dX12_seat_9 ?_
    refine lv_iload_n hx hb dX12_seat_12 rfl (lv_at hl 1 rfl) ?_
    refine lv_if_lt (tgt := 38) hx hb dX12_seat_13 (by decide) (fun c_1 => ?_) (fun c_1 => ?_)
    · rw [if_pos c_1] at hf
      exact B_38 _ _ _ _ hf hP hD hS (lv_sub hl [0] rfl)
    · rw [if_neg c_1] at hf
      refine lv_iload_n hx hb dX12_seat_16 rfl (lv_at hl 1 rfl) ?_
      refine lv_iconst (v := (4 : Int32)) hx hb dX12_seat_17 (by decide) ?_
      refine lv_aload_n hx hb dX12_seat_18 rfl (lv_at hl 0 rfl) ?_
      refine va_get (D := D) (ci := 12) (v := .ref (ba 0)) (C := RX12) (T := TX12) (N := 35) hx hb hts kb_inX12 hown hK.1 hP 0 rfl rfl 3 (by decide) (hK.2.w ww_5_203 rfl _) (fun _ h9 => h9) rfl dX12_seat_19 ?_
      refine va_getN (D := D) (ci := 11) (v := .int (bu_rows bu)) (C := RX11) (T := TX11) (N := 26) hx hb hts kb_inX11 hown hK.1 hP 1 rfl rfl 0 (by decide) (hK.2.nb ww_6_89 rfl rfl _) (fun _ h9 => h9) rfl dX12_seat_22 ?_
      refine lv_imul hx hb dX12_seat_25 ?_
      refine lv_icmp_ge (tgt := 38) hx hb dX12_seat_26 (by decide) (fun c_3 => ?_) (fun c_3 => ?_)
      · rw [if_pos c_3] at hf
        exact B_38 _ _ _ _ hf hP hD hS (lv_sub hl [0] rfl)
      · rw [if_neg c_3] at hf
        refine lv_iload_n hx hb dX12_seat_29 rfl (lv_at hl 2 rfl) ?_
        refine lv_iconst (v := (0 : Int32)) hx hb dX12_seat_30 (by decide) ?_
        refine lv_iconst (v := (3 : Int32)) hx hb dX12_seat_31 (by decide) ?_
        obtain ⟨r4, hc4, hf⟩ := kb_bind hf
        refine kb_ci (ws2 := (w_MO dA a (some (ba 0)) q1 g2 g3 g4 g5 g6 g7 g8 g9 g10 g11 g12 g13 g14 g15 g16 g17 g18 z0 ++ (w_Bus dA ba bu))) (kb_rS (n := 3) (As := [.int v2, .int (0 : Int32), .int (3 : Int32)]) (rest := []) hx hb hml hown hK (c_X12_in l D dA H.size v2 (0 : Int32) (3 : Int32) r4 hc4) ⟨ww_7_2, ww_7_0, ww_7_1, ww_1_12, by decide, by decide⟩ rfl rfl (by decide +kernel) ⟨Nat.le_of_ble_eq_true rfl, Nat.le_of_ble_eq_true rfl⟩ hP hD hS hA hE [] rfl (by decide) rfl hl.1 rfl (Nat.le_of_ble_eq_true rfl) dX12_seat_32 ⟨Nat.le_of_ble_eq_true rfl, Nat.le_of_ble_eq_true rfl⟩) hP hD hS hA [] [0, 1, 2, 3, 4, 5, 6, 7, 8, 9, 10, 11, 12, 13, 14, 15, 16] [0, 1, 2, 3, 4, 5, 6, 7, 8, 9, 10, 11, 12, 13, 14, 15, 16] rfl rfl (by decide) (by decide) rfl (by decide) (fun H locs hP hD hS => ?_)
        refine lv_if_ne (tgt := 44) hx hb dX12_seat_35 (by decide) (fun c_5 => ?_) (fun c_5 => ?_)
        · rw [if_neg c_5] at hf
          refine lv_iload_n hx hb dX12_seat_44 rfl (lv_at hl 2 rfl) ?_
          refine lv_if_ne (tgt := 66) hx hb dX12_seat_45 (by decide) (fun c_6 => ?_) (fun c_6 => ?_)
          · rw [if_neg c_6] at hf
            refine lv_aload_n hx hb dX12_seat_66 rfl (lv_at hl 0 rfl) ?_
            refine lv_iload_n hx hb dX12_seat_67 rfl (lv_at hl 1 rfl) ?_
            obtain ⟨r7, hc7, hf⟩ := kb_bind hf
            refine kb_ci (ws2 := (w_MO dA a (some (ba 0)) q1 g2 g3 g4 g5 g6 g7 g8 g9 g10 g11 g12 g13 g14 g15 g16 g17 g18 z0 ++ (w_Bus dA ba bu))) (kb_rV (n := 1) (As := [.int v1]) (rest := []) hx hb hml hown hK (c_X12_isSeat l D dA H.size a ba q1 g2 g3 g4 g5 g6 g7 g8 g9 g10 g11 g12 g13 g14 g15 g16 g17 g18 z0 bu v1 r7 hc7) ⟨ww_7_179, ww_7_176, ww_7_178, ws_84, ww_1_12, rfl, by decide, by decide⟩ rfl rfl (by decide +kernel) ⟨Nat.le_of_ble_eq_true rfl, Nat.le_of_ble_eq_true rfl⟩ hP hD hS hA hE [0, 1, 2, 3, 4, 5, 6, 7, 8, 9, 10, 11, 12, 13, 14, 15, 16] rfl (by decide) 0 rfl rfl rfl hl.1 rfl (Nat.le_of_ble_eq_true rfl) dX12_seat_68 ⟨Nat.le_of_ble_eq_true rfl, Nat.le_of_ble_eq_true rfl⟩) hP hD hS hA [0, 1, 2, 3, 4, 5, 6, 7, 8, 9, 10, 11, 12, 13, 14, 15, 16] [] [0, 1, 2, 3, 4, 5, 6, 7, 8, 9, 10, 11, 12, 13, 14, 15, 16] rfl rfl (by decide) (by decide) rfl (by decide) (fun H locs hP hD hS => ?_)
            refine lv_if_ne (tgt := 80) hx hb dX12_seat_71 (by decide) (fun c_8 => ?_) (fun c_8 => ?_)
            · rw [if_neg c_8] at hf
              refine lv_iload_n hx hb dX12_seat_80 rfl (lv_at hl 2 rfl) ?_
              refine lv_iconst (v := (1 : Int32)) hx hb dX12_seat_81 (by decide) ?_
              refine lv_icmp_ne (tgt := 104) hx hb dX12_seat_82 (by decide) (fun c_9 => ?_) (fun c_9 => ?_)
              · rw [if_neg c_9] at hf
                refine lv_iload_n hx hb dX12_seat_104 rfl (lv_at hl 2 rfl) ?_
                refine lv_iconst (v := (2 : Int32)) hx hb dX12_seat_105 (by decide) ?_
                refine lv_icmp_ne (tgt := 135) hx hb dX12_seat_106 (by decide) (fun c_10 => ?_) (fun c_10 => ?_)
                · rw [if_neg c_10] at hf
                  refine lv_aload_n hx hb dX12_seat_135 rfl (lv_at hl 0 rfl) ?_
                  refine lv_aload_n hx hb dX12_seat_136 rfl (lv_at hl 0 rfl) ?_
                  refine lv_iload_n hx hb dX12_seat_137 rfl (lv_at hl 1 rfl) ?_
                  obtain ⟨r11, hc11, hf⟩ := kb_bind hf
                  refine kb_ci (ws2 := (w_MO dA a (some (ba 0)) q1 g2 g3 g4 g5 g6 g7 g8 g9 g10 g11 g12 g13 g14 g15 g16 g17 g18 z0 ++ (w_Bus dA ba bu))) (kb_rV (n := 1) (As := [.int v1]) (rest := [.ref (a 0)]) hx hb hml hown hK (c_X12_beside l D dA H.size a ba q1 g2 g3 g4 g5 g6 g7 g8 g9 g10 g11 g12 g13 g14 g15 g16 g17 g18 z0 bu v1 r11 hc11) ⟨ww_7_139, ww_7_136, ww_7_138, ws_77, ww_1_12, rfl, by decide, by decide⟩ rfl rfl (by decide +kernel) ⟨Nat.le_of_ble_eq_true rfl, Nat.le_of_ble_eq_true rfl⟩ hP hD hS hA hE [0, 1, 2, 3, 4, 5, 6, 7, 8, 9, 10, 11, 12, 13, 14, 15, 16] rfl (by decide) 0 rfl rfl rfl hl.1 rfl (Nat.le_of_ble_eq_true rfl) dX12_seat_138 ⟨Nat.le_of_ble_eq_true rfl, Nat.le_of_ble_eq_true rfl⟩) hP hD hS hA [0, 1, 2, 3, 4, 5, 6, 7, 8, 9, 10, 11, 12, 13, 14, 15, 16] [] [0, 1, 2, 3, 4, 5, 6, 7, 8, 9, 10, 11, 12, 13, 14, 15, 16] rfl rfl (by decide) (by decide) rfl (by decide) (fun H locs hP hD hS => ?_)
                  refine lv_iconst (v := (-1 : Int32)) hx hb dX12_seat_141 (by decide) ?_
                  refine lv_icmp_ne (tgt := 150) hx hb dX12_seat_142 (by decide) (fun c_12 => ?_) (fun c_12 => ?_)
                  · rw [if_neg c_12] at hf
                    refine lv_aload_n hx hb dX12_seat_150 rfl (lv_at hl 0 rfl) ?_
                    refine lv_iload_n hx hb dX12_seat_151 rfl (lv_at hl 1 rfl) ?_
                    obtain ⟨r13, hc13, hf⟩ := kb_bind hf
                    refine kb_ci (ws2 := (w_MO dA a (some (ba 0)) q1 g2 g3 g4 g5 g6 g7 g8 g9 g10 g11 g12 g13 g14 g15 g16 g17 g18 z0 ++ (w_Bus dA ba bu))) (kb_rV (n := 1) (As := [.int v1]) (rest := [.ref (a 0)]) hx hb hml hown hK (c_X12_beside l D dA H.size a ba q1 g2 g3 g4 g5 g6 g7 g8 g9 g10 g11 g12 g13 g14 g15 g16 g17 g18 z0 bu v1 r13 hc13) ⟨ww_7_139, ww_7_136, ww_7_138, ws_77, ww_1_12, rfl, by decide, by decide⟩ rfl rfl (by decide +kernel) ⟨Nat.le_of_ble_eq_true rfl, Nat.le_of_ble_eq_true rfl⟩ hP hD hS hA hE [0, 1, 2, 3, 4, 5, 6, 7, 8, 9, 10, 11, 12, 13, 14, 15, 16] rfl (by decide) 0 rfl rfl rfl hl.1 rfl (Nat.le_of_ble_eq_true rfl) dX12_seat_152 ⟨Nat.le_of_ble_eq_true rfl, Nat.le_of_ble_eq_true rfl⟩) hP hD hS hA [0, 1, 2, 3, 4, 5, 6, 7, 8, 9, 10, 11, 12, 13, 14, 15, 16] [] [0, 1, 2, 3, 4, 5, 6, 7, 8, 9, 10, 11, 12, 13, 14, 15, 16] rfl rfl (by decide) (by decide) rfl (by decide) (fun H locs hP hD hS => ?_)
                    exact B_155 _ _ _ _ _ hf hP hD hS (lv_sub hl [] rfl)
                  · rw [if_pos c_12] at hf
                    refine lv_bipush (v := (-2 : Int32)) hx hb dX12_seat_145 (by decide) ?_
                    refine lv_goto (tgt := 155) hx hb dX12_seat_147 (by decide) ?_
                    exact B_155 _ _ _ _ _ hf hP hD hS (lv_sub hl [] rfl)
                · rw [if_pos c_10] at hf
                  refine lv_aload_n hx hb dX12_seat_109 rfl (lv_at hl 0 rfl) ?_
                  refine lv_aload_n hx hb dX12_seat_110 rfl (lv_at hl 0 rfl) ?_
                  refine va_get (D := D) (ci := 12) (v := .ref (ba 0)) (C := RX12) (T := TX12) (N := 35) hx hb hts kb_inX12 hown hK.1 hP 0 rfl rfl 3 (by decide) (hK.2.w ww_5_203 rfl _) (fun _ h9 => h9) rfl dX12_seat_111 ?_
                  refine va_getN (D := D) (ci := 11) (v := .int (bu_form bu)) (C := RX11) (T := TX11) (N := 26) hx hb hts kb_inX11 hown hK.1 hP 1 rfl rfl 1 (by decide) (hK.2.nb ww_6_90 rfl rfl _) (fun _ h9 => h9) rfl dX12_seat_114 ?_
                  refine lv_iload_n hx hb dX12_seat_117 rfl (lv_at hl 1 rfl) ?_
                  refine lv_iconst (v := (3 : Int32)) hx hb dX12_seat_118 (by decide) ?_
                  refine lv_iand hx hb dX12_seat_119 ?_
                  obtain ⟨r15, hc15, hf⟩ := kb_bind hf
                  refine kb_ci (ws2 := (w_MO dA a (some (ba 0)) q1 g2 g3 g4 g5 g6 g7 g8 g9 g10 g11 g12 g13 g14 g15 g16 g17 g18 z0 ++ (w_Bus dA ba bu))) (kb_rS (n := 2) (As := [.int (bu_form bu), .int (v1 &&& (3 : Int32))]) (rest := [.ref (a 0)]) hx hb hml hown hK (c_X12_isAisleOf l D dA H.size (bu_form bu) (v1 &&& (3 : Int32)) r15 hc15) ⟨ww_7_148, ww_7_146, ww_7_147, ww_1_12, by decide, by decide⟩ rfl rfl (by decide +kernel) ⟨Nat.le_of_ble_eq_true rfl, Nat.le_of_ble_eq_true rfl⟩ hP hD hS hA hE [] rfl (by decide) rfl hl.1 rfl (Nat.le_of_ble_eq_true rfl) dX12_seat_120 ⟨Nat.le_of_ble_eq_true rfl, Nat.le_of_ble_eq_true rfl⟩) hP hD hS hA [] [0, 1, 2, 3, 4, 5, 6, 7, 8, 9, 10, 11, 12, 13, 14, 15, 16] [0, 1, 2, 3, 4, 5, 6, 7, 8, 9, 10, 11, 12, 13, 14, 15, 16] rfl rfl (by decide) (by decide) rfl (by decide) (fun H locs hP hD hS => ?_)
                  refine lv_if_eq (tgt := 130) hx hb dX12_seat_123 (by decide) (fun c_16 => ?_) (fun c_16 => ?_)
                  · rw [if_pos c_16] at hf
                    refine lv_iconst (v := (0 : Int32)) hx hb dX12_seat_130 (by decide) ?_
                    exact B_131 _ _ _ _ _ hf hP hD hS (lv_sub hl [] rfl)
                  · rw [if_neg c_16] at hf
                    refine lv_iconst (v := (1 : Int32)) hx hb dX12_seat_126 (by decide) ?_
                    refine lv_goto (tgt := 131) hx hb dX12_seat_127 (by decide) ?_
                    exact B_131 _ _ _ _ _ hf hP hD hS (lv_sub hl [] rfl)
              · rw [if_pos c_9] at hf
                refine lv_aload_n hx hb dX12_seat_85 rfl (lv_at hl 0 rfl) ?_
                refine lv_iload_n hx hb dX12_seat_86 rfl (lv_at hl 1 rfl) ?_
                refine lv_iconst (v := (3 : Int32)) hx hb dX12_seat_87 (by decide) ?_
                refine lv_iand hx hb dX12_seat_88 ?_
                obtain ⟨r18, hc18, hf⟩ := kb_bind hf
                refine kb_ci (ws2 := (w_MO dA a (some (ba 0)) q1 g2 g3 g4 g5 g6 g7 g8 g9 g10 g11 g12 g13 g14 g15 g16 g17 g18 z0 ++ (w_Bus dA ba bu))) (kb_rS (n := 1) (As := [.int (v1 &&& (3 : Int32))]) (rest := [.ref (a 0)]) hx hb hml hown hK (c_X12_isWindow l D dA H.size (v1 &&& (3 : Int32)) r18 hc18) ⟨ww_7_151, ww_7_149, ww_7_150, ww_1_12, by decide, by decide⟩ rfl rfl (by decide +kernel) ⟨Nat.le_of_ble_eq_true rfl, Nat.le_of_ble_eq_true rfl⟩ hP hD hS hA hE [] rfl (by decide) rfl hl.1 rfl (Nat.le_of_ble_eq_true rfl) dX12_seat_89 ⟨Nat.le_of_ble_eq_true rfl, Nat.le_of_ble_eq_true rfl⟩) hP hD hS hA [] [0, 1, 2, 3, 4, 5, 6, 7, 8, 9, 10, 11, 12, 13, 14, 15, 16] [0, 1, 2, 3, 4, 5, 6, 7, 8, 9, 10, 11, 12, 13, 14, 15, 16] rfl rfl (by decide) (by decide) rfl (by decide) (fun H locs hP hD hS => ?_)
                refine lv_if_eq (tgt := 99) hx hb dX12_seat_92 (by decide) (fun c_19 => ?_) (fun c_19 => ?_)
                · rw [if_pos c_19] at hf
                  refine lv_iconst (v := (0 : Int32)) hx hb dX12_seat_99 (by decide) ?_
                  exact B_100 _ _ _ _ _ hf hP hD hS (lv_sub hl [] rfl)
                · rw [if_neg c_19] at hf
                  refine lv_iconst (v := (1 : Int32)) hx hb dX12_seat_95 (by decide) ?_
                  refine lv_goto (tgt := 100) hx hb dX12_seat_96 (by decide) ?_
                  exact B_100 _ _ _ _ _ hf hP hD hS (lv_sub hl [] rfl)
            · rw [if_pos c_8] at hf
              refine lv_aload_n hx hb dX12_seat_74 rfl (lv_at hl 0 rfl) ?_
              refine lv_iconst (v := (1 : Int32)) hx hb dX12_seat_75 (by decide) ?_
              obtain ⟨r21, hc21, hf⟩ := kb_bind hf
              refine kb_ci (ws2 := (w_MO dA a (some (ba 0)) q1 g2 g3 g4 g5 g6 g7 g8 g9 g10 g11 g12 g13 g14 g15 g16 g17 g18 r21.2 ++ (w_Bus dA ba bu))) (kb_rV (n := 1) (As := [.int (1 : Int32)]) (rest := []) hx hb hml hown hK (c_X12_refused l D dA H.size a (some (ba 0)) q1 g2 g3 g4 g5 g6 g7 g8 g9 g10 g11 g12 g13 g14 g15 g16 g17 g18 z0 (1 : Int32) r21.1 r21.2 hc21) ⟨ww_6_82, ww_6_79, ww_6_81, ws_46, ww_1_12, rfl, by decide, by decide⟩ rfl rfl (by decide +kernel) ⟨Nat.le_of_ble_eq_true rfl, Nat.le_of_ble_eq_true rfl⟩ hP hD hS hA hE [0] rfl (by decide) 0 rfl rfl rfl hl.1 rfl (Nat.le_of_ble_eq_true rfl) dX12_seat_76 ⟨Nat.le_of_ble_eq_true rfl, Nat.le_of_ble_eq_true rfl⟩) hP hD hS hA [0] [1, 2, 3, 4, 5, 6, 7, 8, 9, 10, 11, 12, 13, 14, 15, 16] [16, 0, 1, 2, 3, 4, 5, 6, 7, 8, 9, 10, 11, 12, 13, 14, 15] rfl rfl (by decide) (by decide) rfl (by decide) (fun H locs hP hD hS => ?_)
              exact RET _ _ H _ ls 79 hf hP hD hS dX12_seat_79
          · rw [if_pos c_6] at hf
            refine lv_aload_n hx hb dX12_seat_48 rfl (lv_at hl 0 rfl) ?_
            refine lv_aload_n hx hb dX12_seat_49 rfl (lv_at hl 0 rfl) ?_
            refine lv_iload_n hx hb dX12_seat_50 rfl (lv_at hl 1 rfl) ?_
            obtain ⟨r22, hc22, hf⟩ := kb_bind hf
            refine kb_ci (ws2 := (w_MO dA a (some (ba 0)) q1 g2 g3 g4 g5 g6 g7 g8 g9 g10 g11 g12 g13 g14 g15 g16 g17 g18 z0 ++ (w_Bus dA ba bu))) (kb_rV (n := 1) (As := [.int v1]) (rest := [.ref (a 0)]) hx hb hml hown hK (c_X12_isSeat l D dA H.size a ba q1 g2 g3 g4 g5 g6 g7 g8 g9 g10 g11 g12 g13 g14 g15 g16 g17 g18 z0 bu v1 r22 hc22) ⟨ww_7_179, ww_7_176, ww_7_178, ws_84, ww_1_12, rfl, by decide, by decide⟩ rfl rfl (by decide +kernel) ⟨Nat.le_of_ble_eq_true rfl, Nat.le_of_ble_eq_true rfl⟩ hP hD hS hA hE [0, 1, 2, 3, 4, 5, 6, 7, 8, 9, 10, 11, 12, 13, 14, 15, 16] rfl (by decide) 0 rfl rfl rfl hl.1 rfl (Nat.le_of_ble_eq_true rfl) dX12_seat_51 ⟨Nat.le_of_ble_eq_true rfl, Nat.le_of_ble_eq_true rfl⟩) hP hD hS hA [0, 1, 2, 3, 4, 5, 6, 7, 8, 9, 10, 11, 12, 13, 14, 15, 16] [] [0, 1, 2, 3, 4, 5, 6, 7, 8, 9, 10, 11, 12, 13, 14, 15, 16] rfl rfl (by decide) (by decide) rfl (by decide) (fun H locs hP hD hS => ?_)
            refine lv_if_eq (tgt := 61) hx hb dX12_seat_54 (by decide) (fun c_23 => ?_) (fun c_23 => ?_)
            · rw [if_pos c_23] at hf
              refine lv_iconst (v := (0 : Int32)) hx hb dX12_seat_61 (by decide) ?_
              exact B_62 _ _ _ _ _ hf hP hD hS (lv_sub hl [] rfl)
            · rw [if_neg c_23] at hf
              refine lv_iconst (v := (1 : Int32)) hx hb dX12_seat_57 (by decide) ?_
              refine lv_goto (tgt := 62) hx hb dX12_seat_58 (by decide) ?_
              exact B_62 _ _ _ _ _ hf hP hD hS (lv_sub hl [] rfl)
        · rw [if_pos c_5] at hf
          exact B_38 _ _ _ _ hf hP hD hS (lv_sub hl [0] rfl)
  have E0 : ∀ (H : Heap) (locs : List Loc), va_P D vwCl (w_MO dA a (some (ba 0)) q1 g2 g3 g4 g5 g6 g7 g8 g9 g10 g11 g12 g13 g14 g15 g16 g17 g18 mo ++ (w_Bus dA ba bu)) H → va_D A (w_MO dA a (some (ba 0)) q1 g2 g3 g4 g5 g6 g7 g8 g9 g10 g11 g12 g13 g14 g15 g16 g17 g18 mo ++ (w_Bus dA ba bu)) → va_S A s.heap H locs → W p l e ({ frames := 3, cells := 0, slots := 0, locals := 64 } : Room) s m ([.ref (a 0), .int x0, .int x1] : List Value).toArray below meth c H locs 0 0 Q (F0 m 0 ls []) := by
    intro H locs hP hD hS
    rw [f_X12_seat] at hf
    refine lv_aload_n hx hb dX12_seat_0 rfl (lv_at hl 0 rfl) ?_
    refine lv_iconst (v := (0 : Int32)) hx hb dX12_seat_1 (by decide) ?_
    refine va_put (D := D) (ci := 12) (v := .int (0 : Int32)) (ty := .int) (C := RX12) (T := TX12) (N := 35) hx hb hts kb_inX12 tyX12 tyX12_ok nmX12 hown hK.1 hP hD hS 0 rfl rfl 0 (by decide) (hK.2.w ww_5_200 rfl _) (fun _ h9 => h9) rfl (by decide +kernel) rfl rfl (Nat.le_of_ble_eq_true rfl) dX12_seat_2 (fun H locs hP hD hS => ?_)
    have hP : va_P D vwCl (w_MO dA a (some (ba 0)) q1 g2 g3 g4 g5 g6 g7 g8 g9 g10 g11 g12 g13 g14 g15 g16 g17 g18 (mo_set_thrown mo (0 : Int32)) ++ (w_Bus dA ba bu)) H := hP
    have hD : va_D A (w_MO dA a (some (ba 0)) q1 g2 g3 g4 g5 g6 g7 g8 g9 g10 g11 g12 g13 g14 g15 g16 g17 g18 (mo_set_thrown mo (0 : Int32)) ++ (w_Bus dA ba bu)) := hD
    exact B_5 _ _ _ _ _ _ hf hP hD hS (lv_sub hl [0, 1, 2] rfl)
  exact E0 _ _ hP hD hS

noncomputable def f_X12_rider_b5 (bu : BusT) (v1 : Int32) (v2 : Int32) (z0 : MOT) : Option (Int32 × MOT) := (f_X12_isRider z0 bu v1).bind fun r1 => (if r1 = 0 then some ((-1 : Int32), z0) else (f_X12_in v2 (0 : Int32) (7 : Int32)).bind fun r3 => (if r3 = 0 then some ((-1 : Int32), z0) else (if v2 = (0 : Int32) then if kb_in? v1 8 then some (((bu_on bu) (v1).toNatClampNeg), z0) else none else (if v2 = (1 : Int32) then if kb_in? v1 8 then some (((bu_off bu) (v1).toNatClampNeg), z0) else none else (if v2 = (2 : Int32) then if kb_in? v1 8 then some (((bu_rule bu) (v1).toNatClampNeg), z0) else none else (if v2 = (3 : Int32) then if kb_in? v1 8 then some (((bu_looks bu) (v1).toNatClampNeg), z0) else none else (if v2 = (4 : Int32) then if kb_in? v1 8 then some (((bu_age bu) (v1).toNatClampNeg), z0) else none else (if v2 = (5 : Int32) then if kb_in? v1 8 then (if ((bu_hasBag bu) (v1).toNatClampNeg) = 0 then some ((0 : Int32), z0) else some ((1 : Int32), z0)) else none else (if v2 = (6 : Int32) then if kb_in? v1 8 then (if ((bu_isProud bu) (v1).toNatClampNeg) = 0 then some ((0 : Int32), z0) else some ((1 : Int32), z0)) else none else if kb_in? v1 8 then (if ((bu_holds bu) (v1).toNatClampNeg) = (-1 : Int32) then some ((-2 : Int32), z0) else if kb_in? v1 8 then some (((bu_holds bu) (v1).toNatClampNeg), z0) else none) else none)))))))))
noncomputable def f_X12_rider (mo : MOT) (bu : BusT) (x0 : Int32) (x1 : Int32) : Option (Int32 × MOT) := f_X12_rider_b5 bu x0 x1 (mo_set_thrown mo (0 : Int32))
set_option maxHeartbeats 4000000 in
set_option maxRecDepth 100000 in
theorem c_X12_rider (l : Launch) (D : va_G) (dA : Nat → ClassId) (sz : Nat) (a : Nat → Nat) (ba : Nat → Nat) (q1 : Option Nat) (g2 : Nat) (g3 : Nat) (g4 : Nat) (g5 : Nat) (g6 : Nat) (g7 : Nat) (g8 : Nat) (g9 : Nat) (g10 : Nat) (g11 : Nat) (g12 : Nat) (g13 : Nat) (g14 : Nat) (g15 : Nat) (g16 : Nat) (g17 : Nat) (g18 : Nat) (mo : MOT) (bu : BusT) (x0 : Int32) (x1 : Int32) (rv : Int32) (u0 : MOT) (hf : f_X12_rider mo bu x0 x1 = some (rv, u0)) : kb_Mi l yX12_rider cX12_rider 3 (some .int) ({ frames := 1, cells := 0, slots := 0, locals := 22 } : Room) D dA [.ref (a 0), .int x0, .int x1] sz (w_MO dA a (some (ba 0)) q1 g2 g3 g4 g5 g6 g7 g8 g9 g10 g11 g12 g13 g14 g15 g16 g17 g18 mo ++ (w_Bus dA ba bu)) 0 0 rv (w_MO dA a (some (ba 0)) q1 g2 g3 g4 g5 g6 g7 g8 g9 g10 g11 g12 g13 g14 g15 g16 g17 g18 u0 ++ (w_Bus dA ba bu)) := by
  refine Met.ofW (cc := cX12_rider) (maxL := 3) (ret := (some .int)) (by decide) rfl ?_
  intro p e s m args below meth c s₁ B hml hv
  obtain ⟨rfl, hsz, hP, hK, hD0, hE⟩ := hv
  have hx := B.exec
  have hb := B.bytes
  have hr := B.returns
  have hown : s.vm.findClass RX12 = some m.cls := findClass_of_methodNamed B.named
  have hlocks := B.notSynchronized
  have hts : ∀ w ∈ kb_gw, w.before ([.ref (a 0), .int x0, .int x1] : List Value).toArray s = true := fun w hw => hK.2.1 w hw _
  subst hsz
  have hD := hD0.self (sz := s.heap.size)
  generalize hAe : va_A (w_MO dA a (some (ba 0)) q1 g2 g3 g4 g5 g6 g7 g8 g9 g10 g11 g12 g13 g14 g15 g16 g17 g18 mo ++ (w_Bus dA ba bu)) s.heap.size = A at hD hE ⊢
  have hA : ∀ q : Nat, s.heap.size ≤ q → A q := fun q h => by rw [← hAe]; exact Or.inr h
  have hS : va_S A s.heap s.heap [] := va_S.rf
  have hl := lv_entry ([.ref (a 0), .int x0, .int x1]) (n := 3) (Nat.le_of_ble_eq_true rfl)
  rw [lg_entry_eq]
  generalize (lg_sl ([.ref (a 0), .int x0, .int x1]) ++ List.replicate (3 - (lg_sl ([.ref (a 0), .int x0, .int x1])).length) Slot.unset).toArray = ls at hl ⊢
  have hl : lv_has ls 3 [(0, .ref (a 0)), (1, .int x0), (2, .int x1)] := hl
  generalize hQ : MQ below (va_Qi (fun r (_ : Unit) => r = rv) (kb_B D A (w_MO dA a (some (ba 0)) q1 g2 g3 g4 g5 g6 g7 g8 g9 g10 g11 g12 g13 g14 g15 g16 g17 g18 u0 ++ (w_Bus dA ba bu))) A) ([.ref (a 0), .int x0, .int x1] : List Value).toArray s 0 0 A = Q
  show W p l e ({ frames := 1, cells := 0, slots := 0, locals := 22 } : Room) s m ([.ref (a 0), .int x0, .int x1] : List Value).toArray below meth c s.heap [] 0 0 Q (F0 m 0 ls [])
  have RET : ∀ (r2 : Int32) (w0 : MOT) (H : Heap) (locs : List Loc) (ls : Array Slot) (pc : Nat), some (r2, w0) = some (rv, u0) → va_P D vwCl (w_MO dA a (some (ba 0)) q1 g2 g3 g4 g5 g6 g7 g8 g9 g10 g11 g12 g13 g14 g15 g16 g17 g18 w0 ++ (w_Bus dA ba bu)) H → va_D A (w_MO dA a (some (ba 0)) q1 g2 g3 g4 g5 g6 g7 g8 g9 g10 g11 g12 g13 g14 g15 g16 g17 g18 w0 ++ (w_Bus dA ba bu)) → va_S A s.heap H locs → decode cX12_rider pc = .ok (.ireturn, 1) → W p l e ({ frames := 1, cells := 0, slots := 0, locals := 22 } : Room) s m ([.ref (a 0), .int x0, .int x1] : List Value).toArray below meth c H locs 0 0 Q (F0 m pc ls [.int r2]) := by
    intro r2 w0 H locs ls pc hq hP hD hS hd
    cases hq
    rw [← hQ]
    exact W.iret hx hb hr (fun t ht hW => ⟨⟨_, (), rfl, rfl, by rw [ht]; exact hP, hD⟩, hS.F ht⟩) hS.2.2 hd
  have B_5 : ∀ (v1 : Int32) (v2 : Int32) (z0 : MOT) (H : Heap) (locs : List Loc) (ls : Array Slot), f_X12_rider_b5 bu v1 v2 z0 = some (rv, u0) → va_P D vwCl (w_MO dA a (some (ba 0)) q1 g2 g3 g4 g5 g6 g7 g8 g9 g10 g11 g12 g13 g14 g15 g16 g17 g18 z0 ++ (w_Bus dA ba bu)) H → va_D A (w_MO dA a (some (ba 0)) q1 g2 g3 g4 g5 g6 g7 g8 g9 g10 g11 g12 g13 g14 g15 g16 g17 g18 z0 ++ (w_Bus dA ba bu)) → va_S A s.heap H locs → lv_has ls 3 [(0, .ref (a 0)), (1, .int v1), (2, .int v2)] → W p l e ({ frames := 1, cells := 0, slots := 0, locals := 22 } : Room) s m ([.ref (a 0), .int x0, .int x1] : List Value).toArray below meth c H locs 0 0 Q (F0 m 5 ls []) := by
    intro v1 v2 z0 H locs ls hf hP hD hS hl
    rw [f_X12_rider_b5] at hf
    refine lv_aload_n hx hb dX12_rider_5 rfl (lv_at hl 0 rfl) ?_
    refine lv_iload_n hx hb dX12_rider_6 rfl (lv_at hl 1 rfl) ?_
    obtain ⟨r1, hc1, hf⟩ := kb_bind hf
    refine kb_ci (ws2 := (w_MO dA a (some (ba 0)) q1 g2 g3 g4 g5 g6 g7 g8 g9 g10 g11 g12 g13 g14 g15 g16 g17 g18 z0 ++ (w_Bus dA ba bu))) (kb_rV (n := 1) (As := [.int v1]) (rest := []) hx hb hml hown hK (c_X12_isRider l D dA H.size a ba q1 g2 g3 g4 g5 g6 g7 g8 g9 g10 g11 g12 g13 g14 g15 g16 g17 g18 z0 bu v1 r1 hc1) ⟨ww_8_5, ww_8_2, ww_8_4, ws_95, ww_1_12, rfl, by decide, by decide⟩ rfl rfl (by decide +kernel) ⟨Nat.le_of_ble_eq_true rfl, Nat.le_of_ble_eq_true rfl⟩ hP hD hS hA hE [0, 1, 2, 3, 4, 5, 6, 7, 8, 9, 10, 11, 12, 13, 14, 15, 16] rfl (by decide) 0 rfl rfl rfl hl.1 rfl (Nat.le_of_ble_eq_true rfl) dX12_rider_7 ⟨Nat.le_of_ble_eq_true rfl, Nat.le_of_ble_eq_true rfl⟩) hP hD hS hA [0, 1, 2, 3, 4, 5, 6, 7, 8, 9, 10, 11, 12, 13, 14, 15, 16] [] [0, 1, 2, 3, 4, 5, 6, 7, 8, 9, 10, 11, 12, 13, 14, 15, 16] rfl rfl (by decide) (by decide) rfl (by decide) (fun H locs hP hD hS => ?_)
    refine lv_if_eq (tgt := 23) hx hb dX12_rider_10 (by decide) (fun c_2 => ?_) (fun c_2 => ?_)
    · rw [if_pos c_2] at hf
      refine lv_iconst (v := (-1 : Int32)) hx hb dX12_rider_23 (by decide) ?_
      exact RET _ _ H _ ls 24 hf hP hD hS dX12_rider_24
    · rw [if_neg c_2] at hf
      refine lv_iload_n hx hb dX12_rider_13 rfl (lv_at hl 2 rfl) ?_
      refine lv_iconst (v := (0 : Int32)) hx hb dX12_rider_14 (by decide) ?_
      refine lv_bipush (v := (7 : Int32)) hx hb dX12_rider_15 (by decide) ?_
      obtain ⟨r3, hc3, hf⟩ := kb_bind hf
      refine kb_ci (ws2 := (w_MO dA a (some (ba 0)) q1 g2 g3 g4 g5 g6 g7 g8 g9 g10 g11 g12 g13 g14 g15 g16 g17 g18 z0 ++ (w_Bus dA ba bu))) (kb_rS (n := 3) (As := [.int v2, .int (0 : Int32), .int (7 : Int32)]) (rest := []) hx hb hml hown hK (c_X12_in l D dA H.size v2 (0 : Int32) (7 : Int32) r3 hc3) ⟨ww_7_2, ww_7_0, ww_7_1, ww_1_12, by decide, by decide⟩ rfl rfl (by decide +kernel) ⟨Nat.le_of_ble_eq_true rfl, Nat.le_of_ble_eq_true rfl⟩ hP hD hS hA hE [] rfl (by decide) rfl hl.1 rfl (Nat.le_of_ble_eq_true rfl) dX12_rider_17 ⟨Nat.le_of_ble_eq_true rfl, Nat.le_of_ble_eq_true rfl⟩) hP hD hS hA [] [0, 1, 2, 3, 4, 5, 6, 7, 8, 9, 10, 11, 12, 13, 14, 15, 16] [0, 1, 2, 3, 4, 5, 6, 7, 8, 9, 10, 11, 12, 13, 14, 15, 16] rfl rfl (by decide) (by decide) rfl (by decide) (fun H locs hP hD hS => ?_)
      refine lv_if_ne (tgt := 25) hx hb dX12_rider_20 (by decide) (fun c_4 => ?_) (fun c_4 => ?_)
      · rw [if_neg c_4] at hf
        refine lv_iload_n hx hb dX12_rider_25 rfl (lv_at hl 2 rfl) ?_
        by_cases c_5 : v2 = (0 : Int32)
        · rw [if_pos c_5] at hf
          refine lv_tableIn (tgt := 68) hx hb dX12_rider_26 (by rw [c_5]; decide) (by rw [c_5]; decide) (by rw [c_5]; rfl) (by decide) ?_
          refine lv_aload_n hx hb dX12_rider_68 rfl (lv_at hl 0 rfl) ?_
          refine va_get (D := D) (ci := 12) (v := .ref (ba 0)) (C := RX12) (T := TX12) (N := 35) hx hb hts kb_inX12 hown hK.1 hP 0 rfl rfl 3 (by decide) (hK.2.w ww_5_203 rfl _) (fun _ h9 => h9) rfl dX12_rider_69 ?_
          refine va_getN (D := D) (ci := 11) (v := .ref (ba 3)) (C := RX11) (T := TX11) (N := 26) hx hb hts kb_inX11 hown hK.1 hP 1 rfl rfl 13 (by decide) (hK.2.nb ww_6_107 rfl rfl _) (fun _ h9 => h9) rfl dX12_rider_72 ?_
          refine lv_iload_n hx hb dX12_rider_75 rfl (lv_at hl 1 rfl) ?_
          obtain ⟨h_6, hf⟩ := kb_if hf
          refine va_iald (D := D) hx hb hK.1 hP 4 0 rfl rfl h_6 dX12_rider_76 ?_
          exact RET _ _ H _ ls 77 hf hP hD hS dX12_rider_77
        · rw [if_neg c_5] at hf
          by_cases c_7 : v2 = (1 : Int32)
          · rw [if_pos c_7] at hf
            refine lv_tableIn (tgt := 78) hx hb dX12_rider_26 (by rw [c_7]; decide) (by rw [c_7]; decide) (by rw [c_7]; rfl) (by decide) ?_
            refine lv_aload_n hx hb dX12_rider_78 rfl (lv_at hl 0 rfl) ?_
            refine va_get (D := D) (ci := 12) (v := .ref (ba 0)) (C := RX12) (T := TX12) (N := 35) hx hb hts kb_inX12 hown hK.1 hP 0 rfl rfl 3 (by decide) (hK.2.w ww_5_203 rfl _) (fun _ h9 => h9) rfl dX12_rider_79 ?_
            refine va_getN (D := D) (ci := 11) (v := .ref (ba 4)) (C := RX11) (T := TX11) (N := 26) hx hb hts kb_inX11 hown hK.1 hP 1 rfl rfl 14 (by decide) (hK.2.nb ww_6_109 rfl rfl _) (fun _ h9 => h9) rfl dX12_rider_82 ?_
            refine lv_iload_n hx hb dX12_rider_85 rfl (lv_at hl 1 rfl) ?_
            obtain ⟨h_8, hf⟩ := kb_if hf
            refine va_iald (D := D) hx hb hK.1 hP 5 0 rfl rfl h_8 dX12_rider_86 ?_
            exact RET _ _ H _ ls 87 hf hP hD hS dX12_rider_87
          · rw [if_neg c_7] at hf
            by_cases c_9 : v2 = (2 : Int32)
            · rw [if_pos c_9] at hf
              refine lv_tableIn (tgt := 88) hx hb dX12_rider_26 (by rw [c_9]; decide) (by rw [c_9]; decide) (by rw [c_9]; rfl) (by decide) ?_
              refine lv_aload_n hx hb dX12_rider_88 rfl (lv_at hl 0 rfl) ?_
              refine va_get (D := D) (ci := 12) (v := .ref (ba 0)) (C := RX12) (T := TX12) (N := 35) hx hb hts kb_inX12 hown hK.1 hP 0 rfl rfl 3 (by decide) (hK.2.w ww_5_203 rfl _) (fun _ h9 => h9) rfl dX12_rider_89 ?_
              refine va_getN (D := D) (ci := 11) (v := .ref (ba 5)) (C := RX11) (T := TX11) (N := 26) hx hb hts kb_inX11 hown hK.1 hP 1 rfl rfl 15 (by decide) (hK.2.nb ww_6_111 rfl rfl _) (fun _ h9 => h9) rfl dX12_rider_92 ?_
              refine lv_iload_n hx hb dX12_rider_95 rfl (lv_at hl 1 rfl) ?_
              obtain ⟨h_10, hf⟩ := kb_if hf
              refine va_iald (D := D) hx hb hK.1 hP 6 0 rfl rfl h_10 dX12_rider_96 ?_
              exact RET _ _ H _ ls 97 hf hP hD hS dX12_rider_97
            · rw [if_neg c_9] at hf
              by_cases c_11 : v2 = (3 : Int32)
              · rw [if_pos c_11] at hf
                refine lv_tableIn (tgt := 98) hx hb dX12_rider_26 (by rw [c_11]; decide) (by rw [c_11]; decide) (by rw [c_11]; rfl) (by decide) ?_
                refine lv_aload_n hx hb dX12_rider_98 rfl (lv_at hl 0 rfl) ?_
                refine va_get (D := D) (ci := 12) (v := .ref (ba 0)) (C := RX12) (T := TX12) (N := 35) hx hb hts kb_inX12 hown hK.1 hP 0 rfl rfl 3 (by decide) (hK.2.w ww_5_203 rfl _) (fun _ h9 => h9) rfl dX12_rider_99 ?_
                refine va_getN (D := D) (ci := 11) (v := .ref (ba 6)) (C := RX11) (T := TX11) (N := 26) hx hb hts kb_inX11 hown hK.1 hP 1 rfl rfl 16 (by decide) (hK.2.nb ww_6_113 rfl rfl _) (fun _ h9 => h9) rfl dX12_rider_102 ?_
                refine lv_iload_n hx hb dX12_rider_105 rfl (lv_at hl 1 rfl) ?_
                obtain ⟨h_12, hf⟩ := kb_if hf
                refine va_iald (D := D) hx hb hK.1 hP 7 0 rfl rfl h_12 dX12_rider_106 ?_
                exact RET _ _ H _ ls 107 hf hP hD hS dX12_rider_107
              · rw [if_neg c_11] at hf
                by_cases c_13 : v2 = (4 : Int32)
                · rw [if_pos c_13] at hf
                  refine lv_tableIn (tgt := 108) hx hb dX12_rider_26 (by rw [c_13]; decide) (by rw [c_13]; decide) (by rw [c_13]; rfl) (by decide) ?_
                  refine lv_aload_n hx hb dX12_rider_108 rfl (lv_at hl 0 rfl) ?_
                  refine va_get (D := D) (ci := 12) (v := .ref (ba 0)) (C := RX12) (T := TX12) (N := 35) hx hb hts kb_inX12 hown hK.1 hP 0 rfl rfl 3 (by decide) (hK.2.w ww_5_203 rfl _) (fun _ h9 => h9) rfl dX12_rider_109 ?_
                  refine va_getN (D := D) (ci := 11) (v := .ref (ba 7)) (C := RX11) (T := TX11) (N := 26) hx hb hts kb_inX11 hown hK.1 hP 1 rfl rfl 17 (by decide) (hK.2.nb ww_6_115 rfl rfl _) (fun _ h9 => h9) rfl dX12_rider_112 ?_
                  refine lv_iload_n hx hb dX12_rider_115 rfl (lv_at hl 1 rfl) ?_
                  obtain ⟨h_14, hf⟩ := kb_if hf
                  refine va_iald (D := D) hx hb hK.1 hP 8 0 rfl rfl h_14 dX12_rider_116 ?_
                  exact RET _ _ H _ ls 117 hf hP hD hS dX12_rider_117
                · rw [if_neg c_13] at hf
                  by_cases c_15 : v2 = (5 : Int32)
                  · rw [if_pos c_15] at hf
                    refine lv_tableIn (tgt := 118) hx hb dX12_rider_26 (by rw [c_15]; decide) (by rw [c_15]; decide) (by rw [c_15]; rfl) (by decide) ?_
                    refine lv_aload_n hx hb dX12_rider_118 rfl (lv_at hl 0 rfl) ?_
                    refine va_get (D := D) (ci := 12) (v := .ref (ba 0)) (C := RX12) (T := TX12) (N := 35) hx hb hts kb_inX12 hown hK.1 hP 0 rfl rfl 3 (by decide) (hK.2.w ww_5_203 rfl _) (fun _ h9 => h9) rfl dX12_rider_119 ?_
                    refine va_getN (D := D) (ci := 11) (v := .ref (ba 9)) (C := RX11) (T := TX11) (N := 26) hx hb hts kb_inX11 hown hK.1 hP 1 rfl rfl 19 (by decide) (hK.2.nb ww_6_119 rfl rfl _) (fun _ h9 => h9) rfl dX12_rider_122 ?_
                    refine lv_iload_n hx hb dX12_rider_125 rfl (lv_at hl 1 rfl) ?_
                    obtain ⟨h_16, hf⟩ := kb_if hf
                    refine va_zald (D := D) hx hb hK.1 hP 10 3 rfl rfl h_16 dX12_rider_126 ?_
                    refine lv_if_eq (tgt := 134) hx hb dX12_rider_127 (by decide) (fun c_17 => ?_) (fun c_17 => ?_)
                    · rw [if_pos c_17] at hf
                      refine lv_iconst (v := (0 : Int32)) hx hb dX12_rider_134 (by decide) ?_
                      exact RET _ _ H _ ls 135 hf hP hD hS dX12_rider_135
                    · rw [if_neg c_17] at hf
                      refine lv_iconst (v := (1 : Int32)) hx hb dX12_rider_130 (by decide) ?_
                      refine lv_goto (tgt := 135) hx hb dX12_rider_131 (by decide) ?_
                      exact RET _ _ H _ ls 135 hf hP hD hS dX12_rider_135
                  · rw [if_neg c_15] at hf
                    by_cases c_18 : v2 = (6 : Int32)
                    · rw [if_pos c_18] at hf
                      refine lv_tableIn (tgt := 136) hx hb dX12_rider_26 (by rw [c_18]; decide) (by rw [c_18]; decide) (by rw [c_18]; rfl) (by decide) ?_
                      refine lv_aload_n hx hb dX12_rider_136 rfl (lv_at hl 0 rfl) ?_
                      refine va_get (D := D) (ci := 12) (v := .ref (ba 0)) (C := RX12) (T := TX12) (N := 35) hx hb hts kb_inX12 hown hK.1 hP 0 rfl rfl 3 (by decide) (hK.2.w ww_5_203 rfl _) (fun _ h9 => h9) rfl dX12_rider_137 ?_
                      refine va_getN (D := D) (ci := 11) (v := .ref (ba 10)) (C := RX11) (T := TX11) (N := 26) hx hb hts kb_inX11 hown hK.1 hP 1 rfl rfl 20 (by decide) (hK.2.nb ww_6_121 rfl rfl _) (fun _ h9 => h9) rfl dX12_rider_140 ?_
                      refine lv_iload_n hx hb dX12_rider_143 rfl (lv_at hl 1 rfl) ?_
                      obtain ⟨h_19, hf⟩ := kb_if hf
                      refine va_zald (D := D) hx hb hK.1 hP 11 3 rfl rfl h_19 dX12_rider_144 ?_
                      refine lv_if_eq (tgt := 152) hx hb dX12_rider_145 (by decide) (fun c_20 => ?_) (fun c_20 => ?_)
                      · rw [if_pos c_20] at hf
                        refine lv_iconst (v := (0 : Int32)) hx hb dX12_rider_152 (by decide) ?_
                        exact RET _ _ H _ ls 153 hf hP hD hS dX12_rider_153
                      · rw [if_neg c_20] at hf
                        refine lv_iconst (v := (1 : Int32)) hx hb dX12_rider_148 (by decide) ?_
                        refine lv_goto (tgt := 153) hx hb dX12_rider_149 (by decide) ?_
                        exact RET _ _ H _ ls 153 hf hP hD hS dX12_rider_153
                    · rw [if_neg c_18] at hf
                      refine lv_tableOut (tgt := 154) hx hb dX12_rider_26 (kb_sw 0 6 (fun k q1 q2 => by
                          rcases (show k = 0 ∨ k = 1 ∨ k = 2 ∨ k = 3 ∨ k = 4 ∨ k = 5 ∨ k = 6 by omega) with rfl | rfl | rfl | rfl | rfl | rfl | rfl
                          · exact fun e => c_5 (e.trans (by decide))
                          · exact fun e => c_7 (e.trans (by decide))
                          · exact fun e => c_9 (e.trans (by decide))
                          · exact fun e => c_11 (e.trans (by decide))
                          · exact fun e => c_13 (e.trans (by decide))
                          · exact fun e => c_15 (e.trans (by decide))
                          · exact fun e => c_18 (e.trans (by decide)))) (by decide) ?_
                      refine lv_aload_n hx hb dX12_rider_154 rfl (lv_at hl 0 rfl) ?_
                      refine va_get (D := D) (ci := 12) (v := .ref (ba 0)) (C := RX12) (T := TX12) (N := 35) hx hb hts kb_inX12 hown hK.1 hP 0 rfl rfl 3 (by decide) (hK.2.w ww_5_203 rfl _) (fun _ h9 => h9) rfl dX12_rider_155 ?_
                      refine va_getN (D := D) (ci := 11) (v := .ref (ba 8)) (C := RX11) (T := TX11) (N := 26) hx hb hts kb_inX11 hown hK.1 hP 1 rfl rfl 18 (by decide) (hK.2.nb ww_6_117 rfl rfl _) (fun _ h9 => h9) rfl dX12_rider_158 ?_
                      refine lv_iload_n hx hb dX12_rider_161 rfl (lv_at hl 1 rfl) ?_
                      obtain ⟨h_21, hf⟩ := kb_if hf
                      refine va_iald (D := D) hx hb hK.1 hP 9 0 rfl rfl h_21 dX12_rider_162 ?_
                      refine lv_iconst (v := (-1 : Int32)) hx hb dX12_rider_163 (by decide) ?_
                      refine lv_icmp_ne (tgt := 172) hx hb dX12_rider_164 (by decide) (fun c_22 => ?_) (fun c_22 => ?_)
                      · rw [if_neg c_22] at hf
                        refine lv_aload_n hx hb dX12_rider_172 rfl (lv_at hl 0 rfl) ?_
                        refine va_get (D := D) (ci := 12) (v := .ref (ba 0)) (C := RX12) (T := TX12) (N := 35) hx hb hts kb_inX12 hown hK.1 hP 0 rfl rfl 3 (by decide) (hK.2.w ww_5_203 rfl _) (fun _ h9 => h9) rfl dX12_rider_173 ?_
                        refine va_getN (D := D) (ci := 11) (v := .ref (ba 8)) (C := RX11) (T := TX11) (N := 26) hx hb hts kb_inX11 hown hK.1 hP 1 rfl rfl 18 (by decide) (hK.2.nb ww_6_117 rfl rfl _) (fun _ h9 => h9) rfl dX12_rider_176 ?_
                        refine lv_iload_n hx hb dX12_rider_179 rfl (lv_at hl 1 rfl) ?_
                        obtain ⟨h_23, hf⟩ := kb_if hf
                        refine va_iald (D := D) hx hb hK.1 hP 9 0 rfl rfl h_23 dX12_rider_180 ?_
                        exact RET _ _ H _ ls 181 hf hP hD hS dX12_rider_181
                      · rw [if_pos c_22] at hf
                        refine lv_bipush (v := (-2 : Int32)) hx hb dX12_rider_167 (by decide) ?_
                        refine lv_goto (tgt := 181) hx hb dX12_rider_169 (by decide) ?_
                        exact RET _ _ H _ ls 181 hf hP hD hS dX12_rider_181
      · rw [if_pos c_4] at hf
        refine lv_iconst (v := (-1 : Int32)) hx hb dX12_rider_23 (by decide) ?_
        exact RET _ _ H _ ls 24 hf hP hD hS dX12_rider_24
  have E0 : ∀ (H : Heap) (locs : List Loc), va_P D vwCl (w_MO dA a (some (ba 0)) q1 g2 g3 g4 g5 g6 g7 g8 g9 g10 g11 g12 g13 g14 g15 g16 g17 g18 mo ++ (w_Bus dA ba bu)) H → va_D A (w_MO dA a (some (ba 0)) q1 g2 g3 g4 g5 g6 g7 g8 g9 g10 g11 g12 g13 g14 g15 g16 g17 g18 mo ++ (w_Bus dA ba bu)) → va_S A s.heap H locs → W p l e ({ frames := 1, cells := 0, slots := 0, locals := 22 } : Room) s m ([.ref (a 0), .int x0, .int x1] : List Value).toArray below meth c H locs 0 0 Q (F0 m 0 ls []) := by
    intro H locs hP hD hS
    rw [f_X12_rider] at hf
    refine lv_aload_n hx hb dX12_rider_0 rfl (lv_at hl 0 rfl) ?_
    refine lv_iconst (v := (0 : Int32)) hx hb dX12_rider_1 (by decide) ?_
    refine va_put (D := D) (ci := 12) (v := .int (0 : Int32)) (ty := .int) (C := RX12) (T := TX12) (N := 35) hx hb hts kb_inX12 tyX12 tyX12_ok nmX12 hown hK.1 hP hD hS 0 rfl rfl 0 (by decide) (hK.2.w ww_5_200 rfl _) (fun _ h9 => h9) rfl (by decide +kernel) rfl rfl (Nat.le_of_ble_eq_true rfl) dX12_rider_2 (fun H locs hP hD hS => ?_)
    have hP : va_P D vwCl (w_MO dA a (some (ba 0)) q1 g2 g3 g4 g5 g6 g7 g8 g9 g10 g11 g12 g13 g14 g15 g16 g17 g18 (mo_set_thrown mo (0 : Int32)) ++ (w_Bus dA ba bu)) H := hP
    have hD : va_D A (w_MO dA a (some (ba 0)) q1 g2 g3 g4 g5 g6 g7 g8 g9 g10 g11 g12 g13 g14 g15 g16 g17 g18 (mo_set_thrown mo (0 : Int32)) ++ (w_Bus dA ba bu)) := hD
    exact B_5 _ _ _ _ _ _ hf hP hD hS (lv_sub hl [0, 1, 2] rfl)
  exact E0 _ _ hP hD hS

noncomputable def f_X12_way_b46 (bu : BusT) (z0 : MOT) : Option (Int32 × MOT) := some ((-1 : Int32), z0)
noncomputable def f_X12_way_b5 (bu : BusT) (v1 : Int32) (v2 : Int32) (z0 : MOT) : Option (Int32 × MOT) := (f_X12_isRule z0 bu v1).bind fun r1 => (if r1 = 0 then f_X12_way_b46 bu z0 else (if v2 < 0 then f_X12_way_b46 bu z0 else if kb_in? v1 4 then (if ((bu_waysMany bu) (v1).toNatClampNeg) ≤ v2 then f_X12_way_b46 bu z0 else if kb_in? (((4 : Int32) * v1) + v2) 16 then some (((bu_way bu) ((((4 : Int32) * v1) + v2)).toNatClampNeg), z0) else none) else none))
noncomputable def f_X12_way (mo : MOT) (bu : BusT) (x0 : Int32) (x1 : Int32) : Option (Int32 × MOT) := f_X12_way_b5 bu x0 x1 (mo_set_thrown mo (0 : Int32))
set_option maxHeartbeats 4000000 in
set_option maxRecDepth 100000 in
theorem c_X12_way (l : Launch) (D : va_G) (dA : Nat → ClassId) (sz : Nat) (a : Nat → Nat) (ba : Nat → Nat) (q1 : Option Nat) (g2 : Nat) (g3 : Nat) (g4 : Nat) (g5 : Nat) (g6 : Nat) (g7 : Nat) (g8 : Nat) (g9 : Nat) (g10 : Nat) (g11 : Nat) (g12 : Nat) (g13 : Nat) (g14 : Nat) (g15 : Nat) (g16 : Nat) (g17 : Nat) (g18 : Nat) (mo : MOT) (bu : BusT) (x0 : Int32) (x1 : Int32) (rv : Int32) (u0 : MOT) (hf : f_X12_way mo bu x0 x1 = some (rv, u0)) : kb_Mi l yX12_way cX12_way 3 (some .int) ({ frames := 1, cells := 0, slots := 0, locals := 21 } : Room) D dA [.ref (a 0), .int x0, .int x1] sz (w_MO dA a (some (ba 0)) q1 g2 g3 g4 g5 g6 g7 g8 g9 g10 g11 g12 g13 g14 g15 g16 g17 g18 mo ++ (w_Bus dA ba bu)) 0 0 rv (w_MO dA a (some (ba 0)) q1 g2 g3 g4 g5 g6 g7 g8 g9 g10 g11 g12 g13 g14 g15 g16 g17 g18 u0 ++ (w_Bus dA ba bu)) := by
  refine Met.ofW (cc := cX12_way) (maxL := 3) (ret := (some .int)) (by decide) rfl ?_
  intro p e s m args below meth c s₁ B hml hv
  obtain ⟨rfl, hsz, hP, hK, hD0, hE⟩ := hv
  have hx := B.exec
  have hb := B.bytes
  have hr := B.returns
  have hown : s.vm.findClass RX12 = some m.cls := findClass_of_methodNamed B.named
  have hlocks := B.notSynchronized
  have hts : ∀ w ∈ kb_gw, w.before ([.ref (a 0), .int x0, .int x1] : List Value).toArray s = true := fun w hw => hK.2.1 w hw _
  subst hsz
  have hD := hD0.self (sz := s.heap.size)
  generalize hAe : va_A (w_MO dA a (some (ba 0)) q1 g2 g3 g4 g5 g6 g7 g8 g9 g10 g11 g12 g13 g14 g15 g16 g17 g18 mo ++ (w_Bus dA ba bu)) s.heap.size = A at hD hE ⊢
  have hA : ∀ q : Nat, s.heap.size ≤ q → A q := fun q h => by rw [← hAe]; exact Or.inr h
  have hS : va_S A s.heap s.heap [] := va_S.rf
  have hl := lv_entry ([.ref (a 0), .int x0, .int x1]) (n := 3) (Nat.le_of_ble_eq_true rfl)
  rw [lg_entry_eq]
  generalize (lg_sl ([.ref (a 0), .int x0, .int x1]) ++ List.replicate (3 - (lg_sl ([.ref (a 0), .int x0, .int x1])).length) Slot.unset).toArray = ls at hl ⊢
  have hl : lv_has ls 3 [(0, .ref (a 0)), (1, .int x0), (2, .int x1)] := hl
  generalize hQ : MQ below (va_Qi (fun r (_ : Unit) => r = rv) (kb_B D A (w_MO dA a (some (ba 0)) q1 g2 g3 g4 g5 g6 g7 g8 g9 g10 g11 g12 g13 g14 g15 g16 g17 g18 u0 ++ (w_Bus dA ba bu))) A) ([.ref (a 0), .int x0, .int x1] : List Value).toArray s 0 0 A = Q
  show W p l e ({ frames := 1, cells := 0, slots := 0, locals := 21 } : Room) s m ([.ref (a 0), .int x0, .int x1] : List Value).toArray below meth c s.heap [] 0 0 Q (F0 m 0 ls [])
  have RET : ∀ (r2 : Int32) (w0 : MOT) (H : Heap) (locs : List Loc) (ls : Array Slot) (pc : Nat), some (r2, w0) = some (rv, u0) → va_P D vwCl (w_MO dA a (some (ba 0)) q1 g2 g3 g4 g5 g6 g7 g8 g9 g10 g11 g12 g13 g14 g15 g16 g17 g18 w0 ++ (w_Bus dA ba bu)) H → va_D A (w_MO dA a (some (ba 0)) q1 g2 g3 g4 g5 g6 g7 g8 g9 g10 g11 g12 g13 g14 g15 g16 g17 g18 w0 ++ (w_Bus dA ba bu)) → va_S A s.heap H locs → decode cX12_way pc = .ok (.ireturn, 1) → W p l e ({ frames := 1, cells := 0, slots := 0, locals := 21 } : Room) s m ([.ref (a 0), .int x0, .int x1] : List Value).toArray below meth c H locs 0 0 Q (F0 m pc ls [.int r2]) := by
    intro r2 w0 H locs ls pc hq hP hD hS hd
    cases hq
    rw [← hQ]
    exact W.iret hx hb hr (fun t ht hW => ⟨⟨_, (), rfl, rfl, by rw [ht]; exact hP, hD⟩, hS.F ht⟩) hS.2.2 hd
  have B_46 : ∀ (z0 : MOT) (H : Heap) (locs : List Loc) (ls : Array Slot), f_X12_way_b46 bu z0 = some (rv, u0) → va_P D vwCl (w_MO dA a (some (ba 0)) q1 g2 g3 g4 g5 g6 g7 g8 g9 g10 g11 g12 g13 g14 g15 g16 g17 g18 z0 ++ (w_Bus dA ba bu)) H → va_D A (w_MO dA a (some (ba 0)) q1 g2 g3 g4 g5 g6 g7 g8 g9 g10 g11 g12 g13 g14 g15 g16 g17 g18 z0 ++ (w_Bus dA ba bu)) → va_S A s.heap H locs → lv_has ls 3 [] → W p l e ({ frames := 1, cells := 0, slots := 0, locals := 21 } : Room) s m ([.ref (a 0), .int x0, .int x1] : List Value).toArray below meth c H locs 0 0 Q (F0 m 46 ls []) := by
    intro z0 H locs ls hf hP hD hS hl
    rw [f_X12_way_b46] at hf
    refine lv_iconst (v := (-1 : Int32)) hx hb dX12_way_46 (by decide) ?_
    exact RET _ _ H _ ls 47 hf hP hD hS dX12_way_47
  have B_5 : ∀ (v1 : Int32) (v2 : Int32) (z0 : MOT) (H : Heap) (locs : List Loc) (ls : Array Slot), f_X12_way_b5 bu v1 v2 z0 = some (rv, u0) → va_P D vwCl (w_MO dA a (some (ba 0)) q1 g2 g3 g4 g5 g6 g7 g8 g9 g10 g11 g12 g13 g14 g15 g16 g17 g18 z0 ++ (w_Bus dA ba bu)) H → va_D A (w_MO dA a (some (ba 0)) q1 g2 g3 g4 g5 g6 g7 g8 g9 g10 g11 g12 g13 g14 g15 g16 g17 g18 z0 ++ (w_Bus dA ba bu)) → va_S A s.heap H locs → lv_has ls 3 [(0, .ref (a 0)), (1, .int v1), (2, .int v2)] → W p l e ({ frames := 1, cells := 0, slots := 0, locals := 21 } : Room) s m ([.ref (a 0), .int x0, .int x1] : List Value).toArray below meth c H locs 0 0 Q (F0 m 5 ls []) := by
    intro v1 v2 z0 H locs ls hf hP hD hS hl
    rw [f_X12_way_b5] at hf
    refine lv_aload_n hx hb dX12_way_5 rfl (lv_at hl 0 rfl) ?_
    refine lv_iload_n hx hb dX12_way_6 rfl (lv_at hl 1 rfl) ?_
    obtain ⟨r1, hc1, hf⟩ := kb_bind hf
    refine kb_ci (ws2 := (w_MO dA a (some (ba 0)) q1 g2 g3 g4 g5 g6 g7 g8 g9 g10 g11 g12 g13 g14 g15 g16 g17 g18 z0 ++ (w_Bus dA ba bu))) (kb_rV (n := 1) (As := [.int v1]) (rest := []) hx hb hml hown hK (c_X12_isRule l D dA H.size a ba q1 g2 g3 g4 g5 g6 g7 g8 g9 g10 g11 g12 g13 g14 g15 g16 g17 g18 z0 bu v1 r1 hc1) ⟨ww_8_146, ww_8_143, ww_8_145, ws_111, ww_1_12, rfl, by decide, by decide⟩ rfl rfl (by decide +kernel) ⟨Nat.le_of_ble_eq_true rfl, Nat.le_of_ble_eq_true rfl⟩ hP hD hS hA hE [0, 1, 2, 3, 4, 5, 6, 7, 8, 9, 10, 11, 12, 13, 14, 15, 16] rfl (by decide) 0 rfl rfl rfl hl.1 rfl (Nat.le_of_ble_eq_true rfl) dX12_way_7 ⟨Nat.le_of_ble_eq_true rfl, Nat.le_of_ble_eq_true rfl⟩) hP hD hS hA [0, 1, 2, 3, 4, 5, 6, 7, 8, 9, 10, 11, 12, 13, 14, 15, 16] [] [0, 1, 2, 3, 4, 5, 6, 7, 8, 9, 10, 11, 12, 13, 14, 15, 16] rfl rfl (by decide) (by decide) rfl (by decide) (fun H locs hP hD hS => ?_)
    refine lv_if_eq (tgt := 46) hx hb dX12_way_10 (by decide) (fun c_2 => ?_) (fun c_2 => ?_)
    · rw [if_pos c_2] at hf
      exact B_46 _ _ _ _ hf hP hD hS (lv_sub hl [] rfl)
    · rw [if_neg c_2] at hf
      refine lv_iload_n hx hb dX12_way_13 rfl (lv_at hl 2 rfl) ?_
      refine lv_if_lt (tgt := 46) hx hb dX12_way_14 (by decide) (fun c_3 => ?_) (fun c_3 => ?_)
      · rw [if_pos c_3] at hf
        exact B_46 _ _ _ _ hf hP hD hS (lv_sub hl [] rfl)
      · rw [if_neg c_3] at hf
        refine lv_iload_n hx hb dX12_way_17 rfl (lv_at hl 2 rfl) ?_
        refine lv_aload_n hx hb dX12_way_18 rfl (lv_at hl 0 rfl) ?_
        refine va_get (D := D) (ci := 12) (v := .ref (ba 0)) (C := RX12) (T := TX12) (N := 35) hx hb hts kb_inX12 hown hK.1 hP 0 rfl rfl 3 (by decide) (hK.2.w ww_5_203 rfl _) (fun _ h9 => h9) rfl dX12_way_19 ?_
        refine va_getN (D := D) (ci := 11) (v := .ref (ba 1)) (C := RX11) (T := TX11) (N := 26) hx hb hts kb_inX11 hown hK.1 hP 1 rfl rfl 11 (by decide) (hK.2.nb ww_6_103 rfl rfl _) (fun _ h9 => h9) rfl dX12_way_22 ?_
        refine lv_iload_n hx hb dX12_way_25 rfl (lv_at hl 1 rfl) ?_
        obtain ⟨h_4, hf⟩ := kb_if hf
        refine va_iald (D := D) hx hb hK.1 hP 2 0 rfl rfl h_4 dX12_way_26 ?_
        refine lv_icmp_ge (tgt := 46) hx hb dX12_way_27 (by decide) (fun c_5 => ?_) (fun c_5 => ?_)
        · rw [if_pos c_5] at hf
          exact B_46 _ _ _ _ hf hP hD hS (lv_sub hl [] rfl)
        · rw [if_neg c_5] at hf
          refine lv_aload_n hx hb dX12_way_30 rfl (lv_at hl 0 rfl) ?_
          refine va_get (D := D) (ci := 12) (v := .ref (ba 0)) (C := RX12) (T := TX12) (N := 35) hx hb hts kb_inX12 hown hK.1 hP 0 rfl rfl 3 (by decide) (hK.2.w ww_5_203 rfl _) (fun _ h9 => h9) rfl dX12_way_31 ?_
          refine va_getN (D := D) (ci := 11) (v := .ref (ba 2)) (C := RX11) (T := TX11) (N := 26) hx hb hts kb_inX11 hown hK.1 hP 1 rfl rfl 12 (by decide) (hK.2.nb ww_6_105 rfl rfl _) (fun _ h9 => h9) rfl dX12_way_34 ?_
          refine lv_iconst (v := (4 : Int32)) hx hb dX12_way_37 (by decide) ?_
          refine lv_iload_n hx hb dX12_way_38 rfl (lv_at hl 1 rfl) ?_
          refine lv_imul hx hb dX12_way_39 ?_
          refine lv_iload_n hx hb dX12_way_40 rfl (lv_at hl 2 rfl) ?_
          refine lv_iadd hx hb dX12_way_41 ?_
          obtain ⟨h_6, hf⟩ := kb_if hf
          refine va_iald (D := D) hx hb hK.1 hP 3 0 rfl rfl h_6 dX12_way_42 ?_
          refine lv_goto (tgt := 47) hx hb dX12_way_43 (by decide) ?_
          exact RET _ _ H _ ls 47 hf hP hD hS dX12_way_47
  have E0 : ∀ (H : Heap) (locs : List Loc), va_P D vwCl (w_MO dA a (some (ba 0)) q1 g2 g3 g4 g5 g6 g7 g8 g9 g10 g11 g12 g13 g14 g15 g16 g17 g18 mo ++ (w_Bus dA ba bu)) H → va_D A (w_MO dA a (some (ba 0)) q1 g2 g3 g4 g5 g6 g7 g8 g9 g10 g11 g12 g13 g14 g15 g16 g17 g18 mo ++ (w_Bus dA ba bu)) → va_S A s.heap H locs → W p l e ({ frames := 1, cells := 0, slots := 0, locals := 21 } : Room) s m ([.ref (a 0), .int x0, .int x1] : List Value).toArray below meth c H locs 0 0 Q (F0 m 0 ls []) := by
    intro H locs hP hD hS
    rw [f_X12_way] at hf
    refine lv_aload_n hx hb dX12_way_0 rfl (lv_at hl 0 rfl) ?_
    refine lv_iconst (v := (0 : Int32)) hx hb dX12_way_1 (by decide) ?_
    refine va_put (D := D) (ci := 12) (v := .int (0 : Int32)) (ty := .int) (C := RX12) (T := TX12) (N := 35) hx hb hts kb_inX12 tyX12 tyX12_ok nmX12 hown hK.1 hP hD hS 0 rfl rfl 0 (by decide) (hK.2.w ww_5_200 rfl _) (fun _ h9 => h9) rfl (by decide +kernel) rfl rfl (Nat.le_of_ble_eq_true rfl) dX12_way_2 (fun H locs hP hD hS => ?_)
    have hP : va_P D vwCl (w_MO dA a (some (ba 0)) q1 g2 g3 g4 g5 g6 g7 g8 g9 g10 g11 g12 g13 g14 g15 g16 g17 g18 (mo_set_thrown mo (0 : Int32)) ++ (w_Bus dA ba bu)) H := hP
    have hD : va_D A (w_MO dA a (some (ba 0)) q1 g2 g3 g4 g5 g6 g7 g8 g9 g10 g11 g12 g13 g14 g15 g16 g17 g18 (mo_set_thrown mo (0 : Int32)) ++ (w_Bus dA ba bu)) := hD
    exact B_5 _ _ _ _ _ _ hf hP hD hS (lv_sub hl [0, 1, 2] rfl)
  exact E0 _ _ hP hD hS

noncomputable def f_X12_led_b64 (y_w : WT) (bu : BusT) (z0 : MOT) : Option (Int32 × MOT) := some ((0 : Int32), z0)
noncomputable def f_X12_led_b59 (y_w : WT) (bu : BusT) (z0 : MOT) : Option (Int32 × MOT) := f_X12_led_b64 y_w bu (mo_set_thrown z0 (1 : Int32))
noncomputable def f_X12_led_b9 (y_w : WT) (bu : BusT) : Nat → Int32 → Int32 → Int32 → MOT → Option (Int32 × MOT)
  | 0, _, _, _, _ => none
  | n + 1, v1, v2, v3, z0 => (if (bu_riders bu) ≤ v3 then f_X12_led_b59 y_w bu z0 else if kb_in? ((0 : Int32) + v3) 56 then (if ((yW_r y_w) (((0 : Int32) + v3)).toNatClampNeg) = (101 : Int32) then (if v2 = v1 then some (v3, z0) else f_X12_led_b9 y_w bu n v1 (v2 + (1 : Int32)) (v3 + (1 : Int32)) z0) else f_X12_led_b9 y_w bu n v1 v2 (v3 + (1 : Int32)) z0) else none)
noncomputable def f_X12_led_b5 (y_w : WT) (bu : BusT) (v1 : Int32) (z0 : MOT) : Option (Int32 × MOT) := f_X12_led_b9 y_w bu 4096 v1 (0 : Int32) (0 : Int32) z0
noncomputable def f_X12_led (mo : MOT) (y_w : WT) (bu : BusT) (x0 : Int32) : Option (Int32 × MOT) := f_X12_led_b5 y_w bu x0 (mo_set_thrown mo (0 : Int32))
set_option maxHeartbeats 4000000 in
set_option maxRecDepth 100000 in
theorem c_X12_led (l : Launch) (D : va_G) (dA : Nat → ClassId) (sz : Nat) (a : Nat → Nat) (wa : Nat → Nat) (ba : Nat → Nat) (q1 : Option Nat) (g2 : Nat) (g3 : Nat) (g4 : Nat) (g5 : Nat) (g7 : Nat) (g8 : Nat) (g9 : Nat) (g10 : Nat) (g11 : Nat) (g12 : Nat) (g13 : Nat) (g14 : Nat) (g15 : Nat) (g16 : Nat) (g17 : Nat) (g18 : Nat) (mo : MOT) (y_w : WT) (bu : BusT) (x0 : Int32) (rv : Int32) (u0 : MOT) (hf : f_X12_led mo y_w bu x0 = some (rv, u0)) : kb_Mi l yX12_led cX12_led 4 (some .int) ({ frames := 0, cells := 0, slots := 0, locals := 0 } : Room) D dA [.ref (a 0), .int x0] sz (w_MO dA a (some (ba 0)) q1 g2 g3 g4 g5 (wa 0) g7 g8 g9 g10 g11 g12 g13 g14 g15 g16 g17 g18 mo ++ (w_W dA wa y_w ++ (w_Bus dA ba bu))) 0 0 rv (w_MO dA a (some (ba 0)) q1 g2 g3 g4 g5 (wa 0) g7 g8 g9 g10 g11 g12 g13 g14 g15 g16 g17 g18 u0 ++ (w_W dA wa y_w ++ (w_Bus dA ba bu))) := by
  refine Met.ofW (cc := cX12_led) (maxL := 4) (ret := (some .int)) (by decide) rfl ?_
  intro p e s m args below meth c s₁ B hml hv
  obtain ⟨rfl, hsz, hP, hK, hD0, hE⟩ := hv
  have hx := B.exec
  have hb := B.bytes
  have hr := B.returns
  have hown : s.vm.findClass RX12 = some m.cls := findClass_of_methodNamed B.named
  have hlocks := B.notSynchronized
  have hts : ∀ w ∈ kb_gw, w.before ([.ref (a 0), .int x0] : List Value).toArray s = true := fun w hw => hK.2.1 w hw _
  subst hsz
  have hD := hD0.self (sz := s.heap.size)
  generalize hAe : va_A (w_MO dA a (some (ba 0)) q1 g2 g3 g4 g5 (wa 0) g7 g8 g9 g10 g11 g12 g13 g14 g15 g16 g17 g18 mo ++ (w_W dA wa y_w ++ (w_Bus dA ba bu))) s.heap.size = A at hD hE ⊢
  have hA : ∀ q : Nat, s.heap.size ≤ q → A q := fun q h => by rw [← hAe]; exact Or.inr h
  have hS : va_S A s.heap s.heap [] := va_S.rf
  have hl := lv_entry ([.ref (a 0), .int x0]) (n := 4) (Nat.le_of_ble_eq_true rfl)
  rw [lg_entry_eq]
  generalize (lg_sl ([.ref (a 0), .int x0]) ++ List.replicate (4 - (lg_sl ([.ref (a 0), .int x0])).length) Slot.unset).toArray = ls at hl ⊢
  have hl : lv_has ls 4 [(0, .ref (a 0)), (1, .int x0)] := hl
  generalize hQ : MQ below (va_Qi (fun r (_ : Unit) => r = rv) (kb_B D A (w_MO dA a (some (ba 0)) q1 g2 g3 g4 g5 (wa 0) g7 g8 g9 g10 g11 g12 g13 g14 g15 g16 g17 g18 u0 ++ (w_W dA wa y_w ++ (w_Bus dA ba bu)))) A) ([.ref (a 0), .int x0] : List Value).toArray s 0 0 A = Q
  show W p l e ({ frames := 0, cells := 0, slots := 0, locals := 0 } : Room) s m ([.ref (a 0), .int x0] : List Value).toArray below meth c s.heap [] 0 0 Q (F0 m 0 ls [])
  have RET : ∀ (r2 : Int32) (w0 : MOT) (H : Heap) (locs : List Loc) (ls : Array Slot) (pc : Nat), some (r2, w0) = some (rv, u0) → va_P D vwCl (w_MO dA a (some (ba 0)) q1 g2 g3 g4 g5 (wa 0) g7 g8 g9 g10 g11 g12 g13 g14 g15 g16 g17 g18 w0 ++ (w_W dA wa y_w ++ (w_Bus dA ba bu))) H → va_D A (w_MO dA a (some (ba 0)) q1 g2 g3 g4 g5 (wa 0) g7 g8 g9 g10 g11 g12 g13 g14 g15 g16 g17 g18 w0 ++ (w_W dA wa y_w ++ (w_Bus dA ba bu))) → va_S A s.heap H locs → decode cX12_led pc = .ok (.ireturn, 1) → W p l e ({ frames := 0, cells := 0, slots := 0, locals := 0 } : Room) s m ([.ref (a 0), .int x0] : List Value).toArray below meth c H locs 0 0 Q (F0 m pc ls [.int r2]) := by
    intro r2 w0 H locs ls pc hq hP hD hS hd
    cases hq
    rw [← hQ]
    exact W.iret hx hb hr (fun t ht hW => ⟨⟨_, (), rfl, rfl, by rw [ht]; exact hP, hD⟩, hS.F ht⟩) hS.2.2 hd
  have B_64 : ∀ (z0 : MOT) (H : Heap) (locs : List Loc) (ls : Array Slot), f_X12_led_b64 y_w bu z0 = some (rv, u0) → va_P D vwCl (w_MO dA a (some (ba 0)) q1 g2 g3 g4 g5 (wa 0) g7 g8 g9 g10 g11 g12 g13 g14 g15 g16 g17 g18 z0 ++ (w_W dA wa y_w ++ (w_Bus dA ba bu))) H → va_D A (w_MO dA a (some (ba 0)) q1 g2 g3 g4 g5 (wa 0) g7 g8 g9 g10 g11 g12 g13 g14 g15 g16 g17 g18 z0 ++ (w_W dA wa y_w ++ (w_Bus dA ba bu))) → va_S A s.heap H locs → lv_has ls 4 [] → W p l e ({ frames := 0, cells := 0, slots := 0, locals := 0 } : Room) s m ([.ref (a 0), .int x0] : List Value).toArray below meth c H locs 0 0 Q (F0 m 64 ls []) := by
    intro z0 H locs ls hf hP hD hS hl
    rw [f_X12_led_b64] at hf
    refine lv_iconst (v := (0 : Int32)) hx hb dX12_led_64 (by decide) ?_
    exact RET _ _ H _ ls 65 hf hP hD hS dX12_led_65
  have B_59 : ∀ (z0 : MOT) (H : Heap) (locs : List Loc) (ls : Array Slot), f_X12_led_b59 y_w bu z0 = some (rv, u0) → va_P D vwCl (w_MO dA a (some (ba 0)) q1 g2 g3 g4 g5 (wa 0) g7 g8 g9 g10 g11 g12 g13 g14 g15 g16 g17 g18 z0 ++ (w_W dA wa y_w ++ (w_Bus dA ba bu))) H → va_D A (w_MO dA a (some (ba 0)) q1 g2 g3 g4 g5 (wa 0) g7 g8 g9 g10 g11 g12 g13 g14 g15 g16 g17 g18 z0 ++ (w_W dA wa y_w ++ (w_Bus dA ba bu))) → va_S A s.heap H locs → lv_has ls 4 [(0, .ref (a 0))] → W p l e ({ frames := 0, cells := 0, slots := 0, locals := 0 } : Room) s m ([.ref (a 0), .int x0] : List Value).toArray below meth c H locs 0 0 Q (F0 m 59 ls []) := by
    intro z0 H locs ls hf hP hD hS hl
    rw [f_X12_led_b59] at hf
    refine lv_aload_n hx hb dX12_led_59 rfl (lv_at hl 0 rfl) ?_
    refine lv_iconst (v := (1 : Int32)) hx hb dX12_led_60 (by decide) ?_
    refine va_put (D := D) (ci := 12) (v := .int (1 : Int32)) (ty := .int) (C := RX12) (T := TX12) (N := 35) hx hb hts kb_inX12 tyX12 tyX12_ok nmX12 hown hK.1 hP hD hS 0 rfl rfl 0 (by decide) (hK.2.w ww_5_200 rfl _) (fun _ h9 => h9) rfl (by decide +kernel) rfl rfl (Nat.le_of_ble_eq_true rfl) dX12_led_61 (fun H locs hP hD hS => ?_)
    have hP : va_P D vwCl (w_MO dA a (some (ba 0)) q1 g2 g3 g4 g5 (wa 0) g7 g8 g9 g10 g11 g12 g13 g14 g15 g16 g17 g18 (mo_set_thrown z0 (1 : Int32)) ++ (w_W dA wa y_w ++ (w_Bus dA ba bu))) H := hP
    have hD : va_D A (w_MO dA a (some (ba 0)) q1 g2 g3 g4 g5 (wa 0) g7 g8 g9 g10 g11 g12 g13 g14 g15 g16 g17 g18 (mo_set_thrown z0 (1 : Int32)) ++ (w_W dA wa y_w ++ (w_Bus dA ba bu))) := hD
    exact B_64 _ _ _ _ hf hP hD hS (lv_sub hl [] rfl)
  have B_9 : ∀ (n : Nat) (v1 : Int32) (v2 : Int32) (v3 : Int32) (z0 : MOT) (H : Heap) (locs : List Loc) (ls : Array Slot), f_X12_led_b9 y_w bu n v1 v2 v3 z0 = some (rv, u0) → va_P D vwCl (w_MO dA a (some (ba 0)) q1 g2 g3 g4 g5 (wa 0) g7 g8 g9 g10 g11 g12 g13 g14 g15 g16 g17 g18 z0 ++ (w_W dA wa y_w ++ (w_Bus dA ba bu))) H → va_D A (w_MO dA a (some (ba 0)) q1 g2 g3 g4 g5 (wa 0) g7 g8 g9 g10 g11 g12 g13 g14 g15 g16 g17 g18 z0 ++ (w_W dA wa y_w ++ (w_Bus dA ba bu))) → va_S A s.heap H locs → lv_has ls 4 [(0, .ref (a 0)), (1, .int v1), (2, .int v2), (3, .int v3)] → W p l e ({ frames := 0, cells := 0, slots := 0, locals := 0 } : Room) s m ([.ref (a 0), .int x0] : List Value).toArray below meth c H locs 0 0 Q (F0 m 9 ls []) := by
    intro n
    induction n with
    | zero =>
      intro v1 v2 v3 z0 H locs ls hf
      exact absurd hf (by simp [f_X12_led_b9])
    | succ n ih =>
      intro v1 v2 v3 z0 H locs ls hf hP hD hS hl
      rw [f_X12_led_b9] at hf
      refine lv_aload_n hx hb dX12_led_9 rfl (lv_at hl 0 rfl) ?_
      refine va_get (D := D) (ci := 12) (v := .ref (ba 0)) (C := RX12) (T := TX12) (N := 35) hx hb hts kb_inX12 hown hK.1 hP 0 rfl rfl 3 (by decide) (hK.2.w ww_5_203 rfl _) (fun _ h9 => h9) rfl dX12_led_10 ?_
      refine lv_ifnull hx hb dX12_led_13 ?_
      refine lv_iload_n hx hb dX12_led_16 rfl (lv_at hl 3 rfl) ?_
      refine lv_aload_n hx hb dX12_led_17 rfl (lv_at hl 0 rfl) ?_
      refine va_get (D := D) (ci := 12) (v := .ref (ba 0)) (C := RX12) (T := TX12) (N := 35) hx hb hts kb_inX12 hown hK.1 hP 0 rfl rfl 3 (by decide) (hK.2.w ww_5_203 rfl _) (fun _ h9 => h9) rfl dX12_led_18 ?_
      refine va_getN (D := D) (ci := 11) (v := .int (bu_riders bu)) (C := RX11) (T := TX11) (N := 26) hx hb hts kb_inX11 hown hK.1 hP 2 rfl rfl 7 (by decide) (hK.2.nb ww_6_96 rfl rfl _) (fun _ h9 => h9) rfl dX12_led_21 ?_
      refine lv_icmp_ge (tgt := 59) hx hb dX12_led_24 (by decide) (fun c_1 => ?_) (fun c_1 => ?_)
      · rw [if_pos c_1] at hf
        exact B_59 _ _ _ _ hf hP hD hS (lv_sub hl [0] rfl)
      · rw [if_neg c_1] at hf
        refine lv_aload_n hx hb dX12_led_27 rfl (lv_at hl 0 rfl) ?_
        refine va_get (D := D) (ci := 12) (v := .ref (wa 0)) (C := RX12) (T := TX12) (N := 35) hx hb hts kb_inX12 hown hK.1 hP 0 rfl rfl 19 (by decide) (hK.2.w ww_5_219 rfl _) (fun _ h9 => h9) rfl dX12_led_28 ?_
        refine lv_iconst (v := (0 : Int32)) hx hb dX12_led_31 (by decide) ?_
        refine lv_iload_n hx hb dX12_led_32 rfl (lv_at hl 3 rfl) ?_
        refine lv_iadd hx hb dX12_led_33 ?_
        obtain ⟨h_2, hf⟩ := kb_if hf
        refine va_iald (D := D) hx hb hK.1 hP 1 0 rfl rfl h_2 dX12_led_34 ?_
        refine lv_bipush (v := (101 : Int32)) hx hb dX12_led_35 (by decide) ?_
        refine lv_icmp_eq (tgt := 43) hx hb dX12_led_37 (by decide) (fun c_3 => ?_) (fun c_3 => ?_)
        · rw [if_pos c_3] at hf
          refine lv_iload_n hx hb dX12_led_43 rfl (lv_at hl 2 rfl) ?_
          refine lv_iload_n hx hb dX12_led_44 rfl (lv_at hl 1 rfl) ?_
          refine lv_icmp_ne (tgt := 50) hx hb dX12_led_45 (by decide) (fun c_4 => ?_) (fun c_4 => ?_)
          · rw [if_neg c_4] at hf
            refine lv_iinc (v := (v2 + (1 : Int32))) (lv' := [(2, .int (v2 + (1 : Int32))), (0, .ref (a 0)), (1, .int v1), (3, .int v3)]) hx hb dX12_led_50 hl (k := 2) rfl (by rfl) (by decide) rfl (fun ls hl => ?_)
            refine lv_iinc (v := (v3 + (1 : Int32))) (lv' := [(3, .int (v3 + (1 : Int32))), (2, .int (v2 + (1 : Int32))), (0, .ref (a 0)), (1, .int v1)]) hx hb dX12_led_53 hl (k := 3) rfl (by rfl) (by decide) rfl (fun ls hl => ?_)
            refine lv_goto (tgt := 9) hx hb dX12_led_56 (by decide) ?_
            exact ih _ _ _ _ _ _ _ hf hP hD hS (lv_sub hl [2, 3, 1, 0] rfl)
          · rw [if_pos c_4] at hf
            refine lv_iload_n hx hb dX12_led_48 rfl (lv_at hl 3 rfl) ?_
            exact RET _ _ H _ ls 49 hf hP hD hS dX12_led_49
        · rw [if_neg c_3] at hf
          refine lv_goto (tgt := 53) hx hb dX12_led_40 (by decide) ?_
          refine lv_iinc (v := (v3 + (1 : Int32))) (lv' := [(3, .int (v3 + (1 : Int32))), (0, .ref (a 0)), (1, .int v1), (2, .int v2)]) hx hb dX12_led_53 hl (k := 3) rfl (by rfl) (by decide) rfl (fun ls hl => ?_)
          refine lv_goto (tgt := 9) hx hb dX12_led_56 (by decide) ?_
          exact ih _ _ _ _ _ _ _ hf hP hD hS (lv_sub hl [1, 2, 3, 0] rfl)
  have B_5 : ∀ (v1 : Int32) (z0 : MOT) (H : Heap) (locs : List Loc) (ls : Array Slot), f_X12_led_b5 y_w bu v1 z0 = some (rv, u0) → va_P D vwCl (w_MO dA a (some (ba 0)) q1 g2 g3 g4 g5 (wa 0) g7 g8 g9 g10 g11 g12 g13 g14 g15 g16 g17 g18 z0 ++ (w_W dA wa y_w ++ (w_Bus dA ba bu))) H → va_D A (w_MO dA a (some (ba 0)) q1 g2 g3 g4 g5 (wa 0) g7 g8 g9 g10 g11 g12 g13 g14 g15 g16 g17 g18 z0 ++ (w_W dA wa y_w ++ (w_Bus dA ba bu))) → va_S A s.heap H locs → lv_has ls 4 [(0, .ref (a 0)), (1, .int v1)] → W p l e ({ frames := 0, cells := 0, slots := 0, locals := 0 } : Room) s m ([.ref (a 0), .int x0] : List Value).toArray below meth c H locs 0 0 Q (F0 m 5 ls []) := by
    intro v1 z0 H locs ls hf hP hD hS hl
    rw [f_X12_led_b5] at hf
    refine lv_iconst (v := (0 : Int32)) hx hb dX12_led_5 (by decide) ?_
    refine lv_istore_n (lv' := [(2, .int (0 : Int32)), (0, .ref (a 0)), (1, .int v1)]) hx hb dX12_led_6 rfl hl (by decide) rfl (fun ls hl => ?_)
    refine lv_iconst (v := (0 : Int32)) hx hb dX12_led_7 (by decide) ?_
    refine lv_istore_n (lv' := [(3, .int (0 : Int32)), (2, .int (0 : Int32)), (0, .ref (a 0)), (1, .int v1)]) hx hb dX12_led_8 rfl hl (by decide) rfl (fun ls hl => ?_)
    exact B_9 4096 _ _ _ _ _ _ _ hf hP hD hS (lv_sub hl [2, 3, 1, 0] rfl)
  have E0 : ∀ (H : Heap) (locs : List Loc), va_P D vwCl (w_MO dA a (some (ba 0)) q1 g2 g3 g4 g5 (wa 0) g7 g8 g9 g10 g11 g12 g13 g14 g15 g16 g17 g18 mo ++ (w_W dA wa y_w ++ (w_Bus dA ba bu))) H → va_D A (w_MO dA a (some (ba 0)) q1 g2 g3 g4 g5 (wa 0) g7 g8 g9 g10 g11 g12 g13 g14 g15 g16 g17 g18 mo ++ (w_W dA wa y_w ++ (w_Bus dA ba bu))) → va_S A s.heap H locs → W p l e ({ frames := 0, cells := 0, slots := 0, locals := 0 } : Room) s m ([.ref (a 0), .int x0] : List Value).toArray below meth c H locs 0 0 Q (F0 m 0 ls []) := by
    intro H locs hP hD hS
    rw [f_X12_led] at hf
    refine lv_aload_n hx hb dX12_led_0 rfl (lv_at hl 0 rfl) ?_
    refine lv_iconst (v := (0 : Int32)) hx hb dX12_led_1 (by decide) ?_
    refine va_put (D := D) (ci := 12) (v := .int (0 : Int32)) (ty := .int) (C := RX12) (T := TX12) (N := 35) hx hb hts kb_inX12 tyX12 tyX12_ok nmX12 hown hK.1 hP hD hS 0 rfl rfl 0 (by decide) (hK.2.w ww_5_200 rfl _) (fun _ h9 => h9) rfl (by decide +kernel) rfl rfl (Nat.le_of_ble_eq_true rfl) dX12_led_2 (fun H locs hP hD hS => ?_)
    have hP : va_P D vwCl (w_MO dA a (some (ba 0)) q1 g2 g3 g4 g5 (wa 0) g7 g8 g9 g10 g11 g12 g13 g14 g15 g16 g17 g18 (mo_set_thrown mo (0 : Int32)) ++ (w_W dA wa y_w ++ (w_Bus dA ba bu))) H := hP
    have hD : va_D A (w_MO dA a (some (ba 0)) q1 g2 g3 g4 g5 (wa 0) g7 g8 g9 g10 g11 g12 g13 g14 g15 g16 g17 g18 (mo_set_thrown mo (0 : Int32)) ++ (w_W dA wa y_w ++ (w_Bus dA ba bu))) := hD
    exact B_5 _ _ _ _ _ hf hP hD hS (lv_sub hl [0, 1] rfl)
  exact E0 _ _ hP hD hS

noncomputable def f_X12_size_b5 (y_w : WT) (bu : BusT) (v1 : Int32) (z0 : MOT) : Option (Int32 × MOT) := (if v1 = (9 : Int32) then some ((mo_taped z0), z0) else (f_X12_in v1 (0 : Int32) (8 : Int32)).bind fun r2 => (if r2 = 0 then some ((-1 : Int32), z0) else (if v1 = (0 : Int32) then some ((bu_riders bu), z0) else (if v1 = (1 : Int32) then some ((bu_rules bu), z0) else (if v1 = (2 : Int32) then some ((bu_friends bu), z0) else (if v1 = (3 : Int32) then some ((bu_holders bu), z0) else (if v1 = (4 : Int32) then (f_X12_allSeats z0 bu).bind fun r9 => (f_X12_bits r9).bind fun r10 => some (r10, z0) else (if v1 = (5 : Int32) then if kb_in? (52 : Int32) 56 then some (((yW_r y_w) ((52 : Int32)).toNatClampNeg), z0) else none else (if v1 = (6 : Int32) then some ((mo_marks z0), z0) else (if v1 = (7 : Int32) then some ((mo_films z0), z0) else some ((bu_form bu), z0)))))))))))
noncomputable def f_X12_size (mo : MOT) (y_w : WT) (bu : BusT) (x0 : Int32) : Option (Int32 × MOT) := f_X12_size_b5 y_w bu x0 (mo_set_thrown mo (0 : Int32))
set_option maxHeartbeats 4000000 in
set_option maxRecDepth 100000 in
theorem c_X12_size (l : Launch) (D : va_G) (dA : Nat → ClassId) (sz : Nat) (a : Nat → Nat) (wa : Nat → Nat) (ba : Nat → Nat) (q1 : Option Nat) (g2 : Nat) (g3 : Nat) (g4 : Nat) (g5 : Nat) (g7 : Nat) (g8 : Nat) (g9 : Nat) (g10 : Nat) (g11 : Nat) (g12 : Nat) (g13 : Nat) (g14 : Nat) (g15 : Nat) (g16 : Nat) (g17 : Nat) (g18 : Nat) (mo : MOT) (y_w : WT) (bu : BusT) (x0 : Int32) (rv : Int32) (u0 : MOT) (hf : f_X12_size mo y_w bu x0 = some (rv, u0)) : kb_Mi l yX12_size cX12_size 2 (some .int) ({ frames := 3, cells := 0, slots := 0, locals := 64 } : Room) D dA [.ref (a 0), .int x0] sz (w_MO dA a (some (ba 0)) q1 g2 g3 g4 g5 (wa 0) g7 g8 g9 g10 g11 g12 g13 g14 g15 g16 g17 g18 mo ++ (w_W dA wa y_w ++ (w_Bus dA ba bu))) 0 0 rv (w_MO dA a (some (ba 0)) q1 g2 g3 g4 g5 (wa 0) g7 g8 g9 g10 g11 g12 g13 g14 g15 g16 g17 g18 u0 ++ (w_W dA wa y_w ++ (w_Bus dA ba bu))) := by
  refine Met.ofW (cc := cX12_size) (maxL := 2) (ret := (some .int)) (by decide) rfl ?_
  intro p e s m args below meth c s₁ B hml hv
  obtain ⟨rfl, hsz, hP, hK, hD0, hE⟩ := hv
  have hx := B.exec
  have hb := B.bytes
  have hr := B.returns
  have hown : s.vm.findClass RX12 = some m.cls := findClass_of_methodNamed B.named
  have hlocks := B.notSynchronized
  have hts : ∀ w ∈ kb_gw, w.before ([.ref (a 0), .int x0] : List Value).toArray s = true := fun w hw => hK.2.1 w hw _
  subst hsz
  have hD := hD0.self (sz := s.heap.size)
  generalize hAe : va_A (w_MO dA a (some (ba 0)) q1 g2 g3 g4 g5 (wa 0) g7 g8 g9 g10 g11 g12 g13 g14 g15 g16 g17 g18 mo ++ (w_W dA wa y_w ++ (w_Bus dA ba bu))) s.heap.size = A at hD hE ⊢
  have hA : ∀ q : Nat, s.heap.size ≤ q → A q := fun q h => by rw [← hAe]; exact Or.inr h
  have hS : va_S A s.heap s.heap [] := va_S.rf
  have hl := lv_entry ([.ref (a 0), .int x0]) (n := 2) (Nat.le_of_ble_eq_true rfl)
  rw [lg_entry_eq]
  generalize (lg_sl ([.ref (a 0), .int x0]) ++ List.replicate (2 - (lg_sl ([.ref (a 0), .int x0])).length) Slot.unset).toArray = ls at hl ⊢
  have hl : lv_has ls 2 [(0, .ref (a 0)), (1, .int x0)] := hl
  generalize hQ : MQ below (va_Qi (fun r (_ : Unit) => r = rv) (kb_B D A (w_MO dA a (some (ba 0)) q1 g2 g3 g4 g5 (wa 0) g7 g8 g9 g10 g11 g12 g13 g14 g15 g16 g17 g18 u0 ++ (w_W dA wa y_w ++ (w_Bus dA ba bu)))) A) ([.ref (a 0), .int x0] : List Value).toArray s 0 0 A = Q
  show W p l e ({ frames := 3, cells := 0, slots := 0, locals := 64 } : Room) s m ([.ref (a 0), .int x0] : List Value).toArray below meth c s.heap [] 0 0 Q (F0 m 0 ls [])
  have RET : ∀ (r2 : Int32) (w0 : MOT) (H : Heap) (locs : List Loc) (ls : Array Slot) (pc : Nat), some (r2, w0) = some (rv, u0) → va_P D vwCl (w_MO dA a (some (ba 0)) q1 g2 g3 g4 g5 (wa 0) g7 g8 g9 g10 g11 g12 g13 g14 g15 g16 g17 g18 w0 ++ (w_W dA wa y_w ++ (w_Bus dA ba bu))) H → va_D A (w_MO dA a (some (ba 0)) q1 g2 g3 g4 g5 (wa 0) g7 g8 g9 g10 g11 g12 g13 g14 g15 g16 g17 g18 w0 ++ (w_W dA wa y_w ++ (w_Bus dA ba bu))) → va_S A s.heap H locs → decode cX12_size pc = .ok (.ireturn, 1) → W p l e ({ frames := 3, cells := 0, slots := 0, locals := 64 } : Room) s m ([.ref (a 0), .int x0] : List Value).toArray below meth c H locs 0 0 Q (F0 m pc ls [.int r2]) := by
    intro r2 w0 H locs ls pc hq hP hD hS hd
    cases hq
    rw [← hQ]
    exact W.iret hx hb hr (fun t ht hW => ⟨⟨_, (), rfl, rfl, by rw [ht]; exact hP, hD⟩, hS.F ht⟩) hS.2.2 hd
  have B_5 : ∀ (v1 : Int32) (z0 : MOT) (H : Heap) (locs : List Loc) (ls : Array Slot), f_X12_size_b5 y_w bu v1 z0 = some (rv, u0) → va_P D vwCl (w_MO dA a (some (ba 0)) q1 g2 g3 g4 g5 (wa 0) g7 g8 g9 g10 g11 g12 g13 g14 g15 g16 g17 g18 z0 ++ (w_W dA wa y_w ++ (w_Bus dA ba bu))) H → va_D A (w_MO dA a (some (ba 0)) q1 g2 g3 g4 g5 (wa 0) g7 g8 g9 g10 g11 g12 g13 g14 g15 g16 g17 g18 z0 ++ (w_W dA wa y_w ++ (w_Bus dA ba bu))) → va_S A s.heap H locs → lv_has ls 2 [(0, .ref (a 0)), (1, .int v1)] → W p l e ({ frames := 3, cells := 0, slots := 0, locals := 64 } : Room) s m ([.ref (a 0), .int x0] : List Value).toArray below meth c H locs 0 0 Q (F0 m 5 ls []) := by
    intro v1 z0 H locs ls hf hP hD hS hl
    rw [f_X12_size_b5] at hf
    refine lv_iload_n hx hb dX12_size_5 rfl (lv_at hl 1 rfl) ?_
    refine lv_bipush (v := (9 : Int32)) hx hb dX12_size_6 (by decide) ?_
    refine lv_icmp_ne (tgt := 16) hx hb dX12_size_8 (by decide) (fun c_1 => ?_) (fun c_1 => ?_)
    · rw [if_neg c_1] at hf
      refine lv_iload_n hx hb dX12_size_16 rfl (lv_at hl 1 rfl) ?_
      refine lv_iconst (v := (0 : Int32)) hx hb dX12_size_17 (by decide) ?_
      refine lv_bipush (v := (8 : Int32)) hx hb dX12_size_18 (by decide) ?_
      obtain ⟨r2, hc2, hf⟩ := kb_bind hf
      refine kb_ci (ws2 := (w_MO dA a (some (ba 0)) q1 g2 g3 g4 g5 (wa 0) g7 g8 g9 g10 g11 g12 g13 g14 g15 g16 g17 g18 z0 ++ (w_W dA wa y_w ++ (w_Bus dA ba bu)))) (kb_rS (n := 3) (As := [.int v1, .int (0 : Int32), .int (8 : Int32)]) (rest := []) hx hb hml hown hK (c_X12_in l D dA H.size v1 (0 : Int32) (8 : Int32) r2 hc2) ⟨ww_7_2, ww_7_0, ww_7_1, ww_1_12, by decide, by decide⟩ rfl rfl (by decide +kernel) ⟨Nat.le_of_ble_eq_true rfl, Nat.le_of_ble_eq_true rfl⟩ hP hD hS hA hE [] rfl (by decide) rfl hl.1 rfl (Nat.le_of_ble_eq_true rfl) dX12_size_20 ⟨Nat.le_of_ble_eq_true rfl, Nat.le_of_ble_eq_true rfl⟩) hP hD hS hA [] [0, 1, 2, 3, 4, 5, 6, 7, 8, 9, 10, 11, 12, 13, 14, 15, 16, 17] [0, 1, 2, 3, 4, 5, 6, 7, 8, 9, 10, 11, 12, 13, 14, 15, 16, 17] rfl rfl (by decide) (by decide) rfl (by decide) (fun H locs hP hD hS => ?_)
      refine lv_if_ne (tgt := 28) hx hb dX12_size_23 (by decide) (fun c_3 => ?_) (fun c_3 => ?_)
      · rw [if_neg c_3] at hf
        refine lv_aload_n hx hb dX12_size_28 rfl (lv_at hl 0 rfl) ?_
        refine va_get (D := D) (ci := 12) (v := .ref (ba 0)) (C := RX12) (T := TX12) (N := 35) hx hb hts kb_inX12 hown hK.1 hP 0 rfl rfl 3 (by decide) (hK.2.w ww_5_203 rfl _) (fun _ h9 => h9) rfl dX12_size_29 ?_
        refine lv_ifnonnull (tgt := 37) hx hb dX12_size_32 (by decide) ?_
        refine lv_iload_n hx hb dX12_size_37 rfl (lv_at hl 1 rfl) ?_
        by_cases c_4 : v1 = (0 : Int32)
        · rw [if_pos c_4] at hf
          refine lv_tableIn (tgt := 84) hx hb dX12_size_38 (by rw [c_4]; decide) (by rw [c_4]; decide) (by rw [c_4]; rfl) (by decide) ?_
          refine lv_aload_n hx hb dX12_size_84 rfl (lv_at hl 0 rfl) ?_
          refine va_get (D := D) (ci := 12) (v := .ref (ba 0)) (C := RX12) (T := TX12) (N := 35) hx hb hts kb_inX12 hown hK.1 hP 0 rfl rfl 3 (by decide) (hK.2.w ww_5_203 rfl _) (fun _ h9 => h9) rfl dX12_size_85 ?_
          refine va_getN (D := D) (ci := 11) (v := .int (bu_riders bu)) (C := RX11) (T := TX11) (N := 26) hx hb hts kb_inX11 hown hK.1 hP 2 rfl rfl 7 (by decide) (hK.2.nb ww_6_96 rfl rfl _) (fun _ h9 => h9) rfl dX12_size_88 ?_
          exact RET _ _ H _ ls 91 hf hP hD hS dX12_size_91
        · rw [if_neg c_4] at hf
          by_cases c_5 : v1 = (1 : Int32)
          · rw [if_pos c_5] at hf
            refine lv_tableIn (tgt := 92) hx hb dX12_size_38 (by rw [c_5]; decide) (by rw [c_5]; decide) (by rw [c_5]; rfl) (by decide) ?_
            refine lv_aload_n hx hb dX12_size_92 rfl (lv_at hl 0 rfl) ?_
            refine va_get (D := D) (ci := 12) (v := .ref (ba 0)) (C := RX12) (T := TX12) (N := 35) hx hb hts kb_inX12 hown hK.1 hP 0 rfl rfl 3 (by decide) (hK.2.w ww_5_203 rfl _) (fun _ h9 => h9) rfl dX12_size_93 ?_
            refine va_getN (D := D) (ci := 11) (v := .int (bu_rules bu)) (C := RX11) (T := TX11) (N := 26) hx hb hts kb_inX11 hown hK.1 hP 2 rfl rfl 6 (by decide) (hK.2.nb ww_6_95 rfl rfl _) (fun _ h9 => h9) rfl dX12_size_96 ?_
            exact RET _ _ H _ ls 99 hf hP hD hS dX12_size_99
          · rw [if_neg c_5] at hf
            by_cases c_6 : v1 = (2 : Int32)
            · rw [if_pos c_6] at hf
              refine lv_tableIn (tgt := 100) hx hb dX12_size_38 (by rw [c_6]; decide) (by rw [c_6]; decide) (by rw [c_6]; rfl) (by decide) ?_
              refine lv_aload_n hx hb dX12_size_100 rfl (lv_at hl 0 rfl) ?_
              refine va_get (D := D) (ci := 12) (v := .ref (ba 0)) (C := RX12) (T := TX12) (N := 35) hx hb hts kb_inX12 hown hK.1 hP 0 rfl rfl 3 (by decide) (hK.2.w ww_5_203 rfl _) (fun _ h9 => h9) rfl dX12_size_101 ?_
              refine va_getN (D := D) (ci := 11) (v := .int (bu_friends bu)) (C := RX11) (T := TX11) (N := 26) hx hb hts kb_inX11 hown hK.1 hP 2 rfl rfl 8 (by decide) (hK.2.nb ww_6_98 rfl rfl _) (fun _ h9 => h9) rfl dX12_size_104 ?_
              exact RET _ _ H _ ls 107 hf hP hD hS dX12_size_107
            · rw [if_neg c_6] at hf
              by_cases c_7 : v1 = (3 : Int32)
              · rw [if_pos c_7] at hf
                refine lv_tableIn (tgt := 108) hx hb dX12_size_38 (by rw [c_7]; decide) (by rw [c_7]; decide) (by rw [c_7]; rfl) (by decide) ?_
                refine lv_aload_n hx hb dX12_size_108 rfl (lv_at hl 0 rfl) ?_
                refine va_get (D := D) (ci := 12) (v := .ref (ba 0)) (C := RX12) (T := TX12) (N := 35) hx hb hts kb_inX12 hown hK.1 hP 0 rfl rfl 3 (by decide) (hK.2.w ww_5_203 rfl _) (fun _ h9 => h9) rfl dX12_size_109 ?_
                refine va_getN (D := D) (ci := 11) (v := .int (bu_holders bu)) (C := RX11) (T := TX11) (N := 26) hx hb hts kb_inX11 hown hK.1 hP 2 rfl rfl 9 (by decide) (hK.2.nb ww_6_99 rfl rfl _) (fun _ h9 => h9) rfl dX12_size_112 ?_
                exact RET _ _ H _ ls 115 hf hP hD hS dX12_size_115
              · rw [if_neg c_7] at hf
                by_cases c_8 : v1 = (4 : Int32)
                · rw [if_pos c_8] at hf
                  refine lv_tableIn (tgt := 116) hx hb dX12_size_38 (by rw [c_8]; decide) (by rw [c_8]; decide) (by rw [c_8]; rfl) (by decide) ?_
                  refine lv_aload_n hx hb dX12_size_116 rfl (lv_at hl 0 rfl) ?_
                  obtain ⟨r9, hc9, hf⟩ := kb_bind hf
                  refine kb_ci (ws2 := (w_MO dA a (some (ba 0)) q1 g2 g3 g4 g5 (wa 0) g7 g8 g9 g10 g11 g12 g13 g14 g15 g16 g17 g18 z0 ++ (w_W dA wa y_w ++ (w_Bus dA ba bu)))) (kb_rV (n := 0) (As := []) (rest := []) hx hb hml hown hK (c_X12_allSeats l D dA H.size a ba q1 g2 g3 g4 g5 (wa 0) g7 g8 g9 g10 g11 g12 g13 g14 g15 g16 g17 g18 z0 bu r9 hc9) ⟨ww_8_118, ww_8_115, ww_8_117, ws_107, ww_1_12, rfl, by decide, by decide⟩ rfl rfl (by decide +kernel) ⟨Nat.le_of_ble_eq_true rfl, Nat.le_of_ble_eq_true rfl⟩ hP hD hS hA hE [0, 2, 3, 4, 5, 6, 7, 8, 9, 10, 11, 12, 13, 14, 15, 16, 17] rfl (by decide) 0 rfl rfl rfl hl.1 rfl (Nat.le_of_ble_eq_true rfl) dX12_size_117 ⟨Nat.le_of_ble_eq_true rfl, Nat.le_of_ble_eq_true rfl⟩) hP hD hS hA [0, 2, 3, 4, 5, 6, 7, 8, 9, 10, 11, 12, 13, 14, 15, 16, 17] [1] [1, 0, 2, 3, 4, 5, 6, 7, 8, 9, 10, 11, 12, 13, 14, 15, 16, 17] rfl rfl (by decide) (by decide) rfl (by decide) (fun H locs hP hD hS => ?_)
                  obtain ⟨r10, hc10, hf⟩ := kb_bind hf
                  refine kb_ci (ws2 := (w_MO dA a (some (ba 0)) q1 g2 g3 g4 g5 (wa 0) g7 g8 g9 g10 g11 g12 g13 g14 g15 g16 g17 g18 z0 ++ (w_W dA wa y_w ++ (w_Bus dA ba bu)))) (kb_rS (n := 1) (As := [.int r9]) (rest := []) hx hb hml hown hK (c_X12_bits l D dA H.size r9 r10 hc10) ⟨ww_8_80, ww_8_78, ww_8_79, ww_1_12, by decide, by decide⟩ rfl rfl (by decide +kernel) ⟨Nat.le_of_ble_eq_true rfl, Nat.le_of_ble_eq_true rfl⟩ hP hD hS hA hE [] rfl (by decide) rfl hl.1 rfl (Nat.le_of_ble_eq_true rfl) dX12_size_120 ⟨Nat.le_of_ble_eq_true rfl, Nat.le_of_ble_eq_true rfl⟩) hP hD hS hA [] [0, 1, 2, 3, 4, 5, 6, 7, 8, 9, 10, 11, 12, 13, 14, 15, 16, 17] [0, 1, 2, 3, 4, 5, 6, 7, 8, 9, 10, 11, 12, 13, 14, 15, 16, 17] rfl rfl (by decide) (by decide) rfl (by decide) (fun H locs hP hD hS => ?_)
                  exact RET _ _ H _ ls 123 hf hP hD hS dX12_size_123
                · rw [if_neg c_8] at hf
                  by_cases c_11 : v1 = (5 : Int32)
                  · rw [if_pos c_11] at hf
                    refine lv_tableIn (tgt := 124) hx hb dX12_size_38 (by rw [c_11]; decide) (by rw [c_11]; decide) (by rw [c_11]; rfl) (by decide) ?_
                    refine lv_aload_n hx hb dX12_size_124 rfl (lv_at hl 0 rfl) ?_
                    refine va_get (D := D) (ci := 12) (v := .ref (wa 0)) (C := RX12) (T := TX12) (N := 35) hx hb hts kb_inX12 hown hK.1 hP 0 rfl rfl 19 (by decide) (hK.2.w ww_5_219 rfl _) (fun _ h9 => h9) rfl dX12_size_125 ?_
                    refine lv_bipush (v := (52 : Int32)) hx hb dX12_size_128 (by decide) ?_
                    obtain ⟨h_12, hf⟩ := kb_if hf
                    refine va_iald (D := D) hx hb hK.1 hP 1 0 rfl rfl h_12 dX12_size_130 ?_
                    exact RET _ _ H _ ls 131 hf hP hD hS dX12_size_131
                  · rw [if_neg c_11] at hf
                    by_cases c_13 : v1 = (6 : Int32)
                    · rw [if_pos c_13] at hf
                      refine lv_tableIn (tgt := 132) hx hb dX12_size_38 (by rw [c_13]; decide) (by rw [c_13]; decide) (by rw [c_13]; rfl) (by decide) ?_
                      refine lv_aload_n hx hb dX12_size_132 rfl (lv_at hl 0 rfl) ?_
                      refine va_get (D := D) (ci := 12) (v := .int (mo_marks z0)) (C := RX12) (T := TX12) (N := 35) hx hb hts kb_inX12 hown hK.1 hP 0 rfl rfl 21 (by decide) (hK.2.w ww_5_221 rfl _) (fun _ h9 => h9) rfl dX12_size_133 ?_
                      exact RET _ _ H _ ls 136 hf hP hD hS dX12_size_136
                    · rw [if_neg c_13] at hf
                      by_cases c_14 : v1 = (7 : Int32)
                      · rw [if_pos c_14] at hf
                        refine lv_tableIn (tgt := 137) hx hb dX12_size_38 (by rw [c_14]; decide) (by rw [c_14]; decide) (by rw [c_14]; rfl) (by decide) ?_
                        refine lv_aload_n hx hb dX12_size_137 rfl (lv_at hl 0 rfl) ?_
                        refine va_get (D := D) (ci := 12) (v := .int (mo_films z0)) (C := RX12) (T := TX12) (N := 35) hx hb hts kb_inX12 hown hK.1 hP 0 rfl rfl 30 (by decide) (hK.2.w ww_5_230 rfl _) (fun _ h9 => h9) rfl dX12_size_138 ?_
                        exact RET _ _ H _ ls 141 hf hP hD hS dX12_size_141
                      · rw [if_neg c_14] at hf
                        refine lv_tableOut (tgt := 142) hx hb dX12_size_38 (kb_sw 0 7 (fun k q1 q2 => by
                            rcases (show k = 0 ∨ k = 1 ∨ k = 2 ∨ k = 3 ∨ k = 4 ∨ k = 5 ∨ k = 6 ∨ k = 7 by omega) with rfl | rfl | rfl | rfl | rfl | rfl | rfl | rfl
                            · exact fun e => c_4 (e.trans (by decide))
                            · exact fun e => c_5 (e.trans (by decide))
                            · exact fun e => c_6 (e.trans (by decide))
                            · exact fun e => c_7 (e.trans (by decide))
                            · exact fun e => c_8 (e.trans (by decide))
                            · exact fun e => c_11 (e.trans (by decide))
                            · exact fun e => c_13 (e.trans (by decide))
                            · exact fun e => c_14 (e.trans (by decide)))) (by decide) ?_
                        refine lv_aload_n hx hb dX12_size_142 rfl (lv_at hl 0 rfl) ?_
                        refine va_get (D := D) (ci := 12) (v := .ref (ba 0)) (C := RX12) (T := TX12) (N := 35) hx hb hts kb_inX12 hown hK.1 hP 0 rfl rfl 3 (by decide) (hK.2.w ww_5_203 rfl _) (fun _ h9 => h9) rfl dX12_size_143 ?_
                        refine va_getN (D := D) (ci := 11) (v := .int (bu_form bu)) (C := RX11) (T := TX11) (N := 26) hx hb hts kb_inX11 hown hK.1 hP 2 rfl rfl 1 (by decide) (hK.2.nb ww_6_90 rfl rfl _) (fun _ h9 => h9) rfl dX12_size_146 ?_
                        exact RET _ _ H _ ls 149 hf hP hD hS dX12_size_149
      · rw [if_pos c_3] at hf
        refine lv_iconst (v := (-1 : Int32)) hx hb dX12_size_26 (by decide) ?_
        exact RET _ _ H _ ls 27 hf hP hD hS dX12_size_27
    · rw [if_pos c_1] at hf
      refine lv_aload_n hx hb dX12_size_11 rfl (lv_at hl 0 rfl) ?_
      refine va_get (D := D) (ci := 12) (v := .int (mo_taped z0)) (C := RX12) (T := TX12) (N := 35) hx hb hts kb_inX12 hown hK.1 hP 0 rfl rfl 6 (by decide) (hK.2.w ww_5_206 rfl _) (fun _ h9 => h9) rfl dX12_size_12 ?_
      exact RET _ _ H _ ls 15 hf hP hD hS dX12_size_15
  have E0 : ∀ (H : Heap) (locs : List Loc), va_P D vwCl (w_MO dA a (some (ba 0)) q1 g2 g3 g4 g5 (wa 0) g7 g8 g9 g10 g11 g12 g13 g14 g15 g16 g17 g18 mo ++ (w_W dA wa y_w ++ (w_Bus dA ba bu))) H → va_D A (w_MO dA a (some (ba 0)) q1 g2 g3 g4 g5 (wa 0) g7 g8 g9 g10 g11 g12 g13 g14 g15 g16 g17 g18 mo ++ (w_W dA wa y_w ++ (w_Bus dA ba bu))) → va_S A s.heap H locs → W p l e ({ frames := 3, cells := 0, slots := 0, locals := 64 } : Room) s m ([.ref (a 0), .int x0] : List Value).toArray below meth c H locs 0 0 Q (F0 m 0 ls []) := by
    intro H locs hP hD hS
    rw [f_X12_size] at hf
    refine lv_aload_n hx hb dX12_size_0 rfl (lv_at hl 0 rfl) ?_
    refine lv_iconst (v := (0 : Int32)) hx hb dX12_size_1 (by decide) ?_
    refine va_put (D := D) (ci := 12) (v := .int (0 : Int32)) (ty := .int) (C := RX12) (T := TX12) (N := 35) hx hb hts kb_inX12 tyX12 tyX12_ok nmX12 hown hK.1 hP hD hS 0 rfl rfl 0 (by decide) (hK.2.w ww_5_200 rfl _) (fun _ h9 => h9) rfl (by decide +kernel) rfl rfl (Nat.le_of_ble_eq_true rfl) dX12_size_2 (fun H locs hP hD hS => ?_)
    have hP : va_P D vwCl (w_MO dA a (some (ba 0)) q1 g2 g3 g4 g5 (wa 0) g7 g8 g9 g10 g11 g12 g13 g14 g15 g16 g17 g18 (mo_set_thrown mo (0 : Int32)) ++ (w_W dA wa y_w ++ (w_Bus dA ba bu))) H := hP
    have hD : va_D A (w_MO dA a (some (ba 0)) q1 g2 g3 g4 g5 (wa 0) g7 g8 g9 g10 g11 g12 g13 g14 g15 g16 g17 g18 (mo_set_thrown mo (0 : Int32)) ++ (w_W dA wa y_w ++ (w_Bus dA ba bu))) := hD
    exact B_5 _ _ _ _ _ hf hP hD hS (lv_sub hl [0, 1] rfl)
  exact E0 _ _ hP hD hS

noncomputable def f_X12_trouble_b5 (z0 : MOT) : Option (Int32 × MOT) := some ((mo_trouble z0), z0)
noncomputable def f_X12_trouble (mo : MOT) : Option (Int32 × MOT) := f_X12_trouble_b5 (mo_set_thrown mo (0 : Int32))
set_option maxHeartbeats 4000000 in
set_option maxRecDepth 100000 in
theorem c_X12_trouble (l : Launch) (D : va_G) (dA : Nat → ClassId) (sz : Nat) (a : Nat → Nat) (q0 : Option Nat) (q1 : Option Nat) (g2 : Nat) (g3 : Nat) (g4 : Nat) (g5 : Nat) (g6 : Nat) (g7 : Nat) (g8 : Nat) (g9 : Nat) (g10 : Nat) (g11 : Nat) (g12 : Nat) (g13 : Nat) (g14 : Nat) (g15 : Nat) (g16 : Nat) (g17 : Nat) (g18 : Nat) (mo : MOT) (rv : Int32) (u0 : MOT) (hf : f_X12_trouble mo = some (rv, u0)) : kb_Mi l yX12_trouble cX12_trouble 1 (some .int) ({ frames := 0, cells := 0, slots := 0, locals := 0 } : Room) D dA [.ref (a 0)] sz (w_MO dA a q0 q1 g2 g3 g4 g5 g6 g7 g8 g9 g10 g11 g12 g13 g14 g15 g16 g17 g18 mo) 0 0 rv (w_MO dA a q0 q1 g2 g3 g4 g5 g6 g7 g8 g9 g10 g11 g12 g13 g14 g15 g16 g17 g18 u0) := by
  refine Met.ofW (cc := cX12_trouble) (maxL := 1) (ret := (some .int)) (by decide) rfl ?_
  intro p e s m args below meth c s₁ B hml hv
  obtain ⟨rfl, hsz, hP, hK, hD0, hE⟩ := hv
  have hx := B.exec
  have hb := B.bytes
  have hr := B.returns
  have hown : s.vm.findClass RX12 = some m.cls := findClass_of_methodNamed B.named
  have hlocks := B.notSynchronized
  have hts : ∀ w ∈ kb_gw, w.before ([.ref (a 0)] : List Value).toArray s = true := fun w hw => hK.2.1 w hw _
  subst hsz
  have hD := hD0.self (sz := s.heap.size)
  generalize hAe : va_A (w_MO dA a q0 q1 g2 g3 g4 g5 g6 g7 g8 g9 g10 g11 g12 g13 g14 g15 g16 g17 g18 mo) s.heap.size = A at hD hE ⊢
  have hA : ∀ q : Nat, s.heap.size ≤ q → A q := fun q h => by rw [← hAe]; exact Or.inr h
  have hS : va_S A s.heap s.heap [] := va_S.rf
  have hl := lv_entry ([.ref (a 0)]) (n := 1) (Nat.le_of_ble_eq_true rfl)
  rw [lg_entry_eq]
  generalize (lg_sl ([.ref (a 0)]) ++ List.replicate (1 - (lg_sl ([.ref (a 0)])).length) Slot.unset).toArray = ls at hl ⊢
  have hl : lv_has ls 1 [(0, .ref (a 0))] := hl
  generalize hQ : MQ below (va_Qi (fun r (_ : Unit) => r = rv) (kb_B D A (w_MO dA a q0 q1 g2 g3 g4 g5 g6 g7 g8 g9 g10 g11 g12 g13 g14 g15 g16 g17 g18 u0)) A) ([.ref (a 0)] : List Value).toArray s 0 0 A = Q
  show W p l e ({ frames := 0, cells := 0, slots := 0, locals := 0 } : Room) s m ([.ref (a 0)] : List Value).toArray below meth c s.heap [] 0 0 Q (F0 m 0 ls [])
  have RET : ∀ (r2 : Int32) (w0 : MOT) (H : Heap) (locs : List Loc) (ls : Array Slot) (pc : Nat), some (r2, w0) = some (rv, u0) → va_P D vwCl (w_MO dA a q0 q1 g2 g3 g4 g5 g6 g7 g8 g9 g10 g11 g12 g13 g14 g15 g16 g17 g18 w0) H → va_D A (w_MO dA a q0 q1 g2 g3 g4 g5 g6 g7 g8 g9 g10 g11 g12 g13 g14 g15 g16 g17 g18 w0) → va_S A s.heap H locs → decode cX12_trouble pc = .ok (.ireturn, 1) → W p l e ({ frames := 0, cells := 0, slots := 0, locals := 0 } : Room) s m ([.ref (a 0)] : List Value).toArray below meth c H locs 0 0 Q (F0 m pc ls [.int r2]) := by
    intro r2 w0 H locs ls pc hq hP hD hS hd
    cases hq
    rw [← hQ]
    exact W.iret hx hb hr (fun t ht hW => ⟨⟨_, (), rfl, rfl, by rw [ht]; exact hP, hD⟩, hS.F ht⟩) hS.2.2 hd
  have B_5 : ∀ (z0 : MOT) (H : Heap) (locs : List Loc) (ls : Array Slot), f_X12_trouble_b5 z0 = some (rv, u0) → va_P D vwCl (w_MO dA a q0 q1 g2 g3 g4 g5 g6 g7 g8 g9 g10 g11 g12 g13 g14 g15 g16 g17 g18 z0) H → va_D A (w_MO dA a q0 q1 g2 g3 g4 g5 g6 g7 g8 g9 g10 g11 g12 g13 g14 g15 g16 g17 g18 z0) → va_S A s.heap H locs → lv_has ls 1 [(0, .ref (a 0))] → W p l e ({ frames := 0, cells := 0, slots := 0, locals := 0 } : Room) s m ([.ref (a 0)] : List Value).toArray below meth c H locs 0 0 Q (F0 m 5 ls []) := by
    intro z0 H locs ls hf hP hD hS hl
    rw [f_X12_trouble_b5] at hf
    refine lv_aload_n hx hb dX12_trouble_5 rfl (lv_at hl 0 rfl) ?_
    refine va_get (D := D) (ci := 12) (v := .int (mo_trouble z0)) (C := RX12) (T := TX12) (N := 35) hx hb hts kb_inX12 hown hK.1 hP 0 rfl rfl 1 (by decide) (hK.2.w ww_5_201 rfl _) (fun _ h9 => h9) rfl dX12_trouble_6 ?_
    exact RET _ _ H _ ls 9 hf hP hD hS dX12_trouble_9
  have E0 : ∀ (H : Heap) (locs : List Loc), va_P D vwCl (w_MO dA a q0 q1 g2 g3 g4 g5 g6 g7 g8 g9 g10 g11 g12 g13 g14 g15 g16 g17 g18 mo) H → va_D A (w_MO dA a q0 q1 g2 g3 g4 g5 g6 g7 g8 g9 g10 g11 g12 g13 g14 g15 g16 g17 g18 mo) → va_S A s.heap H locs → W p l e ({ frames := 0, cells := 0, slots := 0, locals := 0 } : Room) s m ([.ref (a 0)] : List Value).toArray below meth c H locs 0 0 Q (F0 m 0 ls []) := by
    intro H locs hP hD hS
    rw [f_X12_trouble] at hf
    refine lv_aload_n hx hb dX12_trouble_0 rfl (lv_at hl 0 rfl) ?_
    refine lv_iconst (v := (0 : Int32)) hx hb dX12_trouble_1 (by decide) ?_
    refine va_put (D := D) (ci := 12) (v := .int (0 : Int32)) (ty := .int) (C := RX12) (T := TX12) (N := 35) hx hb hts kb_inX12 tyX12 tyX12_ok nmX12 hown hK.1 hP hD hS 0 rfl rfl 0 (by decide) (hK.2.w ww_5_200 rfl _) (fun _ h9 => h9) rfl (by decide +kernel) rfl rfl (Nat.le_of_ble_eq_true rfl) dX12_trouble_2 (fun H locs hP hD hS => ?_)
    have hP : va_P D vwCl (w_MO dA a q0 q1 g2 g3 g4 g5 g6 g7 g8 g9 g10 g11 g12 g13 g14 g15 g16 g17 g18 (mo_set_thrown mo (0 : Int32))) H := hP
    have hD : va_D A (w_MO dA a q0 q1 g2 g3 g4 g5 g6 g7 g8 g9 g10 g11 g12 g13 g14 g15 g16 g17 g18 (mo_set_thrown mo (0 : Int32))) := hD
    exact B_5 _ _ _ _ hf hP hD hS (lv_sub hl [0] rfl)
  exact E0 _ _ hP hD hS
