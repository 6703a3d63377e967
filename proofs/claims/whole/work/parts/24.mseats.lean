noncomputable def f_X12_feed_b111 (k23 : Int32 → Int32 → Int32 → Int32 → Int32 → Int32 → MOT → TapeT → Option (Int32 × MOT × TapeT)) (v1 : Int32) (v2 : Int32) (v3 : Int32) (v4 : Int32) (v5 : Int32) (v6 : Int32) (z0 : MOT) (z1 : TapeT) : Option (Int32 × MOT × TapeT) := k23 v1 v2 v3 v4 v5 (v6 + (1 : Int32)) z0 z1
noncomputable def f_X12_feed_b101 (k23 : Int32 → Int32 → Int32 → Int32 → Int32 → Int32 → MOT → TapeT → Option (Int32 × MOT × TapeT)) (v1 : Int32) (v2 : Int32) (v3 : Int32) (v4 : Int32) (v5 : Int32) (v6 : Int32) (z0 : MOT) (z1 : TapeT) : Option (Int32 × MOT × TapeT) := f_X12_feed_b111 k23 v1 v2 v3 v4 v5 v6 (mo_set_taped z0 ((mo_taped z0) + (1 : Int32))) z1
noncomputable def f_X12_feed_b76 (k23 : Int32 → Int32 → Int32 → Int32 → Int32 → Int32 → MOT → TapeT → Option (Int32 × MOT × TapeT)) (v1 : Int32) (v2 : Int32) (v3 : Int32) (v4 : Int32) (v5 : Int32) (v6 : Int32) (s0 : Int32) (z0 : MOT) (z1 : TapeT) : Option (Int32 × MOT × TapeT) := if kb_in? (mo_taped z0) 900 then f_X12_feed_b101 k23 v1 v2 v3 v4 v5 v6 z0 (yTape_set_r z1 (upd (yTape_r z1) ((mo_taped z0)).toNatClampNeg (vp_nar .byte ((s0 >>> (((24 : Int32) - ((8 : Int32) * (v6 - v6 / (4 : Int32) * (4 : Int32)))) &&& 31))).toInt8.toInt32))) else none
noncomputable def f_X12_feed_b23 : Nat → Int32 → Int32 → Int32 → Int32 → Int32 → Int32 → MOT → TapeT → Option (Int32 × MOT × TapeT)
  | 0, _, _, _, _, _, _, _, _ => none
  | n + 1, v1, v2, v3, v4, v5, v6, z0, z1 => (if (20 : Int32) ≤ v6 then some ((mo_taped z0), z0, z1) else (if (4 : Int32) ≤ v6 then (if (8 : Int32) ≤ v6 then (if (12 : Int32) ≤ v6 then (if (16 : Int32) ≤ v6 then f_X12_feed_b76 (f_X12_feed_b23 n) v1 v2 v3 v4 v5 v6 v5 z0 z1 else f_X12_feed_b76 (f_X12_feed_b23 n) v1 v2 v3 v4 v5 v6 v4 z0 z1) else f_X12_feed_b76 (f_X12_feed_b23 n) v1 v2 v3 v4 v5 v6 v3 z0 z1) else f_X12_feed_b76 (f_X12_feed_b23 n) v1 v2 v3 v4 v5 v6 v2 z0 z1) else f_X12_feed_b76 (f_X12_feed_b23 n) v1 v2 v3 v4 v5 v6 v1 z0 z1))
noncomputable def f_X12_feed_b5 (v1 : Int32) (v2 : Int32) (v3 : Int32) (v4 : Int32) (v5 : Int32) (z0 : MOT) (z1 : TapeT) : Option (Int32 × MOT × TapeT) := (if ((mo_taped z0) + (20 : Int32)) ≤ (900 : Int32) then f_X12_feed_b23 4096 v1 v2 v3 v4 v5 (0 : Int32) z0 z1 else some ((-1 : Int32), z0, z1))
noncomputable def f_X12_feed (mo : MOT) (y_tape : TapeT) (x0 : Int32) (x1 : Int32) (x2 : Int32) (x3 : Int32) (x4 : Int32) : Option (Int32 × MOT × TapeT) := f_X12_feed_b5 x0 x1 x2 x3 x4 (mo_set_thrown mo (0 : Int32)) y_tape
set_option maxHeartbeats 4000000 in
set_option maxRecDepth 100000 in
theorem c_X12_feed (l : Launch) (D : va_G) (dA : Nat → ClassId) (sz : Nat) (a : Nat → Nat) (ta : Nat → Nat) (q0 : Option Nat) (q1 : Option Nat) (g3 : Nat) (g4 : Nat) (g5 : Nat) (g6 : Nat) (g7 : Nat) (g8 : Nat) (g9 : Nat) (g10 : Nat) (g11 : Nat) (g12 : Nat) (g13 : Nat) (g14 : Nat) (g15 : Nat) (g16 : Nat) (g17 : Nat) (g18 : Nat) (mo : MOT) (y_tape : TapeT) (x0 : Int32) (x1 : Int32) (x2 : Int32) (x3 : Int32) (x4 : Int32) (rv : Int32) (u0 : MOT) (u1 : TapeT) (hf : f_X12_feed mo y_tape x0 x1 x2 x3 x4 = some (rv, u0, u1)) : kb_Mi l yX12_feed cX12_feed 8 (some .int) ({ frames := 0, cells := 0, slots := 0, locals := 0 } : Room) D dA [.ref (a 0), .int x0, .int x1, .int x2, .int x3, .int x4] sz (w_MO dA a q0 q1 (ta 0) g3 g4 g5 g6 g7 g8 g9 g10 g11 g12 g13 g14 g15 g16 g17 g18 mo ++ (w_Tape dA ta y_tape)) 0 0 rv (w_MO dA a q0 q1 (ta 0) g3 g4 g5 g6 g7 g8 g9 g10 g11 g12 g13 g14 g15 g16 g17 g18 u0 ++ (w_Tape dA ta u1)) := by
  refine Met.ofW (cc := cX12_feed) (maxL := 8) (ret := (some .int)) (by decide) rfl ?_
  intro p e s m args below meth c s₁ B hml hv
  obtain ⟨rfl, hsz, hP, hK, hD0, hE⟩ := hv
  have hx := B.exec
  have hb := B.bytes
  have hr := B.returns
  have hown : s.vm.findClass RX12 = some m.cls := findClass_of_methodNamed B.named
  have hlocks := B.notSynchronized
  have hts : ∀ w ∈ kb_gw, w.before ([.ref (a 0), .int x0, .int x1, .int x2, .int x3, .int x4] : List Value).toArray s = true := fun w hw => hK.2.1 w hw _
  subst hsz
  have hD := hD0.self (sz := s.heap.size)
  generalize hAe : va_A (w_MO dA a q0 q1 (ta 0) g3 g4 g5 g6 g7 g8 g9 g10 g11 g12 g13 g14 g15 g16 g17 g18 mo ++ (w_Tape dA ta y_tape)) s.heap.size = A at hD hE ⊢
  have hA : ∀ q : Nat, s.heap.size ≤ q → A q := fun q h => by rw [← hAe]; exact Or.inr h
  have hS : va_S A s.heap s.heap [] := va_S.rf
  have hl := lv_entry ([.ref (a 0), .int x0, .int x1, .int x2, .int x3, .int x4]) (n := 8) (Nat.le_of_ble_eq_true rfl)
  rw [lg_entry_eq]
  generalize (lg_sl ([.ref (a 0), .int x0, .int x1, .int x2, .int x3, .int x4]) ++ List.replicate (8 - (lg_sl ([.ref (a 0), .int x0, .int x1, .int x2, .int x3, .int x4])).length) Slot.unset).toArray = ls at hl ⊢
  have hl : lv_has ls 8 [(0, .ref (a 0)), (1, .int x0), (2, .int x1), (3, .int x2), (4, .int x3), (5, .int x4)] := hl
  generalize hQ : MQ below (va_Qi (fun r (_ : Unit) => r = rv) (kb_B D A (w_MO dA a q0 q1 (ta 0) g3 g4 g5 g6 g7 g8 g9 g10 g11 g12 g13 g14 g15 g16 g17 g18 u0 ++ (w_Tape dA ta u1))) A) ([.ref (a 0), .int x0, .int x1, .int x2, .int x3, .int x4] : List Value).toArray s 0 0 A = Q
  show W p l e ({ frames := 0, cells := 0, slots := 0, locals := 0 } : Room) s m ([.ref (a 0), .int x0, .int x1, .int x2, .int x3, .int x4] : List Value).toArray below meth c s.heap [] 0 0 Q (F0 m 0 ls [])
  have RET : ∀ (r2 : Int32) (w0 : MOT) (w1 : TapeT) (H : Heap) (locs : List Loc) (ls : Array Slot) (pc : Nat), some (r2, w0, w1) = some (rv, u0, u1) → va_P D vwCl (w_MO dA a q0 q1 (ta 0) g3 g4 g5 g6 g7 g8 g9 g10 g11 g12 g13 g14 g15 g16 g17 g18 w0 ++ (w_Tape dA ta w1)) H → va_D A (w_MO dA a q0 q1 (ta 0) g3 g4 g5 g6 g7 g8 g9 g10 g11 g12 g13 g14 g15 g16 g17 g18 w0 ++ (w_Tape dA ta w1)) → va_S A s.heap H locs → decode cX12_feed pc = .ok (.ireturn, 1) → W p l e ({ frames := 0, cells := 0, slots := 0, locals := 0 } : Room) s m ([.ref (a 0), .int x0, .int x1, .int x2, .int x3, .int x4] : List Value).toArray below meth c H locs 0 0 Q (F0 m pc ls [.int r2]) := by
    intro r2 w0 w1 H locs ls pc hq hP hD hS hd
    cases hq
    rw [← hQ]
    exact W.iret hx hb hr (fun t ht hW => ⟨⟨_, (), rfl, rfl, by rw [ht]; exact hP, hD⟩, hS.F ht⟩) hS.2.2 hd
  have B_111 : ∀ (k23 : Int32 → Int32 → Int32 → Int32 → Int32 → Int32 → MOT → TapeT → Option (Int32 × MOT × TapeT)) (hk23 : ∀ (v1 : Int32) (v2 : Int32) (v3 : Int32) (v4 : Int32) (v5 : Int32) (v6 : Int32) (z0 : MOT) (z1 : TapeT) (H : Heap) (locs : List Loc) (ls : Array Slot), k23 v1 v2 v3 v4 v5 v6 z0 z1 = some (rv, u0, u1) → va_P D vwCl (w_MO dA a q0 q1 (ta 0) g3 g4 g5 g6 g7 g8 g9 g10 g11 g12 g13 g14 g15 g16 g17 g18 z0 ++ (w_Tape dA ta z1)) H → va_D A (w_MO dA a q0 q1 (ta 0) g3 g4 g5 g6 g7 g8 g9 g10 g11 g12 g13 g14 g15 g16 g17 g18 z0 ++ (w_Tape dA ta z1)) → va_S A s.heap H locs → lv_has ls 8 [(0, .ref (a 0)), (1, .int v1), (2, .int v2), (3, .int v3), (4, .int v4), (5, .int v5), (6, .int v6)] → W p l e ({ frames := 0, cells := 0, slots := 0, locals := 0 } : Room) s m ([.ref (a 0), .int x0, .int x1, .int x2, .int x3, .int x4] : List Value).toArray below meth c H locs 0 0 Q (F0 m 23 ls [])) (v1 : Int32) (v2 : Int32) (v3 : Int32) (v4 : Int32) (v5 : Int32) (v6 : Int32) (z0 : MOT) (z1 : TapeT) (H : Heap) (locs : List Loc) (ls : Array Slot), f_X12_feed_b111 k23 v1 v2 v3 v4 v5 v6 z0 z1 = some (rv, u0, u1) → va_P D vwCl (w_MO dA a q0 q1 (ta 0) g3 g4 g5 g6 g7 g8 g9 g10 g11 g12 g13 g14 g15 g16 g17 g18 z0 ++ (w_Tape dA ta z1)) H → va_D A (w_MO dA a q0 q1 (ta 0) g3 g4 g5 g6 g7 g8 g9 g10 g11 g12 g13 g14 g15 g16 g17 g18 z0 ++ (w_Tape dA ta z1)) → va_S A s.heap H locs → lv_has ls 8 [(0, .ref (a 0)), (1, .int v1), (2, .int v2), (3, .int v3), (4, .int v4), (5, .int v5), (6, .int v6)] → W p l e ({ frames := 0, cells := 0, slots := 0, locals := 0 } : Room) s m ([.ref (a 0), .int x0, .int x1, .int x2, .int x3, .int x4] : List Value).toArray below meth c H locs 0 0 Q (F0 m 111 ls []) := by
    intro k23 hk23 v1 v2 v3 v4 v5 v6 z0 z1 H locs ls hf hP hD hS hl
    rw [f_X12_feed_b111] at hf
    refine lv_iinc (v := (v6 + (1 : Int32))) (lv' := [(6, .int (v6 + (1 : Int32))), (0, .ref (a 0)), (1, .int v1), (2, .int v2), (3, .int v3), (4, .int v4), (5, .int v5)]) hx hb dX12_feed_111 hl (k := 6) rfl (by rfl) (by decide) rfl (fun ls hl => ?_)
    refine lv_goto (tgt := 23) hx hb dX12_feed_114 (by decide) ?_
    exact hk23 _ _ _ _ _ _ _ _ _ _ _ hf hP hD hS (lv_sub hl [1, 2, 3, 4, 5, 6, 0] rfl)
  have B_101 : ∀ (k23 : Int32 → Int32 → Int32 → Int32 → Int32 → Int32 → MOT → TapeT → Option (Int32 × MOT × TapeT)) (hk23 : ∀ (v1 : Int32) (v2 : Int32) (v3 : Int32) (v4 : Int32) (v5 : Int32) (v6 : Int32) (z0 : MOT) (z1 : TapeT) (H : Heap) (locs : List Loc) (ls : Array Slot), k23 v1 v2 v3 v4 v5 v6 z0 z1 = some (rv, u0, u1) → va_P D vwCl (w_MO dA a q0 q1 (ta 0) g3 g4 g5 g6 g7 g8 g9 g10 g11 g12 g13 g14 g15 g16 g17 g18 z0 ++ (w_Tape dA ta z1)) H → va_D A (w_MO dA a q0 q1 (ta 0) g3 g4 g5 g6 g7 g8 g9 g10 g11 g12 g13 g14 g15 g16 g17 g18 z0 ++ (w_Tape dA ta z1)) → va_S A s.heap H locs → lv_has ls 8 [(0, .ref (a 0)), (1, .int v1), (2, .int v2), (3, .int v3), (4, .int v4), (5, .int v5), (6, .int v6)] → W p l e ({ frames := 0, cells := 0, slots := 0, locals := 0 } : Room) s m ([.ref (a 0), .int x0, .int x1, .int x2, .int x3, .int x4] : List Value).toArray below meth c H locs 0 0 Q (F0 m 23 ls [])) (v1 : Int32) (v2 : Int32) (v3 : Int32) (v4 : Int32) (v5 : Int32) (v6 : Int32) (z0 : MOT) (z1 : TapeT) (H : Heap) (locs : List Loc) (ls : Array Slot), f_X12_feed_b101 k23 v1 v2 v3 v4 v5 v6 z0 z1 = some (rv, u0, u1) → va_P D vwCl (w_MO dA a q0 q1 (ta 0) g3 g4 g5 g6 g7 g8 g9 g10 g11 g12 g13 g14 g15 g16 g17 g18 z0 ++ (w_Tape dA ta z1)) H → va_D A (w_MO dA a q0 q1 (ta 0) g3 g4 g5 g6 g7 g8 g9 g10 g11 g12 g13 g14 g15 g16 g17 g18 z0 ++ (w_Tape dA ta z1)) → va_S A s.heap H locs → lv_has ls 8 [(0, .ref (a 0)), (1, .int v1), (2, .int v2), (3, .int v3), (4, .int v4), (5, .int v5), (6, .int v6)] → W p l e ({ frames := 0, cells := 0, slots := 0, locals := 0 } : Room) s m ([.ref (a 0), .int x0, .int x1, .int x2, .int x3, .int x4] : List Value).toArray below meth c H locs 0 0 Q (F0 m 101 ls []) := by
    intro k23 hk23 v1 v2 v3 v4 v5 v6 z0 z1 H locs ls hf hP hD hS hl
    rw [f_X12_feed_b101] at hf
    refine lv_aload_n hx hb dX12_feed_101 rfl (lv_at hl 0 rfl) ?_
    refine lv_dup hx hb dX12_feed_102 rfl ?_
    refine va_get (D := D) (ci := 12) (v := .int (mo_taped z0)) (C := RX12) (T := TX12) (N := 35) hx hb hts kb_inX12 hown hK.1 hP 0 rfl rfl 6 (by decide) (hK.2.w ww_5_206 rfl _) (fun _ h9 => h9) rfl dX12_feed_103 ?_
    refine lv_iconst (v := (1 : Int32)) hx hb dX12_feed_106 (by decide) ?_
    refine lv_iadd hx hb dX12_feed_107 ?_
    refine va_put (D := D) (ci := 12) (v := .int ((mo_taped z0) + (1 : Int32))) (ty := .int) (C := RX12) (T := TX12) (N := 35) hx hb hts kb_inX12 tyX12 tyX12_ok nmX12 hown hK.1 hP hD hS 0 rfl rfl 6 (by decide) (hK.2.w ww_5_206 rfl _) (fun _ h9 => h9) rfl (by decide +kernel) rfl rfl (Nat.le_of_ble_eq_true rfl) dX12_feed_108 (fun H locs hP hD hS => ?_)
    have hP : va_P D vwCl (w_MO dA a q0 q1 (ta 0) g3 g4 g5 g6 g7 g8 g9 g10 g11 g12 g13 g14 g15 g16 g17 g18 (mo_set_taped z0 ((mo_taped z0) + (1 : Int32))) ++ (w_Tape dA ta z1)) H := hP
    have hD : va_D A (w_MO dA a q0 q1 (ta 0) g3 g4 g5 g6 g7 g8 g9 g10 g11 g12 g13 g14 g15 g16 g17 g18 (mo_set_taped z0 ((mo_taped z0) + (1 : Int32))) ++ (w_Tape dA ta z1)) := hD
    exact B_111 k23 hk23 _ _ _ _ _ _ _ _ _ _ _ hf hP hD hS (lv_sub hl [0, 1, 2, 3, 4, 5, 6] rfl)
  have B_76 : ∀ (k23 : Int32 → Int32 → Int32 → Int32 → Int32 → Int32 → MOT → TapeT → Option (Int32 × MOT × TapeT)) (hk23 : ∀ (v1 : Int32) (v2 : Int32) (v3 : Int32) (v4 : Int32) (v5 : Int32) (v6 : Int32) (z0 : MOT) (z1 : TapeT) (H : Heap) (locs : List Loc) (ls : Array Slot), k23 v1 v2 v3 v4 v5 v6 z0 z1 = some (rv, u0, u1) → va_P D vwCl (w_MO dA a q0 q1 (ta 0) g3 g4 g5 g6 g7 g8 g9 g10 g11 g12 g13 g14 g15 g16 g17 g18 z0 ++ (w_Tape dA ta z1)) H → va_D A (w_MO dA a q0 q1 (ta 0) g3 g4 g5 g6 g7 g8 g9 g10 g11 g12 g13 g14 g15 g16 g17 g18 z0 ++ (w_Tape dA ta z1)) → va_S A s.heap H locs → lv_has ls 8 [(0, .ref (a 0)), (1, .int v1), (2, .int v2), (3, .int v3), (4, .int v4), (5, .int v5), (6, .int v6)] → W p l e ({ frames := 0, cells := 0, slots := 0, locals := 0 } : Room) s m ([.ref (a 0), .int x0, .int x1, .int x2, .int x3, .int x4] : List Value).toArray below meth c H locs 0 0 Q (F0 m 23 ls [])) (v1 : Int32) (v2 : Int32) (v3 : Int32) (v4 : Int32) (v5 : Int32) (v6 : Int32) (s0 : Int32) (z0 : MOT) (z1 : TapeT) (H : Heap) (locs : List Loc) (ls : Array Slot), f_X12_feed_b76 k23 v1 v2 v3 v4 v5 v6 s0 z0 z1 = some (rv, u0, u1) → va_P D vwCl (w_MO dA a q0 q1 (ta 0) g3 g4 g5 g6 g7 g8 g9 g10 g11 g12 g13 g14 g15 g16 g17 g18 z0 ++ (w_Tape dA ta z1)) H → va_D A (w_MO dA a q0 q1 (ta 0) g3 g4 g5 g6 g7 g8 g9 g10 g11 g12 g13 g14 g15 g16 g17 g18 z0 ++ (w_Tape dA ta z1)) → va_S A s.heap H locs → lv_has ls 8 [(0, .ref (a 0)), (1, .int v1), (2, .int v2), (3, .int v3), (4, .int v4), (5, .int v5), (6, .int v6)] → W p l e ({ frames := 0, cells := 0, slots := 0, locals := 0 } : Room) s m ([.ref (a 0), .int x0, .int x1, .int x2, .int x3, .int x4] : List Value).toArray below meth c H locs 0 0 Q (F0 m 76 ls [.int s0]) := by
    intro k23 hk23 v1 v2 v3 v4 v5 v6 s0 z0 z1 H locs ls hf hP hD hS hl
    rw [f_X12_feed_b76] at hf
    refine lv_istore (lv' := [(7, .int s0), (0, .ref (a 0)), (1, .int v1), (2, .int v2), (3, .int v3), (4, .int v4), (5, .int v5), (6, .int v6)]) hx hb dX12_feed_76 hl (by decide) rfl (fun ls hl => ?_)
    refine lv_aload_n hx hb dX12_feed_78 rfl (lv_at hl 1 rfl) ?_
    refine va_get (D := D) (ci := 12) (v := .ref (ta 0)) (C := RX12) (T := TX12) (N := 35) hx hb hts kb_inX12 hown hK.1 hP 0 rfl rfl 5 (by decide) (hK.2.w ww_5_205 rfl _) (fun _ h9 => h9) rfl dX12_feed_79 ?_
    refine lv_aload_n hx hb dX12_feed_82 rfl (lv_at hl 1 rfl) ?_
    refine va_get (D := D) (ci := 12) (v := .int (mo_taped z0)) (C := RX12) (T := TX12) (N := 35) hx hb hts kb_inX12 hown hK.1 hP 0 rfl rfl 6 (by decide) (hK.2.w ww_5_206 rfl _) (fun _ h9 => h9) rfl dX12_feed_83 ?_
    refine lv_iload hx hb dX12_feed_86 (lv_at hl 0 rfl) ?_
    refine lv_bipush (v := (24 : Int32)) hx hb dX12_feed_88 (by decide) ?_
    refine lv_bipush (v := (8 : Int32)) hx hb dX12_feed_90 (by decide) ?_
    refine lv_iload hx hb dX12_feed_92 (lv_at hl 7 rfl) ?_
    refine lv_iconst (v := (4 : Int32)) hx hb dX12_feed_94 (by decide) ?_
    refine lv_irem hx hb dX12_feed_95 (by decide) ?_
    refine lv_imul hx hb dX12_feed_96 ?_
    refine lv_isub hx hb dX12_feed_97 ?_
    refine lv_ishr hx hb dX12_feed_98 ?_
    refine lv_i2b hx hb dX12_feed_99 rfl ?_
    obtain ⟨h_7, hf⟩ := kb_if hf
    refine va_bast (D := D) hx hb hK.1 hP hD hS 1 1 rfl rfl h_7 dX12_feed_100 (fun H locs hP hD hS => ?_)
    have hP : va_P D vwCl (w_MO dA a q0 q1 (ta 0) g3 g4 g5 g6 g7 g8 g9 g10 g11 g12 g13 g14 g15 g16 g17 g18 z0 ++ (w_Tape dA ta (yTape_set_r z1 (upd (yTape_r z1) ((mo_taped z0)).toNatClampNeg (vp_nar .byte ((s0 >>> (((24 : Int32) - ((8 : Int32) * (v6 - v6 / (4 : Int32) * (4 : Int32)))) &&& 31))).toInt8.toInt32))))) H := hP
    have hD : va_D A (w_MO dA a q0 q1 (ta 0) g3 g4 g5 g6 g7 g8 g9 g10 g11 g12 g13 g14 g15 g16 g17 g18 z0 ++ (w_Tape dA ta (yTape_set_r z1 (upd (yTape_r z1) ((mo_taped z0)).toNatClampNeg (vp_nar .byte ((s0 >>> (((24 : Int32) - ((8 : Int32) * (v6 - v6 / (4 : Int32) * (4 : Int32)))) &&& 31))).toInt8.toInt32))))) := hD
    exact B_101 k23 hk23 _ _ _ _ _ _ _ _ _ _ _ hf hP hD hS (lv_sub hl [1, 2, 3, 4, 5, 6, 7] rfl)
  have B_23 : ∀ (n : Nat) (v1 : Int32) (v2 : Int32) (v3 : Int32) (v4 : Int32) (v5 : Int32) (v6 : Int32) (z0 : MOT) (z1 : TapeT) (H : Heap) (locs : List Loc) (ls : Array Slot), f_X12_feed_b23 n v1 v2 v3 v4 v5 v6 z0 z1 = some (rv, u0, u1) → va_P D vwCl (w_MO dA a q0 q1 (ta 0) g3 g4 g5 g6 g7 g8 g9 g10 g11 g12 g13 g14 g15 g16 g17 g18 z0 ++ (w_Tape dA ta z1)) H → va_D A (w_MO dA a q0 q1 (ta 0) g3 g4 g5 g6 g7 g8 g9 g10 g11 g12 g13 g14 g15 g16 g17 g18 z0 ++ (w_Tape dA ta z1)) → va_S A s.heap H locs → lv_has ls 8 [(0, .ref (a 0)), (1, .int v1), (2, .int v2), (3, .int v3), (4, .int v4), (5, .int v5), (6, .int v6)] → W p l e ({ frames := 0, cells := 0, slots := 0, locals := 0 } : Room) s m ([.ref (a 0), .int x0, .int x1, .int x2, .int x3, .int x4] : List Value).toArray below meth c H locs 0 0 Q (F0 m 23 ls []) := by
    intro n
    induction n with
    | zero =>
      intro v1 v2 v3 v4 v5 v6 z0 z1 H locs ls hf
      exact absurd hf (by simp [f_X12_feed_b23])
    | succ n ih =>
      intro v1 v2 v3 v4 v5 v6 z0 z1 H locs ls hf hP hD hS hl
      rw [f_X12_feed_b23] at hf
      refine lv_iload hx hb dX12_feed_23 (lv_at hl 6 rfl) ?_
      refine lv_bipush (v := (20 : Int32)) hx hb dX12_feed_25 (by decide) ?_
      refine lv_icmp_ge (tgt := 117) hx hb dX12_feed_27 (by decide) (fun c_2 => ?_) (fun c_2 => ?_)
      · rw [if_pos c_2] at hf
        refine lv_aload_n hx hb dX12_feed_117 rfl (lv_at hl 0 rfl) ?_
        refine va_get (D := D) (ci := 12) (v := .int (mo_taped z0)) (C := RX12) (T := TX12) (N := 35) hx hb hts kb_inX12 hown hK.1 hP 0 rfl rfl 6 (by decide) (hK.2.w ww_5_206 rfl _) (fun _ h9 => h9) rfl dX12_feed_118 ?_
        exact RET _ _ _ H _ ls 121 hf hP hD hS dX12_feed_121
      · rw [if_neg c_2] at hf
        refine lv_iload hx hb dX12_feed_30 (lv_at hl 6 rfl) ?_
        refine lv_iconst (v := (4 : Int32)) hx hb dX12_feed_32 (by decide) ?_
        refine lv_icmp_ge (tgt := 40) hx hb dX12_feed_33 (by decide) (fun c_3 => ?_) (fun c_3 => ?_)
        · rw [if_pos c_3] at hf
          refine lv_iload hx hb dX12_feed_40 (lv_at hl 6 rfl) ?_
          refine lv_bipush (v := (8 : Int32)) hx hb dX12_feed_42 (by decide) ?_
          refine lv_icmp_ge (tgt := 51) hx hb dX12_feed_44 (by decide) (fun c_4 => ?_) (fun c_4 => ?_)
          · rw [if_pos c_4] at hf
            refine lv_iload hx hb dX12_feed_51 (lv_at hl 6 rfl) ?_
            refine lv_bipush (v := (12 : Int32)) hx hb dX12_feed_53 (by decide) ?_
            refine lv_icmp_ge (tgt := 62) hx hb dX12_feed_55 (by decide) (fun c_5 => ?_) (fun c_5 => ?_)
            · rw [if_pos c_5] at hf
              refine lv_iload hx hb dX12_feed_62 (lv_at hl 6 rfl) ?_
              refine lv_bipush (v := (16 : Int32)) hx hb dX12_feed_64 (by decide) ?_
              refine lv_icmp_ge (tgt := 74) hx hb dX12_feed_66 (by decide) (fun c_6 => ?_) (fun c_6 => ?_)
              · rw [if_pos c_6] at hf
                refine lv_iload hx hb dX12_feed_74 (lv_at hl 5 rfl) ?_
                exact B_76 (f_X12_feed_b23 n) ih _ _ _ _ _ _ _ _ _ _ _ _ hf hP hD hS (lv_sub hl [0, 1, 2, 3, 4, 5, 6] rfl)
              · rw [if_neg c_6] at hf
                refine lv_iload hx hb dX12_feed_69 (lv_at hl 4 rfl) ?_
                refine lv_goto (tgt := 76) hx hb dX12_feed_71 (by decide) ?_
                exact B_76 (f_X12_feed_b23 n) ih _ _ _ _ _ _ _ _ _ _ _ _ hf hP hD hS (lv_sub hl [0, 1, 2, 3, 4, 5, 6] rfl)
            · rw [if_neg c_5] at hf
              refine lv_iload_n hx hb dX12_feed_58 rfl (lv_at hl 3 rfl) ?_
              refine lv_goto (tgt := 76) hx hb dX12_feed_59 (by decide) ?_
              exact B_76 (f_X12_feed_b23 n) ih _ _ _ _ _ _ _ _ _ _ _ _ hf hP hD hS (lv_sub hl [0, 1, 2, 3, 4, 5, 6] rfl)
          · rw [if_neg c_4] at hf
            refine lv_iload_n hx hb dX12_feed_47 rfl (lv_at hl 2 rfl) ?_
            refine lv_goto (tgt := 76) hx hb dX12_feed_48 (by decide) ?_
            exact B_76 (f_X12_feed_b23 n) ih _ _ _ _ _ _ _ _ _ _ _ _ hf hP hD hS (lv_sub hl [0, 1, 2, 3, 4, 5, 6] rfl)
        · rw [if_neg c_3] at hf
          refine lv_iload_n hx hb dX12_feed_36 rfl (lv_at hl 1 rfl) ?_
          refine lv_goto (tgt := 76) hx hb dX12_feed_37 (by decide) ?_
          exact B_76 (f_X12_feed_b23 n) ih _ _ _ _ _ _ _ _ _ _ _ _ hf hP hD hS (lv_sub hl [0, 1, 2, 3, 4, 5, 6] rfl)
  have B_5 : ∀ (v1 : Int32) (v2 : Int32) (v3 : Int32) (v4 : Int32) (v5 : Int32) (z0 : MOT) (z1 : TapeT) (H : Heap) (locs : List Loc) (ls : Array Slot), f_X12_feed_b5 v1 v2 v3 v4 v5 z0 z1 = some (rv, u0, u1) → va_P D vwCl (w_MO dA a q0 q1 (ta 0) g3 g4 g5 g6 g7 g8 g9 g10 g11 g12 g13 g14 g15 g16 g17 g18 z0 ++ (w_Tape dA ta z1)) H → va_D A (w_MO dA a q0 q1 (ta 0) g3 g4 g5 g6 g7 g8 g9 g10 g11 g12 g13 g14 g15 g16 g17 g18 z0 ++ (w_Tape dA ta z1)) → va_S A s.heap H locs → lv_has ls 8 [(0, .ref (a 0)), (1, .int v1), (2, .int v2), (3, .int v3), (4, .int v4), (5, .int v5)] → W p l e ({ frames := 0, cells := 0, slots := 0, locals := 0 } : Room) s m ([.ref (a 0), .int x0, .int x1, .int x2, .int x3, .int x4] : List Value).toArray below meth c H locs 0 0 Q (F0 m 5 ls []) := by
    intro v1 v2 v3 v4 v5 z0 z1 H locs ls hf hP hD hS hl
    rw [f_X12_feed_b5] at hf
    refine lv_aload_n hx hb dX12_feed_5 rfl (lv_at hl 0 rfl) ?_
    refine va_get (D := D) (ci := 12) (v := .int (mo_taped z0)) (C := RX12) (T := TX12) (N := 35) hx hb hts kb_inX12 hown hK.1 hP 0 rfl rfl 6 (by decide) (hK.2.w ww_5_206 rfl _) (fun _ h9 => h9) rfl dX12_feed_6 ?_
    refine lv_bipush (v := (20 : Int32)) hx hb dX12_feed_9 (by decide) ?_
    refine lv_iadd hx hb dX12_feed_11 ?_
    refine lv_sipush (v := (900 : Int32)) hx hb dX12_feed_12 (by decide) ?_
    refine lv_icmp_le (tgt := 20) hx hb dX12_feed_15 (by decide) (fun c_1 => ?_) (fun c_1 => ?_)
    · rw [if_pos c_1] at hf
      refine lv_iconst (v := (0 : Int32)) hx hb dX12_feed_20 (by decide) ?_
      refine lv_istore (lv' := [(6, .int (0 : Int32)), (0, .ref (a 0)), (1, .int v1), (2, .int v2), (3, .int v3), (4, .int v4), (5, .int v5)]) hx hb dX12_feed_21 hl (by decide) rfl (fun ls hl => ?_)
      exact B_23 4096 _ _ _ _ _ _ _ _ _ _ _ hf hP hD hS (lv_sub hl [1, 2, 3, 4, 5, 6, 0] rfl)
    · rw [if_neg c_1] at hf
      refine lv_iconst (v := (-1 : Int32)) hx hb dX12_feed_18 (by decide) ?_
      exact RET _ _ _ H _ ls 19 hf hP hD hS dX12_feed_19
  have E0 : ∀ (H : Heap) (locs : List Loc), va_P D vwCl (w_MO dA a q0 q1 (ta 0) g3 g4 g5 g6 g7 g8 g9 g10 g11 g12 g13 g14 g15 g16 g17 g18 mo ++ (w_Tape dA ta y_tape)) H → va_D A (w_MO dA a q0 q1 (ta 0) g3 g4 g5 g6 g7 g8 g9 g10 g11 g12 g13 g14 g15 g16 g17 g18 mo ++ (w_Tape dA ta y_tape)) → va_S A s.heap H locs → W p l e ({ frames := 0, cells := 0, slots := 0, locals := 0 } : Room) s m ([.ref (a 0), .int x0, .int x1, .int x2, .int x3, .int x4] : List Value).toArray below meth c H locs 0 0 Q (F0 m 0 ls []) := by
    intro H locs hP hD hS
    rw [f_X12_feed] at hf
    refine lv_aload_n hx hb dX12_feed_0 rfl (lv_at hl 0 rfl) ?_
    refine lv_iconst (v := (0 : Int32)) hx hb dX12_feed_1 (by decide) ?_
    refine va_put (D := D) (ci := 12) (v := .int (0 : Int32)) (ty := .int) (C := RX12) (T := TX12) (N := 35) hx hb hts kb_inX12 tyX12 tyX12_ok nmX12 hown hK.1 hP hD hS 0 rfl rfl 0 (by decide) (hK.2.w ww_5_200 rfl _) (fun _ h9 => h9) rfl (by decide +kernel) rfl rfl (Nat.le_of_ble_eq_true rfl) dX12_feed_2 (fun H locs hP hD hS => ?_)
    have hP : va_P D vwCl (w_MO dA a q0 q1 (ta 0) g3 g4 g5 g6 g7 g8 g9 g10 g11 g12 g13 g14 g15 g16 g17 g18 (mo_set_thrown mo (0 : Int32)) ++ (w_Tape dA ta y_tape)) H := hP
    have hD : va_D A (w_MO dA a q0 q1 (ta 0) g3 g4 g5 g6 g7 g8 g9 g10 g11 g12 g13 g14 g15 g16 g17 g18 (mo_set_thrown mo (0 : Int32)) ++ (w_Tape dA ta y_tape)) := hD
    exact B_5 _ _ _ _ _ _ _ _ _ _ hf hP hD hS (lv_sub hl [0, 1, 2, 3, 4, 5] rfl)
  exact E0 _ _ hP hD hS

noncomputable def f_X12_fault_b5 (z0 : MOT) : Option (Int32 × MOT) := some ((mo_fault z0), z0)
noncomputable def f_X12_fault (mo : MOT) : Option (Int32 × MOT) := f_X12_fault_b5 (mo_set_thrown mo (0 : Int32))
set_option maxHeartbeats 4000000 in
set_option maxRecDepth 100000 in
theorem c_X12_fault (l : Launch) (D : va_G) (dA : Nat → ClassId) (sz : Nat) (a : Nat → Nat) (q0 : Option Nat) (q1 : Option Nat) (g2 : Nat) (g3 : Nat) (g4 : Nat) (g5 : Nat) (g6 : Nat) (g7 : Nat) (g8 : Nat) (g9 : Nat) (g10 : Nat) (g11 : Nat) (g12 : Nat) (g13 : Nat) (g14 : Nat) (g15 : Nat) (g16 : Nat) (g17 : Nat) (g18 : Nat) (mo : MOT) (rv : Int32) (u0 : MOT) (hf : f_X12_fault mo = some (rv, u0)) : kb_Mi l yX12_fault cX12_fault 1 (some .int) ({ frames := 0, cells := 0, slots := 0, locals := 0 } : Room) D dA [.ref (a 0)] sz (w_MO dA a q0 q1 g2 g3 g4 g5 g6 g7 g8 g9 g10 g11 g12 g13 g14 g15 g16 g17 g18 mo) 0 0 rv (w_MO dA a q0 q1 g2 g3 g4 g5 g6 g7 g8 g9 g10 g11 g12 g13 g14 g15 g16 g17 g18 u0) := by
  refine Met.ofW (cc := cX12_fault) (maxL := 1) (ret := (some .int)) (by decide) rfl ?_
  intro p e s m args below meth c s₁ B hml hv
  obtain ⟨rfl, hsz, hP, hK, hD0, hE⟩ := hv
  have hx := B.exec
  have hb := B.bytes
  have hr := B.returns
  have hown : s.vm.findClass RX12 = some m.cls := findClass_of_methodNamed B.named
  have hlocks := B.notSynchronized
  have hts : ∀ w ∈ kb_gw, w.before ([.ref (a 0)] : List Value).toArray s = true := fun w hw => hK.2.1 w hw _
  subst hsz
  have hD := hD0.self (sz := s.heap.size)
  generalize hAe : va_A (w_MO dA a q0 q1 g2 g3 g4 g5 g6 g7 g8 g9 g10 g11 g12 g13 g14 g15 g16 g17 g18 mo) s.heap.size = A at hD hE ⊢
  have hA : ∀ q : Nat, s.heap.size ≤ q → A q := fun q h => by rw [← hAe]; exact Or.inr h
  have hS : va_S A s.heap s.heap [] := va_S.rf
  have hl := lv_entry ([.ref (a 0)]) (n := 1) (Nat.le_of_ble_eq_true rfl)
  rw [lg_entry_eq]
  generalize (lg_sl ([.ref (a 0)]) ++ List.replicate (1 - (lg_sl ([.ref (a 0)])).length) Slot.unset).toArray = ls at hl ⊢
  have hl : lv_has ls 1 [(0, .ref (a 0))] := hl
  generalize hQ : MQ below (va_Qi (fun r (_ : Unit) => r = rv) (kb_B D A (w_MO dA a q0 q1 g2 g3 g4 g5 g6 g7 g8 g9 g10 g11 g12 g13 g14 g15 g16 g17 g18 u0)) A) ([.ref (a 0)] : List Value).toArray s 0 0 A = Q
  show W p l e ({ frames := 0, cells := 0, slots := 0, locals := 0 } : Room) s m ([.ref (a 0)] : List Value).toArray below meth c s.heap [] 0 0 Q (F0 m 0 ls [])
  have RET : ∀ (r2 : Int32) (w0 : MOT) (H : Heap) (locs : List Loc) (ls : Array Slot) (pc : Nat), some (r2, w0) = some (rv, u0) → va_P D vwCl (w_MO dA a q0 q1 g2 g3 g4 g5 g6 g7 g8 g9 g10 g11 g12 g13 g14 g15 g16 g17 g18 w0) H → va_D A (w_MO dA a q0 q1 g2 g3 g4 g5 g6 g7 g8 g9 g10 g11 g12 g13 g14 g15 g16 g17 g18 w0) → va_S A s.heap H locs → decode cX12_fault pc = .ok (.ireturn, 1) → W p l e ({ frames := 0, cells := 0, slots := 0, locals := 0 } : Room) s m ([.ref (a 0)] : List Value).toArray below meth c H locs 0 0 Q (F0 m pc ls [.int r2]) := by
    intro r2 w0 H locs ls pc hq hP hD hS hd
    cases hq
    rw [← hQ]
    exact W.iret hx hb hr (fun t ht hW => ⟨⟨_, (), rfl, rfl, by rw [ht]; exact hP, hD⟩, hS.F ht⟩) hS.2.2 hd
  have B_5 : ∀ (z0 : MOT) (H : Heap) (locs : List Loc) (ls : Array Slot), f_X12_fault_b5 z0 = some (rv, u0) → va_P D vwCl (w_MO dA a q0 q1 g2 g3 g4 g5 g6 g7 g8 g9 g10 g11 g12 g13 g14 g15 g16 g17 g18 z0) H → va_D A (w_MO dA a q0 q1 g2 g3 g4 g5 g6 g7 g8 g9 g10 g11 g12 g13 g14 g15 g16 g17 g18 z0) → va_S A s.heap H locs → lv_has ls 1 [(0, .ref (a 0))] → W p l e ({ frames := 0, cells := 0, slots := 0, locals := 0 } : Room) s m ([.ref (a 0)] : List Value).toArray below meth c H locs 0 0 Q (F0 m 5 ls []) := by
    intro z0 H locs ls hf hP hD hS hl
    rw [f_X12_fault_b5] at hf
    refine lv_aload_n hx hb dX12_fault_5 rfl (lv_at hl 0 rfl) ?_
    refine va_get (D := D) (ci := 12) (v := .int (mo_fault z0)) (C := RX12) (T := TX12) (N := 35) hx hb hts kb_inX12 hown hK.1 hP 0 rfl rfl 13 (by decide) (hK.2.w ww_5_213 rfl _) (fun _ h9 => h9) rfl dX12_fault_6 ?_
    exact RET _ _ H _ ls 9 hf hP hD hS dX12_fault_9
  have E0 : ∀ (H : Heap) (locs : List Loc), va_P D vwCl (w_MO dA a q0 q1 g2 g3 g4 g5 g6 g7 g8 g9 g10 g11 g12 g13 g14 g15 g16 g17 g18 mo) H → va_D A (w_MO dA a q0 q1 g2 g3 g4 g5 g6 g7 g8 g9 g10 g11 g12 g13 g14 g15 g16 g17 g18 mo) → va_S A s.heap H locs → W p l e ({ frames := 0, cells := 0, slots := 0, locals := 0 } : Room) s m ([.ref (a 0)] : List Value).toArray below meth c H locs 0 0 Q (F0 m 0 ls []) := by
    intro H locs hP hD hS
    rw [f_X12_fault] at hf
    refine lv_aload_n hx hb dX12_fault_0 rfl (lv_at hl 0 rfl) ?_
    refine lv_iconst (v := (0 : Int32)) hx hb dX12_fault_1 (by decide) ?_
    refine va_put (D := D) (ci := 12) (v := .int (0 : Int32)) (ty := .int) (C := RX12) (T := TX12) (N := 35) hx hb hts kb_inX12 tyX12 tyX12_ok nmX12 hown hK.1 hP hD hS 0 rfl rfl 0 (by decide) (hK.2.w ww_5_200 rfl _) (fun _ h9 => h9) rfl (by decide +kernel) rfl rfl (Nat.le_of_ble_eq_true rfl) dX12_fault_2 (fun H locs hP hD hS => ?_)
    have hP : va_P D vwCl (w_MO dA a q0 q1 g2 g3 g4 g5 g6 g7 g8 g9 g10 g11 g12 g13 g14 g15 g16 g17 g18 (mo_set_thrown mo (0 : Int32))) H := hP
    have hD : va_D A (w_MO dA a q0 q1 g2 g3 g4 g5 g6 g7 g8 g9 g10 g11 g12 g13 g14 g15 g16 g17 g18 (mo_set_thrown mo (0 : Int32))) := hD
    exact B_5 _ _ _ _ hf hP hD hS (lv_sub hl [0] rfl)
  exact E0 _ _ hP hD hS

noncomputable def f_X12_where_b5 (z0 : MOT) : Option (Int32 × MOT) := some ((mo_where z0), z0)
noncomputable def f_X12_where (mo : MOT) : Option (Int32 × MOT) := f_X12_where_b5 (mo_set_thrown mo (0 : Int32))
set_option maxHeartbeats 4000000 in
set_option maxRecDepth 100000 in
theorem c_X12_where (l : Launch) (D : va_G) (dA : Nat → ClassId) (sz : Nat) (a : Nat → Nat) (q0 : Option Nat) (q1 : Option Nat) (g2 : Nat) (g3 : Nat) (g4 : Nat) (g5 : Nat) (g6 : Nat) (g7 : Nat) (g8 : Nat) (g9 : Nat) (g10 : Nat) (g11 : Nat) (g12 : Nat) (g13 : Nat) (g14 : Nat) (g15 : Nat) (g16 : Nat) (g17 : Nat) (g18 : Nat) (mo : MOT) (rv : Int32) (u0 : MOT) (hf : f_X12_where mo = some (rv, u0)) : kb_Mi l yX12_where cX12_where 1 (some .int) ({ frames := 0, cells := 0, slots := 0, locals := 0 } : Room) D dA [.ref (a 0)] sz (w_MO dA a q0 q1 g2 g3 g4 g5 g6 g7 g8 g9 g10 g11 g12 g13 g14 g15 g16 g17 g18 mo) 0 0 rv (w_MO dA a q0 q1 g2 g3 g4 g5 g6 g7 g8 g9 g10 g11 g12 g13 g14 g15 g16 g17 g18 u0) := by
  refine Met.ofW (cc := cX12_where) (maxL := 1) (ret := (some .int)) (by decide) rfl ?_
  intro p e s m args below meth c s₁ B hml hv
  obtain ⟨rfl, hsz, hP, hK, hD0, hE⟩ := hv
  have hx := B.exec
  have hb := B.bytes
  have hr := B.returns
  have hown : s.vm.findClass RX12 = some m.cls := findClass_of_methodNamed B.named
  have hlocks := B.notSynchronized
  have hts : ∀ w ∈ kb_gw, w.before ([.ref (a 0)] : List Value).toArray s = true := fun w hw => hK.2.1 w hw _
  subst hsz
  have hD := hD0.self (sz := s.heap.size)
  generalize hAe : va_A (w_MO dA a q0 q1 g2 g3 g4 g5 g6 g7 g8 g9 g10 g11 g12 g13 g14 g15 g16 g17 g18 mo) s.heap.size = A at hD hE ⊢
  have hA : ∀ q : Nat, s.heap.size ≤ q → A q := fun q h => by rw [← hAe]; exact Or.inr h
  have hS : va_S A s.heap s.heap [] := va_S.rf
  have hl := lv_entry ([.ref (a 0)]) (n := 1) (Nat.le_of_ble_eq_true rfl)
  rw [lg_entry_eq]
  generalize (lg_sl ([.ref (a 0)]) ++ List.replicate (1 - (lg_sl ([.ref (a 0)])).length) Slot.unset).toArray = ls at hl ⊢
  have hl : lv_has ls 1 [(0, .ref (a 0))] := hl
  generalize hQ : MQ below (va_Qi (fun r (_ : Unit) => r = rv) (kb_B D A (w_MO dA a q0 q1 g2 g3 g4 g5 g6 g7 g8 g9 g10 g11 g12 g13 g14 g15 g16 g17 g18 u0)) A) ([.ref (a 0)] : List Value).toArray s 0 0 A = Q
  show W p l e ({ frames := 0, cells := 0, slots := 0, locals := 0 } : Room) s m ([.ref (a 0)] : List Value).toArray below meth c s.heap [] 0 0 Q (F0 m 0 ls [])
  have RET : ∀ (r2 : Int32) (w0 : MOT) (H : Heap) (locs : List Loc) (ls : Array Slot) (pc : Nat), some (r2, w0) = some (rv, u0) → va_P D vwCl (w_MO dA a q0 q1 g2 g3 g4 g5 g6 g7 g8 g9 g10 g11 g12 g13 g14 g15 g16 g17 g18 w0) H → va_D A (w_MO dA a q0 q1 g2 g3 g4 g5 g6 g7 g8 g9 g10 g11 g12 g13 g14 g15 g16 g17 g18 w0) → va_S A s.heap H locs → decode cX12_where pc = .ok (.ireturn, 1) → W p l e ({ frames := 0, cells := 0, slots := 0, locals := 0 } : Room) s m ([.ref (a 0)] : List Value).toArray below meth c H locs 0 0 Q (F0 m pc ls [.int r2]) := by
    intro r2 w0 H locs ls pc hq hP hD hS hd
    cases hq
    rw [← hQ]
    exact W.iret hx hb hr (fun t ht hW => ⟨⟨_, (), rfl, rfl, by rw [ht]; exact hP, hD⟩, hS.F ht⟩) hS.2.2 hd
  have B_5 : ∀ (z0 : MOT) (H : Heap) (locs : List Loc) (ls : Array Slot), f_X12_where_b5 z0 = some (rv, u0) → va_P D vwCl (w_MO dA a q0 q1 g2 g3 g4 g5 g6 g7 g8 g9 g10 g11 g12 g13 g14 g15 g16 g17 g18 z0) H → va_D A (w_MO dA a q0 q1 g2 g3 g4 g5 g6 g7 g8 g9 g10 g11 g12 g13 g14 g15 g16 g17 g18 z0) → va_S A s.heap H locs → lv_has ls 1 [(0, .ref (a 0))] → W p l e ({ frames := 0, cells := 0, slots := 0, locals := 0 } : Room) s m ([.ref (a 0)] : List Value).toArray below meth c H locs 0 0 Q (F0 m 5 ls []) := by
    intro z0 H locs ls hf hP hD hS hl
    rw [f_X12_where_b5] at hf
    refine lv_aload_n hx hb dX12_where_5 rfl (lv_at hl 0 rfl) ?_
    refine va_get (D := D) (ci := 12) (v := .int (mo_where z0)) (C := RX12) (T := TX12) (N := 35) hx hb hts kb_inX12 hown hK.1 hP 0 rfl rfl 2 (by decide) (hK.2.w ww_5_202 rfl _) (fun _ h9 => h9) rfl dX12_where_6 ?_
    exact RET _ _ H _ ls 9 hf hP hD hS dX12_where_9
  have E0 : ∀ (H : Heap) (locs : List Loc), va_P D vwCl (w_MO dA a q0 q1 g2 g3 g4 g5 g6 g7 g8 g9 g10 g11 g12 g13 g14 g15 g16 g17 g18 mo) H → va_D A (w_MO dA a q0 q1 g2 g3 g4 g5 g6 g7 g8 g9 g10 g11 g12 g13 g14 g15 g16 g17 g18 mo) → va_S A s.heap H locs → W p l e ({ frames := 0, cells := 0, slots := 0, locals := 0 } : Room) s m ([.ref (a 0)] : List Value).toArray below meth c H locs 0 0 Q (F0 m 0 ls []) := by
    intro H locs hP hD hS
    rw [f_X12_where] at hf
    refine lv_aload_n hx hb dX12_where_0 rfl (lv_at hl 0 rfl) ?_
    refine lv_iconst (v := (0 : Int32)) hx hb dX12_where_1 (by decide) ?_
    refine va_put (D := D) (ci := 12) (v := .int (0 : Int32)) (ty := .int) (C := RX12) (T := TX12) (N := 35) hx hb hts kb_inX12 tyX12 tyX12_ok nmX12 hown hK.1 hP hD hS 0 rfl rfl 0 (by decide) (hK.2.w ww_5_200 rfl _) (fun _ h9 => h9) rfl (by decide +kernel) rfl rfl (Nat.le_of_ble_eq_true rfl) dX12_where_2 (fun H locs hP hD hS => ?_)
    have hP : va_P D vwCl (w_MO dA a q0 q1 g2 g3 g4 g5 g6 g7 g8 g9 g10 g11 g12 g13 g14 g15 g16 g17 g18 (mo_set_thrown mo (0 : Int32))) H := hP
    have hD : va_D A (w_MO dA a q0 q1 g2 g3 g4 g5 g6 g7 g8 g9 g10 g11 g12 g13 g14 g15 g16 g17 g18 (mo_set_thrown mo (0 : Int32))) := hD
    exact B_5 _ _ _ _ hf hP hD hS (lv_sub hl [0] rfl)
  exact E0 _ _ hP hD hS

noncomputable def f_X12_isSeat_b44 (mo : MOT) (bu : BusT)  : Option (Int32) := some ((0 : Int32))
noncomputable def f_X12_isSeat (mo : MOT) (bu : BusT) (x0 : Int32) : Option (Int32) := (if x0 < 0 then f_X12_isSeat_b44 mo bu  else (if ((4 : Int32) * (bu_rows bu)) ≤ x0 then f_X12_isSeat_b44 mo bu  else (f_X12_isSeatOf (bu_form bu) (x0 &&& (3 : Int32))).bind fun r3 => (if r3 = 0 then f_X12_isSeat_b44 mo bu  else some ((1 : Int32)))))
set_option maxHeartbeats 4000000 in
set_option maxRecDepth 100000 in
theorem c_X12_isSeat (l : Launch) (D : va_G) (dA : Nat → ClassId) (sz : Nat) (a : Nat → Nat) (ba : Nat → Nat) (q1 : Option Nat) (g2 : Nat) (g3 : Nat) (g4 : Nat) (g5 : Nat) (g6 : Nat) (g7 : Nat) (g8 : Nat) (g9 : Nat) (g10 : Nat) (g11 : Nat) (g12 : Nat) (g13 : Nat) (g14 : Nat) (g15 : Nat) (g16 : Nat) (g17 : Nat) (g18 : Nat) (mo : MOT) (bu : BusT) (x0 : Int32) (rv : Int32) (hf : f_X12_isSeat mo bu x0 = some (rv)) : kb_Mi l yX12_isSeat cX12_isSeat 2 (some .boolean) ({ frames := 1, cells := 0, slots := 0, locals := 21 } : Room) D dA [.ref (a 0), .int x0] sz (w_MO dA a (some (ba 0)) q1 g2 g3 g4 g5 g6 g7 g8 g9 g10 g11 g12 g13 g14 g15 g16 g17 g18 mo ++ (w_Bus dA ba bu)) 0 0 rv (w_MO dA a (some (ba 0)) q1 g2 g3 g4 g5 g6 g7 g8 g9 g10 g11 g12 g13 g14 g15 g16 g17 g18 mo ++ (w_Bus dA ba bu)) := by
  refine Met.ofW (cc := cX12_isSeat) (maxL := 2) (ret := (some .boolean)) (by decide) rfl ?_
  intro p e s m args below meth c s₁ B hml hv
  obtain ⟨rfl, hsz, hP, hK, hD0, hE⟩ := hv
  have hx := B.exec
  have hb := B.bytes
  have hr := B.returns
  have hown : s.vm.findClass RX12 = some m.cls := findClass_of_methodNamed B.named
  have hlocks := B.notSynchronized
  have hts : ∀ w ∈ kb_gw, w.before ([.ref (a 0), .int x0] : List Value).toArray s = true := fun w hw => hK.2.1 w hw _
  subst hsz
  have hD := hD0.self (sz := s.heap.size)
  generalize hAe : va_A (w_MO dA a (some (ba 0)) q1 g2 g3 g4 g5 g6 g7 g8 g9 g10 g11 g12 g13 g14 g15 g16 g17 g18 mo ++ (w_Bus dA ba bu)) s.heap.size = A at hD hE ⊢
  have hA : ∀ q : Nat, s.heap.size ≤ q → A q := fun q h => by rw [← hAe]; exact Or.inr h
  have hS : va_S A s.heap s.heap [] := va_S.rf
  have hl := lv_entry ([.ref (a 0), .int x0]) (n := 2) (Nat.le_of_ble_eq_true rfl)
  rw [lg_entry_eq]
  generalize (lg_sl ([.ref (a 0), .int x0]) ++ List.replicate (2 - (lg_sl ([.ref (a 0), .int x0])).length) Slot.unset).toArray = ls at hl ⊢
  have hl : lv_has ls 2 [(0, .ref (a 0)), (1, .int x0)] := hl
  generalize hQ : MQ below (va_Qi (fun r (_ : Unit) => r = rv) (kb_B D A (w_MO dA a (some (ba 0)) q1 g2 g3 g4 g5 g6 g7 g8 g9 g10 g11 g12 g13 g14 g15 g16 g17 g18 mo ++ (w_Bus dA ba bu))) A) ([.ref (a 0), .int x0] : List Value).toArray s 0 0 A = Q
  show W p l e ({ frames := 1, cells := 0, slots := 0, locals := 21 } : Room) s m ([.ref (a 0), .int x0] : List Value).toArray below meth c s.heap [] 0 0 Q (F0 m 0 ls [])
  have RET : ∀ (r2 : Int32) (H : Heap) (locs : List Loc) (ls : Array Slot) (pc : Nat), some (r2) = some (rv) → va_P D vwCl (w_MO dA a (some (ba 0)) q1 g2 g3 g4 g5 g6 g7 g8 g9 g10 g11 g12 g13 g14 g15 g16 g17 g18 mo ++ (w_Bus dA ba bu)) H → va_D A (w_MO dA a (some (ba 0)) q1 g2 g3 g4 g5 g6 g7 g8 g9 g10 g11 g12 g13 g14 g15 g16 g17 g18 mo ++ (w_Bus dA ba bu)) → va_S A s.heap H locs → kb_01 r2 → decode cX12_isSeat pc = .ok (.ireturn, 1) → W p l e ({ frames := 1, cells := 0, slots := 0, locals := 21 } : Room) s m ([.ref (a 0), .int x0] : List Value).toArray below meth c H locs 0 0 Q (F0 m pc ls [.int r2]) := by
    intro r2 H locs ls pc hq hP hD hS h01 hd
    cases hq
    rw [← hQ]
    exact W.zret (ty := .boolean) hx hb hr (kb_nz h01) (fun t ht hW => ⟨⟨_, (), rfl, rfl, by rw [ht]; exact hP, hD⟩, hS.F ht⟩) hS.2.2 hd
  have B_44 : ∀  (H : Heap) (locs : List Loc) (ls : Array Slot), f_X12_isSeat_b44 mo bu  = some (rv) → va_P D vwCl (w_MO dA a (some (ba 0)) q1 g2 g3 g4 g5 g6 g7 g8 g9 g10 g11 g12 g13 g14 g15 g16 g17 g18 mo ++ (w_Bus dA ba bu)) H → va_D A (w_MO dA a (some (ba 0)) q1 g2 g3 g4 g5 g6 g7 g8 g9 g10 g11 g12 g13 g14 g15 g16 g17 g18 mo ++ (w_Bus dA ba bu)) → va_S A s.heap H locs → lv_has ls 2 [] → W p l e ({ frames := 1, cells := 0, slots := 0, locals := 21 } : Room) s m ([.ref (a 0), .int x0] : List Value).toArray below meth c H locs 0 0 Q (F0 m 44 ls []) := by
    intro  H locs ls hf hP hD hS hl
    rw [f_X12_isSeat_b44] at hf
    refine lv_iconst (v := (0 : Int32)) hx hb dX12_isSeat_44 (by decide) ?_
    exact RET _ H _ ls 45 hf hP hD hS (by decide) dX12_isSeat_45
  have E0 : ∀ (H : Heap) (locs : List Loc), va_P D vwCl (w_MO dA a (some (ba 0)) q1 g2 g3 g4 g5 g6 g7 g8 g9 g10 g11 g12 g13 g14 g15 g16 g17 g18 mo ++ (w_Bus dA ba bu)) H → va_D A (w_MO dA a (some (ba 0)) q1 g2 g3 g4 g5 g6 g7 g8 g9 g10 g11 g12 g13 g14 g15 g16 g17 g18 mo ++ (w_Bus dA ba bu)) → va_S A s.heap H locs → W p l e ({ frames := 1, cells := 0, slots := 0, locals := 21 } : Room) s m ([.ref (a 0), .int x0] : List Value).toArray below meth c H locs 0 0 Q (F0 m 0 ls []) := by
    intro H locs hP hD hS
    rw [f_X12_isSeat] at hf
    refine lv_aload_n hx hb dX12_isSeat_0 rfl (lv_at hl 0 rfl) ?_
    refine va_get (D := D) (ci := 12) (v := .ref (ba 0)) (C := RX12) (T := TX12) (N := 35) hx hb hts kb_inX12 hown hK.1 hP 0 rfl rfl 3 (by decide) (hK.2.w ww_5_203 rfl _) (fun _ h9 => h9) rfl dX12_isSeat_1 ?_
    refine lv_ifnull hx hb dX12_isSeat_4 ?_
    refine lv_iload_n hx hb dX12_isSeat_7 rfl (lv_at hl 1 rfl) ?_
    refine lv_if_lt (tgt := 44) hx hb dX12_isSeat_8 (by decide) (fun c_1 => ?_) (fun c_1 => ?_)
    · rw [if_pos c_1] at hf
      exact B_44 _ _ _ hf hP hD hS (lv_sub hl [] rfl)
    · rw [if_neg c_1] at hf
      refine lv_iload_n hx hb dX12_isSeat_11 rfl (lv_at hl 1 rfl) ?_
      refine lv_iconst (v := (4 : Int32)) hx hb dX12_isSeat_12 (by decide) ?_
      refine lv_aload_n hx hb dX12_isSeat_13 rfl (lv_at hl 0 rfl) ?_
      refine va_get (D := D) (ci := 12) (v := .ref (ba 0)) (C := RX12) (T := TX12) (N := 35) hx hb hts kb_inX12 hown hK.1 hP 0 rfl rfl 3 (by decide) (hK.2.w ww_5_203 rfl _) (fun _ h9 => h9) rfl dX12_isSeat_14 ?_
      refine va_getN (D := D) (ci := 11) (v := .int (bu_rows bu)) (C := RX11) (T := TX11) (N := 26) hx hb hts kb_inX11 hown hK.1 hP 1 rfl rfl 0 (by decide) (hK.2.nb ww_6_89 rfl rfl _) (fun _ h9 => h9) rfl dX12_isSeat_17 ?_
      refine lv_imul hx hb dX12_isSeat_20 ?_
      refine lv_icmp_ge (tgt := 44) hx hb dX12_isSeat_21 (by decide) (fun c_2 => ?_) (fun c_2 => ?_)
      · rw [if_pos c_2] at hf
        exact B_44 _ _ _ hf hP hD hS (lv_sub hl [] rfl)
      · rw [if_neg c_2] at hf
        refine lv_aload_n hx hb dX12_isSeat_24 rfl (lv_at hl 0 rfl) ?_
        refine va_get (D := D) (ci := 12) (v := .ref (ba 0)) (C := RX12) (T := TX12) (N := 35) hx hb hts kb_inX12 hown hK.1 hP 0 rfl rfl 3 (by decide) (hK.2.w ww_5_203 rfl _) (fun _ h9 => h9) rfl dX12_isSeat_25 ?_
        refine va_getN (D := D) (ci := 11) (v := .int (bu_form bu)) (C := RX11) (T := TX11) (N := 26) hx hb hts kb_inX11 hown hK.1 hP 1 rfl rfl 1 (by decide) (hK.2.nb ww_6_90 rfl rfl _) (fun _ h9 => h9) rfl dX12_isSeat_28 ?_
        refine lv_iload_n hx hb dX12_isSeat_31 rfl (lv_at hl 1 rfl) ?_
        refine lv_iconst (v := (3 : Int32)) hx hb dX12_isSeat_32 (by decide) ?_
        refine lv_iand hx hb dX12_isSeat_33 ?_
        obtain ⟨r3, hc3, hf⟩ := kb_bind hf
        refine kb_ci (ws2 := (w_MO dA a (some (ba 0)) q1 g2 g3 g4 g5 g6 g7 g8 g9 g10 g11 g12 g13 g14 g15 g16 g17 g18 mo ++ (w_Bus dA ba bu))) (kb_rS (n := 2) (As := [.int (bu_form bu), .int (x0 &&& (3 : Int32))]) (rest := []) hx hb hml hown hK (c_X12_isSeatOf l D dA H.size (bu_form bu) (x0 &&& (3 : Int32)) r3 hc3) ⟨ww_7_145, ww_7_143, ww_7_144, ww_1_12, by decide, by decide⟩ rfl rfl (by decide +kernel) ⟨Nat.le_of_ble_eq_true rfl, Nat.le_of_ble_eq_true rfl⟩ hP hD hS hA hE [] rfl (by decide) rfl hl.1 rfl (Nat.le_of_ble_eq_true rfl) dX12_isSeat_34 ⟨Nat.le_of_ble_eq_true rfl, Nat.le_of_ble_eq_true rfl⟩) hP hD hS hA [] [0, 1, 2, 3, 4, 5, 6, 7, 8, 9, 10, 11, 12, 13, 14, 15, 16] [0, 1, 2, 3, 4, 5, 6, 7, 8, 9, 10, 11, 12, 13, 14, 15, 16] rfl rfl (by decide) (by decide) rfl (by decide) (fun H locs hP hD hS => ?_)
        refine lv_if_eq (tgt := 44) hx hb dX12_isSeat_37 (by decide) (fun c_4 => ?_) (fun c_4 => ?_)
        · rw [if_pos c_4] at hf
          exact B_44 _ _ _ hf hP hD hS (lv_sub hl [] rfl)
        · rw [if_neg c_4] at hf
          refine lv_iconst (v := (1 : Int32)) hx hb dX12_isSeat_40 (by decide) ?_
          refine lv_goto (tgt := 45) hx hb dX12_isSeat_41 (by decide) ?_
          exact RET _ H _ ls 45 hf hP hD hS (by decide) dX12_isSeat_45
  exact E0 _ _ hP hD hS

noncomputable def f_X12_beside (mo : MOT) (bu : BusT) (x0 : Int32) : Option (Int32) := (f_X12_besideOf (bu_form bu) x0).bind fun r1 => some (r1)
set_option maxHeartbeats 4000000 in
set_option maxRecDepth 100000 in
theorem c_X12_beside (l : Launch) (D : va_G) (dA : Nat → ClassId) (sz : Nat) (a : Nat → Nat) (ba : Nat → Nat) (q1 : Option Nat) (g2 : Nat) (g3 : Nat) (g4 : Nat) (g5 : Nat) (g6 : Nat) (g7 : Nat) (g8 : Nat) (g9 : Nat) (g10 : Nat) (g11 : Nat) (g12 : Nat) (g13 : Nat) (g14 : Nat) (g15 : Nat) (g16 : Nat) (g17 : Nat) (g18 : Nat) (mo : MOT) (bu : BusT) (x0 : Int32) (rv : Int32) (hf : f_X12_beside mo bu x0 = some (rv)) : kb_Mi l yX12_beside cX12_beside 2 (some .int) ({ frames := 2, cells := 0, slots := 0, locals := 43 } : Room) D dA [.ref (a 0), .int x0] sz (w_MO dA a (some (ba 0)) q1 g2 g3 g4 g5 g6 g7 g8 g9 g10 g11 g12 g13 g14 g15 g16 g17 g18 mo ++ (w_Bus dA ba bu)) 0 0 rv (w_MO dA a (some (ba 0)) q1 g2 g3 g4 g5 g6 g7 g8 g9 g10 g11 g12 g13 g14 g15 g16 g17 g18 mo ++ (w_Bus dA ba bu)) := by
  refine Met.ofW (cc := cX12_beside) (maxL := 2) (ret := (some .int)) (by decide) rfl ?_
  intro p e s m args below meth c s₁ B hml hv
  obtain ⟨rfl, hsz, hP, hK, hD0, hE⟩ := hv
  have hx := B.exec
  have hb := B.bytes
  have hr := B.returns
  have hown : s.vm.findClass RX12 = some m.cls := findClass_of_methodNamed B.named
  have hlocks := B.notSynchronized
  have hts : ∀ w ∈ kb_gw, w.before ([.ref (a 0), .int x0] : List Value).toArray s = true := fun w hw => hK.2.1 w hw _
  subst hsz
  have hD := hD0.self (sz := s.heap.size)
  generalize hAe : va_A (w_MO dA a (some (ba 0)) q1 g2 g3 g4 g5 g6 g7 g8 g9 g10 g11 g12 g13 g14 g15 g16 g17 g18 mo ++ (w_Bus dA ba bu)) s.heap.size = A at hD hE ⊢
  have hA : ∀ q : Nat, s.heap.size ≤ q → A q := fun q h => by rw [← hAe]; exact Or.inr h
  have hS : va_S A s.heap s.heap [] := va_S.rf
  have hl := lv_entry ([.ref (a 0), .int x0]) (n := 2) (Nat.le_of_ble_eq_true rfl)
  rw [lg_entry_eq]
  generalize (lg_sl ([.ref (a 0), .int x0]) ++ List.replicate (2 - (lg_sl ([.ref (a 0), .int x0])).length) Slot.unset).toArray = ls at hl ⊢
  have hl : lv_has ls 2 [(0, .ref (a 0)), (1, .int x0)] := hl
  generalize hQ : MQ below (va_Qi (fun r (_ : Unit) => r = rv) (kb_B D A (w_MO dA a (some (ba 0)) q1 g2 g3 g4 g5 g6 g7 g8 g9 g10 g11 g12 g13 g14 g15 g16 g17 g18 mo ++ (w_Bus dA ba bu))) A) ([.ref (a 0), .int x0] : List Value).toArray s 0 0 A = Q
  show W p l e ({ frames := 2, cells := 0, slots := 0, locals := 43 } : Room) s m ([.ref (a 0), .int x0] : List Value).toArray below meth c s.heap [] 0 0 Q (F0 m 0 ls [])
  have RET : ∀ (r2 : Int32) (H : Heap) (locs : List Loc) (ls : Array Slot) (pc : Nat), some (r2) = some (rv) → va_P D vwCl (w_MO dA a (some (ba 0)) q1 g2 g3 g4 g5 g6 g7 g8 g9 g10 g11 g12 g13 g14 g15 g16 g17 g18 mo ++ (w_Bus dA ba bu)) H → va_D A (w_MO dA a (some (ba 0)) q1 g2 g3 g4 g5 g6 g7 g8 g9 g10 g11 g12 g13 g14 g15 g16 g17 g18 mo ++ (w_Bus dA ba bu)) → va_S A s.heap H locs → decode cX12_beside pc = .ok (.ireturn, 1) → W p l e ({ frames := 2, cells := 0, slots := 0, locals := 43 } : Room) s m ([.ref (a 0), .int x0] : List Value).toArray below meth c H locs 0 0 Q (F0 m pc ls [.int r2]) := by
    intro r2 H locs ls pc hq hP hD hS hd
    cases hq
    rw [← hQ]
    exact W.iret hx hb hr (fun t ht hW => ⟨⟨_, (), rfl, rfl, by rw [ht]; exact hP, hD⟩, hS.F ht⟩) hS.2.2 hd
  have E0 : ∀ (H : Heap) (locs : List Loc), va_P D vwCl (w_MO dA a (some (ba 0)) q1 g2 g3 g4 g5 g6 g7 g8 g9 g10 g11 g12 g13 g14 g15 g16 g17 g18 mo ++ (w_Bus dA ba bu)) H → va_D A (w_MO dA a (some (ba 0)) q1 g2 g3 g4 g5 g6 g7 g8 g9 g10 g11 g12 g13 g14 g15 g16 g17 g18 mo ++ (w_Bus dA ba bu)) → va_S A s.heap H locs → W p l e ({ frames := 2, cells := 0, slots := 0, locals := 43 } : Room) s m ([.ref (a 0), .int x0] : List Value).toArray below meth c H locs 0 0 Q (F0 m 0 ls []) := by
    intro H locs hP hD hS
    rw [f_X12_beside] at hf
    refine lv_aload_n hx hb dX12_beside_0 rfl (lv_at hl 0 rfl) ?_
    refine va_get (D := D) (ci := 12) (v := .ref (ba 0)) (C := RX12) (T := TX12) (N := 35) hx hb hts kb_inX12 hown hK.1 hP 0 rfl rfl 3 (by decide) (hK.2.w ww_5_203 rfl _) (fun _ h9 => h9) rfl dX12_beside_1 ?_
    refine va_getN (D := D) (ci := 11) (v := .int (bu_form bu)) (C := RX11) (T := TX11) (N := 26) hx hb hts kb_inX11 hown hK.1 hP 1 rfl rfl 1 (by decide) (hK.2.nb ww_6_90 rfl rfl _) (fun _ h9 => h9) rfl dX12_beside_4 ?_
    refine lv_iload_n hx hb dX12_beside_7 rfl (lv_at hl 1 rfl) ?_
    obtain ⟨r1, hc1, hf⟩ := kb_bind hf
    refine kb_ci (ws2 := (w_MO dA a (some (ba 0)) q1 g2 g3 g4 g5 g6 g7 g8 g9 g10 g11 g12 g13 g14 g15 g16 g17 g18 mo ++ (w_Bus dA ba bu))) (kb_rS (n := 2) (As := [.int (bu_form bu), .int x0]) (rest := []) hx hb hml hown hK (c_X12_besideOf l D dA H.size (bu_form bu) x0 r1 hc1) ⟨ww_7_142, ww_7_140, ww_7_141, ww_1_12, by decide, by decide⟩ rfl rfl (by decide +kernel) ⟨Nat.le_of_ble_eq_true rfl, Nat.le_of_ble_eq_true rfl⟩ hP hD hS hA hE [] rfl (by decide) rfl hl.1 rfl (Nat.le_of_ble_eq_true rfl) dX12_beside_8 ⟨Nat.le_of_ble_eq_true rfl, Nat.le_of_ble_eq_true rfl⟩) hP hD hS hA [] [0, 1, 2, 3, 4, 5, 6, 7, 8, 9, 10, 11, 12, 13, 14, 15, 16] [0, 1, 2, 3, 4, 5, 6, 7, 8, 9, 10, 11, 12, 13, 14, 15, 16] rfl rfl (by decide) (by decide) rfl (by decide) (fun H locs hP hD hS => ?_)
    exact RET _ H _ ls 11 hf hP hD hS dX12_beside_11
  exact E0 _ _ hP hD hS

noncomputable def f_X12_allSeats_b4 (mo : MOT) (bu : BusT) : Nat → Int32 → Int32 → Option (Int32)
  | 0, _, _ => none
  | n + 1, v1, v2 => (if ((4 : Int32) * (bu_rows bu)) ≤ v2 then some (v1) else (f_X12_isSeat mo bu v2).bind fun r2 => (if r2 = 0 then f_X12_allSeats_b4 mo bu n (v1 ||| (0 : Int32)) (v2 + (1 : Int32)) else f_X12_allSeats_b4 mo bu n (v1 ||| ((1 : Int32) <<< (v2 &&& 31))) (v2 + (1 : Int32))))
noncomputable def f_X12_allSeats (mo : MOT) (bu : BusT) : Option (Int32) := f_X12_allSeats_b4 mo bu 4096 (0 : Int32) (0 : Int32)
set_option maxHeartbeats 4000000 in
set_option maxRecDepth 100000 in
theorem c_X12_allSeats (l : Launch) (D : va_G) (dA : Nat → ClassId) (sz : Nat) (a : Nat → Nat) (ba : Nat → Nat) (q1 : Option Nat) (g2 : Nat) (g3 : Nat) (g4 : Nat) (g5 : Nat) (g6 : Nat) (g7 : Nat) (g8 : Nat) (g9 : Nat) (g10 : Nat) (g11 : Nat) (g12 : Nat) (g13 : Nat) (g14 : Nat) (g15 : Nat) (g16 : Nat) (g17 : Nat) (g18 : Nat) (mo : MOT) (bu : BusT) (rv : Int32) (hf : f_X12_allSeats mo bu = some (rv)) : kb_Mi l yX12_allSeats cX12_allSeats 3 (some .int) ({ frames := 2, cells := 0, slots := 0, locals := 42 } : Room) D dA [.ref (a 0)] sz (w_MO dA a (some (ba 0)) q1 g2 g3 g4 g5 g6 g7 g8 g9 g10 g11 g12 g13 g14 g15 g16 g17 g18 mo ++ (w_Bus dA ba bu)) 0 0 rv (w_MO dA a (some (ba 0)) q1 g2 g3 g4 g5 g6 g7 g8 g9 g10 g11 g12 g13 g14 g15 g16 g17 g18 mo ++ (w_Bus dA ba bu)) := by
  refine Met.ofW (cc := cX12_allSeats) (maxL := 3) (ret := (some .int)) (by decide) rfl ?_
  intro p e s m args below meth c s₁ B hml hv
  obtain ⟨rfl, hsz, hP, hK, hD0, hE⟩ := hv
  have hx := B.exec
  have hb := B.bytes
  have hr := B.returns
  have hown : s.vm.findClass RX12 = some m.cls := findClass_of_methodNamed B.named
  have hlocks := B.notSynchronized
  have hts : ∀ w ∈ kb_gw, w.before ([.ref (a 0)] : List Value).toArray s = true := fun w hw => hK.2.1 w hw _
  subst hsz
  have hD := hD0.self (sz := s.heap.size)
  generalize hAe : va_A (w_MO dA a (some (ba 0)) q1 g2 g3 g4 g5 g6 g7 g8 g9 g10 g11 g12 g13 g14 g15 g16 g17 g18 mo ++ (w_Bus dA ba bu)) s.heap.size = A at hD hE ⊢
  have hA : ∀ q : Nat, s.heap.size ≤ q → A q := fun q h => by rw [← hAe]; exact Or.inr h
  have hS : va_S A s.heap s.heap [] := va_S.rf
  have hl := lv_entry ([.ref (a 0)]) (n := 3) (Nat.le_of_ble_eq_true rfl)
  rw [lg_entry_eq]
  generalize (lg_sl ([.ref (a 0)]) ++ List.replicate (3 - (lg_sl ([.ref (a 0)])).length) Slot.unset).toArray = ls at hl ⊢
  have hl : lv_has ls 3 [(0, .ref (a 0))] := hl
  generalize hQ : MQ below (va_Qi (fun r (_ : Unit) => r = rv) (kb_B D A (w_MO dA a (some (ba 0)) q1 g2 g3 g4 g5 g6 g7 g8 g9 g10 g11 g12 g13 g14 g15 g16 g17 g18 mo ++ (w_Bus dA ba bu))) A) ([.ref (a 0)] : List Value).toArray s 0 0 A = Q
  show W p l e ({ frames := 2, cells := 0, slots := 0, locals := 42 } : Room) s m ([.ref (a 0)] : List Value).toArray below meth c s.heap [] 0 0 Q (F0 m 0 ls [])
  have RET : ∀ (r2 : Int32) (H : Heap) (locs : List Loc) (ls : Array Slot) (pc : Nat), some (r2) = some (rv) → va_P D vwCl (w_MO dA a (some (ba 0)) q1 g2 g3 g4 g5 g6 g7 g8 g9 g10 g11 g12 g13 g14 g15 g16 g17 g18 mo ++ (w_Bus dA ba bu)) H → va_D A (w_MO dA a (some (ba 0)) q1 g2 g3 g4 g5 g6 g7 g8 g9 g10 g11 g12 g13 g14 g15 g16 g17 g18 mo ++ (w_Bus dA ba bu)) → va_S A s.heap H locs → decode cX12_allSeats pc = .ok (.ireturn, 1) → W p l e ({ frames := 2, cells := 0, slots := 0, locals := 42 } : Room) s m ([.ref (a 0)] : List Value).toArray below meth c H locs 0 0 Q (F0 m pc ls [.int r2]) := by
    intro r2 H locs ls pc hq hP hD hS hd
    cases hq
    rw [← hQ]
    exact W.iret hx hb hr (fun t ht hW => ⟨⟨_, (), rfl, rfl, by rw [ht]; exact hP, hD⟩, hS.F ht⟩) hS.2.2 hd
  have B_4 : ∀ (n : Nat) (v1 : Int32) (v2 : Int32) (H : Heap) (locs : List Loc) (ls : Array Slot), f_X12_allSeats_b4 mo bu n v1 v2 = some (rv) → va_P D vwCl (w_MO dA a (some (ba 0)) q1 g2 g3 g4 g5 g6 g7 g8 g9 g10 g11 g12 g13 g14 g15 g16 g17 g18 mo ++ (w_Bus dA ba bu)) H → va_D A (w_MO dA a (some (ba 0)) q1 g2 g3 g4 g5 g6 g7 g8 g9 g10 g11 g12 g13 g14 g15 g16 g17 g18 mo ++ (w_Bus dA ba bu)) → va_S A s.heap H locs → lv_has ls 3 [(0, .ref (a 0)), (1, .int v1), (2, .int v2)] → W p l e ({ frames := 2, cells := 0, slots := 0, locals := 42 } : Room) s m ([.ref (a 0)] : List Value).toArray below meth c H locs 0 0 Q (F0 m 4 ls []) := by
    intro n
    induction n with
    | zero =>
      intro v1 v2 H locs ls hf
      exact absurd hf (by simp [f_X12_allSeats_b4])
    | succ n ih =>
      intro v1 v2 H locs ls hf hP hD hS hl
      rw [f_X12_allSeats_b4] at hf
      refine lv_iload_n hx hb dX12_allSeats_4 rfl (lv_at hl 2 rfl) ?_
      refine lv_iconst (v := (4 : Int32)) hx hb dX12_allSeats_5 (by decide) ?_
      refine lv_aload_n hx hb dX12_allSeats_6 rfl (lv_at hl 0 rfl) ?_
      refine va_get (D := D) (ci := 12) (v := .ref (ba 0)) (C := RX12) (T := TX12) (N := 35) hx hb hts kb_inX12 hown hK.1 hP 0 rfl rfl 3 (by decide) (hK.2.w ww_5_203 rfl _) (fun _ h9 => h9) rfl dX12_allSeats_7 ?_
      refine va_getN (D := D) (ci := 11) (v := .int (bu_rows bu)) (C := RX11) (T := TX11) (N := 26) hx hb hts kb_inX11 hown hK.1 hP 1 rfl rfl 0 (by decide) (hK.2.nb ww_6_89 rfl rfl _) (fun _ h9 => h9) rfl dX12_allSeats_10 ?_
      refine lv_imul hx hb dX12_allSeats_13 ?_
      refine lv_icmp_ge (tgt := 41) hx hb dX12_allSeats_14 (by decide) (fun c_1 => ?_) (fun c_1 => ?_)
      · rw [if_pos c_1] at hf
        refine lv_iload_n hx hb dX12_allSeats_41 rfl (lv_at hl 1 rfl) ?_
        exact RET _ H _ ls 42 hf hP hD hS dX12_allSeats_42
      · rw [if_neg c_1] at hf
        refine lv_iload_n hx hb dX12_allSeats_17 rfl (lv_at hl 1 rfl) ?_
        refine lv_aload_n hx hb dX12_allSeats_18 rfl (lv_at hl 0 rfl) ?_
        refine lv_iload_n hx hb dX12_allSeats_19 rfl (lv_at hl 2 rfl) ?_
        obtain ⟨r2, hc2, hf⟩ := kb_bind hf
        refine kb_ci (ws2 := (w_MO dA a (some (ba 0)) q1 g2 g3 g4 g5 g6 g7 g8 g9 g10 g11 g12 g13 g14 g15 g16 g17 g18 mo ++ (w_Bus dA ba bu))) (kb_rV (n := 1) (As := [.int v2]) (rest := [.int v1]) hx hb hml hown hK (c_X12_isSeat l D dA H.size a ba q1 g2 g3 g4 g5 g6 g7 g8 g9 g10 g11 g12 g13 g14 g15 g16 g17 g18 mo bu v2 r2 hc2) ⟨ww_7_179, ww_7_176, ww_7_178, ws_84, ww_1_12, rfl, by decide, by decide⟩ rfl rfl (by decide +kernel) ⟨Nat.le_of_ble_eq_true rfl, Nat.le_of_ble_eq_true rfl⟩ hP hD hS hA hE [0, 1, 2, 3, 4, 5, 6, 7, 8, 9, 10, 11, 12, 13, 14, 15, 16] rfl (by decide) 0 rfl rfl rfl hl.1 rfl (Nat.le_of_ble_eq_true rfl) dX12_allSeats_20 ⟨Nat.le_of_ble_eq_true rfl, Nat.le_of_ble_eq_true rfl⟩) hP hD hS hA [0, 1, 2, 3, 4, 5, 6, 7, 8, 9, 10, 11, 12, 13, 14, 15, 16] [] [0, 1, 2, 3, 4, 5, 6, 7, 8, 9, 10, 11, 12, 13, 14, 15, 16] rfl rfl (by decide) (by decide) rfl (by decide) (fun H locs hP hD hS => ?_)
        refine lv_if_eq (tgt := 32) hx hb dX12_allSeats_23 (by decide) (fun c_3 => ?_) (fun c_3 => ?_)
        · rw [if_pos c_3] at hf
          refine lv_iconst (v := (0 : Int32)) hx hb dX12_allSeats_32 (by decide) ?_
          refine lv_ior hx hb dX12_allSeats_33 ?_
          refine lv_istore_n (lv' := [(1, .int (v1 ||| (0 : Int32))), (0, .ref (a 0)), (2, .int v2)]) hx hb dX12_allSeats_34 rfl hl (by decide) rfl (fun ls hl => ?_)
          refine lv_iinc (v := (v2 + (1 : Int32))) (lv' := [(2, .int (v2 + (1 : Int32))), (1, .int (v1 ||| (0 : Int32))), (0, .ref (a 0))]) hx hb dX12_allSeats_35 hl (k := 2) rfl (by rfl) (by decide) rfl (fun ls hl => ?_)
          refine lv_goto (tgt := 4) hx hb dX12_allSeats_38 (by decide) ?_
          exact ih _ _ _ _ _ hf hP hD hS (lv_sub hl [2, 1, 0] rfl)
        · rw [if_neg c_3] at hf
          refine lv_iconst (v := (1 : Int32)) hx hb dX12_allSeats_26 (by decide) ?_
          refine lv_iload_n hx hb dX12_allSeats_27 rfl (lv_at hl 2 rfl) ?_
          refine lv_ishl hx hb dX12_allSeats_28 ?_
          refine lv_goto (tgt := 33) hx hb dX12_allSeats_29 (by decide) ?_
          refine lv_ior hx hb dX12_allSeats_33 ?_
          refine lv_istore_n (lv' := [(1, .int (v1 ||| ((1 : Int32) <<< (v2 &&& 31)))), (0, .ref (a 0)), (2, .int v2)]) hx hb dX12_allSeats_34 rfl hl (by decide) rfl (fun ls hl => ?_)
          refine lv_iinc (v := (v2 + (1 : Int32))) (lv' := [(2, .int (v2 + (1 : Int32))), (1, .int (v1 ||| ((1 : Int32) <<< (v2 &&& 31)))), (0, .ref (a 0))]) hx hb dX12_allSeats_35 hl (k := 2) rfl (by rfl) (by decide) rfl (fun ls hl => ?_)
          refine lv_goto (tgt := 4) hx hb dX12_allSeats_38 (by decide) ?_
          exact ih _ _ _ _ _ hf hP hD hS (lv_sub hl [2, 1, 0] rfl)
  have E0 : ∀ (H : Heap) (locs : List Loc), va_P D vwCl (w_MO dA a (some (ba 0)) q1 g2 g3 g4 g5 g6 g7 g8 g9 g10 g11 g12 g13 g14 g15 g16 g17 g18 mo ++ (w_Bus dA ba bu)) H → va_D A (w_MO dA a (some (ba 0)) q1 g2 g3 g4 g5 g6 g7 g8 g9 g10 g11 g12 g13 g14 g15 g16 g17 g18 mo ++ (w_Bus dA ba bu)) → va_S A s.heap H locs → W p l e ({ frames := 2, cells := 0, slots := 0, locals := 42 } : Room) s m ([.ref (a 0)] : List Value).toArray below meth c H locs 0 0 Q (F0 m 0 ls []) := by
    intro H locs hP hD hS
    rw [f_X12_allSeats] at hf
    refine lv_iconst (v := (0 : Int32)) hx hb dX12_allSeats_0 (by decide) ?_
    refine lv_istore_n (lv' := [(1, .int (0 : Int32)), (0, .ref (a 0))]) hx hb dX12_allSeats_1 rfl hl (by decide) rfl (fun ls hl => ?_)
    refine lv_iconst (v := (0 : Int32)) hx hb dX12_allSeats_2 (by decide) ?_
    refine lv_istore_n (lv' := [(2, .int (0 : Int32)), (1, .int (0 : Int32)), (0, .ref (a 0))]) hx hb dX12_allSeats_3 rfl hl (by decide) rfl (fun ls hl => ?_)
    exact B_4 4096 _ _ _ _ _ hf hP hD hS (lv_sub hl [2, 1, 0] rfl)
  exact E0 _ _ hP hD hS

noncomputable def f_X12_beginsAnew_b54 (mo : MOT) (bu : BusT) (k23 : Int32 → WT → Option (WT)) (v1 : Int32) (z1 : WT) : Option (WT) := k23 (v1 + (1 : Int32)) z1
noncomputable def f_X12_beginsAnew_b44 (mo : MOT) (bu : BusT) (k23 : Int32 → WT → Option (WT)) (v1 : Int32) (z1 : WT) : Option (WT) := if kb_in? ((8 : Int32) + v1) 56 then f_X12_beginsAnew_b54 mo bu k23 v1 (yW_set_r z1 (upd (yW_r z1) (((8 : Int32) + v1)).toNatClampNeg (-1 : Int32))) else none
noncomputable def f_X12_beginsAnew_b23 (mo : MOT) (bu : BusT) : Nat → Int32 → WT → Option (WT)
  | 0, _, _ => none
  | n + 1, v1, z1 => (if (bu_riders bu) ≤ v1 then some (z1) else if kb_in? ((0 : Int32) + v1) 56 then f_X12_beginsAnew_b44 mo bu (f_X12_beginsAnew_b23 mo bu n) v1 (yW_set_r z1 (upd (yW_r z1) (((0 : Int32) + v1)).toNatClampNeg (100 : Int32))) else none)
noncomputable def f_X12_beginsAnew_b15 (mo : MOT) (bu : BusT) (k2 : Int32 → WT → Option (WT)) (v1 : Int32) (z1 : WT) : Option (WT) := k2 (v1 + (1 : Int32)) z1
noncomputable def f_X12_beginsAnew_b2 (mo : MOT) (bu : BusT) : Nat → Int32 → WT → Option (WT)
  | 0, _, _ => none
  | n + 1, v1, z1 => (if (56 : Int32) ≤ v1 then f_X12_beginsAnew_b23 mo bu 4096 (0 : Int32) z1 else if kb_in? v1 56 then f_X12_beginsAnew_b15 mo bu (f_X12_beginsAnew_b2 mo bu n) v1 (yW_set_r z1 (upd (yW_r z1) (v1).toNatClampNeg (0 : Int32))) else none)
noncomputable def f_X12_beginsAnew (mo : MOT) (y_w : WT) (bu : BusT) : Option (WT) := f_X12_beginsAnew_b2 mo bu 4096 (0 : Int32) y_w
set_option maxHeartbeats 4000000 in
set_option maxRecDepth 100000 in
theorem c_X12_beginsAnew (l : Launch) (D : va_G) (dA : Nat → ClassId) (sz : Nat) (a : Nat → Nat) (wa : Nat → Nat) (ba : Nat → Nat) (q1 : Option Nat) (g2 : Nat) (g3 : Nat) (g4 : Nat) (g5 : Nat) (g7 : Nat) (g8 : Nat) (g9 : Nat) (g10 : Nat) (g11 : Nat) (g12 : Nat) (g13 : Nat) (g14 : Nat) (g15 : Nat) (g16 : Nat) (g17 : Nat) (g18 : Nat) (mo : MOT) (y_w : WT) (bu : BusT) (u1 : WT) (hf : f_X12_beginsAnew mo y_w bu = some (u1)) : kb_Mv l yX12_beginsAnew cX12_beginsAnew 2 none ({ frames := 0, cells := 0, slots := 0, locals := 0 } : Room) D dA [.ref (a 0)] sz (w_MO dA a (some (ba 0)) q1 g2 g3 g4 g5 (wa 0) g7 g8 g9 g10 g11 g12 g13 g14 g15 g16 g17 g18 mo ++ (w_W dA wa y_w ++ (w_Bus dA ba bu))) 0 0 (w_MO dA a (some (ba 0)) q1 g2 g3 g4 g5 (wa 0) g7 g8 g9 g10 g11 g12 g13 g14 g15 g16 g17 g18 mo ++ (w_W dA wa u1 ++ (w_Bus dA ba bu))) := by
  refine Met.ofW (cc := cX12_beginsAnew) (maxL := 2) (ret := none) (by decide) rfl ?_
  intro p e s m args below meth c s₁ B hml hv
  obtain ⟨rfl, hsz, hP, hK, hD0, hE⟩ := hv
  have hx := B.exec
  have hb := B.bytes
  have hr := B.returns
  have hown : s.vm.findClass RX12 = some m.cls := findClass_of_methodNamed B.named
  have hlocks := B.notSynchronized
  have hts : ∀ w ∈ kb_gw, w.before ([.ref (a 0)] : List Value).toArray s = true := fun w hw => hK.2.1 w hw _
  subst hsz
  have hD := hD0.self (sz := s.heap.size)
  generalize hAe : va_A (w_MO dA a (some (ba 0)) q1 g2 g3 g4 g5 (wa 0) g7 g8 g9 g10 g11 g12 g13 g14 g15 g16 g17 g18 mo ++ (w_W dA wa y_w ++ (w_Bus dA ba bu))) s.heap.size = A at hD hE ⊢
  have hA : ∀ q : Nat, s.heap.size ≤ q → A q := fun q h => by rw [← hAe]; exact Or.inr h
  have hS : va_S A s.heap s.heap [] := va_S.rf
  have hl := lv_entry ([.ref (a 0)]) (n := 2) (Nat.le_of_ble_eq_true rfl)
  rw [lg_entry_eq]
  generalize (lg_sl ([.ref (a 0)]) ++ List.replicate (2 - (lg_sl ([.ref (a 0)])).length) Slot.unset).toArray = ls at hl ⊢
  have hl : lv_has ls 2 [(0, .ref (a 0))] := hl
  generalize hQ : MQ below (va_Qv (fun (_ : Unit) => True) (kb_B D A (w_MO dA a (some (ba 0)) q1 g2 g3 g4 g5 (wa 0) g7 g8 g9 g10 g11 g12 g13 g14 g15 g16 g17 g18 mo ++ (w_W dA wa u1 ++ (w_Bus dA ba bu)))) A) ([.ref (a 0)] : List Value).toArray s 0 0 A = Q
  show W p l e ({ frames := 0, cells := 0, slots := 0, locals := 0 } : Room) s m ([.ref (a 0)] : List Value).toArray below meth c s.heap [] 0 0 Q (F0 m 0 ls [])
  have RET : ∀ (w1 : WT) (H : Heap) (locs : List Loc) (ls : Array Slot) (pc : Nat), some (w1) = some (u1) → va_P D vwCl (w_MO dA a (some (ba 0)) q1 g2 g3 g4 g5 (wa 0) g7 g8 g9 g10 g11 g12 g13 g14 g15 g16 g17 g18 mo ++ (w_W dA wa w1 ++ (w_Bus dA ba bu))) H → va_D A (w_MO dA a (some (ba 0)) q1 g2 g3 g4 g5 (wa 0) g7 g8 g9 g10 g11 g12 g13 g14 g15 g16 g17 g18 mo ++ (w_W dA wa w1 ++ (w_Bus dA ba bu))) → va_S A s.heap H locs → decode cX12_beginsAnew pc = .ok (.return_, 1) → W p l e ({ frames := 0, cells := 0, slots := 0, locals := 0 } : Room) s m ([.ref (a 0)] : List Value).toArray below meth c H locs 0 0 Q (F0 m pc ls []) := by
    intro w1 H locs ls pc hq hP hD hS hd
    cases hq
    rw [← hQ]
    exact W.vret hx hb hr (fun t ht hW => ⟨⟨(), rfl, trivial, by rw [ht]; exact hP, hD⟩, hS.F ht⟩) hS.2.2 hd
  have B_54 : ∀ (k23 : Int32 → WT → Option (WT)) (hk23 : ∀ (v1 : Int32) (z1 : WT) (H : Heap) (locs : List Loc) (ls : Array Slot), k23 v1 z1 = some (u1) → va_P D vwCl (w_MO dA a (some (ba 0)) q1 g2 g3 g4 g5 (wa 0) g7 g8 g9 g10 g11 g12 g13 g14 g15 g16 g17 g18 mo ++ (w_W dA wa z1 ++ (w_Bus dA ba bu))) H → va_D A (w_MO dA a (some (ba 0)) q1 g2 g3 g4 g5 (wa 0) g7 g8 g9 g10 g11 g12 g13 g14 g15 g16 g17 g18 mo ++ (w_W dA wa z1 ++ (w_Bus dA ba bu))) → va_S A s.heap H locs → lv_has ls 2 [(0, .ref (a 0)), (1, .int v1)] → W p l e ({ frames := 0, cells := 0, slots := 0, locals := 0 } : Room) s m ([.ref (a 0)] : List Value).toArray below meth c H locs 0 0 Q (F0 m 23 ls [])) (v1 : Int32) (z1 : WT) (H : Heap) (locs : List Loc) (ls : Array Slot), f_X12_beginsAnew_b54 mo bu k23 v1 z1 = some (u1) → va_P D vwCl (w_MO dA a (some (ba 0)) q1 g2 g3 g4 g5 (wa 0) g7 g8 g9 g10 g11 g12 g13 g14 g15 g16 g17 g18 mo ++ (w_W dA wa z1 ++ (w_Bus dA ba bu))) H → va_D A (w_MO dA a (some (ba 0)) q1 g2 g3 g4 g5 (wa 0) g7 g8 g9 g10 g11 g12 g13 g14 g15 g16 g17 g18 mo ++ (w_W dA wa z1 ++ (w_Bus dA ba bu))) → va_S A s.heap H locs → lv_has ls 2 [(0, .ref (a 0)), (1, .int v1)] → W p l e ({ frames := 0, cells := 0, slots := 0, locals := 0 } : Room) s m ([.ref (a 0)] : List Value).toArray below meth c H locs 0 0 Q (F0 m 54 ls []) := by
    intro k23 hk23 v1 z1 H locs ls hf hP hD hS hl
    rw [f_X12_beginsAnew_b54] at hf
    refine lv_iinc (v := (v1 + (1 : Int32))) (lv' := [(1, .int (v1 + (1 : Int32))), (0, .ref (a 0))]) hx hb dX12_beginsAnew_54 hl (k := 1) rfl (by rfl) (by decide) rfl (fun ls hl => ?_)
    refine lv_goto (tgt := 23) hx hb dX12_beginsAnew_57 (by decide) ?_
    exact hk23 _ _ _ _ _ hf hP hD hS (lv_sub hl [1, 0] rfl)
  have B_44 : ∀ (k23 : Int32 → WT → Option (WT)) (hk23 : ∀ (v1 : Int32) (z1 : WT) (H : Heap) (locs : List Loc) (ls : Array Slot), k23 v1 z1 = some (u1) → va_P D vwCl (w_MO dA a (some (ba 0)) q1 g2 g3 g4 g5 (wa 0) g7 g8 g9 g10 g11 g12 g13 g14 g15 g16 g17 g18 mo ++ (w_W dA wa z1 ++ (w_Bus dA ba bu))) H → va_D A (w_MO dA a (some (ba 0)) q1 g2 g3 g4 g5 (wa 0) g7 g8 g9 g10 g11 g12 g13 g14 g15 g16 g17 g18 mo ++ (w_W dA wa z1 ++ (w_Bus dA ba bu))) → va_S A s.heap H locs → lv_has ls 2 [(0, .ref (a 0)), (1, .int v1)] → W p l e ({ frames := 0, cells := 0, slots := 0, locals := 0 } : Room) s m ([.ref (a 0)] : List Value).toArray below meth c H locs 0 0 Q (F0 m 23 ls [])) (v1 : Int32) (z1 : WT) (H : Heap) (locs : List Loc) (ls : Array Slot), f_X12_beginsAnew_b44 mo bu k23 v1 z1 = some (u1) → va_P D vwCl (w_MO dA a (some (ba 0)) q1 g2 g3 g4 g5 (wa 0) g7 g8 g9 g10 g11 g12 g13 g14 g15 g16 g17 g18 mo ++ (w_W dA wa z1 ++ (w_Bus dA ba bu))) H → va_D A (w_MO dA a (some (ba 0)) q1 g2 g3 g4 g5 (wa 0) g7 g8 g9 g10 g11 g12 g13 g14 g15 g16 g17 g18 mo ++ (w_W dA wa z1 ++ (w_Bus dA ba bu))) → va_S A s.heap H locs → lv_has ls 2 [(0, .ref (a 0)), (1, .int v1)] → W p l e ({ frames := 0, cells := 0, slots := 0, locals := 0 } : Room) s m ([.ref (a 0)] : List Value).toArray below meth c H locs 0 0 Q (F0 m 44 ls []) := by
    intro k23 hk23 v1 z1 H locs ls hf hP hD hS hl
    rw [f_X12_beginsAnew_b44] at hf
    refine lv_aload_n hx hb dX12_beginsAnew_44 rfl (lv_at hl 0 rfl) ?_
    refine va_get (D := D) (ci := 12) (v := .ref (wa 0)) (C := RX12) (T := TX12) (N := 35) hx hb hts kb_inX12 hown hK.1 hP 0 rfl rfl 19 (by decide) (hK.2.w ww_5_219 rfl _) (fun _ h9 => h9) rfl dX12_beginsAnew_45 ?_
    refine lv_bipush (v := (8 : Int32)) hx hb dX12_beginsAnew_48 (by decide) ?_
    refine lv_iload_n hx hb dX12_beginsAnew_50 rfl (lv_at hl 1 rfl) ?_
    refine lv_iadd hx hb dX12_beginsAnew_51 ?_
    refine lv_iconst (v := (-1 : Int32)) hx hb dX12_beginsAnew_52 (by decide) ?_
    obtain ⟨h_4, hf⟩ := kb_if hf
    refine va_iast (D := D) hx hb hK.1 hP hD hS 1 0 rfl rfl h_4 dX12_beginsAnew_53 (fun H locs hP hD hS => ?_)
    have hP : va_P D vwCl (w_MO dA a (some (ba 0)) q1 g2 g3 g4 g5 (wa 0) g7 g8 g9 g10 g11 g12 g13 g14 g15 g16 g17 g18 mo ++ (w_W dA wa (yW_set_r z1 (upd (yW_r z1) (((8 : Int32) + v1)).toNatClampNeg (-1 : Int32))) ++ (w_Bus dA ba bu))) H := hP
    have hD : va_D A (w_MO dA a (some (ba 0)) q1 g2 g3 g4 g5 (wa 0) g7 g8 g9 g10 g11 g12 g13 g14 g15 g16 g17 g18 mo ++ (w_W dA wa (yW_set_r z1 (upd (yW_r z1) (((8 : Int32) + v1)).toNatClampNeg (-1 : Int32))) ++ (w_Bus dA ba bu))) := hD
    exact B_54 k23 hk23 _ _ _ _ _ hf hP hD hS (lv_sub hl [0, 1] rfl)
  have B_23 : ∀ (n : Nat) (v1 : Int32) (z1 : WT) (H : Heap) (locs : List Loc) (ls : Array Slot), f_X12_beginsAnew_b23 mo bu n v1 z1 = some (u1) → va_P D vwCl (w_MO dA a (some (ba 0)) q1 g2 g3 g4 g5 (wa 0) g7 g8 g9 g10 g11 g12 g13 g14 g15 g16 g17 g18 mo ++ (w_W dA wa z1 ++ (w_Bus dA ba bu))) H → va_D A (w_MO dA a (some (ba 0)) q1 g2 g3 g4 g5 (wa 0) g7 g8 g9 g10 g11 g12 g13 g14 g15 g16 g17 g18 mo ++ (w_W dA wa z1 ++ (w_Bus dA ba bu))) → va_S A s.heap H locs → lv_has ls 2 [(0, .ref (a 0)), (1, .int v1)] → W p l e ({ frames := 0, cells := 0, slots := 0, locals := 0 } : Room) s m ([.ref (a 0)] : List Value).toArray below meth c H locs 0 0 Q (F0 m 23 ls []) := by
    intro n
    induction n with
    | zero =>
      intro v1 z1 H locs ls hf
      exact absurd hf (by simp [f_X12_beginsAnew_b23])
    | succ n ih =>
      intro v1 z1 H locs ls hf hP hD hS hl
      rw [f_X12_beginsAnew_b23] at hf
      refine lv_iload_n hx hb dX12_beginsAnew_23 rfl (lv_at hl 1 rfl) ?_
      refine lv_aload_n hx hb dX12_beginsAnew_24 rfl (lv_at hl 0 rfl) ?_
      refine va_get (D := D) (ci := 12) (v := .ref (ba 0)) (C := RX12) (T := TX12) (N := 35) hx hb hts kb_inX12 hown hK.1 hP 0 rfl rfl 3 (by decide) (hK.2.w ww_5_203 rfl _) (fun _ h9 => h9) rfl dX12_beginsAnew_25 ?_
      refine va_getN (D := D) (ci := 11) (v := .int (bu_riders bu)) (C := RX11) (T := TX11) (N := 26) hx hb hts kb_inX11 hown hK.1 hP 2 rfl rfl 7 (by decide) (hK.2.nb ww_6_96 rfl rfl _) (fun _ h9 => h9) rfl dX12_beginsAnew_28 ?_
      refine lv_icmp_ge (tgt := 60) hx hb dX12_beginsAnew_31 (by decide) (fun c_2 => ?_) (fun c_2 => ?_)
      · rw [if_pos c_2] at hf
        exact RET _ H _ ls 60 hf hP hD hS dX12_beginsAnew_60
      · rw [if_neg c_2] at hf
        refine lv_aload_n hx hb dX12_beginsAnew_34 rfl (lv_at hl 0 rfl) ?_
        refine va_get (D := D) (ci := 12) (v := .ref (wa 0)) (C := RX12) (T := TX12) (N := 35) hx hb hts kb_inX12 hown hK.1 hP 0 rfl rfl 19 (by decide) (hK.2.w ww_5_219 rfl _) (fun _ h9 => h9) rfl dX12_beginsAnew_35 ?_
        refine lv_iconst (v := (0 : Int32)) hx hb dX12_beginsAnew_38 (by decide) ?_
        refine lv_iload_n hx hb dX12_beginsAnew_39 rfl (lv_at hl 1 rfl) ?_
        refine lv_iadd hx hb dX12_beginsAnew_40 ?_
        refine lv_bipush (v := (100 : Int32)) hx hb dX12_beginsAnew_41 (by decide) ?_
        obtain ⟨h_3, hf⟩ := kb_if hf
        refine va_iast (D := D) hx hb hK.1 hP hD hS 1 0 rfl rfl h_3 dX12_beginsAnew_43 (fun H locs hP hD hS => ?_)
        have hP : va_P D vwCl (w_MO dA a (some (ba 0)) q1 g2 g3 g4 g5 (wa 0) g7 g8 g9 g10 g11 g12 g13 g14 g15 g16 g17 g18 mo ++ (w_W dA wa (yW_set_r z1 (upd (yW_r z1) (((0 : Int32) + v1)).toNatClampNeg (100 : Int32))) ++ (w_Bus dA ba bu))) H := hP
        have hD : va_D A (w_MO dA a (some (ba 0)) q1 g2 g3 g4 g5 (wa 0) g7 g8 g9 g10 g11 g12 g13 g14 g15 g16 g17 g18 mo ++ (w_W dA wa (yW_set_r z1 (upd (yW_r z1) (((0 : Int32) + v1)).toNatClampNeg (100 : Int32))) ++ (w_Bus dA ba bu))) := hD
        exact B_44 (f_X12_beginsAnew_b23 mo bu n) ih _ _ _ _ _ hf hP hD hS (lv_sub hl [0, 1] rfl)
  have B_15 : ∀ (k2 : Int32 → WT → Option (WT)) (hk2 : ∀ (v1 : Int32) (z1 : WT) (H : Heap) (locs : List Loc) (ls : Array Slot), k2 v1 z1 = some (u1) → va_P D vwCl (w_MO dA a (some (ba 0)) q1 g2 g3 g4 g5 (wa 0) g7 g8 g9 g10 g11 g12 g13 g14 g15 g16 g17 g18 mo ++ (w_W dA wa z1 ++ (w_Bus dA ba bu))) H → va_D A (w_MO dA a (some (ba 0)) q1 g2 g3 g4 g5 (wa 0) g7 g8 g9 g10 g11 g12 g13 g14 g15 g16 g17 g18 mo ++ (w_W dA wa z1 ++ (w_Bus dA ba bu))) → va_S A s.heap H locs → lv_has ls 2 [(0, .ref (a 0)), (1, .int v1)] → W p l e ({ frames := 0, cells := 0, slots := 0, locals := 0 } : Room) s m ([.ref (a 0)] : List Value).toArray below meth c H locs 0 0 Q (F0 m 2 ls [])) (v1 : Int32) (z1 : WT) (H : Heap) (locs : List Loc) (ls : Array Slot), f_X12_beginsAnew_b15 mo bu k2 v1 z1 = some (u1) → va_P D vwCl (w_MO dA a (some (ba 0)) q1 g2 g3 g4 g5 (wa 0) g7 g8 g9 g10 g11 g12 g13 g14 g15 g16 g17 g18 mo ++ (w_W dA wa z1 ++ (w_Bus dA ba bu))) H → va_D A (w_MO dA a (some (ba 0)) q1 g2 g3 g4 g5 (wa 0) g7 g8 g9 g10 g11 g12 g13 g14 g15 g16 g17 g18 mo ++ (w_W dA wa z1 ++ (w_Bus dA ba bu))) → va_S A s.heap H locs → lv_has ls 2 [(0, .ref (a 0)), (1, .int v1)] → W p l e ({ frames := 0, cells := 0, slots := 0, locals := 0 } : Room) s m ([.ref (a 0)] : List Value).toArray below meth c H locs 0 0 Q (F0 m 15 ls []) := by
    intro k2 hk2 v1 z1 H locs ls hf hP hD hS hl
    rw [f_X12_beginsAnew_b15] at hf
    refine lv_iinc (v := (v1 + (1 : Int32))) (lv' := [(1, .int (v1 + (1 : Int32))), (0, .ref (a 0))]) hx hb dX12_beginsAnew_15 hl (k := 1) rfl (by rfl) (by decide) rfl (fun ls hl => ?_)
    refine lv_goto (tgt := 2) hx hb dX12_beginsAnew_18 (by decide) ?_
    exact hk2 _ _ _ _ _ hf hP hD hS (lv_sub hl [1, 0] rfl)
  have B_2 : ∀ (n : Nat) (v1 : Int32) (z1 : WT) (H : Heap) (locs : List Loc) (ls : Array Slot), f_X12_beginsAnew_b2 mo bu n v1 z1 = some (u1) → va_P D vwCl (w_MO dA a (some (ba 0)) q1 g2 g3 g4 g5 (wa 0) g7 g8 g9 g10 g11 g12 g13 g14 g15 g16 g17 g18 mo ++ (w_W dA wa z1 ++ (w_Bus dA ba bu))) H → va_D A (w_MO dA a (some (ba 0)) q1 g2 g3 g4 g5 (wa 0) g7 g8 g9 g10 g11 g12 g13 g14 g15 g16 g17 g18 mo ++ (w_W dA wa z1 ++ (w_Bus dA ba bu))) → va_S A s.heap H locs → lv_has ls 2 [(0, .ref (a 0)), (1, .int v1)] → W p l e ({ frames := 0, cells := 0, slots := 0, locals := 0 } : Room) s m ([.ref (a 0)] : List Value).toArray below meth c H locs 0 0 Q (F0 m 2 ls []) := by
    intro n
    induction n with
    | zero =>
      intro v1 z1 H locs ls hf
      exact absurd hf (by simp [f_X12_beginsAnew_b2])
    | succ n ih =>
      intro v1 z1 H locs ls hf hP hD hS hl
      rw [f_X12_beginsAnew_b2] at hf
      refine lv_iload_n hx hb dX12_beginsAnew_2 rfl (lv_at hl 1 rfl) ?_
      refine lv_bipush (v := (56 : Int32)) hx hb dX12_beginsAnew_3 (by decide) ?_
      refine lv_icmp_ge (tgt := 21) hx hb dX12_beginsAnew_5 (by decide) (fun c_1 => ?_) (fun c_1 => ?_)
      · rw [if_pos c_1] at hf
        refine lv_iconst (v := (0 : Int32)) hx hb dX12_beginsAnew_21 (by decide) ?_
        refine lv_istore_n (lv' := [(1, .int (0 : Int32)), (0, .ref (a 0))]) hx hb dX12_beginsAnew_22 rfl hl (by decide) rfl (fun ls hl => ?_)
        exact B_23 4096 _ _ _ _ _ hf hP hD hS (lv_sub hl [1, 0] rfl)
      · rw [if_neg c_1] at hf
        refine lv_aload_n hx hb dX12_beginsAnew_8 rfl (lv_at hl 0 rfl) ?_
        refine va_get (D := D) (ci := 12) (v := .ref (wa 0)) (C := RX12) (T := TX12) (N := 35) hx hb hts kb_inX12 hown hK.1 hP 0 rfl rfl 19 (by decide) (hK.2.w ww_5_219 rfl _) (fun _ h9 => h9) rfl dX12_beginsAnew_9 ?_
        refine lv_iload_n hx hb dX12_beginsAnew_12 rfl (lv_at hl 1 rfl) ?_
        refine lv_iconst (v := (0 : Int32)) hx hb dX12_beginsAnew_13 (by decide) ?_
        obtain ⟨h_5, hf⟩ := kb_if hf
        refine va_iast (D := D) hx hb hK.1 hP hD hS 1 0 rfl rfl h_5 dX12_beginsAnew_14 (fun H locs hP hD hS => ?_)
        have hP : va_P D vwCl (w_MO dA a (some (ba 0)) q1 g2 g3 g4 g5 (wa 0) g7 g8 g9 g10 g11 g12 g13 g14 g15 g16 g17 g18 mo ++ (w_W dA wa (yW_set_r z1 (upd (yW_r z1) (v1).toNatClampNeg (0 : Int32))) ++ (w_Bus dA ba bu))) H := hP
        have hD : va_D A (w_MO dA a (some (ba 0)) q1 g2 g3 g4 g5 (wa 0) g7 g8 g9 g10 g11 g12 g13 g14 g15 g16 g17 g18 mo ++ (w_W dA wa (yW_set_r z1 (upd (yW_r z1) (v1).toNatClampNeg (0 : Int32))) ++ (w_Bus dA ba bu))) := hD
        exact B_15 (f_X12_beginsAnew_b2 mo bu n) ih _ _ _ _ _ hf hP hD hS (lv_sub hl [0, 1] rfl)
  have E0 : ∀ (H : Heap) (locs : List Loc), va_P D vwCl (w_MO dA a (some (ba 0)) q1 g2 g3 g4 g5 (wa 0) g7 g8 g9 g10 g11 g12 g13 g14 g15 g16 g17 g18 mo ++ (w_W dA wa y_w ++ (w_Bus dA ba bu))) H → va_D A (w_MO dA a (some (ba 0)) q1 g2 g3 g4 g5 (wa 0) g7 g8 g9 g10 g11 g12 g13 g14 g15 g16 g17 g18 mo ++ (w_W dA wa y_w ++ (w_Bus dA ba bu))) → va_S A s.heap H locs → W p l e ({ frames := 0, cells := 0, slots := 0, locals := 0 } : Room) s m ([.ref (a 0)] : List Value).toArray below meth c H locs 0 0 Q (F0 m 0 ls []) := by
    intro H locs hP hD hS
    rw [f_X12_beginsAnew] at hf
    refine lv_iconst (v := (0 : Int32)) hx hb dX12_beginsAnew_0 (by decide) ?_
    refine lv_istore_n (lv' := [(1, .int (0 : Int32)), (0, .ref (a 0))]) hx hb dX12_beginsAnew_1 rfl hl (by decide) rfl (fun ls hl => ?_)
    exact B_2 4096 _ _ _ _ _ hf hP hD hS (lv_sub hl [1, 0] rfl)
  exact E0 _ _ hP hD hS

noncomputable def f_X12_isSitting (mo : MOT) (y_w : WT) (x0 : Int32) : Option (Int32) := if kb_in? ((0 : Int32) + x0) 56 then (if (20 : Int32) ≤ ((yW_r y_w) (((0 : Int32) + x0)).toNatClampNeg) then some ((0 : Int32)) else some ((1 : Int32))) else none
set_option maxHeartbeats 4000000 in
set_option maxRecDepth 100000 in
theorem c_X12_isSitting (l : Launch) (D : va_G) (dA : Nat → ClassId) (sz : Nat) (a : Nat → Nat) (wa : Nat → Nat) (q0 : Option Nat) (q1 : Option Nat) (g2 : Nat) (g3 : Nat) (g4 : Nat) (g5 : Nat) (g7 : Nat) (g8 : Nat) (g9 : Nat) (g10 : Nat) (g11 : Nat) (g12 : Nat) (g13 : Nat) (g14 : Nat) (g15 : Nat) (g16 : Nat) (g17 : Nat) (g18 : Nat) (mo : MOT) (y_w : WT) (x0 : Int32) (rv : Int32) (hf : f_X12_isSitting mo y_w x0 = some (rv)) : kb_Mi l yX12_isSitting cX12_isSitting 2 (some .boolean) ({ frames := 0, cells := 0, slots := 0, locals := 0 } : Room) D dA [.ref (a 0), .int x0] sz (w_MO dA a q0 q1 g2 g3 g4 g5 (wa 0) g7 g8 g9 g10 g11 g12 g13 g14 g15 g16 g17 g18 mo ++ (w_W dA wa y_w)) 0 0 rv (w_MO dA a q0 q1 g2 g3 g4 g5 (wa 0) g7 g8 g9 g10 g11 g12 g13 g14 g15 g16 g17 g18 mo ++ (w_W dA wa y_w)) := by
  refine Met.ofW (cc := cX12_isSitting) (maxL := 2) (ret := (some .boolean)) (by decide) rfl ?_
  intro p e s m args below meth c s₁ B hml hv
  obtain ⟨rfl, hsz, hP, hK, hD0, hE⟩ := hv
  have hx := B.exec
  have hb := B.bytes
  have hr := B.returns
  have hown : s.vm.findClass RX12 = some m.cls := findClass_of_methodNamed B.named
  have hlocks := B.notSynchronized
  have hts : ∀ w ∈ kb_gw, w.before ([.ref (a 0), .int x0] : List Value).toArray s = true := fun w hw => hK.2.1 w hw _
  subst hsz
  have hD := hD0.self (sz := s.heap.size)
  generalize hAe : va_A (w_MO dA a q0 q1 g2 g3 g4 g5 (wa 0) g7 g8 g9 g10 g11 g12 g13 g14 g15 g16 g17 g18 mo ++ (w_W dA wa y_w)) s.heap.size = A at hD hE ⊢
  have hA : ∀ q : Nat, s.heap.size ≤ q → A q := fun q h => by rw [← hAe]; exact Or.inr h
  have hS : va_S A s.heap s.heap [] := va_S.rf
  have hl := lv_entry ([.ref (a 0), .int x0]) (n := 2) (Nat.le_of_ble_eq_true rfl)
  rw [lg_entry_eq]
  generalize (lg_sl ([.ref (a 0), .int x0]) ++ List.replicate (2 - (lg_sl ([.ref (a 0), .int x0])).length) Slot.unset).toArray = ls at hl ⊢
  have hl : lv_has ls 2 [(0, .ref (a 0)), (1, .int x0)] := hl
  generalize hQ : MQ below (va_Qi (fun r (_ : Unit) => r = rv) (kb_B D A (w_MO dA a q0 q1 g2 g3 g4 g5 (wa 0) g7 g8 g9 g10 g11 g12 g13 g14 g15 g16 g17 g18 mo ++ (w_W dA wa y_w))) A) ([.ref (a 0), .int x0] : List Value).toArray s 0 0 A = Q
  show W p l e ({ frames := 0, cells := 0, slots := 0, locals := 0 } : Room) s m ([.ref (a 0), .int x0] : List Value).toArray below meth c s.heap [] 0 0 Q (F0 m 0 ls [])
  have RET : ∀ (r2 : Int32) (H : Heap) (locs : List Loc) (ls : Array Slot) (pc : Nat), some (r2) = some (rv) → va_P D vwCl (w_MO dA a q0 q1 g2 g3 g4 g5 (wa 0) g7 g8 g9 g10 g11 g12 g13 g14 g15 g16 g17 g18 mo ++ (w_W dA wa y_w)) H → va_D A (w_MO dA a q0 q1 g2 g3 g4 g5 (wa 0) g7 g8 g9 g10 g11 g12 g13 g14 g15 g16 g17 g18 mo ++ (w_W dA wa y_w)) → va_S A s.heap H locs → kb_01 r2 → decode cX12_isSitting pc = .ok (.ireturn, 1) → W p l e ({ frames := 0, cells := 0, slots := 0, locals := 0 } : Room) s m ([.ref (a 0), .int x0] : List Value).toArray below meth c H locs 0 0 Q (F0 m pc ls [.int r2]) := by
    intro r2 H locs ls pc hq hP hD hS h01 hd
    cases hq
    rw [← hQ]
    exact W.zret (ty := .boolean) hx hb hr (kb_nz h01) (fun t ht hW => ⟨⟨_, (), rfl, rfl, by rw [ht]; exact hP, hD⟩, hS.F ht⟩) hS.2.2 hd
  have E0 : ∀ (H : Heap) (locs : List Loc), va_P D vwCl (w_MO dA a q0 q1 g2 g3 g4 g5 (wa 0) g7 g8 g9 g10 g11 g12 g13 g14 g15 g16 g17 g18 mo ++ (w_W dA wa y_w)) H → va_D A (w_MO dA a q0 q1 g2 g3 g4 g5 (wa 0) g7 g8 g9 g10 g11 g12 g13 g14 g15 g16 g17 g18 mo ++ (w_W dA wa y_w)) → va_S A s.heap H locs → W p l e ({ frames := 0, cells := 0, slots := 0, locals := 0 } : Room) s m ([.ref (a 0), .int x0] : List Value).toArray below meth c H locs 0 0 Q (F0 m 0 ls []) := by
    intro H locs hP hD hS
    rw [f_X12_isSitting] at hf
    refine lv_aload_n hx hb dX12_isSitting_0 rfl (lv_at hl 0 rfl) ?_
    refine va_get (D := D) (ci := 12) (v := .ref (wa 0)) (C := RX12) (T := TX12) (N := 35) hx hb hts kb_inX12 hown hK.1 hP 0 rfl rfl 19 (by decide) (hK.2.w ww_5_219 rfl _) (fun _ h9 => h9) rfl dX12_isSitting_1 ?_
    refine lv_iconst (v := (0 : Int32)) hx hb dX12_isSitting_4 (by decide) ?_
    refine lv_iload_n hx hb dX12_isSitting_5 rfl (lv_at hl 1 rfl) ?_
    refine lv_iadd hx hb dX12_isSitting_6 ?_
    obtain ⟨h_1, hf⟩ := kb_if hf
    refine va_iald (D := D) hx hb hK.1 hP 1 0 rfl rfl h_1 dX12_isSitting_7 ?_
    refine lv_bipush (v := (20 : Int32)) hx hb dX12_isSitting_8 (by decide) ?_
    refine lv_icmp_ge (tgt := 17) hx hb dX12_isSitting_10 (by decide) (fun c_2 => ?_) (fun c_2 => ?_)
    · rw [if_pos c_2] at hf
      refine lv_iconst (v := (0 : Int32)) hx hb dX12_isSitting_17 (by decide) ?_
      exact RET _ H _ ls 18 hf hP hD hS (by decide) dX12_isSitting_18
    · rw [if_neg c_2] at hf
      refine lv_iconst (v := (1 : Int32)) hx hb dX12_isSitting_13 (by decide) ?_
      refine lv_goto (tgt := 18) hx hb dX12_isSitting_14 (by decide) ?_
      exact RET _ H _ ls 18 hf hP hD hS (by decide) dX12_isSitting_18
  exact E0 _ _ hP hD hS

noncomputable def f_X12_sitter_b2 (mo : MOT) (y_w : WT) (bu : BusT) : Nat → Int32 → Int32 → Option (Int32)
  | 0, _, _ => none
  | n + 1, v1, v2 => (if (bu_riders bu) ≤ v2 then some ((-2 : Int32)) else if kb_in? ((0 : Int32) + v2) 56 then (if ((yW_r y_w) (((0 : Int32) + v2)).toNatClampNeg) = v1 then some (v2) else f_X12_sitter_b2 mo y_w bu n v1 (v2 + (1 : Int32))) else none)
noncomputable def f_X12_sitter (mo : MOT) (y_w : WT) (bu : BusT) (x0 : Int32) : Option (Int32) := f_X12_sitter_b2 mo y_w bu 4096 x0 (0 : Int32)
set_option maxHeartbeats 4000000 in
set_option maxRecDepth 100000 in
theorem c_X12_sitter (l : Launch) (D : va_G) (dA : Nat → ClassId) (sz : Nat) (a : Nat → Nat) (wa : Nat → Nat) (ba : Nat → Nat) (q1 : Option Nat) (g2 : Nat) (g3 : Nat) (g4 : Nat) (g5 : Nat) (g7 : Nat) (g8 : Nat) (g9 : Nat) (g10 : Nat) (g11 : Nat) (g12 : Nat) (g13 : Nat) (g14 : Nat) (g15 : Nat) (g16 : Nat) (g17 : Nat) (g18 : Nat) (mo : MOT) (y_w : WT) (bu : BusT) (x0 : Int32) (rv : Int32) (hf : f_X12_sitter mo y_w bu x0 = some (rv)) : kb_Mi l yX12_sitter cX12_sitter 3 (some .int) ({ frames := 0, cells := 0, slots := 0, locals := 0 } : Room) D dA [.ref (a 0), .int x0] sz (w_MO dA a (some (ba 0)) q1 g2 g3 g4 g5 (wa 0) g7 g8 g9 g10 g11 g12 g13 g14 g15 g16 g17 g18 mo ++ (w_W dA wa y_w ++ (w_Bus dA ba bu))) 0 0 rv (w_MO dA a (some (ba 0)) q1 g2 g3 g4 g5 (wa 0) g7 g8 g9 g10 g11 g12 g13 g14 g15 g16 g17 g18 mo ++ (w_W dA wa y_w ++ (w_Bus dA ba bu))) := by
  refine Met.ofW (cc := cX12_sitter) (maxL := 3) (ret := (some .int)) (by decide) rfl ?_
  intro p e s m args below meth c s₁ B hml hv
  obtain ⟨rfl, hsz, hP, hK, hD0, hE⟩ := hv
  have hx := B.exec
  have hb := B.bytes
  have hr := B.returns
  have hown : s.vm.findClass RX12 = some m.cls := findClass_of_methodNamed B.named
  have hlocks := B.notSynchronized
  have hts : ∀ w ∈ kb_gw, w.before ([.ref (a 0), .int x0] : List Value).toArray s = true := fun w hw => hK.2.1 w hw _
  subst hsz
  have hD := hD0.self (sz := s.heap.size)
  generalize hAe : va_A (w_MO dA a (some (ba 0)) q1 g2 g3 g4 g5 (wa 0) g7 g8 g9 g10 g11 g12 g13 g14 g15 g16 g17 g18 mo ++ (w_W dA wa y_w ++ (w_Bus dA ba bu))) s.heap.size = A at hD hE ⊢
  have hA : ∀ q : Nat, s.heap.size ≤ q → A q := fun q h => by rw [← hAe]; exact Or.inr h
  have hS : va_S A s.heap s.heap [] := va_S.rf
  have hl := lv_entry ([.ref (a 0), .int x0]) (n := 3) (Nat.le_of_ble_eq_true rfl)
  rw [lg_entry_eq]
  generalize (lg_sl ([.ref (a 0), .int x0]) ++ List.replicate (3 - (lg_sl ([.ref (a 0), .int x0])).length) Slot.unset).toArray = ls at hl ⊢
  have hl : lv_has ls 3 [(0, .ref (a 0)), (1, .int x0)] := hl
  generalize hQ : MQ below (va_Qi (fun r (_ : Unit) => r = rv) (kb_B D A (w_MO dA a (some (ba 0)) q1 g2 g3 g4 g5 (wa 0) g7 g8 g9 g10 g11 g12 g13 g14 g15 g16 g17 g18 mo ++ (w_W dA wa y_w ++ (w_Bus dA ba bu)))) A) ([.ref (a 0), .int x0] : List Value).toArray s 0 0 A = Q
  show W p l e ({ frames := 0, cells := 0, slots := 0, locals := 0 } : Room) s m ([.ref (a 0), .int x0] : List Value).toArray below meth c s.heap [] 0 0 Q (F0 m 0 ls [])
  have RET : ∀ (r2 : Int32) (H : Heap) (locs : List Loc) (ls : Array Slot) (pc : Nat), some (r2) = some (rv) → va_P D vwCl (w_MO dA a (some (ba 0)) q1 g2 g3 g4 g5 (wa 0) g7 g8 g9 g10 g11 g12 g13 g14 g15 g16 g17 g18 mo ++ (w_W dA wa y_w ++ (w_Bus dA ba bu))) H → va_D A (w_MO dA a (some (ba 0)) q1 g2 g3 g4 g5 (wa 0) g7 g8 g9 g10 g11 g12 g13 g14 g15 g16 g17 g18 mo ++ (w_W dA wa y_w ++ (w_Bus dA ba bu))) → va_S A s.heap H locs → decode cX12_sitter pc = .ok (.ireturn, 1) → W p l e ({ frames := 0, cells := 0, slots := 0, locals := 0 } : Room) s m ([.ref (a 0), .int x0] : List Value).toArray below meth c H locs 0 0 Q (F0 m pc ls [.int r2]) := by
    intro r2 H locs ls pc hq hP hD hS hd
    cases hq
    rw [← hQ]
    exact W.iret hx hb hr (fun t ht hW => ⟨⟨_, (), rfl, rfl, by rw [ht]; exact hP, hD⟩, hS.F ht⟩) hS.2.2 hd
  have B_2 : ∀ (n : Nat) (v1 : Int32) (v2 : Int32) (H : Heap) (locs : List Loc) (ls : Array Slot), f_X12_sitter_b2 mo y_w bu n v1 v2 = some (rv) → va_P D vwCl (w_MO dA a (some (ba 0)) q1 g2 g3 g4 g5 (wa 0) g7 g8 g9 g10 g11 g12 g13 g14 g15 g16 g17 g18 mo ++ (w_W dA wa y_w ++ (w_Bus dA ba bu))) H → va_D A (w_MO dA a (some (ba 0)) q1 g2 g3 g4 g5 (wa 0) g7 g8 g9 g10 g11 g12 g13 g14 g15 g16 g17 g18 mo ++ (w_W dA wa y_w ++ (w_Bus dA ba bu))) → va_S A s.heap H locs → lv_has ls 3 [(0, .ref (a 0)), (1, .int v1), (2, .int v2)] → W p l e ({ frames := 0, cells := 0, slots := 0, locals := 0 } : Room) s m ([.ref (a 0), .int x0] : List Value).toArray below meth c H locs 0 0 Q (F0 m 2 ls []) := by
    intro n
    induction n with
    | zero =>
      intro v1 v2 H locs ls hf
      exact absurd hf (by simp [f_X12_sitter_b2])
    | succ n ih =>
      intro v1 v2 H locs ls hf hP hD hS hl
      rw [f_X12_sitter_b2] at hf
      refine lv_iload_n hx hb dX12_sitter_2 rfl (lv_at hl 2 rfl) ?_
      refine lv_aload_n hx hb dX12_sitter_3 rfl (lv_at hl 0 rfl) ?_
      refine va_get (D := D) (ci := 12) (v := .ref (ba 0)) (C := RX12) (T := TX12) (N := 35) hx hb hts kb_inX12 hown hK.1 hP 0 rfl rfl 3 (by decide) (hK.2.w ww_5_203 rfl _) (fun _ h9 => h9) rfl dX12_sitter_4 ?_
      refine va_getN (D := D) (ci := 11) (v := .int (bu_riders bu)) (C := RX11) (T := TX11) (N := 26) hx hb hts kb_inX11 hown hK.1 hP 2 rfl rfl 7 (by decide) (hK.2.nb ww_6_96 rfl rfl _) (fun _ h9 => h9) rfl dX12_sitter_7 ?_
      refine lv_icmp_ge (tgt := 33) hx hb dX12_sitter_10 (by decide) (fun c_1 => ?_) (fun c_1 => ?_)
      · rw [if_pos c_1] at hf
        refine lv_bipush (v := (-2 : Int32)) hx hb dX12_sitter_33 (by decide) ?_
        exact RET _ H _ ls 35 hf hP hD hS dX12_sitter_35
      · rw [if_neg c_1] at hf
        refine lv_aload_n hx hb dX12_sitter_13 rfl (lv_at hl 0 rfl) ?_
        refine va_get (D := D) (ci := 12) (v := .ref (wa 0)) (C := RX12) (T := TX12) (N := 35) hx hb hts kb_inX12 hown hK.1 hP 0 rfl rfl 19 (by decide) (hK.2.w ww_5_219 rfl _) (fun _ h9 => h9) rfl dX12_sitter_14 ?_
        refine lv_iconst (v := (0 : Int32)) hx hb dX12_sitter_17 (by decide) ?_
        refine lv_iload_n hx hb dX12_sitter_18 rfl (lv_at hl 2 rfl) ?_
        refine lv_iadd hx hb dX12_sitter_19 ?_
        obtain ⟨h_2, hf⟩ := kb_if hf
        refine va_iald (D := D) hx hb hK.1 hP 1 0 rfl rfl h_2 dX12_sitter_20 ?_
        refine lv_iload_n hx hb dX12_sitter_21 rfl (lv_at hl 1 rfl) ?_
        refine lv_icmp_ne (tgt := 27) hx hb dX12_sitter_22 (by decide) (fun c_3 => ?_) (fun c_3 => ?_)
        · rw [if_neg c_3] at hf
          refine lv_iinc (v := (v2 + (1 : Int32))) (lv' := [(2, .int (v2 + (1 : Int32))), (0, .ref (a 0)), (1, .int v1)]) hx hb dX12_sitter_27 hl (k := 2) rfl (by rfl) (by decide) rfl (fun ls hl => ?_)
          refine lv_goto (tgt := 2) hx hb dX12_sitter_30 (by decide) ?_
          exact ih _ _ _ _ _ hf hP hD hS (lv_sub hl [1, 2, 0] rfl)
        · rw [if_pos c_3] at hf
          refine lv_iload_n hx hb dX12_sitter_25 rfl (lv_at hl 2 rfl) ?_
          exact RET _ H _ ls 26 hf hP hD hS dX12_sitter_26
  have E0 : ∀ (H : Heap) (locs : List Loc), va_P D vwCl (w_MO dA a (some (ba 0)) q1 g2 g3 g4 g5 (wa 0) g7 g8 g9 g10 g11 g12 g13 g14 g15 g16 g17 g18 mo ++ (w_W dA wa y_w ++ (w_Bus dA ba bu))) H → va_D A (w_MO dA a (some (ba 0)) q1 g2 g3 g4 g5 (wa 0) g7 g8 g9 g10 g11 g12 g13 g14 g15 g16 g17 g18 mo ++ (w_W dA wa y_w ++ (w_Bus dA ba bu))) → va_S A s.heap H locs → W p l e ({ frames := 0, cells := 0, slots := 0, locals := 0 } : Room) s m ([.ref (a 0), .int x0] : List Value).toArray below meth c H locs 0 0 Q (F0 m 0 ls []) := by
    intro H locs hP hD hS
    rw [f_X12_sitter] at hf
    refine lv_iconst (v := (0 : Int32)) hx hb dX12_sitter_0 (by decide) ?_
    refine lv_istore_n (lv' := [(2, .int (0 : Int32)), (0, .ref (a 0)), (1, .int x0)]) hx hb dX12_sitter_1 rfl hl (by decide) rfl (fun ls hl => ?_)
    exact B_2 4096 _ _ _ _ _ hf hP hD hS (lv_sub hl [1, 2, 0] rfl)
  exact E0 _ _ hP hD hS

noncomputable def f_X12_bagIn_b2 (mo : MOT) (y_w : WT) (bu : BusT) : Nat → Int32 → Int32 → Option (Int32)
  | 0, _, _ => none
  | n + 1, v1, v2 => (if (bu_riders bu) ≤ v2 then some ((-2 : Int32)) else if kb_in? ((8 : Int32) + v2) 56 then (if ((yW_r y_w) (((8 : Int32) + v2)).toNatClampNeg) = v1 then some (v2) else f_X12_bagIn_b2 mo y_w bu n v1 (v2 + (1 : Int32))) else none)
noncomputable def f_X12_bagIn (mo : MOT) (y_w : WT) (bu : BusT) (x0 : Int32) : Option (Int32) := f_X12_bagIn_b2 mo y_w bu 4096 x0 (0 : Int32)
set_option maxHeartbeats 4000000 in
set_option maxRecDepth 100000 in
theorem c_X12_bagIn (l : Launch) (D : va_G) (dA : Nat → ClassId) (sz : Nat) (a : Nat → Nat) (wa : Nat → Nat) (ba : Nat → Nat) (q1 : Option Nat) (g2 : Nat) (g3 : Nat) (g4 : Nat) (g5 : Nat) (g7 : Nat) (g8 : Nat) (g9 : Nat) (g10 : Nat) (g11 : Nat) (g12 : Nat) (g13 : Nat) (g14 : Nat) (g15 : Nat) (g16 : Nat) (g17 : Nat) (g18 : Nat) (mo : MOT) (y_w : WT) (bu : BusT) (x0 : Int32) (rv : Int32) (hf : f_X12_bagIn mo y_w bu x0 = some (rv)) : kb_Mi l yX12_bagIn cX12_bagIn 3 (some .int) ({ frames := 0, cells := 0, slots := 0, locals := 0 } : Room) D dA [.ref (a 0), .int x0] sz (w_MO dA a (some (ba 0)) q1 g2 g3 g4 g5 (wa 0) g7 g8 g9 g10 g11 g12 g13 g14 g15 g16 g17 g18 mo ++ (w_W dA wa y_w ++ (w_Bus dA ba bu))) 0 0 rv (w_MO dA a (some (ba 0)) q1 g2 g3 g4 g5 (wa 0) g7 g8 g9 g10 g11 g12 g13 g14 g15 g16 g17 g18 mo ++ (w_W dA wa y_w ++ (w_Bus dA ba bu))) := by
  refine Met.ofW (cc := cX12_bagIn) (maxL := 3) (ret := (some .int)) (by decide) rfl ?_
  intro p e s m args below meth c s₁ B hml hv
  obtain ⟨rfl, hsz, hP, hK, hD0, hE⟩ := hv
  have hx := B.exec
  have hb := B.bytes
  have hr := B.returns
  have hown : s.vm.findClass RX12 = some m.cls := findClass_of_methodNamed B.named
  have hlocks := B.notSynchronized
  have hts : ∀ w ∈ kb_gw, w.before ([.ref (a 0), .int x0] : List Value).toArray s = true := fun w hw => hK.2.1 w hw _
  subst hsz
  have hD := hD0.self (sz := s.heap.size)
  generalize hAe : va_A (w_MO dA a (some (ba 0)) q1 g2 g3 g4 g5 (wa 0) g7 g8 g9 g10 g11 g12 g13 g14 g15 g16 g17 g18 mo ++ (w_W dA wa y_w ++ (w_Bus dA ba bu))) s.heap.size = A at hD hE ⊢
  have hA : ∀ q : Nat, s.heap.size ≤ q → A q := fun q h => by rw [← hAe]; exact Or.inr h
  have hS : va_S A s.heap s.heap [] := va_S.rf
  have hl := lv_entry ([.ref (a 0), .int x0]) (n := 3) (Nat.le_of_ble_eq_true rfl)
  rw [lg_entry_eq]
  generalize (lg_sl ([.ref (a 0), .int x0]) ++ List.replicate (3 - (lg_sl ([.ref (a 0), .int x0])).length) Slot.unset).toArray = ls at hl ⊢
  have hl : lv_has ls 3 [(0, .ref (a 0)), (1, .int x0)] := hl
  generalize hQ : MQ below (va_Qi (fun r (_ : Unit) => r = rv) (kb_B D A (w_MO dA a (some (ba 0)) q1 g2 g3 g4 g5 (wa 0) g7 g8 g9 g10 g11 g12 g13 g14 g15 g16 g17 g18 mo ++ (w_W dA wa y_w ++ (w_Bus dA ba bu)))) A) ([.ref (a 0), .int x0] : List Value).toArray s 0 0 A = Q
  show W p l e ({ frames := 0, cells := 0, slots := 0, locals := 0 } : Room) s m ([.ref (a 0), .int x0] : List Value).toArray below meth c s.heap [] 0 0 Q (F0 m 0 ls [])
  have RET : ∀ (r2 : Int32) (H : Heap) (locs : List Loc) (ls : Array Slot) (pc : Nat), some (r2) = some (rv) → va_P D vwCl (w_MO dA a (some (ba 0)) q1 g2 g3 g4 g5 (wa 0) g7 g8 g9 g10 g11 g12 g13 g14 g15 g16 g17 g18 mo ++ (w_W dA wa y_w ++ (w_Bus dA ba bu))) H → va_D A (w_MO dA a (some (ba 0)) q1 g2 g3 g4 g5 (wa 0) g7 g8 g9 g10 g11 g12 g13 g14 g15 g16 g17 g18 mo ++ (w_W dA wa y_w ++ (w_Bus dA ba bu))) → va_S A s.heap H locs → decode cX12_bagIn pc = .ok (.ireturn, 1) → W p l e ({ frames := 0, cells := 0, slots := 0, locals := 0 } : Room) s m ([.ref (a 0), .int x0] : List Value).toArray below meth c H locs 0 0 Q (F0 m pc ls [.int r2]) := by
    intro r2 H locs ls pc hq hP hD hS hd
    cases hq
    rw [← hQ]
    exact W.iret hx hb hr (fun t ht hW => ⟨⟨_, (), rfl, rfl, by rw [ht]; exact hP, hD⟩, hS.F ht⟩) hS.2.2 hd
  have B_2 : ∀ (n : Nat) (v1 : Int32) (v2 : Int32) (H : Heap) (locs : List Loc) (ls : Array Slot), f_X12_bagIn_b2 mo y_w bu n v1 v2 = some (rv) → va_P D vwCl (w_MO dA a (some (ba 0)) q1 g2 g3 g4 g5 (wa 0) g7 g8 g9 g10 g11 g12 g13 g14 g15 g16 g17 g18 mo ++ (w_W dA wa y_w ++ (w_Bus dA ba bu))) H → va_D A (w_MO dA a (some (ba 0)) q1 g2 g3 g4 g5 (wa 0) g7 g8 g9 g10 g11 g12 g13 g14 g15 g16 g17 g18 mo ++ (w_W dA wa y_w ++ (w_Bus dA ba bu))) → va_S A s.heap H locs → lv_has ls 3 [(0, .ref (a 0)), (1, .int v1), (2, .int v2)] → W p l e ({ frames := 0, cells := 0, slots := 0, locals := 0 } : Room) s m ([.ref (a 0), .int x0] : List Value).toArray below meth c H locs 0 0 Q (F0 m 2 ls []) := by
    intro n
    induction n with
    | zero =>
      intro v1 v2 H locs ls hf
      exact absurd hf (by simp [f_X12_bagIn_b2])
    | succ n ih =>
      intro v1 v2 H locs ls hf hP hD hS hl
      rw [f_X12_bagIn_b2] at hf
      refine lv_iload_n hx hb dX12_bagIn_2 rfl (lv_at hl 2 rfl) ?_
      refine lv_aload_n hx hb dX12_bagIn_3 rfl (lv_at hl 0 rfl) ?_
      refine va_get (D := D) (ci := 12) (v := .ref (ba 0)) (C := RX12) (T := TX12) (N := 35) hx hb hts kb_inX12 hown hK.1 hP 0 rfl rfl 3 (by decide) (hK.2.w ww_5_203 rfl _) (fun _ h9 => h9) rfl dX12_bagIn_4 ?_
      refine va_getN (D := D) (ci := 11) (v := .int (bu_riders bu)) (C := RX11) (T := TX11) (N := 26) hx hb hts kb_inX11 hown hK.1 hP 2 rfl rfl 7 (by decide) (hK.2.nb ww_6_96 rfl rfl _) (fun _ h9 => h9) rfl dX12_bagIn_7 ?_
      refine lv_icmp_ge (tgt := 34) hx hb dX12_bagIn_10 (by decide) (fun c_1 => ?_) (fun c_1 => ?_)
      · rw [if_pos c_1] at hf
        refine lv_bipush (v := (-2 : Int32)) hx hb dX12_bagIn_34 (by decide) ?_
        exact RET _ H _ ls 36 hf hP hD hS dX12_bagIn_36
      · rw [if_neg c_1] at hf
        refine lv_aload_n hx hb dX12_bagIn_13 rfl (lv_at hl 0 rfl) ?_
        refine va_get (D := D) (ci := 12) (v := .ref (wa 0)) (C := RX12) (T := TX12) (N := 35) hx hb hts kb_inX12 hown hK.1 hP 0 rfl rfl 19 (by decide) (hK.2.w ww_5_219 rfl _) (fun _ h9 => h9) rfl dX12_bagIn_14 ?_
        refine lv_bipush (v := (8 : Int32)) hx hb dX12_bagIn_17 (by decide) ?_
        refine lv_iload_n hx hb dX12_bagIn_19 rfl (lv_at hl 2 rfl) ?_
        refine lv_iadd hx hb dX12_bagIn_20 ?_
        obtain ⟨h_2, hf⟩ := kb_if hf
        refine va_iald (D := D) hx hb hK.1 hP 1 0 rfl rfl h_2 dX12_bagIn_21 ?_
        refine lv_iload_n hx hb dX12_bagIn_22 rfl (lv_at hl 1 rfl) ?_
        refine lv_icmp_ne (tgt := 28) hx hb dX12_bagIn_23 (by decide) (fun c_3 => ?_) (fun c_3 => ?_)
        · rw [if_neg c_3] at hf
          refine lv_iinc (v := (v2 + (1 : Int32))) (lv' := [(2, .int (v2 + (1 : Int32))), (0, .ref (a 0)), (1, .int v1)]) hx hb dX12_bagIn_28 hl (k := 2) rfl (by rfl) (by decide) rfl (fun ls hl => ?_)
          refine lv_goto (tgt := 2) hx hb dX12_bagIn_31 (by decide) ?_
          exact ih _ _ _ _ _ hf hP hD hS (lv_sub hl [1, 2, 0] rfl)
        · rw [if_pos c_3] at hf
          refine lv_iload_n hx hb dX12_bagIn_26 rfl (lv_at hl 2 rfl) ?_
          exact RET _ H _ ls 27 hf hP hD hS dX12_bagIn_27
  have E0 : ∀ (H : Heap) (locs : List Loc), va_P D vwCl (w_MO dA a (some (ba 0)) q1 g2 g3 g4 g5 (wa 0) g7 g8 g9 g10 g11 g12 g13 g14 g15 g16 g17 g18 mo ++ (w_W dA wa y_w ++ (w_Bus dA ba bu))) H → va_D A (w_MO dA a (some (ba 0)) q1 g2 g3 g4 g5 (wa 0) g7 g8 g9 g10 g11 g12 g13 g14 g15 g16 g17 g18 mo ++ (w_W dA wa y_w ++ (w_Bus dA ba bu))) → va_S A s.heap H locs → W p l e ({ frames := 0, cells := 0, slots := 0, locals := 0 } : Room) s m ([.ref (a 0), .int x0] : List Value).toArray below meth c H locs 0 0 Q (F0 m 0 ls []) := by
    intro H locs hP hD hS
    rw [f_X12_bagIn] at hf
    refine lv_iconst (v := (0 : Int32)) hx hb dX12_bagIn_0 (by decide) ?_
    refine lv_istore_n (lv' := [(2, .int (0 : Int32)), (0, .ref (a 0)), (1, .int x0)]) hx hb dX12_bagIn_1 rfl hl (by decide) rfl (fun ls hl => ?_)
    exact B_2 4096 _ _ _ _ _ hf hP hD hS (lv_sub hl [1, 2, 0] rfl)
  exact E0 _ _ hP hD hS

noncomputable def f_X12_freeSeats_b52 (mo : MOT) (y_w : WT) (bu : BusT) (k4 : Int32 → Int32 → Option (Int32)) (v2 : Int32) (s0 : Int32) : Option (Int32) := k4 (s0 ||| (0 : Int32)) (v2 + (1 : Int32))
noncomputable def f_X12_freeSeats_b4 (mo : MOT) (y_w : WT) (bu : BusT) : Nat → Int32 → Int32 → Option (Int32)
  | 0, _, _ => none
  | n + 1, v1, v2 => (if ((4 : Int32) * (bu_rows bu)) ≤ v2 then some (v1) else (f_X12_isSeat mo bu v2).bind fun r2 => (if r2 = 0 then f_X12_freeSeats_b52 mo y_w bu (f_X12_freeSeats_b4 mo y_w bu n) v2 v1 else (f_X12_sitter mo y_w bu v2).bind fun r4 => (if r4 = (-2 : Int32) then (f_X12_bagIn mo y_w bu v2).bind fun r6 => (if r6 = (-2 : Int32) then f_X12_freeSeats_b4 mo y_w bu n (v1 ||| ((1 : Int32) <<< (v2 &&& 31))) (v2 + (1 : Int32)) else f_X12_freeSeats_b52 mo y_w bu (f_X12_freeSeats_b4 mo y_w bu n) v2 v1) else f_X12_freeSeats_b52 mo y_w bu (f_X12_freeSeats_b4 mo y_w bu n) v2 v1)))
noncomputable def f_X12_freeSeats (mo : MOT) (y_w : WT) (bu : BusT) : Option (Int32) := f_X12_freeSeats_b4 mo y_w bu 4096 (0 : Int32) (0 : Int32)
set_option maxHeartbeats 4000000 in
set_option maxRecDepth 100000 in
theorem c_X12_freeSeats (l : Launch) (D : va_G) (dA : Nat → ClassId) (sz : Nat) (a : Nat → Nat) (wa : Nat → Nat) (ba : Nat → Nat) (q1 : Option Nat) (g2 : Nat) (g3 : Nat) (g4 : Nat) (g5 : Nat) (g7 : Nat) (g8 : Nat) (g9 : Nat) (g10 : Nat) (g11 : Nat) (g12 : Nat) (g13 : Nat) (g14 : Nat) (g15 : Nat) (g16 : Nat) (g17 : Nat) (g18 : Nat) (mo : MOT) (y_w : WT) (bu : BusT) (rv : Int32) (hf : f_X12_freeSeats mo y_w bu = some (rv)) : kb_Mi l yX12_freeSeats cX12_freeSeats 3 (some .int) ({ frames := 2, cells := 0, slots := 0, locals := 42 } : Room) D dA [.ref (a 0)] sz (w_MO dA a (some (ba 0)) q1 g2 g3 g4 g5 (wa 0) g7 g8 g9 g10 g11 g12 g13 g14 g15 g16 g17 g18 mo ++ (w_W dA wa y_w ++ (w_Bus dA ba bu))) 0 0 rv (w_MO dA a (some (ba 0)) q1 g2 g3 g4 g5 (wa 0) g7 g8 g9 g10 g11 g12 g13 g14 g15 g16 g17 g18 mo ++ (w_W dA wa y_w ++ (w_Bus dA ba bu))) := by
  refine Met.ofW (cc := cX12_freeSeats) (maxL := 3) (ret := (some .int)) (by decide) rfl ?_
  intro p e s m args below meth c s₁ B hml hv
  obtain ⟨rfl, hsz, hP, hK, hD0, hE⟩ := hv
  have hx := B.exec
  have hb := B.bytes
  have hr := B.returns
  have hown : s.vm.findClass RX12 = some m.cls := findClass_of_methodNamed B.named
  have hlocks := B.notSynchronized
  have hts : ∀ w ∈ kb_gw, w.before ([.ref (a 0)] : List Value).toArray s = true := fun w hw => hK.2.1 w hw _
  subst hsz
  have hD := hD0.self (sz := s.heap.size)
  generalize hAe : va_A (w_MO dA a (some (ba 0)) q1 g2 g3 g4 g5 (wa 0) g7 g8 g9 g10 g11 g12 g13 g14 g15 g16 g17 g18 mo ++ (w_W dA wa y_w ++ (w_Bus dA ba bu))) s.heap.size = A at hD hE ⊢
  have hA : ∀ q : Nat, s.heap.size ≤ q → A q := fun q h => by rw [← hAe]; exact Or.inr h
  have hS : va_S A s.heap s.heap [] := va_S.rf
  have hl := lv_entry ([.ref (a 0)]) (n := 3) (Nat.le_of_ble_eq_true rfl)
  rw [lg_entry_eq]
  generalize (lg_sl ([.ref (a 0)]) ++ List.replicate (3 - (lg_sl ([.ref (a 0)])).length) Slot.unset).toArray = ls at hl ⊢
  have hl : lv_has ls 3 [(0, .ref (a 0))] := hl
  generalize hQ : MQ below (va_Qi (fun r (_ : Unit) => r = rv) (kb_B D A (w_MO dA a (some (ba 0)) q1 g2 g3 g4 g5 (wa 0) g7 g8 g9 g10 g11 g12 g13 g14 g15 g16 g17 g18 mo ++ (w_W dA wa y_w ++ (w_Bus dA ba bu)))) A) ([.ref (a 0)] : List Value).toArray s 0 0 A = Q
  show W p l e ({ frames := 2, cells := 0, slots := 0, locals := 42 } : Room) s m ([.ref (a 0)] : List Value).toArray below meth c s.heap [] 0 0 Q (F0 m 0 ls [])
  have RET : ∀ (r2 : Int32) (H : Heap) (locs : List Loc) (ls : Array Slot) (pc : Nat), some (r2) = some (rv) → va_P D vwCl (w_MO dA a (some (ba 0)) q1 g2 g3 g4 g5 (wa 0) g7 g8 g9 g10 g11 g12 g13 g14 g15 g16 g17 g18 mo ++ (w_W dA wa y_w ++ (w_Bus dA ba bu))) H → va_D A (w_MO dA a (some (ba 0)) q1 g2 g3 g4 g5 (wa 0) g7 g8 g9 g10 g11 g12 g13 g14 g15 g16 g17 g18 mo ++ (w_W dA wa y_w ++ (w_Bus dA ba bu))) → va_S A s.heap H locs → decode cX12_freeSeats pc = .ok (.ireturn, 1) → W p l e ({ frames := 2, cells := 0, slots := 0, locals := 42 } : Room) s m ([.ref (a 0)] : List Value).toArray below meth c H locs 0 0 Q (F0 m pc ls [.int r2]) := by
    intro r2 H locs ls pc hq hP hD hS hd
    cases hq
    rw [← hQ]
    exact W.iret hx hb hr (fun t ht hW => ⟨⟨_, (), rfl, rfl, by rw [ht]; exact hP, hD⟩, hS.F ht⟩) hS.2.2 hd
  have B_52 : ∀ (k4 : Int32 → Int32 → Option (Int32)) (hk4 : ∀ (v1 : Int32) (v2 : Int32) (H : Heap) (locs : List Loc) (ls : Array Slot), k4 v1 v2 = some (rv) → va_P D vwCl (w_MO dA a (some (ba 0)) q1 g2 g3 g4 g5 (wa 0) g7 g8 g9 g10 g11 g12 g13 g14 g15 g16 g17 g18 mo ++ (w_W dA wa y_w ++ (w_Bus dA ba bu))) H → va_D A (w_MO dA a (some (ba 0)) q1 g2 g3 g4 g5 (wa 0) g7 g8 g9 g10 g11 g12 g13 g14 g15 g16 g17 g18 mo ++ (w_W dA wa y_w ++ (w_Bus dA ba bu))) → va_S A s.heap H locs → lv_has ls 3 [(0, .ref (a 0)), (1, .int v1), (2, .int v2)] → W p l e ({ frames := 2, cells := 0, slots := 0, locals := 42 } : Room) s m ([.ref (a 0)] : List Value).toArray below meth c H locs 0 0 Q (F0 m 4 ls [])) (v2 : Int32) (s0 : Int32) (H : Heap) (locs : List Loc) (ls : Array Slot), f_X12_freeSeats_b52 mo y_w bu k4 v2 s0 = some (rv) → va_P D vwCl (w_MO dA a (some (ba 0)) q1 g2 g3 g4 g5 (wa 0) g7 g8 g9 g10 g11 g12 g13 g14 g15 g16 g17 g18 mo ++ (w_W dA wa y_w ++ (w_Bus dA ba bu))) H → va_D A (w_MO dA a (some (ba 0)) q1 g2 g3 g4 g5 (wa 0) g7 g8 g9 g10 g11 g12 g13 g14 g15 g16 g17 g18 mo ++ (w_W dA wa y_w ++ (w_Bus dA ba bu))) → va_S A s.heap H locs → lv_has ls 3 [(0, .ref (a 0)), (2, .int v2)] → W p l e ({ frames := 2, cells := 0, slots := 0, locals := 42 } : Room) s m ([.ref (a 0)] : List Value).toArray below meth c H locs 0 0 Q (F0 m 52 ls [.int s0]) := by
    intro k4 hk4 v2 s0 H locs ls hf hP hD hS hl
    rw [f_X12_freeSeats_b52] at hf
    refine lv_iconst (v := (0 : Int32)) hx hb dX12_freeSeats_52 (by decide) ?_
    refine lv_ior hx hb dX12_freeSeats_53 ?_
    refine lv_istore_n (lv' := [(1, .int (s0 ||| (0 : Int32))), (0, .ref (a 0)), (2, .int v2)]) hx hb dX12_freeSeats_54 rfl hl (by decide) rfl (fun ls hl => ?_)
    refine lv_iinc (v := (v2 + (1 : Int32))) (lv' := [(2, .int (v2 + (1 : Int32))), (1, .int (s0 ||| (0 : Int32))), (0, .ref (a 0))]) hx hb dX12_freeSeats_55 hl (k := 2) rfl (by rfl) (by decide) rfl (fun ls hl => ?_)
    refine lv_goto (tgt := 4) hx hb dX12_freeSeats_58 (by decide) ?_
    exact hk4 _ _ _ _ _ hf hP hD hS (lv_sub hl [2, 1, 0] rfl)
  have B_4 : ∀ (n : Nat) (v1 : Int32) (v2 : Int32) (H : Heap) (locs : List Loc) (ls : Array Slot), f_X12_freeSeats_b4 mo y_w bu n v1 v2 = some (rv) → va_P D vwCl (w_MO dA a (some (ba 0)) q1 g2 g3 g4 g5 (wa 0) g7 g8 g9 g10 g11 g12 g13 g14 g15 g16 g17 g18 mo ++ (w_W dA wa y_w ++ (w_Bus dA ba bu))) H → va_D A (w_MO dA a (some (ba 0)) q1 g2 g3 g4 g5 (wa 0) g7 g8 g9 g10 g11 g12 g13 g14 g15 g16 g17 g18 mo ++ (w_W dA wa y_w ++ (w_Bus dA ba bu))) → va_S A s.heap H locs → lv_has ls 3 [(0, .ref (a 0)), (1, .int v1), (2, .int v2)] → W p l e ({ frames := 2, cells := 0, slots := 0, locals := 42 } : Room) s m ([.ref (a 0)] : List Value).toArray below meth c H locs 0 0 Q (F0 m 4 ls []) := by
    intro n
    induction n with
    | zero =>
      intro v1 v2 H locs ls hf
      exact absurd hf (by simp [f_X12_freeSeats_b4])
    | succ n ih =>
      intro v1 v2 H locs ls hf hP hD hS hl
      rw [f_X12_freeSeats_b4] at hf
      refine lv_iload_n hx hb dX12_freeSeats_4 rfl (lv_at hl 2 rfl) ?_
      refine lv_iconst (v := (4 : Int32)) hx hb dX12_freeSeats_5 (by decide) ?_
      refine lv_aload_n hx hb dX12_freeSeats_6 rfl (lv_at hl 0 rfl) ?_
      refine va_get (D := D) (ci := 12) (v := .ref (ba 0)) (C := RX12) (T := TX12) (N := 35) hx hb hts kb_inX12 hown hK.1 hP 0 rfl rfl 3 (by decide) (hK.2.w ww_5_203 rfl _) (fun _ h9 => h9) rfl dX12_freeSeats_7 ?_
      refine va_getN (D := D) (ci := 11) (v := .int (bu_rows bu)) (C := RX11) (T := TX11) (N := 26) hx hb hts kb_inX11 hown hK.1 hP 2 rfl rfl 0 (by decide) (hK.2.nb ww_6_89 rfl rfl _) (fun _ h9 => h9) rfl dX12_freeSeats_10 ?_
      refine lv_imul hx hb dX12_freeSeats_13 ?_
      refine lv_icmp_ge (tgt := 61) hx hb dX12_freeSeats_14 (by decide) (fun c_1 => ?_) (fun c_1 => ?_)
      · rw [if_pos c_1] at hf
        refine lv_iload_n hx hb dX12_freeSeats_61 rfl (lv_at hl 1 rfl) ?_
        exact RET _ H _ ls 62 hf hP hD hS dX12_freeSeats_62
      · rw [if_neg c_1] at hf
        refine lv_iload_n hx hb dX12_freeSeats_17 rfl (lv_at hl 1 rfl) ?_
        refine lv_aload_n hx hb dX12_freeSeats_18 rfl (lv_at hl 0 rfl) ?_
        refine lv_iload_n hx hb dX12_freeSeats_19 rfl (lv_at hl 2 rfl) ?_
        obtain ⟨r2, hc2, hf⟩ := kb_bind hf
        refine kb_ci (ws2 := (w_MO dA a (some (ba 0)) q1 g2 g3 g4 g5 (wa 0) g7 g8 g9 g10 g11 g12 g13 g14 g15 g16 g17 g18 mo ++ (w_W dA wa y_w ++ (w_Bus dA ba bu)))) (kb_rV (n := 1) (As := [.int v2]) (rest := [.int v1]) hx hb hml hown hK (c_X12_isSeat l D dA H.size a ba q1 g2 g3 g4 g5 (wa 0) g7 g8 g9 g10 g11 g12 g13 g14 g15 g16 g17 g18 mo bu v2 r2 hc2) ⟨ww_7_179, ww_7_176, ww_7_178, ws_84, ww_1_12, rfl, by decide, by decide⟩ rfl rfl (by decide +kernel) ⟨Nat.le_of_ble_eq_true rfl, Nat.le_of_ble_eq_true rfl⟩ hP hD hS hA hE [0, 2, 3, 4, 5, 6, 7, 8, 9, 10, 11, 12, 13, 14, 15, 16, 17] rfl (by decide) 0 rfl rfl rfl hl.1 rfl (Nat.le_of_ble_eq_true rfl) dX12_freeSeats_20 ⟨Nat.le_of_ble_eq_true rfl, Nat.le_of_ble_eq_true rfl⟩) hP hD hS hA [0, 2, 3, 4, 5, 6, 7, 8, 9, 10, 11, 12, 13, 14, 15, 16, 17] [1] [1, 0, 2, 3, 4, 5, 6, 7, 8, 9, 10, 11, 12, 13, 14, 15, 16, 17] rfl rfl (by decide) (by decide) rfl (by decide) (fun H locs hP hD hS => ?_)
        refine lv_if_eq (tgt := 52) hx hb dX12_freeSeats_23 (by decide) (fun c_3 => ?_) (fun c_3 => ?_)
        · rw [if_pos c_3] at hf
          exact B_52 (f_X12_freeSeats_b4 mo y_w bu n) ih _ _ _ _ _ hf hP hD hS (lv_sub hl [0, 2] rfl)
        · rw [if_neg c_3] at hf
          refine lv_aload_n hx hb dX12_freeSeats_26 rfl (lv_at hl 0 rfl) ?_
          refine lv_iload_n hx hb dX12_freeSeats_27 rfl (lv_at hl 2 rfl) ?_
          obtain ⟨r4, hc4, hf⟩ := kb_bind hf
          refine kb_ci (ws2 := (w_MO dA a (some (ba 0)) q1 g2 g3 g4 g5 (wa 0) g7 g8 g9 g10 g11 g12 g13 g14 g15 g16 g17 g18 mo ++ (w_W dA wa y_w ++ (w_Bus dA ba bu)))) (kb_rV (n := 1) (As := [.int v2]) (rest := [.int v1]) hx hb hml hown hK (c_X12_sitter l D dA H.size a wa ba q1 g2 g3 g4 g5 g7 g8 g9 g10 g11 g12 g13 g14 g15 g16 g17 g18 mo y_w bu v2 r4 hc4) ⟨ww_7_155, ww_7_152, ww_7_154, ws_78, ww_1_12, rfl, by decide, by decide⟩ rfl rfl (by decide +kernel) ⟨Nat.le_of_ble_eq_true rfl, Nat.le_of_ble_eq_true rfl⟩ hP hD hS hA hE [0, 1, 2, 3, 4, 5, 6, 7, 8, 9, 10, 11, 12, 13, 14, 15, 16, 17] rfl (by decide) 0 rfl rfl rfl hl.1 rfl (Nat.le_of_ble_eq_true rfl) dX12_freeSeats_28 ⟨Nat.le_of_ble_eq_true rfl, Nat.le_of_ble_eq_true rfl⟩) hP hD hS hA [0, 1, 2, 3, 4, 5, 6, 7, 8, 9, 10, 11, 12, 13, 14, 15, 16, 17] [] [0, 1, 2, 3, 4, 5, 6, 7, 8, 9, 10, 11, 12, 13, 14, 15, 16, 17] rfl rfl (by decide) (by decide) rfl (by decide) (fun H locs hP hD hS => ?_)
          refine lv_bipush (v := (-2 : Int32)) hx hb dX12_freeSeats_31 (by decide) ?_
          refine lv_icmp_ne (tgt := 52) hx hb dX12_freeSeats_33 (by decide) (fun c_5 => ?_) (fun c_5 => ?_)
          · rw [if_neg c_5] at hf
            exact B_52 (f_X12_freeSeats_b4 mo y_w bu n) ih _ _ _ _ _ hf hP hD hS (lv_sub hl [0, 2] rfl)
          · rw [if_pos c_5] at hf
            refine lv_aload_n hx hb dX12_freeSeats_36 rfl (lv_at hl 0 rfl) ?_
            refine lv_iload_n hx hb dX12_freeSeats_37 rfl (lv_at hl 2 rfl) ?_
            obtain ⟨r6, hc6, hf⟩ := kb_bind hf
            refine kb_ci (ws2 := (w_MO dA a (some (ba 0)) q1 g2 g3 g4 g5 (wa 0) g7 g8 g9 g10 g11 g12 g13 g14 g15 g16 g17 g18 mo ++ (w_W dA wa y_w ++ (w_Bus dA ba bu)))) (kb_rV (n := 1) (As := [.int v2]) (rest := [.int v1]) hx hb hml hown hK (c_X12_bagIn l D dA H.size a wa ba q1 g2 g3 g4 g5 g7 g8 g9 g10 g11 g12 g13 g14 g15 g16 g17 g18 mo y_w bu v2 r6 hc6) ⟨ww_7_171, ww_7_168, ww_7_170, ws_82, ww_1_12, rfl, by decide, by decide⟩ rfl rfl (by decide +kernel) ⟨Nat.le_of_ble_eq_true rfl, Nat.le_of_ble_eq_true rfl⟩ hP hD hS hA hE [0, 1, 2, 3, 4, 5, 6, 7, 8, 9, 10, 11, 12, 13, 14, 15, 16, 17] rfl (by decide) 0 rfl rfl rfl hl.1 rfl (Nat.le_of_ble_eq_true rfl) dX12_freeSeats_38 ⟨Nat.le_of_ble_eq_true rfl, Nat.le_of_ble_eq_true rfl⟩) hP hD hS hA [0, 1, 2, 3, 4, 5, 6, 7, 8, 9, 10, 11, 12, 13, 14, 15, 16, 17] [] [0, 1, 2, 3, 4, 5, 6, 7, 8, 9, 10, 11, 12, 13, 14, 15, 16, 17] rfl rfl (by decide) (by decide) rfl (by decide) (fun H locs hP hD hS => ?_)
            refine lv_bipush (v := (-2 : Int32)) hx hb dX12_freeSeats_41 (by decide) ?_
            refine lv_icmp_ne (tgt := 52) hx hb dX12_freeSeats_43 (by decide) (fun c_7 => ?_) (fun c_7 => ?_)
            · rw [if_neg c_7] at hf
              exact B_52 (f_X12_freeSeats_b4 mo y_w bu n) ih _ _ _ _ _ hf hP hD hS (lv_sub hl [0, 2] rfl)
            · rw [if_pos c_7] at hf
              refine lv_iconst (v := (1 : Int32)) hx hb dX12_freeSeats_46 (by decide) ?_
              refine lv_iload_n hx hb dX12_freeSeats_47 rfl (lv_at hl 2 rfl) ?_
              refine lv_ishl hx hb dX12_freeSeats_48 ?_
              refine lv_goto (tgt := 53) hx hb dX12_freeSeats_49 (by decide) ?_
              refine lv_ior hx hb dX12_freeSeats_53 ?_
              refine lv_istore_n (lv' := [(1, .int (v1 ||| ((1 : Int32) <<< (v2 &&& 31)))), (0, .ref (a 0)), (2, .int v2)]) hx hb dX12_freeSeats_54 rfl hl (by decide) rfl (fun ls hl => ?_)
              refine lv_iinc (v := (v2 + (1 : Int32))) (lv' := [(2, .int (v2 + (1 : Int32))), (1, .int (v1 ||| ((1 : Int32) <<< (v2 &&& 31)))), (0, .ref (a 0))]) hx hb dX12_freeSeats_55 hl (k := 2) rfl (by rfl) (by decide) rfl (fun ls hl => ?_)
              refine lv_goto (tgt := 4) hx hb dX12_freeSeats_58 (by decide) ?_
              exact ih _ _ _ _ _ hf hP hD hS (lv_sub hl [2, 1, 0] rfl)
  have E0 : ∀ (H : Heap) (locs : List Loc), va_P D vwCl (w_MO dA a (some (ba 0)) q1 g2 g3 g4 g5 (wa 0) g7 g8 g9 g10 g11 g12 g13 g14 g15 g16 g17 g18 mo ++ (w_W dA wa y_w ++ (w_Bus dA ba bu))) H → va_D A (w_MO dA a (some (ba 0)) q1 g2 g3 g4 g5 (wa 0) g7 g8 g9 g10 g11 g12 g13 g14 g15 g16 g17 g18 mo ++ (w_W dA wa y_w ++ (w_Bus dA ba bu))) → va_S A s.heap H locs → W p l e ({ frames := 2, cells := 0, slots := 0, locals := 42 } : Room) s m ([.ref (a 0)] : List Value).toArray below meth c H locs 0 0 Q (F0 m 0 ls []) := by
    intro H locs hP hD hS
    rw [f_X12_freeSeats] at hf
    refine lv_iconst (v := (0 : Int32)) hx hb dX12_freeSeats_0 (by decide) ?_
    refine lv_istore_n (lv' := [(1, .int (0 : Int32)), (0, .ref (a 0))]) hx hb dX12_freeSeats_1 rfl hl (by decide) rfl (fun ls hl => ?_)
    refine lv_iconst (v := (0 : Int32)) hx hb dX12_freeSeats_2 (by decide) ?_
    refine lv_istore_n (lv' := [(2, .int (0 : Int32)), (1, .int (0 : Int32)), (0, .ref (a 0))]) hx hb dX12_freeSeats_3 rfl hl (by decide) rfl (fun ls hl => ?_)
    exact B_4 4096 _ _ _ _ _ hf hP hD hS (lv_sub hl [2, 1, 0] rfl)
  exact E0 _ _ hP hD hS

noncomputable def f_X12_sees_b84 (mo : MOT) (y_w : WT) (y_looks : LooksT) (bu : BusT) (k24 : Int32 → Int32 → WhoT → LookT → Option (WhoT × LookT)) (v1 : Int32) (v2 : Int32) (z3 : WhoT) (z4 : LookT) : Option (WhoT × LookT) := k24 v1 (v2 + (1 : Int32)) z3 z4
noncomputable def f_X12_sees_b65 (mo : MOT) (y_w : WT) (y_looks : LooksT) (bu : BusT) (k24 : Int32 → Int32 → WhoT → LookT → Option (WhoT × LookT)) (v1 : Int32) (v2 : Int32) (z3 : WhoT) (z4 : LookT) : Option (WhoT × LookT) := if kb_in? ((0 : Int32) + v2) 56 then if kb_in? v2 8 then if kb_in? ((yW_r y_w) (((0 : Int32) + v2)).toNatClampNeg) 20 then f_X12_sees_b84 mo y_w y_looks bu k24 v1 v2 z3 (yLook_set_r z4 (upd (yLook_r z4) (((yW_r y_w) (((0 : Int32) + v2)).toNatClampNeg)).toNatClampNeg ((yLooks_r y_looks) (v2).toNatClampNeg))) else none else none else none
noncomputable def f_X12_sees_b24 (mo : MOT) (y_w : WT) (y_looks : LooksT) (bu : BusT) : Nat → Int32 → Int32 → WhoT → LookT → Option (WhoT × LookT)
  | 0, _, _, _, _ => none
  | n + 1, v1, v2, z3, z4 => (if (bu_riders bu) ≤ v2 then some (z3, z4) else (if v2 = v1 then f_X12_sees_b24 mo y_w y_looks bu n v1 (v2 + (1 : Int32)) z3 z4 else (f_X12_isSitting mo y_w v2).bind fun r4 => (if r4 = 0 then f_X12_sees_b84 mo y_w y_looks bu (f_X12_sees_b24 mo y_w y_looks bu n) v1 v2 z3 z4 else if kb_in? ((0 : Int32) + v2) 56 then if kb_in? ((yW_r y_w) (((0 : Int32) + v2)).toNatClampNeg) 20 then f_X12_sees_b65 mo y_w y_looks bu (f_X12_sees_b24 mo y_w y_looks bu n) v1 v2 (yWho_set_r z3 (upd (yWho_r z3) (((yW_r y_w) (((0 : Int32) + v2)).toNatClampNeg)).toNatClampNeg v2)) z4 else none else none)))
noncomputable def f_X12_sees_b16 (mo : MOT) (y_w : WT) (y_looks : LooksT) (bu : BusT) (k2 : Int32 → Int32 → WhoT → LookT → Option (WhoT × LookT)) (v1 : Int32) (v2 : Int32) (z3 : WhoT) (z4 : LookT) : Option (WhoT × LookT) := k2 v1 (v2 + (1 : Int32)) z3 z4
noncomputable def f_X12_sees_b2 (mo : MOT) (y_w : WT) (y_looks : LooksT) (bu : BusT) : Nat → Int32 → Int32 → WhoT → LookT → Option (WhoT × LookT)
  | 0, _, _, _, _ => none
  | n + 1, v1, v2, z3, z4 => (if (20 : Int32) ≤ v2 then f_X12_sees_b24 mo y_w y_looks bu 4096 v1 (0 : Int32) z3 z4 else if kb_in? v2 20 then f_X12_sees_b16 mo y_w y_looks bu (f_X12_sees_b2 mo y_w y_looks bu n) v1 v2 (yWho_set_r z3 (upd (yWho_r z3) (v2).toNatClampNeg (-2 : Int32))) z4 else none)
noncomputable def f_X12_sees (mo : MOT) (y_w : WT) (y_looks : LooksT) (y_who : WhoT) (y_look : LookT) (bu : BusT) (x0 : Int32) : Option (WhoT × LookT) := f_X12_sees_b2 mo y_w y_looks bu 4096 x0 (0 : Int32) y_who y_look
set_option maxHeartbeats 4000000 in
set_option maxRecDepth 100000 in
theorem c_X12_sees (l : Launch) (D : va_G) (dA : Nat → ClassId) (sz : Nat) (a : Nat → Nat) (wa : Nat → Nat) (la : Nat → Nat) (ha : Nat → Nat) (ca : Nat → Nat) (ba : Nat → Nat) (q1 : Option Nat) (g2 : Nat) (g3 : Nat) (g4 : Nat) (g5 : Nat) (g10 : Nat) (g11 : Nat) (g12 : Nat) (g13 : Nat) (g14 : Nat) (g15 : Nat) (g16 : Nat) (g17 : Nat) (g18 : Nat) (mo : MOT) (y_w : WT) (y_looks : LooksT) (y_who : WhoT) (y_look : LookT) (bu : BusT) (x0 : Int32) (u3 : WhoT) (u4 : LookT) (hf : f_X12_sees mo y_w y_looks y_who y_look bu x0 = some (u3, u4)) : kb_Mv l yX12_sees cX12_sees 3 none ({ frames := 1, cells := 0, slots := 0, locals := 21 } : Room) D dA [.ref (a 0), .int x0] sz (w_MO dA a (some (ba 0)) q1 g2 g3 g4 g5 (wa 0) (la 0) (ha 0) (ca 0) g10 g11 g12 g13 g14 g15 g16 g17 g18 mo ++ (w_W dA wa y_w ++ (w_Looks dA la y_looks ++ (w_Who dA ha y_who ++ (w_Look dA ca y_look ++ (w_Bus dA ba bu)))))) 0 0 (w_MO dA a (some (ba 0)) q1 g2 g3 g4 g5 (wa 0) (la 0) (ha 0) (ca 0) g10 g11 g12 g13 g14 g15 g16 g17 g18 mo ++ (w_W dA wa y_w ++ (w_Looks dA la y_looks ++ (w_Who dA ha u3 ++ (w_Look dA ca u4 ++ (w_Bus dA ba bu)))))) := by
  refine Met.ofW (cc := cX12_sees) (maxL := 3) (ret := none) (by decide) rfl ?_
  intro p e s m args below meth c s₁ B hml hv
  obtain ⟨rfl, hsz, hP, hK, hD0, hE⟩ := hv
  have hx := B.exec
  have hb := B.bytes
  have hr := B.returns
  have hown : s.vm.findClass RX12 = some m.cls := findClass_of_methodNamed B.named
  have hlocks := B.notSynchronized
  have hts : ∀ w ∈ kb_gw, w.before ([.ref (a 0), .int x0] : List Value).toArray s = true := fun w hw => hK.2.1 w hw _
  subst hsz
  have hD := hD0.self (sz := s.heap.size)
  generalize hAe : va_A (w_MO dA a (some (ba 0)) q1 g2 g3 g4 g5 (wa 0) (la 0) (ha 0) (ca 0) g10 g11 g12 g13 g14 g15 g16 g17 g18 mo ++ (w_W dA wa y_w ++ (w_Looks dA la y_looks ++ (w_Who dA ha y_who ++ (w_Look dA ca y_look ++ (w_Bus dA ba bu)))))) s.heap.size = A at hD hE ⊢
  have hA : ∀ q : Nat, s.heap.size ≤ q → A q := fun q h => by rw [← hAe]; exact Or.inr h
  have hS : va_S A s.heap s.heap [] := va_S.rf
  have hl := lv_entry ([.ref (a 0), .int x0]) (n := 3) (Nat.le_of_ble_eq_true rfl)
  rw [lg_entry_eq]
  generalize (lg_sl ([.ref (a 0), .int x0]) ++ List.replicate (3 - (lg_sl ([.ref (a 0), .int x0])).length) Slot.unset).toArray = ls at hl ⊢
  have hl : lv_has ls 3 [(0, .ref (a 0)), (1, .int x0)] := hl
  generalize hQ : MQ below (va_Qv (fun (_ : Unit) => True) (kb_B D A (w_MO dA a (some (ba 0)) q1 g2 g3 g4 g5 (wa 0) (la 0) (ha 0) (ca 0) g10 g11 g12 g13 g14 g15 g16 g17 g18 mo ++ (w_W dA wa y_w ++ (w_Looks dA la y_looks ++ (w_Who dA ha u3 ++ (w_Look dA ca u4 ++ (w_Bus dA ba bu))))))) A) ([.ref (a 0), .int x0] : List Value).toArray s 0 0 A = Q
  show W p l e ({ frames := 1, cells := 0, slots := 0, locals := 21 } : Room) s m ([.ref (a 0), .int x0] : List Value).toArray below meth c s.heap [] 0 0 Q (F0 m 0 ls [])
  have RET : ∀ (w3 : WhoT) (w4 : LookT) (H : Heap) (locs : List Loc) (ls : Array Slot) (pc : Nat), some (w3, w4) = some (u3, u4) → va_P D vwCl (w_MO dA a (some (ba 0)) q1 g2 g3 g4 g5 (wa 0) (la 0) (ha 0) (ca 0) g10 g11 g12 g13 g14 g15 g16 g17 g18 mo ++ (w_W dA wa y_w ++ (w_Looks dA la y_looks ++ (w_Who dA ha w3 ++ (w_Look dA ca w4 ++ (w_Bus dA ba bu)))))) H → va_D A (w_MO dA a (some (ba 0)) q1 g2 g3 g4 g5 (wa 0) (la 0) (ha 0) (ca 0) g10 g11 g12 g13 g14 g15 g16 g17 g18 mo ++ (w_W dA wa y_w ++ (w_Looks dA la y_looks ++ (w_Who dA ha w3 ++ (w_Look dA ca w4 ++ (w_Bus dA ba bu)))))) → va_S A s.heap H locs → decode cX12_sees pc = .ok (.return_, 1) → W p l e ({ frames := 1, cells := 0, slots := 0, locals := 21 } : Room) s m ([.ref (a 0), .int x0] : List Value).toArray below meth c H locs 0 0 Q (F0 m pc ls []) := by
    intro w3 w4 H locs ls pc hq hP hD hS hd
    cases hq
    rw [← hQ]
    exact W.vret hx hb hr (fun t ht hW => ⟨⟨(), rfl, trivial, by rw [ht]; exact hP, hD⟩, hS.F ht⟩) hS.2.2 hd
  have B_84 : ∀ (k24 : Int32 → Int32 → WhoT → LookT → Option (WhoT × LookT)) (hk24 : ∀ (v1 : Int32) (v2 : Int32) (z3 : WhoT) (z4 : LookT) (H : Heap) (locs : List Loc) (ls : Array Slot), k24 v1 v2 z3 z4 = some (u3, u4) → va_P D vwCl (w_MO dA a (some (ba 0)) q1 g2 g3 g4 g5 (wa 0) (la 0) (ha 0) (ca 0) g10 g11 g12 g13 g14 g15 g16 g17 g18 mo ++ (w_W dA wa y_w ++ (w_Looks dA la y_looks ++ (w_Who dA ha z3 ++ (w_Look dA ca z4 ++ (w_Bus dA ba bu)))))) H → va_D A (w_MO dA a (some (ba 0)) q1 g2 g3 g4 g5 (wa 0) (la 0) (ha 0) (ca 0) g10 g11 g12 g13 g14 g15 g16 g17 g18 mo ++ (w_W dA wa y_w ++ (w_Looks dA la y_looks ++ (w_Who dA ha z3 ++ (w_Look dA ca z4 ++ (w_Bus dA ba bu)))))) → va_S A s.heap H locs → lv_has ls 3 [(0, .ref (a 0)), (1, .int v1), (2, .int v2)] → W p l e ({ frames := 1, cells := 0, slots := 0, locals := 21 } : Room) s m ([.ref (a 0), .int x0] : List Value).toArray below meth c H locs 0 0 Q (F0 m 24 ls [])) (v1 : Int32) (v2 : Int32) (z3 : WhoT) (z4 : LookT) (H : Heap) (locs : List Loc) (ls : Array Slot), f_X12_sees_b84 mo y_w y_looks bu k24 v1 v2 z3 z4 = some (u3, u4) → va_P D vwCl (w_MO dA a (some (ba 0)) q1 g2 g3 g4 g5 (wa 0) (la 0) (ha 0) (ca 0) g10 g11 g12 g13 g14 g15 g16 g17 g18 mo ++ (w_W dA wa y_w ++ (w_Looks dA la y_looks ++ (w_Who dA ha z3 ++ (w_Look dA ca z4 ++ (w_Bus dA ba bu)))))) H → va_D A (w_MO dA a (some (ba 0)) q1 g2 g3 g4 g5 (wa 0) (la 0) (ha 0) (ca 0) g10 g11 g12 g13 g14 g15 g16 g17 g18 mo ++ (w_W dA wa y_w ++ (w_Looks dA la y_looks ++ (w_Who dA ha z3 ++ (w_Look dA ca z4 ++ (w_Bus dA ba bu)))))) → va_S A s.heap H locs → lv_has ls 3 [(0, .ref (a 0)), (1, .int v1), (2, .int v2)] → W p l e ({ frames := 1, cells := 0, slots := 0, locals := 21 } : Room) s m ([.ref (a 0), .int x0] : List Value).toArray below meth c H locs 0 0 Q (F0 m 84 ls []) := by
    intro k24 hk24 v1 v2 z3 z4 H locs ls hf hP hD hS hl
    rw [f_X12_sees_b84] at hf
    refine lv_iinc (v := (v2 + (1 : Int32))) (lv' := [(2, .int (v2 + (1 : Int32))), (0, .ref (a 0)), (1, .int v1)]) hx hb dX12_sees_84 hl (k := 2) rfl (by rfl) (by decide) rfl (fun ls hl => ?_)
    refine lv_goto (tgt := 24) hx hb dX12_sees_87 (by decide) ?_
    exact hk24 _ _ _ _ _ _ _ hf hP hD hS (lv_sub hl [1, 2, 0] rfl)
  have B_65 : ∀ (k24 : Int32 → Int32 → WhoT → LookT → Option (WhoT × LookT)) (hk24 : ∀ (v1 : Int32) (v2 : Int32) (z3 : WhoT) (z4 : LookT) (H : Heap) (locs : List Loc) (ls : Array Slot), k24 v1 v2 z3 z4 = some (u3, u4) → va_P D vwCl (w_MO dA a (some (ba 0)) q1 g2 g3 g4 g5 (wa 0) (la 0) (ha 0) (ca 0) g10 g11 g12 g13 g14 g15 g16 g17 g18 mo ++ (w_W dA wa y_w ++ (w_Looks dA la y_looks ++ (w_Who dA ha z3 ++ (w_Look dA ca z4 ++ (w_Bus dA ba bu)))))) H → va_D A (w_MO dA a (some (ba 0)) q1 g2 g3 g4 g5 (wa 0) (la 0) (ha 0) (ca 0) g10 g11 g12 g13 g14 g15 g16 g17 g18 mo ++ (w_W dA wa y_w ++ (w_Looks dA la y_looks ++ (w_Who dA ha z3 ++ (w_Look dA ca z4 ++ (w_Bus dA ba bu)))))) → va_S A s.heap H locs → lv_has ls 3 [(0, .ref (a 0)), (1, .int v1), (2, .int v2)] → W p l e ({ frames := 1, cells := 0, slots := 0, locals := 21 } : Room) s m ([.ref (a 0), .int x0] : List Value).toArray below meth c H locs 0 0 Q (F0 m 24 ls [])) (v1 : Int32) (v2 : Int32) (z3 : WhoT) (z4 : LookT) (H : Heap) (locs : List Loc) (ls : Array Slot), f_X12_sees_b65 mo y_w y_looks bu k24 v1 v2 z3 z4 = some (u3, u4) → va_P D vwCl (w_MO dA a (some (ba 0)) q1 g2 g3 g4 g5 (wa 0) (la 0) (ha 0) (ca 0) g10 g11 g12 g13 g14 g15 g16 g17 g18 mo ++ (w_W dA wa y_w ++ (w_Looks dA la y_looks ++ (w_Who dA ha z3 ++ (w_Look dA ca z4 ++ (w_Bus dA ba bu)))))) H → va_D A (w_MO dA a (some (ba 0)) q1 g2 g3 g4 g5 (wa 0) (la 0) (ha 0) (ca 0) g10 g11 g12 g13 g14 g15 g16 g17 g18 mo ++ (w_W dA wa y_w ++ (w_Looks dA la y_looks ++ (w_Who dA ha z3 ++ (w_Look dA ca z4 ++ (w_Bus dA ba bu)))))) → va_S A s.heap H locs → lv_has ls 3 [(0, .ref (a 0)), (1, .int v1), (2, .int v2)] → W p l e ({ frames := 1, cells := 0, slots := 0, locals := 21 } : Room) s m ([.ref (a 0), .int x0] : List Value).toArray below meth c H locs 0 0 Q (F0 m 65 ls []) := by
    intro k24 hk24 v1 v2 z3 z4 H locs ls hf hP hD hS hl
    rw [f_X12_sees_b65] at hf
    refine lv_aload_n hx hb dX12_sees_65 rfl (lv_at hl 0 rfl) ?_
    refine va_get (D := D) (ci := 12) (v := .ref (ca 0)) (C := RX12) (T := TX12) (N := 35) hx hb hts kb_inX12 hown hK.1 hP 0 rfl rfl 23 (by decide) (hK.2.w ww_5_223 rfl _) (fun _ h9 => h9) rfl dX12_sees_66 ?_
    refine lv_aload_n hx hb dX12_sees_69 rfl (lv_at hl 0 rfl) ?_
    refine va_get (D := D) (ci := 12) (v := .ref (wa 0)) (C := RX12) (T := TX12) (N := 35) hx hb hts kb_inX12 hown hK.1 hP 0 rfl rfl 19 (by decide) (hK.2.w ww_5_219 rfl _) (fun _ h9 => h9) rfl dX12_sees_70 ?_
    refine lv_iconst (v := (0 : Int32)) hx hb dX12_sees_73 (by decide) ?_
    refine lv_iload_n hx hb dX12_sees_74 rfl (lv_at hl 2 rfl) ?_
    refine lv_iadd hx hb dX12_sees_75 ?_
    obtain ⟨h_8, hf⟩ := kb_if hf
    refine va_iald (D := D) hx hb hK.1 hP 1 0 rfl rfl h_8 dX12_sees_76 ?_
    refine lv_aload_n hx hb dX12_sees_77 rfl (lv_at hl 0 rfl) ?_
    refine va_get (D := D) (ci := 12) (v := .ref (la 0)) (C := RX12) (T := TX12) (N := 35) hx hb hts kb_inX12 hown hK.1 hP 0 rfl rfl 20 (by decide) (hK.2.w ww_5_220 rfl _) (fun _ h9 => h9) rfl dX12_sees_78 ?_
    refine lv_iload_n hx hb dX12_sees_81 rfl (lv_at hl 2 rfl) ?_
    obtain ⟨h_9, hf⟩ := kb_if hf
    refine va_iald (D := D) hx hb hK.1 hP 2 0 rfl rfl h_9 dX12_sees_82 ?_
    obtain ⟨h_10, hf⟩ := kb_if hf
    refine va_iast (D := D) hx hb hK.1 hP hD hS 4 0 rfl rfl h_10 dX12_sees_83 (fun H locs hP hD hS => ?_)
    have hP : va_P D vwCl (w_MO dA a (some (ba 0)) q1 g2 g3 g4 g5 (wa 0) (la 0) (ha 0) (ca 0) g10 g11 g12 g13 g14 g15 g16 g17 g18 mo ++ (w_W dA wa y_w ++ (w_Looks dA la y_looks ++ (w_Who dA ha z3 ++ (w_Look dA ca (yLook_set_r z4 (upd (yLook_r z4) (((yW_r y_w) (((0 : Int32) + v2)).toNatClampNeg)).toNatClampNeg ((yLooks_r y_looks) (v2).toNatClampNeg))) ++ (w_Bus dA ba bu)))))) H := hP
    have hD : va_D A (w_MO dA a (some (ba 0)) q1 g2 g3 g4 g5 (wa 0) (la 0) (ha 0) (ca 0) g10 g11 g12 g13 g14 g15 g16 g17 g18 mo ++ (w_W dA wa y_w ++ (w_Looks dA la y_looks ++ (w_Who dA ha z3 ++ (w_Look dA ca (yLook_set_r z4 (upd (yLook_r z4) (((yW_r y_w) (((0 : Int32) + v2)).toNatClampNeg)).toNatClampNeg ((yLooks_r y_looks) (v2).toNatClampNeg))) ++ (w_Bus dA ba bu)))))) := hD
    exact B_84 k24 hk24 _ _ _ _ _ _ _ hf hP hD hS (lv_sub hl [0, 1, 2] rfl)
  have B_24 : ∀ (n : Nat) (v1 : Int32) (v2 : Int32) (z3 : WhoT) (z4 : LookT) (H : Heap) (locs : List Loc) (ls : Array Slot), f_X12_sees_b24 mo y_w y_looks bu n v1 v2 z3 z4 = some (u3, u4) → va_P D vwCl (w_MO dA a (some (ba 0)) q1 g2 g3 g4 g5 (wa 0) (la 0) (ha 0) (ca 0) g10 g11 g12 g13 g14 g15 g16 g17 g18 mo ++ (w_W dA wa y_w ++ (w_Looks dA la y_looks ++ (w_Who dA ha z3 ++ (w_Look dA ca z4 ++ (w_Bus dA ba bu)))))) H → va_D A (w_MO dA a (some (ba 0)) q1 g2 g3 g4 g5 (wa 0) (la 0) (ha 0) (ca 0) g10 g11 g12 g13 g14 g15 g16 g17 g18 mo ++ (w_W dA wa y_w ++ (w_Looks dA la y_looks ++ (w_Who dA ha z3 ++ (w_Look dA ca z4 ++ (w_Bus dA ba bu)))))) → va_S A s.heap H locs → lv_has ls 3 [(0, .ref (a 0)), (1, .int v1), (2, .int v2)] → W p l e ({ frames := 1, cells := 0, slots := 0, locals := 21 } : Room) s m ([.ref (a 0), .int x0] : List Value).toArray below meth c H locs 0 0 Q (F0 m 24 ls []) := by
    intro n
    induction n with
    | zero =>
      intro v1 v2 z3 z4 H locs ls hf
      exact absurd hf (by simp [f_X12_sees_b24])
    | succ n ih =>
      intro v1 v2 z3 z4 H locs ls hf hP hD hS hl
      rw [f_X12_sees_b24] at hf
      refine lv_iload_n hx hb dX12_sees_24 rfl (lv_at hl 2 rfl) ?_
      refine lv_aload_n hx hb dX12_sees_25 rfl (lv_at hl 0 rfl) ?_
      refine va_get (D := D) (ci := 12) (v := .ref (ba 0)) (C := RX12) (T := TX12) (N := 35) hx hb hts kb_inX12 hown hK.1 hP 0 rfl rfl 3 (by decide) (hK.2.w ww_5_203 rfl _) (fun _ h9 => h9) rfl dX12_sees_26 ?_
      refine va_getN (D := D) (ci := 11) (v := .int (bu_riders bu)) (C := RX11) (T := TX11) (N := 26) hx hb hts kb_inX11 hown hK.1 hP 5 rfl rfl 7 (by decide) (hK.2.nb ww_6_96 rfl rfl _) (fun _ h9 => h9) rfl dX12_sees_29 ?_
      refine lv_icmp_ge (tgt := 90) hx hb dX12_sees_32 (by decide) (fun c_2 => ?_) (fun c_2 => ?_)
      · rw [if_pos c_2] at hf
        exact RET _ _ H _ ls 90 hf hP hD hS dX12_sees_90
      · rw [if_neg c_2] at hf
        refine lv_iload_n hx hb dX12_sees_35 rfl (lv_at hl 2 rfl) ?_
        refine lv_iload_n hx hb dX12_sees_36 rfl (lv_at hl 1 rfl) ?_
        refine lv_icmp_eq (tgt := 84) hx hb dX12_sees_37 (by decide) (fun c_3 => ?_) (fun c_3 => ?_)
        · rw [if_pos c_3] at hf
          refine lv_iinc (v := (v2 + (1 : Int32))) (lv' := [(2, .int (v2 + (1 : Int32))), (0, .ref (a 0)), (1, .int v1)]) hx hb dX12_sees_84 hl (k := 2) rfl (by rfl) (by decide) rfl (fun ls hl => ?_)
          refine lv_goto (tgt := 24) hx hb dX12_sees_87 (by decide) ?_
          exact ih _ _ _ _ _ _ _ hf hP hD hS (lv_sub hl [1, 2, 0] rfl)
        · rw [if_neg c_3] at hf
          refine lv_aload_n hx hb dX12_sees_40 rfl (lv_at hl 0 rfl) ?_
          refine lv_iload_n hx hb dX12_sees_41 rfl (lv_at hl 2 rfl) ?_
          obtain ⟨r4, hc4, hf⟩ := kb_bind hf
          refine kb_ci (ws2 := (w_MO dA a (some (ba 0)) q1 g2 g3 g4 g5 (wa 0) (la 0) (ha 0) (ca 0) g10 g11 g12 g13 g14 g15 g16 g17 g18 mo ++ (w_W dA wa y_w ++ (w_Looks dA la y_looks ++ (w_Who dA ha z3 ++ (w_Look dA ca z4 ++ (w_Bus dA ba bu))))))) (kb_rV (n := 1) (As := [.int v2]) (rest := []) hx hb hml hown hK (c_X12_isSitting l D dA H.size a wa (some (ba 0)) q1 g2 g3 g4 g5 (la 0) (ha 0) (ca 0) g10 g11 g12 g13 g14 g15 g16 g17 g18 mo y_w v2 r4 hc4) ⟨ww_7_132, ww_7_129, ww_7_131, ws_76, ww_1_12, rfl, by decide, by decide⟩ rfl rfl (by decide +kernel) ⟨Nat.le_of_ble_eq_true rfl, Nat.le_of_ble_eq_true rfl⟩ hP hD hS hA hE [0, 1] rfl (by decide) 0 rfl rfl rfl hl.1 rfl (Nat.le_of_ble_eq_true rfl) dX12_sees_42 ⟨Nat.le_of_ble_eq_true rfl, Nat.le_of_ble_eq_true rfl⟩) hP hD hS hA [0, 1] [2, 3, 4, 5, 6, 7, 8, 9, 10, 11, 12, 13, 14, 15, 16, 17, 18, 19, 20] [19, 20, 0, 1, 2, 3, 4, 5, 6, 7, 8, 9, 10, 11, 12, 13, 14, 15, 16, 17, 18] rfl rfl (by decide) (by decide) rfl (by decide) (fun H locs hP hD hS => ?_)
          refine lv_if_ne (tgt := 51) hx hb dX12_sees_45 (by decide) (fun c_5 => ?_) (fun c_5 => ?_)
          · rw [if_neg c_5] at hf
            refine lv_aload_n hx hb dX12_sees_51 rfl (lv_at hl 0 rfl) ?_
            refine va_get (D := D) (ci := 12) (v := .ref (ha 0)) (C := RX12) (T := TX12) (N := 35) hx hb hts kb_inX12 hown hK.1 hP 0 rfl rfl 22 (by decide) (hK.2.w ww_5_222 rfl _) (fun _ h9 => h9) rfl dX12_sees_52 ?_
            refine lv_aload_n hx hb dX12_sees_55 rfl (lv_at hl 0 rfl) ?_
            refine va_get (D := D) (ci := 12) (v := .ref (wa 0)) (C := RX12) (T := TX12) (N := 35) hx hb hts kb_inX12 hown hK.1 hP 0 rfl rfl 19 (by decide) (hK.2.w ww_5_219 rfl _) (fun _ h9 => h9) rfl dX12_sees_56 ?_
            refine lv_iconst (v := (0 : Int32)) hx hb dX12_sees_59 (by decide) ?_
            refine lv_iload_n hx hb dX12_sees_60 rfl (lv_at hl 2 rfl) ?_
            refine lv_iadd hx hb dX12_sees_61 ?_
            obtain ⟨h_6, hf⟩ := kb_if hf
            refine va_iald (D := D) hx hb hK.1 hP 1 0 rfl rfl h_6 dX12_sees_62 ?_
            refine lv_iload_n hx hb dX12_sees_63 rfl (lv_at hl 2 rfl) ?_
            obtain ⟨h_7, hf⟩ := kb_if hf
            refine va_iast (D := D) hx hb hK.1 hP hD hS 3 0 rfl rfl h_7 dX12_sees_64 (fun H locs hP hD hS => ?_)
            have hP : va_P D vwCl (w_MO dA a (some (ba 0)) q1 g2 g3 g4 g5 (wa 0) (la 0) (ha 0) (ca 0) g10 g11 g12 g13 g14 g15 g16 g17 g18 mo ++ (w_W dA wa y_w ++ (w_Looks dA la y_looks ++ (w_Who dA ha (yWho_set_r z3 (upd (yWho_r z3) (((yW_r y_w) (((0 : Int32) + v2)).toNatClampNeg)).toNatClampNeg v2)) ++ (w_Look dA ca z4 ++ (w_Bus dA ba bu)))))) H := hP
            have hD : va_D A (w_MO dA a (some (ba 0)) q1 g2 g3 g4 g5 (wa 0) (la 0) (ha 0) (ca 0) g10 g11 g12 g13 g14 g15 g16 g17 g18 mo ++ (w_W dA wa y_w ++ (w_Looks dA la y_looks ++ (w_Who dA ha (yWho_set_r z3 (upd (yWho_r z3) (((yW_r y_w) (((0 : Int32) + v2)).toNatClampNeg)).toNatClampNeg v2)) ++ (w_Look dA ca z4 ++ (w_Bus dA ba bu)))))) := hD
            exact B_65 (f_X12_sees_b24 mo y_w y_looks bu n) ih _ _ _ _ _ _ _ hf hP hD hS (lv_sub hl [0, 1, 2] rfl)
          · rw [if_pos c_5] at hf
            refine lv_goto (tgt := 84) hx hb dX12_sees_48 (by decide) ?_
            exact B_84 (f_X12_sees_b24 mo y_w y_looks bu n) ih _ _ _ _ _ _ _ hf hP hD hS (lv_sub hl [0, 1, 2] rfl)
  have B_16 : ∀ (k2 : Int32 → Int32 → WhoT → LookT → Option (WhoT × LookT)) (hk2 : ∀ (v1 : Int32) (v2 : Int32) (z3 : WhoT) (z4 : LookT) (H : Heap) (locs : List Loc) (ls : Array Slot), k2 v1 v2 z3 z4 = some (u3, u4) → va_P D vwCl (w_MO dA a (some (ba 0)) q1 g2 g3 g4 g5 (wa 0) (la 0) (ha 0) (ca 0) g10 g11 g12 g13 g14 g15 g16 g17 g18 mo ++ (w_W dA wa y_w ++ (w_Looks dA la y_looks ++ (w_Who dA ha z3 ++ (w_Look dA ca z4 ++ (w_Bus dA ba bu)))))) H → va_D A (w_MO dA a (some (ba 0)) q1 g2 g3 g4 g5 (wa 0) (la 0) (ha 0) (ca 0) g10 g11 g12 g13 g14 g15 g16 g17 g18 mo ++ (w_W dA wa y_w ++ (w_Looks dA la y_looks ++ (w_Who dA ha z3 ++ (w_Look dA ca z4 ++ (w_Bus dA ba bu)))))) → va_S A s.heap H locs → lv_has ls 3 [(0, .ref (a 0)), (1, .int v1), (2, .int v2)] → W p l e ({ frames := 1, cells := 0, slots := 0, locals := 21 } : Room) s m ([.ref (a 0), .int x0] : List Value).toArray below meth c H locs 0 0 Q (F0 m 2 ls [])) (v1 : Int32) (v2 : Int32) (z3 : WhoT) (z4 : LookT) (H : Heap) (locs : List Loc) (ls : Array Slot), f_X12_sees_b16 mo y_w y_looks bu k2 v1 v2 z3 z4 = some (u3, u4) → va_P D vwCl (w_MO dA a (some (ba 0)) q1 g2 g3 g4 g5 (wa 0) (la 0) (ha 0) (ca 0) g10 g11 g12 g13 g14 g15 g16 g17 g18 mo ++ (w_W dA wa y_w ++ (w_Looks dA la y_looks ++ (w_Who dA ha z3 ++ (w_Look dA ca z4 ++ (w_Bus dA ba bu)))))) H → va_D A (w_MO dA a (some (ba 0)) q1 g2 g3 g4 g5 (wa 0) (la 0) (ha 0) (ca 0) g10 g11 g12 g13 g14 g15 g16 g17 g18 mo ++ (w_W dA wa y_w ++ (w_Looks dA la y_looks ++ (w_Who dA ha z3 ++ (w_Look dA ca z4 ++ (w_Bus dA ba bu)))))) → va_S A s.heap H locs → lv_has ls 3 [(0, .ref (a 0)), (1, .int v1), (2, .int v2)] → W p l e ({ frames := 1, cells := 0, slots := 0, locals := 21 } : Room) s m ([.ref (a 0), .int x0] : List Value).toArray below meth c H locs 0 0 Q (F0 m 16 ls []) := by
    intro k2 hk2 v1 v2 z3 z4 H locs ls hf hP hD hS hl
    rw [f_X12_sees_b16] at hf
    refine lv_iinc (v := (v2 + (1 : Int32))) (lv' := [(2, .int (v2 + (1 : Int32))), (0, .ref (a 0)), (1, .int v1)]) hx hb dX12_sees_16 hl (k := 2) rfl (by rfl) (by decide) rfl (fun ls hl => ?_)
    refine lv_goto (tgt := 2) hx hb dX12_sees_19 (by decide) ?_
    exact hk2 _ _ _ _ _ _ _ hf hP hD hS (lv_sub hl [1, 2, 0] rfl)
  have B_2 : ∀ (n : Nat) (v1 : Int32) (v2 : Int32) (z3 : WhoT) (z4 : LookT) (H : Heap) (locs : List Loc) (ls : Array Slot), f_X12_sees_b2 mo y_w y_looks bu n v1 v2 z3 z4 = some (u3, u4) → va_P D vwCl (w_MO dA a (some (ba 0)) q1 g2 g3 g4 g5 (wa 0) (la 0) (ha 0) (ca 0) g10 g11 g12 g13 g14 g15 g16 g17 g18 mo ++ (w_W dA wa y_w ++ (w_Looks dA la y_looks ++ (w_Who dA ha z3 ++ (w_Look dA ca z4 ++ (w_Bus dA ba bu)))))) H → va_D A (w_MO dA a (some (ba 0)) q1 g2 g3 g4 g5 (wa 0) (la 0) (ha 0) (ca 0) g10 g11 g12 g13 g14 g15 g16 g17 g18 mo ++ (w_W dA wa y_w ++ (w_Looks dA la y_looks ++ (w_Who dA ha z3 ++ (w_Look dA ca z4 ++ (w_Bus dA ba bu)))))) → va_S A s.heap H locs → lv_has ls 3 [(0, .ref (a 0)), (1, .int v1), (2, .int v2)] → W p l e ({ frames := 1, cells := 0, slots := 0, locals := 21 } : Room) s m ([.ref (a 0), .int x0] : List Value).toArray below meth c H locs 0 0 Q (F0 m 2 ls []) := by
    intro n
    induction n with
    | zero =>
      intro v1 v2 z3 z4 H locs ls hf
      exact absurd hf (by simp [f_X12_sees_b2])
    | succ n ih =>
      intro v1 v2 z3 z4 H locs ls hf hP hD hS hl
      rw [f_X12_sees_b2] at hf
      refine lv_iload_n hx hb dX12_sees_2 rfl (lv_at hl 2 rfl) ?_
      refine lv_bipush (v := (20 : Int32)) hx hb dX12_sees_3 (by decide) ?_
      refine lv_icmp_ge (tgt := 22) hx hb dX12_sees_5 (by decide) (fun c_1 => ?_) (fun c_1 => ?_)
      · rw [if_pos c_1] at hf
        refine lv_iconst (v := (0 : Int32)) hx hb dX12_sees_22 (by decide) ?_
        refine lv_istore_n (lv' := [(2, .int (0 : Int32)), (0, .ref (a 0)), (1, .int v1)]) hx hb dX12_sees_23 rfl hl (by decide) rfl (fun ls hl => ?_)
        exact B_24 4096 _ _ _ _ _ _ _ hf hP hD hS (lv_sub hl [1, 2, 0] rfl)
      · rw [if_neg c_1] at hf
        refine lv_aload_n hx hb dX12_sees_8 rfl (lv_at hl 0 rfl) ?_
        refine va_get (D := D) (ci := 12) (v := .ref (ha 0)) (C := RX12) (T := TX12) (N := 35) hx hb hts kb_inX12 hown hK.1 hP 0 rfl rfl 22 (by decide) (hK.2.w ww_5_222 rfl _) (fun _ h9 => h9) rfl dX12_sees_9 ?_
        refine lv_iload_n hx hb dX12_sees_12 rfl (lv_at hl 2 rfl) ?_
        refine lv_bipush (v := (-2 : Int32)) hx hb dX12_sees_13 (by decide) ?_
        obtain ⟨h_11, hf⟩ := kb_if hf
        refine va_iast (D := D) hx hb hK.1 hP hD hS 3 0 rfl rfl h_11 dX12_sees_15 (fun H locs hP hD hS => ?_)
        have hP : va_P D vwCl (w_MO dA a (some (ba 0)) q1 g2 g3 g4 g5 (wa 0) (la 0) (ha 0) (ca 0) g10 g11 g12 g13 g14 g15 g16 g17 g18 mo ++ (w_W dA wa y_w ++ (w_Looks dA la y_looks ++ (w_Who dA ha (yWho_set_r z3 (upd (yWho_r z3) (v2).toNatClampNeg (-2 : Int32))) ++ (w_Look dA ca z4 ++ (w_Bus dA ba bu)))))) H := hP
        have hD : va_D A (w_MO dA a (some (ba 0)) q1 g2 g3 g4 g5 (wa 0) (la 0) (ha 0) (ca 0) g10 g11 g12 g13 g14 g15 g16 g17 g18 mo ++ (w_W dA wa y_w ++ (w_Looks dA la y_looks ++ (w_Who dA ha (yWho_set_r z3 (upd (yWho_r z3) (v2).toNatClampNeg (-2 : Int32))) ++ (w_Look dA ca z4 ++ (w_Bus dA ba bu)))))) := hD
        exact B_16 (f_X12_sees_b2 mo y_w y_looks bu n) ih _ _ _ _ _ _ _ hf hP hD hS (lv_sub hl [0, 1, 2] rfl)
  have E0 : ∀ (H : Heap) (locs : List Loc), va_P D vwCl (w_MO dA a (some (ba 0)) q1 g2 g3 g4 g5 (wa 0) (la 0) (ha 0) (ca 0) g10 g11 g12 g13 g14 g15 g16 g17 g18 mo ++ (w_W dA wa y_w ++ (w_Looks dA la y_looks ++ (w_Who dA ha y_who ++ (w_Look dA ca y_look ++ (w_Bus dA ba bu)))))) H → va_D A (w_MO dA a (some (ba 0)) q1 g2 g3 g4 g5 (wa 0) (la 0) (ha 0) (ca 0) g10 g11 g12 g13 g14 g15 g16 g17 g18 mo ++ (w_W dA wa y_w ++ (w_Looks dA la y_looks ++ (w_Who dA ha y_who ++ (w_Look dA ca y_look ++ (w_Bus dA ba bu)))))) → va_S A s.heap H locs → W p l e ({ frames := 1, cells := 0, slots := 0, locals := 21 } : Room) s m ([.ref (a 0), .int x0] : List Value).toArray below meth c H locs 0 0 Q (F0 m 0 ls []) := by
    intro H locs hP hD hS
    rw [f_X12_sees] at hf
    refine lv_iconst (v := (0 : Int32)) hx hb dX12_sees_0 (by decide) ?_
    refine lv_istore_n (lv' := [(2, .int (0 : Int32)), (0, .ref (a 0)), (1, .int x0)]) hx hb dX12_sees_1 rfl hl (by decide) rfl (fun ls hl => ?_)
    exact B_2 4096 _ _ _ _ _ _ _ hf hP hD hS (lv_sub hl [1, 2, 0] rfl)
  exact E0 _ _ hP hD hS

noncomputable def f_X12_good_b98 (mo : MOT) (y_who : WhoT) (y_look : LookT) (bu : BusT) : Nat → Int32 → Int32 → Int32 → Option (Int32)
  | 0, _, _, _ => none
  | n + 1, v2, v7, v8 => (if (20 : Int32) ≤ v8 then some (v7) else if kb_in? v8 20 then (if ((yWho_r y_who) (v8).toNatClampNeg) = (-2 : Int32) then f_X12_good_b98 mo y_who y_look bu n v2 v7 (v8 + (1 : Int32)) else (f_X12_farOf v8 v2).bind fun r9 => (if v7 ≤ r9 then f_X12_good_b98 mo y_who y_look bu n v2 v7 (v8 + (1 : Int32)) else (f_X12_farOf v8 v2).bind fun r11 => f_X12_good_b98 mo y_who y_look bu n v2 r11 (v8 + (1 : Int32)))) else none)
noncomputable def f_X12_good_b221 (mo : MOT) (y_who : WhoT) (y_look : LookT) (bu : BusT)  : Option (Int32) := some ((1 : Int32))
noncomputable def f_X12_good_b292 (mo : MOT) (y_who : WhoT) (y_look : LookT) (bu : BusT)  : Option (Int32) := some ((0 : Int32))
noncomputable def f_X12_good_b30 (mo : MOT) (y_who : WhoT) (y_look : LookT) (bu : BusT) (v1 : Int32) (v2 : Int32) (v3 : Int32) (v4 : Int32) (v5 : Int32) (s0 : Int32) : Option (Int32) := (if v1 = (0 : Int32) then (if s0 = 0 then some ((1 : Int32)) else some ((0 : Int32))) else (if v1 = (1 : Int32) then f_X12_good_b98 mo y_who y_look bu 4096 v2 (99 : Int32) (0 : Int32) else (if v1 = (2 : Int32) then (f_X12_isWindow (v2 &&& (3 : Int32))).bind fun r13 => (if r13 = 0 then some ((0 : Int32)) else some ((1 : Int32))) else (if v1 = (3 : Int32) then (f_X12_isAisleOf (bu_form bu) (v2 &&& (3 : Int32))).bind fun r16 => (if r16 = 0 then some ((0 : Int32)) else some ((1 : Int32))) else (if v1 = (4 : Int32) then some ((-(v2 >>> ((2 : Int32) &&& 31)))) else (if v1 = (5 : Int32) then some ((v2 >>> ((2 : Int32) &&& 31))) else (if v1 = (6 : Int32) then (if (bu_sun bu) = (-1 : Int32) then f_X12_good_b221 mo y_who y_look bu  else (if ((v2 &&& (3 : Int32)) >>> ((1 : Int32) &&& 31)) = (bu_sun bu) then some ((0 : Int32)) else f_X12_good_b221 mo y_who y_look bu )) else (if v1 = (7 : Int32) then (if s0 = 0 then some ((-5 : Int32)) else if kb_in? v5 20 then (f_X12_far v4 ((yLook_r y_look) (v5).toNatClampNeg)).bind fun r26 => some ((-r26)) else none) else (if s0 = 0 then f_X12_good_b292 mo y_who y_look bu  else (if v3 = (-2 : Int32) then f_X12_good_b292 mo y_who y_look bu  else if kb_in? v5 20 then (if ((yWho_r y_who) (v5).toNatClampNeg) = (99 : Int32) then f_X12_good_b292 mo y_who y_look bu  else if kb_in? v5 20 then (f_X11_areFriends bu v3 ((yWho_r y_who) (v5).toNatClampNeg)).bind fun r32 => (if r32 = 0 then f_X12_good_b292 mo y_who y_look bu  else some ((1 : Int32))) else none) else none))))))))))
noncomputable def f_X12_good_b29 (mo : MOT) (y_who : WhoT) (y_look : LookT) (bu : BusT) (v1 : Int32) (v2 : Int32) (v3 : Int32) (v4 : Int32) (v5 : Int32) : Option (Int32) := f_X12_good_b30 mo y_who y_look bu v1 v2 v3 v4 v5 (0 : Int32)
noncomputable def f_X12_good (mo : MOT) (y_who : WhoT) (y_look : LookT) (bu : BusT) (x0 : Int32) (x1 : Int32) (x2 : Int32) (x3 : Int32) : Option (Int32) := (f_X12_beside mo bu x1).bind fun r1 => (if r1 = (-1 : Int32) then f_X12_good_b29 mo y_who y_look bu x0 x1 x2 x3 r1 else if kb_in? r1 20 then (if ((yWho_r y_who) (r1).toNatClampNeg) = (-2 : Int32) then f_X12_good_b29 mo y_who y_look bu x0 x1 x2 x3 r1 else f_X12_good_b30 mo y_who y_look bu x0 x1 x2 x3 r1 (1 : Int32)) else none)
set_option maxHeartbeats 4000000 in
set_option maxRecDepth 100000 in
theorem c_X12_good (l : Launch) (D : va_G) (dA : Nat → ClassId) (sz : Nat) (a : Nat → Nat) (ha : Nat → Nat) (ca : Nat → Nat) (ba : Nat → Nat) (q1 : Option Nat) (g2 : Nat) (g3 : Nat) (g4 : Nat) (g5 : Nat) (g6 : Nat) (g7 : Nat) (g10 : Nat) (g11 : Nat) (g12 : Nat) (g13 : Nat) (g14 : Nat) (g15 : Nat) (g16 : Nat) (g17 : Nat) (g18 : Nat) (mo : MOT) (y_who : WhoT) (y_look : LookT) (bu : BusT) (x0 : Int32) (x1 : Int32) (x2 : Int32) (x3 : Int32) (rv : Int32) (hf : f_X12_good mo y_who y_look bu x0 x1 x2 x3 = some (rv)) : kb_Mi l yX12_good cX12_good 9 (some .int) ({ frames := 3, cells := 0, slots := 0, locals := 64 } : Room) D dA [.ref (a 0), .int x0, .int x1, .int x2, .int x3] sz (w_MO dA a (some (ba 0)) q1 g2 g3 g4 g5 g6 g7 (ha 0) (ca 0) g10 g11 g12 g13 g14 g15 g16 g17 g18 mo ++ (w_Who dA ha y_who ++ (w_Look dA ca y_look ++ (w_Bus dA ba bu)))) 0 0 rv (w_MO dA a (some (ba 0)) q1 g2 g3 g4 g5 g6 g7 (ha 0) (ca 0) g10 g11 g12 g13 g14 g15 g16 g17 g18 mo ++ (w_Who dA ha y_who ++ (w_Look dA ca y_look ++ (w_Bus dA ba bu)))) := by
  refine Met.ofW (cc := cX12_good) (maxL := 9) (ret := (some .int)) (by decide) rfl ?_
  intro p e s m args below meth c s₁ B hml hv
  obtain ⟨rfl, hsz, hP, hK, hD0, hE⟩ := hv
  have hx := B.exec
  have hb := B.bytes
  have hr := B.returns
  have hown : s.vm.findClass RX12 = some m.cls := findClass_of_methodNamed B.named
  have hlocks := B.notSynchronized
  have hts : ∀ w ∈ kb_gw, w.before ([.ref (a 0), .int x0, .int x1, .int x2, .int x3] : List Value).toArray s = true := fun w hw => hK.2.1 w hw _
  subst hsz
  have hD := hD0.self (sz := s.heap.size)
  generalize hAe : va_A (w_MO dA a (some (ba 0)) q1 g2 g3 g4 g5 g6 g7 (ha 0) (ca 0) g10 g11 g12 g13 g14 g15 g16 g17 g18 mo ++ (w_Who dA ha y_who ++ (w_Look dA ca y_look ++ (w_Bus dA ba bu)))) s.heap.size = A at hD hE ⊢
  have hA : ∀ q : Nat, s.heap.size ≤ q → A q := fun q h => by rw [← hAe]; exact Or.inr h
  have hS : va_S A s.heap s.heap [] := va_S.rf
  have hl := lv_entry ([.ref (a 0), .int x0, .int x1, .int x2, .int x3]) (n := 9) (Nat.le_of_ble_eq_true rfl)
  rw [lg_entry_eq]
  generalize (lg_sl ([.ref (a 0), .int x0, .int x1, .int x2, .int x3]) ++ List.replicate (9 - (lg_sl ([.ref (a 0), .int x0, .int x1, .int x2, .int x3])).length) Slot.unset).toArray = ls at hl ⊢
  have hl : lv_has ls 9 [(0, .ref (a 0)), (1, .int x0), (2, .int x1), (3, .int x2), (4, .int x3)] := hl
  generalize hQ : MQ below (va_Qi (fun r (_ : Unit) => r = rv) (kb_B D A (w_MO dA a (some (ba 0)) q1 g2 g3 g4 g5 g6 g7 (ha 0) (ca 0) g10 g11 g12 g13 g14 g15 g16 g17 g18 mo ++ (w_Who dA ha y_who ++ (w_Look dA ca y_look ++ (w_Bus dA ba bu))))) A) ([.ref (a 0), .int x0, .int x1, .int x2, .int x3] : List Value).toArray s 0 0 A = Q
  show W p l e ({ frames := 3, cells := 0, slots := 0, locals := 64 } : Room) s m ([.ref (a 0), .int x0, .int x1, .int x2, .int x3] : List Value).toArray below meth c s.heap [] 0 0 Q (F0 m 0 ls [])
  have RET : ∀ (r2 : Int32) (H : Heap) (locs : List Loc) (ls : Array Slot) (pc : Nat), some (r2) = some (rv) → va_P D vwCl (w_MO dA a (some (ba 0)) q1 g2 g3 g4 g5 g6 g7 (ha 0) (ca 0) g10 g11 g12 g13 g14 g15 g16 g17 g18 mo ++ (w_Who dA ha y_who ++ (w_Look dA ca y_look ++ (w_Bus dA ba bu)))) H → va_D A (w_MO dA a (some (ba 0)) q1 g2 g3 g4 g5 g6 g7 (ha 0) (ca 0) g10 g11 g12 g13 g14 g15 g16 g17 g18 mo ++ (w_Who dA ha y_who ++ (w_Look dA ca y_look ++ (w_Bus dA ba bu)))) → va_S A s.heap H locs → decode cX12_good pc = .ok (.ireturn, 1) → W p l e ({ frames := 3, cells := 0, slots := 0, locals := 64 } : Room) s m ([.ref (a 0), .int x0, .int x1, .int x2, .int x3] : List Value).toArray below meth c H locs 0 0 Q (F0 m pc ls [.int r2]) := by
    intro r2 H locs ls pc hq hP hD hS hd
    cases hq
    rw [← hQ]
    exact W.iret hx hb hr (fun t ht hW => ⟨⟨_, (), rfl, rfl, by rw [ht]; exact hP, hD⟩, hS.F ht⟩) hS.2.2 hd
  have B_98 : ∀ (n : Nat) (v2 : Int32) (v7 : Int32) (v8 : Int32) (H : Heap) (locs : List Loc) (ls : Array Slot), f_X12_good_b98 mo y_who y_look bu n v2 v7 v8 = some (rv) → va_P D vwCl (w_MO dA a (some (ba 0)) q1 g2 g3 g4 g5 g6 g7 (ha 0) (ca 0) g10 g11 g12 g13 g14 g15 g16 g17 g18 mo ++ (w_Who dA ha y_who ++ (w_Look dA ca y_look ++ (w_Bus dA ba bu)))) H → va_D A (w_MO dA a (some (ba 0)) q1 g2 g3 g4 g5 g6 g7 (ha 0) (ca 0) g10 g11 g12 g13 g14 g15 g16 g17 g18 mo ++ (w_Who dA ha y_who ++ (w_Look dA ca y_look ++ (w_Bus dA ba bu)))) → va_S A s.heap H locs → lv_has ls 9 [(0, .ref (a 0)), (2, .int v2), (7, .int v7), (8, .int v8)] → W p l e ({ frames := 3, cells := 0, slots := 0, locals := 64 } : Room) s m ([.ref (a 0), .int x0, .int x1, .int x2, .int x3] : List Value).toArray below meth c H locs 0 0 Q (F0 m 98 ls []) := by
    intro n
    induction n with
    | zero =>
      intro v2 v7 v8 H locs ls hf
      exact absurd hf (by simp [f_X12_good_b98])
    | succ n ih =>
      intro v2 v7 v8 H locs ls hf hP hD hS hl
      rw [f_X12_good_b98] at hf
      refine lv_iload hx hb dX12_good_98 (lv_at hl 3 rfl) ?_
      refine lv_bipush (v := (20 : Int32)) hx hb dX12_good_100 (by decide) ?_
      refine lv_icmp_ge (tgt := 142) hx hb dX12_good_102 (by decide) (fun c_6 => ?_) (fun c_6 => ?_)
      · rw [if_pos c_6] at hf
        refine lv_iload hx hb dX12_good_142 (lv_at hl 2 rfl) ?_
        exact RET _ H _ ls 144 hf hP hD hS dX12_good_144
      · rw [if_neg c_6] at hf
        refine lv_aload_n hx hb dX12_good_105 rfl (lv_at hl 0 rfl) ?_
        refine va_get (D := D) (ci := 12) (v := .ref (ha 0)) (C := RX12) (T := TX12) (N := 35) hx hb hts kb_inX12 hown hK.1 hP 0 rfl rfl 22 (by decide) (hK.2.w ww_5_222 rfl _) (fun _ h9 => h9) rfl dX12_good_106 ?_
        refine lv_iload hx hb dX12_good_109 (lv_at hl 3 rfl) ?_
        obtain ⟨h_7, hf⟩ := kb_if hf
        refine va_iald (D := D) hx hb hK.1 hP 1 0 rfl rfl h_7 dX12_good_111 ?_
        refine lv_bipush (v := (-2 : Int32)) hx hb dX12_good_112 (by decide) ?_
        refine lv_icmp_eq (tgt := 136) hx hb dX12_good_114 (by decide) (fun c_8 => ?_) (fun c_8 => ?_)
        · rw [if_pos c_8] at hf
          refine lv_iinc (v := (v8 + (1 : Int32))) (lv' := [(8, .int (v8 + (1 : Int32))), (0, .ref (a 0)), (2, .int v2), (7, .int v7)]) hx hb dX12_good_136 hl (k := 3) rfl (by rfl) (by decide) rfl (fun ls hl => ?_)
          refine lv_goto (tgt := 98) hx hb dX12_good_139 (by decide) ?_
          exact ih _ _ _ _ _ _ hf hP hD hS (lv_sub hl [1, 2, 3, 0] rfl)
        · rw [if_neg c_8] at hf
          refine lv_iload hx hb dX12_good_117 (lv_at hl 3 rfl) ?_
          refine lv_iload_n hx hb dX12_good_119 rfl (lv_at hl 1 rfl) ?_
          obtain ⟨r9, hc9, hf⟩ := kb_bind hf
          refine kb_ci (ws2 := (w_MO dA a (some (ba 0)) q1 g2 g3 g4 g5 g6 g7 (ha 0) (ca 0) g10 g11 g12 g13 g14 g15 g16 g17 g18 mo ++ (w_Who dA ha y_who ++ (w_Look dA ca y_look ++ (w_Bus dA ba bu))))) (kb_rS (n := 2) (As := [.int v8, .int v2]) (rest := []) hx hb hml hown hK (c_X12_farOf l D dA H.size v8 v2 r9 hc9) ⟨ww_7_218, ww_7_216, ww_7_217, ww_1_12, by decide, by decide⟩ rfl rfl (by decide +kernel) ⟨Nat.le_of_ble_eq_true rfl, Nat.le_of_ble_eq_true rfl⟩ hP hD hS hA hE [] rfl (by decide) rfl hl.1 rfl (Nat.le_of_ble_eq_true rfl) dX12_good_120 ⟨Nat.le_of_ble_eq_true rfl, Nat.le_of_ble_eq_true rfl⟩) hP hD hS hA [] [0, 1, 2, 3, 4, 5, 6, 7, 8, 9, 10, 11, 12, 13, 14, 15, 16, 17, 18] [0, 1, 2, 3, 4, 5, 6, 7, 8, 9, 10, 11, 12, 13, 14, 15, 16, 17, 18] rfl rfl (by decide) (by decide) rfl (by decide) (fun H locs hP hD hS => ?_)
          refine lv_iload hx hb dX12_good_123 (lv_at hl 2 rfl) ?_
          refine lv_icmp_ge (tgt := 136) hx hb dX12_good_125 (by decide) (fun c_10 => ?_) (fun c_10 => ?_)
          · rw [if_pos c_10] at hf
            refine lv_iinc (v := (v8 + (1 : Int32))) (lv' := [(8, .int (v8 + (1 : Int32))), (0, .ref (a 0)), (2, .int v2), (7, .int v7)]) hx hb dX12_good_136 hl (k := 3) rfl (by rfl) (by decide) rfl (fun ls hl => ?_)
            refine lv_goto (tgt := 98) hx hb dX12_good_139 (by decide) ?_
            exact ih _ _ _ _ _ _ hf hP hD hS (lv_sub hl [1, 2, 3, 0] rfl)
          · rw [if_neg c_10] at hf
            refine lv_iload hx hb dX12_good_128 (lv_at hl 3 rfl) ?_
            refine lv_iload_n hx hb dX12_good_130 rfl (lv_at hl 1 rfl) ?_
            obtain ⟨r11, hc11, hf⟩ := kb_bind hf
            refine kb_ci (ws2 := (w_MO dA a (some (ba 0)) q1 g2 g3 g4 g5 g6 g7 (ha 0) (ca 0) g10 g11 g12 g13 g14 g15 g16 g17 g18 mo ++ (w_Who dA ha y_who ++ (w_Look dA ca y_look ++ (w_Bus dA ba bu))))) (kb_rS (n := 2) (As := [.int v8, .int v2]) (rest := []) hx hb hml hown hK (c_X12_farOf l D dA H.size v8 v2 r11 hc11) ⟨ww_7_218, ww_7_216, ww_7_217, ww_1_12, by decide, by decide⟩ rfl rfl (by decide +kernel) ⟨Nat.le_of_ble_eq_true rfl, Nat.le_of_ble_eq_true rfl⟩ hP hD hS hA hE [] rfl (by decide) rfl hl.1 rfl (Nat.le_of_ble_eq_true rfl) dX12_good_131 ⟨Nat.le_of_ble_eq_true rfl, Nat.le_of_ble_eq_true rfl⟩) hP hD hS hA [] [0, 1, 2, 3, 4, 5, 6, 7, 8, 9, 10, 11, 12, 13, 14, 15, 16, 17, 18] [0, 1, 2, 3, 4, 5, 6, 7, 8, 9, 10, 11, 12, 13, 14, 15, 16, 17, 18] rfl rfl (by decide) (by decide) rfl (by decide) (fun H locs hP hD hS => ?_)
            refine lv_istore (lv' := [(7, .int r11), (0, .ref (a 0)), (2, .int v2), (8, .int v8)]) hx hb dX12_good_134 hl (by decide) rfl (fun ls hl => ?_)
            refine lv_iinc (v := (v8 + (1 : Int32))) (lv' := [(8, .int (v8 + (1 : Int32))), (7, .int r11), (0, .ref (a 0)), (2, .int v2)]) hx hb dX12_good_136 hl (k := 3) rfl (by rfl) (by decide) rfl (fun ls hl => ?_)
            refine lv_goto (tgt := 98) hx hb dX12_good_139 (by decide) ?_
            exact ih _ _ _ _ _ _ hf hP hD hS (lv_sub hl [2, 3, 1, 0] rfl)
  have B_221 : ∀  (H : Heap) (locs : List Loc) (ls : Array Slot), f_X12_good_b221 mo y_who y_look bu  = some (rv) → va_P D vwCl (w_MO dA a (some (ba 0)) q1 g2 g3 g4 g5 g6 g7 (ha 0) (ca 0) g10 g11 g12 g13 g14 g15 g16 g17 g18 mo ++ (w_Who dA ha y_who ++ (w_Look dA ca y_look ++ (w_Bus dA ba bu)))) H → va_D A (w_MO dA a (some (ba 0)) q1 g2 g3 g4 g5 g6 g7 (ha 0) (ca 0) g10 g11 g12 g13 g14 g15 g16 g17 g18 mo ++ (w_Who dA ha y_who ++ (w_Look dA ca y_look ++ (w_Bus dA ba bu)))) → va_S A s.heap H locs → lv_has ls 9 [] → W p l e ({ frames := 3, cells := 0, slots := 0, locals := 64 } : Room) s m ([.ref (a 0), .int x0, .int x1, .int x2, .int x3] : List Value).toArray below meth c H locs 0 0 Q (F0 m 221 ls []) := by
    intro  H locs ls hf hP hD hS hl
    rw [f_X12_good_b221] at hf
    refine lv_iconst (v := (1 : Int32)) hx hb dX12_good_221 (by decide) ?_
    exact RET _ H _ ls 222 hf hP hD hS dX12_good_222
  have B_292 : ∀  (H : Heap) (locs : List Loc) (ls : Array Slot), f_X12_good_b292 mo y_who y_look bu  = some (rv) → va_P D vwCl (w_MO dA a (some (ba 0)) q1 g2 g3 g4 g5 g6 g7 (ha 0) (ca 0) g10 g11 g12 g13 g14 g15 g16 g17 g18 mo ++ (w_Who dA ha y_who ++ (w_Look dA ca y_look ++ (w_Bus dA ba bu)))) H → va_D A (w_MO dA a (some (ba 0)) q1 g2 g3 g4 g5 g6 g7 (ha 0) (ca 0) g10 g11 g12 g13 g14 g15 g16 g17 g18 mo ++ (w_Who dA ha y_who ++ (w_Look dA ca y_look ++ (w_Bus dA ba bu)))) → va_S A s.heap H locs → lv_has ls 9 [] → W p l e ({ frames := 3, cells := 0, slots := 0, locals := 64 } : Room) s m ([.ref (a 0), .int x0, .int x1, .int x2, .int x3] : List Value).toArray below meth c H locs 0 0 Q (F0 m 292 ls []) := by
    intro  H locs ls hf hP hD hS hl
    rw [f_X12_good_b292] at hf
    refine lv_iconst (v := (0 : Int32)) hx hb dX12_good_292 (by decide) ?_
    exact RET _ H _ ls 293 hf hP hD hS dX12_good_293
  have B_30 : ∀ (v1 : Int32) (v2 : Int32) (v3 : Int32) (v4 : Int32) (v5 : Int32) (s0 : Int32) (H : Heap) (locs : List Loc) (ls : Array Slot), f_X12_good_b30 mo y_who y_look bu v1 v2 v3 v4 v5 s0 = some (rv) → va_P D vwCl (w_MO dA a (some (ba 0)) q1 g2 g3 g4 g5 g6 g7 (ha 0) (ca 0) g10 g11 g12 g13 g14 g15 g16 g17 g18 mo ++ (w_Who dA ha y_who ++ (w_Look dA ca y_look ++ (w_Bus dA ba bu)))) H → va_D A (w_MO dA a (some (ba 0)) q1 g2 g3 g4 g5 g6 g7 (ha 0) (ca 0) g10 g11 g12 g13 g14 g15 g16 g17 g18 mo ++ (w_Who dA ha y_who ++ (w_Look dA ca y_look ++ (w_Bus dA ba bu)))) → va_S A s.heap H locs → lv_has ls 9 [(0, .ref (a 0)), (1, .int v1), (2, .int v2), (3, .int v3), (4, .int v4), (5, .int v5)] → W p l e ({ frames := 3, cells := 0, slots := 0, locals := 64 } : Room) s m ([.ref (a 0), .int x0, .int x1, .int x2, .int x3] : List Value).toArray below meth c H locs 0 0 Q (F0 m 30 ls [.int s0]) := by
    intro v1 v2 v3 v4 v5 s0 H locs ls hf hP hD hS hl
    rw [f_X12_good_b30] at hf
    refine lv_istore (lv' := [(6, .int s0), (0, .ref (a 0)), (1, .int v1), (2, .int v2), (3, .int v3), (4, .int v4), (5, .int v5)]) hx hb dX12_good_30 hl (by decide) rfl (fun ls hl => ?_)
    refine lv_iload_n hx hb dX12_good_32 rfl (lv_at hl 2 rfl) ?_
    by_cases c_3 : v1 = (0 : Int32)
    · rw [if_pos c_3] at hf
      refine lv_tableIn (tgt := 80) hx hb dX12_good_33 (by rw [c_3]; decide) (by rw [c_3]; decide) (by rw [c_3]; rfl) (by decide) ?_
      refine lv_iload hx hb dX12_good_80 (lv_at hl 0 rfl) ?_
      refine lv_if_eq (tgt := 89) hx hb dX12_good_82 (by decide) (fun c_4 => ?_) (fun c_4 => ?_)
      · rw [if_pos c_4] at hf
        refine lv_iconst (v := (1 : Int32)) hx hb dX12_good_89 (by decide) ?_
        exact RET _ H _ ls 90 hf hP hD hS dX12_good_90
      · rw [if_neg c_4] at hf
        refine lv_iconst (v := (0 : Int32)) hx hb dX12_good_85 (by decide) ?_
        refine lv_goto (tgt := 90) hx hb dX12_good_86 (by decide) ?_
        exact RET _ H _ ls 90 hf hP hD hS dX12_good_90
    · rw [if_neg c_3] at hf
      by_cases c_5 : v1 = (1 : Int32)
      · rw [if_pos c_5] at hf
        refine lv_tableIn (tgt := 91) hx hb dX12_good_33 (by rw [c_5]; decide) (by rw [c_5]; decide) (by rw [c_5]; rfl) (by decide) ?_
        refine lv_bipush (v := (99 : Int32)) hx hb dX12_good_91 (by decide) ?_
        refine lv_istore (lv' := [(7, .int (99 : Int32)), (6, .int s0), (0, .ref (a 0)), (1, .int v1), (2, .int v2), (3, .int v3), (4, .int v4), (5, .int v5)]) hx hb dX12_good_93 hl (by decide) rfl (fun ls hl => ?_)
        refine lv_iconst (v := (0 : Int32)) hx hb dX12_good_95 (by decide) ?_
        refine lv_istore (lv' := [(8, .int (0 : Int32)), (7, .int (99 : Int32)), (6, .int s0), (0, .ref (a 0)), (1, .int v1), (2, .int v2), (3, .int v3), (4, .int v4), (5, .int v5)]) hx hb dX12_good_96 hl (by decide) rfl (fun ls hl => ?_)
        exact B_98 4096 _ _ _ _ _ _ hf hP hD hS (lv_sub hl [3, 5, 1, 0] rfl)
      · rw [if_neg c_5] at hf
        by_cases c_12 : v1 = (2 : Int32)
        · rw [if_pos c_12] at hf
          refine lv_tableIn (tgt := 145) hx hb dX12_good_33 (by rw [c_12]; decide) (by rw [c_12]; decide) (by rw [c_12]; rfl) (by decide) ?_
          refine lv_iload_n hx hb dX12_good_145 rfl (lv_at hl 3 rfl) ?_
          refine lv_iconst (v := (3 : Int32)) hx hb dX12_good_146 (by decide) ?_
          refine lv_iand hx hb dX12_good_147 ?_
          obtain ⟨r13, hc13, hf⟩ := kb_bind hf
          refine kb_ci (ws2 := (w_MO dA a (some (ba 0)) q1 g2 g3 g4 g5 g6 g7 (ha 0) (ca 0) g10 g11 g12 g13 g14 g15 g16 g17 g18 mo ++ (w_Who dA ha y_who ++ (w_Look dA ca y_look ++ (w_Bus dA ba bu))))) (kb_rS (n := 1) (As := [.int (v2 &&& (3 : Int32))]) (rest := []) hx hb hml hown hK (c_X12_isWindow l D dA H.size (v2 &&& (3 : Int32)) r13 hc13) ⟨ww_7_151, ww_7_149, ww_7_150, ww_1_12, by decide, by decide⟩ rfl rfl (by decide +kernel) ⟨Nat.le_of_ble_eq_true rfl, Nat.le_of_ble_eq_true rfl⟩ hP hD hS hA hE [] rfl (by decide) rfl hl.1 rfl (Nat.le_of_ble_eq_true rfl) dX12_good_148 ⟨Nat.le_of_ble_eq_true rfl, Nat.le_of_ble_eq_true rfl⟩) hP hD hS hA [] [0, 1, 2, 3, 4, 5, 6, 7, 8, 9, 10, 11, 12, 13, 14, 15, 16, 17, 18] [0, 1, 2, 3, 4, 5, 6, 7, 8, 9, 10, 11, 12, 13, 14, 15, 16, 17, 18] rfl rfl (by decide) (by decide) rfl (by decide) (fun H locs hP hD hS => ?_)
          refine lv_if_eq (tgt := 158) hx hb dX12_good_151 (by decide) (fun c_14 => ?_) (fun c_14 => ?_)
          · rw [if_pos c_14] at hf
            refine lv_iconst (v := (0 : Int32)) hx hb dX12_good_158 (by decide) ?_
            exact RET _ H _ ls 159 hf hP hD hS dX12_good_159
          · rw [if_neg c_14] at hf
            refine lv_iconst (v := (1 : Int32)) hx hb dX12_good_154 (by decide) ?_
            refine lv_goto (tgt := 159) hx hb dX12_good_155 (by decide) ?_
            exact RET _ H _ ls 159 hf hP hD hS dX12_good_159
        · rw [if_neg c_12] at hf
          by_cases c_15 : v1 = (3 : Int32)
          · rw [if_pos c_15] at hf
            refine lv_tableIn (tgt := 160) hx hb dX12_good_33 (by rw [c_15]; decide) (by rw [c_15]; decide) (by rw [c_15]; rfl) (by decide) ?_
            refine lv_aload_n hx hb dX12_good_160 rfl (lv_at hl 1 rfl) ?_
            refine va_get (D := D) (ci := 12) (v := .ref (ba 0)) (C := RX12) (T := TX12) (N := 35) hx hb hts kb_inX12 hown hK.1 hP 0 rfl rfl 3 (by decide) (hK.2.w ww_5_203 rfl _) (fun _ h9 => h9) rfl dX12_good_161 ?_
            refine va_getN (D := D) (ci := 11) (v := .int (bu_form bu)) (C := RX11) (T := TX11) (N := 26) hx hb hts kb_inX11 hown hK.1 hP 3 rfl rfl 1 (by decide) (hK.2.nb ww_6_90 rfl rfl _) (fun _ h9 => h9) rfl dX12_good_164 ?_
            refine lv_iload_n hx hb dX12_good_167 rfl (lv_at hl 3 rfl) ?_
            refine lv_iconst (v := (3 : Int32)) hx hb dX12_good_168 (by decide) ?_
            refine lv_iand hx hb dX12_good_169 ?_
            obtain ⟨r16, hc16, hf⟩ := kb_bind hf
            refine kb_ci (ws2 := (w_MO dA a (some (ba 0)) q1 g2 g3 g4 g5 g6 g7 (ha 0) (ca 0) g10 g11 g12 g13 g14 g15 g16 g17 g18 mo ++ (w_Who dA ha y_who ++ (w_Look dA ca y_look ++ (w_Bus dA ba bu))))) (kb_rS (n := 2) (As := [.int (bu_form bu), .int (v2 &&& (3 : Int32))]) (rest := []) hx hb hml hown hK (c_X12_isAisleOf l D dA H.size (bu_form bu) (v2 &&& (3 : Int32)) r16 hc16) ⟨ww_7_148, ww_7_146, ww_7_147, ww_1_12, by decide, by decide⟩ rfl rfl (by decide +kernel) ⟨Nat.le_of_ble_eq_true rfl, Nat.le_of_ble_eq_true rfl⟩ hP hD hS hA hE [] rfl (by decide) rfl hl.1 rfl (Nat.le_of_ble_eq_true rfl) dX12_good_170 ⟨Nat.le_of_ble_eq_true rfl, Nat.le_of_ble_eq_true rfl⟩) hP hD hS hA [] [0, 1, 2, 3, 4, 5, 6, 7, 8, 9, 10, 11, 12, 13, 14, 15, 16, 17, 18] [0, 1, 2, 3, 4, 5, 6, 7, 8, 9, 10, 11, 12, 13, 14, 15, 16, 17, 18] rfl rfl (by decide) (by decide) rfl (by decide) (fun H locs hP hD hS => ?_)
            refine lv_if_eq (tgt := 180) hx hb dX12_good_173 (by decide) (fun c_17 => ?_) (fun c_17 => ?_)
            · rw [if_pos c_17] at hf
              refine lv_iconst (v := (0 : Int32)) hx hb dX12_good_180 (by decide) ?_
              exact RET _ H _ ls 181 hf hP hD hS dX12_good_181
            · rw [if_neg c_17] at hf
              refine lv_iconst (v := (1 : Int32)) hx hb dX12_good_176 (by decide) ?_
              refine lv_goto (tgt := 181) hx hb dX12_good_177 (by decide) ?_
              exact RET _ H _ ls 181 hf hP hD hS dX12_good_181
          · rw [if_neg c_15] at hf
            by_cases c_18 : v1 = (4 : Int32)
            · rw [if_pos c_18] at hf
              refine lv_tableIn (tgt := 182) hx hb dX12_good_33 (by rw [c_18]; decide) (by rw [c_18]; decide) (by rw [c_18]; rfl) (by decide) ?_
              refine lv_iload_n hx hb dX12_good_182 rfl (lv_at hl 3 rfl) ?_
              refine lv_iconst (v := (2 : Int32)) hx hb dX12_good_183 (by decide) ?_
              refine lv_ishr hx hb dX12_good_184 ?_
              refine lv_ineg hx hb dX12_good_185 ?_
              exact RET _ H _ ls 186 hf hP hD hS dX12_good_186
            · rw [if_neg c_18] at hf
              by_cases c_19 : v1 = (5 : Int32)
              · rw [if_pos c_19] at hf
                refine lv_tableIn (tgt := 187) hx hb dX12_good_33 (by rw [c_19]; decide) (by rw [c_19]; decide) (by rw [c_19]; rfl) (by decide) ?_
                refine lv_iload_n hx hb dX12_good_187 rfl (lv_at hl 3 rfl) ?_
                refine lv_iconst (v := (2 : Int32)) hx hb dX12_good_188 (by decide) ?_
                refine lv_ishr hx hb dX12_good_189 ?_
                exact RET _ H _ ls 190 hf hP hD hS dX12_good_190
              · rw [if_neg c_19] at hf
                by_cases c_20 : v1 = (6 : Int32)
                · rw [if_pos c_20] at hf
                  refine lv_tableIn (tgt := 191) hx hb dX12_good_33 (by rw [c_20]; decide) (by rw [c_20]; decide) (by rw [c_20]; rfl) (by decide) ?_
                  refine lv_aload_n hx hb dX12_good_191 rfl (lv_at hl 1 rfl) ?_
                  refine va_get (D := D) (ci := 12) (v := .ref (ba 0)) (C := RX12) (T := TX12) (N := 35) hx hb hts kb_inX12 hown hK.1 hP 0 rfl rfl 3 (by decide) (hK.2.w ww_5_203 rfl _) (fun _ h9 => h9) rfl dX12_good_192 ?_
                  refine va_getN (D := D) (ci := 11) (v := .int (bu_sun bu)) (C := RX11) (T := TX11) (N := 26) hx hb hts kb_inX11 hown hK.1 hP 3 rfl rfl 5 (by decide) (hK.2.nb ww_6_94 rfl rfl _) (fun _ h9 => h9) rfl dX12_good_195 ?_
                  refine lv_iconst (v := (-1 : Int32)) hx hb dX12_good_198 (by decide) ?_
                  refine lv_icmp_eq (tgt := 221) hx hb dX12_good_199 (by decide) (fun c_21 => ?_) (fun c_21 => ?_)
                  · rw [if_pos c_21] at hf
                    exact B_221 _ _ _ hf hP hD hS (lv_sub hl [] rfl)
                  · rw [if_neg c_21] at hf
                    refine lv_iload_n hx hb dX12_good_202 rfl (lv_at hl 3 rfl) ?_
                    refine lv_iconst (v := (3 : Int32)) hx hb dX12_good_203 (by decide) ?_
                    refine lv_iand hx hb dX12_good_204 ?_
                    refine lv_iconst (v := (1 : Int32)) hx hb dX12_good_205 (by decide) ?_
                    refine lv_ishr hx hb dX12_good_206 ?_
                    refine lv_aload_n hx hb dX12_good_207 rfl (lv_at hl 1 rfl) ?_
                    refine va_get (D := D) (ci := 12) (v := .ref (ba 0)) (C := RX12) (T := TX12) (N := 35) hx hb hts kb_inX12 hown hK.1 hP 0 rfl rfl 3 (by decide) (hK.2.w ww_5_203 rfl _) (fun _ h9 => h9) rfl dX12_good_208 ?_
                    refine va_getN (D := D) (ci := 11) (v := .int (bu_sun bu)) (C := RX11) (T := TX11) (N := 26) hx hb hts kb_inX11 hown hK.1 hP 3 rfl rfl 5 (by decide) (hK.2.nb ww_6_94 rfl rfl _) (fun _ h9 => h9) rfl dX12_good_211 ?_
                    refine lv_icmp_ne (tgt := 221) hx hb dX12_good_214 (by decide) (fun c_22 => ?_) (fun c_22 => ?_)
                    · rw [if_neg c_22] at hf
                      exact B_221 _ _ _ hf hP hD hS (lv_sub hl [] rfl)
                    · rw [if_pos c_22] at hf
                      refine lv_iconst (v := (0 : Int32)) hx hb dX12_good_217 (by decide) ?_
                      refine lv_goto (tgt := 222) hx hb dX12_good_218 (by decide) ?_
                      exact RET _ H _ ls 222 hf hP hD hS dX12_good_222
                · rw [if_neg c_20] at hf
                  by_cases c_23 : v1 = (7 : Int32)
                  · rw [if_pos c_23] at hf
                    refine lv_tableIn (tgt := 223) hx hb dX12_good_33 (by rw [c_23]; decide) (by rw [c_23]; decide) (by rw [c_23]; rfl) (by decide) ?_
                    refine lv_iload hx hb dX12_good_223 (lv_at hl 0 rfl) ?_
                    refine lv_if_eq (tgt := 244) hx hb dX12_good_225 (by decide) (fun c_24 => ?_) (fun c_24 => ?_)
                    · rw [if_pos c_24] at hf
                      refine lv_bipush (v := (-5 : Int32)) hx hb dX12_good_244 (by decide) ?_
                      exact RET _ H _ ls 246 hf hP hD hS dX12_good_246
                    · rw [if_neg c_24] at hf
                      refine lv_iload hx hb dX12_good_228 (lv_at hl 5 rfl) ?_
                      refine lv_aload_n hx hb dX12_good_230 rfl (lv_at hl 1 rfl) ?_
                      refine va_get (D := D) (ci := 12) (v := .ref (ca 0)) (C := RX12) (T := TX12) (N := 35) hx hb hts kb_inX12 hown hK.1 hP 0 rfl rfl 23 (by decide) (hK.2.w ww_5_223 rfl _) (fun _ h9 => h9) rfl dX12_good_231 ?_
                      refine lv_iload hx hb dX12_good_234 (lv_at hl 6 rfl) ?_
                      obtain ⟨h_25, hf⟩ := kb_if hf
                      refine va_iald (D := D) hx hb hK.1 hP 2 0 rfl rfl h_25 dX12_good_236 ?_
                      obtain ⟨r26, hc26, hf⟩ := kb_bind hf
                      refine kb_ci (ws2 := (w_MO dA a (some (ba 0)) q1 g2 g3 g4 g5 g6 g7 (ha 0) (ca 0) g10 g11 g12 g13 g14 g15 g16 g17 g18 mo ++ (w_Who dA ha y_who ++ (w_Look dA ca y_look ++ (w_Bus dA ba bu))))) (kb_rS (n := 2) (As := [.int v4, .int ((yLook_r y_look) (v5).toNatClampNeg)]) (rest := []) hx hb hml hown hK (c_X12_far l D dA H.size v4 ((yLook_r y_look) (v5).toNatClampNeg) r26 hc26) ⟨ww_7_135, ww_7_133, ww_7_134, ww_1_12, by decide, by decide⟩ rfl rfl (by decide +kernel) ⟨Nat.le_of_ble_eq_true rfl, Nat.le_of_ble_eq_true rfl⟩ hP hD hS hA hE [] rfl (by decide) rfl hl.1 rfl (Nat.le_of_ble_eq_true rfl) dX12_good_237 ⟨Nat.le_of_ble_eq_true rfl, Nat.le_of_ble_eq_true rfl⟩) hP hD hS hA [] [0, 1, 2, 3, 4, 5, 6, 7, 8, 9, 10, 11, 12, 13, 14, 15, 16, 17, 18] [0, 1, 2, 3, 4, 5, 6, 7, 8, 9, 10, 11, 12, 13, 14, 15, 16, 17, 18] rfl rfl (by decide) (by decide) rfl (by decide) (fun H locs hP hD hS => ?_)
                      refine lv_ineg hx hb dX12_good_240 ?_
                      refine lv_goto (tgt := 246) hx hb dX12_good_241 (by decide) ?_
                      exact RET _ H _ ls 246 hf hP hD hS dX12_good_246
                  · rw [if_neg c_23] at hf
                    refine lv_tableOut (tgt := 247) hx hb dX12_good_33 (kb_sw 0 7 (fun k q1 q2 => by
                        rcases (show k = 0 ∨ k = 1 ∨ k = 2 ∨ k = 3 ∨ k = 4 ∨ k = 5 ∨ k = 6 ∨ k = 7 by omega) with rfl | rfl | rfl | rfl | rfl | rfl | rfl | rfl
                        · exact fun e => c_3 (e.trans (by decide))
                        · exact fun e => c_5 (e.trans (by decide))
                        · exact fun e => c_12 (e.trans (by decide))
                        · exact fun e => c_15 (e.trans (by decide))
                        · exact fun e => c_18 (e.trans (by decide))
                        · exact fun e => c_19 (e.trans (by decide))
                        · exact fun e => c_20 (e.trans (by decide))
                        · exact fun e => c_23 (e.trans (by decide)))) (by decide) ?_
                    refine lv_iload hx hb dX12_good_247 (lv_at hl 0 rfl) ?_
                    refine lv_if_eq (tgt := 292) hx hb dX12_good_249 (by decide) (fun c_27 => ?_) (fun c_27 => ?_)
                    · rw [if_pos c_27] at hf
                      exact B_292 _ _ _ hf hP hD hS (lv_sub hl [] rfl)
                    · rw [if_neg c_27] at hf
                      refine lv_iload_n hx hb dX12_good_252 rfl (lv_at hl 4 rfl) ?_
                      refine lv_bipush (v := (-2 : Int32)) hx hb dX12_good_253 (by decide) ?_
                      refine lv_icmp_eq (tgt := 292) hx hb dX12_good_255 (by decide) (fun c_28 => ?_) (fun c_28 => ?_)
                      · rw [if_pos c_28] at hf
                        exact B_292 _ _ _ hf hP hD hS (lv_sub hl [] rfl)
                      · rw [if_neg c_28] at hf
                        refine lv_aload_n hx hb dX12_good_258 rfl (lv_at hl 1 rfl) ?_
                        refine va_get (D := D) (ci := 12) (v := .ref (ha 0)) (C := RX12) (T := TX12) (N := 35) hx hb hts kb_inX12 hown hK.1 hP 0 rfl rfl 22 (by decide) (hK.2.w ww_5_222 rfl _) (fun _ h9 => h9) rfl dX12_good_259 ?_
                        refine lv_iload hx hb dX12_good_262 (lv_at hl 6 rfl) ?_
                        obtain ⟨h_29, hf⟩ := kb_if hf
                        refine va_iald (D := D) hx hb hK.1 hP 1 0 rfl rfl h_29 dX12_good_264 ?_
                        refine lv_bipush (v := (99 : Int32)) hx hb dX12_good_265 (by decide) ?_
                        refine lv_icmp_eq (tgt := 292) hx hb dX12_good_267 (by decide) (fun c_30 => ?_) (fun c_30 => ?_)
                        · rw [if_pos c_30] at hf
                          exact B_292 _ _ _ hf hP hD hS (lv_sub hl [] rfl)
                        · rw [if_neg c_30] at hf
                          refine lv_aload_n hx hb dX12_good_270 rfl (lv_at hl 1 rfl) ?_
                          refine va_get (D := D) (ci := 12) (v := .ref (ba 0)) (C := RX12) (T := TX12) (N := 35) hx hb hts kb_inX12 hown hK.1 hP 0 rfl rfl 3 (by decide) (hK.2.w ww_5_203 rfl _) (fun _ h9 => h9) rfl dX12_good_271 ?_
                          refine lv_iload_n hx hb dX12_good_274 rfl (lv_at hl 4 rfl) ?_
                          refine lv_aload_n hx hb dX12_good_275 rfl (lv_at hl 1 rfl) ?_
                          refine va_get (D := D) (ci := 12) (v := .ref (ha 0)) (C := RX12) (T := TX12) (N := 35) hx hb hts kb_inX12 hown hK.1 hP 0 rfl rfl 22 (by decide) (hK.2.w ww_5_222 rfl _) (fun _ h9 => h9) rfl dX12_good_276 ?_
                          refine lv_iload hx hb dX12_good_279 (lv_at hl 6 rfl) ?_
                          obtain ⟨h_31, hf⟩ := kb_if hf
                          refine va_iald (D := D) hx hb hK.1 hP 1 0 rfl rfl h_31 dX12_good_281 ?_
                          obtain ⟨r32, hc32, hf⟩ := kb_bind hf
                          refine kb_ci (ws2 := (w_MO dA a (some (ba 0)) q1 g2 g3 g4 g5 g6 g7 (ha 0) (ca 0) g10 g11 g12 g13 g14 g15 g16 g17 g18 mo ++ (w_Who dA ha y_who ++ (w_Look dA ca y_look ++ (w_Bus dA ba bu))))) (kb_rV (n := 2) (As := [.int v3, .int ((yWho_r y_who) (v5).toNatClampNeg)]) (rest := []) hx hb hml hown hK (c_X11_areFriends l D dA H.size ba bu v3 ((yWho_r y_who) (v5).toNatClampNeg) r32 hc32) ⟨ww_7_86, ww_7_83, ww_7_84, ww_7_85, ww_1_18, rfl, by decide, by decide⟩ rfl rfl (by decide +kernel) ⟨Nat.le_of_ble_eq_true rfl, Nat.le_of_ble_eq_true rfl⟩ hP hD hS hA hE [3, 4, 5, 6, 7, 8, 9, 10, 11, 12, 13, 14, 15, 16, 17, 18] rfl (by decide) 0 rfl rfl rfl hl.1 rfl (Nat.le_of_ble_eq_true rfl) dX12_good_282 ⟨Nat.le_of_ble_eq_true rfl, Nat.le_of_ble_eq_true rfl⟩) hP hD hS hA [3, 4, 5, 6, 7, 8, 9, 10, 11, 12, 13, 14, 15, 16, 17, 18] [0, 1, 2] [0, 1, 2, 3, 4, 5, 6, 7, 8, 9, 10, 11, 12, 13, 14, 15, 16, 17, 18] rfl rfl (by decide) (by decide) rfl (by decide) (fun H locs hP hD hS => ?_)
                          refine lv_if_eq (tgt := 292) hx hb dX12_good_285 (by decide) (fun c_33 => ?_) (fun c_33 => ?_)
                          · rw [if_pos c_33] at hf
                            exact B_292 _ _ _ hf hP hD hS (lv_sub hl [] rfl)
                          · rw [if_neg c_33] at hf
                            refine lv_iconst (v := (1 : Int32)) hx hb dX12_good_288 (by decide) ?_
                            refine lv_goto (tgt := 293) hx hb dX12_good_289 (by decide) ?_
                            exact RET _ H _ ls 293 hf hP hD hS dX12_good_293
  have B_29 : ∀ (v1 : Int32) (v2 : Int32) (v3 : Int32) (v4 : Int32) (v5 : Int32) (H : Heap) (locs : List Loc) (ls : Array Slot), f_X12_good_b29 mo y_who y_look bu v1 v2 v3 v4 v5 = some (rv) → va_P D vwCl (w_MO dA a (some (ba 0)) q1 g2 g3 g4 g5 g6 g7 (ha 0) (ca 0) g10 g11 g12 g13 g14 g15 g16 g17 g18 mo ++ (w_Who dA ha y_who ++ (w_Look dA ca y_look ++ (w_Bus dA ba bu)))) H → va_D A (w_MO dA a (some (ba 0)) q1 g2 g3 g4 g5 g6 g7 (ha 0) (ca 0) g10 g11 g12 g13 g14 g15 g16 g17 g18 mo ++ (w_Who dA ha y_who ++ (w_Look dA ca y_look ++ (w_Bus dA ba bu)))) → va_S A s.heap H locs → lv_has ls 9 [(0, .ref (a 0)), (1, .int v1), (2, .int v2), (3, .int v3), (4, .int v4), (5, .int v5)] → W p l e ({ frames := 3, cells := 0, slots := 0, locals := 64 } : Room) s m ([.ref (a 0), .int x0, .int x1, .int x2, .int x3] : List Value).toArray below meth c H locs 0 0 Q (F0 m 29 ls []) := by
    intro v1 v2 v3 v4 v5 H locs ls hf hP hD hS hl
    rw [f_X12_good_b29] at hf
    refine lv_iconst (v := (0 : Int32)) hx hb dX12_good_29 (by decide) ?_
    exact B_30 _ _ _ _ _ _ _ _ _ hf hP hD hS (lv_sub hl [0, 1, 2, 3, 4, 5] rfl)
  have E0 : ∀ (H : Heap) (locs : List Loc), va_P D vwCl (w_MO dA a (some (ba 0)) q1 g2 g3 g4 g5 g6 g7 (ha 0) (ca 0) g10 g11 g12 g13 g14 g15 g16 g17 g18 mo ++ (w_Who dA ha y_who ++ (w_Look dA ca y_look ++ (w_Bus dA ba bu)))) H → va_D A (w_MO dA a (some (ba 0)) q1 g2 g3 g4 g5 g6 g7 (ha 0) (ca 0) g10 g11 g12 g13 g14 g15 g16 g17 g18 mo ++ (w_Who dA ha y_who ++ (w_Look dA ca y_look ++ (w_Bus dA ba bu)))) → va_S A s.heap H locs → W p l e ({ frames := 3, cells := 0, slots := 0, locals := 64 } : Room) s m ([.ref (a 0), .int x0, .int x1, .int x2, .int x3] : List Value).toArray below meth c H locs 0 0 Q (F0 m 0 ls []) := by
    intro H locs hP hD hS
    rw [f_X12_good] at hf
    refine lv_aload_n hx hb dX12_good_0 rfl (lv_at hl 0 rfl) ?_
    refine lv_iload_n hx hb dX12_good_1 rfl (lv_at hl 2 rfl) ?_
    obtain ⟨r1, hc1, hf⟩ := kb_bind hf
    refine kb_ci (ws2 := (w_MO dA a (some (ba 0)) q1 g2 g3 g4 g5 g6 g7 (ha 0) (ca 0) g10 g11 g12 g13 g14 g15 g16 g17 g18 mo ++ (w_Who dA ha y_who ++ (w_Look dA ca y_look ++ (w_Bus dA ba bu))))) (kb_rV (n := 1) (As := [.int x1]) (rest := []) hx hb hml hown hK (c_X12_beside l D dA H.size a ba q1 g2 g3 g4 g5 g6 g7 (ha 0) (ca 0) g10 g11 g12 g13 g14 g15 g16 g17 g18 mo bu x1 r1 hc1) ⟨ww_7_139, ww_7_136, ww_7_138, ws_77, ww_1_12, rfl, by decide, by decide⟩ rfl rfl (by decide +kernel) ⟨Nat.le_of_ble_eq_true rfl, Nat.le_of_ble_eq_true rfl⟩ hP hD hS hA hE [0, 3, 4, 5, 6, 7, 8, 9, 10, 11, 12, 13, 14, 15, 16, 17, 18] rfl (by decide) 0 rfl rfl rfl hl.1 rfl (Nat.le_of_ble_eq_true rfl) dX12_good_2 ⟨Nat.le_of_ble_eq_true rfl, Nat.le_of_ble_eq_true rfl⟩) hP hD hS hA [0, 3, 4, 5, 6, 7, 8, 9, 10, 11, 12, 13, 14, 15, 16, 17, 18] [1, 2] [2, 0, 1, 3, 4, 5, 6, 7, 8, 9, 10, 11, 12, 13, 14, 15, 16, 17, 18] rfl rfl (by decide) (by decide) rfl (by decide) (fun H locs hP hD hS => ?_)
    refine lv_istore (lv' := [(5, .int r1), (0, .ref (a 0)), (1, .int x0), (2, .int x1), (3, .int x2), (4, .int x3)]) hx hb dX12_good_5 hl (by decide) rfl (fun ls hl => ?_)
    refine lv_iload hx hb dX12_good_7 (lv_at hl 0 rfl) ?_
    refine lv_iconst (v := (-1 : Int32)) hx hb dX12_good_9 (by decide) ?_
    refine lv_icmp_eq (tgt := 29) hx hb dX12_good_10 (by decide) (fun c_2 => ?_) (fun c_2 => ?_)
    · rw [if_pos c_2] at hf
      exact B_29 _ _ _ _ _ _ _ _ hf hP hD hS (lv_sub hl [1, 2, 3, 4, 5, 0] rfl)
    · rw [if_neg c_2] at hf
      refine lv_aload_n hx hb dX12_good_13 rfl (lv_at hl 1 rfl) ?_
      refine va_get (D := D) (ci := 12) (v := .ref (ha 0)) (C := RX12) (T := TX12) (N := 35) hx hb hts kb_inX12 hown hK.1 hP 0 rfl rfl 22 (by decide) (hK.2.w ww_5_222 rfl _) (fun _ h9 => h9) rfl dX12_good_14 ?_
      refine lv_iload hx hb dX12_good_17 (lv_at hl 0 rfl) ?_
      obtain ⟨h_34, hf⟩ := kb_if hf
      refine va_iald (D := D) hx hb hK.1 hP 1 0 rfl rfl h_34 dX12_good_19 ?_
      refine lv_bipush (v := (-2 : Int32)) hx hb dX12_good_20 (by decide) ?_
      refine lv_icmp_eq (tgt := 29) hx hb dX12_good_22 (by decide) (fun c_35 => ?_) (fun c_35 => ?_)
      · rw [if_pos c_35] at hf
        exact B_29 _ _ _ _ _ _ _ _ hf hP hD hS (lv_sub hl [1, 2, 3, 4, 5, 0] rfl)
      · rw [if_neg c_35] at hf
        refine lv_iconst (v := (1 : Int32)) hx hb dX12_good_25 (by decide) ?_
        refine lv_goto (tgt := 30) hx hb dX12_good_26 (by decide) ?_
        exact B_30 _ _ _ _ _ _ _ _ _ hf hP hD hS (lv_sub hl [1, 2, 3, 4, 5, 0] rfl)
  exact E0 _ _ hP hD hS

noncomputable def f_X12_best_b86 (mo : MOT) (y_who : WhoT) (y_look : LookT) (bu : BusT) (k6 : Int32 → Int32 → Int32 → Int32 → Int32 → Option (Int32)) (k31 : Int32 → Int32 → Int32 → Int32 → Int32 → Int32 → Int32 → Int32 → Option (Int32)) (v2 : Int32) (v3 : Int32) (v4 : Int32) (v5 : Int32) (v6 : Int32) (v7 : Int32) (v8 : Int32) (v9 : Int32) (v10 : Int32) : Option (Int32) := (if v7 ≤ v10 then k31 v2 v3 v4 v5 v6 v10 (v8 ||| ((1 : Int32) <<< (v9 &&& 31))) (v9 + (1 : Int32)) else k31 v2 v3 v4 v5 v6 v7 v8 (v9 + (1 : Int32)))
noncomputable def f_X12_best_b31 (mo : MOT) (y_who : WhoT) (y_look : LookT) (bu : BusT) (k6 : Int32 → Int32 → Int32 → Int32 → Int32 → Option (Int32)) : Nat → Int32 → Int32 → Int32 → Int32 → Int32 → Int32 → Int32 → Int32 → Option (Int32)
  | 0, _, _, _, _, _, _, _, _ => none
  | n + 1, v2, v3, v4, v5, v6, v7, v8, v9 => (if (20 : Int32) ≤ v9 then k6 v2 v3 v4 v8 (v6 + (1 : Int32)) else (f_X12_has v5 v9).bind fun r4 => (if r4 = 0 then f_X12_best_b31 mo y_who y_look bu k6 n v2 v3 v4 v5 v6 v7 v8 (v9 + (1 : Int32)) else if kb_in? (((4 : Int32) * v2) + v6) 16 then (f_X12_good mo y_who y_look bu ((bu_way bu) ((((4 : Int32) * v2) + v6)).toNatClampNeg) v9 v3 v4).bind fun r7 => (if r7 ≤ v7 then f_X12_best_b86 mo y_who y_look bu k6 (f_X12_best_b31 mo y_who y_look bu k6 n) v2 v3 v4 v5 v6 v7 v8 v9 r7 else f_X12_best_b86 mo y_who y_look bu k6 (f_X12_best_b31 mo y_who y_look bu k6 n) v2 v3 v4 v5 v6 v7 (0 : Int32) v9 r7) else none))
noncomputable def f_X12_best_b6 (mo : MOT) (y_who : WhoT) (y_look : LookT) (bu : BusT) : Nat → Int32 → Int32 → Int32 → Int32 → Int32 → Option (Int32)
  | 0, _, _, _, _, _ => none
  | n + 1, v2, v3, v4, v5, v6 => if kb_in? v2 4 then (if ((bu_waysMany bu) (v2).toNatClampNeg) ≤ v6 then some (v5) else f_X12_best_b31 mo y_who y_look bu (f_X12_best_b6 mo y_who y_look bu n) 4096 v2 v3 v4 v5 v6 (-2147483648 : Int32) (0 : Int32) (0 : Int32)) else none
noncomputable def f_X12_best (mo : MOT) (y_who : WhoT) (y_look : LookT) (bu : BusT) (x0 : Int32) (x1 : Int32) (x2 : Int32) (x3 : Int32) : Option (Int32) := f_X12_best_b6 mo y_who y_look bu 4096 x1 x2 x3 x0 (0 : Int32)
set_option maxHeartbeats 4000000 in
set_option maxRecDepth 100000 in
theorem c_X12_best (l : Launch) (D : va_G) (dA : Nat → ClassId) (sz : Nat) (a : Nat → Nat) (ha : Nat → Nat) (ca : Nat → Nat) (ba : Nat → Nat) (q1 : Option Nat) (g2 : Nat) (g3 : Nat) (g4 : Nat) (g5 : Nat) (g6 : Nat) (g7 : Nat) (g10 : Nat) (g11 : Nat) (g12 : Nat) (g13 : Nat) (g14 : Nat) (g15 : Nat) (g16 : Nat) (g17 : Nat) (g18 : Nat) (mo : MOT) (y_who : WhoT) (y_look : LookT) (bu : BusT) (x0 : Int32) (x1 : Int32) (x2 : Int32) (x3 : Int32) (rv : Int32) (hf : f_X12_best mo y_who y_look bu x0 x1 x2 x3 = some (rv)) : kb_Mi l yX12_best cX12_best 11 (some .int) ({ frames := 4, cells := 0, slots := 0, locals := 92 } : Room) D dA [.ref (a 0), .int x0, .int x1, .int x2, .int x3] sz (w_MO dA a (some (ba 0)) q1 g2 g3 g4 g5 g6 g7 (ha 0) (ca 0) g10 g11 g12 g13 g14 g15 g16 g17 g18 mo ++ (w_Who dA ha y_who ++ (w_Look dA ca y_look ++ (w_Bus dA ba bu)))) 0 0 rv (w_MO dA a (some (ba 0)) q1 g2 g3 g4 g5 g6 g7 (ha 0) (ca 0) g10 g11 g12 g13 g14 g15 g16 g17 g18 mo ++ (w_Who dA ha y_who ++ (w_Look dA ca y_look ++ (w_Bus dA ba bu)))) := by
  refine Met.ofW (cc := cX12_best) (maxL := 11) (ret := (some .int)) (by decide) rfl ?_
  intro p e s m args below meth c s₁ B hml hv
  obtain ⟨rfl, hsz, hP, hK, hD0, hE⟩ := hv
  have hx := B.exec
  have hb := B.bytes
  have hr := B.returns
  have hown : s.vm.findClass RX12 = some m.cls := findClass_of_methodNamed B.named
  have hlocks := B.notSynchronized
  have hts : ∀ w ∈ kb_gw, w.before ([.ref (a 0), .int x0, .int x1, .int x2, .int x3] : List Value).toArray s = true := fun w hw => hK.2.1 w hw _
  subst hsz
  have hD := hD0.self (sz := s.heap.size)
  generalize hAe : va_A (w_MO dA a (some (ba 0)) q1 g2 g3 g4 g5 g6 g7 (ha 0) (ca 0) g10 g11 g12 g13 g14 g15 g16 g17 g18 mo ++ (w_Who dA ha y_who ++ (w_Look dA ca y_look ++ (w_Bus dA ba bu)))) s.heap.size = A at hD hE ⊢
  have hA : ∀ q : Nat, s.heap.size ≤ q → A q := fun q h => by rw [← hAe]; exact Or.inr h
  have hS : va_S A s.heap s.heap [] := va_S.rf
  have hl := lv_entry ([.ref (a 0), .int x0, .int x1, .int x2, .int x3]) (n := 11) (Nat.le_of_ble_eq_true rfl)
  rw [lg_entry_eq]
  generalize (lg_sl ([.ref (a 0), .int x0, .int x1, .int x2, .int x3]) ++ List.replicate (11 - (lg_sl ([.ref (a 0), .int x0, .int x1, .int x2, .int x3])).length) Slot.unset).toArray = ls at hl ⊢
  have hl : lv_has ls 11 [(0, .ref (a 0)), (1, .int x0), (2, .int x1), (3, .int x2), (4, .int x3)] := hl
  generalize hQ : MQ below (va_Qi (fun r (_ : Unit) => r = rv) (kb_B D A (w_MO dA a (some (ba 0)) q1 g2 g3 g4 g5 g6 g7 (ha 0) (ca 0) g10 g11 g12 g13 g14 g15 g16 g17 g18 mo ++ (w_Who dA ha y_who ++ (w_Look dA ca y_look ++ (w_Bus dA ba bu))))) A) ([.ref (a 0), .int x0, .int x1, .int x2, .int x3] : List Value).toArray s 0 0 A = Q
  show W p l e ({ frames := 4, cells := 0, slots := 0, locals := 92 } : Room) s m ([.ref (a 0), .int x0, .int x1, .int x2, .int x3] : List Value).toArray below meth c s.heap [] 0 0 Q (F0 m 0 ls [])
  have RET : ∀ (r2 : Int32) (H : Heap) (locs : List Loc) (ls : Array Slot) (pc : Nat), some (r2) = some (rv) → va_P D vwCl (w_MO dA a (some (ba 0)) q1 g2 g3 g4 g5 g6 g7 (ha 0) (ca 0) g10 g11 g12 g13 g14 g15 g16 g17 g18 mo ++ (w_Who dA ha y_who ++ (w_Look dA ca y_look ++ (w_Bus dA ba bu)))) H → va_D A (w_MO dA a (some (ba 0)) q1 g2 g3 g4 g5 g6 g7 (ha 0) (ca 0) g10 g11 g12 g13 g14 g15 g16 g17 g18 mo ++ (w_Who dA ha y_who ++ (w_Look dA ca y_look ++ (w_Bus dA ba bu)))) → va_S A s.heap H locs → decode cX12_best pc = .ok (.ireturn, 1) → W p l e ({ frames := 4, cells := 0, slots := 0, locals := 92 } : Room) s m ([.ref (a 0), .int x0, .int x1, .int x2, .int x3] : List Value).toArray below meth c H locs 0 0 Q (F0 m pc ls [.int r2]) := by
    intro r2 H locs ls pc hq hP hD hS hd
    cases hq
    rw [← hQ]
    exact W.iret hx hb hr (fun t ht hW => ⟨⟨_, (), rfl, rfl, by rw [ht]; exact hP, hD⟩, hS.F ht⟩) hS.2.2 hd
  have B_86 : ∀ (k6 : Int32 → Int32 → Int32 → Int32 → Int32 → Option (Int32)) (hk6 : ∀ (v2 : Int32) (v3 : Int32) (v4 : Int32) (v5 : Int32) (v6 : Int32) (H : Heap) (locs : List Loc) (ls : Array Slot), k6 v2 v3 v4 v5 v6 = some (rv) → va_P D vwCl (w_MO dA a (some (ba 0)) q1 g2 g3 g4 g5 g6 g7 (ha 0) (ca 0) g10 g11 g12 g13 g14 g15 g16 g17 g18 mo ++ (w_Who dA ha y_who ++ (w_Look dA ca y_look ++ (w_Bus dA ba bu)))) H → va_D A (w_MO dA a (some (ba 0)) q1 g2 g3 g4 g5 g6 g7 (ha 0) (ca 0) g10 g11 g12 g13 g14 g15 g16 g17 g18 mo ++ (w_Who dA ha y_who ++ (w_Look dA ca y_look ++ (w_Bus dA ba bu)))) → va_S A s.heap H locs → lv_has ls 11 [(0, .ref (a 0)), (2, .int v2), (3, .int v3), (4, .int v4), (5, .int v5), (6, .int v6)] → W p l e ({ frames := 4, cells := 0, slots := 0, locals := 92 } : Room) s m ([.ref (a 0), .int x0, .int x1, .int x2, .int x3] : List Value).toArray below meth c H locs 0 0 Q (F0 m 6 ls [])) (k31 : Int32 → Int32 → Int32 → Int32 → Int32 → Int32 → Int32 → Int32 → Option (Int32)) (hk31 : ∀ (v2 : Int32) (v3 : Int32) (v4 : Int32) (v5 : Int32) (v6 : Int32) (v7 : Int32) (v8 : Int32) (v9 : Int32) (H : Heap) (locs : List Loc) (ls : Array Slot), k31 v2 v3 v4 v5 v6 v7 v8 v9 = some (rv) → va_P D vwCl (w_MO dA a (some (ba 0)) q1 g2 g3 g4 g5 g6 g7 (ha 0) (ca 0) g10 g11 g12 g13 g14 g15 g16 g17 g18 mo ++ (w_Who dA ha y_who ++ (w_Look dA ca y_look ++ (w_Bus dA ba bu)))) H → va_D A (w_MO dA a (some (ba 0)) q1 g2 g3 g4 g5 g6 g7 (ha 0) (ca 0) g10 g11 g12 g13 g14 g15 g16 g17 g18 mo ++ (w_Who dA ha y_who ++ (w_Look dA ca y_look ++ (w_Bus dA ba bu)))) → va_S A s.heap H locs → lv_has ls 11 [(0, .ref (a 0)), (2, .int v2), (3, .int v3), (4, .int v4), (5, .int v5), (6, .int v6), (7, .int v7), (8, .int v8), (9, .int v9)] → W p l e ({ frames := 4, cells := 0, slots := 0, locals := 92 } : Room) s m ([.ref (a 0), .int x0, .int x1, .int x2, .int x3] : List Value).toArray below meth c H locs 0 0 Q (F0 m 31 ls [])) (v2 : Int32) (v3 : Int32) (v4 : Int32) (v5 : Int32) (v6 : Int32) (v7 : Int32) (v8 : Int32) (v9 : Int32) (v10 : Int32) (H : Heap) (locs : List Loc) (ls : Array Slot), f_X12_best_b86 mo y_who y_look bu k6 k31 v2 v3 v4 v5 v6 v7 v8 v9 v10 = some (rv) → va_P D vwCl (w_MO dA a (some (ba 0)) q1 g2 g3 g4 g5 g6 g7 (ha 0) (ca 0) g10 g11 g12 g13 g14 g15 g16 g17 g18 mo ++ (w_Who dA ha y_who ++ (w_Look dA ca y_look ++ (w_Bus dA ba bu)))) H → va_D A (w_MO dA a (some (ba 0)) q1 g2 g3 g4 g5 g6 g7 (ha 0) (ca 0) g10 g11 g12 g13 g14 g15 g16 g17 g18 mo ++ (w_Who dA ha y_who ++ (w_Look dA ca y_look ++ (w_Bus dA ba bu)))) → va_S A s.heap H locs → lv_has ls 11 [(0, .ref (a 0)), (2, .int v2), (3, .int v3), (4, .int v4), (5, .int v5), (6, .int v6), (7, .int v7), (8, .int v8), (9, .int v9), (10, .int v10)] → W p l e ({ frames := 4, cells := 0, slots := 0, locals := 92 } : Room) s m ([.ref (a 0), .int x0, .int x1, .int x2, .int x3] : List Value).toArray below meth c H locs 0 0 Q (F0 m 86 ls []) := by
    intro k6 hk6 k31 hk31 v2 v3 v4 v5 v6 v7 v8 v9 v10 H locs ls hf hP hD hS hl
    rw [f_X12_best_b86] at hf
    refine lv_iload hx hb dX12_best_86 (lv_at hl 9 rfl) ?_
    refine lv_iload hx hb dX12_best_88 (lv_at hl 6 rfl) ?_
    refine lv_icmp_ge (tgt := 96) hx hb dX12_best_90 (by decide) (fun c_9 => ?_) (fun c_9 => ?_)
    · rw [if_pos c_9] at hf
      refine lv_iload hx hb dX12_best_96 (lv_at hl 9 rfl) ?_
      refine lv_istore (lv' := [(7, .int v10), (0, .ref (a 0)), (2, .int v2), (3, .int v3), (4, .int v4), (5, .int v5), (6, .int v6), (8, .int v8), (9, .int v9), (10, .int v10)]) hx hb dX12_best_98 hl (by decide) rfl (fun ls hl => ?_)
      refine lv_iload hx hb dX12_best_100 (lv_at hl 7 rfl) ?_
      refine lv_iconst (v := (1 : Int32)) hx hb dX12_best_102 (by decide) ?_
      refine lv_iload hx hb dX12_best_103 (lv_at hl 8 rfl) ?_
      refine lv_ishl hx hb dX12_best_105 ?_
      refine lv_ior hx hb dX12_best_106 ?_
      refine lv_istore (lv' := [(8, .int (v8 ||| ((1 : Int32) <<< (v9 &&& 31)))), (7, .int v10), (0, .ref (a 0)), (2, .int v2), (3, .int v3), (4, .int v4), (5, .int v5), (6, .int v6), (9, .int v9), (10, .int v10)]) hx hb dX12_best_107 hl (by decide) rfl (fun ls hl => ?_)
      refine lv_iinc (v := (v9 + (1 : Int32))) (lv' := [(9, .int (v9 + (1 : Int32))), (8, .int (v8 ||| ((1 : Int32) <<< (v9 &&& 31)))), (7, .int v10), (0, .ref (a 0)), (2, .int v2), (3, .int v3), (4, .int v4), (5, .int v5), (6, .int v6), (10, .int v10)]) hx hb dX12_best_109 hl (k := 8) rfl (by rfl) (by decide) rfl (fun ls hl => ?_)
      refine lv_goto (tgt := 31) hx hb dX12_best_112 (by decide) ?_
      exact hk31 _ _ _ _ _ _ _ _ _ _ _ hf hP hD hS (lv_sub hl [3, 4, 5, 6, 7, 8, 2, 1, 0] rfl)
    · rw [if_neg c_9] at hf
      refine lv_goto (tgt := 109) hx hb dX12_best_93 (by decide) ?_
      refine lv_iinc (v := (v9 + (1 : Int32))) (lv' := [(9, .int (v9 + (1 : Int32))), (0, .ref (a 0)), (2, .int v2), (3, .int v3), (4, .int v4), (5, .int v5), (6, .int v6), (7, .int v7), (8, .int v8), (10, .int v10)]) hx hb dX12_best_109 hl (k := 8) rfl (by rfl) (by decide) rfl (fun ls hl => ?_)
      refine lv_goto (tgt := 31) hx hb dX12_best_112 (by decide) ?_
      exact hk31 _ _ _ _ _ _ _ _ _ _ _ hf hP hD hS (lv_sub hl [1, 2, 3, 4, 5, 6, 7, 8, 0] rfl)
  have B_31 : ∀ (k6 : Int32 → Int32 → Int32 → Int32 → Int32 → Option (Int32)) (hk6 : ∀ (v2 : Int32) (v3 : Int32) (v4 : Int32) (v5 : Int32) (v6 : Int32) (H : Heap) (locs : List Loc) (ls : Array Slot), k6 v2 v3 v4 v5 v6 = some (rv) → va_P D vwCl (w_MO dA a (some (ba 0)) q1 g2 g3 g4 g5 g6 g7 (ha 0) (ca 0) g10 g11 g12 g13 g14 g15 g16 g17 g18 mo ++ (w_Who dA ha y_who ++ (w_Look dA ca y_look ++ (w_Bus dA ba bu)))) H → va_D A (w_MO dA a (some (ba 0)) q1 g2 g3 g4 g5 g6 g7 (ha 0) (ca 0) g10 g11 g12 g13 g14 g15 g16 g17 g18 mo ++ (w_Who dA ha y_who ++ (w_Look dA ca y_look ++ (w_Bus dA ba bu)))) → va_S A s.heap H locs → lv_has ls 11 [(0, .ref (a 0)), (2, .int v2), (3, .int v3), (4, .int v4), (5, .int v5), (6, .int v6)] → W p l e ({ frames := 4, cells := 0, slots := 0, locals := 92 } : Room) s m ([.ref (a 0), .int x0, .int x1, .int x2, .int x3] : List Value).toArray below meth c H locs 0 0 Q (F0 m 6 ls [])) (n : Nat) (v2 : Int32) (v3 : Int32) (v4 : Int32) (v5 : Int32) (v6 : Int32) (v7 : Int32) (v8 : Int32) (v9 : Int32) (H : Heap) (locs : List Loc) (ls : Array Slot), f_X12_best_b31 mo y_who y_look bu k6 n v2 v3 v4 v5 v6 v7 v8 v9 = some (rv) → va_P D vwCl (w_MO dA a (some (ba 0)) q1 g2 g3 g4 g5 g6 g7 (ha 0) (ca 0) g10 g11 g12 g13 g14 g15 g16 g17 g18 mo ++ (w_Who dA ha y_who ++ (w_Look dA ca y_look ++ (w_Bus dA ba bu)))) H → va_D A (w_MO dA a (some (ba 0)) q1 g2 g3 g4 g5 g6 g7 (ha 0) (ca 0) g10 g11 g12 g13 g14 g15 g16 g17 g18 mo ++ (w_Who dA ha y_who ++ (w_Look dA ca y_look ++ (w_Bus dA ba bu)))) → va_S A s.heap H locs → lv_has ls 11 [(0, .ref (a 0)), (2, .int v2), (3, .int v3), (4, .int v4), (5, .int v5), (6, .int v6), (7, .int v7), (8, .int v8), (9, .int v9)] → W p l e ({ frames := 4, cells := 0, slots := 0, locals := 92 } : Room) s m ([.ref (a 0), .int x0, .int x1, .int x2, .int x3] : List Value).toArray below meth c H locs 0 0 Q (F0 m 31 ls []) := by
    intro k6 hk6 n
    induction n with
    | zero =>
      intro v2 v3 v4 v5 v6 v7 v8 v9 H locs ls hf
      exact absurd hf (by simp [f_X12_best_b31])
    | succ n ih =>
      intro v2 v3 v4 v5 v6 v7 v8 v9 H locs ls hf hP hD hS hl
      rw [f_X12_best_b31] at hf
      refine lv_iload hx hb dX12_best_31 (lv_at hl 8 rfl) ?_
      refine lv_bipush (v := (20 : Int32)) hx hb dX12_best_33 (by decide) ?_
      refine lv_icmp_ge (tgt := 115) hx hb dX12_best_35 (by decide) (fun c_3 => ?_) (fun c_3 => ?_)
      · rw [if_pos c_3] at hf
        refine lv_iload hx hb dX12_best_115 (lv_at hl 7 rfl) ?_
        refine lv_istore (lv' := [(5, .int v8), (0, .ref (a 0)), (2, .int v2), (3, .int v3), (4, .int v4), (6, .int v6), (7, .int v7), (8, .int v8), (9, .int v9)]) hx hb dX12_best_117 hl (by decide) rfl (fun ls hl => ?_)
        refine lv_iinc (v := (v6 + (1 : Int32))) (lv' := [(6, .int (v6 + (1 : Int32))), (5, .int v8), (0, .ref (a 0)), (2, .int v2), (3, .int v3), (4, .int v4), (7, .int v7), (8, .int v8), (9, .int v9)]) hx hb dX12_best_119 hl (k := 5) rfl (by rfl) (by decide) rfl (fun ls hl => ?_)
        refine lv_goto (tgt := 6) hx hb dX12_best_122 (by decide) ?_
        exact hk6 _ _ _ _ _ _ _ _ hf hP hD hS (lv_sub hl [2, 3, 4, 5, 1, 0] rfl)
      · rw [if_neg c_3] at hf
        refine lv_iload hx hb dX12_best_38 (lv_at hl 4 rfl) ?_
        refine lv_iload hx hb dX12_best_40 (lv_at hl 8 rfl) ?_
        obtain ⟨r4, hc4, hf⟩ := kb_bind hf
        refine kb_ci (ws2 := (w_MO dA a (some (ba 0)) q1 g2 g3 g4 g5 g6 g7 (ha 0) (ca 0) g10 g11 g12 g13 g14 g15 g16 g17 g18 mo ++ (w_Who dA ha y_who ++ (w_Look dA ca y_look ++ (w_Bus dA ba bu))))) (kb_rS (n := 2) (As := [.int v5, .int v9]) (rest := []) hx hb hml hown hK (c_X12_has l D dA H.size v5 v9 r4 hc4) ⟨ww_7_182, ww_7_180, ww_7_181, ww_1_12, by decide, by decide⟩ rfl rfl (by decide +kernel) ⟨Nat.le_of_ble_eq_true rfl, Nat.le_of_ble_eq_true rfl⟩ hP hD hS hA hE [] rfl (by decide) rfl hl.1 rfl (Nat.le_of_ble_eq_true rfl) dX12_best_42 ⟨Nat.le_of_ble_eq_true rfl, Nat.le_of_ble_eq_true rfl⟩) hP hD hS hA [] [0, 1, 2, 3, 4, 5, 6, 7, 8, 9, 10, 11, 12, 13, 14, 15, 16, 17, 18] [0, 1, 2, 3, 4, 5, 6, 7, 8, 9, 10, 11, 12, 13, 14, 15, 16, 17, 18] rfl rfl (by decide) (by decide) rfl (by decide) (fun H locs hP hD hS => ?_)
        refine lv_if_ne (tgt := 51) hx hb dX12_best_45 (by decide) (fun c_5 => ?_) (fun c_5 => ?_)
        · rw [if_neg c_5] at hf
          refine lv_aload_n hx hb dX12_best_51 rfl (lv_at hl 0 rfl) ?_
          refine lv_aload_n hx hb dX12_best_52 rfl (lv_at hl 0 rfl) ?_
          refine va_get (D := D) (ci := 12) (v := .ref (ba 0)) (C := RX12) (T := TX12) (N := 35) hx hb hts kb_inX12 hown hK.1 hP 0 rfl rfl 3 (by decide) (hK.2.w ww_5_203 rfl _) (fun _ h9 => h9) rfl dX12_best_53 ?_
          refine va_getN (D := D) (ci := 11) (v := .ref (ba 2)) (C := RX11) (T := TX11) (N := 26) hx hb hts kb_inX11 hown hK.1 hP 3 rfl rfl 12 (by decide) (hK.2.nb ww_6_105 rfl rfl _) (fun _ h9 => h9) rfl dX12_best_56 ?_
          refine lv_iconst (v := (4 : Int32)) hx hb dX12_best_59 (by decide) ?_
          refine lv_iload_n hx hb dX12_best_60 rfl (lv_at hl 1 rfl) ?_
          refine lv_imul hx hb dX12_best_61 ?_
          refine lv_iload hx hb dX12_best_62 (lv_at hl 5 rfl) ?_
          refine lv_iadd hx hb dX12_best_64 ?_
          obtain ⟨h_6, hf⟩ := kb_if hf
          refine va_iald (D := D) hx hb hK.1 hP 5 0 rfl rfl h_6 dX12_best_65 ?_
          refine lv_iload hx hb dX12_best_66 (lv_at hl 8 rfl) ?_
          refine lv_iload_n hx hb dX12_best_68 rfl (lv_at hl 2 rfl) ?_
          refine lv_iload hx hb dX12_best_69 (lv_at hl 3 rfl) ?_
          obtain ⟨r7, hc7, hf⟩ := kb_bind hf
          refine kb_ci (ws2 := (w_MO dA a (some (ba 0)) q1 g2 g3 g4 g5 g6 g7 (ha 0) (ca 0) g10 g11 g12 g13 g14 g15 g16 g17 g18 mo ++ (w_Who dA ha y_who ++ (w_Look dA ca y_look ++ (w_Bus dA ba bu))))) (kb_rV (n := 4) (As := [.int ((bu_way bu) ((((4 : Int32) * v2) + v6)).toNatClampNeg), .int v9, .int v3, .int v4]) (rest := []) hx hb hml hown hK (c_X12_good l D dA H.size a ha ca ba q1 g2 g3 g4 g5 g6 g7 g10 g11 g12 g13 g14 g15 g16 g17 g18 mo y_who y_look bu ((bu_way bu) ((((4 : Int32) * v2) + v6)).toNatClampNeg) v9 v3 v4 r7 hc7) ⟨ww_7_215, ww_7_212, ww_7_214, ws_92, ww_1_12, rfl, by decide, by decide⟩ rfl rfl (by decide +kernel) ⟨Nat.le_of_ble_eq_true rfl, Nat.le_of_ble_eq_true rfl⟩ hP hD hS hA hE [0, 1, 2, 3, 4, 5, 6, 7, 8, 9, 10, 11, 12, 13, 14, 15, 16, 17, 18] rfl (by decide) 0 rfl rfl rfl hl.1 rfl (Nat.le_of_ble_eq_true rfl) dX12_best_71 ⟨Nat.le_of_ble_eq_true rfl, Nat.le_of_ble_eq_true rfl⟩) hP hD hS hA [0, 1, 2, 3, 4, 5, 6, 7, 8, 9, 10, 11, 12, 13, 14, 15, 16, 17, 18] [] [0, 1, 2, 3, 4, 5, 6, 7, 8, 9, 10, 11, 12, 13, 14, 15, 16, 17, 18] rfl rfl (by decide) (by decide) rfl (by decide) (fun H locs hP hD hS => ?_)
          refine lv_istore (lv' := [(10, .int r7), (0, .ref (a 0)), (2, .int v2), (3, .int v3), (4, .int v4), (5, .int v5), (6, .int v6), (7, .int v7), (8, .int v8), (9, .int v9)]) hx hb dX12_best_74 hl (by decide) rfl (fun ls hl => ?_)
          refine lv_iload hx hb dX12_best_76 (lv_at hl 0 rfl) ?_
          refine lv_iload hx hb dX12_best_78 (lv_at hl 7 rfl) ?_
          refine lv_icmp_le (tgt := 86) hx hb dX12_best_80 (by decide) (fun c_8 => ?_) (fun c_8 => ?_)
          · rw [if_pos c_8] at hf
            exact B_86 k6 hk6 (f_X12_best_b31 mo y_who y_look bu k6 n) ih _ _ _ _ _ _ _ _ _ _ _ _ hf hP hD hS (lv_sub hl [1, 2, 3, 4, 5, 6, 7, 8, 9, 0] rfl)
          · rw [if_neg c_8] at hf
            refine lv_iconst (v := (0 : Int32)) hx hb dX12_best_83 (by decide) ?_
            refine lv_istore (lv' := [(8, .int (0 : Int32)), (10, .int r7), (0, .ref (a 0)), (2, .int v2), (3, .int v3), (4, .int v4), (5, .int v5), (6, .int v6), (7, .int v7), (9, .int v9)]) hx hb dX12_best_84 hl (by decide) rfl (fun ls hl => ?_)
            exact B_86 k6 hk6 (f_X12_best_b31 mo y_who y_look bu k6 n) ih _ _ _ _ _ _ _ _ _ _ _ _ hf hP hD hS (lv_sub hl [2, 3, 4, 5, 6, 7, 8, 0, 9, 1] rfl)
        · rw [if_pos c_5] at hf
          refine lv_goto (tgt := 109) hx hb dX12_best_48 (by decide) ?_
          refine lv_iinc (v := (v9 + (1 : Int32))) (lv' := [(9, .int (v9 + (1 : Int32))), (0, .ref (a 0)), (2, .int v2), (3, .int v3), (4, .int v4), (5, .int v5), (6, .int v6), (7, .int v7), (8, .int v8)]) hx hb dX12_best_109 hl (k := 8) rfl (by rfl) (by decide) rfl (fun ls hl => ?_)
          refine lv_goto (tgt := 31) hx hb dX12_best_112 (by decide) ?_
          exact ih _ _ _ _ _ _ _ _ _ _ _ hf hP hD hS (lv_sub hl [1, 2, 3, 4, 5, 6, 7, 8, 0] rfl)
  have B_6 : ∀ (n : Nat) (v2 : Int32) (v3 : Int32) (v4 : Int32) (v5 : Int32) (v6 : Int32) (H : Heap) (locs : List Loc) (ls : Array Slot), f_X12_best_b6 mo y_who y_look bu n v2 v3 v4 v5 v6 = some (rv) → va_P D vwCl (w_MO dA a (some (ba 0)) q1 g2 g3 g4 g5 g6 g7 (ha 0) (ca 0) g10 g11 g12 g13 g14 g15 g16 g17 g18 mo ++ (w_Who dA ha y_who ++ (w_Look dA ca y_look ++ (w_Bus dA ba bu)))) H → va_D A (w_MO dA a (some (ba 0)) q1 g2 g3 g4 g5 g6 g7 (ha 0) (ca 0) g10 g11 g12 g13 g14 g15 g16 g17 g18 mo ++ (w_Who dA ha y_who ++ (w_Look dA ca y_look ++ (w_Bus dA ba bu)))) → va_S A s.heap H locs → lv_has ls 11 [(0, .ref (a 0)), (2, .int v2), (3, .int v3), (4, .int v4), (5, .int v5), (6, .int v6)] → W p l e ({ frames := 4, cells := 0, slots := 0, locals := 92 } : Room) s m ([.ref (a 0), .int x0, .int x1, .int x2, .int x3] : List Value).toArray below meth c H locs 0 0 Q (F0 m 6 ls []) := by
    intro n
    induction n with
    | zero =>
      intro v2 v3 v4 v5 v6 H locs ls hf
      exact absurd hf (by simp [f_X12_best_b6])
    | succ n ih =>
      intro v2 v3 v4 v5 v6 H locs ls hf hP hD hS hl
      rw [f_X12_best_b6] at hf
      refine lv_iload hx hb dX12_best_6 (lv_at hl 5 rfl) ?_
      refine lv_aload_n hx hb dX12_best_8 rfl (lv_at hl 0 rfl) ?_
      refine va_get (D := D) (ci := 12) (v := .ref (ba 0)) (C := RX12) (T := TX12) (N := 35) hx hb hts kb_inX12 hown hK.1 hP 0 rfl rfl 3 (by decide) (hK.2.w ww_5_203 rfl _) (fun _ h9 => h9) rfl dX12_best_9 ?_
      refine va_getN (D := D) (ci := 11) (v := .ref (ba 1)) (C := RX11) (T := TX11) (N := 26) hx hb hts kb_inX11 hown hK.1 hP 3 rfl rfl 11 (by decide) (hK.2.nb ww_6_103 rfl rfl _) (fun _ h9 => h9) rfl dX12_best_12 ?_
      refine lv_iload_n hx hb dX12_best_15 rfl (lv_at hl 1 rfl) ?_
      obtain ⟨h_1, hf⟩ := kb_if hf
      refine va_iald (D := D) hx hb hK.1 hP 4 0 rfl rfl h_1 dX12_best_16 ?_
      refine lv_icmp_ge (tgt := 125) hx hb dX12_best_17 (by decide) (fun c_2 => ?_) (fun c_2 => ?_)
      · rw [if_pos c_2] at hf
        refine lv_iload hx hb dX12_best_125 (lv_at hl 4 rfl) ?_
        exact RET _ H _ ls 127 hf hP hD hS dX12_best_127
      · rw [if_neg c_2] at hf
        refine lv_ldcw (v := (-2147483648 : Int32)) hx hb hown (hK.2.w ww_7_211 rfl _) dX12_best_20 ?_
        refine lv_istore (lv' := [(7, .int (-2147483648 : Int32)), (0, .ref (a 0)), (2, .int v2), (3, .int v3), (4, .int v4), (5, .int v5), (6, .int v6)]) hx hb dX12_best_23 hl (by decide) rfl (fun ls hl => ?_)
        refine lv_iconst (v := (0 : Int32)) hx hb dX12_best_25 (by decide) ?_
        refine lv_istore (lv' := [(8, .int (0 : Int32)), (7, .int (-2147483648 : Int32)), (0, .ref (a 0)), (2, .int v2), (3, .int v3), (4, .int v4), (5, .int v5), (6, .int v6)]) hx hb dX12_best_26 hl (by decide) rfl (fun ls hl => ?_)
        refine lv_iconst (v := (0 : Int32)) hx hb dX12_best_28 (by decide) ?_
        refine lv_istore (lv' := [(9, .int (0 : Int32)), (8, .int (0 : Int32)), (7, .int (-2147483648 : Int32)), (0, .ref (a 0)), (2, .int v2), (3, .int v3), (4, .int v4), (5, .int v5), (6, .int v6)]) hx hb dX12_best_29 hl (by decide) rfl (fun ls hl => ?_)
        exact B_31 (f_X12_best_b6 mo y_who y_look bu n) ih 4096 _ _ _ _ _ _ _ _ _ _ _ hf hP hD hS (lv_sub hl [3, 4, 5, 6, 7, 8, 2, 1, 0] rfl)
  have E0 : ∀ (H : Heap) (locs : List Loc), va_P D vwCl (w_MO dA a (some (ba 0)) q1 g2 g3 g4 g5 g6 g7 (ha 0) (ca 0) g10 g11 g12 g13 g14 g15 g16 g17 g18 mo ++ (w_Who dA ha y_who ++ (w_Look dA ca y_look ++ (w_Bus dA ba bu)))) H → va_D A (w_MO dA a (some (ba 0)) q1 g2 g3 g4 g5 g6 g7 (ha 0) (ca 0) g10 g11 g12 g13 g14 g15 g16 g17 g18 mo ++ (w_Who dA ha y_who ++ (w_Look dA ca y_look ++ (w_Bus dA ba bu)))) → va_S A s.heap H locs → W p l e ({ frames := 4, cells := 0, slots := 0, locals := 92 } : Room) s m ([.ref (a 0), .int x0, .int x1, .int x2, .int x3] : List Value).toArray below meth c H locs 0 0 Q (F0 m 0 ls []) := by
    intro H locs hP hD hS
    rw [f_X12_best] at hf
    refine lv_iload_n hx hb dX12_best_0 rfl (lv_at hl 1 rfl) ?_
    refine lv_istore (lv' := [(5, .int x0), (0, .ref (a 0)), (1, .int x0), (2, .int x1), (3, .int x2), (4, .int x3)]) hx hb dX12_best_1 hl (by decide) rfl (fun ls hl => ?_)
    refine lv_iconst (v := (0 : Int32)) hx hb dX12_best_3 (by decide) ?_
    refine lv_istore (lv' := [(6, .int (0 : Int32)), (5, .int x0), (0, .ref (a 0)), (1, .int x0), (2, .int x1), (3, .int x2), (4, .int x3)]) hx hb dX12_best_4 hl (by decide) rfl (fun ls hl => ?_)
    exact B_6 4096 _ _ _ _ _ _ _ _ hf hP hD hS (lv_sub hl [2, 4, 5, 6, 1, 0] rfl)
  exact E0 _ _ hP hD hS

noncomputable def f_X12_holdsFree_b36 (mo : MOT) (y_w : WT) (bu : BusT)  : Option (Int32) := some ((0 : Int32))
noncomputable def f_X12_holdsFree (mo : MOT) (y_w : WT) (bu : BusT) (x0 : Int32) : Option (Int32) := if kb_in? x0 8 then (if ((bu_holds bu) (x0).toNatClampNeg) = (-1 : Int32) then f_X12_holdsFree_b36 mo y_w bu  else (f_X12_freeSeats mo y_w bu).bind fun r3 => if kb_in? x0 8 then (f_X12_has r3 ((bu_holds bu) (x0).toNatClampNeg)).bind fun r5 => (if r5 = 0 then f_X12_holdsFree_b36 mo y_w bu  else some ((1 : Int32))) else none) else none
set_option maxHeartbeats 4000000 in
set_option maxRecDepth 100000 in
theorem c_X12_holdsFree (l : Launch) (D : va_G) (dA : Nat → ClassId) (sz : Nat) (a : Nat → Nat) (wa : Nat → Nat) (ba : Nat → Nat) (q1 : Option Nat) (g2 : Nat) (g3 : Nat) (g4 : Nat) (g5 : Nat) (g7 : Nat) (g8 : Nat) (g9 : Nat) (g10 : Nat) (g11 : Nat) (g12 : Nat) (g13 : Nat) (g14 : Nat) (g15 : Nat) (g16 : Nat) (g17 : Nat) (g18 : Nat) (mo : MOT) (y_w : WT) (bu : BusT) (x0 : Int32) (rv : Int32) (hf : f_X12_holdsFree mo y_w bu x0 = some (rv)) : kb_Mi l yX12_holdsFree cX12_holdsFree 2 (some .boolean) ({ frames := 3, cells := 0, slots := 0, locals := 64 } : Room) D dA [.ref (a 0), .int x0] sz (w_MO dA a (some (ba 0)) q1 g2 g3 g4 g5 (wa 0) g7 g8 g9 g10 g11 g12 g13 g14 g15 g16 g17 g18 mo ++ (w_W dA wa y_w ++ (w_Bus dA ba bu))) 0 0 rv (w_MO dA a (some (ba 0)) q1 g2 g3 g4 g5 (wa 0) g7 g8 g9 g10 g11 g12 g13 g14 g15 g16 g17 g18 mo ++ (w_W dA wa y_w ++ (w_Bus dA ba bu))) := by
  refine Met.ofW (cc := cX12_holdsFree) (maxL := 2) (ret := (some .boolean)) (by decide) rfl ?_
  intro p e s m args below meth c s₁ B hml hv
  obtain ⟨rfl, hsz, hP, hK, hD0, hE⟩ := hv
  have hx := B.exec
  have hb := B.bytes
  have hr := B.returns
  have hown : s.vm.findClass RX12 = some m.cls := findClass_of_methodNamed B.named
  have hlocks := B.notSynchronized
  have hts : ∀ w ∈ kb_gw, w.before ([.ref (a 0), .int x0] : List Value).toArray s = true := fun w hw => hK.2.1 w hw _
  subst hsz
  have hD := hD0.self (sz := s.heap.size)
  generalize hAe : va_A (w_MO dA a (some (ba 0)) q1 g2 g3 g4 g5 (wa 0) g7 g8 g9 g10 g11 g12 g13 g14 g15 g16 g17 g18 mo ++ (w_W dA wa y_w ++ (w_Bus dA ba bu))) s.heap.size = A at hD hE ⊢
  have hA : ∀ q : Nat, s.heap.size ≤ q → A q := fun q h => by rw [← hAe]; exact Or.inr h
  have hS : va_S A s.heap s.heap [] := va_S.rf
  have hl := lv_entry ([.ref (a 0), .int x0]) (n := 2) (Nat.le_of_ble_eq_true rfl)
  rw [lg_entry_eq]
  generalize (lg_sl ([.ref (a 0), .int x0]) ++ List.replicate (2 - (lg_sl ([.ref (a 0), .int x0])).length) Slot.unset).toArray = ls at hl ⊢
  have hl : lv_has ls 2 [(0, .ref (a 0)), (1, .int x0)] := hl
  generalize hQ : MQ below (va_Qi (fun r (_ : Unit) => r = rv) (kb_B D A (w_MO dA a (some (ba 0)) q1 g2 g3 g4 g5 (wa 0) g7 g8 g9 g10 g11 g12 g13 g14 g15 g16 g17 g18 mo ++ (w_W dA wa y_w ++ (w_Bus dA ba bu)))) A) ([.ref (a 0), .int x0] : List Value).toArray s 0 0 A = Q
  show W p l e ({ frames := 3, cells := 0, slots := 0, locals := 64 } : Room) s m ([.ref (a 0), .int x0] : List Value).toArray below meth c s.heap [] 0 0 Q (F0 m 0 ls [])
  have RET : ∀ (r2 : Int32) (H : Heap) (locs : List Loc) (ls : Array Slot) (pc : Nat), some (r2) = some (rv) → va_P D vwCl (w_MO dA a (some (ba 0)) q1 g2 g3 g4 g5 (wa 0) g7 g8 g9 g10 g11 g12 g13 g14 g15 g16 g17 g18 mo ++ (w_W dA wa y_w ++ (w_Bus dA ba bu))) H → va_D A (w_MO dA a (some (ba 0)) q1 g2 g3 g4 g5 (wa 0) g7 g8 g9 g10 g11 g12 g13 g14 g15 g16 g17 g18 mo ++ (w_W dA wa y_w ++ (w_Bus dA ba bu))) → va_S A s.heap H locs → kb_01 r2 → decode cX12_holdsFree pc = .ok (.ireturn, 1) → W p l e ({ frames := 3, cells := 0, slots := 0, locals := 64 } : Room) s m ([.ref (a 0), .int x0] : List Value).toArray below meth c H locs 0 0 Q (F0 m pc ls [.int r2]) := by
    intro r2 H locs ls pc hq hP hD hS h01 hd
    cases hq
    rw [← hQ]
    exact W.zret (ty := .boolean) hx hb hr (kb_nz h01) (fun t ht hW => ⟨⟨_, (), rfl, rfl, by rw [ht]; exact hP, hD⟩, hS.F ht⟩) hS.2.2 hd
  have B_36 : ∀  (H : Heap) (locs : List Loc) (ls : Array Slot), f_X12_holdsFree_b36 mo y_w bu  = some (rv) → va_P D vwCl (w_MO dA a (some (ba 0)) q1 g2 g3 g4 g5 (wa 0) g7 g8 g9 g10 g11 g12 g13 g14 g15 g16 g17 g18 mo ++ (w_W dA wa y_w ++ (w_Bus dA ba bu))) H → va_D A (w_MO dA a (some (ba 0)) q1 g2 g3 g4 g5 (wa 0) g7 g8 g9 g10 g11 g12 g13 g14 g15 g16 g17 g18 mo ++ (w_W dA wa y_w ++ (w_Bus dA ba bu))) → va_S A s.heap H locs → lv_has ls 2 [] → W p l e ({ frames := 3, cells := 0, slots := 0, locals := 64 } : Room) s m ([.ref (a 0), .int x0] : List Value).toArray below meth c H locs 0 0 Q (F0 m 36 ls []) := by
    intro  H locs ls hf hP hD hS hl
    rw [f_X12_holdsFree_b36] at hf
    refine lv_iconst (v := (0 : Int32)) hx hb dX12_holdsFree_36 (by decide) ?_
    exact RET _ H _ ls 37 hf hP hD hS (by decide) dX12_holdsFree_37
  have E0 : ∀ (H : Heap) (locs : List Loc), va_P D vwCl (w_MO dA a (some (ba 0)) q1 g2 g3 g4 g5 (wa 0) g7 g8 g9 g10 g11 g12 g13 g14 g15 g16 g17 g18 mo ++ (w_W dA wa y_w ++ (w_Bus dA ba bu))) H → va_D A (w_MO dA a (some (ba 0)) q1 g2 g3 g4 g5 (wa 0) g7 g8 g9 g10 g11 g12 g13 g14 g15 g16 g17 g18 mo ++ (w_W dA wa y_w ++ (w_Bus dA ba bu))) → va_S A s.heap H locs → W p l e ({ frames := 3, cells := 0, slots := 0, locals := 64 } : Room) s m ([.ref (a 0), .int x0] : List Value).toArray below meth c H locs 0 0 Q (F0 m 0 ls []) := by
    intro H locs hP hD hS
    rw [f_X12_holdsFree] at hf
    refine lv_aload_n hx hb dX12_holdsFree_0 rfl (lv_at hl 0 rfl) ?_
    refine va_get (D := D) (ci := 12) (v := .ref (ba 0)) (C := RX12) (T := TX12) (N := 35) hx hb hts kb_inX12 hown hK.1 hP 0 rfl rfl 3 (by decide) (hK.2.w ww_5_203 rfl _) (fun _ h9 => h9) rfl dX12_holdsFree_1 ?_
    refine va_getN (D := D) (ci := 11) (v := .ref (ba 8)) (C := RX11) (T := TX11) (N := 26) hx hb hts kb_inX11 hown hK.1 hP 2 rfl rfl 18 (by decide) (hK.2.nb ww_6_117 rfl rfl _) (fun _ h9 => h9) rfl dX12_holdsFree_4 ?_
    refine lv_iload_n hx hb dX12_holdsFree_7 rfl (lv_at hl 1 rfl) ?_
    obtain ⟨h_1, hf⟩ := kb_if hf
    refine va_iald (D := D) hx hb hK.1 hP 10 0 rfl rfl h_1 dX12_holdsFree_8 ?_
    refine lv_iconst (v := (-1 : Int32)) hx hb dX12_holdsFree_9 (by decide) ?_
    refine lv_icmp_eq (tgt := 36) hx hb dX12_holdsFree_10 (by decide) (fun c_2 => ?_) (fun c_2 => ?_)
    · rw [if_pos c_2] at hf
      exact B_36 _ _ _ hf hP hD hS (lv_sub hl [] rfl)
    · rw [if_neg c_2] at hf
      refine lv_aload_n hx hb dX12_holdsFree_13 rfl (lv_at hl 0 rfl) ?_
      obtain ⟨r3, hc3, hf⟩ := kb_bind hf
      refine kb_ci (ws2 := (w_MO dA a (some (ba 0)) q1 g2 g3 g4 g5 (wa 0) g7 g8 g9 g10 g11 g12 g13 g14 g15 g16 g17 g18 mo ++ (w_W dA wa y_w ++ (w_Bus dA ba bu)))) (kb_rV (n := 0) (As := []) (rest := []) hx hb hml hown hK (c_X12_freeSeats l D dA H.size a wa ba q1 g2 g3 g4 g5 g7 g8 g9 g10 g11 g12 g13 g14 g15 g16 g17 g18 mo y_w bu r3 hc3) ⟨ww_7_175, ww_7_172, ww_7_174, ws_83, ww_1_12, rfl, by decide, by decide⟩ rfl rfl (by decide +kernel) ⟨Nat.le_of_ble_eq_true rfl, Nat.le_of_ble_eq_true rfl⟩ hP hD hS hA hE [0, 1, 2, 3, 4, 5, 6, 7, 8, 9, 10, 11, 12, 13, 14, 15, 16, 17] rfl (by decide) 0 rfl rfl rfl hl.1 rfl (Nat.le_of_ble_eq_true rfl) dX12_holdsFree_14 ⟨Nat.le_of_ble_eq_true rfl, Nat.le_of_ble_eq_true rfl⟩) hP hD hS hA [0, 1, 2, 3, 4, 5, 6, 7, 8, 9, 10, 11, 12, 13, 14, 15, 16, 17] [] [0, 1, 2, 3, 4, 5, 6, 7, 8, 9, 10, 11, 12, 13, 14, 15, 16, 17] rfl rfl (by decide) (by decide) rfl (by decide) (fun H locs hP hD hS => ?_)
      refine lv_aload_n hx hb dX12_holdsFree_17 rfl (lv_at hl 0 rfl) ?_
      refine va_get (D := D) (ci := 12) (v := .ref (ba 0)) (C := RX12) (T := TX12) (N := 35) hx hb hts kb_inX12 hown hK.1 hP 0 rfl rfl 3 (by decide) (hK.2.w ww_5_203 rfl _) (fun _ h9 => h9) rfl dX12_holdsFree_18 ?_
      refine va_getN (D := D) (ci := 11) (v := .ref (ba 8)) (C := RX11) (T := TX11) (N := 26) hx hb hts kb_inX11 hown hK.1 hP 2 rfl rfl 18 (by decide) (hK.2.nb ww_6_117 rfl rfl _) (fun _ h9 => h9) rfl dX12_holdsFree_21 ?_
      refine lv_iload_n hx hb dX12_holdsFree_24 rfl (lv_at hl 1 rfl) ?_
      obtain ⟨h_4, hf⟩ := kb_if hf
      refine va_iald (D := D) hx hb hK.1 hP 10 0 rfl rfl h_4 dX12_holdsFree_25 ?_
      obtain ⟨r5, hc5, hf⟩ := kb_bind hf
      refine kb_ci (ws2 := (w_MO dA a (some (ba 0)) q1 g2 g3 g4 g5 (wa 0) g7 g8 g9 g10 g11 g12 g13 g14 g15 g16 g17 g18 mo ++ (w_W dA wa y_w ++ (w_Bus dA ba bu)))) (kb_rS (n := 2) (As := [.int r3, .int ((bu_holds bu) (x0).toNatClampNeg)]) (rest := []) hx hb hml hown hK (c_X12_has l D dA H.size r3 ((bu_holds bu) (x0).toNatClampNeg) r5 hc5) ⟨ww_7_182, ww_7_180, ww_7_181, ww_1_12, by decide, by decide⟩ rfl rfl (by decide +kernel) ⟨Nat.le_of_ble_eq_true rfl, Nat.le_of_ble_eq_true rfl⟩ hP hD hS hA hE [] rfl (by decide) rfl hl.1 rfl (Nat.le_of_ble_eq_true rfl) dX12_holdsFree_26 ⟨Nat.le_of_ble_eq_true rfl, Nat.le_of_ble_eq_true rfl⟩) hP hD hS hA [] [0, 1, 2, 3, 4, 5, 6, 7, 8, 9, 10, 11, 12, 13, 14, 15, 16, 17] [0, 1, 2, 3, 4, 5, 6, 7, 8, 9, 10, 11, 12, 13, 14, 15, 16, 17] rfl rfl (by decide) (by decide) rfl (by decide) (fun H locs hP hD hS => ?_)
      refine lv_if_eq (tgt := 36) hx hb dX12_holdsFree_29 (by decide) (fun c_6 => ?_) (fun c_6 => ?_)
      · rw [if_pos c_6] at hf
        exact B_36 _ _ _ hf hP hD hS (lv_sub hl [] rfl)
      · rw [if_neg c_6] at hf
        refine lv_iconst (v := (1 : Int32)) hx hb dX12_holdsFree_32 (by decide) ?_
        refine lv_goto (tgt := 37) hx hb dX12_holdsFree_33 (by decide) ?_
        exact RET _ H _ ls 37 hf hP hD hS (by decide) dX12_holdsFree_37
  exact E0 _ _ hP hD hS

noncomputable def f_X12_mightChoose_b83 (mo : MOT) (y_w : WT) (y_looks : LooksT) (bu : BusT) (v1 : Int32) (v2 : Int32) (z3 : WhoT) (z4 : LookT) : Option (Int32 × WhoT × LookT) := if kb_in? v1 8 then if kb_in? v1 8 then (f_X12_best mo z3 z4 bu v2 ((bu_rule bu) (v1).toNatClampNeg) v1 ((yLooks_r y_looks) (v1).toNatClampNeg)).bind fun r8 => some (r8, z3, z4) else none else none
noncomputable def f_X12_mightChoose_b78 (mo : MOT) (y_w : WT) (y_looks : LooksT) (bu : BusT) (v1 : Int32) (v2 : Int32) (z3 : WhoT) (z4 : LookT) : Option (Int32 × WhoT × LookT) := (f_X12_sees mo y_w y_looks z3 z4 bu v1).bind fun r5 => f_X12_mightChoose_b83 mo y_w y_looks bu v1 v2 r5.1 r5.2
noncomputable def f_X12_mightChoose_b69 (mo : MOT) (y_w : WT) (y_looks : LooksT) (bu : BusT) (k31 : Int32 → Int32 → Int32 → WhoT → LookT → Option (Int32 × WhoT × LookT)) (v1 : Int32) (v3 : Int32) (s0 : Int32) (z3 : WhoT) (z4 : LookT) : Option (Int32 × WhoT × LookT) := k31 v1 (s0 ||| (0 : Int32)) (v3 + (1 : Int32)) z3 z4
noncomputable def f_X12_mightChoose_b31 (mo : MOT) (y_w : WT) (y_looks : LooksT) (bu : BusT) : Nat → Int32 → Int32 → Int32 → WhoT → LookT → Option (Int32 × WhoT × LookT)
  | 0, _, _, _, _, _ => none
  | n + 1, v1, v2, v3, z3, z4 => (if ((4 : Int32) * (bu_rows bu)) ≤ v3 then f_X12_mightChoose_b78 mo y_w y_looks bu v1 v2 z3 z4 else (f_X12_isSeat mo bu v3).bind fun r10 => (if r10 = 0 then f_X12_mightChoose_b69 mo y_w y_looks bu (f_X12_mightChoose_b31 mo y_w y_looks bu n) v1 v3 v2 z3 z4 else (f_X12_sitter mo y_w bu v3).bind fun r12 => (if r12 = (-2 : Int32) then f_X12_mightChoose_b31 mo y_w y_looks bu n v1 (v2 ||| ((1 : Int32) <<< (v3 &&& 31))) (v3 + (1 : Int32)) z3 z4 else f_X12_mightChoose_b69 mo y_w y_looks bu (f_X12_mightChoose_b31 mo y_w y_looks bu n) v1 v3 v2 z3 z4)))
noncomputable def f_X12_mightChoose (mo : MOT) (y_w : WT) (y_looks : LooksT) (y_who : WhoT) (y_look : LookT) (bu : BusT) (x0 : Int32) : Option (Int32 × WhoT × LookT) := (f_X12_freeSeats mo y_w bu).bind fun r1 => (f_X12_holdsFree mo y_w bu x0).bind fun r2 => (if r2 = 0 then (if r1 = 0 then f_X12_mightChoose_b31 mo y_w y_looks bu 4096 x0 r1 (0 : Int32) y_who y_look else f_X12_mightChoose_b78 mo y_w y_looks bu x0 r1 y_who y_look) else if kb_in? x0 8 then some (((1 : Int32) <<< (((bu_holds bu) (x0).toNatClampNeg) &&& 31)), y_who, y_look) else none)
set_option maxHeartbeats 4000000 in
set_option maxRecDepth 100000 in
theorem c_X12_mightChoose (l : Launch) (D : va_G) (dA : Nat → ClassId) (sz : Nat) (a : Nat → Nat) (wa : Nat → Nat) (la : Nat → Nat) (ha : Nat → Nat) (ca : Nat → Nat) (ba : Nat → Nat) (q1 : Option Nat) (g2 : Nat) (g3 : Nat) (g4 : Nat) (g5 : Nat) (g10 : Nat) (g11 : Nat) (g12 : Nat) (g13 : Nat) (g14 : Nat) (g15 : Nat) (g16 : Nat) (g17 : Nat) (g18 : Nat) (mo : MOT) (y_w : WT) (y_looks : LooksT) (y_who : WhoT) (y_look : LookT) (bu : BusT) (x0 : Int32) (rv : Int32) (u3 : WhoT) (u4 : LookT) (hf : f_X12_mightChoose mo y_w y_looks y_who y_look bu x0 = some (rv, u3, u4)) : kb_Mi l yX12_mightChoose cX12_mightChoose 4 (some .int) ({ frames := 5, cells := 0, slots := 0, locals := 122 } : Room) D dA [.ref (a 0), .int x0] sz (w_MO dA a (some (ba 0)) q1 g2 g3 g4 g5 (wa 0) (la 0) (ha 0) (ca 0) g10 g11 g12 g13 g14 g15 g16 g17 g18 mo ++ (w_W dA wa y_w ++ (w_Looks dA la y_looks ++ (w_Who dA ha y_who ++ (w_Look dA ca y_look ++ (w_Bus dA ba bu)))))) 0 0 rv (w_MO dA a (some (ba 0)) q1 g2 g3 g4 g5 (wa 0) (la 0) (ha 0) (ca 0) g10 g11 g12 g13 g14 g15 g16 g17 g18 mo ++ (w_W dA wa y_w ++ (w_Looks dA la y_looks ++ (w_Who dA ha u3 ++ (w_Look dA ca u4 ++ (w_Bus dA ba bu)))))) := by
  refine Met.ofW (cc := cX12_mightChoose) (maxL := 4) (ret := (some .int)) (by decide) rfl ?_
  intro p e s m args below meth c s₁ B hml hv
  obtain ⟨rfl, hsz, hP, hK, hD0, hE⟩ := hv
  have hx := B.exec
  have hb := B.bytes
  have hr := B.returns
  have hown : s.vm.findClass RX12 = some m.cls := findClass_of_methodNamed B.named
  have hlocks := B.notSynchronized
  have hts : ∀ w ∈ kb_gw, w.before ([.ref (a 0), .int x0] : List Value).toArray s = true := fun w hw => hK.2.1 w hw _
  subst hsz
  have hD := hD0.self (sz := s.heap.size)
  generalize hAe : va_A (w_MO dA a (some (ba 0)) q1 g2 g3 g4 g5 (wa 0) (la 0) (ha 0) (ca 0) g10 g11 g12 g13 g14 g15 g16 g17 g18 mo ++ (w_W dA wa y_w ++ (w_Looks dA la y_looks ++ (w_Who dA ha y_who ++ (w_Look dA ca y_look ++ (w_Bus dA ba bu)))))) s.heap.size = A at hD hE ⊢
  have hA : ∀ q : Nat, s.heap.size ≤ q → A q := fun q h => by rw [← hAe]; exact Or.inr h
  have hS : va_S A s.heap s.heap [] := va_S.rf
  have hl := lv_entry ([.ref (a 0), .int x0]) (n := 4) (Nat.le_of_ble_eq_true rfl)
  rw [lg_entry_eq]
  generalize (lg_sl ([.ref (a 0), .int x0]) ++ List.replicate (4 - (lg_sl ([.ref (a 0), .int x0])).length) Slot.unset).toArray = ls at hl ⊢
  have hl : lv_has ls 4 [(0, .ref (a 0)), (1, .int x0)] := hl
  generalize hQ : MQ below (va_Qi (fun r (_ : Unit) => r = rv) (kb_B D A (w_MO dA a (some (ba 0)) q1 g2 g3 g4 g5 (wa 0) (la 0) (ha 0) (ca 0) g10 g11 g12 g13 g14 g15 g16 g17 g18 mo ++ (w_W dA wa y_w ++ (w_Looks dA la y_looks ++ (w_Who dA ha u3 ++ (w_Look dA ca u4 ++ (w_Bus dA ba bu))))))) A) ([.ref (a 0), .int x0] : List Value).toArray s 0 0 A = Q
  show W p l e ({ frames := 5, cells := 0, slots := 0, locals := 122 } : Room) s m ([.ref (a 0), .int x0] : List Value).toArray below meth c s.heap [] 0 0 Q (F0 m 0 ls [])
  have RET : ∀ (r2 : Int32) (w3 : WhoT) (w4 : LookT) (H : Heap) (locs : List Loc) (ls : Array Slot) (pc : Nat), some (r2, w3, w4) = some (rv, u3, u4) → va_P D vwCl (w_MO dA a (some (ba 0)) q1 g2 g3 g4 g5 (wa 0) (la 0) (ha 0) (ca 0) g10 g11 g12 g13 g14 g15 g16 g17 g18 mo ++ (w_W dA wa y_w ++ (w_Looks dA la y_looks ++ (w_Who dA ha w3 ++ (w_Look dA ca w4 ++ (w_Bus dA ba bu)))))) H → va_D A (w_MO dA a (some (ba 0)) q1 g2 g3 g4 g5 (wa 0) (la 0) (ha 0) (ca 0) g10 g11 g12 g13 g14 g15 g16 g17 g18 mo ++ (w_W dA wa y_w ++ (w_Looks dA la y_looks ++ (w_Who dA ha w3 ++ (w_Look dA ca w4 ++ (w_Bus dA ba bu)))))) → va_S A s.heap H locs → decode cX12_mightChoose pc = .ok (.ireturn, 1) → W p l e ({ frames := 5, cells := 0, slots := 0, locals := 122 } : Room) s m ([.ref (a 0), .int x0] : List Value).toArray below meth c H locs 0 0 Q (F0 m pc ls [.int r2]) := by
    intro r2 w3 w4 H locs ls pc hq hP hD hS hd
    cases hq
    rw [← hQ]
    exact W.iret hx hb hr (fun t ht hW => ⟨⟨_, (), rfl, rfl, by rw [ht]; exact hP, hD⟩, hS.F ht⟩) hS.2.2 hd
  have B_83 : ∀ (v1 : Int32) (v2 : Int32) (z3 : WhoT) (z4 : LookT) (H : Heap) (locs : List Loc) (ls : Array Slot), f_X12_mightChoose_b83 mo y_w y_looks bu v1 v2 z3 z4 = some (rv, u3, u4) → va_P D vwCl (w_MO dA a (some (ba 0)) q1 g2 g3 g4 g5 (wa 0) (la 0) (ha 0) (ca 0) g10 g11 g12 g13 g14 g15 g16 g17 g18 mo ++ (w_W dA wa y_w ++ (w_Looks dA la y_looks ++ (w_Who dA ha z3 ++ (w_Look dA ca z4 ++ (w_Bus dA ba bu)))))) H → va_D A (w_MO dA a (some (ba 0)) q1 g2 g3 g4 g5 (wa 0) (la 0) (ha 0) (ca 0) g10 g11 g12 g13 g14 g15 g16 g17 g18 mo ++ (w_W dA wa y_w ++ (w_Looks dA la y_looks ++ (w_Who dA ha z3 ++ (w_Look dA ca z4 ++ (w_Bus dA ba bu)))))) → va_S A s.heap H locs → lv_has ls 4 [(0, .ref (a 0)), (1, .int v1), (2, .int v2)] → W p l e ({ frames := 5, cells := 0, slots := 0, locals := 122 } : Room) s m ([.ref (a 0), .int x0] : List Value).toArray below meth c H locs 0 0 Q (F0 m 83 ls []) := by
    intro v1 v2 z3 z4 H locs ls hf hP hD hS hl
    rw [f_X12_mightChoose_b83] at hf
    refine lv_aload_n hx hb dX12_mightChoose_83 rfl (lv_at hl 0 rfl) ?_
    refine lv_iload_n hx hb dX12_mightChoose_84 rfl (lv_at hl 2 rfl) ?_
    refine lv_aload_n hx hb dX12_mightChoose_85 rfl (lv_at hl 0 rfl) ?_
    refine va_get (D := D) (ci := 12) (v := .ref (ba 0)) (C := RX12) (T := TX12) (N := 35) hx hb hts kb_inX12 hown hK.1 hP 0 rfl rfl 3 (by decide) (hK.2.w ww_5_203 rfl _) (fun _ h9 => h9) rfl dX12_mightChoose_86 ?_
    refine va_getN (D := D) (ci := 11) (v := .ref (ba 5)) (C := RX11) (T := TX11) (N := 26) hx hb hts kb_inX11 hown hK.1 hP 5 rfl rfl 15 (by decide) (hK.2.nb ww_6_111 rfl rfl _) (fun _ h9 => h9) rfl dX12_mightChoose_89 ?_
    refine lv_iload_n hx hb dX12_mightChoose_92 rfl (lv_at hl 1 rfl) ?_
    obtain ⟨h_6, hf⟩ := kb_if hf
    refine va_iald (D := D) hx hb hK.1 hP 10 0 rfl rfl h_6 dX12_mightChoose_93 ?_
    refine lv_iload_n hx hb dX12_mightChoose_94 rfl (lv_at hl 1 rfl) ?_
    refine lv_aload_n hx hb dX12_mightChoose_95 rfl (lv_at hl 0 rfl) ?_
    refine va_get (D := D) (ci := 12) (v := .ref (la 0)) (C := RX12) (T := TX12) (N := 35) hx hb hts kb_inX12 hown hK.1 hP 0 rfl rfl 20 (by decide) (hK.2.w ww_5_220 rfl _) (fun _ h9 => h9) rfl dX12_mightChoose_96 ?_
    refine lv_iload_n hx hb dX12_mightChoose_99 rfl (lv_at hl 1 rfl) ?_
    obtain ⟨h_7, hf⟩ := kb_if hf
    refine va_iald (D := D) hx hb hK.1 hP 2 0 rfl rfl h_7 dX12_mightChoose_100 ?_
    obtain ⟨r8, hc8, hf⟩ := kb_bind hf
    refine kb_ci (ws2 := (w_MO dA a (some (ba 0)) q1 g2 g3 g4 g5 (wa 0) (la 0) (ha 0) (ca 0) g10 g11 g12 g13 g14 g15 g16 g17 g18 mo ++ (w_W dA wa y_w ++ (w_Looks dA la y_looks ++ (w_Who dA ha z3 ++ (w_Look dA ca z4 ++ (w_Bus dA ba bu))))))) (kb_rV (n := 4) (As := [.int v2, .int ((bu_rule bu) (v1).toNatClampNeg), .int v1, .int ((yLooks_r y_looks) (v1).toNatClampNeg)]) (rest := []) hx hb hml hown hK (c_X12_best l D dA H.size a ha ca ba q1 g2 g3 g4 g5 (wa 0) (la 0) g10 g11 g12 g13 g14 g15 g16 g17 g18 mo z3 z4 bu v2 ((bu_rule bu) (v1).toNatClampNeg) v1 ((yLooks_r y_looks) (v1).toNatClampNeg) r8 hc8) ⟨ww_7_210, ww_7_207, ww_7_209, ws_91, ww_1_12, rfl, by decide, by decide⟩ rfl rfl (by decide +kernel) ⟨Nat.le_of_ble_eq_true rfl, Nat.le_of_ble_eq_true rfl⟩ hP hD hS hA hE [0, 3, 4, 5, 6, 7, 8, 9, 10, 11, 12, 13, 14, 15, 16, 17, 18, 19, 20] rfl (by decide) 0 rfl rfl rfl hl.1 rfl (Nat.le_of_ble_eq_true rfl) dX12_mightChoose_101 ⟨Nat.le_of_ble_eq_true rfl, Nat.le_of_ble_eq_true rfl⟩) hP hD hS hA [0, 3, 4, 5, 6, 7, 8, 9, 10, 11, 12, 13, 14, 15, 16, 17, 18, 19, 20] [1, 2] [2, 0, 1, 3, 4, 5, 6, 7, 8, 9, 10, 11, 12, 13, 14, 15, 16, 17, 18, 19, 20] rfl rfl (by decide) (by decide) rfl (by decide) (fun H locs hP hD hS => ?_)
    exact RET _ _ _ H _ ls 104 hf hP hD hS dX12_mightChoose_104
  have B_78 : ∀ (v1 : Int32) (v2 : Int32) (z3 : WhoT) (z4 : LookT) (H : Heap) (locs : List Loc) (ls : Array Slot), f_X12_mightChoose_b78 mo y_w y_looks bu v1 v2 z3 z4 = some (rv, u3, u4) → va_P D vwCl (w_MO dA a (some (ba 0)) q1 g2 g3 g4 g5 (wa 0) (la 0) (ha 0) (ca 0) g10 g11 g12 g13 g14 g15 g16 g17 g18 mo ++ (w_W dA wa y_w ++ (w_Looks dA la y_looks ++ (w_Who dA ha z3 ++ (w_Look dA ca z4 ++ (w_Bus dA ba bu)))))) H → va_D A (w_MO dA a (some (ba 0)) q1 g2 g3 g4 g5 (wa 0) (la 0) (ha 0) (ca 0) g10 g11 g12 g13 g14 g15 g16 g17 g18 mo ++ (w_W dA wa y_w ++ (w_Looks dA la y_looks ++ (w_Who dA ha z3 ++ (w_Look dA ca z4 ++ (w_Bus dA ba bu)))))) → va_S A s.heap H locs → lv_has ls 4 [(0, .ref (a 0)), (1, .int v1), (2, .int v2)] → W p l e ({ frames := 5, cells := 0, slots := 0, locals := 122 } : Room) s m ([.ref (a 0), .int x0] : List Value).toArray below meth c H locs 0 0 Q (F0 m 78 ls []) := by
    intro v1 v2 z3 z4 H locs ls hf hP hD hS hl
    rw [f_X12_mightChoose_b78] at hf
    refine lv_aload_n hx hb dX12_mightChoose_78 rfl (lv_at hl 0 rfl) ?_
    refine lv_iload_n hx hb dX12_mightChoose_79 rfl (lv_at hl 1 rfl) ?_
    obtain ⟨r5, hc5, hf⟩ := kb_bind hf
    refine kb_cv (ws2 := (w_MO dA a (some (ba 0)) q1 g2 g3 g4 g5 (wa 0) (la 0) (ha 0) (ca 0) g10 g11 g12 g13 g14 g15 g16 g17 g18 mo ++ (w_W dA wa y_w ++ (w_Looks dA la y_looks ++ (w_Who dA ha r5.1 ++ (w_Look dA ca r5.2 ++ (w_Bus dA ba bu))))))) (kb_rV (n := 1) (As := [.int v1]) (rest := []) hx hb hml hown hK (c_X12_sees l D dA H.size a wa la ha ca ba q1 g2 g3 g4 g5 g10 g11 g12 g13 g14 g15 g16 g17 g18 mo y_w y_looks z3 z4 bu v1 r5.1 r5.2 hc5) ⟨ww_7_206, ww_7_203, ww_7_205, ws_90, ww_1_12, rfl, by decide, by decide⟩ rfl rfl (by decide +kernel) ⟨Nat.le_of_ble_eq_true rfl, Nat.le_of_ble_eq_true rfl⟩ hP hD hS hA hE [0, 1, 2, 3, 4, 5, 6, 7, 8, 9, 10, 11, 12, 13, 14, 15, 16, 17, 18, 19, 20] rfl (by decide) 0 rfl rfl rfl hl.1 rfl (Nat.le_of_ble_eq_true rfl) dX12_mightChoose_80 ⟨Nat.le_of_ble_eq_true rfl, Nat.le_of_ble_eq_true rfl⟩) hP hD hS hA [0, 1, 2, 3, 4, 5, 6, 7, 8, 9, 10, 11, 12, 13, 14, 15, 16, 17, 18, 19, 20] [] [0, 1, 2, 3, 4, 5, 6, 7, 8, 9, 10, 11, 12, 13, 14, 15, 16, 17, 18, 19, 20] rfl rfl (by decide) (by decide) rfl (by decide) (fun H locs hP hD hS => ?_)
    exact B_83 _ _ _ _ _ _ _ hf hP hD hS (lv_sub hl [0, 1, 2] rfl)
  have B_69 : ∀ (k31 : Int32 → Int32 → Int32 → WhoT → LookT → Option (Int32 × WhoT × LookT)) (hk31 : ∀ (v1 : Int32) (v2 : Int32) (v3 : Int32) (z3 : WhoT) (z4 : LookT) (H : Heap) (locs : List Loc) (ls : Array Slot), k31 v1 v2 v3 z3 z4 = some (rv, u3, u4) → va_P D vwCl (w_MO dA a (some (ba 0)) q1 g2 g3 g4 g5 (wa 0) (la 0) (ha 0) (ca 0) g10 g11 g12 g13 g14 g15 g16 g17 g18 mo ++ (w_W dA wa y_w ++ (w_Looks dA la y_looks ++ (w_Who dA ha z3 ++ (w_Look dA ca z4 ++ (w_Bus dA ba bu)))))) H → va_D A (w_MO dA a (some (ba 0)) q1 g2 g3 g4 g5 (wa 0) (la 0) (ha 0) (ca 0) g10 g11 g12 g13 g14 g15 g16 g17 g18 mo ++ (w_W dA wa y_w ++ (w_Looks dA la y_looks ++ (w_Who dA ha z3 ++ (w_Look dA ca z4 ++ (w_Bus dA ba bu)))))) → va_S A s.heap H locs → lv_has ls 4 [(0, .ref (a 0)), (1, .int v1), (2, .int v2), (3, .int v3)] → W p l e ({ frames := 5, cells := 0, slots := 0, locals := 122 } : Room) s m ([.ref (a 0), .int x0] : List Value).toArray below meth c H locs 0 0 Q (F0 m 31 ls [])) (v1 : Int32) (v3 : Int32) (s0 : Int32) (z3 : WhoT) (z4 : LookT) (H : Heap) (locs : List Loc) (ls : Array Slot), f_X12_mightChoose_b69 mo y_w y_looks bu k31 v1 v3 s0 z3 z4 = some (rv, u3, u4) → va_P D vwCl (w_MO dA a (some (ba 0)) q1 g2 g3 g4 g5 (wa 0) (la 0) (ha 0) (ca 0) g10 g11 g12 g13 g14 g15 g16 g17 g18 mo ++ (w_W dA wa y_w ++ (w_Looks dA la y_looks ++ (w_Who dA ha z3 ++ (w_Look dA ca z4 ++ (w_Bus dA ba bu)))))) H → va_D A (w_MO dA a (some (ba 0)) q1 g2 g3 g4 g5 (wa 0) (la 0) (ha 0) (ca 0) g10 g11 g12 g13 g14 g15 g16 g17 g18 mo ++ (w_W dA wa y_w ++ (w_Looks dA la y_looks ++ (w_Who dA ha z3 ++ (w_Look dA ca z4 ++ (w_Bus dA ba bu)))))) → va_S A s.heap H locs → lv_has ls 4 [(0, .ref (a 0)), (1, .int v1), (3, .int v3)] → W p l e ({ frames := 5, cells := 0, slots := 0, locals := 122 } : Room) s m ([.ref (a 0), .int x0] : List Value).toArray below meth c H locs 0 0 Q (F0 m 69 ls [.int s0]) := by
    intro k31 hk31 v1 v3 s0 z3 z4 H locs ls hf hP hD hS hl
    rw [f_X12_mightChoose_b69] at hf
    refine lv_iconst (v := (0 : Int32)) hx hb dX12_mightChoose_69 (by decide) ?_
    refine lv_ior hx hb dX12_mightChoose_70 ?_
    refine lv_istore_n (lv' := [(2, .int (s0 ||| (0 : Int32))), (0, .ref (a 0)), (1, .int v1), (3, .int v3)]) hx hb dX12_mightChoose_71 rfl hl (by decide) rfl (fun ls hl => ?_)
    refine lv_iinc (v := (v3 + (1 : Int32))) (lv' := [(3, .int (v3 + (1 : Int32))), (2, .int (s0 ||| (0 : Int32))), (0, .ref (a 0)), (1, .int v1)]) hx hb dX12_mightChoose_72 hl (k := 3) rfl (by rfl) (by decide) rfl (fun ls hl => ?_)
    refine lv_goto (tgt := 31) hx hb dX12_mightChoose_75 (by decide) ?_
    exact hk31 _ _ _ _ _ _ _ _ hf hP hD hS (lv_sub hl [2, 3, 1, 0] rfl)
  have B_31 : ∀ (n : Nat) (v1 : Int32) (v2 : Int32) (v3 : Int32) (z3 : WhoT) (z4 : LookT) (H : Heap) (locs : List Loc) (ls : Array Slot), f_X12_mightChoose_b31 mo y_w y_looks bu n v1 v2 v3 z3 z4 = some (rv, u3, u4) → va_P D vwCl (w_MO dA a (some (ba 0)) q1 g2 g3 g4 g5 (wa 0) (la 0) (ha 0) (ca 0) g10 g11 g12 g13 g14 g15 g16 g17 g18 mo ++ (w_W dA wa y_w ++ (w_Looks dA la y_looks ++ (w_Who dA ha z3 ++ (w_Look dA ca z4 ++ (w_Bus dA ba bu)))))) H → va_D A (w_MO dA a (some (ba 0)) q1 g2 g3 g4 g5 (wa 0) (la 0) (ha 0) (ca 0) g10 g11 g12 g13 g14 g15 g16 g17 g18 mo ++ (w_W dA wa y_w ++ (w_Looks dA la y_looks ++ (w_Who dA ha z3 ++ (w_Look dA ca z4 ++ (w_Bus dA ba bu)))))) → va_S A s.heap H locs → lv_has ls 4 [(0, .ref (a 0)), (1, .int v1), (2, .int v2), (3, .int v3)] → W p l e ({ frames := 5, cells := 0, slots := 0, locals := 122 } : Room) s m ([.ref (a 0), .int x0] : List Value).toArray below meth c H locs 0 0 Q (F0 m 31 ls []) := by
    intro n
    induction n with
    | zero =>
      intro v1 v2 v3 z3 z4 H locs ls hf
      exact absurd hf (by simp [f_X12_mightChoose_b31])
    | succ n ih =>
      intro v1 v2 v3 z3 z4 H locs ls hf hP hD hS hl
      rw [f_X12_mightChoose_b31] at hf
      refine lv_iload_n hx hb dX12_mightChoose_31 rfl (lv_at hl 3 rfl) ?_
      refine lv_iconst (v := (4 : Int32)) hx hb dX12_mightChoose_32 (by decide) ?_
      refine lv_aload_n hx hb dX12_mightChoose_33 rfl (lv_at hl 0 rfl) ?_
      refine va_get (D := D) (ci := 12) (v := .ref (ba 0)) (C := RX12) (T := TX12) (N := 35) hx hb hts kb_inX12 hown hK.1 hP 0 rfl rfl 3 (by decide) (hK.2.w ww_5_203 rfl _) (fun _ h9 => h9) rfl dX12_mightChoose_34 ?_
      refine va_getN (D := D) (ci := 11) (v := .int (bu_rows bu)) (C := RX11) (T := TX11) (N := 26) hx hb hts kb_inX11 hown hK.1 hP 5 rfl rfl 0 (by decide) (hK.2.nb ww_6_89 rfl rfl _) (fun _ h9 => h9) rfl dX12_mightChoose_37 ?_
      refine lv_imul hx hb dX12_mightChoose_40 ?_
      refine lv_icmp_ge (tgt := 78) hx hb dX12_mightChoose_41 (by decide) (fun c_9 => ?_) (fun c_9 => ?_)
      · rw [if_pos c_9] at hf
        exact B_78 _ _ _ _ _ _ _ hf hP hD hS (lv_sub hl [0, 1, 2] rfl)
      · rw [if_neg c_9] at hf
        refine lv_iload_n hx hb dX12_mightChoose_44 rfl (lv_at hl 2 rfl) ?_
        refine lv_aload_n hx hb dX12_mightChoose_45 rfl (lv_at hl 0 rfl) ?_
        refine lv_iload_n hx hb dX12_mightChoose_46 rfl (lv_at hl 3 rfl) ?_
        obtain ⟨r10, hc10, hf⟩ := kb_bind hf
        refine kb_ci (ws2 := (w_MO dA a (some (ba 0)) q1 g2 g3 g4 g5 (wa 0) (la 0) (ha 0) (ca 0) g10 g11 g12 g13 g14 g15 g16 g17 g18 mo ++ (w_W dA wa y_w ++ (w_Looks dA la y_looks ++ (w_Who dA ha z3 ++ (w_Look dA ca z4 ++ (w_Bus dA ba bu))))))) (kb_rV (n := 1) (As := [.int v3]) (rest := [.int v2]) hx hb hml hown hK (c_X12_isSeat l D dA H.size a ba q1 g2 g3 g4 g5 (wa 0) (la 0) (ha 0) (ca 0) g10 g11 g12 g13 g14 g15 g16 g17 g18 mo bu v3 r10 hc10) ⟨ww_7_179, ww_7_176, ww_7_178, ws_84, ww_1_12, rfl, by decide, by decide⟩ rfl rfl (by decide +kernel) ⟨Nat.le_of_ble_eq_true rfl, Nat.le_of_ble_eq_true rfl⟩ hP hD hS hA hE [0, 5, 6, 7, 8, 9, 10, 11, 12, 13, 14, 15, 16, 17, 18, 19, 20] rfl (by decide) 0 rfl rfl rfl hl.1 rfl (Nat.le_of_ble_eq_true rfl) dX12_mightChoose_47 ⟨Nat.le_of_ble_eq_true rfl, Nat.le_of_ble_eq_true rfl⟩) hP hD hS hA [0, 5, 6, 7, 8, 9, 10, 11, 12, 13, 14, 15, 16, 17, 18, 19, 20] [1, 2, 3, 4] [4, 0, 1, 2, 3, 5, 6, 7, 8, 9, 10, 11, 12, 13, 14, 15, 16, 17, 18, 19, 20] rfl rfl (by decide) (by decide) rfl (by decide) (fun H locs hP hD hS => ?_)
        refine lv_if_eq (tgt := 69) hx hb dX12_mightChoose_50 (by decide) (fun c_11 => ?_) (fun c_11 => ?_)
        · rw [if_pos c_11] at hf
          exact B_69 (f_X12_mightChoose_b31 mo y_w y_looks bu n) ih _ _ _ _ _ _ _ _ hf hP hD hS (lv_sub hl [0, 1, 3] rfl)
        · rw [if_neg c_11] at hf
          refine lv_aload_n hx hb dX12_mightChoose_53 rfl (lv_at hl 0 rfl) ?_
          refine lv_iload_n hx hb dX12_mightChoose_54 rfl (lv_at hl 3 rfl) ?_
          obtain ⟨r12, hc12, hf⟩ := kb_bind hf
          refine kb_ci (ws2 := (w_MO dA a (some (ba 0)) q1 g2 g3 g4 g5 (wa 0) (la 0) (ha 0) (ca 0) g10 g11 g12 g13 g14 g15 g16 g17 g18 mo ++ (w_W dA wa y_w ++ (w_Looks dA la y_looks ++ (w_Who dA ha z3 ++ (w_Look dA ca z4 ++ (w_Bus dA ba bu))))))) (kb_rV (n := 1) (As := [.int v3]) (rest := [.int v2]) hx hb hml hown hK (c_X12_sitter l D dA H.size a wa ba q1 g2 g3 g4 g5 (la 0) (ha 0) (ca 0) g10 g11 g12 g13 g14 g15 g16 g17 g18 mo y_w bu v3 r12 hc12) ⟨ww_7_155, ww_7_152, ww_7_154, ws_78, ww_1_12, rfl, by decide, by decide⟩ rfl rfl (by decide +kernel) ⟨Nat.le_of_ble_eq_true rfl, Nat.le_of_ble_eq_true rfl⟩ hP hD hS hA hE [0, 1, 5, 6, 7, 8, 9, 10, 11, 12, 13, 14, 15, 16, 17, 18, 19, 20] rfl (by decide) 0 rfl rfl rfl hl.1 rfl (Nat.le_of_ble_eq_true rfl) dX12_mightChoose_55 ⟨Nat.le_of_ble_eq_true rfl, Nat.le_of_ble_eq_true rfl⟩) hP hD hS hA [0, 1, 5, 6, 7, 8, 9, 10, 11, 12, 13, 14, 15, 16, 17, 18, 19, 20] [2, 3, 4] [3, 4, 0, 1, 2, 5, 6, 7, 8, 9, 10, 11, 12, 13, 14, 15, 16, 17, 18, 19, 20] rfl rfl (by decide) (by decide) rfl (by decide) (fun H locs hP hD hS => ?_)
          refine lv_bipush (v := (-2 : Int32)) hx hb dX12_mightChoose_58 (by decide) ?_
          refine lv_icmp_ne (tgt := 69) hx hb dX12_mightChoose_60 (by decide) (fun c_13 => ?_) (fun c_13 => ?_)
          · rw [if_neg c_13] at hf
            exact B_69 (f_X12_mightChoose_b31 mo y_w y_looks bu n) ih _ _ _ _ _ _ _ _ hf hP hD hS (lv_sub hl [0, 1, 3] rfl)
          · rw [if_pos c_13] at hf
            refine lv_iconst (v := (1 : Int32)) hx hb dX12_mightChoose_63 (by decide) ?_
            refine lv_iload_n hx hb dX12_mightChoose_64 rfl (lv_at hl 3 rfl) ?_
            refine lv_ishl hx hb dX12_mightChoose_65 ?_
            refine lv_goto (tgt := 70) hx hb dX12_mightChoose_66 (by decide) ?_
            refine lv_ior hx hb dX12_mightChoose_70 ?_
            refine lv_istore_n (lv' := [(2, .int (v2 ||| ((1 : Int32) <<< (v3 &&& 31)))), (0, .ref (a 0)), (1, .int v1), (3, .int v3)]) hx hb dX12_mightChoose_71 rfl hl (by decide) rfl (fun ls hl => ?_)
            refine lv_iinc (v := (v3 + (1 : Int32))) (lv' := [(3, .int (v3 + (1 : Int32))), (2, .int (v2 ||| ((1 : Int32) <<< (v3 &&& 31)))), (0, .ref (a 0)), (1, .int v1)]) hx hb dX12_mightChoose_72 hl (k := 3) rfl (by rfl) (by decide) rfl (fun ls hl => ?_)
            refine lv_goto (tgt := 31) hx hb dX12_mightChoose_75 (by decide) ?_
            exact ih _ _ _ _ _ _ _ _ hf hP hD hS (lv_sub hl [2, 3, 1, 0] rfl)
  have E0 : ∀ (H : Heap) (locs : List Loc), va_P D vwCl (w_MO dA a (some (ba 0)) q1 g2 g3 g4 g5 (wa 0) (la 0) (ha 0) (ca 0) g10 g11 g12 g13 g14 g15 g16 g17 g18 mo ++ (w_W dA wa y_w ++ (w_Looks dA la y_looks ++ (w_Who dA ha y_who ++ (w_Look dA ca y_look ++ (w_Bus dA ba bu)))))) H → va_D A (w_MO dA a (some (ba 0)) q1 g2 g3 g4 g5 (wa 0) (la 0) (ha 0) (ca 0) g10 g11 g12 g13 g14 g15 g16 g17 g18 mo ++ (w_W dA wa y_w ++ (w_Looks dA la y_looks ++ (w_Who dA ha y_who ++ (w_Look dA ca y_look ++ (w_Bus dA ba bu)))))) → va_S A s.heap H locs → W p l e ({ frames := 5, cells := 0, slots := 0, locals := 122 } : Room) s m ([.ref (a 0), .int x0] : List Value).toArray below meth c H locs 0 0 Q (F0 m 0 ls []) := by
    intro H locs hP hD hS
    rw [f_X12_mightChoose] at hf
    refine lv_aload_n hx hb dX12_mightChoose_0 rfl (lv_at hl 0 rfl) ?_
    obtain ⟨r1, hc1, hf⟩ := kb_bind hf
    refine kb_ci (ws2 := (w_MO dA a (some (ba 0)) q1 g2 g3 g4 g5 (wa 0) (la 0) (ha 0) (ca 0) g10 g11 g12 g13 g14 g15 g16 g17 g18 mo ++ (w_W dA wa y_w ++ (w_Looks dA la y_looks ++ (w_Who dA ha y_who ++ (w_Look dA ca y_look ++ (w_Bus dA ba bu))))))) (kb_rV (n := 0) (As := []) (rest := []) hx hb hml hown hK (c_X12_freeSeats l D dA H.size a wa ba q1 g2 g3 g4 g5 (la 0) (ha 0) (ca 0) g10 g11 g12 g13 g14 g15 g16 g17 g18 mo y_w bu r1 hc1) ⟨ww_7_175, ww_7_172, ww_7_174, ws_83, ww_1_12, rfl, by decide, by decide⟩ rfl rfl (by decide +kernel) ⟨Nat.le_of_ble_eq_true rfl, Nat.le_of_ble_eq_true rfl⟩ hP hD hS hA hE [0, 1, 5, 6, 7, 8, 9, 10, 11, 12, 13, 14, 15, 16, 17, 18, 19, 20] rfl (by decide) 0 rfl rfl rfl hl.1 rfl (Nat.le_of_ble_eq_true rfl) dX12_mightChoose_1 ⟨Nat.le_of_ble_eq_true rfl, Nat.le_of_ble_eq_true rfl⟩) hP hD hS hA [0, 1, 5, 6, 7, 8, 9, 10, 11, 12, 13, 14, 15, 16, 17, 18, 19, 20] [2, 3, 4] [3, 4, 0, 1, 2, 5, 6, 7, 8, 9, 10, 11, 12, 13, 14, 15, 16, 17, 18, 19, 20] rfl rfl (by decide) (by decide) rfl (by decide) (fun H locs hP hD hS => ?_)
    refine lv_istore_n (lv' := [(2, .int r1), (0, .ref (a 0)), (1, .int x0)]) hx hb dX12_mightChoose_4 rfl hl (by decide) rfl (fun ls hl => ?_)
    refine lv_aload_n hx hb dX12_mightChoose_5 rfl (lv_at hl 1 rfl) ?_
    refine lv_iload_n hx hb dX12_mightChoose_6 rfl (lv_at hl 2 rfl) ?_
    obtain ⟨r2, hc2, hf⟩ := kb_bind hf
    refine kb_ci (ws2 := (w_MO dA a (some (ba 0)) q1 g2 g3 g4 g5 (wa 0) (la 0) (ha 0) (ca 0) g10 g11 g12 g13 g14 g15 g16 g17 g18 mo ++ (w_W dA wa y_w ++ (w_Looks dA la y_looks ++ (w_Who dA ha y_who ++ (w_Look dA ca y_look ++ (w_Bus dA ba bu))))))) (kb_rV (n := 1) (As := [.int x0]) (rest := []) hx hb hml hown hK (c_X12_holdsFree l D dA H.size a wa ba q1 g2 g3 g4 g5 (la 0) (ha 0) (ca 0) g10 g11 g12 g13 g14 g15 g16 g17 g18 mo y_w bu x0 r2 hc2) ⟨ww_7_202, ww_7_199, ww_7_201, ws_89, ww_1_12, rfl, by decide, by decide⟩ rfl rfl (by decide +kernel) ⟨Nat.le_of_ble_eq_true rfl, Nat.le_of_ble_eq_true rfl⟩ hP hD hS hA hE [0, 1, 5, 6, 7, 8, 9, 10, 11, 12, 13, 14, 15, 16, 17, 18, 19, 20] rfl (by decide) 0 rfl rfl rfl hl.1 rfl (Nat.le_of_ble_eq_true rfl) dX12_mightChoose_7 ⟨Nat.le_of_ble_eq_true rfl, Nat.le_of_ble_eq_true rfl⟩) hP hD hS hA [0, 1, 5, 6, 7, 8, 9, 10, 11, 12, 13, 14, 15, 16, 17, 18, 19, 20] [2, 3, 4] [3, 4, 0, 1, 2, 5, 6, 7, 8, 9, 10, 11, 12, 13, 14, 15, 16, 17, 18, 19, 20] rfl rfl (by decide) (by decide) rfl (by decide) (fun H locs hP hD hS => ?_)
    refine lv_if_eq (tgt := 25) hx hb dX12_mightChoose_10 (by decide) (fun c_3 => ?_) (fun c_3 => ?_)
    · rw [if_pos c_3] at hf
      refine lv_iload_n hx hb dX12_mightChoose_25 rfl (lv_at hl 0 rfl) ?_
      refine lv_if_ne (tgt := 78) hx hb dX12_mightChoose_26 (by decide) (fun c_4 => ?_) (fun c_4 => ?_)
      · rw [if_neg c_4] at hf
        exact B_78 _ _ _ _ _ _ _ hf hP hD hS (lv_sub hl [1, 2, 0] rfl)
      · rw [if_pos c_4] at hf
        refine lv_iconst (v := (0 : Int32)) hx hb dX12_mightChoose_29 (by decide) ?_
        refine lv_istore_n (lv' := [(3, .int (0 : Int32)), (2, .int r1), (0, .ref (a 0)), (1, .int x0)]) hx hb dX12_mightChoose_30 rfl hl (by decide) rfl (fun ls hl => ?_)
        exact B_31 4096 _ _ _ _ _ _ _ _ hf hP hD hS (lv_sub hl [2, 3, 1, 0] rfl)
    · rw [if_neg c_3] at hf
      refine lv_iconst (v := (1 : Int32)) hx hb dX12_mightChoose_13 (by decide) ?_
      refine lv_aload_n hx hb dX12_mightChoose_14 rfl (lv_at hl 1 rfl) ?_
      refine va_get (D := D) (ci := 12) (v := .ref (ba 0)) (C := RX12) (T := TX12) (N := 35) hx hb hts kb_inX12 hown hK.1 hP 0 rfl rfl 3 (by decide) (hK.2.w ww_5_203 rfl _) (fun _ h9 => h9) rfl dX12_mightChoose_15 ?_
      refine va_getN (D := D) (ci := 11) (v := .ref (ba 8)) (C := RX11) (T := TX11) (N := 26) hx hb hts kb_inX11 hown hK.1 hP 5 rfl rfl 18 (by decide) (hK.2.nb ww_6_117 rfl rfl _) (fun _ h9 => h9) rfl dX12_mightChoose_18 ?_
      refine lv_iload_n hx hb dX12_mightChoose_21 rfl (lv_at hl 2 rfl) ?_
      obtain ⟨h_14, hf⟩ := kb_if hf
      refine va_iald (D := D) hx hb hK.1 hP 13 0 rfl rfl h_14 dX12_mightChoose_22 ?_
      refine lv_ishl hx hb dX12_mightChoose_23 ?_
      exact RET _ _ _ H _ ls 24 hf hP hD hS dX12_mightChoose_24
  exact E0 _ _ hP hD hS

noncomputable def f_X12_spurns_b52 (mo : MOT) (y_w : WT) (bu : BusT)  : Option (Int32) := some ((0 : Int32))
noncomputable def f_X12_spurns (mo : MOT) (y_w : WT) (bu : BusT) (x0 : Int32) (x1 : Int32) : Option (Int32) := if kb_in? x0 8 then (if ((bu_isProud bu) (x0).toNatClampNeg) = 0 then f_X12_spurns_b52 mo y_w bu  else if kb_in? x0 8 then (if ((bu_holds bu) (x0).toNatClampNeg) = x1 then f_X12_spurns_b52 mo y_w bu  else (f_X12_beside mo bu x1).bind fun r5 => (if r5 = (-1 : Int32) then f_X12_spurns_b52 mo y_w bu  else (f_X12_beside mo bu x1).bind fun r7 => (f_X12_sitter mo y_w bu r7).bind fun r8 => (if r8 = (-2 : Int32) then f_X12_spurns_b52 mo y_w bu  else some ((1 : Int32))))) else none) else none
set_option maxHeartbeats 4000000 in
set_option maxRecDepth 100000 in
theorem c_X12_spurns (l : Launch) (D : va_G) (dA : Nat → ClassId) (sz : Nat) (a : Nat → Nat) (wa : Nat → Nat) (ba : Nat → Nat) (q1 : Option Nat) (g2 : Nat) (g3 : Nat) (g4 : Nat) (g5 : Nat) (g7 : Nat) (g8 : Nat) (g9 : Nat) (g10 : Nat) (g11 : Nat) (g12 : Nat) (g13 : Nat) (g14 : Nat) (g15 : Nat) (g16 : Nat) (g17 : Nat) (g18 : Nat) (mo : MOT) (y_w : WT) (bu : BusT) (x0 : Int32) (x1 : Int32) (rv : Int32) (hf : f_X12_spurns mo y_w bu x0 x1 = some (rv)) : kb_Mi l yX12_spurns cX12_spurns 3 (some .boolean) ({ frames := 3, cells := 0, slots := 0, locals := 64 } : Room) D dA [.ref (a 0), .int x0, .int x1] sz (w_MO dA a (some (ba 0)) q1 g2 g3 g4 g5 (wa 0) g7 g8 g9 g10 g11 g12 g13 g14 g15 g16 g17 g18 mo ++ (w_W dA wa y_w ++ (w_Bus dA ba bu))) 0 0 rv (w_MO dA a (some (ba 0)) q1 g2 g3 g4 g5 (wa 0) g7 g8 g9 g10 g11 g12 g13 g14 g15 g16 g17 g18 mo ++ (w_W dA wa y_w ++ (w_Bus dA ba bu))) := by
  refine Met.ofW (cc := cX12_spurns) (maxL := 3) (ret := (some .boolean)) (by decide) rfl ?_
  intro p e s m args below meth c s₁ B hml hv
  obtain ⟨rfl, hsz, hP, hK, hD0, hE⟩ := hv
  have hx := B.exec
  have hb := B.bytes
  have hr := B.returns
  have hown : s.vm.findClass RX12 = some m.cls := findClass_of_methodNamed B.named
  have hlocks := B.notSynchronized
  have hts : ∀ w ∈ kb_gw, w.before ([.ref (a 0), .int x0, .int x1] : List Value).toArray s = true := fun w hw => hK.2.1 w hw _
  subst hsz
  have hD := hD0.self (sz := s.heap.size)
  generalize hAe : va_A (w_MO dA a (some (ba 0)) q1 g2 g3 g4 g5 (wa 0) g7 g8 g9 g10 g11 g12 g13 g14 g15 g16 g17 g18 mo ++ (w_W dA wa y_w ++ (w_Bus dA ba bu))) s.heap.size = A at hD hE ⊢
  have hA : ∀ q : Nat, s.heap.size ≤ q → A q := fun q h => by rw [← hAe]; exact Or.inr h
  have hS : va_S A s.heap s.heap [] := va_S.rf
  have hl := lv_entry ([.ref (a 0), .int x0, .int x1]) (n := 3) (Nat.le_of_ble_eq_true rfl)
  rw [lg_entry_eq]
  generalize (lg_sl ([.ref (a 0), .int x0, .int x1]) ++ List.replicate (3 - (lg_sl ([.ref (a 0), .int x0, .int x1])).length) Slot.unset).toArray = ls at hl ⊢
  have hl : lv_has ls 3 [(0, .ref (a 0)), (1, .int x0), (2, .int x1)] := hl
  generalize hQ : MQ below (va_Qi (fun r (_ : Unit) => r = rv) (kb_B D A (w_MO dA a (some (ba 0)) q1 g2 g3 g4 g5 (wa 0) g7 g8 g9 g10 g11 g12 g13 g14 g15 g16 g17 g18 mo ++ (w_W dA wa y_w ++ (w_Bus dA ba bu)))) A) ([.ref (a 0), .int x0, .int x1] : List Value).toArray s 0 0 A = Q
  show W p l e ({ frames := 3, cells := 0, slots := 0, locals := 64 } : Room) s m ([.ref (a 0), .int x0, .int x1] : List Value).toArray below meth c s.heap [] 0 0 Q (F0 m 0 ls [])
  have RET : ∀ (r2 : Int32) (H : Heap) (locs : List Loc) (ls : Array Slot) (pc : Nat), some (r2) = some (rv) → va_P D vwCl (w_MO dA a (some (ba 0)) q1 g2 g3 g4 g5 (wa 0) g7 g8 g9 g10 g11 g12 g13 g14 g15 g16 g17 g18 mo ++ (w_W dA wa y_w ++ (w_Bus dA ba bu))) H → va_D A (w_MO dA a (some (ba 0)) q1 g2 g3 g4 g5 (wa 0) g7 g8 g9 g10 g11 g12 g13 g14 g15 g16 g17 g18 mo ++ (w_W dA wa y_w ++ (w_Bus dA ba bu))) → va_S A s.heap H locs → kb_01 r2 → decode cX12_spurns pc = .ok (.ireturn, 1) → W p l e ({ frames := 3, cells := 0, slots := 0, locals := 64 } : Room) s m ([.ref (a 0), .int x0, .int x1] : List Value).toArray below meth c H locs 0 0 Q (F0 m pc ls [.int r2]) := by
    intro r2 H locs ls pc hq hP hD hS h01 hd
    cases hq
    rw [← hQ]
    exact W.zret (ty := .boolean) hx hb hr (kb_nz h01) (fun t ht hW => ⟨⟨_, (), rfl, rfl, by rw [ht]; exact hP, hD⟩, hS.F ht⟩) hS.2.2 hd
  have B_52 : ∀  (H : Heap) (locs : List Loc) (ls : Array Slot), f_X12_spurns_b52 mo y_w bu  = some (rv) → va_P D vwCl (w_MO dA a (some (ba 0)) q1 g2 g3 g4 g5 (wa 0) g7 g8 g9 g10 g11 g12 g13 g14 g15 g16 g17 g18 mo ++ (w_W dA wa y_w ++ (w_Bus dA ba bu))) H → va_D A (w_MO dA a (some (ba 0)) q1 g2 g3 g4 g5 (wa 0) g7 g8 g9 g10 g11 g12 g13 g14 g15 g16 g17 g18 mo ++ (w_W dA wa y_w ++ (w_Bus dA ba bu))) → va_S A s.heap H locs → lv_has ls 3 [] → W p l e ({ frames := 3, cells := 0, slots := 0, locals := 64 } : Room) s m ([.ref (a 0), .int x0, .int x1] : List Value).toArray below meth c H locs 0 0 Q (F0 m 52 ls []) := by
    intro  H locs ls hf hP hD hS hl
    rw [f_X12_spurns_b52] at hf
    refine lv_iconst (v := (0 : Int32)) hx hb dX12_spurns_52 (by decide) ?_
    exact RET _ H _ ls 53 hf hP hD hS (by decide) dX12_spurns_53
  have E0 : ∀ (H : Heap) (locs : List Loc), va_P D vwCl (w_MO dA a (some (ba 0)) q1 g2 g3 g4 g5 (wa 0) g7 g8 g9 g10 g11 g12 g13 g14 g15 g16 g17 g18 mo ++ (w_W dA wa y_w ++ (w_Bus dA ba bu))) H → va_D A (w_MO dA a (some (ba 0)) q1 g2 g3 g4 g5 (wa 0) g7 g8 g9 g10 g11 g12 g13 g14 g15 g16 g17 g18 mo ++ (w_W dA wa y_w ++ (w_Bus dA ba bu))) → va_S A s.heap H locs → W p l e ({ frames := 3, cells := 0, slots := 0, locals := 64 } : Room) s m ([.ref (a 0), .int x0, .int x1] : List Value).toArray below meth c H locs 0 0 Q (F0 m 0 ls []) := by
    intro H locs hP hD hS
    rw [f_X12_spurns] at hf
    refine lv_aload_n hx hb dX12_spurns_0 rfl (lv_at hl 0 rfl) ?_
    refine va_get (D := D) (ci := 12) (v := .ref (ba 0)) (C := RX12) (T := TX12) (N := 35) hx hb hts kb_inX12 hown hK.1 hP 0 rfl rfl 3 (by decide) (hK.2.w ww_5_203 rfl _) (fun _ h9 => h9) rfl dX12_spurns_1 ?_
    refine va_getN (D := D) (ci := 11) (v := .ref (ba 10)) (C := RX11) (T := TX11) (N := 26) hx hb hts kb_inX11 hown hK.1 hP 2 rfl rfl 20 (by decide) (hK.2.nb ww_6_121 rfl rfl _) (fun _ h9 => h9) rfl dX12_spurns_4 ?_
    refine lv_iload_n hx hb dX12_spurns_7 rfl (lv_at hl 1 rfl) ?_
    obtain ⟨h_1, hf⟩ := kb_if hf
    refine va_zald (D := D) hx hb hK.1 hP 12 3 rfl rfl h_1 dX12_spurns_8 ?_
    refine lv_if_eq (tgt := 52) hx hb dX12_spurns_9 (by decide) (fun c_2 => ?_) (fun c_2 => ?_)
    · rw [if_pos c_2] at hf
      exact B_52 _ _ _ hf hP hD hS (lv_sub hl [] rfl)
    · rw [if_neg c_2] at hf
      refine lv_aload_n hx hb dX12_spurns_12 rfl (lv_at hl 0 rfl) ?_
      refine va_get (D := D) (ci := 12) (v := .ref (ba 0)) (C := RX12) (T := TX12) (N := 35) hx hb hts kb_inX12 hown hK.1 hP 0 rfl rfl 3 (by decide) (hK.2.w ww_5_203 rfl _) (fun _ h9 => h9) rfl dX12_spurns_13 ?_
      refine va_getN (D := D) (ci := 11) (v := .ref (ba 8)) (C := RX11) (T := TX11) (N := 26) hx hb hts kb_inX11 hown hK.1 hP 2 rfl rfl 18 (by decide) (hK.2.nb ww_6_117 rfl rfl _) (fun _ h9 => h9) rfl dX12_spurns_16 ?_
      refine lv_iload_n hx hb dX12_spurns_19 rfl (lv_at hl 1 rfl) ?_
      obtain ⟨h_3, hf⟩ := kb_if hf
      refine va_iald (D := D) hx hb hK.1 hP 10 0 rfl rfl h_3 dX12_spurns_20 ?_
      refine lv_iload_n hx hb dX12_spurns_21 rfl (lv_at hl 2 rfl) ?_
      refine lv_icmp_eq (tgt := 52) hx hb dX12_spurns_22 (by decide) (fun c_4 => ?_) (fun c_4 => ?_)
      · rw [if_pos c_4] at hf
        exact B_52 _ _ _ hf hP hD hS (lv_sub hl [] rfl)
      · rw [if_neg c_4] at hf
        refine lv_aload_n hx hb dX12_spurns_25 rfl (lv_at hl 0 rfl) ?_
        refine lv_iload_n hx hb dX12_spurns_26 rfl (lv_at hl 2 rfl) ?_
        obtain ⟨r5, hc5, hf⟩ := kb_bind hf
        refine kb_ci (ws2 := (w_MO dA a (some (ba 0)) q1 g2 g3 g4 g5 (wa 0) g7 g8 g9 g10 g11 g12 g13 g14 g15 g16 g17 g18 mo ++ (w_W dA wa y_w ++ (w_Bus dA ba bu)))) (kb_rV (n := 1) (As := [.int x1]) (rest := []) hx hb hml hown hK (c_X12_beside l D dA H.size a ba q1 g2 g3 g4 g5 (wa 0) g7 g8 g9 g10 g11 g12 g13 g14 g15 g16 g17 g18 mo bu x1 r5 hc5) ⟨ww_7_139, ww_7_136, ww_7_138, ws_77, ww_1_12, rfl, by decide, by decide⟩ rfl rfl (by decide +kernel) ⟨Nat.le_of_ble_eq_true rfl, Nat.le_of_ble_eq_true rfl⟩ hP hD hS hA hE [0, 2, 3, 4, 5, 6, 7, 8, 9, 10, 11, 12, 13, 14, 15, 16, 17] rfl (by decide) 0 rfl rfl rfl hl.1 rfl (Nat.le_of_ble_eq_true rfl) dX12_spurns_27 ⟨Nat.le_of_ble_eq_true rfl, Nat.le_of_ble_eq_true rfl⟩) hP hD hS hA [0, 2, 3, 4, 5, 6, 7, 8, 9, 10, 11, 12, 13, 14, 15, 16, 17] [1] [1, 0, 2, 3, 4, 5, 6, 7, 8, 9, 10, 11, 12, 13, 14, 15, 16, 17] rfl rfl (by decide) (by decide) rfl (by decide) (fun H locs hP hD hS => ?_)
        refine lv_iconst (v := (-1 : Int32)) hx hb dX12_spurns_30 (by decide) ?_
        refine lv_icmp_eq (tgt := 52) hx hb dX12_spurns_31 (by decide) (fun c_6 => ?_) (fun c_6 => ?_)
        · rw [if_pos c_6] at hf
          exact B_52 _ _ _ hf hP hD hS (lv_sub hl [] rfl)
        · rw [if_neg c_6] at hf
          refine lv_aload_n hx hb dX12_spurns_34 rfl (lv_at hl 0 rfl) ?_
          refine lv_aload_n hx hb dX12_spurns_35 rfl (lv_at hl 0 rfl) ?_
          refine lv_iload_n hx hb dX12_spurns_36 rfl (lv_at hl 2 rfl) ?_
          obtain ⟨r7, hc7, hf⟩ := kb_bind hf
          refine kb_ci (ws2 := (w_MO dA a (some (ba 0)) q1 g2 g3 g4 g5 (wa 0) g7 g8 g9 g10 g11 g12 g13 g14 g15 g16 g17 g18 mo ++ (w_W dA wa y_w ++ (w_Bus dA ba bu)))) (kb_rV (n := 1) (As := [.int x1]) (rest := [.ref (a 0)]) hx hb hml hown hK (c_X12_beside l D dA H.size a ba q1 g2 g3 g4 g5 (wa 0) g7 g8 g9 g10 g11 g12 g13 g14 g15 g16 g17 g18 mo bu x1 r7 hc7) ⟨ww_7_139, ww_7_136, ww_7_138, ws_77, ww_1_12, rfl, by decide, by decide⟩ rfl rfl (by decide +kernel) ⟨Nat.le_of_ble_eq_true rfl, Nat.le_of_ble_eq_true rfl⟩ hP hD hS hA hE [0, 2, 3, 4, 5, 6, 7, 8, 9, 10, 11, 12, 13, 14, 15, 16, 17] rfl (by decide) 0 rfl rfl rfl hl.1 rfl (Nat.le_of_ble_eq_true rfl) dX12_spurns_37 ⟨Nat.le_of_ble_eq_true rfl, Nat.le_of_ble_eq_true rfl⟩) hP hD hS hA [0, 2, 3, 4, 5, 6, 7, 8, 9, 10, 11, 12, 13, 14, 15, 16, 17] [1] [1, 0, 2, 3, 4, 5, 6, 7, 8, 9, 10, 11, 12, 13, 14, 15, 16, 17] rfl rfl (by decide) (by decide) rfl (by decide) (fun H locs hP hD hS => ?_)
          obtain ⟨r8, hc8, hf⟩ := kb_bind hf
          refine kb_ci (ws2 := (w_MO dA a (some (ba 0)) q1 g2 g3 g4 g5 (wa 0) g7 g8 g9 g10 g11 g12 g13 g14 g15 g16 g17 g18 mo ++ (w_W dA wa y_w ++ (w_Bus dA ba bu)))) (kb_rV (n := 1) (As := [.int r7]) (rest := []) hx hb hml hown hK (c_X12_sitter l D dA H.size a wa ba q1 g2 g3 g4 g5 g7 g8 g9 g10 g11 g12 g13 g14 g15 g16 g17 g18 mo y_w bu r7 r8 hc8) ⟨ww_7_155, ww_7_152, ww_7_154, ws_78, ww_1_12, rfl, by decide, by decide⟩ rfl rfl (by decide +kernel) ⟨Nat.le_of_ble_eq_true rfl, Nat.le_of_ble_eq_true rfl⟩ hP hD hS hA hE [0, 1, 2, 3, 4, 5, 6, 7, 8, 9, 10, 11, 12, 13, 14, 15, 16, 17] rfl (by decide) 0 rfl rfl rfl hl.1 rfl (Nat.le_of_ble_eq_true rfl) dX12_spurns_40 ⟨Nat.le_of_ble_eq_true rfl, Nat.le_of_ble_eq_true rfl⟩) hP hD hS hA [0, 1, 2, 3, 4, 5, 6, 7, 8, 9, 10, 11, 12, 13, 14, 15, 16, 17] [] [0, 1, 2, 3, 4, 5, 6, 7, 8, 9, 10, 11, 12, 13, 14, 15, 16, 17] rfl rfl (by decide) (by decide) rfl (by decide) (fun H locs hP hD hS => ?_)
          refine lv_bipush (v := (-2 : Int32)) hx hb dX12_spurns_43 (by decide) ?_
          refine lv_icmp_eq (tgt := 52) hx hb dX12_spurns_45 (by decide) (fun c_9 => ?_) (fun c_9 => ?_)
          · rw [if_pos c_9] at hf
            exact B_52 _ _ _ hf hP hD hS (lv_sub hl [] rfl)
          · rw [if_neg c_9] at hf
            refine lv_iconst (v := (1 : Int32)) hx hb dX12_spurns_48 (by decide) ?_
            refine lv_goto (tgt := 53) hx hb dX12_spurns_49 (by decide) ?_
            exact RET _ H _ ls 53 hf hP hD hS (by decide) dX12_spurns_53
  exact E0 _ _ hP hD hS

noncomputable def f_X12_chosen_b6 (mo : MOT) (y_w : WT) (y_looks : LooksT) (bu : BusT) (v1 : Int32) (v2 : Int32) (z3 : WhoT) (z4 : LookT) : Option (Int32 × WhoT × LookT) := (if v2 = 0 then some ((-2 : Int32), z3, z4) else (f_X12_first v2).bind fun r3 => (f_X12_spurns mo y_w bu v1 r3).bind fun r4 => (if r4 = 0 then (f_X12_first v2).bind fun r6 => some (r6, z3, z4) else some ((-2 : Int32), z3, z4)))
noncomputable def f_X12_chosen (mo : MOT) (y_w : WT) (y_looks : LooksT) (y_who : WhoT) (y_look : LookT) (bu : BusT) (x0 : Int32) : Option (Int32 × WhoT × LookT) := (f_X12_mightChoose mo y_w y_looks y_who y_look bu x0).bind fun r1 => f_X12_chosen_b6 mo y_w y_looks bu x0 r1.1 r1.2.1 r1.2.2
set_option maxHeartbeats 4000000 in
set_option maxRecDepth 100000 in
theorem c_X12_chosen (l : Launch) (D : va_G) (dA : Nat → ClassId) (sz : Nat) (a : Nat → Nat) (wa : Nat → Nat) (la : Nat → Nat) (ha : Nat → Nat) (ca : Nat → Nat) (ba : Nat → Nat) (q1 : Option Nat) (g2 : Nat) (g3 : Nat) (g4 : Nat) (g5 : Nat) (g10 : Nat) (g11 : Nat) (g12 : Nat) (g13 : Nat) (g14 : Nat) (g15 : Nat) (g16 : Nat) (g17 : Nat) (g18 : Nat) (mo : MOT) (y_w : WT) (y_looks : LooksT) (y_who : WhoT) (y_look : LookT) (bu : BusT) (x0 : Int32) (rv : Int32) (u3 : WhoT) (u4 : LookT) (hf : f_X12_chosen mo y_w y_looks y_who y_look bu x0 = some (rv, u3, u4)) : kb_Mi l yX12_chosen cX12_chosen 3 (some .int) ({ frames := 6, cells := 0, slots := 0, locals := 145 } : Room) D dA [.ref (a 0), .int x0] sz (w_MO dA a (some (ba 0)) q1 g2 g3 g4 g5 (wa 0) (la 0) (ha 0) (ca 0) g10 g11 g12 g13 g14 g15 g16 g17 g18 mo ++ (w_W dA wa y_w ++ (w_Looks dA la y_looks ++ (w_Who dA ha y_who ++ (w_Look dA ca y_look ++ (w_Bus dA ba bu)))))) 0 0 rv (w_MO dA a (some (ba 0)) q1 g2 g3 g4 g5 (wa 0) (la 0) (ha 0) (ca 0) g10 g11 g12 g13 g14 g15 g16 g17 g18 mo ++ (w_W dA wa y_w ++ (w_Looks dA la y_looks ++ (w_Who dA ha u3 ++ (w_Look dA ca u4 ++ (w_Bus dA ba bu)))))) := by
  refine Met.ofW (cc := cX12_chosen) (maxL := 3) (ret := (some .int)) (by decide) rfl ?_
  intro p e s m args below meth c s₁ B hml hv
  obtain ⟨rfl, hsz, hP, hK, hD0, hE⟩ := hv
  have hx := B.exec
  have hb := B.bytes
  have hr := B.returns
  have hown : s.vm.findClass RX12 = some m.cls := findClass_of_methodNamed B.named
  have hlocks := B.notSynchronized
  have hts : ∀ w ∈ kb_gw, w.before ([.ref (a 0), .int x0] : List Value).toArray s = true := fun w hw => hK.2.1 w hw _
  subst hsz
  have hD := hD0.self (sz := s.heap.size)
  generalize hAe : va_A (w_MO dA a (some (ba 0)) q1 g2 g3 g4 g5 (wa 0) (la 0) (ha 0) (ca 0) g10 g11 g12 g13 g14 g15 g16 g17 g18 mo ++ (w_W dA wa y_w ++ (w_Looks dA la y_looks ++ (w_Who dA ha y_who ++ (w_Look dA ca y_look ++ (w_Bus dA ba bu)))))) s.heap.size = A at hD hE ⊢
  have hA : ∀ q : Nat, s.heap.size ≤ q → A q := fun q h => by rw [← hAe]; exact Or.inr h
  have hS : va_S A s.heap s.heap [] := va_S.rf
  have hl := lv_entry ([.ref (a 0), .int x0]) (n := 3) (Nat.le_of_ble_eq_true rfl)
  rw [lg_entry_eq]
  generalize (lg_sl ([.ref (a 0), .int x0]) ++ List.replicate (3 - (lg_sl ([.ref (a 0), .int x0])).length) Slot.unset).toArray = ls at hl ⊢
  have hl : lv_has ls 3 [(0, .ref (a 0)), (1, .int x0)] := hl
  generalize hQ : MQ below (va_Qi (fun r (_ : Unit) => r = rv) (kb_B D A (w_MO dA a (some (ba 0)) q1 g2 g3 g4 g5 (wa 0) (la 0) (ha 0) (ca 0) g10 g11 g12 g13 g14 g15 g16 g17 g18 mo ++ (w_W dA wa y_w ++ (w_Looks dA la y_looks ++ (w_Who dA ha u3 ++ (w_Look dA ca u4 ++ (w_Bus dA ba bu))))))) A) ([.ref (a 0), .int x0] : List Value).toArray s 0 0 A = Q
  show W p l e ({ frames := 6, cells := 0, slots := 0, locals := 145 } : Room) s m ([.ref (a 0), .int x0] : List Value).toArray below meth c s.heap [] 0 0 Q (F0 m 0 ls [])
  have RET : ∀ (r2 : Int32) (w3 : WhoT) (w4 : LookT) (H : Heap) (locs : List Loc) (ls : Array Slot) (pc : Nat), some (r2, w3, w4) = some (rv, u3, u4) → va_P D vwCl (w_MO dA a (some (ba 0)) q1 g2 g3 g4 g5 (wa 0) (la 0) (ha 0) (ca 0) g10 g11 g12 g13 g14 g15 g16 g17 g18 mo ++ (w_W dA wa y_w ++ (w_Looks dA la y_looks ++ (w_Who dA ha w3 ++ (w_Look dA ca w4 ++ (w_Bus dA ba bu)))))) H → va_D A (w_MO dA a (some (ba 0)) q1 g2 g3 g4 g5 (wa 0) (la 0) (ha 0) (ca 0) g10 g11 g12 g13 g14 g15 g16 g17 g18 mo ++ (w_W dA wa y_w ++ (w_Looks dA la y_looks ++ (w_Who dA ha w3 ++ (w_Look dA ca w4 ++ (w_Bus dA ba bu)))))) → va_S A s.heap H locs → decode cX12_chosen pc = .ok (.ireturn, 1) → W p l e ({ frames := 6, cells := 0, slots := 0, locals := 145 } : Room) s m ([.ref (a 0), .int x0] : List Value).toArray below meth c H locs 0 0 Q (F0 m pc ls [.int r2]) := by
    intro r2 w3 w4 H locs ls pc hq hP hD hS hd
    cases hq
    rw [← hQ]
    exact W.iret hx hb hr (fun t ht hW => ⟨⟨_, (), rfl, rfl, by rw [ht]; exact hP, hD⟩, hS.F ht⟩) hS.2.2 hd
  have B_6 : ∀ (v1 : Int32) (v2 : Int32) (z3 : WhoT) (z4 : LookT) (H : Heap) (locs : List Loc) (ls : Array Slot), f_X12_chosen_b6 mo y_w y_looks bu v1 v2 z3 z4 = some (rv, u3, u4) → va_P D vwCl (w_MO dA a (some (ba 0)) q1 g2 g3 g4 g5 (wa 0) (la 0) (ha 0) (ca 0) g10 g11 g12 g13 g14 g15 g16 g17 g18 mo ++ (w_W dA wa y_w ++ (w_Looks dA la y_looks ++ (w_Who dA ha z3 ++ (w_Look dA ca z4 ++ (w_Bus dA ba bu)))))) H → va_D A (w_MO dA a (some (ba 0)) q1 g2 g3 g4 g5 (wa 0) (la 0) (ha 0) (ca 0) g10 g11 g12 g13 g14 g15 g16 g17 g18 mo ++ (w_W dA wa y_w ++ (w_Looks dA la y_looks ++ (w_Who dA ha z3 ++ (w_Look dA ca z4 ++ (w_Bus dA ba bu)))))) → va_S A s.heap H locs → lv_has ls 3 [(0, .ref (a 0)), (1, .int v1), (2, .int v2)] → W p l e ({ frames := 6, cells := 0, slots := 0, locals := 145 } : Room) s m ([.ref (a 0), .int x0] : List Value).toArray below meth c H locs 0 0 Q (F0 m 6 ls []) := by
    intro v1 v2 z3 z4 H locs ls hf hP hD hS hl
    rw [f_X12_chosen_b6] at hf
    refine lv_iload_n hx hb dX12_chosen_6 rfl (lv_at hl 2 rfl) ?_
    refine lv_if_eq (tgt := 22) hx hb dX12_chosen_7 (by decide) (fun c_2 => ?_) (fun c_2 => ?_)
    · rw [if_pos c_2] at hf
      refine lv_bipush (v := (-2 : Int32)) hx hb dX12_chosen_22 (by decide) ?_
      exact RET _ _ _ H _ ls 24 hf hP hD hS dX12_chosen_24
    · rw [if_neg c_2] at hf
      refine lv_aload_n hx hb dX12_chosen_10 rfl (lv_at hl 0 rfl) ?_
      refine lv_iload_n hx hb dX12_chosen_11 rfl (lv_at hl 1 rfl) ?_
      refine lv_iload_n hx hb dX12_chosen_12 rfl (lv_at hl 2 rfl) ?_
      obtain ⟨r3, hc3, hf⟩ := kb_bind hf
      refine kb_ci (ws2 := (w_MO dA a (some (ba 0)) q1 g2 g3 g4 g5 (wa 0) (la 0) (ha 0) (ca 0) g10 g11 g12 g13 g14 g15 g16 g17 g18 mo ++ (w_W dA wa y_w ++ (w_Looks dA la y_looks ++ (w_Who dA ha z3 ++ (w_Look dA ca z4 ++ (w_Bus dA ba bu))))))) (kb_rS (n := 1) (As := [.int v2]) (rest := [.int v1, .ref (a 0)]) hx hb hml hown hK (c_X12_first l D dA H.size v2 r3 hc3) ⟨ww_7_221, ww_7_219, ww_7_220, ww_1_12, by decide, by decide⟩ rfl rfl (by decide +kernel) ⟨Nat.le_of_ble_eq_true rfl, Nat.le_of_ble_eq_true rfl⟩ hP hD hS hA hE [] rfl (by decide) rfl hl.1 rfl (Nat.le_of_ble_eq_true rfl) dX12_chosen_13 ⟨Nat.le_of_ble_eq_true rfl, Nat.le_of_ble_eq_true rfl⟩) hP hD hS hA [] [0, 1, 2, 3, 4, 5, 6, 7, 8, 9, 10, 11, 12, 13, 14, 15, 16, 17, 18, 19, 20] [0, 1, 2, 3, 4, 5, 6, 7, 8, 9, 10, 11, 12, 13, 14, 15, 16, 17, 18, 19, 20] rfl rfl (by decide) (by decide) rfl (by decide) (fun H locs hP hD hS => ?_)
      obtain ⟨r4, hc4, hf⟩ := kb_bind hf
      refine kb_ci (ws2 := (w_MO dA a (some (ba 0)) q1 g2 g3 g4 g5 (wa 0) (la 0) (ha 0) (ca 0) g10 g11 g12 g13 g14 g15 g16 g17 g18 mo ++ (w_W dA wa y_w ++ (w_Looks dA la y_looks ++ (w_Who dA ha z3 ++ (w_Look dA ca z4 ++ (w_Bus dA ba bu))))))) (kb_rV (n := 2) (As := [.int v1, .int r3]) (rest := []) hx hb hml hown hK (c_X12_spurns l D dA H.size a wa ba q1 g2 g3 g4 g5 (la 0) (ha 0) (ca 0) g10 g11 g12 g13 g14 g15 g16 g17 g18 mo y_w bu v1 r3 r4 hc4) ⟨ww_7_225, ww_7_222, ww_7_224, ws_93, ww_1_12, rfl, by decide, by decide⟩ rfl rfl (by decide +kernel) ⟨Nat.le_of_ble_eq_true rfl, Nat.le_of_ble_eq_true rfl⟩ hP hD hS hA hE [0, 1, 5, 6, 7, 8, 9, 10, 11, 12, 13, 14, 15, 16, 17, 18, 19, 20] rfl (by decide) 0 rfl rfl rfl hl.1 rfl (Nat.le_of_ble_eq_true rfl) dX12_chosen_16 ⟨Nat.le_of_ble_eq_true rfl, Nat.le_of_ble_eq_true rfl⟩) hP hD hS hA [0, 1, 5, 6, 7, 8, 9, 10, 11, 12, 13, 14, 15, 16, 17, 18, 19, 20] [2, 3, 4] [3, 4, 0, 1, 2, 5, 6, 7, 8, 9, 10, 11, 12, 13, 14, 15, 16, 17, 18, 19, 20] rfl rfl (by decide) (by decide) rfl (by decide) (fun H locs hP hD hS => ?_)
      refine lv_if_eq (tgt := 25) hx hb dX12_chosen_19 (by decide) (fun c_5 => ?_) (fun c_5 => ?_)
      · rw [if_pos c_5] at hf
        refine lv_iload_n hx hb dX12_chosen_25 rfl (lv_at hl 2 rfl) ?_
        obtain ⟨r6, hc6, hf⟩ := kb_bind hf
        refine kb_ci (ws2 := (w_MO dA a (some (ba 0)) q1 g2 g3 g4 g5 (wa 0) (la 0) (ha 0) (ca 0) g10 g11 g12 g13 g14 g15 g16 g17 g18 mo ++ (w_W dA wa y_w ++ (w_Looks dA la y_looks ++ (w_Who dA ha z3 ++ (w_Look dA ca z4 ++ (w_Bus dA ba bu))))))) (kb_rS (n := 1) (As := [.int v2]) (rest := []) hx hb hml hown hK (c_X12_first l D dA H.size v2 r6 hc6) ⟨ww_7_221, ww_7_219, ww_7_220, ww_1_12, by decide, by decide⟩ rfl rfl (by decide +kernel) ⟨Nat.le_of_ble_eq_true rfl, Nat.le_of_ble_eq_true rfl⟩ hP hD hS hA hE [] rfl (by decide) rfl hl.1 rfl (Nat.le_of_ble_eq_true rfl) dX12_chosen_26 ⟨Nat.le_of_ble_eq_true rfl, Nat.le_of_ble_eq_true rfl⟩) hP hD hS hA [] [0, 1, 2, 3, 4, 5, 6, 7, 8, 9, 10, 11, 12, 13, 14, 15, 16, 17, 18, 19, 20] [0, 1, 2, 3, 4, 5, 6, 7, 8, 9, 10, 11, 12, 13, 14, 15, 16, 17, 18, 19, 20] rfl rfl (by decide) (by decide) rfl (by decide) (fun H locs hP hD hS => ?_)
        exact RET _ _ _ H _ ls 29 hf hP hD hS dX12_chosen_29
      · rw [if_neg c_5] at hf
        refine lv_bipush (v := (-2 : Int32)) hx hb dX12_chosen_22 (by decide) ?_
        exact RET _ _ _ H _ ls 24 hf hP hD hS dX12_chosen_24
  have E0 : ∀ (H : Heap) (locs : List Loc), va_P D vwCl (w_MO dA a (some (ba 0)) q1 g2 g3 g4 g5 (wa 0) (la 0) (ha 0) (ca 0) g10 g11 g12 g13 g14 g15 g16 g17 g18 mo ++ (w_W dA wa y_w ++ (w_Looks dA la y_looks ++ (w_Who dA ha y_who ++ (w_Look dA ca y_look ++ (w_Bus dA ba bu)))))) H → va_D A (w_MO dA a (some (ba 0)) q1 g2 g3 g4 g5 (wa 0) (la 0) (ha 0) (ca 0) g10 g11 g12 g13 g14 g15 g16 g17 g18 mo ++ (w_W dA wa y_w ++ (w_Looks dA la y_looks ++ (w_Who dA ha y_who ++ (w_Look dA ca y_look ++ (w_Bus dA ba bu)))))) → va_S A s.heap H locs → W p l e ({ frames := 6, cells := 0, slots := 0, locals := 145 } : Room) s m ([.ref (a 0), .int x0] : List Value).toArray below meth c H locs 0 0 Q (F0 m 0 ls []) := by
    intro H locs hP hD hS
    rw [f_X12_chosen] at hf
    refine lv_aload_n hx hb dX12_chosen_0 rfl (lv_at hl 0 rfl) ?_
    refine lv_iload_n hx hb dX12_chosen_1 rfl (lv_at hl 1 rfl) ?_
    obtain ⟨r1, hc1, hf⟩ := kb_bind hf
    refine kb_ci (ws2 := (w_MO dA a (some (ba 0)) q1 g2 g3 g4 g5 (wa 0) (la 0) (ha 0) (ca 0) g10 g11 g12 g13 g14 g15 g16 g17 g18 mo ++ (w_W dA wa y_w ++ (w_Looks dA la y_looks ++ (w_Who dA ha r1.2.1 ++ (w_Look dA ca r1.2.2 ++ (w_Bus dA ba bu))))))) (kb_rV (n := 1) (As := [.int x0]) (rest := []) hx hb hml hown hK (c_X12_mightChoose l D dA H.size a wa la ha ca ba q1 g2 g3 g4 g5 g10 g11 g12 g13 g14 g15 g16 g17 g18 mo y_w y_looks y_who y_look bu x0 r1.1 r1.2.1 r1.2.2 hc1) ⟨ww_7_198, ww_7_195, ww_7_197, ws_88, ww_1_12, rfl, by decide, by decide⟩ rfl rfl (by decide +kernel) ⟨Nat.le_of_ble_eq_true rfl, Nat.le_of_ble_eq_true rfl⟩ hP hD hS hA hE [0, 1, 2, 3, 4, 5, 6, 7, 8, 9, 10, 11, 12, 13, 14, 15, 16, 17, 18, 19, 20] rfl (by decide) 0 rfl rfl rfl hl.1 rfl (Nat.le_of_ble_eq_true rfl) dX12_chosen_2 ⟨Nat.le_of_ble_eq_true rfl, Nat.le_of_ble_eq_true rfl⟩) hP hD hS hA [0, 1, 2, 3, 4, 5, 6, 7, 8, 9, 10, 11, 12, 13, 14, 15, 16, 17, 18, 19, 20] [] [0, 1, 2, 3, 4, 5, 6, 7, 8, 9, 10, 11, 12, 13, 14, 15, 16, 17, 18, 19, 20] rfl rfl (by decide) (by decide) rfl (by decide) (fun H locs hP hD hS => ?_)
    refine lv_istore_n (lv' := [(2, .int r1.1), (0, .ref (a 0)), (1, .int x0)]) hx hb dX12_chosen_5 rfl hl (by decide) rfl (fun ls hl => ?_)
    exact B_6 _ _ _ _ _ _ _ hf hP hD hS (lv_sub hl [1, 2, 0] rfl)
  exact E0 _ _ hP hD hS
