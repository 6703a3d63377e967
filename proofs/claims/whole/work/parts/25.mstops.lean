noncomputable def f_X12_sitsDown_b224 (mo : MOT) (bu : BusT) (z1 : WT) : Option (WT) := some (z1)
noncomputable def f_X12_sitsDown_b176 (mo : MOT) (bu : BusT) (v1 : Int32) (v2 : Int32) (z1 : WT) : Option (WT) := (f_X12_beside mo bu v2).bind fun r11 => if kb_in? v1 8 then (if ((bu_hasBag bu) (v1).toNatClampNeg) = 0 then some (z1) else (if r11 = (-1 : Int32) then some (z1) else (f_X12_freeSeats mo z1 bu).bind fun r15 => (f_X12_has r15 r11).bind fun r16 => (if r16 = 0 then some (z1) else if kb_in? ((8 : Int32) + v1) 56 then f_X12_sitsDown_b224 mo bu (yW_set_r z1 (upd (yW_r z1) (((8 : Int32) + v1)).toNatClampNeg r11)) else none))) else none
noncomputable def f_X12_sitsDown_b166 (mo : MOT) (bu : BusT) (v1 : Int32) (v2 : Int32) (z1 : WT) : Option (WT) := if kb_in? ((32 : Int32) + v1) 56 then f_X12_sitsDown_b176 mo bu v1 v2 (yW_set_r z1 (upd (yW_r z1) (((32 : Int32) + v1)).toNatClampNeg (0 : Int32))) else none
noncomputable def f_X12_sitsDown_b156 (mo : MOT) (bu : BusT) (v1 : Int32) (v2 : Int32) (z1 : WT) : Option (WT) := if kb_in? ((24 : Int32) + v1) 56 then f_X12_sitsDown_b166 mo bu v1 v2 (yW_set_r z1 (upd (yW_r z1) (((24 : Int32) + v1)).toNatClampNeg (0 : Int32))) else none
noncomputable def f_X12_sitsDown_b140 (mo : MOT) (bu : BusT) (v1 : Int32) (v2 : Int32) (z1 : WT) : Option (WT) := if kb_in? (53 : Int32) 56 then if kb_in? ((16 : Int32) + v1) 56 then f_X12_sitsDown_b156 mo bu v1 v2 (yW_set_r z1 (upd (yW_r z1) (((16 : Int32) + v1)).toNatClampNeg ((yW_r z1) ((53 : Int32)).toNatClampNeg))) else none else none
noncomputable def f_X12_sitsDown_b129 (mo : MOT) (bu : BusT) (v1 : Int32) (v2 : Int32) (z1 : WT) : Option (WT) := if kb_in? (53 : Int32) 56 then if kb_in? (53 : Int32) 56 then f_X12_sitsDown_b140 mo bu v1 v2 (yW_set_r z1 (upd (yW_r z1) ((53 : Int32)).toNatClampNeg (((yW_r z1) ((53 : Int32)).toNatClampNeg) + (1 : Int32)))) else none else none
noncomputable def f_X12_sitsDown_b114 (mo : MOT) (bu : BusT) (k25 : Int32 → Int32 → Int32 → WT → Option (WT)) (v1 : Int32) (v2 : Int32) (v4 : Int32) (z1 : WT) : Option (WT) := k25 v1 v2 (v4 + (1 : Int32)) z1
noncomputable def f_X12_sitsDown_b97 (mo : MOT) (bu : BusT) (k25 : Int32 → Int32 → Int32 → WT → Option (WT)) (v1 : Int32) (v2 : Int32) (v4 : Int32) (z1 : WT) : Option (WT) := f_X12_sitsDown_b114 mo bu k25 v1 v2 v4 z1
noncomputable def f_X12_sitsDown_b25 (mo : MOT) (bu : BusT) : Nat → Int32 → Int32 → Int32 → WT → Option (WT)
  | 0, _, _, _, _ => none
  | n + 1, v1, v2, v4, z1 => (if (bu_riders bu) ≤ v4 then if kb_in? ((0 : Int32) + v1) 56 then f_X12_sitsDown_b129 mo bu v1 v2 (yW_set_r z1 (upd (yW_r z1) (((0 : Int32) + v1)).toNatClampNeg v2)) else none else (if v4 = v1 then f_X12_sitsDown_b25 mo bu n v1 v2 (v4 + (1 : Int32)) z1 else (f_X12_isSitting mo z1 v4).bind fun r20 => (if r20 = 0 then f_X12_sitsDown_b25 mo bu n v1 v2 (v4 + (1 : Int32)) z1 else if kb_in? ((32 : Int32) + v4) 56 then (if ((yW_r z1) (((32 : Int32) + v4)).toNatClampNeg) = (1 : Int32) then f_X12_sitsDown_b114 mo bu (f_X12_sitsDown_b25 mo bu n) v1 v2 v4 z1 else (f_X12_beside mo bu v2).bind fun r24 => if kb_in? ((0 : Int32) + v4) 56 then (if r24 = ((yW_r z1) (((0 : Int32) + v4)).toNatClampNeg) then if kb_in? ((32 : Int32) + v4) 56 then f_X12_sitsDown_b97 mo bu (f_X12_sitsDown_b25 mo bu n) v1 v2 v4 (yW_set_r z1 (upd (yW_r z1) (((32 : Int32) + v4)).toNatClampNeg (1 : Int32))) else none else if kb_in? ((24 : Int32) + v4) 56 then if kb_in? ((24 : Int32) + v4) 56 then f_X12_sitsDown_b114 mo bu (f_X12_sitsDown_b25 mo bu n) v1 v2 v4 (yW_set_r z1 (upd (yW_r z1) (((24 : Int32) + v4)).toNatClampNeg (((yW_r z1) (((24 : Int32) + v4)).toNatClampNeg) + (1 : Int32)))) else none else none) else none) else none)))
noncomputable def f_X12_sitsDown_b22 (mo : MOT) (bu : BusT) (v1 : Int32) (v2 : Int32) (z1 : WT) : Option (WT) := f_X12_sitsDown_b25 mo bu 4096 v1 v2 (0 : Int32) z1
noncomputable def f_X12_sitsDown (mo : MOT) (y_w : WT) (bu : BusT) (x0 : Int32) (x1 : Int32) : Option (WT) := (f_X12_bagIn mo y_w bu x1).bind fun r1 => (if r1 = (-2 : Int32) then f_X12_sitsDown_b22 mo bu x0 x1 y_w else if kb_in? ((8 : Int32) + r1) 56 then f_X12_sitsDown_b22 mo bu x0 x1 (yW_set_r y_w (upd (yW_r y_w) (((8 : Int32) + r1)).toNatClampNeg (-1 : Int32))) else none)
set_option maxHeartbeats 4000000 in
set_option maxRecDepth 100000 in
theorem c_X12_sitsDown (l : Launch) (D : va_G) (dA : Nat → ClassId) (sz : Nat) (a : Nat → Nat) (wa : Nat → Nat) (ba : Nat → Nat) (q1 : Option Nat) (g2 : Nat) (g3 : Nat) (g4 : Nat) (g5 : Nat) (g7 : Nat) (g8 : Nat) (g9 : Nat) (g10 : Nat) (g11 : Nat) (g12 : Nat) (g13 : Nat) (g14 : Nat) (g15 : Nat) (g16 : Nat) (g17 : Nat) (g18 : Nat) (mo : MOT) (y_w : WT) (bu : BusT) (x0 : Int32) (x1 : Int32) (u1 : WT) (hf : f_X12_sitsDown mo y_w bu x0 x1 = some (u1)) : kb_Mv l yX12_sitsDown cX12_sitsDown 5 none ({ frames := 3, cells := 0, slots := 0, locals := 64 } : Room) D dA [.ref (a 0), .int x0, .int x1] sz (w_MO dA a (some (ba 0)) q1 g2 g3 g4 g5 (wa 0) g7 g8 g9 g10 g11 g12 g13 g14 g15 g16 g17 g18 mo ++ (w_W dA wa y_w ++ (w_Bus dA ba bu))) 0 0 (w_MO dA a (some (ba 0)) q1 g2 g3 g4 g5 (wa 0) g7 g8 g9 g10 g11 g12 g13 g14 g15 g16 g17 g18 mo ++ (w_W dA wa u1 ++ (w_Bus dA ba bu))) := by
  refine Met.ofW (cc := cX12_sitsDown) (maxL := 5) (ret := none) (by decide) rfl ?_
  intro p e s m args below meth c s₁ B hml hv
  obtain ⟨rfl, hsz, hP, hK, hD0, hE⟩ := hv
  have hx := B.exec
  have hb := B.bytes
  have hr := B.returns
  have hown : s.vm.findClass RX12 = some m.cls := findClass_of_methodNamed B.named
  have hlocks := B.notSynchronized
  have hts : ∀ w ∈ kb_gw, w.before ([.ref (a 0), .int x0, .int x1] : List Value).toArray s = true := fun w hw => hK.2.1 w hw _
  subst hsz
  have hD := hD0.self (sz := s.heap.size)
  generalize hAe : va_A (w_MO dA a (some (ba 0)) q1 g2 g3 g4 g5 (wa 0) g7 g8 g9 g10 g11 g12 g13 g14 g15 g16 g17 g18 mo ++ (w_W dA wa y_w ++ (w_Bus dA ba bu))) s.heap.size = A at hD hE ⊢
  have hA : ∀ q : Nat, s.heap.size ≤ q → A q := fun q h => by rw [← hAe]; exact Or.inr h
  have hS : va_S A s.heap s.heap [] := va_S.rf
  have hl := lv_entry ([.ref (a 0), .int x0, .int x1]) (n := 5) (Nat.le_of_ble_eq_true rfl)
  rw [lg_entry_eq]
  generalize (lg_sl ([.ref (a 0), .int x0, .int x1]) ++ List.replicate (5 - (lg_sl ([.ref (a 0), .int x0, .int x1])).length) Slot.unset).toArray = ls at hl ⊢
  have hl : lv_has ls 5 [(0, .ref (a 0)), (1, .int x0), (2, .int x1)] := hl
  generalize hQ : MQ below (va_Qv (fun (_ : Unit) => True) (kb_B D A (w_MO dA a (some (ba 0)) q1 g2 g3 g4 g5 (wa 0) g7 g8 g9 g10 g11 g12 g13 g14 g15 g16 g17 g18 mo ++ (w_W dA wa u1 ++ (w_Bus dA ba bu)))) A) ([.ref (a 0), .int x0, .int x1] : List Value).toArray s 0 0 A = Q
  show W p l e ({ frames := 3, cells := 0, slots := 0, locals := 64 } : Room) s m ([.ref (a 0), .int x0, .int x1] : List Value).toArray below meth c s.heap [] 0 0 Q (F0 m 0 ls [])
  have RET : ∀ (w1 : WT) (H : Heap) (locs : List Loc) (ls : Array Slot) (pc : Nat), some (w1) = some (u1) → va_P D vwCl (w_MO dA a (some (ba 0)) q1 g2 g3 g4 g5 (wa 0) g7 g8 g9 g10 g11 g12 g13 g14 g15 g16 g17 g18 mo ++ (w_W dA wa w1 ++ (w_Bus dA ba bu))) H → va_D A (w_MO dA a (some (ba 0)) q1 g2 g3 g4 g5 (wa 0) g7 g8 g9 g10 g11 g12 g13 g14 g15 g16 g17 g18 mo ++ (w_W dA wa w1 ++ (w_Bus dA ba bu))) → va_S A s.heap H locs → decode cX12_sitsDown pc = .ok (.return_, 1) → W p l e ({ frames := 3, cells := 0, slots := 0, locals := 64 } : Room) s m ([.ref (a 0), .int x0, .int x1] : List Value).toArray below meth c H locs 0 0 Q (F0 m pc ls []) := by
    intro w1 H locs ls pc hq hP hD hS hd
    cases hq
    rw [← hQ]
    exact W.vret hx hb hr (fun t ht hW => ⟨⟨(), rfl, trivial, by rw [ht]; exact hP, hD⟩, hS.F ht⟩) hS.2.2 hd
  have B_224 : ∀ (z1 : WT) (H : Heap) (locs : List Loc) (ls : Array Slot), f_X12_sitsDown_b224 mo bu z1 = some (u1) → va_P D vwCl (w_MO dA a (some (ba 0)) q1 g2 g3 g4 g5 (wa 0) g7 g8 g9 g10 g11 g12 g13 g14 g15 g16 g17 g18 mo ++ (w_W dA wa z1 ++ (w_Bus dA ba bu))) H → va_D A (w_MO dA a (some (ba 0)) q1 g2 g3 g4 g5 (wa 0) g7 g8 g9 g10 g11 g12 g13 g14 g15 g16 g17 g18 mo ++ (w_W dA wa z1 ++ (w_Bus dA ba bu))) → va_S A s.heap H locs → lv_has ls 5 [] → W p l e ({ frames := 3, cells := 0, slots := 0, locals := 64 } : Room) s m ([.ref (a 0), .int x0, .int x1] : List Value).toArray below meth c H locs 0 0 Q (F0 m 224 ls []) := by
    intro z1 H locs ls hf hP hD hS hl
    rw [f_X12_sitsDown_b224] at hf
    exact RET _ H _ ls 224 hf hP hD hS dX12_sitsDown_224
  have B_176 : ∀ (v1 : Int32) (v2 : Int32) (z1 : WT) (H : Heap) (locs : List Loc) (ls : Array Slot), f_X12_sitsDown_b176 mo bu v1 v2 z1 = some (u1) → va_P D vwCl (w_MO dA a (some (ba 0)) q1 g2 g3 g4 g5 (wa 0) g7 g8 g9 g10 g11 g12 g13 g14 g15 g16 g17 g18 mo ++ (w_W dA wa z1 ++ (w_Bus dA ba bu))) H → va_D A (w_MO dA a (some (ba 0)) q1 g2 g3 g4 g5 (wa 0) g7 g8 g9 g10 g11 g12 g13 g14 g15 g16 g17 g18 mo ++ (w_W dA wa z1 ++ (w_Bus dA ba bu))) → va_S A s.heap H locs → lv_has ls 5 [(0, .ref (a 0)), (1, .int v1), (2, .int v2)] → W p l e ({ frames := 3, cells := 0, slots := 0, locals := 64 } : Room) s m ([.ref (a 0), .int x0, .int x1] : List Value).toArray below meth c H locs 0 0 Q (F0 m 176 ls []) := by
    intro v1 v2 z1 H locs ls hf hP hD hS hl
    rw [f_X12_sitsDown_b176] at hf
    refine lv_aload_n hx hb dX12_sitsDown_176 rfl (lv_at hl 0 rfl) ?_
    refine lv_iload_n hx hb dX12_sitsDown_177 rfl (lv_at hl 2 rfl) ?_
    obtain ⟨r11, hc11, hf⟩ := kb_bind hf
    refine kb_ci (ws2 := (w_MO dA a (some (ba 0)) q1 g2 g3 g4 g5 (wa 0) g7 g8 g9 g10 g11 g12 g13 g14 g15 g16 g17 g18 mo ++ (w_W dA wa z1 ++ (w_Bus dA ba bu)))) (kb_rV (n := 1) (As := [.int v2]) (rest := []) hx hb hml hown hK (c_X12_beside l D dA H.size a ba q1 g2 g3 g4 g5 (wa 0) g7 g8 g9 g10 g11 g12 g13 g14 g15 g16 g17 g18 mo bu v2 r11 hc11) ⟨ww_7_139, ww_7_136, ww_7_138, ws_77, ww_1_12, rfl, by decide, by decide⟩ rfl rfl (by decide +kernel) ⟨Nat.le_of_ble_eq_true rfl, Nat.le_of_ble_eq_true rfl⟩ hP hD hS hA hE [0, 2, 3, 4, 5, 6, 7, 8, 9, 10, 11, 12, 13, 14, 15, 16, 17] rfl (by decide) 0 rfl rfl rfl hl.1 rfl (Nat.le_of_ble_eq_true rfl) dX12_sitsDown_178 ⟨Nat.le_of_ble_eq_true rfl, Nat.le_of_ble_eq_true rfl⟩) hP hD hS hA [0, 2, 3, 4, 5, 6, 7, 8, 9, 10, 11, 12, 13, 14, 15, 16, 17] [1] [1, 0, 2, 3, 4, 5, 6, 7, 8, 9, 10, 11, 12, 13, 14, 15, 16, 17] rfl rfl (by decide) (by decide) rfl (by decide) (fun H locs hP hD hS => ?_)
    refine lv_istore (lv' := [(4, .int r11), (0, .ref (a 0)), (1, .int v1), (2, .int v2)]) hx hb dX12_sitsDown_181 hl (by decide) rfl (fun ls hl => ?_)
    refine lv_aload_n hx hb dX12_sitsDown_183 rfl (lv_at hl 1 rfl) ?_
    refine va_get (D := D) (ci := 12) (v := .ref (ba 0)) (C := RX12) (T := TX12) (N := 35) hx hb hts kb_inX12 hown hK.1 hP 0 rfl rfl 3 (by decide) (hK.2.w ww_5_203 rfl _) (fun _ h9 => h9) rfl dX12_sitsDown_184 ?_
    refine va_getN (D := D) (ci := 11) (v := .ref (ba 9)) (C := RX11) (T := TX11) (N := 26) hx hb hts kb_inX11 hown hK.1 hP 2 rfl rfl 19 (by decide) (hK.2.nb ww_6_119 rfl rfl _) (fun _ h9 => h9) rfl dX12_sitsDown_187 ?_
    refine lv_iload_n hx hb dX12_sitsDown_190 rfl (lv_at hl 2 rfl) ?_
    obtain ⟨h_12, hf⟩ := kb_if hf
    refine va_zald (D := D) hx hb hK.1 hP 11 3 rfl rfl h_12 dX12_sitsDown_191 ?_
    refine lv_if_eq (tgt := 224) hx hb dX12_sitsDown_192 (by decide) (fun c_13 => ?_) (fun c_13 => ?_)
    · rw [if_pos c_13] at hf
      exact RET _ H _ ls 224 hf hP hD hS dX12_sitsDown_224
    · rw [if_neg c_13] at hf
      refine lv_iload hx hb dX12_sitsDown_195 (lv_at hl 0 rfl) ?_
      refine lv_iconst (v := (-1 : Int32)) hx hb dX12_sitsDown_197 (by decide) ?_
      refine lv_icmp_eq (tgt := 224) hx hb dX12_sitsDown_198 (by decide) (fun c_14 => ?_) (fun c_14 => ?_)
      · rw [if_pos c_14] at hf
        exact RET _ H _ ls 224 hf hP hD hS dX12_sitsDown_224
      · rw [if_neg c_14] at hf
        refine lv_aload_n hx hb dX12_sitsDown_201 rfl (lv_at hl 1 rfl) ?_
        obtain ⟨r15, hc15, hf⟩ := kb_bind hf
        refine kb_ci (ws2 := (w_MO dA a (some (ba 0)) q1 g2 g3 g4 g5 (wa 0) g7 g8 g9 g10 g11 g12 g13 g14 g15 g16 g17 g18 mo ++ (w_W dA wa z1 ++ (w_Bus dA ba bu)))) (kb_rV (n := 0) (As := []) (rest := []) hx hb hml hown hK (c_X12_freeSeats l D dA H.size a wa ba q1 g2 g3 g4 g5 g7 g8 g9 g10 g11 g12 g13 g14 g15 g16 g17 g18 mo z1 bu r15 hc15) ⟨ww_7_175, ww_7_172, ww_7_174, ws_83, ww_1_12, rfl, by decide, by decide⟩ rfl rfl (by decide +kernel) ⟨Nat.le_of_ble_eq_true rfl, Nat.le_of_ble_eq_true rfl⟩ hP hD hS hA hE [0, 1, 2, 3, 4, 5, 6, 7, 8, 9, 10, 11, 12, 13, 14, 15, 16, 17] rfl (by decide) 0 rfl rfl rfl hl.1 rfl (Nat.le_of_ble_eq_true rfl) dX12_sitsDown_202 ⟨Nat.le_of_ble_eq_true rfl, Nat.le_of_ble_eq_true rfl⟩) hP hD hS hA [0, 1, 2, 3, 4, 5, 6, 7, 8, 9, 10, 11, 12, 13, 14, 15, 16, 17] [] [0, 1, 2, 3, 4, 5, 6, 7, 8, 9, 10, 11, 12, 13, 14, 15, 16, 17] rfl rfl (by decide) (by decide) rfl (by decide) (fun H locs hP hD hS => ?_)
        refine lv_iload hx hb dX12_sitsDown_205 (lv_at hl 0 rfl) ?_
        obtain ⟨r16, hc16, hf⟩ := kb_bind hf
        refine kb_ci (ws2 := (w_MO dA a (some (ba 0)) q1 g2 g3 g4 g5 (wa 0) g7 g8 g9 g10 g11 g12 g13 g14 g15 g16 g17 g18 mo ++ (w_W dA wa z1 ++ (w_Bus dA ba bu)))) (kb_rS (n := 2) (As := [.int r15, .int r11]) (rest := []) hx hb hml hown hK (c_X12_has l D dA H.size r15 r11 r16 hc16) ⟨ww_7_182, ww_7_180, ww_7_181, ww_1_12, by decide, by decide⟩ rfl rfl (by decide +kernel) ⟨Nat.le_of_ble_eq_true rfl, Nat.le_of_ble_eq_true rfl⟩ hP hD hS hA hE [] rfl (by decide) rfl hl.1 rfl (Nat.le_of_ble_eq_true rfl) dX12_sitsDown_207 ⟨Nat.le_of_ble_eq_true rfl, Nat.le_of_ble_eq_true rfl⟩) hP hD hS hA [] [0, 1, 2, 3, 4, 5, 6, 7, 8, 9, 10, 11, 12, 13, 14, 15, 16, 17] [0, 1, 2, 3, 4, 5, 6, 7, 8, 9, 10, 11, 12, 13, 14, 15, 16, 17] rfl rfl (by decide) (by decide) rfl (by decide) (fun H locs hP hD hS => ?_)
        refine lv_if_eq (tgt := 224) hx hb dX12_sitsDown_210 (by decide) (fun c_17 => ?_) (fun c_17 => ?_)
        · rw [if_pos c_17] at hf
          exact RET _ H _ ls 224 hf hP hD hS dX12_sitsDown_224
        · rw [if_neg c_17] at hf
          refine lv_aload_n hx hb dX12_sitsDown_213 rfl (lv_at hl 1 rfl) ?_
          refine va_get (D := D) (ci := 12) (v := .ref (wa 0)) (C := RX12) (T := TX12) (N := 35) hx hb hts kb_inX12 hown hK.1 hP 0 rfl rfl 19 (by decide) (hK.2.w ww_5_219 rfl _) (fun _ h9 => h9) rfl dX12_sitsDown_214 ?_
          refine lv_bipush (v := (8 : Int32)) hx hb dX12_sitsDown_217 (by decide) ?_
          refine lv_iload_n hx hb dX12_sitsDown_219 rfl (lv_at hl 2 rfl) ?_
          refine lv_iadd hx hb dX12_sitsDown_220 ?_
          refine lv_iload hx hb dX12_sitsDown_221 (lv_at hl 0 rfl) ?_
          obtain ⟨h_18, hf⟩ := kb_if hf
          refine va_iast (D := D) hx hb hK.1 hP hD hS 1 0 rfl rfl h_18 dX12_sitsDown_223 (fun H locs hP hD hS => ?_)
          have hP : va_P D vwCl (w_MO dA a (some (ba 0)) q1 g2 g3 g4 g5 (wa 0) g7 g8 g9 g10 g11 g12 g13 g14 g15 g16 g17 g18 mo ++ (w_W dA wa (yW_set_r z1 (upd (yW_r z1) (((8 : Int32) + v1)).toNatClampNeg r11)) ++ (w_Bus dA ba bu))) H := hP
          have hD : va_D A (w_MO dA a (some (ba 0)) q1 g2 g3 g4 g5 (wa 0) g7 g8 g9 g10 g11 g12 g13 g14 g15 g16 g17 g18 mo ++ (w_W dA wa (yW_set_r z1 (upd (yW_r z1) (((8 : Int32) + v1)).toNatClampNeg r11)) ++ (w_Bus dA ba bu))) := hD
          exact B_224 _ _ _ _ hf hP hD hS (lv_sub hl [] rfl)
  have B_166 : ∀ (v1 : Int32) (v2 : Int32) (z1 : WT) (H : Heap) (locs : List Loc) (ls : Array Slot), f_X12_sitsDown_b166 mo bu v1 v2 z1 = some (u1) → va_P D vwCl (w_MO dA a (some (ba 0)) q1 g2 g3 g4 g5 (wa 0) g7 g8 g9 g10 g11 g12 g13 g14 g15 g16 g17 g18 mo ++ (w_W dA wa z1 ++ (w_Bus dA ba bu))) H → va_D A (w_MO dA a (some (ba 0)) q1 g2 g3 g4 g5 (wa 0) g7 g8 g9 g10 g11 g12 g13 g14 g15 g16 g17 g18 mo ++ (w_W dA wa z1 ++ (w_Bus dA ba bu))) → va_S A s.heap H locs → lv_has ls 5 [(0, .ref (a 0)), (1, .int v1), (2, .int v2)] → W p l e ({ frames := 3, cells := 0, slots := 0, locals := 64 } : Room) s m ([.ref (a 0), .int x0, .int x1] : List Value).toArray below meth c H locs 0 0 Q (F0 m 166 ls []) := by
    intro v1 v2 z1 H locs ls hf hP hD hS hl
    rw [f_X12_sitsDown_b166] at hf
    refine lv_aload_n hx hb dX12_sitsDown_166 rfl (lv_at hl 0 rfl) ?_
    refine va_get (D := D) (ci := 12) (v := .ref (wa 0)) (C := RX12) (T := TX12) (N := 35) hx hb hts kb_inX12 hown hK.1 hP 0 rfl rfl 19 (by decide) (hK.2.w ww_5_219 rfl _) (fun _ h9 => h9) rfl dX12_sitsDown_167 ?_
    refine lv_bipush (v := (32 : Int32)) hx hb dX12_sitsDown_170 (by decide) ?_
    refine lv_iload_n hx hb dX12_sitsDown_172 rfl (lv_at hl 1 rfl) ?_
    refine lv_iadd hx hb dX12_sitsDown_173 ?_
    refine lv_iconst (v := (0 : Int32)) hx hb dX12_sitsDown_174 (by decide) ?_
    obtain ⟨h_10, hf⟩ := kb_if hf
    refine va_iast (D := D) hx hb hK.1 hP hD hS 1 0 rfl rfl h_10 dX12_sitsDown_175 (fun H locs hP hD hS => ?_)
    have hP : va_P D vwCl (w_MO dA a (some (ba 0)) q1 g2 g3 g4 g5 (wa 0) g7 g8 g9 g10 g11 g12 g13 g14 g15 g16 g17 g18 mo ++ (w_W dA wa (yW_set_r z1 (upd (yW_r z1) (((32 : Int32) + v1)).toNatClampNeg (0 : Int32))) ++ (w_Bus dA ba bu))) H := hP
    have hD : va_D A (w_MO dA a (some (ba 0)) q1 g2 g3 g4 g5 (wa 0) g7 g8 g9 g10 g11 g12 g13 g14 g15 g16 g17 g18 mo ++ (w_W dA wa (yW_set_r z1 (upd (yW_r z1) (((32 : Int32) + v1)).toNatClampNeg (0 : Int32))) ++ (w_Bus dA ba bu))) := hD
    exact B_176 _ _ _ _ _ _ hf hP hD hS (lv_sub hl [0, 1, 2] rfl)
  have B_156 : ∀ (v1 : Int32) (v2 : Int32) (z1 : WT) (H : Heap) (locs : List Loc) (ls : Array Slot), f_X12_sitsDown_b156 mo bu v1 v2 z1 = some (u1) → va_P D vwCl (w_MO dA a (some (ba 0)) q1 g2 g3 g4 g5 (wa 0) g7 g8 g9 g10 g11 g12 g13 g14 g15 g16 g17 g18 mo ++ (w_W dA wa z1 ++ (w_Bus dA ba bu))) H → va_D A (w_MO dA a (some (ba 0)) q1 g2 g3 g4 g5 (wa 0) g7 g8 g9 g10 g11 g12 g13 g14 g15 g16 g17 g18 mo ++ (w_W dA wa z1 ++ (w_Bus dA ba bu))) → va_S A s.heap H locs → lv_has ls 5 [(0, .ref (a 0)), (1, .int v1), (2, .int v2)] → W p l e ({ frames := 3, cells := 0, slots := 0, locals := 64 } : Room) s m ([.ref (a 0), .int x0, .int x1] : List Value).toArray below meth c H locs 0 0 Q (F0 m 156 ls []) := by
    intro v1 v2 z1 H locs ls hf hP hD hS hl
    rw [f_X12_sitsDown_b156] at hf
    refine lv_aload_n hx hb dX12_sitsDown_156 rfl (lv_at hl 0 rfl) ?_
    refine va_get (D := D) (ci := 12) (v := .ref (wa 0)) (C := RX12) (T := TX12) (N := 35) hx hb hts kb_inX12 hown hK.1 hP 0 rfl rfl 19 (by decide) (hK.2.w ww_5_219 rfl _) (fun _ h9 => h9) rfl dX12_sitsDown_157 ?_
    refine lv_bipush (v := (24 : Int32)) hx hb dX12_sitsDown_160 (by decide) ?_
    refine lv_iload_n hx hb dX12_sitsDown_162 rfl (lv_at hl 1 rfl) ?_
    refine lv_iadd hx hb dX12_sitsDown_163 ?_
    refine lv_iconst (v := (0 : Int32)) hx hb dX12_sitsDown_164 (by decide) ?_
    obtain ⟨h_9, hf⟩ := kb_if hf
    refine va_iast (D := D) hx hb hK.1 hP hD hS 1 0 rfl rfl h_9 dX12_sitsDown_165 (fun H locs hP hD hS => ?_)
    have hP : va_P D vwCl (w_MO dA a (some (ba 0)) q1 g2 g3 g4 g5 (wa 0) g7 g8 g9 g10 g11 g12 g13 g14 g15 g16 g17 g18 mo ++ (w_W dA wa (yW_set_r z1 (upd (yW_r z1) (((24 : Int32) + v1)).toNatClampNeg (0 : Int32))) ++ (w_Bus dA ba bu))) H := hP
    have hD : va_D A (w_MO dA a (some (ba 0)) q1 g2 g3 g4 g5 (wa 0) g7 g8 g9 g10 g11 g12 g13 g14 g15 g16 g17 g18 mo ++ (w_W dA wa (yW_set_r z1 (upd (yW_r z1) (((24 : Int32) + v1)).toNatClampNeg (0 : Int32))) ++ (w_Bus dA ba bu))) := hD
    exact B_166 _ _ _ _ _ _ hf hP hD hS (lv_sub hl [0, 1, 2] rfl)
  have B_140 : ∀ (v1 : Int32) (v2 : Int32) (z1 : WT) (H : Heap) (locs : List Loc) (ls : Array Slot), f_X12_sitsDown_b140 mo bu v1 v2 z1 = some (u1) → va_P D vwCl (w_MO dA a (some (ba 0)) q1 g2 g3 g4 g5 (wa 0) g7 g8 g9 g10 g11 g12 g13 g14 g15 g16 g17 g18 mo ++ (w_W dA wa z1 ++ (w_Bus dA ba bu))) H → va_D A (w_MO dA a (some (ba 0)) q1 g2 g3 g4 g5 (wa 0) g7 g8 g9 g10 g11 g12 g13 g14 g15 g16 g17 g18 mo ++ (w_W dA wa z1 ++ (w_Bus dA ba bu))) → va_S A s.heap H locs → lv_has ls 5 [(0, .ref (a 0)), (1, .int v1), (2, .int v2)] → W p l e ({ frames := 3, cells := 0, slots := 0, locals := 64 } : Room) s m ([.ref (a 0), .int x0, .int x1] : List Value).toArray below meth c H locs 0 0 Q (F0 m 140 ls []) := by
    intro v1 v2 z1 H locs ls hf hP hD hS hl
    rw [f_X12_sitsDown_b140] at hf
    refine lv_aload_n hx hb dX12_sitsDown_140 rfl (lv_at hl 0 rfl) ?_
    refine va_get (D := D) (ci := 12) (v := .ref (wa 0)) (C := RX12) (T := TX12) (N := 35) hx hb hts kb_inX12 hown hK.1 hP 0 rfl rfl 19 (by decide) (hK.2.w ww_5_219 rfl _) (fun _ h9 => h9) rfl dX12_sitsDown_141 ?_
    refine lv_bipush (v := (16 : Int32)) hx hb dX12_sitsDown_144 (by decide) ?_
    refine lv_iload_n hx hb dX12_sitsDown_146 rfl (lv_at hl 1 rfl) ?_
    refine lv_iadd hx hb dX12_sitsDown_147 ?_
    refine lv_aload_n hx hb dX12_sitsDown_148 rfl (lv_at hl 0 rfl) ?_
    refine va_get (D := D) (ci := 12) (v := .ref (wa 0)) (C := RX12) (T := TX12) (N := 35) hx hb hts kb_inX12 hown hK.1 hP 0 rfl rfl 19 (by decide) (hK.2.w ww_5_219 rfl _) (fun _ h9 => h9) rfl dX12_sitsDown_149 ?_
    refine lv_bipush (v := (53 : Int32)) hx hb dX12_sitsDown_152 (by decide) ?_
    obtain ⟨h_7, hf⟩ := kb_if hf
    refine va_iald (D := D) hx hb hK.1 hP 1 0 rfl rfl h_7 dX12_sitsDown_154 ?_
    obtain ⟨h_8, hf⟩ := kb_if hf
    refine va_iast (D := D) hx hb hK.1 hP hD hS 1 0 rfl rfl h_8 dX12_sitsDown_155 (fun H locs hP hD hS => ?_)
    have hP : va_P D vwCl (w_MO dA a (some (ba 0)) q1 g2 g3 g4 g5 (wa 0) g7 g8 g9 g10 g11 g12 g13 g14 g15 g16 g17 g18 mo ++ (w_W dA wa (yW_set_r z1 (upd (yW_r z1) (((16 : Int32) + v1)).toNatClampNeg ((yW_r z1) ((53 : Int32)).toNatClampNeg))) ++ (w_Bus dA ba bu))) H := hP
    have hD : va_D A (w_MO dA a (some (ba 0)) q1 g2 g3 g4 g5 (wa 0) g7 g8 g9 g10 g11 g12 g13 g14 g15 g16 g17 g18 mo ++ (w_W dA wa (yW_set_r z1 (upd (yW_r z1) (((16 : Int32) + v1)).toNatClampNeg ((yW_r z1) ((53 : Int32)).toNatClampNeg))) ++ (w_Bus dA ba bu))) := hD
    exact B_156 _ _ _ _ _ _ hf hP hD hS (lv_sub hl [0, 1, 2] rfl)
  have B_129 : ∀ (v1 : Int32) (v2 : Int32) (z1 : WT) (H : Heap) (locs : List Loc) (ls : Array Slot), f_X12_sitsDown_b129 mo bu v1 v2 z1 = some (u1) → va_P D vwCl (w_MO dA a (some (ba 0)) q1 g2 g3 g4 g5 (wa 0) g7 g8 g9 g10 g11 g12 g13 g14 g15 g16 g17 g18 mo ++ (w_W dA wa z1 ++ (w_Bus dA ba bu))) H → va_D A (w_MO dA a (some (ba 0)) q1 g2 g3 g4 g5 (wa 0) g7 g8 g9 g10 g11 g12 g13 g14 g15 g16 g17 g18 mo ++ (w_W dA wa z1 ++ (w_Bus dA ba bu))) → va_S A s.heap H locs → lv_has ls 5 [(0, .ref (a 0)), (1, .int v1), (2, .int v2)] → W p l e ({ frames := 3, cells := 0, slots := 0, locals := 64 } : Room) s m ([.ref (a 0), .int x0, .int x1] : List Value).toArray below meth c H locs 0 0 Q (F0 m 129 ls []) := by
    intro v1 v2 z1 H locs ls hf hP hD hS hl
    rw [f_X12_sitsDown_b129] at hf
    refine lv_aload_n hx hb dX12_sitsDown_129 rfl (lv_at hl 0 rfl) ?_
    refine va_get (D := D) (ci := 12) (v := .ref (wa 0)) (C := RX12) (T := TX12) (N := 35) hx hb hts kb_inX12 hown hK.1 hP 0 rfl rfl 19 (by decide) (hK.2.w ww_5_219 rfl _) (fun _ h9 => h9) rfl dX12_sitsDown_130 ?_
    refine lv_bipush (v := (53 : Int32)) hx hb dX12_sitsDown_133 (by decide) ?_
    refine lv_dup2_11 hx hb dX12_sitsDown_135 rfl rfl ?_
    obtain ⟨h_5, hf⟩ := kb_if hf
    refine va_iald (D := D) hx hb hK.1 hP 1 0 rfl rfl h_5 dX12_sitsDown_136 ?_
    refine lv_iconst (v := (1 : Int32)) hx hb dX12_sitsDown_137 (by decide) ?_
    refine lv_iadd hx hb dX12_sitsDown_138 ?_
    obtain ⟨h_6, hf⟩ := kb_if hf
    refine va_iast (D := D) hx hb hK.1 hP hD hS 1 0 rfl rfl h_6 dX12_sitsDown_139 (fun H locs hP hD hS => ?_)
    have hP : va_P D vwCl (w_MO dA a (some (ba 0)) q1 g2 g3 g4 g5 (wa 0) g7 g8 g9 g10 g11 g12 g13 g14 g15 g16 g17 g18 mo ++ (w_W dA wa (yW_set_r z1 (upd (yW_r z1) ((53 : Int32)).toNatClampNeg (((yW_r z1) ((53 : Int32)).toNatClampNeg) + (1 : Int32)))) ++ (w_Bus dA ba bu))) H := hP
    have hD : va_D A (w_MO dA a (some (ba 0)) q1 g2 g3 g4 g5 (wa 0) g7 g8 g9 g10 g11 g12 g13 g14 g15 g16 g17 g18 mo ++ (w_W dA wa (yW_set_r z1 (upd (yW_r z1) ((53 : Int32)).toNatClampNeg (((yW_r z1) ((53 : Int32)).toNatClampNeg) + (1 : Int32)))) ++ (w_Bus dA ba bu))) := hD
    exact B_140 _ _ _ _ _ _ hf hP hD hS (lv_sub hl [0, 1, 2] rfl)
  have B_114 : ∀ (k25 : Int32 → Int32 → Int32 → WT → Option (WT)) (hk25 : ∀ (v1 : Int32) (v2 : Int32) (v4 : Int32) (z1 : WT) (H : Heap) (locs : List Loc) (ls : Array Slot), k25 v1 v2 v4 z1 = some (u1) → va_P D vwCl (w_MO dA a (some (ba 0)) q1 g2 g3 g4 g5 (wa 0) g7 g8 g9 g10 g11 g12 g13 g14 g15 g16 g17 g18 mo ++ (w_W dA wa z1 ++ (w_Bus dA ba bu))) H → va_D A (w_MO dA a (some (ba 0)) q1 g2 g3 g4 g5 (wa 0) g7 g8 g9 g10 g11 g12 g13 g14 g15 g16 g17 g18 mo ++ (w_W dA wa z1 ++ (w_Bus dA ba bu))) → va_S A s.heap H locs → lv_has ls 5 [(0, .ref (a 0)), (1, .int v1), (2, .int v2), (4, .int v4)] → W p l e ({ frames := 3, cells := 0, slots := 0, locals := 64 } : Room) s m ([.ref (a 0), .int x0, .int x1] : List Value).toArray below meth c H locs 0 0 Q (F0 m 25 ls [])) (v1 : Int32) (v2 : Int32) (v4 : Int32) (z1 : WT) (H : Heap) (locs : List Loc) (ls : Array Slot), f_X12_sitsDown_b114 mo bu k25 v1 v2 v4 z1 = some (u1) → va_P D vwCl (w_MO dA a (some (ba 0)) q1 g2 g3 g4 g5 (wa 0) g7 g8 g9 g10 g11 g12 g13 g14 g15 g16 g17 g18 mo ++ (w_W dA wa z1 ++ (w_Bus dA ba bu))) H → va_D A (w_MO dA a (some (ba 0)) q1 g2 g3 g4 g5 (wa 0) g7 g8 g9 g10 g11 g12 g13 g14 g15 g16 g17 g18 mo ++ (w_W dA wa z1 ++ (w_Bus dA ba bu))) → va_S A s.heap H locs → lv_has ls 5 [(0, .ref (a 0)), (1, .int v1), (2, .int v2), (4, .int v4)] → W p l e ({ frames := 3, cells := 0, slots := 0, locals := 64 } : Room) s m ([.ref (a 0), .int x0, .int x1] : List Value).toArray below meth c H locs 0 0 Q (F0 m 114 ls []) := by
    intro k25 hk25 v1 v2 v4 z1 H locs ls hf hP hD hS hl
    rw [f_X12_sitsDown_b114] at hf
    refine lv_iinc (v := (v4 + (1 : Int32))) (lv' := [(4, .int (v4 + (1 : Int32))), (0, .ref (a 0)), (1, .int v1), (2, .int v2)]) hx hb dX12_sitsDown_114 hl (k := 3) rfl (by rfl) (by decide) rfl (fun ls hl => ?_)
    refine lv_goto (tgt := 25) hx hb dX12_sitsDown_117 (by decide) ?_
    exact hk25 _ _ _ _ _ _ _ hf hP hD hS (lv_sub hl [1, 2, 3, 0] rfl)
  have B_97 : ∀ (k25 : Int32 → Int32 → Int32 → WT → Option (WT)) (hk25 : ∀ (v1 : Int32) (v2 : Int32) (v4 : Int32) (z1 : WT) (H : Heap) (locs : List Loc) (ls : Array Slot), k25 v1 v2 v4 z1 = some (u1) → va_P D vwCl (w_MO dA a (some (ba 0)) q1 g2 g3 g4 g5 (wa 0) g7 g8 g9 g10 g11 g12 g13 g14 g15 g16 g17 g18 mo ++ (w_W dA wa z1 ++ (w_Bus dA ba bu))) H → va_D A (w_MO dA a (some (ba 0)) q1 g2 g3 g4 g5 (wa 0) g7 g8 g9 g10 g11 g12 g13 g14 g15 g16 g17 g18 mo ++ (w_W dA wa z1 ++ (w_Bus dA ba bu))) → va_S A s.heap H locs → lv_has ls 5 [(0, .ref (a 0)), (1, .int v1), (2, .int v2), (4, .int v4)] → W p l e ({ frames := 3, cells := 0, slots := 0, locals := 64 } : Room) s m ([.ref (a 0), .int x0, .int x1] : List Value).toArray below meth c H locs 0 0 Q (F0 m 25 ls [])) (v1 : Int32) (v2 : Int32) (v4 : Int32) (z1 : WT) (H : Heap) (locs : List Loc) (ls : Array Slot), f_X12_sitsDown_b97 mo bu k25 v1 v2 v4 z1 = some (u1) → va_P D vwCl (w_MO dA a (some (ba 0)) q1 g2 g3 g4 g5 (wa 0) g7 g8 g9 g10 g11 g12 g13 g14 g15 g16 g17 g18 mo ++ (w_W dA wa z1 ++ (w_Bus dA ba bu))) H → va_D A (w_MO dA a (some (ba 0)) q1 g2 g3 g4 g5 (wa 0) g7 g8 g9 g10 g11 g12 g13 g14 g15 g16 g17 g18 mo ++ (w_W dA wa z1 ++ (w_Bus dA ba bu))) → va_S A s.heap H locs → lv_has ls 5 [(0, .ref (a 0)), (1, .int v1), (2, .int v2), (4, .int v4)] → W p l e ({ frames := 3, cells := 0, slots := 0, locals := 64 } : Room) s m ([.ref (a 0), .int x0, .int x1] : List Value).toArray below meth c H locs 0 0 Q (F0 m 97 ls []) := by
    intro k25 hk25 v1 v2 v4 z1 H locs ls hf hP hD hS hl
    rw [f_X12_sitsDown_b97] at hf
    refine lv_goto (tgt := 114) hx hb dX12_sitsDown_97 (by decide) ?_
    exact B_114 k25 hk25 _ _ _ _ _ _ _ hf hP hD hS (lv_sub hl [0, 1, 2, 3] rfl)
  have B_25 : ∀ (n : Nat) (v1 : Int32) (v2 : Int32) (v4 : Int32) (z1 : WT) (H : Heap) (locs : List Loc) (ls : Array Slot), f_X12_sitsDown_b25 mo bu n v1 v2 v4 z1 = some (u1) → va_P D vwCl (w_MO dA a (some (ba 0)) q1 g2 g3 g4 g5 (wa 0) g7 g8 g9 g10 g11 g12 g13 g14 g15 g16 g17 g18 mo ++ (w_W dA wa z1 ++ (w_Bus dA ba bu))) H → va_D A (w_MO dA a (some (ba 0)) q1 g2 g3 g4 g5 (wa 0) g7 g8 g9 g10 g11 g12 g13 g14 g15 g16 g17 g18 mo ++ (w_W dA wa z1 ++ (w_Bus dA ba bu))) → va_S A s.heap H locs → lv_has ls 5 [(0, .ref (a 0)), (1, .int v1), (2, .int v2), (4, .int v4)] → W p l e ({ frames := 3, cells := 0, slots := 0, locals := 64 } : Room) s m ([.ref (a 0), .int x0, .int x1] : List Value).toArray below meth c H locs 0 0 Q (F0 m 25 ls []) := by
    intro n
    induction n with
    | zero =>
      intro v1 v2 v4 z1 H locs ls hf
      exact absurd hf (by simp [f_X12_sitsDown_b25])
    | succ n ih =>
      intro v1 v2 v4 z1 H locs ls hf hP hD hS hl
      rw [f_X12_sitsDown_b25] at hf
      refine lv_iload hx hb dX12_sitsDown_25 (lv_at hl 3 rfl) ?_
      refine lv_aload_n hx hb dX12_sitsDown_27 rfl (lv_at hl 0 rfl) ?_
      refine va_get (D := D) (ci := 12) (v := .ref (ba 0)) (C := RX12) (T := TX12) (N := 35) hx hb hts kb_inX12 hown hK.1 hP 0 rfl rfl 3 (by decide) (hK.2.w ww_5_203 rfl _) (fun _ h9 => h9) rfl dX12_sitsDown_28 ?_
      refine va_getN (D := D) (ci := 11) (v := .int (bu_riders bu)) (C := RX11) (T := TX11) (N := 26) hx hb hts kb_inX11 hown hK.1 hP 2 rfl rfl 7 (by decide) (hK.2.nb ww_6_96 rfl rfl _) (fun _ h9 => h9) rfl dX12_sitsDown_31 ?_
      refine lv_icmp_ge (tgt := 120) hx hb dX12_sitsDown_34 (by decide) (fun c_3 => ?_) (fun c_3 => ?_)
      · rw [if_pos c_3] at hf
        refine lv_aload_n hx hb dX12_sitsDown_120 rfl (lv_at hl 0 rfl) ?_
        refine va_get (D := D) (ci := 12) (v := .ref (wa 0)) (C := RX12) (T := TX12) (N := 35) hx hb hts kb_inX12 hown hK.1 hP 0 rfl rfl 19 (by decide) (hK.2.w ww_5_219 rfl _) (fun _ h9 => h9) rfl dX12_sitsDown_121 ?_
        refine lv_iconst (v := (0 : Int32)) hx hb dX12_sitsDown_124 (by decide) ?_
        refine lv_iload_n hx hb dX12_sitsDown_125 rfl (lv_at hl 1 rfl) ?_
        refine lv_iadd hx hb dX12_sitsDown_126 ?_
        refine lv_iload_n hx hb dX12_sitsDown_127 rfl (lv_at hl 2 rfl) ?_
        obtain ⟨h_4, hf⟩ := kb_if hf
        refine va_iast (D := D) hx hb hK.1 hP hD hS 1 0 rfl rfl h_4 dX12_sitsDown_128 (fun H locs hP hD hS => ?_)
        have hP : va_P D vwCl (w_MO dA a (some (ba 0)) q1 g2 g3 g4 g5 (wa 0) g7 g8 g9 g10 g11 g12 g13 g14 g15 g16 g17 g18 mo ++ (w_W dA wa (yW_set_r z1 (upd (yW_r z1) (((0 : Int32) + v1)).toNatClampNeg v2)) ++ (w_Bus dA ba bu))) H := hP
        have hD : va_D A (w_MO dA a (some (ba 0)) q1 g2 g3 g4 g5 (wa 0) g7 g8 g9 g10 g11 g12 g13 g14 g15 g16 g17 g18 mo ++ (w_W dA wa (yW_set_r z1 (upd (yW_r z1) (((0 : Int32) + v1)).toNatClampNeg v2)) ++ (w_Bus dA ba bu))) := hD
        exact B_129 _ _ _ _ _ _ hf hP hD hS (lv_sub hl [0, 1, 2] rfl)
      · rw [if_neg c_3] at hf
        refine lv_iload hx hb dX12_sitsDown_37 (lv_at hl 3 rfl) ?_
        refine lv_iload_n hx hb dX12_sitsDown_39 rfl (lv_at hl 1 rfl) ?_
        refine lv_icmp_eq (tgt := 114) hx hb dX12_sitsDown_40 (by decide) (fun c_19 => ?_) (fun c_19 => ?_)
        · rw [if_pos c_19] at hf
          refine lv_iinc (v := (v4 + (1 : Int32))) (lv' := [(4, .int (v4 + (1 : Int32))), (0, .ref (a 0)), (1, .int v1), (2, .int v2)]) hx hb dX12_sitsDown_114 hl (k := 3) rfl (by rfl) (by decide) rfl (fun ls hl => ?_)
          refine lv_goto (tgt := 25) hx hb dX12_sitsDown_117 (by decide) ?_
          exact ih _ _ _ _ _ _ _ hf hP hD hS (lv_sub hl [1, 2, 3, 0] rfl)
        · rw [if_neg c_19] at hf
          refine lv_aload_n hx hb dX12_sitsDown_43 rfl (lv_at hl 0 rfl) ?_
          refine lv_iload hx hb dX12_sitsDown_44 (lv_at hl 3 rfl) ?_
          obtain ⟨r20, hc20, hf⟩ := kb_bind hf
          refine kb_ci (ws2 := (w_MO dA a (some (ba 0)) q1 g2 g3 g4 g5 (wa 0) g7 g8 g9 g10 g11 g12 g13 g14 g15 g16 g17 g18 mo ++ (w_W dA wa z1 ++ (w_Bus dA ba bu)))) (kb_rV (n := 1) (As := [.int v4]) (rest := []) hx hb hml hown hK (c_X12_isSitting l D dA H.size a wa (some (ba 0)) q1 g2 g3 g4 g5 g7 g8 g9 g10 g11 g12 g13 g14 g15 g16 g17 g18 mo z1 v4 r20 hc20) ⟨ww_7_132, ww_7_129, ww_7_131, ws_76, ww_1_12, rfl, by decide, by decide⟩ rfl rfl (by decide +kernel) ⟨Nat.le_of_ble_eq_true rfl, Nat.le_of_ble_eq_true rfl⟩ hP hD hS hA hE [0, 1] rfl (by decide) 0 rfl rfl rfl hl.1 rfl (Nat.le_of_ble_eq_true rfl) dX12_sitsDown_46 ⟨Nat.le_of_ble_eq_true rfl, Nat.le_of_ble_eq_true rfl⟩) hP hD hS hA [0, 1] [2, 3, 4, 5, 6, 7, 8, 9, 10, 11, 12, 13, 14, 15, 16, 17] [16, 17, 0, 1, 2, 3, 4, 5, 6, 7, 8, 9, 10, 11, 12, 13, 14, 15] rfl rfl (by decide) (by decide) rfl (by decide) (fun H locs hP hD hS => ?_)
          refine lv_if_eq (tgt := 114) hx hb dX12_sitsDown_49 (by decide) (fun c_21 => ?_) (fun c_21 => ?_)
          · rw [if_pos c_21] at hf
            refine lv_iinc (v := (v4 + (1 : Int32))) (lv' := [(4, .int (v4 + (1 : Int32))), (0, .ref (a 0)), (1, .int v1), (2, .int v2)]) hx hb dX12_sitsDown_114 hl (k := 3) rfl (by rfl) (by decide) rfl (fun ls hl => ?_)
            refine lv_goto (tgt := 25) hx hb dX12_sitsDown_117 (by decide) ?_
            exact ih _ _ _ _ _ _ _ hf hP hD hS (lv_sub hl [1, 2, 3, 0] rfl)
          · rw [if_neg c_21] at hf
            refine lv_aload_n hx hb dX12_sitsDown_52 rfl (lv_at hl 0 rfl) ?_
            refine va_get (D := D) (ci := 12) (v := .ref (wa 0)) (C := RX12) (T := TX12) (N := 35) hx hb hts kb_inX12 hown hK.1 hP 0 rfl rfl 19 (by decide) (hK.2.w ww_5_219 rfl _) (fun _ h9 => h9) rfl dX12_sitsDown_53 ?_
            refine lv_bipush (v := (32 : Int32)) hx hb dX12_sitsDown_56 (by decide) ?_
            refine lv_iload hx hb dX12_sitsDown_58 (lv_at hl 3 rfl) ?_
            refine lv_iadd hx hb dX12_sitsDown_60 ?_
            obtain ⟨h_22, hf⟩ := kb_if hf
            refine va_iald (D := D) hx hb hK.1 hP 1 0 rfl rfl h_22 dX12_sitsDown_61 ?_
            refine lv_iconst (v := (1 : Int32)) hx hb dX12_sitsDown_62 (by decide) ?_
            refine lv_icmp_ne (tgt := 69) hx hb dX12_sitsDown_63 (by decide) (fun c_23 => ?_) (fun c_23 => ?_)
            · rw [if_neg c_23] at hf
              refine lv_aload_n hx hb dX12_sitsDown_69 rfl (lv_at hl 0 rfl) ?_
              refine lv_iload_n hx hb dX12_sitsDown_70 rfl (lv_at hl 2 rfl) ?_
              obtain ⟨r24, hc24, hf⟩ := kb_bind hf
              refine kb_ci (ws2 := (w_MO dA a (some (ba 0)) q1 g2 g3 g4 g5 (wa 0) g7 g8 g9 g10 g11 g12 g13 g14 g15 g16 g17 g18 mo ++ (w_W dA wa z1 ++ (w_Bus dA ba bu)))) (kb_rV (n := 1) (As := [.int v2]) (rest := []) hx hb hml hown hK (c_X12_beside l D dA H.size a ba q1 g2 g3 g4 g5 (wa 0) g7 g8 g9 g10 g11 g12 g13 g14 g15 g16 g17 g18 mo bu v2 r24 hc24) ⟨ww_7_139, ww_7_136, ww_7_138, ws_77, ww_1_12, rfl, by decide, by decide⟩ rfl rfl (by decide +kernel) ⟨Nat.le_of_ble_eq_true rfl, Nat.le_of_ble_eq_true rfl⟩ hP hD hS hA hE [0, 2, 3, 4, 5, 6, 7, 8, 9, 10, 11, 12, 13, 14, 15, 16, 17] rfl (by decide) 0 rfl rfl rfl hl.1 rfl (Nat.le_of_ble_eq_true rfl) dX12_sitsDown_71 ⟨Nat.le_of_ble_eq_true rfl, Nat.le_of_ble_eq_true rfl⟩) hP hD hS hA [0, 2, 3, 4, 5, 6, 7, 8, 9, 10, 11, 12, 13, 14, 15, 16, 17] [1] [1, 0, 2, 3, 4, 5, 6, 7, 8, 9, 10, 11, 12, 13, 14, 15, 16, 17] rfl rfl (by decide) (by decide) rfl (by decide) (fun H locs hP hD hS => ?_)
              refine lv_aload_n hx hb dX12_sitsDown_74 rfl (lv_at hl 0 rfl) ?_
              refine va_get (D := D) (ci := 12) (v := .ref (wa 0)) (C := RX12) (T := TX12) (N := 35) hx hb hts kb_inX12 hown hK.1 hP 0 rfl rfl 19 (by decide) (hK.2.w ww_5_219 rfl _) (fun _ h9 => h9) rfl dX12_sitsDown_75 ?_
              refine lv_iconst (v := (0 : Int32)) hx hb dX12_sitsDown_78 (by decide) ?_
              refine lv_iload hx hb dX12_sitsDown_79 (lv_at hl 3 rfl) ?_
              refine lv_iadd hx hb dX12_sitsDown_81 ?_
              obtain ⟨h_25, hf⟩ := kb_if hf
              refine va_iald (D := D) hx hb hK.1 hP 1 0 rfl rfl h_25 dX12_sitsDown_82 ?_
              refine lv_icmp_ne (tgt := 100) hx hb dX12_sitsDown_83 (by decide) (fun c_26 => ?_) (fun c_26 => ?_)
              · rw [if_neg c_26] at hf
                refine lv_aload_n hx hb dX12_sitsDown_100 rfl (lv_at hl 0 rfl) ?_
                refine va_get (D := D) (ci := 12) (v := .ref (wa 0)) (C := RX12) (T := TX12) (N := 35) hx hb hts kb_inX12 hown hK.1 hP 0 rfl rfl 19 (by decide) (hK.2.w ww_5_219 rfl _) (fun _ h9 => h9) rfl dX12_sitsDown_101 ?_
                refine lv_bipush (v := (24 : Int32)) hx hb dX12_sitsDown_104 (by decide) ?_
                refine lv_iload hx hb dX12_sitsDown_106 (lv_at hl 3 rfl) ?_
                refine lv_iadd hx hb dX12_sitsDown_108 ?_
                refine lv_dup2_11 hx hb dX12_sitsDown_109 rfl rfl ?_
                obtain ⟨h_27, hf⟩ := kb_if hf
                refine va_iald (D := D) hx hb hK.1 hP 1 0 rfl rfl h_27 dX12_sitsDown_110 ?_
                refine lv_iconst (v := (1 : Int32)) hx hb dX12_sitsDown_111 (by decide) ?_
                refine lv_iadd hx hb dX12_sitsDown_112 ?_
                obtain ⟨h_28, hf⟩ := kb_if hf
                refine va_iast (D := D) hx hb hK.1 hP hD hS 1 0 rfl rfl h_28 dX12_sitsDown_113 (fun H locs hP hD hS => ?_)
                have hP : va_P D vwCl (w_MO dA a (some (ba 0)) q1 g2 g3 g4 g5 (wa 0) g7 g8 g9 g10 g11 g12 g13 g14 g15 g16 g17 g18 mo ++ (w_W dA wa (yW_set_r z1 (upd (yW_r z1) (((24 : Int32) + v4)).toNatClampNeg (((yW_r z1) (((24 : Int32) + v4)).toNatClampNeg) + (1 : Int32)))) ++ (w_Bus dA ba bu))) H := hP
                have hD : va_D A (w_MO dA a (some (ba 0)) q1 g2 g3 g4 g5 (wa 0) g7 g8 g9 g10 g11 g12 g13 g14 g15 g16 g17 g18 mo ++ (w_W dA wa (yW_set_r z1 (upd (yW_r z1) (((24 : Int32) + v4)).toNatClampNeg (((yW_r z1) (((24 : Int32) + v4)).toNatClampNeg) + (1 : Int32)))) ++ (w_Bus dA ba bu))) := hD
                exact B_114 (f_X12_sitsDown_b25 mo bu n) ih _ _ _ _ _ _ _ hf hP hD hS (lv_sub hl [0, 1, 2, 3] rfl)
              · rw [if_pos c_26] at hf
                refine lv_aload_n hx hb dX12_sitsDown_86 rfl (lv_at hl 0 rfl) ?_
                refine va_get (D := D) (ci := 12) (v := .ref (wa 0)) (C := RX12) (T := TX12) (N := 35) hx hb hts kb_inX12 hown hK.1 hP 0 rfl rfl 19 (by decide) (hK.2.w ww_5_219 rfl _) (fun _ h9 => h9) rfl dX12_sitsDown_87 ?_
                refine lv_bipush (v := (32 : Int32)) hx hb dX12_sitsDown_90 (by decide) ?_
                refine lv_iload hx hb dX12_sitsDown_92 (lv_at hl 3 rfl) ?_
                refine lv_iadd hx hb dX12_sitsDown_94 ?_
                refine lv_iconst (v := (1 : Int32)) hx hb dX12_sitsDown_95 (by decide) ?_
                obtain ⟨h_29, hf⟩ := kb_if hf
                refine va_iast (D := D) hx hb hK.1 hP hD hS 1 0 rfl rfl h_29 dX12_sitsDown_96 (fun H locs hP hD hS => ?_)
                have hP : va_P D vwCl (w_MO dA a (some (ba 0)) q1 g2 g3 g4 g5 (wa 0) g7 g8 g9 g10 g11 g12 g13 g14 g15 g16 g17 g18 mo ++ (w_W dA wa (yW_set_r z1 (upd (yW_r z1) (((32 : Int32) + v4)).toNatClampNeg (1 : Int32))) ++ (w_Bus dA ba bu))) H := hP
                have hD : va_D A (w_MO dA a (some (ba 0)) q1 g2 g3 g4 g5 (wa 0) g7 g8 g9 g10 g11 g12 g13 g14 g15 g16 g17 g18 mo ++ (w_W dA wa (yW_set_r z1 (upd (yW_r z1) (((32 : Int32) + v4)).toNatClampNeg (1 : Int32))) ++ (w_Bus dA ba bu))) := hD
                exact B_97 (f_X12_sitsDown_b25 mo bu n) ih _ _ _ _ _ _ _ hf hP hD hS (lv_sub hl [0, 1, 2, 3] rfl)
            · rw [if_pos c_23] at hf
              refine lv_goto (tgt := 114) hx hb dX12_sitsDown_66 (by decide) ?_
              exact B_114 (f_X12_sitsDown_b25 mo bu n) ih _ _ _ _ _ _ _ hf hP hD hS (lv_sub hl [0, 1, 2, 3] rfl)
  have B_22 : ∀ (v1 : Int32) (v2 : Int32) (z1 : WT) (H : Heap) (locs : List Loc) (ls : Array Slot), f_X12_sitsDown_b22 mo bu v1 v2 z1 = some (u1) → va_P D vwCl (w_MO dA a (some (ba 0)) q1 g2 g3 g4 g5 (wa 0) g7 g8 g9 g10 g11 g12 g13 g14 g15 g16 g17 g18 mo ++ (w_W dA wa z1 ++ (w_Bus dA ba bu))) H → va_D A (w_MO dA a (some (ba 0)) q1 g2 g3 g4 g5 (wa 0) g7 g8 g9 g10 g11 g12 g13 g14 g15 g16 g17 g18 mo ++ (w_W dA wa z1 ++ (w_Bus dA ba bu))) → va_S A s.heap H locs → lv_has ls 5 [(0, .ref (a 0)), (1, .int v1), (2, .int v2)] → W p l e ({ frames := 3, cells := 0, slots := 0, locals := 64 } : Room) s m ([.ref (a 0), .int x0, .int x1] : List Value).toArray below meth c H locs 0 0 Q (F0 m 22 ls []) := by
    intro v1 v2 z1 H locs ls hf hP hD hS hl
    rw [f_X12_sitsDown_b22] at hf
    refine lv_iconst (v := (0 : Int32)) hx hb dX12_sitsDown_22 (by decide) ?_
    refine lv_istore (lv' := [(4, .int (0 : Int32)), (0, .ref (a 0)), (1, .int v1), (2, .int v2)]) hx hb dX12_sitsDown_23 hl (by decide) rfl (fun ls hl => ?_)
    exact B_25 4096 _ _ _ _ _ _ _ hf hP hD hS (lv_sub hl [1, 2, 3, 0] rfl)
  have E0 : ∀ (H : Heap) (locs : List Loc), va_P D vwCl (w_MO dA a (some (ba 0)) q1 g2 g3 g4 g5 (wa 0) g7 g8 g9 g10 g11 g12 g13 g14 g15 g16 g17 g18 mo ++ (w_W dA wa y_w ++ (w_Bus dA ba bu))) H → va_D A (w_MO dA a (some (ba 0)) q1 g2 g3 g4 g5 (wa 0) g7 g8 g9 g10 g11 g12 g13 g14 g15 g16 g17 g18 mo ++ (w_W dA wa y_w ++ (w_Bus dA ba bu))) → va_S A s.heap H locs → W p l e ({ frames := 3, cells := 0, slots := 0, locals := 64 } : Room) s m ([.ref (a 0), .int x0, .int x1] : List Value).toArray below meth c H locs 0 0 Q (F0 m 0 ls []) := by
    intro H locs hP hD hS
    rw [f_X12_sitsDown] at hf
    refine lv_aload_n hx hb dX12_sitsDown_0 rfl (lv_at hl 0 rfl) ?_
    refine lv_iload_n hx hb dX12_sitsDown_1 rfl (lv_at hl 2 rfl) ?_
    obtain ⟨r1, hc1, hf⟩ := kb_bind hf
    refine kb_ci (ws2 := (w_MO dA a (some (ba 0)) q1 g2 g3 g4 g5 (wa 0) g7 g8 g9 g10 g11 g12 g13 g14 g15 g16 g17 g18 mo ++ (w_W dA wa y_w ++ (w_Bus dA ba bu)))) (kb_rV (n := 1) (As := [.int x1]) (rest := []) hx hb hml hown hK (c_X12_bagIn l D dA H.size a wa ba q1 g2 g3 g4 g5 g7 g8 g9 g10 g11 g12 g13 g14 g15 g16 g17 g18 mo y_w bu x1 r1 hc1) ⟨ww_7_171, ww_7_168, ww_7_170, ws_82, ww_1_12, rfl, by decide, by decide⟩ rfl rfl (by decide +kernel) ⟨Nat.le_of_ble_eq_true rfl, Nat.le_of_ble_eq_true rfl⟩ hP hD hS hA hE [0, 1, 2, 3, 4, 5, 6, 7, 8, 9, 10, 11, 12, 13, 14, 15, 16, 17] rfl (by decide) 0 rfl rfl rfl hl.1 rfl (Nat.le_of_ble_eq_true rfl) dX12_sitsDown_2 ⟨Nat.le_of_ble_eq_true rfl, Nat.le_of_ble_eq_true rfl⟩) hP hD hS hA [0, 1, 2, 3, 4, 5, 6, 7, 8, 9, 10, 11, 12, 13, 14, 15, 16, 17] [] [0, 1, 2, 3, 4, 5, 6, 7, 8, 9, 10, 11, 12, 13, 14, 15, 16, 17] rfl rfl (by decide) (by decide) rfl (by decide) (fun H locs hP hD hS => ?_)
    refine lv_istore_n (lv' := [(3, .int r1), (0, .ref (a 0)), (1, .int x0), (2, .int x1)]) hx hb dX12_sitsDown_5 rfl hl (by decide) rfl (fun ls hl => ?_)
    refine lv_iload_n hx hb dX12_sitsDown_6 rfl (lv_at hl 0 rfl) ?_
    refine lv_bipush (v := (-2 : Int32)) hx hb dX12_sitsDown_7 (by decide) ?_
    refine lv_icmp_eq (tgt := 22) hx hb dX12_sitsDown_9 (by decide) (fun c_2 => ?_) (fun c_2 => ?_)
    · rw [if_pos c_2] at hf
      exact B_22 _ _ _ _ _ _ hf hP hD hS (lv_sub hl [1, 2, 3] rfl)
    · rw [if_neg c_2] at hf
      refine lv_aload_n hx hb dX12_sitsDown_12 rfl (lv_at hl 1 rfl) ?_
      refine va_get (D := D) (ci := 12) (v := .ref (wa 0)) (C := RX12) (T := TX12) (N := 35) hx hb hts kb_inX12 hown hK.1 hP 0 rfl rfl 19 (by decide) (hK.2.w ww_5_219 rfl _) (fun _ h9 => h9) rfl dX12_sitsDown_13 ?_
      refine lv_bipush (v := (8 : Int32)) hx hb dX12_sitsDown_16 (by decide) ?_
      refine lv_iload_n hx hb dX12_sitsDown_18 rfl (lv_at hl 0 rfl) ?_
      refine lv_iadd hx hb dX12_sitsDown_19 ?_
      refine lv_iconst (v := (-1 : Int32)) hx hb dX12_sitsDown_20 (by decide) ?_
      obtain ⟨h_30, hf⟩ := kb_if hf
      refine va_iast (D := D) hx hb hK.1 hP hD hS 1 0 rfl rfl h_30 dX12_sitsDown_21 (fun H locs hP hD hS => ?_)
      have hP : va_P D vwCl (w_MO dA a (some (ba 0)) q1 g2 g3 g4 g5 (wa 0) g7 g8 g9 g10 g11 g12 g13 g14 g15 g16 g17 g18 mo ++ (w_W dA wa (yW_set_r y_w (upd (yW_r y_w) (((8 : Int32) + r1)).toNatClampNeg (-1 : Int32))) ++ (w_Bus dA ba bu))) H := hP
      have hD : va_D A (w_MO dA a (some (ba 0)) q1 g2 g3 g4 g5 (wa 0) g7 g8 g9 g10 g11 g12 g13 g14 g15 g16 g17 g18 mo ++ (w_W dA wa (yW_set_r y_w (upd (yW_r y_w) (((8 : Int32) + r1)).toNatClampNeg (-1 : Int32))) ++ (w_Bus dA ba bu))) := hD
      exact B_22 _ _ _ _ _ _ hf hP hD hS (lv_sub hl [1, 2, 3] rfl)
  exact E0 _ _ hP hD hS

noncomputable def f_X12_getsUp_b19 (mo : MOT) (z1 : WT) : Option (WT) := some (z1)
noncomputable def f_X12_getsUp_b9 (mo : MOT) (v1 : Int32) (z1 : WT) : Option (WT) := if kb_in? ((8 : Int32) + v1) 56 then f_X12_getsUp_b19 mo (yW_set_r z1 (upd (yW_r z1) (((8 : Int32) + v1)).toNatClampNeg (-1 : Int32))) else none
noncomputable def f_X12_getsUp (mo : MOT) (y_w : WT) (x0 : Int32) (x1 : Int32) : Option (WT) := if kb_in? ((0 : Int32) + x0) 56 then f_X12_getsUp_b9 mo x0 (yW_set_r y_w (upd (yW_r y_w) (((0 : Int32) + x0)).toNatClampNeg x1)) else none
set_option maxHeartbeats 4000000 in
set_option maxRecDepth 100000 in
theorem c_X12_getsUp (l : Launch) (D : va_G) (dA : Nat → ClassId) (sz : Nat) (a : Nat → Nat) (wa : Nat → Nat) (q0 : Option Nat) (q1 : Option Nat) (g2 : Nat) (g3 : Nat) (g4 : Nat) (g5 : Nat) (g7 : Nat) (g8 : Nat) (g9 : Nat) (g10 : Nat) (g11 : Nat) (g12 : Nat) (g13 : Nat) (g14 : Nat) (g15 : Nat) (g16 : Nat) (g17 : Nat) (g18 : Nat) (mo : MOT) (y_w : WT) (x0 : Int32) (x1 : Int32) (u1 : WT) (hf : f_X12_getsUp mo y_w x0 x1 = some (u1)) : kb_Mv l yX12_getsUp cX12_getsUp 3 none ({ frames := 0, cells := 0, slots := 0, locals := 0 } : Room) D dA [.ref (a 0), .int x0, .int x1] sz (w_MO dA a q0 q1 g2 g3 g4 g5 (wa 0) g7 g8 g9 g10 g11 g12 g13 g14 g15 g16 g17 g18 mo ++ (w_W dA wa y_w)) 0 0 (w_MO dA a q0 q1 g2 g3 g4 g5 (wa 0) g7 g8 g9 g10 g11 g12 g13 g14 g15 g16 g17 g18 mo ++ (w_W dA wa u1)) := by
  refine Met.ofW (cc := cX12_getsUp) (maxL := 3) (ret := none) (by decide) rfl ?_
  intro p e s m args below meth c s₁ B hml hv
  obtain ⟨rfl, hsz, hP, hK, hD0, hE⟩ := hv
  have hx := B.exec
  have hb := B.bytes
  have hr := B.returns
  have hown : s.vm.findClass RX12 = some m.cls := findClass_of_methodNamed B.named
  have hlocks := B.notSynchronized
  have hts : ∀ w ∈ kb_gw, w.before ([.ref (a 0), .int x0, .int x1] : List Value).toArray s = true := fun w hw => hK.2.1 w hw _
  subst hsz
  have hD := hD0.self (sz := s.heap.size)
  generalize hAe : va_A (w_MO dA a q0 q1 g2 g3 g4 g5 (wa 0) g7 g8 g9 g10 g11 g12 g13 g14 g15 g16 g17 g18 mo ++ (w_W dA wa y_w)) s.heap.size = A at hD hE ⊢
  have hA : ∀ q : Nat, s.heap.size ≤ q → A q := fun q h => by rw [← hAe]; exact Or.inr h
  have hS : va_S A s.heap s.heap [] := va_S.rf
  have hl := lv_entry ([.ref (a 0), .int x0, .int x1]) (n := 3) (Nat.le_of_ble_eq_true rfl)
  rw [lg_entry_eq]
  generalize (lg_sl ([.ref (a 0), .int x0, .int x1]) ++ List.replicate (3 - (lg_sl ([.ref (a 0), .int x0, .int x1])).length) Slot.unset).toArray = ls at hl ⊢
  have hl : lv_has ls 3 [(0, .ref (a 0)), (1, .int x0), (2, .int x1)] := hl
  generalize hQ : MQ below (va_Qv (fun (_ : Unit) => True) (kb_B D A (w_MO dA a q0 q1 g2 g3 g4 g5 (wa 0) g7 g8 g9 g10 g11 g12 g13 g14 g15 g16 g17 g18 mo ++ (w_W dA wa u1))) A) ([.ref (a 0), .int x0, .int x1] : List Value).toArray s 0 0 A = Q
  show W p l e ({ frames := 0, cells := 0, slots := 0, locals := 0 } : Room) s m ([.ref (a 0), .int x0, .int x1] : List Value).toArray below meth c s.heap [] 0 0 Q (F0 m 0 ls [])
  have RET : ∀ (w1 : WT) (H : Heap) (locs : List Loc) (ls : Array Slot) (pc : Nat), some (w1) = some (u1) → va_P D vwCl (w_MO dA a q0 q1 g2 g3 g4 g5 (wa 0) g7 g8 g9 g10 g11 g12 g13 g14 g15 g16 g17 g18 mo ++ (w_W dA wa w1)) H → va_D A (w_MO dA a q0 q1 g2 g3 g4 g5 (wa 0) g7 g8 g9 g10 g11 g12 g13 g14 g15 g16 g17 g18 mo ++ (w_W dA wa w1)) → va_S A s.heap H locs → decode cX12_getsUp pc = .ok (.return_, 1) → W p l e ({ frames := 0, cells := 0, slots := 0, locals := 0 } : Room) s m ([.ref (a 0), .int x0, .int x1] : List Value).toArray below meth c H locs 0 0 Q (F0 m pc ls []) := by
    intro w1 H locs ls pc hq hP hD hS hd
    cases hq
    rw [← hQ]
    exact W.vret hx hb hr (fun t ht hW => ⟨⟨(), rfl, trivial, by rw [ht]; exact hP, hD⟩, hS.F ht⟩) hS.2.2 hd
  have B_19 : ∀ (z1 : WT) (H : Heap) (locs : List Loc) (ls : Array Slot), f_X12_getsUp_b19 mo z1 = some (u1) → va_P D vwCl (w_MO dA a q0 q1 g2 g3 g4 g5 (wa 0) g7 g8 g9 g10 g11 g12 g13 g14 g15 g16 g17 g18 mo ++ (w_W dA wa z1)) H → va_D A (w_MO dA a q0 q1 g2 g3 g4 g5 (wa 0) g7 g8 g9 g10 g11 g12 g13 g14 g15 g16 g17 g18 mo ++ (w_W dA wa z1)) → va_S A s.heap H locs → lv_has ls 3 [] → W p l e ({ frames := 0, cells := 0, slots := 0, locals := 0 } : Room) s m ([.ref (a 0), .int x0, .int x1] : List Value).toArray below meth c H locs 0 0 Q (F0 m 19 ls []) := by
    intro z1 H locs ls hf hP hD hS hl
    rw [f_X12_getsUp_b19] at hf
    exact RET _ H _ ls 19 hf hP hD hS dX12_getsUp_19
  have B_9 : ∀ (v1 : Int32) (z1 : WT) (H : Heap) (locs : List Loc) (ls : Array Slot), f_X12_getsUp_b9 mo v1 z1 = some (u1) → va_P D vwCl (w_MO dA a q0 q1 g2 g3 g4 g5 (wa 0) g7 g8 g9 g10 g11 g12 g13 g14 g15 g16 g17 g18 mo ++ (w_W dA wa z1)) H → va_D A (w_MO dA a q0 q1 g2 g3 g4 g5 (wa 0) g7 g8 g9 g10 g11 g12 g13 g14 g15 g16 g17 g18 mo ++ (w_W dA wa z1)) → va_S A s.heap H locs → lv_has ls 3 [(0, .ref (a 0)), (1, .int v1)] → W p l e ({ frames := 0, cells := 0, slots := 0, locals := 0 } : Room) s m ([.ref (a 0), .int x0, .int x1] : List Value).toArray below meth c H locs 0 0 Q (F0 m 9 ls []) := by
    intro v1 z1 H locs ls hf hP hD hS hl
    rw [f_X12_getsUp_b9] at hf
    refine lv_aload_n hx hb dX12_getsUp_9 rfl (lv_at hl 0 rfl) ?_
    refine va_get (D := D) (ci := 12) (v := .ref (wa 0)) (C := RX12) (T := TX12) (N := 35) hx hb hts kb_inX12 hown hK.1 hP 0 rfl rfl 19 (by decide) (hK.2.w ww_5_219 rfl _) (fun _ h9 => h9) rfl dX12_getsUp_10 ?_
    refine lv_bipush (v := (8 : Int32)) hx hb dX12_getsUp_13 (by decide) ?_
    refine lv_iload_n hx hb dX12_getsUp_15 rfl (lv_at hl 1 rfl) ?_
    refine lv_iadd hx hb dX12_getsUp_16 ?_
    refine lv_iconst (v := (-1 : Int32)) hx hb dX12_getsUp_17 (by decide) ?_
    obtain ⟨h_2, hf⟩ := kb_if hf
    refine va_iast (D := D) hx hb hK.1 hP hD hS 1 0 rfl rfl h_2 dX12_getsUp_18 (fun H locs hP hD hS => ?_)
    have hP : va_P D vwCl (w_MO dA a q0 q1 g2 g3 g4 g5 (wa 0) g7 g8 g9 g10 g11 g12 g13 g14 g15 g16 g17 g18 mo ++ (w_W dA wa (yW_set_r z1 (upd (yW_r z1) (((8 : Int32) + v1)).toNatClampNeg (-1 : Int32))))) H := hP
    have hD : va_D A (w_MO dA a q0 q1 g2 g3 g4 g5 (wa 0) g7 g8 g9 g10 g11 g12 g13 g14 g15 g16 g17 g18 mo ++ (w_W dA wa (yW_set_r z1 (upd (yW_r z1) (((8 : Int32) + v1)).toNatClampNeg (-1 : Int32))))) := hD
    exact B_19 _ _ _ _ hf hP hD hS (lv_sub hl [] rfl)
  have E0 : ∀ (H : Heap) (locs : List Loc), va_P D vwCl (w_MO dA a q0 q1 g2 g3 g4 g5 (wa 0) g7 g8 g9 g10 g11 g12 g13 g14 g15 g16 g17 g18 mo ++ (w_W dA wa y_w)) H → va_D A (w_MO dA a q0 q1 g2 g3 g4 g5 (wa 0) g7 g8 g9 g10 g11 g12 g13 g14 g15 g16 g17 g18 mo ++ (w_W dA wa y_w)) → va_S A s.heap H locs → W p l e ({ frames := 0, cells := 0, slots := 0, locals := 0 } : Room) s m ([.ref (a 0), .int x0, .int x1] : List Value).toArray below meth c H locs 0 0 Q (F0 m 0 ls []) := by
    intro H locs hP hD hS
    rw [f_X12_getsUp] at hf
    refine lv_aload_n hx hb dX12_getsUp_0 rfl (lv_at hl 0 rfl) ?_
    refine va_get (D := D) (ci := 12) (v := .ref (wa 0)) (C := RX12) (T := TX12) (N := 35) hx hb hts kb_inX12 hown hK.1 hP 0 rfl rfl 19 (by decide) (hK.2.w ww_5_219 rfl _) (fun _ h9 => h9) rfl dX12_getsUp_1 ?_
    refine lv_iconst (v := (0 : Int32)) hx hb dX12_getsUp_4 (by decide) ?_
    refine lv_iload_n hx hb dX12_getsUp_5 rfl (lv_at hl 1 rfl) ?_
    refine lv_iadd hx hb dX12_getsUp_6 ?_
    refine lv_iload_n hx hb dX12_getsUp_7 rfl (lv_at hl 2 rfl) ?_
    obtain ⟨h_1, hf⟩ := kb_if hf
    refine va_iast (D := D) hx hb hK.1 hP hD hS 1 0 rfl rfl h_1 dX12_getsUp_8 (fun H locs hP hD hS => ?_)
    have hP : va_P D vwCl (w_MO dA a q0 q1 g2 g3 g4 g5 (wa 0) g7 g8 g9 g10 g11 g12 g13 g14 g15 g16 g17 g18 mo ++ (w_W dA wa (yW_set_r y_w (upd (yW_r y_w) (((0 : Int32) + x0)).toNatClampNeg x1)))) H := hP
    have hD : va_D A (w_MO dA a q0 q1 g2 g3 g4 g5 (wa 0) g7 g8 g9 g10 g11 g12 g13 g14 g15 g16 g17 g18 mo ++ (w_W dA wa (yW_set_r y_w (upd (yW_r y_w) (((0 : Int32) + x0)).toNatClampNeg x1)))) := hD
    exact B_9 _ _ _ _ _ hf hP hD hS (lv_sub hl [0, 1] rfl)
  exact E0 _ _ hP hD hS

noncomputable def f_X12_choosesNow_b31 (mo : MOT) (y_looks : LooksT) (bu : BusT) (z1 : WT) (z3 : WhoT) (z4 : LookT) : Option (WT × WhoT × LookT) := some (z1, z3, z4)
noncomputable def f_X12_choosesNow_b22 (mo : MOT) (y_looks : LooksT) (bu : BusT) (z1 : WT) (z3 : WhoT) (z4 : LookT) : Option (WT × WhoT × LookT) := f_X12_choosesNow_b31 mo y_looks bu z1 z3 z4
noncomputable def f_X12_choosesNow_b6 (mo : MOT) (y_looks : LooksT) (bu : BusT) (v1 : Int32) (v2 : Int32) (z1 : WT) (z3 : WhoT) (z4 : LookT) : Option (WT × WhoT × LookT) := (if v2 = (-2 : Int32) then if kb_in? ((0 : Int32) + v1) 56 then f_X12_choosesNow_b22 mo y_looks bu (yW_set_r z1 (upd (yW_r z1) (((0 : Int32) + v1)).toNatClampNeg (101 : Int32))) z3 z4 else none else (f_X12_sitsDown mo z1 bu v1 v2).bind fun r3 => f_X12_choosesNow_b31 mo y_looks bu r3 z3 z4)
noncomputable def f_X12_choosesNow (mo : MOT) (y_w : WT) (y_looks : LooksT) (y_who : WhoT) (y_look : LookT) (bu : BusT) (x0 : Int32) : Option (WT × WhoT × LookT) := (f_X12_chosen mo y_w y_looks y_who y_look bu x0).bind fun r1 => f_X12_choosesNow_b6 mo y_looks bu x0 r1.1 y_w r1.2.1 r1.2.2
set_option maxHeartbeats 4000000 in
set_option maxRecDepth 100000 in
theorem c_X12_choosesNow (l : Launch) (D : va_G) (dA : Nat → ClassId) (sz : Nat) (a : Nat → Nat) (wa : Nat → Nat) (la : Nat → Nat) (ha : Nat → Nat) (ca : Nat → Nat) (ba : Nat → Nat) (q1 : Option Nat) (g2 : Nat) (g3 : Nat) (g4 : Nat) (g5 : Nat) (g10 : Nat) (g11 : Nat) (g12 : Nat) (g13 : Nat) (g14 : Nat) (g15 : Nat) (g16 : Nat) (g17 : Nat) (g18 : Nat) (mo : MOT) (y_w : WT) (y_looks : LooksT) (y_who : WhoT) (y_look : LookT) (bu : BusT) (x0 : Int32) (u1 : WT) (u3 : WhoT) (u4 : LookT) (hf : f_X12_choosesNow mo y_w y_looks y_who y_look bu x0 = some (u1, u3, u4)) : kb_Mv l yX12_choosesNow cX12_choosesNow 3 none ({ frames := 7, cells := 0, slots := 0, locals := 167 } : Room) D dA [.ref (a 0), .int x0] sz (w_MO dA a (some (ba 0)) q1 g2 g3 g4 g5 (wa 0) (la 0) (ha 0) (ca 0) g10 g11 g12 g13 g14 g15 g16 g17 g18 mo ++ (w_W dA wa y_w ++ (w_Looks dA la y_looks ++ (w_Who dA ha y_who ++ (w_Look dA ca y_look ++ (w_Bus dA ba bu)))))) 0 0 (w_MO dA a (some (ba 0)) q1 g2 g3 g4 g5 (wa 0) (la 0) (ha 0) (ca 0) g10 g11 g12 g13 g14 g15 g16 g17 g18 mo ++ (w_W dA wa u1 ++ (w_Looks dA la y_looks ++ (w_Who dA ha u3 ++ (w_Look dA ca u4 ++ (w_Bus dA ba bu)))))) := by
  refine Met.ofW (cc := cX12_choosesNow) (maxL := 3) (ret := none) (by decide) rfl ?_
  intro p e s m args below meth c s₁ B hml hv
  obtain ⟨rfl, hsz, hP, hK, hD0, hE⟩ := hv
  have hx := B.exec
  have hb := B.bytes
  have hr := B.returns
  have hown : s.vm.findClass RX12 = some m.cls := findClass_of_methodNamed B.named
  have hlocks := B.notSynchronized
  have hts : ∀ w ∈ kb_gw, w.before ([.ref (a 0), .int x0] : List Value).toArray s = true := fun w hw => hK.2.1 w hw _
  subst hsz
  have hD := hD0.self (sz := s.heap.size)
  generalize hAe : va_A (w_MO dA a (some (ba 0)) q1 g2 g3 g4 g5 (wa 0) (la 0) (ha 0) (ca 0) g10 g11 g12 g13 g14 g15 g16 g17 g18 mo ++ (w_W dA wa y_w ++ (w_Looks dA la y_looks ++ (w_Who dA ha y_who ++ (w_Look dA ca y_look ++ (w_Bus dA ba bu)))))) s.heap.size = A at hD hE ⊢
  have hA : ∀ q : Nat, s.heap.size ≤ q → A q := fun q h => by rw [← hAe]; exact Or.inr h
  have hS : va_S A s.heap s.heap [] := va_S.rf
  have hl := lv_entry ([.ref (a 0), .int x0]) (n := 3) (Nat.le_of_ble_eq_true rfl)
  rw [lg_entry_eq]
  generalize (lg_sl ([.ref (a 0), .int x0]) ++ List.replicate (3 - (lg_sl ([.ref (a 0), .int x0])).length) Slot.unset).toArray = ls at hl ⊢
  have hl : lv_has ls 3 [(0, .ref (a 0)), (1, .int x0)] := hl
  generalize hQ : MQ below (va_Qv (fun (_ : Unit) => True) (kb_B D A (w_MO dA a (some (ba 0)) q1 g2 g3 g4 g5 (wa 0) (la 0) (ha 0) (ca 0) g10 g11 g12 g13 g14 g15 g16 g17 g18 mo ++ (w_W dA wa u1 ++ (w_Looks dA la y_looks ++ (w_Who dA ha u3 ++ (w_Look dA ca u4 ++ (w_Bus dA ba bu))))))) A) ([.ref (a 0), .int x0] : List Value).toArray s 0 0 A = Q
  show W p l e ({ frames := 7, cells := 0, slots := 0, locals := 167 } : Room) s m ([.ref (a 0), .int x0] : List Value).toArray below meth c s.heap [] 0 0 Q (F0 m 0 ls [])
  have RET : ∀ (w1 : WT) (w3 : WhoT) (w4 : LookT) (H : Heap) (locs : List Loc) (ls : Array Slot) (pc : Nat), some (w1, w3, w4) = some (u1, u3, u4) → va_P D vwCl (w_MO dA a (some (ba 0)) q1 g2 g3 g4 g5 (wa 0) (la 0) (ha 0) (ca 0) g10 g11 g12 g13 g14 g15 g16 g17 g18 mo ++ (w_W dA wa w1 ++ (w_Looks dA la y_looks ++ (w_Who dA ha w3 ++ (w_Look dA ca w4 ++ (w_Bus dA ba bu)))))) H → va_D A (w_MO dA a (some (ba 0)) q1 g2 g3 g4 g5 (wa 0) (la 0) (ha 0) (ca 0) g10 g11 g12 g13 g14 g15 g16 g17 g18 mo ++ (w_W dA wa w1 ++ (w_Looks dA la y_looks ++ (w_Who dA ha w3 ++ (w_Look dA ca w4 ++ (w_Bus dA ba bu)))))) → va_S A s.heap H locs → decode cX12_choosesNow pc = .ok (.return_, 1) → W p l e ({ frames := 7, cells := 0, slots := 0, locals := 167 } : Room) s m ([.ref (a 0), .int x0] : List Value).toArray below meth c H locs 0 0 Q (F0 m pc ls []) := by
    intro w1 w3 w4 H locs ls pc hq hP hD hS hd
    cases hq
    rw [← hQ]
    exact W.vret hx hb hr (fun t ht hW => ⟨⟨(), rfl, trivial, by rw [ht]; exact hP, hD⟩, hS.F ht⟩) hS.2.2 hd
  have B_31 : ∀ (z1 : WT) (z3 : WhoT) (z4 : LookT) (H : Heap) (locs : List Loc) (ls : Array Slot), f_X12_choosesNow_b31 mo y_looks bu z1 z3 z4 = some (u1, u3, u4) → va_P D vwCl (w_MO dA a (some (ba 0)) q1 g2 g3 g4 g5 (wa 0) (la 0) (ha 0) (ca 0) g10 g11 g12 g13 g14 g15 g16 g17 g18 mo ++ (w_W dA wa z1 ++ (w_Looks dA la y_looks ++ (w_Who dA ha z3 ++ (w_Look dA ca z4 ++ (w_Bus dA ba bu)))))) H → va_D A (w_MO dA a (some (ba 0)) q1 g2 g3 g4 g5 (wa 0) (la 0) (ha 0) (ca 0) g10 g11 g12 g13 g14 g15 g16 g17 g18 mo ++ (w_W dA wa z1 ++ (w_Looks dA la y_looks ++ (w_Who dA ha z3 ++ (w_Look dA ca z4 ++ (w_Bus dA ba bu)))))) → va_S A s.heap H locs → lv_has ls 3 [] → W p l e ({ frames := 7, cells := 0, slots := 0, locals := 167 } : Room) s m ([.ref (a 0), .int x0] : List Value).toArray below meth c H locs 0 0 Q (F0 m 31 ls []) := by
    intro z1 z3 z4 H locs ls hf hP hD hS hl
    rw [f_X12_choosesNow_b31] at hf
    exact RET _ _ _ H _ ls 31 hf hP hD hS dX12_choosesNow_31
  have B_22 : ∀ (z1 : WT) (z3 : WhoT) (z4 : LookT) (H : Heap) (locs : List Loc) (ls : Array Slot), f_X12_choosesNow_b22 mo y_looks bu z1 z3 z4 = some (u1, u3, u4) → va_P D vwCl (w_MO dA a (some (ba 0)) q1 g2 g3 g4 g5 (wa 0) (la 0) (ha 0) (ca 0) g10 g11 g12 g13 g14 g15 g16 g17 g18 mo ++ (w_W dA wa z1 ++ (w_Looks dA la y_looks ++ (w_Who dA ha z3 ++ (w_Look dA ca z4 ++ (w_Bus dA ba bu)))))) H → va_D A (w_MO dA a (some (ba 0)) q1 g2 g3 g4 g5 (wa 0) (la 0) (ha 0) (ca 0) g10 g11 g12 g13 g14 g15 g16 g17 g18 mo ++ (w_W dA wa z1 ++ (w_Looks dA la y_looks ++ (w_Who dA ha z3 ++ (w_Look dA ca z4 ++ (w_Bus dA ba bu)))))) → va_S A s.heap H locs → lv_has ls 3 [] → W p l e ({ frames := 7, cells := 0, slots := 0, locals := 167 } : Room) s m ([.ref (a 0), .int x0] : List Value).toArray below meth c H locs 0 0 Q (F0 m 22 ls []) := by
    intro z1 z3 z4 H locs ls hf hP hD hS hl
    rw [f_X12_choosesNow_b22] at hf
    refine lv_goto (tgt := 31) hx hb dX12_choosesNow_22 (by decide) ?_
    exact B_31 _ _ _ _ _ _ hf hP hD hS (lv_sub hl [] rfl)
  have B_6 : ∀ (v1 : Int32) (v2 : Int32) (z1 : WT) (z3 : WhoT) (z4 : LookT) (H : Heap) (locs : List Loc) (ls : Array Slot), f_X12_choosesNow_b6 mo y_looks bu v1 v2 z1 z3 z4 = some (u1, u3, u4) → va_P D vwCl (w_MO dA a (some (ba 0)) q1 g2 g3 g4 g5 (wa 0) (la 0) (ha 0) (ca 0) g10 g11 g12 g13 g14 g15 g16 g17 g18 mo ++ (w_W dA wa z1 ++ (w_Looks dA la y_looks ++ (w_Who dA ha z3 ++ (w_Look dA ca z4 ++ (w_Bus dA ba bu)))))) H → va_D A (w_MO dA a (some (ba 0)) q1 g2 g3 g4 g5 (wa 0) (la 0) (ha 0) (ca 0) g10 g11 g12 g13 g14 g15 g16 g17 g18 mo ++ (w_W dA wa z1 ++ (w_Looks dA la y_looks ++ (w_Who dA ha z3 ++ (w_Look dA ca z4 ++ (w_Bus dA ba bu)))))) → va_S A s.heap H locs → lv_has ls 3 [(0, .ref (a 0)), (1, .int v1), (2, .int v2)] → W p l e ({ frames := 7, cells := 0, slots := 0, locals := 167 } : Room) s m ([.ref (a 0), .int x0] : List Value).toArray below meth c H locs 0 0 Q (F0 m 6 ls []) := by
    intro v1 v2 z1 z3 z4 H locs ls hf hP hD hS hl
    rw [f_X12_choosesNow_b6] at hf
    refine lv_iload_n hx hb dX12_choosesNow_6 rfl (lv_at hl 2 rfl) ?_
    refine lv_bipush (v := (-2 : Int32)) hx hb dX12_choosesNow_7 (by decide) ?_
    refine lv_icmp_ne (tgt := 25) hx hb dX12_choosesNow_9 (by decide) (fun c_2 => ?_) (fun c_2 => ?_)
    · rw [if_neg c_2] at hf
      refine lv_aload_n hx hb dX12_choosesNow_25 rfl (lv_at hl 0 rfl) ?_
      refine lv_iload_n hx hb dX12_choosesNow_26 rfl (lv_at hl 1 rfl) ?_
      refine lv_iload_n hx hb dX12_choosesNow_27 rfl (lv_at hl 2 rfl) ?_
      obtain ⟨r3, hc3, hf⟩ := kb_bind hf
      refine kb_cv (ws2 := (w_MO dA a (some (ba 0)) q1 g2 g3 g4 g5 (wa 0) (la 0) (ha 0) (ca 0) g10 g11 g12 g13 g14 g15 g16 g17 g18 mo ++ (w_W dA wa r3 ++ (w_Looks dA la y_looks ++ (w_Who dA ha z3 ++ (w_Look dA ca z4 ++ (w_Bus dA ba bu))))))) (kb_rV (n := 2) (As := [.int v1, .int v2]) (rest := []) hx hb hml hown hK (c_X12_sitsDown l D dA H.size a wa ba q1 g2 g3 g4 g5 (la 0) (ha 0) (ca 0) g10 g11 g12 g13 g14 g15 g16 g17 g18 mo z1 bu v1 v2 r3 hc3) ⟨ww_7_167, ww_7_164, ww_7_166, ws_81, ww_1_12, rfl, by decide, by decide⟩ rfl rfl (by decide +kernel) ⟨Nat.le_of_ble_eq_true rfl, Nat.le_of_ble_eq_true rfl⟩ hP hD hS hA hE [0, 1, 5, 6, 7, 8, 9, 10, 11, 12, 13, 14, 15, 16, 17, 18, 19, 20] rfl (by decide) 0 rfl rfl rfl hl.1 rfl (Nat.le_of_ble_eq_true rfl) dX12_choosesNow_28 ⟨Nat.le_of_ble_eq_true rfl, Nat.le_of_ble_eq_true rfl⟩) hP hD hS hA [0, 1, 5, 6, 7, 8, 9, 10, 11, 12, 13, 14, 15, 16, 17, 18, 19, 20] [2, 3, 4] [3, 4, 0, 1, 2, 5, 6, 7, 8, 9, 10, 11, 12, 13, 14, 15, 16, 17, 18, 19, 20] rfl rfl (by decide) (by decide) rfl (by decide) (fun H locs hP hD hS => ?_)
      exact B_31 _ _ _ _ _ _ hf hP hD hS (lv_sub hl [] rfl)
    · rw [if_pos c_2] at hf
      refine lv_aload_n hx hb dX12_choosesNow_12 rfl (lv_at hl 0 rfl) ?_
      refine va_get (D := D) (ci := 12) (v := .ref (wa 0)) (C := RX12) (T := TX12) (N := 35) hx hb hts kb_inX12 hown hK.1 hP 0 rfl rfl 19 (by decide) (hK.2.w ww_5_219 rfl _) (fun _ h9 => h9) rfl dX12_choosesNow_13 ?_
      refine lv_iconst (v := (0 : Int32)) hx hb dX12_choosesNow_16 (by decide) ?_
      refine lv_iload_n hx hb dX12_choosesNow_17 rfl (lv_at hl 1 rfl) ?_
      refine lv_iadd hx hb dX12_choosesNow_18 ?_
      refine lv_bipush (v := (101 : Int32)) hx hb dX12_choosesNow_19 (by decide) ?_
      obtain ⟨h_4, hf⟩ := kb_if hf
      refine va_iast (D := D) hx hb hK.1 hP hD hS 1 0 rfl rfl h_4 dX12_choosesNow_21 (fun H locs hP hD hS => ?_)
      have hP : va_P D vwCl (w_MO dA a (some (ba 0)) q1 g2 g3 g4 g5 (wa 0) (la 0) (ha 0) (ca 0) g10 g11 g12 g13 g14 g15 g16 g17 g18 mo ++ (w_W dA wa (yW_set_r z1 (upd (yW_r z1) (((0 : Int32) + v1)).toNatClampNeg (101 : Int32))) ++ (w_Looks dA la y_looks ++ (w_Who dA ha z3 ++ (w_Look dA ca z4 ++ (w_Bus dA ba bu)))))) H := hP
      have hD : va_D A (w_MO dA a (some (ba 0)) q1 g2 g3 g4 g5 (wa 0) (la 0) (ha 0) (ca 0) g10 g11 g12 g13 g14 g15 g16 g17 g18 mo ++ (w_W dA wa (yW_set_r z1 (upd (yW_r z1) (((0 : Int32) + v1)).toNatClampNeg (101 : Int32))) ++ (w_Looks dA la y_looks ++ (w_Who dA ha z3 ++ (w_Look dA ca z4 ++ (w_Bus dA ba bu)))))) := hD
      exact B_22 _ _ _ _ _ _ hf hP hD hS (lv_sub hl [] rfl)
  have E0 : ∀ (H : Heap) (locs : List Loc), va_P D vwCl (w_MO dA a (some (ba 0)) q1 g2 g3 g4 g5 (wa 0) (la 0) (ha 0) (ca 0) g10 g11 g12 g13 g14 g15 g16 g17 g18 mo ++ (w_W dA wa y_w ++ (w_Looks dA la y_looks ++ (w_Who dA ha y_who ++ (w_Look dA ca y_look ++ (w_Bus dA ba bu)))))) H → va_D A (w_MO dA a (some (ba 0)) q1 g2 g3 g4 g5 (wa 0) (la 0) (ha 0) (ca 0) g10 g11 g12 g13 g14 g15 g16 g17 g18 mo ++ (w_W dA wa y_w ++ (w_Looks dA la y_looks ++ (w_Who dA ha y_who ++ (w_Look dA ca y_look ++ (w_Bus dA ba bu)))))) → va_S A s.heap H locs → W p l e ({ frames := 7, cells := 0, slots := 0, locals := 167 } : Room) s m ([.ref (a 0), .int x0] : List Value).toArray below meth c H locs 0 0 Q (F0 m 0 ls []) := by
    intro H locs hP hD hS
    rw [f_X12_choosesNow] at hf
    refine lv_aload_n hx hb dX12_choosesNow_0 rfl (lv_at hl 0 rfl) ?_
    refine lv_iload_n hx hb dX12_choosesNow_1 rfl (lv_at hl 1 rfl) ?_
    obtain ⟨r1, hc1, hf⟩ := kb_bind hf
    refine kb_ci (ws2 := (w_MO dA a (some (ba 0)) q1 g2 g3 g4 g5 (wa 0) (la 0) (ha 0) (ca 0) g10 g11 g12 g13 g14 g15 g16 g17 g18 mo ++ (w_W dA wa y_w ++ (w_Looks dA la y_looks ++ (w_Who dA ha r1.2.1 ++ (w_Look dA ca r1.2.2 ++ (w_Bus dA ba bu))))))) (kb_rV (n := 1) (As := [.int x0]) (rest := []) hx hb hml hown hK (c_X12_chosen l D dA H.size a wa la ha ca ba q1 g2 g3 g4 g5 g10 g11 g12 g13 g14 g15 g16 g17 g18 mo y_w y_looks y_who y_look bu x0 r1.1 r1.2.1 r1.2.2 hc1) ⟨ww_7_194, ww_7_191, ww_7_193, ws_87, ww_1_12, rfl, by decide, by decide⟩ rfl rfl (by decide +kernel) ⟨Nat.le_of_ble_eq_true rfl, Nat.le_of_ble_eq_true rfl⟩ hP hD hS hA hE [0, 1, 2, 3, 4, 5, 6, 7, 8, 9, 10, 11, 12, 13, 14, 15, 16, 17, 18, 19, 20] rfl (by decide) 0 rfl rfl rfl hl.1 rfl (Nat.le_of_ble_eq_true rfl) dX12_choosesNow_2 ⟨Nat.le_of_ble_eq_true rfl, Nat.le_of_ble_eq_true rfl⟩) hP hD hS hA [0, 1, 2, 3, 4, 5, 6, 7, 8, 9, 10, 11, 12, 13, 14, 15, 16, 17, 18, 19, 20] [] [0, 1, 2, 3, 4, 5, 6, 7, 8, 9, 10, 11, 12, 13, 14, 15, 16, 17, 18, 19, 20] rfl rfl (by decide) (by decide) rfl (by decide) (fun H locs hP hD hS => ?_)
    refine lv_istore_n (lv' := [(2, .int r1.1), (0, .ref (a 0)), (1, .int x0)]) hx hb dX12_choosesNow_5 rfl hl (by decide) rfl (fun ls hl => ?_)
    exact B_6 _ _ _ _ _ _ _ _ hf hP hD hS (lv_sub hl [1, 2, 0] rfl)
  exact E0 _ _ hP hD hS

noncomputable def f_X12_secondsOf_b124 (mo : MOT) (y_w : WT) (bu : BusT) (v4 : Int32) : Option (Int32) := some (v4)
noncomputable def f_X12_secondsOf (mo : MOT) (y_w : WT) (bu : BusT) (x0 : Int32) (x1 : Int32) : Option (Int32) := (f_X12_isSitting mo y_w x0).bind fun r1 => (if r1 = 0 then some ((bu_pace bu)) else if kb_in? ((0 : Int32) + x0) 56 then (f_X12_far (((yW_r y_w) (((0 : Int32) + x0)).toNatClampNeg) >>> ((2 : Int32) &&& 31)) (bu_door bu)).bind fun r4 => (f_X12_beside mo bu ((yW_r y_w) (((0 : Int32) + x0)).toNatClampNeg)).bind fun r5 => (f_X12_isAisleOf (bu_form bu) (((yW_r y_w) (((0 : Int32) + x0)).toNatClampNeg) &&& (3 : Int32))).bind fun r6 => (if r6 = 0 then (if r5 = (-1 : Int32) then some (((bu_pace bu) * ((1 : Int32) + r4))) else (f_X12_sitter mo y_w bu r5).bind fun r9 => (if r9 = (-2 : Int32) then f_X12_secondsOf_b124 mo y_w bu ((bu_pace bu) * ((1 : Int32) + r4)) else if kb_in? r9 8 then (if ((bu_off bu) (r9).toNatClampNeg) = x1 then f_X12_secondsOf_b124 mo y_w bu ((bu_pace bu) * ((1 : Int32) + r4)) else some ((((bu_pace bu) * ((1 : Int32) + r4)) + (bu_rise bu)))) else none)) else some (((bu_pace bu) * ((1 : Int32) + r4)))) else none)
set_option maxHeartbeats 4000000 in
set_option maxRecDepth 100000 in
theorem c_X12_secondsOf (l : Launch) (D : va_G) (dA : Nat → ClassId) (sz : Nat) (a : Nat → Nat) (wa : Nat → Nat) (ba : Nat → Nat) (q1 : Option Nat) (g2 : Nat) (g3 : Nat) (g4 : Nat) (g5 : Nat) (g7 : Nat) (g8 : Nat) (g9 : Nat) (g10 : Nat) (g11 : Nat) (g12 : Nat) (g13 : Nat) (g14 : Nat) (g15 : Nat) (g16 : Nat) (g17 : Nat) (g18 : Nat) (mo : MOT) (y_w : WT) (bu : BusT) (x0 : Int32) (x1 : Int32) (rv : Int32) (hf : f_X12_secondsOf mo y_w bu x0 x1 = some (rv)) : kb_Mi l yX12_secondsOf cX12_secondsOf 7 (some .int) ({ frames := 3, cells := 0, slots := 0, locals := 64 } : Room) D dA [.ref (a 0), .int x0, .int x1] sz (w_MO dA a (some (ba 0)) q1 g2 g3 g4 g5 (wa 0) g7 g8 g9 g10 g11 g12 g13 g14 g15 g16 g17 g18 mo ++ (w_W dA wa y_w ++ (w_Bus dA ba bu))) 0 0 rv (w_MO dA a (some (ba 0)) q1 g2 g3 g4 g5 (wa 0) g7 g8 g9 g10 g11 g12 g13 g14 g15 g16 g17 g18 mo ++ (w_W dA wa y_w ++ (w_Bus dA ba bu))) := by
  refine Met.ofW (cc := cX12_secondsOf) (maxL := 7) (ret := (some .int)) (by decide) rfl ?_
  intro p e s m args below meth c s₁ B hml hv
  obtain ⟨rfl, hsz, hP, hK, hD0, hE⟩ := hv
  have hx := B.exec
  have hb := B.bytes
  have hr := B.returns
  have hown : s.vm.findClass RX12 = some m.cls := findClass_of_methodNamed B.named
  have hlocks := B.notSynchronized
  have hts : ∀ w ∈ kb_gw, w.before ([.ref (a 0), .int x0, .int x1] : List Value).toArray s = true := fun w hw => hK.2.1 w hw _
  subst hsz
  have hD := hD0.self (sz := s.heap.size)
  generalize hAe : va_A (w_MO dA a (some (ba 0)) q1 g2 g3 g4 g5 (wa 0) g7 g8 g9 g10 g11 g12 g13 g14 g15 g16 g17 g18 mo ++ (w_W dA wa y_w ++ (w_Bus dA ba bu))) s.heap.size = A at hD hE ⊢
  have hA : ∀ q : Nat, s.heap.size ≤ q → A q := fun q h => by rw [← hAe]; exact Or.inr h
  have hS : va_S A s.heap s.heap [] := va_S.rf
  have hl := lv_entry ([.ref (a 0), .int x0, .int x1]) (n := 7) (Nat.le_of_ble_eq_true rfl)
  rw [lg_entry_eq]
  generalize (lg_sl ([.ref (a 0), .int x0, .int x1]) ++ List.replicate (7 - (lg_sl ([.ref (a 0), .int x0, .int x1])).length) Slot.unset).toArray = ls at hl ⊢
  have hl : lv_has ls 7 [(0, .ref (a 0)), (1, .int x0), (2, .int x1)] := hl
  generalize hQ : MQ below (va_Qi (fun r (_ : Unit) => r = rv) (kb_B D A (w_MO dA a (some (ba 0)) q1 g2 g3 g4 g5 (wa 0) g7 g8 g9 g10 g11 g12 g13 g14 g15 g16 g17 g18 mo ++ (w_W dA wa y_w ++ (w_Bus dA ba bu)))) A) ([.ref (a 0), .int x0, .int x1] : List Value).toArray s 0 0 A = Q
  show W p l e ({ frames := 3, cells := 0, slots := 0, locals := 64 } : Room) s m ([.ref (a 0), .int x0, .int x1] : List Value).toArray below meth c s.heap [] 0 0 Q (F0 m 0 ls [])
  have RET : ∀ (r2 : Int32) (H : Heap) (locs : List Loc) (ls : Array Slot) (pc : Nat), some (r2) = some (rv) → va_P D vwCl (w_MO dA a (some (ba 0)) q1 g2 g3 g4 g5 (wa 0) g7 g8 g9 g10 g11 g12 g13 g14 g15 g16 g17 g18 mo ++ (w_W dA wa y_w ++ (w_Bus dA ba bu))) H → va_D A (w_MO dA a (some (ba 0)) q1 g2 g3 g4 g5 (wa 0) g7 g8 g9 g10 g11 g12 g13 g14 g15 g16 g17 g18 mo ++ (w_W dA wa y_w ++ (w_Bus dA ba bu))) → va_S A s.heap H locs → decode cX12_secondsOf pc = .ok (.ireturn, 1) → W p l e ({ frames := 3, cells := 0, slots := 0, locals := 64 } : Room) s m ([.ref (a 0), .int x0, .int x1] : List Value).toArray below meth c H locs 0 0 Q (F0 m pc ls [.int r2]) := by
    intro r2 H locs ls pc hq hP hD hS hd
    cases hq
    rw [← hQ]
    exact W.iret hx hb hr (fun t ht hW => ⟨⟨_, (), rfl, rfl, by rw [ht]; exact hP, hD⟩, hS.F ht⟩) hS.2.2 hd
  have B_124 : ∀ (v4 : Int32) (H : Heap) (locs : List Loc) (ls : Array Slot), f_X12_secondsOf_b124 mo y_w bu v4 = some (rv) → va_P D vwCl (w_MO dA a (some (ba 0)) q1 g2 g3 g4 g5 (wa 0) g7 g8 g9 g10 g11 g12 g13 g14 g15 g16 g17 g18 mo ++ (w_W dA wa y_w ++ (w_Bus dA ba bu))) H → va_D A (w_MO dA a (some (ba 0)) q1 g2 g3 g4 g5 (wa 0) g7 g8 g9 g10 g11 g12 g13 g14 g15 g16 g17 g18 mo ++ (w_W dA wa y_w ++ (w_Bus dA ba bu))) → va_S A s.heap H locs → lv_has ls 7 [(4, .int v4)] → W p l e ({ frames := 3, cells := 0, slots := 0, locals := 64 } : Room) s m ([.ref (a 0), .int x0, .int x1] : List Value).toArray below meth c H locs 0 0 Q (F0 m 124 ls []) := by
    intro v4 H locs ls hf hP hD hS hl
    rw [f_X12_secondsOf_b124] at hf
    refine lv_iload hx hb dX12_secondsOf_124 (lv_at hl 0 rfl) ?_
    exact RET _ H _ ls 126 hf hP hD hS dX12_secondsOf_126
  have E0 : ∀ (H : Heap) (locs : List Loc), va_P D vwCl (w_MO dA a (some (ba 0)) q1 g2 g3 g4 g5 (wa 0) g7 g8 g9 g10 g11 g12 g13 g14 g15 g16 g17 g18 mo ++ (w_W dA wa y_w ++ (w_Bus dA ba bu))) H → va_D A (w_MO dA a (some (ba 0)) q1 g2 g3 g4 g5 (wa 0) g7 g8 g9 g10 g11 g12 g13 g14 g15 g16 g17 g18 mo ++ (w_W dA wa y_w ++ (w_Bus dA ba bu))) → va_S A s.heap H locs → W p l e ({ frames := 3, cells := 0, slots := 0, locals := 64 } : Room) s m ([.ref (a 0), .int x0, .int x1] : List Value).toArray below meth c H locs 0 0 Q (F0 m 0 ls []) := by
    intro H locs hP hD hS
    rw [f_X12_secondsOf] at hf
    refine lv_aload_n hx hb dX12_secondsOf_0 rfl (lv_at hl 0 rfl) ?_
    refine lv_iload_n hx hb dX12_secondsOf_1 rfl (lv_at hl 1 rfl) ?_
    obtain ⟨r1, hc1, hf⟩ := kb_bind hf
    refine kb_ci (ws2 := (w_MO dA a (some (ba 0)) q1 g2 g3 g4 g5 (wa 0) g7 g8 g9 g10 g11 g12 g13 g14 g15 g16 g17 g18 mo ++ (w_W dA wa y_w ++ (w_Bus dA ba bu)))) (kb_rV (n := 1) (As := [.int x0]) (rest := []) hx hb hml hown hK (c_X12_isSitting l D dA H.size a wa (some (ba 0)) q1 g2 g3 g4 g5 g7 g8 g9 g10 g11 g12 g13 g14 g15 g16 g17 g18 mo y_w x0 r1 hc1) ⟨ww_7_132, ww_7_129, ww_7_131, ws_76, ww_1_12, rfl, by decide, by decide⟩ rfl rfl (by decide +kernel) ⟨Nat.le_of_ble_eq_true rfl, Nat.le_of_ble_eq_true rfl⟩ hP hD hS hA hE [0, 1] rfl (by decide) 0 rfl rfl rfl hl.1 rfl (Nat.le_of_ble_eq_true rfl) dX12_secondsOf_2 ⟨Nat.le_of_ble_eq_true rfl, Nat.le_of_ble_eq_true rfl⟩) hP hD hS hA [0, 1] [2, 3, 4, 5, 6, 7, 8, 9, 10, 11, 12, 13, 14, 15, 16, 17] [16, 17, 0, 1, 2, 3, 4, 5, 6, 7, 8, 9, 10, 11, 12, 13, 14, 15] rfl rfl (by decide) (by decide) rfl (by decide) (fun H locs hP hD hS => ?_)
    refine lv_if_ne (tgt := 16) hx hb dX12_secondsOf_5 (by decide) (fun c_2 => ?_) (fun c_2 => ?_)
    · rw [if_neg c_2] at hf
      refine lv_aload_n hx hb dX12_secondsOf_16 rfl (lv_at hl 0 rfl) ?_
      refine va_get (D := D) (ci := 12) (v := .ref (wa 0)) (C := RX12) (T := TX12) (N := 35) hx hb hts kb_inX12 hown hK.1 hP 0 rfl rfl 19 (by decide) (hK.2.w ww_5_219 rfl _) (fun _ h9 => h9) rfl dX12_secondsOf_17 ?_
      refine lv_iconst (v := (0 : Int32)) hx hb dX12_secondsOf_20 (by decide) ?_
      refine lv_iload_n hx hb dX12_secondsOf_21 rfl (lv_at hl 1 rfl) ?_
      refine lv_iadd hx hb dX12_secondsOf_22 ?_
      obtain ⟨h_3, hf⟩ := kb_if hf
      refine va_iald (D := D) hx hb hK.1 hP 1 0 rfl rfl h_3 dX12_secondsOf_23 ?_
      refine lv_istore_n (lv' := [(3, .int ((yW_r y_w) (((0 : Int32) + x0)).toNatClampNeg)), (0, .ref (a 0)), (1, .int x0), (2, .int x1)]) hx hb dX12_secondsOf_24 rfl hl (by decide) rfl (fun ls hl => ?_)
      refine lv_aload_n hx hb dX12_secondsOf_25 rfl (lv_at hl 1 rfl) ?_
      refine va_get (D := D) (ci := 12) (v := .ref (ba 0)) (C := RX12) (T := TX12) (N := 35) hx hb hts kb_inX12 hown hK.1 hP 0 rfl rfl 3 (by decide) (hK.2.w ww_5_203 rfl _) (fun _ h9 => h9) rfl dX12_secondsOf_26 ?_
      refine va_getN (D := D) (ci := 11) (v := .int (bu_pace bu)) (C := RX11) (T := TX11) (N := 26) hx hb hts kb_inX11 hown hK.1 hP 2 rfl rfl 3 (by decide) (hK.2.nb ww_6_92 rfl rfl _) (fun _ h9 => h9) rfl dX12_secondsOf_29 ?_
      refine lv_iconst (v := (1 : Int32)) hx hb dX12_secondsOf_32 (by decide) ?_
      refine lv_iload_n hx hb dX12_secondsOf_33 rfl (lv_at hl 0 rfl) ?_
      refine lv_iconst (v := (2 : Int32)) hx hb dX12_secondsOf_34 (by decide) ?_
      refine lv_ishr hx hb dX12_secondsOf_35 ?_
      refine lv_aload_n hx hb dX12_secondsOf_36 rfl (lv_at hl 1 rfl) ?_
      refine va_get (D := D) (ci := 12) (v := .ref (ba 0)) (C := RX12) (T := TX12) (N := 35) hx hb hts kb_inX12 hown hK.1 hP 0 rfl rfl 3 (by decide) (hK.2.w ww_5_203 rfl _) (fun _ h9 => h9) rfl dX12_secondsOf_37 ?_
      refine va_getN (D := D) (ci := 11) (v := .int (bu_door bu)) (C := RX11) (T := TX11) (N := 26) hx hb hts kb_inX11 hown hK.1 hP 2 rfl rfl 2 (by decide) (hK.2.nb ww_6_91 rfl rfl _) (fun _ h9 => h9) rfl dX12_secondsOf_40 ?_
      obtain ⟨r4, hc4, hf⟩ := kb_bind hf
      refine kb_ci (ws2 := (w_MO dA a (some (ba 0)) q1 g2 g3 g4 g5 (wa 0) g7 g8 g9 g10 g11 g12 g13 g14 g15 g16 g17 g18 mo ++ (w_W dA wa y_w ++ (w_Bus dA ba bu)))) (kb_rS (n := 2) (As := [.int (((yW_r y_w) (((0 : Int32) + x0)).toNatClampNeg) >>> ((2 : Int32) &&& 31)), .int (bu_door bu)]) (rest := [.int (1 : Int32), .int (bu_pace bu)]) hx hb hml hown hK (c_X12_far l D dA H.size (((yW_r y_w) (((0 : Int32) + x0)).toNatClampNeg) >>> ((2 : Int32) &&& 31)) (bu_door bu) r4 hc4) ⟨ww_7_135, ww_7_133, ww_7_134, ww_1_12, by decide, by decide⟩ rfl rfl (by decide +kernel) ⟨Nat.le_of_ble_eq_true rfl, Nat.le_of_ble_eq_true rfl⟩ hP hD hS hA hE [] rfl (by decide) rfl hl.1 rfl (Nat.le_of_ble_eq_true rfl) dX12_secondsOf_43 ⟨Nat.le_of_ble_eq_true rfl, Nat.le_of_ble_eq_true rfl⟩) hP hD hS hA [] [0, 1, 2, 3, 4, 5, 6, 7, 8, 9, 10, 11, 12, 13, 14, 15, 16, 17] [0, 1, 2, 3, 4, 5, 6, 7, 8, 9, 10, 11, 12, 13, 14, 15, 16, 17] rfl rfl (by decide) (by decide) rfl (by decide) (fun H locs hP hD hS => ?_)
      refine lv_iadd hx hb dX12_secondsOf_46 ?_
      refine lv_imul hx hb dX12_secondsOf_47 ?_
      refine lv_istore (lv' := [(4, .int ((bu_pace bu) * ((1 : Int32) + r4))), (3, .int ((yW_r y_w) (((0 : Int32) + x0)).toNatClampNeg)), (0, .ref (a 0)), (1, .int x0), (2, .int x1)]) hx hb dX12_secondsOf_48 hl (by decide) rfl (fun ls hl => ?_)
      refine lv_aload_n hx hb dX12_secondsOf_50 rfl (lv_at hl 2 rfl) ?_
      refine lv_iload_n hx hb dX12_secondsOf_51 rfl (lv_at hl 1 rfl) ?_
      obtain ⟨r5, hc5, hf⟩ := kb_bind hf
      refine kb_ci (ws2 := (w_MO dA a (some (ba 0)) q1 g2 g3 g4 g5 (wa 0) g7 g8 g9 g10 g11 g12 g13 g14 g15 g16 g17 g18 mo ++ (w_W dA wa y_w ++ (w_Bus dA ba bu)))) (kb_rV (n := 1) (As := [.int ((yW_r y_w) (((0 : Int32) + x0)).toNatClampNeg)]) (rest := []) hx hb hml hown hK (c_X12_beside l D dA H.size a ba q1 g2 g3 g4 g5 (wa 0) g7 g8 g9 g10 g11 g12 g13 g14 g15 g16 g17 g18 mo bu ((yW_r y_w) (((0 : Int32) + x0)).toNatClampNeg) r5 hc5) ⟨ww_7_139, ww_7_136, ww_7_138, ws_77, ww_1_12, rfl, by decide, by decide⟩ rfl rfl (by decide +kernel) ⟨Nat.le_of_ble_eq_true rfl, Nat.le_of_ble_eq_true rfl⟩ hP hD hS hA hE [0, 2, 3, 4, 5, 6, 7, 8, 9, 10, 11, 12, 13, 14, 15, 16, 17] rfl (by decide) 0 rfl rfl rfl hl.1 rfl (Nat.le_of_ble_eq_true rfl) dX12_secondsOf_52 ⟨Nat.le_of_ble_eq_true rfl, Nat.le_of_ble_eq_true rfl⟩) hP hD hS hA [0, 2, 3, 4, 5, 6, 7, 8, 9, 10, 11, 12, 13, 14, 15, 16, 17] [1] [1, 0, 2, 3, 4, 5, 6, 7, 8, 9, 10, 11, 12, 13, 14, 15, 16, 17] rfl rfl (by decide) (by decide) rfl (by decide) (fun H locs hP hD hS => ?_)
      refine lv_istore (lv' := [(5, .int r5), (4, .int ((bu_pace bu) * ((1 : Int32) + r4))), (3, .int ((yW_r y_w) (((0 : Int32) + x0)).toNatClampNeg)), (0, .ref (a 0)), (1, .int x0), (2, .int x1)]) hx hb dX12_secondsOf_55 hl (by decide) rfl (fun ls hl => ?_)
      refine lv_aload_n hx hb dX12_secondsOf_57 rfl (lv_at hl 3 rfl) ?_
      refine va_get (D := D) (ci := 12) (v := .ref (ba 0)) (C := RX12) (T := TX12) (N := 35) hx hb hts kb_inX12 hown hK.1 hP 0 rfl rfl 3 (by decide) (hK.2.w ww_5_203 rfl _) (fun _ h9 => h9) rfl dX12_secondsOf_58 ?_
      refine va_getN (D := D) (ci := 11) (v := .int (bu_form bu)) (C := RX11) (T := TX11) (N := 26) hx hb hts kb_inX11 hown hK.1 hP 2 rfl rfl 1 (by decide) (hK.2.nb ww_6_90 rfl rfl _) (fun _ h9 => h9) rfl dX12_secondsOf_61 ?_
      refine lv_iload_n hx hb dX12_secondsOf_64 rfl (lv_at hl 2 rfl) ?_
      refine lv_iconst (v := (3 : Int32)) hx hb dX12_secondsOf_65 (by decide) ?_
      refine lv_iand hx hb dX12_secondsOf_66 ?_
      obtain ⟨r6, hc6, hf⟩ := kb_bind hf
      refine kb_ci (ws2 := (w_MO dA a (some (ba 0)) q1 g2 g3 g4 g5 (wa 0) g7 g8 g9 g10 g11 g12 g13 g14 g15 g16 g17 g18 mo ++ (w_W dA wa y_w ++ (w_Bus dA ba bu)))) (kb_rS (n := 2) (As := [.int (bu_form bu), .int (((yW_r y_w) (((0 : Int32) + x0)).toNatClampNeg) &&& (3 : Int32))]) (rest := []) hx hb hml hown hK (c_X12_isAisleOf l D dA H.size (bu_form bu) (((yW_r y_w) (((0 : Int32) + x0)).toNatClampNeg) &&& (3 : Int32)) r6 hc6) ⟨ww_7_148, ww_7_146, ww_7_147, ww_1_12, by decide, by decide⟩ rfl rfl (by decide +kernel) ⟨Nat.le_of_ble_eq_true rfl, Nat.le_of_ble_eq_true rfl⟩ hP hD hS hA hE [] rfl (by decide) rfl hl.1 rfl (Nat.le_of_ble_eq_true rfl) dX12_secondsOf_67 ⟨Nat.le_of_ble_eq_true rfl, Nat.le_of_ble_eq_true rfl⟩) hP hD hS hA [] [0, 1, 2, 3, 4, 5, 6, 7, 8, 9, 10, 11, 12, 13, 14, 15, 16, 17] [0, 1, 2, 3, 4, 5, 6, 7, 8, 9, 10, 11, 12, 13, 14, 15, 16, 17] rfl rfl (by decide) (by decide) rfl (by decide) (fun H locs hP hD hS => ?_)
      refine lv_if_ne (tgt := 79) hx hb dX12_secondsOf_70 (by decide) (fun c_7 => ?_) (fun c_7 => ?_)
      · rw [if_neg c_7] at hf
        refine lv_iload hx hb dX12_secondsOf_79 (lv_at hl 1 rfl) ?_
        exact RET _ H _ ls 81 hf hP hD hS dX12_secondsOf_81
      · rw [if_pos c_7] at hf
        refine lv_iload hx hb dX12_secondsOf_73 (lv_at hl 0 rfl) ?_
        refine lv_iconst (v := (-1 : Int32)) hx hb dX12_secondsOf_75 (by decide) ?_
        refine lv_icmp_ne (tgt := 82) hx hb dX12_secondsOf_76 (by decide) (fun c_8 => ?_) (fun c_8 => ?_)
        · rw [if_neg c_8] at hf
          refine lv_aload_n hx hb dX12_secondsOf_82 rfl (lv_at hl 3 rfl) ?_
          refine lv_iload hx hb dX12_secondsOf_83 (lv_at hl 0 rfl) ?_
          obtain ⟨r9, hc9, hf⟩ := kb_bind hf
          refine kb_ci (ws2 := (w_MO dA a (some (ba 0)) q1 g2 g3 g4 g5 (wa 0) g7 g8 g9 g10 g11 g12 g13 g14 g15 g16 g17 g18 mo ++ (w_W dA wa y_w ++ (w_Bus dA ba bu)))) (kb_rV (n := 1) (As := [.int r5]) (rest := []) hx hb hml hown hK (c_X12_sitter l D dA H.size a wa ba q1 g2 g3 g4 g5 g7 g8 g9 g10 g11 g12 g13 g14 g15 g16 g17 g18 mo y_w bu r5 r9 hc9) ⟨ww_7_155, ww_7_152, ww_7_154, ws_78, ww_1_12, rfl, by decide, by decide⟩ rfl rfl (by decide +kernel) ⟨Nat.le_of_ble_eq_true rfl, Nat.le_of_ble_eq_true rfl⟩ hP hD hS hA hE [0, 1, 2, 3, 4, 5, 6, 7, 8, 9, 10, 11, 12, 13, 14, 15, 16, 17] rfl (by decide) 0 rfl rfl rfl hl.1 rfl (Nat.le_of_ble_eq_true rfl) dX12_secondsOf_85 ⟨Nat.le_of_ble_eq_true rfl, Nat.le_of_ble_eq_true rfl⟩) hP hD hS hA [0, 1, 2, 3, 4, 5, 6, 7, 8, 9, 10, 11, 12, 13, 14, 15, 16, 17] [] [0, 1, 2, 3, 4, 5, 6, 7, 8, 9, 10, 11, 12, 13, 14, 15, 16, 17] rfl rfl (by decide) (by decide) rfl (by decide) (fun H locs hP hD hS => ?_)
          refine lv_istore (lv' := [(6, .int r9), (5, .int r5), (4, .int ((bu_pace bu) * ((1 : Int32) + r4))), (3, .int ((yW_r y_w) (((0 : Int32) + x0)).toNatClampNeg)), (0, .ref (a 0)), (1, .int x0), (2, .int x1)]) hx hb dX12_secondsOf_88 hl (by decide) rfl (fun ls hl => ?_)
          refine lv_iload hx hb dX12_secondsOf_90 (lv_at hl 0 rfl) ?_
          refine lv_bipush (v := (-2 : Int32)) hx hb dX12_secondsOf_92 (by decide) ?_
          refine lv_icmp_eq (tgt := 124) hx hb dX12_secondsOf_94 (by decide) (fun c_10 => ?_) (fun c_10 => ?_)
          · rw [if_pos c_10] at hf
            exact B_124 _ _ _ _ hf hP hD hS (lv_sub hl [2] rfl)
          · rw [if_neg c_10] at hf
            refine lv_aload_n hx hb dX12_secondsOf_97 rfl (lv_at hl 4 rfl) ?_
            refine va_get (D := D) (ci := 12) (v := .ref (ba 0)) (C := RX12) (T := TX12) (N := 35) hx hb hts kb_inX12 hown hK.1 hP 0 rfl rfl 3 (by decide) (hK.2.w ww_5_203 rfl _) (fun _ h9 => h9) rfl dX12_secondsOf_98 ?_
            refine va_getN (D := D) (ci := 11) (v := .ref (ba 4)) (C := RX11) (T := TX11) (N := 26) hx hb hts kb_inX11 hown hK.1 hP 2 rfl rfl 14 (by decide) (hK.2.nb ww_6_109 rfl rfl _) (fun _ h9 => h9) rfl dX12_secondsOf_101 ?_
            refine lv_iload hx hb dX12_secondsOf_104 (lv_at hl 0 rfl) ?_
            obtain ⟨h_11, hf⟩ := kb_if hf
            refine va_iald (D := D) hx hb hK.1 hP 6 0 rfl rfl h_11 dX12_secondsOf_106 ?_
            refine lv_iload_n hx hb dX12_secondsOf_107 rfl (lv_at hl 6 rfl) ?_
            refine lv_icmp_eq (tgt := 124) hx hb dX12_secondsOf_108 (by decide) (fun c_12 => ?_) (fun c_12 => ?_)
            · rw [if_pos c_12] at hf
              exact B_124 _ _ _ _ hf hP hD hS (lv_sub hl [2] rfl)
            · rw [if_neg c_12] at hf
              refine lv_iload hx hb dX12_secondsOf_111 (lv_at hl 2 rfl) ?_
              refine lv_aload_n hx hb dX12_secondsOf_113 rfl (lv_at hl 4 rfl) ?_
              refine va_get (D := D) (ci := 12) (v := .ref (ba 0)) (C := RX12) (T := TX12) (N := 35) hx hb hts kb_inX12 hown hK.1 hP 0 rfl rfl 3 (by decide) (hK.2.w ww_5_203 rfl _) (fun _ h9 => h9) rfl dX12_secondsOf_114 ?_
              refine va_getN (D := D) (ci := 11) (v := .int (bu_rise bu)) (C := RX11) (T := TX11) (N := 26) hx hb hts kb_inX11 hown hK.1 hP 2 rfl rfl 4 (by decide) (hK.2.nb ww_6_93 rfl rfl _) (fun _ h9 => h9) rfl dX12_secondsOf_117 ?_
              refine lv_iadd hx hb dX12_secondsOf_120 ?_
              refine lv_goto (tgt := 126) hx hb dX12_secondsOf_121 (by decide) ?_
              exact RET _ H _ ls 126 hf hP hD hS dX12_secondsOf_126
        · rw [if_pos c_8] at hf
          refine lv_iload hx hb dX12_secondsOf_79 (lv_at hl 1 rfl) ?_
          exact RET _ H _ ls 81 hf hP hD hS dX12_secondsOf_81
    · rw [if_pos c_2] at hf
      refine lv_aload_n hx hb dX12_secondsOf_8 rfl (lv_at hl 0 rfl) ?_
      refine va_get (D := D) (ci := 12) (v := .ref (ba 0)) (C := RX12) (T := TX12) (N := 35) hx hb hts kb_inX12 hown hK.1 hP 0 rfl rfl 3 (by decide) (hK.2.w ww_5_203 rfl _) (fun _ h9 => h9) rfl dX12_secondsOf_9 ?_
      refine va_getN (D := D) (ci := 11) (v := .int (bu_pace bu)) (C := RX11) (T := TX11) (N := 26) hx hb hts kb_inX11 hown hK.1 hP 2 rfl rfl 3 (by decide) (hK.2.nb ww_6_92 rfl rfl _) (fun _ h9 => h9) rfl dX12_secondsOf_12 ?_
      exact RET _ H _ ls 15 hf hP hD hS dX12_secondsOf_15
  exact E0 _ _ hP hD hS

noncomputable def f_X12_getOff_b155 (mo : MOT) (bu : BusT) (z1 : WT) : Option (WT) := some (z1)
noncomputable def f_X12_getOff_b136 (mo : MOT) (bu : BusT) (k101 : Int32 → Int32 → Int32 → Int32 → WT → Option (WT)) (v1 : Int32) (v3 : Int32) (v4 : Int32) (s0 : Int32) (z1 : WT) : Option (WT) := k101 v1 (s0 + (0 : Int32)) v3 (v4 + (1 : Int32)) z1
noncomputable def f_X12_getOff_b101 (mo : MOT) (bu : BusT) : Nat → Int32 → Int32 → Int32 → Int32 → WT → Option (WT)
  | 0, _, _, _, _, _ => none
  | n + 1, v1, v2, v3, v4, z1 => (if (bu_riders bu) ≤ v4 then if kb_in? ((40 : Int32) + v1) 56 then f_X12_getOff_b155 mo bu (yW_set_r z1 (upd (yW_r z1) (((40 : Int32) + v1)).toNatClampNeg v2)) else none else (if v3 ≤ 0 then f_X12_getOff_b136 mo bu (f_X12_getOff_b101 mo bu n) v1 v3 v4 v2 z1 else if kb_in? ((0 : Int32) + v4) 56 then (if ((yW_r z1) (((0 : Int32) + v4)).toNatClampNeg) = (101 : Int32) then f_X12_getOff_b101 mo bu n v1 (v2 + (1 : Int32)) v3 (v4 + (1 : Int32)) z1 else f_X12_getOff_b136 mo bu (f_X12_getOff_b101 mo bu n) v1 v3 v4 v2 z1) else none))
noncomputable def f_X12_getOff_b92 (mo : MOT) (bu : BusT) (k58 : Int32 → Int32 → Int32 → Int32 → WT → Option (WT)) (v1 : Int32) (v2 : Int32) (v3 : Int32) (v4 : Int32) (z1 : WT) : Option (WT) := k58 v1 v2 v3 (v4 + (1 : Int32)) z1
noncomputable def f_X12_getOff_b58 (mo : MOT) (bu : BusT) : Nat → Int32 → Int32 → Int32 → Int32 → WT → Option (WT)
  | 0, _, _, _, _, _ => none
  | n + 1, v1, v2, v3, v4, z1 => (if (bu_riders bu) ≤ v4 then f_X12_getOff_b101 mo bu 4096 v1 v2 v3 (0 : Int32) z1 else if kb_in? v4 8 then (if ((bu_off bu) (v4).toNatClampNeg) = v1 then (f_X12_getsUp mo z1 v4 (102 : Int32)).bind fun r10 => f_X12_getOff_b92 mo bu (f_X12_getOff_b58 mo bu n) v1 v2 v3 v4 r10 else f_X12_getOff_b58 mo bu n v1 v2 v3 (v4 + (1 : Int32)) z1) else none)
noncomputable def f_X12_getOff_b7 (mo : MOT) (bu : BusT) : Nat → Int32 → Int32 → Int32 → Int32 → WT → Option (WT)
  | 0, _, _, _, _, _ => none
  | n + 1, v1, v2, v3, v4, z1 => (if (bu_riders bu) ≤ v4 then f_X12_getOff_b58 mo bu 4096 v1 v2 v3 (0 : Int32) z1 else if kb_in? v4 8 then (if ((bu_off bu) (v4).toNatClampNeg) = v1 then (f_X12_secondsOf mo z1 bu v4 v1).bind fun r13 => f_X12_getOff_b7 mo bu n v1 (v2 + r13) (v3 + (1 : Int32)) (v4 + (1 : Int32)) z1 else f_X12_getOff_b7 mo bu n v1 v2 v3 (v4 + (1 : Int32)) z1) else none)
noncomputable def f_X12_getOff (mo : MOT) (y_w : WT) (bu : BusT) (x0 : Int32) : Option (WT) := f_X12_getOff_b7 mo bu 4096 x0 (0 : Int32) (0 : Int32) (0 : Int32) y_w
set_option maxHeartbeats 4000000 in
set_option maxRecDepth 100000 in
theorem c_X12_getOff (l : Launch) (D : va_G) (dA : Nat → ClassId) (sz : Nat) (a : Nat → Nat) (wa : Nat → Nat) (ba : Nat → Nat) (q1 : Option Nat) (g2 : Nat) (g3 : Nat) (g4 : Nat) (g5 : Nat) (g7 : Nat) (g8 : Nat) (g9 : Nat) (g10 : Nat) (g11 : Nat) (g12 : Nat) (g13 : Nat) (g14 : Nat) (g15 : Nat) (g16 : Nat) (g17 : Nat) (g18 : Nat) (mo : MOT) (y_w : WT) (bu : BusT) (x0 : Int32) (u1 : WT) (hf : f_X12_getOff mo y_w bu x0 = some (u1)) : kb_Mv l yX12_getOff cX12_getOff 5 none ({ frames := 4, cells := 0, slots := 0, locals := 90 } : Room) D dA [.ref (a 0), .int x0] sz (w_MO dA a (some (ba 0)) q1 g2 g3 g4 g5 (wa 0) g7 g8 g9 g10 g11 g12 g13 g14 g15 g16 g17 g18 mo ++ (w_W dA wa y_w ++ (w_Bus dA ba bu))) 0 0 (w_MO dA a (some (ba 0)) q1 g2 g3 g4 g5 (wa 0) g7 g8 g9 g10 g11 g12 g13 g14 g15 g16 g17 g18 mo ++ (w_W dA wa u1 ++ (w_Bus dA ba bu))) := by
  refine Met.ofW (cc := cX12_getOff) (maxL := 5) (ret := none) (by decide) rfl ?_
  intro p e s m args below meth c s₁ B hml hv
  obtain ⟨rfl, hsz, hP, hK, hD0, hE⟩ := hv
  have hx := B.exec
  have hb := B.bytes
  have hr := B.returns
  have hown : s.vm.findClass RX12 = some m.cls := findClass_of_methodNamed B.named
  have hlocks := B.notSynchronized
  have hts : ∀ w ∈ kb_gw, w.before ([.ref (a 0), .int x0] : List Value).toArray s = true := fun w hw => hK.2.1 w hw _
  subst hsz
  have hD := hD0.self (sz := s.heap.size)
  generalize hAe : va_A (w_MO dA a (some (ba 0)) q1 g2 g3 g4 g5 (wa 0) g7 g8 g9 g10 g11 g12 g13 g14 g15 g16 g17 g18 mo ++ (w_W dA wa y_w ++ (w_Bus dA ba bu))) s.heap.size = A at hD hE ⊢
  have hA : ∀ q : Nat, s.heap.size ≤ q → A q := fun q h => by rw [← hAe]; exact Or.inr h
  have hS : va_S A s.heap s.heap [] := va_S.rf
  have hl := lv_entry ([.ref (a 0), .int x0]) (n := 5) (Nat.le_of_ble_eq_true rfl)
  rw [lg_entry_eq]
  generalize (lg_sl ([.ref (a 0), .int x0]) ++ List.replicate (5 - (lg_sl ([.ref (a 0), .int x0])).length) Slot.unset).toArray = ls at hl ⊢
  have hl : lv_has ls 5 [(0, .ref (a 0)), (1, .int x0)] := hl
  generalize hQ : MQ below (va_Qv (fun (_ : Unit) => True) (kb_B D A (w_MO dA a (some (ba 0)) q1 g2 g3 g4 g5 (wa 0) g7 g8 g9 g10 g11 g12 g13 g14 g15 g16 g17 g18 mo ++ (w_W dA wa u1 ++ (w_Bus dA ba bu)))) A) ([.ref (a 0), .int x0] : List Value).toArray s 0 0 A = Q
  show W p l e ({ frames := 4, cells := 0, slots := 0, locals := 90 } : Room) s m ([.ref (a 0), .int x0] : List Value).toArray below meth c s.heap [] 0 0 Q (F0 m 0 ls [])
  have RET : ∀ (w1 : WT) (H : Heap) (locs : List Loc) (ls : Array Slot) (pc : Nat), some (w1) = some (u1) → va_P D vwCl (w_MO dA a (some (ba 0)) q1 g2 g3 g4 g5 (wa 0) g7 g8 g9 g10 g11 g12 g13 g14 g15 g16 g17 g18 mo ++ (w_W dA wa w1 ++ (w_Bus dA ba bu))) H → va_D A (w_MO dA a (some (ba 0)) q1 g2 g3 g4 g5 (wa 0) g7 g8 g9 g10 g11 g12 g13 g14 g15 g16 g17 g18 mo ++ (w_W dA wa w1 ++ (w_Bus dA ba bu))) → va_S A s.heap H locs → decode cX12_getOff pc = .ok (.return_, 1) → W p l e ({ frames := 4, cells := 0, slots := 0, locals := 90 } : Room) s m ([.ref (a 0), .int x0] : List Value).toArray below meth c H locs 0 0 Q (F0 m pc ls []) := by
    intro w1 H locs ls pc hq hP hD hS hd
    cases hq
    rw [← hQ]
    exact W.vret hx hb hr (fun t ht hW => ⟨⟨(), rfl, trivial, by rw [ht]; exact hP, hD⟩, hS.F ht⟩) hS.2.2 hd
  have B_155 : ∀ (z1 : WT) (H : Heap) (locs : List Loc) (ls : Array Slot), f_X12_getOff_b155 mo bu z1 = some (u1) → va_P D vwCl (w_MO dA a (some (ba 0)) q1 g2 g3 g4 g5 (wa 0) g7 g8 g9 g10 g11 g12 g13 g14 g15 g16 g17 g18 mo ++ (w_W dA wa z1 ++ (w_Bus dA ba bu))) H → va_D A (w_MO dA a (some (ba 0)) q1 g2 g3 g4 g5 (wa 0) g7 g8 g9 g10 g11 g12 g13 g14 g15 g16 g17 g18 mo ++ (w_W dA wa z1 ++ (w_Bus dA ba bu))) → va_S A s.heap H locs → lv_has ls 5 [] → W p l e ({ frames := 4, cells := 0, slots := 0, locals := 90 } : Room) s m ([.ref (a 0), .int x0] : List Value).toArray below meth c H locs 0 0 Q (F0 m 155 ls []) := by
    intro z1 H locs ls hf hP hD hS hl
    rw [f_X12_getOff_b155] at hf
    exact RET _ H _ ls 155 hf hP hD hS dX12_getOff_155
  have B_136 : ∀ (k101 : Int32 → Int32 → Int32 → Int32 → WT → Option (WT)) (hk101 : ∀ (v1 : Int32) (v2 : Int32) (v3 : Int32) (v4 : Int32) (z1 : WT) (H : Heap) (locs : List Loc) (ls : Array Slot), k101 v1 v2 v3 v4 z1 = some (u1) → va_P D vwCl (w_MO dA a (some (ba 0)) q1 g2 g3 g4 g5 (wa 0) g7 g8 g9 g10 g11 g12 g13 g14 g15 g16 g17 g18 mo ++ (w_W dA wa z1 ++ (w_Bus dA ba bu))) H → va_D A (w_MO dA a (some (ba 0)) q1 g2 g3 g4 g5 (wa 0) g7 g8 g9 g10 g11 g12 g13 g14 g15 g16 g17 g18 mo ++ (w_W dA wa z1 ++ (w_Bus dA ba bu))) → va_S A s.heap H locs → lv_has ls 5 [(0, .ref (a 0)), (1, .int v1), (2, .int v2), (3, .int v3), (4, .int v4)] → W p l e ({ frames := 4, cells := 0, slots := 0, locals := 90 } : Room) s m ([.ref (a 0), .int x0] : List Value).toArray below meth c H locs 0 0 Q (F0 m 101 ls [])) (v1 : Int32) (v3 : Int32) (v4 : Int32) (s0 : Int32) (z1 : WT) (H : Heap) (locs : List Loc) (ls : Array Slot), f_X12_getOff_b136 mo bu k101 v1 v3 v4 s0 z1 = some (u1) → va_P D vwCl (w_MO dA a (some (ba 0)) q1 g2 g3 g4 g5 (wa 0) g7 g8 g9 g10 g11 g12 g13 g14 g15 g16 g17 g18 mo ++ (w_W dA wa z1 ++ (w_Bus dA ba bu))) H → va_D A (w_MO dA a (some (ba 0)) q1 g2 g3 g4 g5 (wa 0) g7 g8 g9 g10 g11 g12 g13 g14 g15 g16 g17 g18 mo ++ (w_W dA wa z1 ++ (w_Bus dA ba bu))) → va_S A s.heap H locs → lv_has ls 5 [(0, .ref (a 0)), (1, .int v1), (3, .int v3), (4, .int v4)] → W p l e ({ frames := 4, cells := 0, slots := 0, locals := 90 } : Room) s m ([.ref (a 0), .int x0] : List Value).toArray below meth c H locs 0 0 Q (F0 m 136 ls [.int s0]) := by
    intro k101 hk101 v1 v3 v4 s0 z1 H locs ls hf hP hD hS hl
    rw [f_X12_getOff_b136] at hf
    refine lv_iconst (v := (0 : Int32)) hx hb dX12_getOff_136 (by decide) ?_
    refine lv_iadd hx hb dX12_getOff_137 ?_
    refine lv_istore_n (lv' := [(2, .int (s0 + (0 : Int32))), (0, .ref (a 0)), (1, .int v1), (3, .int v3), (4, .int v4)]) hx hb dX12_getOff_138 rfl hl (by decide) rfl (fun ls hl => ?_)
    refine lv_iinc (v := (v4 + (1 : Int32))) (lv' := [(4, .int (v4 + (1 : Int32))), (2, .int (s0 + (0 : Int32))), (0, .ref (a 0)), (1, .int v1), (3, .int v3)]) hx hb dX12_getOff_139 hl (k := 4) rfl (by rfl) (by decide) rfl (fun ls hl => ?_)
    refine lv_goto (tgt := 101) hx hb dX12_getOff_142 (by decide) ?_
    exact hk101 _ _ _ _ _ _ _ _ hf hP hD hS (lv_sub hl [2, 3, 1, 4, 0] rfl)
  have B_101 : ∀ (n : Nat) (v1 : Int32) (v2 : Int32) (v3 : Int32) (v4 : Int32) (z1 : WT) (H : Heap) (locs : List Loc) (ls : Array Slot), f_X12_getOff_b101 mo bu n v1 v2 v3 v4 z1 = some (u1) → va_P D vwCl (w_MO dA a (some (ba 0)) q1 g2 g3 g4 g5 (wa 0) g7 g8 g9 g10 g11 g12 g13 g14 g15 g16 g17 g18 mo ++ (w_W dA wa z1 ++ (w_Bus dA ba bu))) H → va_D A (w_MO dA a (some (ba 0)) q1 g2 g3 g4 g5 (wa 0) g7 g8 g9 g10 g11 g12 g13 g14 g15 g16 g17 g18 mo ++ (w_W dA wa z1 ++ (w_Bus dA ba bu))) → va_S A s.heap H locs → lv_has ls 5 [(0, .ref (a 0)), (1, .int v1), (2, .int v2), (3, .int v3), (4, .int v4)] → W p l e ({ frames := 4, cells := 0, slots := 0, locals := 90 } : Room) s m ([.ref (a 0), .int x0] : List Value).toArray below meth c H locs 0 0 Q (F0 m 101 ls []) := by
    intro n
    induction n with
    | zero =>
      intro v1 v2 v3 v4 z1 H locs ls hf
      exact absurd hf (by simp [f_X12_getOff_b101])
    | succ n ih =>
      intro v1 v2 v3 v4 z1 H locs ls hf hP hD hS hl
      rw [f_X12_getOff_b101] at hf
      refine lv_iload hx hb dX12_getOff_101 (lv_at hl 4 rfl) ?_
      refine lv_aload_n hx hb dX12_getOff_103 rfl (lv_at hl 0 rfl) ?_
      refine va_get (D := D) (ci := 12) (v := .ref (ba 0)) (C := RX12) (T := TX12) (N := 35) hx hb hts kb_inX12 hown hK.1 hP 0 rfl rfl 3 (by decide) (hK.2.w ww_5_203 rfl _) (fun _ h9 => h9) rfl dX12_getOff_104 ?_
      refine va_getN (D := D) (ci := 11) (v := .int (bu_riders bu)) (C := RX11) (T := TX11) (N := 26) hx hb hts kb_inX11 hown hK.1 hP 2 rfl rfl 7 (by decide) (hK.2.nb ww_6_96 rfl rfl _) (fun _ h9 => h9) rfl dX12_getOff_107 ?_
      refine lv_icmp_ge (tgt := 145) hx hb dX12_getOff_110 (by decide) (fun c_3 => ?_) (fun c_3 => ?_)
      · rw [if_pos c_3] at hf
        refine lv_aload_n hx hb dX12_getOff_145 rfl (lv_at hl 0 rfl) ?_
        refine va_get (D := D) (ci := 12) (v := .ref (wa 0)) (C := RX12) (T := TX12) (N := 35) hx hb hts kb_inX12 hown hK.1 hP 0 rfl rfl 19 (by decide) (hK.2.w ww_5_219 rfl _) (fun _ h9 => h9) rfl dX12_getOff_146 ?_
        refine lv_bipush (v := (40 : Int32)) hx hb dX12_getOff_149 (by decide) ?_
        refine lv_iload_n hx hb dX12_getOff_151 rfl (lv_at hl 1 rfl) ?_
        refine lv_iadd hx hb dX12_getOff_152 ?_
        refine lv_iload_n hx hb dX12_getOff_153 rfl (lv_at hl 2 rfl) ?_
        obtain ⟨h_4, hf⟩ := kb_if hf
        refine va_iast (D := D) hx hb hK.1 hP hD hS 1 0 rfl rfl h_4 dX12_getOff_154 (fun H locs hP hD hS => ?_)
        have hP : va_P D vwCl (w_MO dA a (some (ba 0)) q1 g2 g3 g4 g5 (wa 0) g7 g8 g9 g10 g11 g12 g13 g14 g15 g16 g17 g18 mo ++ (w_W dA wa (yW_set_r z1 (upd (yW_r z1) (((40 : Int32) + v1)).toNatClampNeg v2)) ++ (w_Bus dA ba bu))) H := hP
        have hD : va_D A (w_MO dA a (some (ba 0)) q1 g2 g3 g4 g5 (wa 0) g7 g8 g9 g10 g11 g12 g13 g14 g15 g16 g17 g18 mo ++ (w_W dA wa (yW_set_r z1 (upd (yW_r z1) (((40 : Int32) + v1)).toNatClampNeg v2)) ++ (w_Bus dA ba bu))) := hD
        exact B_155 _ _ _ _ hf hP hD hS (lv_sub hl [] rfl)
      · rw [if_neg c_3] at hf
        refine lv_iload_n hx hb dX12_getOff_113 rfl (lv_at hl 2 rfl) ?_
        refine lv_iload_n hx hb dX12_getOff_114 rfl (lv_at hl 3 rfl) ?_
        refine lv_if_le (tgt := 136) hx hb dX12_getOff_115 (by decide) (fun c_5 => ?_) (fun c_5 => ?_)
        · rw [if_pos c_5] at hf
          exact B_136 (f_X12_getOff_b101 mo bu n) ih _ _ _ _ _ _ _ _ hf hP hD hS (lv_sub hl [0, 1, 3, 4] rfl)
        · rw [if_neg c_5] at hf
          refine lv_aload_n hx hb dX12_getOff_118 rfl (lv_at hl 0 rfl) ?_
          refine va_get (D := D) (ci := 12) (v := .ref (wa 0)) (C := RX12) (T := TX12) (N := 35) hx hb hts kb_inX12 hown hK.1 hP 0 rfl rfl 19 (by decide) (hK.2.w ww_5_219 rfl _) (fun _ h9 => h9) rfl dX12_getOff_119 ?_
          refine lv_iconst (v := (0 : Int32)) hx hb dX12_getOff_122 (by decide) ?_
          refine lv_iload hx hb dX12_getOff_123 (lv_at hl 4 rfl) ?_
          refine lv_iadd hx hb dX12_getOff_125 ?_
          obtain ⟨h_6, hf⟩ := kb_if hf
          refine va_iald (D := D) hx hb hK.1 hP 1 0 rfl rfl h_6 dX12_getOff_126 ?_
          refine lv_bipush (v := (101 : Int32)) hx hb dX12_getOff_127 (by decide) ?_
          refine lv_icmp_ne (tgt := 136) hx hb dX12_getOff_129 (by decide) (fun c_7 => ?_) (fun c_7 => ?_)
          · rw [if_neg c_7] at hf
            exact B_136 (f_X12_getOff_b101 mo bu n) ih _ _ _ _ _ _ _ _ hf hP hD hS (lv_sub hl [0, 1, 3, 4] rfl)
          · rw [if_pos c_7] at hf
            refine lv_iconst (v := (1 : Int32)) hx hb dX12_getOff_132 (by decide) ?_
            refine lv_goto (tgt := 137) hx hb dX12_getOff_133 (by decide) ?_
            refine lv_iadd hx hb dX12_getOff_137 ?_
            refine lv_istore_n (lv' := [(2, .int (v2 + (1 : Int32))), (0, .ref (a 0)), (1, .int v1), (3, .int v3), (4, .int v4)]) hx hb dX12_getOff_138 rfl hl (by decide) rfl (fun ls hl => ?_)
            refine lv_iinc (v := (v4 + (1 : Int32))) (lv' := [(4, .int (v4 + (1 : Int32))), (2, .int (v2 + (1 : Int32))), (0, .ref (a 0)), (1, .int v1), (3, .int v3)]) hx hb dX12_getOff_139 hl (k := 4) rfl (by rfl) (by decide) rfl (fun ls hl => ?_)
            refine lv_goto (tgt := 101) hx hb dX12_getOff_142 (by decide) ?_
            exact ih _ _ _ _ _ _ _ _ hf hP hD hS (lv_sub hl [2, 3, 1, 4, 0] rfl)
  have B_92 : ∀ (k58 : Int32 → Int32 → Int32 → Int32 → WT → Option (WT)) (hk58 : ∀ (v1 : Int32) (v2 : Int32) (v3 : Int32) (v4 : Int32) (z1 : WT) (H : Heap) (locs : List Loc) (ls : Array Slot), k58 v1 v2 v3 v4 z1 = some (u1) → va_P D vwCl (w_MO dA a (some (ba 0)) q1 g2 g3 g4 g5 (wa 0) g7 g8 g9 g10 g11 g12 g13 g14 g15 g16 g17 g18 mo ++ (w_W dA wa z1 ++ (w_Bus dA ba bu))) H → va_D A (w_MO dA a (some (ba 0)) q1 g2 g3 g4 g5 (wa 0) g7 g8 g9 g10 g11 g12 g13 g14 g15 g16 g17 g18 mo ++ (w_W dA wa z1 ++ (w_Bus dA ba bu))) → va_S A s.heap H locs → lv_has ls 5 [(0, .ref (a 0)), (1, .int v1), (2, .int v2), (3, .int v3), (4, .int v4)] → W p l e ({ frames := 4, cells := 0, slots := 0, locals := 90 } : Room) s m ([.ref (a 0), .int x0] : List Value).toArray below meth c H locs 0 0 Q (F0 m 58 ls [])) (v1 : Int32) (v2 : Int32) (v3 : Int32) (v4 : Int32) (z1 : WT) (H : Heap) (locs : List Loc) (ls : Array Slot), f_X12_getOff_b92 mo bu k58 v1 v2 v3 v4 z1 = some (u1) → va_P D vwCl (w_MO dA a (some (ba 0)) q1 g2 g3 g4 g5 (wa 0) g7 g8 g9 g10 g11 g12 g13 g14 g15 g16 g17 g18 mo ++ (w_W dA wa z1 ++ (w_Bus dA ba bu))) H → va_D A (w_MO dA a (some (ba 0)) q1 g2 g3 g4 g5 (wa 0) g7 g8 g9 g10 g11 g12 g13 g14 g15 g16 g17 g18 mo ++ (w_W dA wa z1 ++ (w_Bus dA ba bu))) → va_S A s.heap H locs → lv_has ls 5 [(0, .ref (a 0)), (1, .int v1), (2, .int v2), (3, .int v3), (4, .int v4)] → W p l e ({ frames := 4, cells := 0, slots := 0, locals := 90 } : Room) s m ([.ref (a 0), .int x0] : List Value).toArray below meth c H locs 0 0 Q (F0 m 92 ls []) := by
    intro k58 hk58 v1 v2 v3 v4 z1 H locs ls hf hP hD hS hl
    rw [f_X12_getOff_b92] at hf
    refine lv_iinc (v := (v4 + (1 : Int32))) (lv' := [(4, .int (v4 + (1 : Int32))), (0, .ref (a 0)), (1, .int v1), (2, .int v2), (3, .int v3)]) hx hb dX12_getOff_92 hl (k := 4) rfl (by rfl) (by decide) rfl (fun ls hl => ?_)
    refine lv_goto (tgt := 58) hx hb dX12_getOff_95 (by decide) ?_
    exact hk58 _ _ _ _ _ _ _ _ hf hP hD hS (lv_sub hl [1, 2, 3, 4, 0] rfl)
  have B_58 : ∀ (n : Nat) (v1 : Int32) (v2 : Int32) (v3 : Int32) (v4 : Int32) (z1 : WT) (H : Heap) (locs : List Loc) (ls : Array Slot), f_X12_getOff_b58 mo bu n v1 v2 v3 v4 z1 = some (u1) → va_P D vwCl (w_MO dA a (some (ba 0)) q1 g2 g3 g4 g5 (wa 0) g7 g8 g9 g10 g11 g12 g13 g14 g15 g16 g17 g18 mo ++ (w_W dA wa z1 ++ (w_Bus dA ba bu))) H → va_D A (w_MO dA a (some (ba 0)) q1 g2 g3 g4 g5 (wa 0) g7 g8 g9 g10 g11 g12 g13 g14 g15 g16 g17 g18 mo ++ (w_W dA wa z1 ++ (w_Bus dA ba bu))) → va_S A s.heap H locs → lv_has ls 5 [(0, .ref (a 0)), (1, .int v1), (2, .int v2), (3, .int v3), (4, .int v4)] → W p l e ({ frames := 4, cells := 0, slots := 0, locals := 90 } : Room) s m ([.ref (a 0), .int x0] : List Value).toArray below meth c H locs 0 0 Q (F0 m 58 ls []) := by
    intro n
    induction n with
    | zero =>
      intro v1 v2 v3 v4 z1 H locs ls hf
      exact absurd hf (by simp [f_X12_getOff_b58])
    | succ n ih =>
      intro v1 v2 v3 v4 z1 H locs ls hf hP hD hS hl
      rw [f_X12_getOff_b58] at hf
      refine lv_iload hx hb dX12_getOff_58 (lv_at hl 4 rfl) ?_
      refine lv_aload_n hx hb dX12_getOff_60 rfl (lv_at hl 0 rfl) ?_
      refine va_get (D := D) (ci := 12) (v := .ref (ba 0)) (C := RX12) (T := TX12) (N := 35) hx hb hts kb_inX12 hown hK.1 hP 0 rfl rfl 3 (by decide) (hK.2.w ww_5_203 rfl _) (fun _ h9 => h9) rfl dX12_getOff_61 ?_
      refine va_getN (D := D) (ci := 11) (v := .int (bu_riders bu)) (C := RX11) (T := TX11) (N := 26) hx hb hts kb_inX11 hown hK.1 hP 2 rfl rfl 7 (by decide) (hK.2.nb ww_6_96 rfl rfl _) (fun _ h9 => h9) rfl dX12_getOff_64 ?_
      refine lv_icmp_ge (tgt := 98) hx hb dX12_getOff_67 (by decide) (fun c_2 => ?_) (fun c_2 => ?_)
      · rw [if_pos c_2] at hf
        refine lv_iconst (v := (0 : Int32)) hx hb dX12_getOff_98 (by decide) ?_
        refine lv_istore (lv' := [(4, .int (0 : Int32)), (0, .ref (a 0)), (1, .int v1), (2, .int v2), (3, .int v3)]) hx hb dX12_getOff_99 hl (by decide) rfl (fun ls hl => ?_)
        exact B_101 4096 _ _ _ _ _ _ _ _ hf hP hD hS (lv_sub hl [1, 2, 3, 4, 0] rfl)
      · rw [if_neg c_2] at hf
        refine lv_aload_n hx hb dX12_getOff_70 rfl (lv_at hl 0 rfl) ?_
        refine va_get (D := D) (ci := 12) (v := .ref (ba 0)) (C := RX12) (T := TX12) (N := 35) hx hb hts kb_inX12 hown hK.1 hP 0 rfl rfl 3 (by decide) (hK.2.w ww_5_203 rfl _) (fun _ h9 => h9) rfl dX12_getOff_71 ?_
        refine va_getN (D := D) (ci := 11) (v := .ref (ba 4)) (C := RX11) (T := TX11) (N := 26) hx hb hts kb_inX11 hown hK.1 hP 2 rfl rfl 14 (by decide) (hK.2.nb ww_6_109 rfl rfl _) (fun _ h9 => h9) rfl dX12_getOff_74 ?_
        refine lv_iload hx hb dX12_getOff_77 (lv_at hl 4 rfl) ?_
        obtain ⟨h_8, hf⟩ := kb_if hf
        refine va_iald (D := D) hx hb hK.1 hP 6 0 rfl rfl h_8 dX12_getOff_79 ?_
        refine lv_iload_n hx hb dX12_getOff_80 rfl (lv_at hl 1 rfl) ?_
        refine lv_icmp_ne (tgt := 92) hx hb dX12_getOff_81 (by decide) (fun c_9 => ?_) (fun c_9 => ?_)
        · rw [if_neg c_9] at hf
          refine lv_iinc (v := (v4 + (1 : Int32))) (lv' := [(4, .int (v4 + (1 : Int32))), (0, .ref (a 0)), (1, .int v1), (2, .int v2), (3, .int v3)]) hx hb dX12_getOff_92 hl (k := 4) rfl (by rfl) (by decide) rfl (fun ls hl => ?_)
          refine lv_goto (tgt := 58) hx hb dX12_getOff_95 (by decide) ?_
          exact ih _ _ _ _ _ _ _ _ hf hP hD hS (lv_sub hl [1, 2, 3, 4, 0] rfl)
        · rw [if_pos c_9] at hf
          refine lv_aload_n hx hb dX12_getOff_84 rfl (lv_at hl 0 rfl) ?_
          refine lv_iload hx hb dX12_getOff_85 (lv_at hl 4 rfl) ?_
          refine lv_bipush (v := (102 : Int32)) hx hb dX12_getOff_87 (by decide) ?_
          obtain ⟨r10, hc10, hf⟩ := kb_bind hf
          refine kb_cv (ws2 := (w_MO dA a (some (ba 0)) q1 g2 g3 g4 g5 (wa 0) g7 g8 g9 g10 g11 g12 g13 g14 g15 g16 g17 g18 mo ++ (w_W dA wa r10 ++ (w_Bus dA ba bu)))) (kb_rV (n := 2) (As := [.int v4, .int (102 : Int32)]) (rest := []) hx hb hml hown hK (c_X12_getsUp l D dA H.size a wa (some (ba 0)) q1 g2 g3 g4 g5 g7 g8 g9 g10 g11 g12 g13 g14 g15 g16 g17 g18 mo z1 v4 (102 : Int32) r10 hc10) ⟨ww_7_159, ww_7_156, ww_7_158, ws_79, ww_1_12, rfl, by decide, by decide⟩ rfl rfl (by decide +kernel) ⟨Nat.le_of_ble_eq_true rfl, Nat.le_of_ble_eq_true rfl⟩ hP hD hS hA hE [0, 1] rfl (by decide) 0 rfl rfl rfl hl.1 rfl (Nat.le_of_ble_eq_true rfl) dX12_getOff_89 ⟨Nat.le_of_ble_eq_true rfl, Nat.le_of_ble_eq_true rfl⟩) hP hD hS hA [0, 1] [2, 3, 4, 5, 6, 7, 8, 9, 10, 11, 12, 13, 14, 15, 16, 17] [16, 17, 0, 1, 2, 3, 4, 5, 6, 7, 8, 9, 10, 11, 12, 13, 14, 15] rfl rfl (by decide) (by decide) rfl (by decide) (fun H locs hP hD hS => ?_)
          exact B_92 (f_X12_getOff_b58 mo bu n) ih _ _ _ _ _ _ _ _ hf hP hD hS (lv_sub hl [0, 1, 2, 3, 4] rfl)
  have B_7 : ∀ (n : Nat) (v1 : Int32) (v2 : Int32) (v3 : Int32) (v4 : Int32) (z1 : WT) (H : Heap) (locs : List Loc) (ls : Array Slot), f_X12_getOff_b7 mo bu n v1 v2 v3 v4 z1 = some (u1) → va_P D vwCl (w_MO dA a (some (ba 0)) q1 g2 g3 g4 g5 (wa 0) g7 g8 g9 g10 g11 g12 g13 g14 g15 g16 g17 g18 mo ++ (w_W dA wa z1 ++ (w_Bus dA ba bu))) H → va_D A (w_MO dA a (some (ba 0)) q1 g2 g3 g4 g5 (wa 0) g7 g8 g9 g10 g11 g12 g13 g14 g15 g16 g17 g18 mo ++ (w_W dA wa z1 ++ (w_Bus dA ba bu))) → va_S A s.heap H locs → lv_has ls 5 [(0, .ref (a 0)), (1, .int v1), (2, .int v2), (3, .int v3), (4, .int v4)] → W p l e ({ frames := 4, cells := 0, slots := 0, locals := 90 } : Room) s m ([.ref (a 0), .int x0] : List Value).toArray below meth c H locs 0 0 Q (F0 m 7 ls []) := by
    intro n
    induction n with
    | zero =>
      intro v1 v2 v3 v4 z1 H locs ls hf
      exact absurd hf (by simp [f_X12_getOff_b7])
    | succ n ih =>
      intro v1 v2 v3 v4 z1 H locs ls hf hP hD hS hl
      rw [f_X12_getOff_b7] at hf
      refine lv_iload hx hb dX12_getOff_7 (lv_at hl 4 rfl) ?_
      refine lv_aload_n hx hb dX12_getOff_9 rfl (lv_at hl 0 rfl) ?_
      refine va_get (D := D) (ci := 12) (v := .ref (ba 0)) (C := RX12) (T := TX12) (N := 35) hx hb hts kb_inX12 hown hK.1 hP 0 rfl rfl 3 (by decide) (hK.2.w ww_5_203 rfl _) (fun _ h9 => h9) rfl dX12_getOff_10 ?_
      refine va_getN (D := D) (ci := 11) (v := .int (bu_riders bu)) (C := RX11) (T := TX11) (N := 26) hx hb hts kb_inX11 hown hK.1 hP 2 rfl rfl 7 (by decide) (hK.2.nb ww_6_96 rfl rfl _) (fun _ h9 => h9) rfl dX12_getOff_13 ?_
      refine lv_icmp_ge (tgt := 55) hx hb dX12_getOff_16 (by decide) (fun c_1 => ?_) (fun c_1 => ?_)
      · rw [if_pos c_1] at hf
        refine lv_iconst (v := (0 : Int32)) hx hb dX12_getOff_55 (by decide) ?_
        refine lv_istore (lv' := [(4, .int (0 : Int32)), (0, .ref (a 0)), (1, .int v1), (2, .int v2), (3, .int v3)]) hx hb dX12_getOff_56 hl (by decide) rfl (fun ls hl => ?_)
        exact B_58 4096 _ _ _ _ _ _ _ _ hf hP hD hS (lv_sub hl [1, 2, 3, 4, 0] rfl)
      · rw [if_neg c_1] at hf
        refine lv_aload_n hx hb dX12_getOff_19 rfl (lv_at hl 0 rfl) ?_
        refine va_get (D := D) (ci := 12) (v := .ref (ba 0)) (C := RX12) (T := TX12) (N := 35) hx hb hts kb_inX12 hown hK.1 hP 0 rfl rfl 3 (by decide) (hK.2.w ww_5_203 rfl _) (fun _ h9 => h9) rfl dX12_getOff_20 ?_
        refine va_getN (D := D) (ci := 11) (v := .ref (ba 4)) (C := RX11) (T := TX11) (N := 26) hx hb hts kb_inX11 hown hK.1 hP 2 rfl rfl 14 (by decide) (hK.2.nb ww_6_109 rfl rfl _) (fun _ h9 => h9) rfl dX12_getOff_23 ?_
        refine lv_iload hx hb dX12_getOff_26 (lv_at hl 4 rfl) ?_
        obtain ⟨h_11, hf⟩ := kb_if hf
        refine va_iald (D := D) hx hb hK.1 hP 6 0 rfl rfl h_11 dX12_getOff_28 ?_
        refine lv_iload_n hx hb dX12_getOff_29 rfl (lv_at hl 1 rfl) ?_
        refine lv_icmp_eq (tgt := 36) hx hb dX12_getOff_30 (by decide) (fun c_12 => ?_) (fun c_12 => ?_)
        · rw [if_pos c_12] at hf
          refine lv_iinc (v := (v3 + (1 : Int32))) (lv' := [(3, .int (v3 + (1 : Int32))), (0, .ref (a 0)), (1, .int v1), (2, .int v2), (4, .int v4)]) hx hb dX12_getOff_36 hl (k := 3) rfl (by rfl) (by decide) rfl (fun ls hl => ?_)
          refine lv_iload_n hx hb dX12_getOff_39 rfl (lv_at hl 3 rfl) ?_
          refine lv_aload_n hx hb dX12_getOff_40 rfl (lv_at hl 1 rfl) ?_
          refine lv_iload hx hb dX12_getOff_41 (lv_at hl 4 rfl) ?_
          refine lv_iload_n hx hb dX12_getOff_43 rfl (lv_at hl 2 rfl) ?_
          obtain ⟨r13, hc13, hf⟩ := kb_bind hf
          refine kb_ci (ws2 := (w_MO dA a (some (ba 0)) q1 g2 g3 g4 g5 (wa 0) g7 g8 g9 g10 g11 g12 g13 g14 g15 g16 g17 g18 mo ++ (w_W dA wa z1 ++ (w_Bus dA ba bu)))) (kb_rV (n := 2) (As := [.int v4, .int v1]) (rest := [.int v2]) hx hb hml hown hK (c_X12_secondsOf l D dA H.size a wa ba q1 g2 g3 g4 g5 g7 g8 g9 g10 g11 g12 g13 g14 g15 g16 g17 g18 mo z1 bu v4 v1 r13 hc13) ⟨ww_7_128, ww_7_125, ww_7_127, ws_75, ww_1_12, rfl, by decide, by decide⟩ rfl rfl (by decide +kernel) ⟨Nat.le_of_ble_eq_true rfl, Nat.le_of_ble_eq_true rfl⟩ hP hD hS hA hE [0, 1, 2, 3, 4, 5, 6, 7, 8, 9, 10, 11, 12, 13, 14, 15, 16, 17] rfl (by decide) 0 rfl rfl rfl hl.1 rfl (Nat.le_of_ble_eq_true rfl) dX12_getOff_44 ⟨Nat.le_of_ble_eq_true rfl, Nat.le_of_ble_eq_true rfl⟩) hP hD hS hA [0, 1, 2, 3, 4, 5, 6, 7, 8, 9, 10, 11, 12, 13, 14, 15, 16, 17] [] [0, 1, 2, 3, 4, 5, 6, 7, 8, 9, 10, 11, 12, 13, 14, 15, 16, 17] rfl rfl (by decide) (by decide) rfl (by decide) (fun H locs hP hD hS => ?_)
          refine lv_iadd hx hb dX12_getOff_47 ?_
          refine lv_istore_n (lv' := [(2, .int (v2 + r13)), (3, .int (v3 + (1 : Int32))), (0, .ref (a 0)), (1, .int v1), (4, .int v4)]) hx hb dX12_getOff_48 rfl hl (by decide) rfl (fun ls hl => ?_)
          refine lv_iinc (v := (v4 + (1 : Int32))) (lv' := [(4, .int (v4 + (1 : Int32))), (2, .int (v2 + r13)), (3, .int (v3 + (1 : Int32))), (0, .ref (a 0)), (1, .int v1)]) hx hb dX12_getOff_49 hl (k := 4) rfl (by rfl) (by decide) rfl (fun ls hl => ?_)
          refine lv_goto (tgt := 7) hx hb dX12_getOff_52 (by decide) ?_
          exact ih _ _ _ _ _ _ _ _ hf hP hD hS (lv_sub hl [3, 4, 1, 2, 0] rfl)
        · rw [if_neg c_12] at hf
          refine lv_goto (tgt := 49) hx hb dX12_getOff_33 (by decide) ?_
          refine lv_iinc (v := (v4 + (1 : Int32))) (lv' := [(4, .int (v4 + (1 : Int32))), (0, .ref (a 0)), (1, .int v1), (2, .int v2), (3, .int v3)]) hx hb dX12_getOff_49 hl (k := 4) rfl (by rfl) (by decide) rfl (fun ls hl => ?_)
          refine lv_goto (tgt := 7) hx hb dX12_getOff_52 (by decide) ?_
          exact ih _ _ _ _ _ _ _ _ hf hP hD hS (lv_sub hl [1, 2, 3, 4, 0] rfl)
  have E0 : ∀ (H : Heap) (locs : List Loc), va_P D vwCl (w_MO dA a (some (ba 0)) q1 g2 g3 g4 g5 (wa 0) g7 g8 g9 g10 g11 g12 g13 g14 g15 g16 g17 g18 mo ++ (w_W dA wa y_w ++ (w_Bus dA ba bu))) H → va_D A (w_MO dA a (some (ba 0)) q1 g2 g3 g4 g5 (wa 0) g7 g8 g9 g10 g11 g12 g13 g14 g15 g16 g17 g18 mo ++ (w_W dA wa y_w ++ (w_Bus dA ba bu))) → va_S A s.heap H locs → W p l e ({ frames := 4, cells := 0, slots := 0, locals := 90 } : Room) s m ([.ref (a 0), .int x0] : List Value).toArray below meth c H locs 0 0 Q (F0 m 0 ls []) := by
    intro H locs hP hD hS
    rw [f_X12_getOff] at hf
    refine lv_iconst (v := (0 : Int32)) hx hb dX12_getOff_0 (by decide) ?_
    refine lv_istore_n (lv' := [(2, .int (0 : Int32)), (0, .ref (a 0)), (1, .int x0)]) hx hb dX12_getOff_1 rfl hl (by decide) rfl (fun ls hl => ?_)
    refine lv_iconst (v := (0 : Int32)) hx hb dX12_getOff_2 (by decide) ?_
    refine lv_istore_n (lv' := [(3, .int (0 : Int32)), (2, .int (0 : Int32)), (0, .ref (a 0)), (1, .int x0)]) hx hb dX12_getOff_3 rfl hl (by decide) rfl (fun ls hl => ?_)
    refine lv_iconst (v := (0 : Int32)) hx hb dX12_getOff_4 (by decide) ?_
    refine lv_istore (lv' := [(4, .int (0 : Int32)), (3, .int (0 : Int32)), (2, .int (0 : Int32)), (0, .ref (a 0)), (1, .int x0)]) hx hb dX12_getOff_5 hl (by decide) rfl (fun ls hl => ?_)
    exact B_7 4096 _ _ _ _ _ _ _ _ hf hP hD hS (lv_sub hl [3, 4, 2, 1, 0] rfl)
  exact E0 _ _ hP hD hS

noncomputable def f_X12_give_b179 (mo : MOT) (bu : BusT) (k10 : Int32 → WT → Option (WT)) (v1 : Int32) (z1 : WT) : Option (WT) := k10 (v1 + (1 : Int32)) z1
noncomputable def f_X12_give_b173 (mo : MOT) (bu : BusT) (k10 : Int32 → WT → Option (WT)) (v1 : Int32) (v3 : Int32) (z1 : WT) : Option (WT) := (f_X12_sitsDown mo z1 bu v1 v3).bind fun r15 => f_X12_give_b179 mo bu k10 v1 r15
noncomputable def f_X12_give_b162 (mo : MOT) (bu : BusT) (k10 : Int32 → WT → Option (WT)) (v1 : Int32) (v3 : Int32) (z1 : WT) : Option (WT) := if kb_in? (54 : Int32) 56 then if kb_in? (54 : Int32) 56 then f_X12_give_b173 mo bu k10 v1 v3 (yW_set_r z1 (upd (yW_r z1) ((54 : Int32)).toNatClampNeg (((yW_r z1) ((54 : Int32)).toNatClampNeg) + (1 : Int32)))) else none else none
noncomputable def f_X12_give_b149 (mo : MOT) (bu : BusT) (k10 : Int32 → WT → Option (WT)) (v1 : Int32) (v2 : Int32) (v3 : Int32) (z1 : WT) : Option (WT) := if kb_in? (55 : Int32) 56 then if kb_in? (55 : Int32) 56 then f_X12_give_b162 mo bu k10 v1 v3 (yW_set_r z1 (upd (yW_r z1) ((55 : Int32)).toNatClampNeg (((yW_r z1) ((55 : Int32)).toNatClampNeg) ||| ((1 : Int32) <<< (v2 &&& 31))))) else none else none
noncomputable def f_X12_give_b116 (mo : MOT) (bu : BusT) (k10 : Int32 → WT → Option (WT)) (k56 : Int32 → Int32 → Int32 → WT → Option (WT)) (v1 : Int32) (v3 : Int32) (z1 : WT) : Option (WT) := k56 v1 v3 (v3 + (1 : Int32)) z1
noncomputable def f_X12_give_b56 (mo : MOT) (bu : BusT) (k10 : Int32 → WT → Option (WT)) : Nat → Int32 → Int32 → Int32 → WT → Option (WT)
  | 0, _, _, _, _ => none
  | n + 1, v1, v2, v3, z1 => (if (bu_riders bu) ≤ v3 then (if v2 = (-2 : Int32) then f_X12_give_b179 mo bu k10 v1 z1 else if kb_in? ((0 : Int32) + v2) 56 then (f_X12_getsUp mo z1 v2 (101 : Int32)).bind fun r10 => f_X12_give_b149 mo bu k10 v1 v2 ((yW_r z1) (((0 : Int32) + v2)).toNatClampNeg) r10 else none) else (f_X12_isSitting mo z1 v3).bind fun r16 => (if r16 = 0 then f_X12_give_b56 mo bu k10 n v1 v2 (v3 + (1 : Int32)) z1 else if kb_in? v3 8 then (if (40 : Int32) ≤ ((bu_age bu) (v3).toNatClampNeg) then f_X12_give_b56 mo bu k10 n v1 v2 (v3 + (1 : Int32)) z1 else (if v2 = (-2 : Int32) then f_X12_give_b116 mo bu k10 (f_X12_give_b56 mo bu k10 n) v1 v3 z1 else if kb_in? v3 8 then if kb_in? v2 8 then (if ((bu_age bu) (v2).toNatClampNeg) ≤ ((bu_age bu) (v3).toNatClampNeg) then f_X12_give_b56 mo bu k10 n v1 v2 (v3 + (1 : Int32)) z1 else f_X12_give_b116 mo bu k10 (f_X12_give_b56 mo bu k10 n) v1 v3 z1) else none else none)) else none))
noncomputable def f_X12_give_b10 (mo : MOT) (bu : BusT) : Nat → Int32 → WT → Option (WT)
  | 0, _, _ => none
  | n + 1, v1, z1 => (if (bu_riders bu) ≤ v1 then some (z1) else if kb_in? ((0 : Int32) + v1) 56 then (if ((yW_r z1) (((0 : Int32) + v1)).toNatClampNeg) = (101 : Int32) then if kb_in? v1 8 then (if (65 : Int32) ≤ ((bu_age bu) (v1).toNatClampNeg) then f_X12_give_b56 mo bu (f_X12_give_b10 mo bu n) 4096 v1 (-2 : Int32) (0 : Int32) z1 else f_X12_give_b179 mo bu (f_X12_give_b10 mo bu n) v1 z1) else none else f_X12_give_b10 mo bu n (v1 + (1 : Int32)) z1) else none)
noncomputable def f_X12_give_b8 (mo : MOT) (bu : BusT) (z1 : WT) : Option (WT) := f_X12_give_b10 mo bu 4096 (0 : Int32) z1
noncomputable def f_X12_give (mo : MOT) (y_w : WT) (bu : BusT) : Option (WT) := if kb_in? (55 : Int32) 56 then f_X12_give_b8 mo bu (yW_set_r y_w (upd (yW_r y_w) ((55 : Int32)).toNatClampNeg (0 : Int32))) else none
set_option maxHeartbeats 4000000 in
set_option maxRecDepth 100000 in
theorem c_X12_give (l : Launch) (D : va_G) (dA : Nat → ClassId) (sz : Nat) (a : Nat → Nat) (wa : Nat → Nat) (ba : Nat → Nat) (q1 : Option Nat) (g2 : Nat) (g3 : Nat) (g4 : Nat) (g5 : Nat) (g7 : Nat) (g8 : Nat) (g9 : Nat) (g10 : Nat) (g11 : Nat) (g12 : Nat) (g13 : Nat) (g14 : Nat) (g15 : Nat) (g16 : Nat) (g17 : Nat) (g18 : Nat) (mo : MOT) (y_w : WT) (bu : BusT) (u1 : WT) (hf : f_X12_give mo y_w bu = some (u1)) : kb_Mv l yX12_give cX12_give 4 none ({ frames := 4, cells := 0, slots := 0, locals := 88 } : Room) D dA [.ref (a 0)] sz (w_MO dA a (some (ba 0)) q1 g2 g3 g4 g5 (wa 0) g7 g8 g9 g10 g11 g12 g13 g14 g15 g16 g17 g18 mo ++ (w_W dA wa y_w ++ (w_Bus dA ba bu))) 0 0 (w_MO dA a (some (ba 0)) q1 g2 g3 g4 g5 (wa 0) g7 g8 g9 g10 g11 g12 g13 g14 g15 g16 g17 g18 mo ++ (w_W dA wa u1 ++ (w_Bus dA ba bu))) := by
  refine Met.ofW (cc := cX12_give) (maxL := 4) (ret := none) (by decide) rfl ?_
  intro p e s m args below meth c s₁ B hml hv
  obtain ⟨rfl, hsz, hP, hK, hD0, hE⟩ := hv
  have hx := B.exec
  have hb := B.bytes
  have hr := B.returns
  have hown : s.vm.findClass RX12 = some m.cls := findClass_of_methodNamed B.named
  have hlocks := B.notSynchronized
  have hts : ∀ w ∈ kb_gw, w.before ([.ref (a 0)] : List Value).toArray s = true := fun w hw => hK.2.1 w hw _
  subst hsz
  have hD := hD0.self (sz := s.heap.size)
  generalize hAe : va_A (w_MO dA a (some (ba 0)) q1 g2 g3 g4 g5 (wa 0) g7 g8 g9 g10 g11 g12 g13 g14 g15 g16 g17 g18 mo ++ (w_W dA wa y_w ++ (w_Bus dA ba bu))) s.heap.size = A at hD hE ⊢
  have hA : ∀ q : Nat, s.heap.size ≤ q → A q := fun q h => by rw [← hAe]; exact Or.inr h
  have hS : va_S A s.heap s.heap [] := va_S.rf
  have hl := lv_entry ([.ref (a 0)]) (n := 4) (Nat.le_of_ble_eq_true rfl)
  rw [lg_entry_eq]
  generalize (lg_sl ([.ref (a 0)]) ++ List.replicate (4 - (lg_sl ([.ref (a 0)])).length) Slot.unset).toArray = ls at hl ⊢
  have hl : lv_has ls 4 [(0, .ref (a 0))] := hl
  generalize hQ : MQ below (va_Qv (fun (_ : Unit) => True) (kb_B D A (w_MO dA a (some (ba 0)) q1 g2 g3 g4 g5 (wa 0) g7 g8 g9 g10 g11 g12 g13 g14 g15 g16 g17 g18 mo ++ (w_W dA wa u1 ++ (w_Bus dA ba bu)))) A) ([.ref (a 0)] : List Value).toArray s 0 0 A = Q
  show W p l e ({ frames := 4, cells := 0, slots := 0, locals := 88 } : Room) s m ([.ref (a 0)] : List Value).toArray below meth c s.heap [] 0 0 Q (F0 m 0 ls [])
  have RET : ∀ (w1 : WT) (H : Heap) (locs : List Loc) (ls : Array Slot) (pc : Nat), some (w1) = some (u1) → va_P D vwCl (w_MO dA a (some (ba 0)) q1 g2 g3 g4 g5 (wa 0) g7 g8 g9 g10 g11 g12 g13 g14 g15 g16 g17 g18 mo ++ (w_W dA wa w1 ++ (w_Bus dA ba bu))) H → va_D A (w_MO dA a (some (ba 0)) q1 g2 g3 g4 g5 (wa 0) g7 g8 g9 g10 g11 g12 g13 g14 g15 g16 g17 g18 mo ++ (w_W dA wa w1 ++ (w_Bus dA ba bu))) → va_S A s.heap H locs → decode cX12_give pc = .ok (.return_, 1) → W p l e ({ frames := 4, cells := 0, slots := 0, locals := 88 } : Room) s m ([.ref (a 0)] : List Value).toArray below meth c H locs 0 0 Q (F0 m pc ls []) := by
    intro w1 H locs ls pc hq hP hD hS hd
    cases hq
    rw [← hQ]
    exact W.vret hx hb hr (fun t ht hW => ⟨⟨(), rfl, trivial, by rw [ht]; exact hP, hD⟩, hS.F ht⟩) hS.2.2 hd
  have B_179 : ∀ (k10 : Int32 → WT → Option (WT)) (hk10 : ∀ (v1 : Int32) (z1 : WT) (H : Heap) (locs : List Loc) (ls : Array Slot), k10 v1 z1 = some (u1) → va_P D vwCl (w_MO dA a (some (ba 0)) q1 g2 g3 g4 g5 (wa 0) g7 g8 g9 g10 g11 g12 g13 g14 g15 g16 g17 g18 mo ++ (w_W dA wa z1 ++ (w_Bus dA ba bu))) H → va_D A (w_MO dA a (some (ba 0)) q1 g2 g3 g4 g5 (wa 0) g7 g8 g9 g10 g11 g12 g13 g14 g15 g16 g17 g18 mo ++ (w_W dA wa z1 ++ (w_Bus dA ba bu))) → va_S A s.heap H locs → lv_has ls 4 [(0, .ref (a 0)), (1, .int v1)] → W p l e ({ frames := 4, cells := 0, slots := 0, locals := 88 } : Room) s m ([.ref (a 0)] : List Value).toArray below meth c H locs 0 0 Q (F0 m 10 ls [])) (v1 : Int32) (z1 : WT) (H : Heap) (locs : List Loc) (ls : Array Slot), f_X12_give_b179 mo bu k10 v1 z1 = some (u1) → va_P D vwCl (w_MO dA a (some (ba 0)) q1 g2 g3 g4 g5 (wa 0) g7 g8 g9 g10 g11 g12 g13 g14 g15 g16 g17 g18 mo ++ (w_W dA wa z1 ++ (w_Bus dA ba bu))) H → va_D A (w_MO dA a (some (ba 0)) q1 g2 g3 g4 g5 (wa 0) g7 g8 g9 g10 g11 g12 g13 g14 g15 g16 g17 g18 mo ++ (w_W dA wa z1 ++ (w_Bus dA ba bu))) → va_S A s.heap H locs → lv_has ls 4 [(0, .ref (a 0)), (1, .int v1)] → W p l e ({ frames := 4, cells := 0, slots := 0, locals := 88 } : Room) s m ([.ref (a 0)] : List Value).toArray below meth c H locs 0 0 Q (F0 m 179 ls []) := by
    intro k10 hk10 v1 z1 H locs ls hf hP hD hS hl
    rw [f_X12_give_b179] at hf
    refine lv_iinc (v := (v1 + (1 : Int32))) (lv' := [(1, .int (v1 + (1 : Int32))), (0, .ref (a 0))]) hx hb dX12_give_179 hl (k := 1) rfl (by rfl) (by decide) rfl (fun ls hl => ?_)
    refine lv_goto (tgt := 10) hx hb dX12_give_182 (by decide) ?_
    exact hk10 _ _ _ _ _ hf hP hD hS (lv_sub hl [1, 0] rfl)
  have B_173 : ∀ (k10 : Int32 → WT → Option (WT)) (hk10 : ∀ (v1 : Int32) (z1 : WT) (H : Heap) (locs : List Loc) (ls : Array Slot), k10 v1 z1 = some (u1) → va_P D vwCl (w_MO dA a (some (ba 0)) q1 g2 g3 g4 g5 (wa 0) g7 g8 g9 g10 g11 g12 g13 g14 g15 g16 g17 g18 mo ++ (w_W dA wa z1 ++ (w_Bus dA ba bu))) H → va_D A (w_MO dA a (some (ba 0)) q1 g2 g3 g4 g5 (wa 0) g7 g8 g9 g10 g11 g12 g13 g14 g15 g16 g17 g18 mo ++ (w_W dA wa z1 ++ (w_Bus dA ba bu))) → va_S A s.heap H locs → lv_has ls 4 [(0, .ref (a 0)), (1, .int v1)] → W p l e ({ frames := 4, cells := 0, slots := 0, locals := 88 } : Room) s m ([.ref (a 0)] : List Value).toArray below meth c H locs 0 0 Q (F0 m 10 ls [])) (v1 : Int32) (v3 : Int32) (z1 : WT) (H : Heap) (locs : List Loc) (ls : Array Slot), f_X12_give_b173 mo bu k10 v1 v3 z1 = some (u1) → va_P D vwCl (w_MO dA a (some (ba 0)) q1 g2 g3 g4 g5 (wa 0) g7 g8 g9 g10 g11 g12 g13 g14 g15 g16 g17 g18 mo ++ (w_W dA wa z1 ++ (w_Bus dA ba bu))) H → va_D A (w_MO dA a (some (ba 0)) q1 g2 g3 g4 g5 (wa 0) g7 g8 g9 g10 g11 g12 g13 g14 g15 g16 g17 g18 mo ++ (w_W dA wa z1 ++ (w_Bus dA ba bu))) → va_S A s.heap H locs → lv_has ls 4 [(0, .ref (a 0)), (1, .int v1), (3, .int v3)] → W p l e ({ frames := 4, cells := 0, slots := 0, locals := 88 } : Room) s m ([.ref (a 0)] : List Value).toArray below meth c H locs 0 0 Q (F0 m 173 ls []) := by
    intro k10 hk10 v1 v3 z1 H locs ls hf hP hD hS hl
    rw [f_X12_give_b173] at hf
    refine lv_aload_n hx hb dX12_give_173 rfl (lv_at hl 0 rfl) ?_
    refine lv_iload_n hx hb dX12_give_174 rfl (lv_at hl 1 rfl) ?_
    refine lv_iload_n hx hb dX12_give_175 rfl (lv_at hl 2 rfl) ?_
    obtain ⟨r15, hc15, hf⟩ := kb_bind hf
    refine kb_cv (ws2 := (w_MO dA a (some (ba 0)) q1 g2 g3 g4 g5 (wa 0) g7 g8 g9 g10 g11 g12 g13 g14 g15 g16 g17 g18 mo ++ (w_W dA wa r15 ++ (w_Bus dA ba bu)))) (kb_rV (n := 2) (As := [.int v1, .int v3]) (rest := []) hx hb hml hown hK (c_X12_sitsDown l D dA H.size a wa ba q1 g2 g3 g4 g5 g7 g8 g9 g10 g11 g12 g13 g14 g15 g16 g17 g18 mo z1 bu v1 v3 r15 hc15) ⟨ww_7_167, ww_7_164, ww_7_166, ws_81, ww_1_12, rfl, by decide, by decide⟩ rfl rfl (by decide +kernel) ⟨Nat.le_of_ble_eq_true rfl, Nat.le_of_ble_eq_true rfl⟩ hP hD hS hA hE [0, 1, 2, 3, 4, 5, 6, 7, 8, 9, 10, 11, 12, 13, 14, 15, 16, 17] rfl (by decide) 0 rfl rfl rfl hl.1 rfl (Nat.le_of_ble_eq_true rfl) dX12_give_176 ⟨Nat.le_of_ble_eq_true rfl, Nat.le_of_ble_eq_true rfl⟩) hP hD hS hA [0, 1, 2, 3, 4, 5, 6, 7, 8, 9, 10, 11, 12, 13, 14, 15, 16, 17] [] [0, 1, 2, 3, 4, 5, 6, 7, 8, 9, 10, 11, 12, 13, 14, 15, 16, 17] rfl rfl (by decide) (by decide) rfl (by decide) (fun H locs hP hD hS => ?_)
    exact B_179 k10 hk10 _ _ _ _ _ hf hP hD hS (lv_sub hl [0, 1] rfl)
  have B_162 : ∀ (k10 : Int32 → WT → Option (WT)) (hk10 : ∀ (v1 : Int32) (z1 : WT) (H : Heap) (locs : List Loc) (ls : Array Slot), k10 v1 z1 = some (u1) → va_P D vwCl (w_MO dA a (some (ba 0)) q1 g2 g3 g4 g5 (wa 0) g7 g8 g9 g10 g11 g12 g13 g14 g15 g16 g17 g18 mo ++ (w_W dA wa z1 ++ (w_Bus dA ba bu))) H → va_D A (w_MO dA a (some (ba 0)) q1 g2 g3 g4 g5 (wa 0) g7 g8 g9 g10 g11 g12 g13 g14 g15 g16 g17 g18 mo ++ (w_W dA wa z1 ++ (w_Bus dA ba bu))) → va_S A s.heap H locs → lv_has ls 4 [(0, .ref (a 0)), (1, .int v1)] → W p l e ({ frames := 4, cells := 0, slots := 0, locals := 88 } : Room) s m ([.ref (a 0)] : List Value).toArray below meth c H locs 0 0 Q (F0 m 10 ls [])) (v1 : Int32) (v3 : Int32) (z1 : WT) (H : Heap) (locs : List Loc) (ls : Array Slot), f_X12_give_b162 mo bu k10 v1 v3 z1 = some (u1) → va_P D vwCl (w_MO dA a (some (ba 0)) q1 g2 g3 g4 g5 (wa 0) g7 g8 g9 g10 g11 g12 g13 g14 g15 g16 g17 g18 mo ++ (w_W dA wa z1 ++ (w_Bus dA ba bu))) H → va_D A (w_MO dA a (some (ba 0)) q1 g2 g3 g4 g5 (wa 0) g7 g8 g9 g10 g11 g12 g13 g14 g15 g16 g17 g18 mo ++ (w_W dA wa z1 ++ (w_Bus dA ba bu))) → va_S A s.heap H locs → lv_has ls 4 [(0, .ref (a 0)), (1, .int v1), (3, .int v3)] → W p l e ({ frames := 4, cells := 0, slots := 0, locals := 88 } : Room) s m ([.ref (a 0)] : List Value).toArray below meth c H locs 0 0 Q (F0 m 162 ls []) := by
    intro k10 hk10 v1 v3 z1 H locs ls hf hP hD hS hl
    rw [f_X12_give_b162] at hf
    refine lv_aload_n hx hb dX12_give_162 rfl (lv_at hl 0 rfl) ?_
    refine va_get (D := D) (ci := 12) (v := .ref (wa 0)) (C := RX12) (T := TX12) (N := 35) hx hb hts kb_inX12 hown hK.1 hP 0 rfl rfl 19 (by decide) (hK.2.w ww_5_219 rfl _) (fun _ h9 => h9) rfl dX12_give_163 ?_
    refine lv_bipush (v := (54 : Int32)) hx hb dX12_give_166 (by decide) ?_
    refine lv_dup2_11 hx hb dX12_give_168 rfl rfl ?_
    obtain ⟨h_13, hf⟩ := kb_if hf
    refine va_iald (D := D) hx hb hK.1 hP 1 0 rfl rfl h_13 dX12_give_169 ?_
    refine lv_iconst (v := (1 : Int32)) hx hb dX12_give_170 (by decide) ?_
    refine lv_iadd hx hb dX12_give_171 ?_
    obtain ⟨h_14, hf⟩ := kb_if hf
    refine va_iast (D := D) hx hb hK.1 hP hD hS 1 0 rfl rfl h_14 dX12_give_172 (fun H locs hP hD hS => ?_)
    have hP : va_P D vwCl (w_MO dA a (some (ba 0)) q1 g2 g3 g4 g5 (wa 0) g7 g8 g9 g10 g11 g12 g13 g14 g15 g16 g17 g18 mo ++ (w_W dA wa (yW_set_r z1 (upd (yW_r z1) ((54 : Int32)).toNatClampNeg (((yW_r z1) ((54 : Int32)).toNatClampNeg) + (1 : Int32)))) ++ (w_Bus dA ba bu))) H := hP
    have hD : va_D A (w_MO dA a (some (ba 0)) q1 g2 g3 g4 g5 (wa 0) g7 g8 g9 g10 g11 g12 g13 g14 g15 g16 g17 g18 mo ++ (w_W dA wa (yW_set_r z1 (upd (yW_r z1) ((54 : Int32)).toNatClampNeg (((yW_r z1) ((54 : Int32)).toNatClampNeg) + (1 : Int32)))) ++ (w_Bus dA ba bu))) := hD
    exact B_173 k10 hk10 _ _ _ _ _ _ hf hP hD hS (lv_sub hl [0, 1, 2] rfl)
  have B_149 : ∀ (k10 : Int32 → WT → Option (WT)) (hk10 : ∀ (v1 : Int32) (z1 : WT) (H : Heap) (locs : List Loc) (ls : Array Slot), k10 v1 z1 = some (u1) → va_P D vwCl (w_MO dA a (some (ba 0)) q1 g2 g3 g4 g5 (wa 0) g7 g8 g9 g10 g11 g12 g13 g14 g15 g16 g17 g18 mo ++ (w_W dA wa z1 ++ (w_Bus dA ba bu))) H → va_D A (w_MO dA a (some (ba 0)) q1 g2 g3 g4 g5 (wa 0) g7 g8 g9 g10 g11 g12 g13 g14 g15 g16 g17 g18 mo ++ (w_W dA wa z1 ++ (w_Bus dA ba bu))) → va_S A s.heap H locs → lv_has ls 4 [(0, .ref (a 0)), (1, .int v1)] → W p l e ({ frames := 4, cells := 0, slots := 0, locals := 88 } : Room) s m ([.ref (a 0)] : List Value).toArray below meth c H locs 0 0 Q (F0 m 10 ls [])) (v1 : Int32) (v2 : Int32) (v3 : Int32) (z1 : WT) (H : Heap) (locs : List Loc) (ls : Array Slot), f_X12_give_b149 mo bu k10 v1 v2 v3 z1 = some (u1) → va_P D vwCl (w_MO dA a (some (ba 0)) q1 g2 g3 g4 g5 (wa 0) g7 g8 g9 g10 g11 g12 g13 g14 g15 g16 g17 g18 mo ++ (w_W dA wa z1 ++ (w_Bus dA ba bu))) H → va_D A (w_MO dA a (some (ba 0)) q1 g2 g3 g4 g5 (wa 0) g7 g8 g9 g10 g11 g12 g13 g14 g15 g16 g17 g18 mo ++ (w_W dA wa z1 ++ (w_Bus dA ba bu))) → va_S A s.heap H locs → lv_has ls 4 [(0, .ref (a 0)), (1, .int v1), (2, .int v2), (3, .int v3)] → W p l e ({ frames := 4, cells := 0, slots := 0, locals := 88 } : Room) s m ([.ref (a 0)] : List Value).toArray below meth c H locs 0 0 Q (F0 m 149 ls []) := by
    intro k10 hk10 v1 v2 v3 z1 H locs ls hf hP hD hS hl
    rw [f_X12_give_b149] at hf
    refine lv_aload_n hx hb dX12_give_149 rfl (lv_at hl 0 rfl) ?_
    refine va_get (D := D) (ci := 12) (v := .ref (wa 0)) (C := RX12) (T := TX12) (N := 35) hx hb hts kb_inX12 hown hK.1 hP 0 rfl rfl 19 (by decide) (hK.2.w ww_5_219 rfl _) (fun _ h9 => h9) rfl dX12_give_150 ?_
    refine lv_bipush (v := (55 : Int32)) hx hb dX12_give_153 (by decide) ?_
    refine lv_dup2_11 hx hb dX12_give_155 rfl rfl ?_
    obtain ⟨h_11, hf⟩ := kb_if hf
    refine va_iald (D := D) hx hb hK.1 hP 1 0 rfl rfl h_11 dX12_give_156 ?_
    refine lv_iconst (v := (1 : Int32)) hx hb dX12_give_157 (by decide) ?_
    refine lv_iload_n hx hb dX12_give_158 rfl (lv_at hl 2 rfl) ?_
    refine lv_ishl hx hb dX12_give_159 ?_
    refine lv_ior hx hb dX12_give_160 ?_
    obtain ⟨h_12, hf⟩ := kb_if hf
    refine va_iast (D := D) hx hb hK.1 hP hD hS 1 0 rfl rfl h_12 dX12_give_161 (fun H locs hP hD hS => ?_)
    have hP : va_P D vwCl (w_MO dA a (some (ba 0)) q1 g2 g3 g4 g5 (wa 0) g7 g8 g9 g10 g11 g12 g13 g14 g15 g16 g17 g18 mo ++ (w_W dA wa (yW_set_r z1 (upd (yW_r z1) ((55 : Int32)).toNatClampNeg (((yW_r z1) ((55 : Int32)).toNatClampNeg) ||| ((1 : Int32) <<< (v2 &&& 31))))) ++ (w_Bus dA ba bu))) H := hP
    have hD : va_D A (w_MO dA a (some (ba 0)) q1 g2 g3 g4 g5 (wa 0) g7 g8 g9 g10 g11 g12 g13 g14 g15 g16 g17 g18 mo ++ (w_W dA wa (yW_set_r z1 (upd (yW_r z1) ((55 : Int32)).toNatClampNeg (((yW_r z1) ((55 : Int32)).toNatClampNeg) ||| ((1 : Int32) <<< (v2 &&& 31))))) ++ (w_Bus dA ba bu))) := hD
    exact B_162 k10 hk10 _ _ _ _ _ _ hf hP hD hS (lv_sub hl [0, 1, 3] rfl)
  have B_116 : ∀ (k10 : Int32 → WT → Option (WT)) (hk10 : ∀ (v1 : Int32) (z1 : WT) (H : Heap) (locs : List Loc) (ls : Array Slot), k10 v1 z1 = some (u1) → va_P D vwCl (w_MO dA a (some (ba 0)) q1 g2 g3 g4 g5 (wa 0) g7 g8 g9 g10 g11 g12 g13 g14 g15 g16 g17 g18 mo ++ (w_W dA wa z1 ++ (w_Bus dA ba bu))) H → va_D A (w_MO dA a (some (ba 0)) q1 g2 g3 g4 g5 (wa 0) g7 g8 g9 g10 g11 g12 g13 g14 g15 g16 g17 g18 mo ++ (w_W dA wa z1 ++ (w_Bus dA ba bu))) → va_S A s.heap H locs → lv_has ls 4 [(0, .ref (a 0)), (1, .int v1)] → W p l e ({ frames := 4, cells := 0, slots := 0, locals := 88 } : Room) s m ([.ref (a 0)] : List Value).toArray below meth c H locs 0 0 Q (F0 m 10 ls [])) (k56 : Int32 → Int32 → Int32 → WT → Option (WT)) (hk56 : ∀ (v1 : Int32) (v2 : Int32) (v3 : Int32) (z1 : WT) (H : Heap) (locs : List Loc) (ls : Array Slot), k56 v1 v2 v3 z1 = some (u1) → va_P D vwCl (w_MO dA a (some (ba 0)) q1 g2 g3 g4 g5 (wa 0) g7 g8 g9 g10 g11 g12 g13 g14 g15 g16 g17 g18 mo ++ (w_W dA wa z1 ++ (w_Bus dA ba bu))) H → va_D A (w_MO dA a (some (ba 0)) q1 g2 g3 g4 g5 (wa 0) g7 g8 g9 g10 g11 g12 g13 g14 g15 g16 g17 g18 mo ++ (w_W dA wa z1 ++ (w_Bus dA ba bu))) → va_S A s.heap H locs → lv_has ls 4 [(0, .ref (a 0)), (1, .int v1), (2, .int v2), (3, .int v3)] → W p l e ({ frames := 4, cells := 0, slots := 0, locals := 88 } : Room) s m ([.ref (a 0)] : List Value).toArray below meth c H locs 0 0 Q (F0 m 56 ls [])) (v1 : Int32) (v3 : Int32) (z1 : WT) (H : Heap) (locs : List Loc) (ls : Array Slot), f_X12_give_b116 mo bu k10 k56 v1 v3 z1 = some (u1) → va_P D vwCl (w_MO dA a (some (ba 0)) q1 g2 g3 g4 g5 (wa 0) g7 g8 g9 g10 g11 g12 g13 g14 g15 g16 g17 g18 mo ++ (w_W dA wa z1 ++ (w_Bus dA ba bu))) H → va_D A (w_MO dA a (some (ba 0)) q1 g2 g3 g4 g5 (wa 0) g7 g8 g9 g10 g11 g12 g13 g14 g15 g16 g17 g18 mo ++ (w_W dA wa z1 ++ (w_Bus dA ba bu))) → va_S A s.heap H locs → lv_has ls 4 [(0, .ref (a 0)), (1, .int v1), (3, .int v3)] → W p l e ({ frames := 4, cells := 0, slots := 0, locals := 88 } : Room) s m ([.ref (a 0)] : List Value).toArray below meth c H locs 0 0 Q (F0 m 116 ls []) := by
    intro k10 hk10 k56 hk56 v1 v3 z1 H locs ls hf hP hD hS hl
    rw [f_X12_give_b116] at hf
    refine lv_iload_n hx hb dX12_give_116 rfl (lv_at hl 2 rfl) ?_
    refine lv_istore_n (lv' := [(2, .int v3), (0, .ref (a 0)), (1, .int v1), (3, .int v3)]) hx hb dX12_give_117 rfl hl (by decide) rfl (fun ls hl => ?_)
    refine lv_iinc (v := (v3 + (1 : Int32))) (lv' := [(3, .int (v3 + (1 : Int32))), (2, .int v3), (0, .ref (a 0)), (1, .int v1)]) hx hb dX12_give_118 hl (k := 3) rfl (by rfl) (by decide) rfl (fun ls hl => ?_)
    refine lv_goto (tgt := 56) hx hb dX12_give_121 (by decide) ?_
    exact hk56 _ _ _ _ _ _ _ hf hP hD hS (lv_sub hl [2, 3, 1, 0] rfl)
  have B_56 : ∀ (k10 : Int32 → WT → Option (WT)) (hk10 : ∀ (v1 : Int32) (z1 : WT) (H : Heap) (locs : List Loc) (ls : Array Slot), k10 v1 z1 = some (u1) → va_P D vwCl (w_MO dA a (some (ba 0)) q1 g2 g3 g4 g5 (wa 0) g7 g8 g9 g10 g11 g12 g13 g14 g15 g16 g17 g18 mo ++ (w_W dA wa z1 ++ (w_Bus dA ba bu))) H → va_D A (w_MO dA a (some (ba 0)) q1 g2 g3 g4 g5 (wa 0) g7 g8 g9 g10 g11 g12 g13 g14 g15 g16 g17 g18 mo ++ (w_W dA wa z1 ++ (w_Bus dA ba bu))) → va_S A s.heap H locs → lv_has ls 4 [(0, .ref (a 0)), (1, .int v1)] → W p l e ({ frames := 4, cells := 0, slots := 0, locals := 88 } : Room) s m ([.ref (a 0)] : List Value).toArray below meth c H locs 0 0 Q (F0 m 10 ls [])) (n : Nat) (v1 : Int32) (v2 : Int32) (v3 : Int32) (z1 : WT) (H : Heap) (locs : List Loc) (ls : Array Slot), f_X12_give_b56 mo bu k10 n v1 v2 v3 z1 = some (u1) → va_P D vwCl (w_MO dA a (some (ba 0)) q1 g2 g3 g4 g5 (wa 0) g7 g8 g9 g10 g11 g12 g13 g14 g15 g16 g17 g18 mo ++ (w_W dA wa z1 ++ (w_Bus dA ba bu))) H → va_D A (w_MO dA a (some (ba 0)) q1 g2 g3 g4 g5 (wa 0) g7 g8 g9 g10 g11 g12 g13 g14 g15 g16 g17 g18 mo ++ (w_W dA wa z1 ++ (w_Bus dA ba bu))) → va_S A s.heap H locs → lv_has ls 4 [(0, .ref (a 0)), (1, .int v1), (2, .int v2), (3, .int v3)] → W p l e ({ frames := 4, cells := 0, slots := 0, locals := 88 } : Room) s m ([.ref (a 0)] : List Value).toArray below meth c H locs 0 0 Q (F0 m 56 ls []) := by
    intro k10 hk10 n
    induction n with
    | zero =>
      intro v1 v2 v3 z1 H locs ls hf
      exact absurd hf (by simp [f_X12_give_b56])
    | succ n ih =>
      intro v1 v2 v3 z1 H locs ls hf hP hD hS hl
      rw [f_X12_give_b56] at hf
      refine lv_iload_n hx hb dX12_give_56 rfl (lv_at hl 3 rfl) ?_
      refine lv_aload_n hx hb dX12_give_57 rfl (lv_at hl 0 rfl) ?_
      refine va_get (D := D) (ci := 12) (v := .ref (ba 0)) (C := RX12) (T := TX12) (N := 35) hx hb hts kb_inX12 hown hK.1 hP 0 rfl rfl 3 (by decide) (hK.2.w ww_5_203 rfl _) (fun _ h9 => h9) rfl dX12_give_58 ?_
      refine va_getN (D := D) (ci := 11) (v := .int (bu_riders bu)) (C := RX11) (T := TX11) (N := 26) hx hb hts kb_inX11 hown hK.1 hP 2 rfl rfl 7 (by decide) (hK.2.nb ww_6_96 rfl rfl _) (fun _ h9 => h9) rfl dX12_give_61 ?_
      refine lv_icmp_ge (tgt := 124) hx hb dX12_give_64 (by decide) (fun c_7 => ?_) (fun c_7 => ?_)
      · rw [if_pos c_7] at hf
        refine lv_iload_n hx hb dX12_give_124 rfl (lv_at hl 2 rfl) ?_
        refine lv_bipush (v := (-2 : Int32)) hx hb dX12_give_125 (by decide) ?_
        refine lv_icmp_ne (tgt := 133) hx hb dX12_give_127 (by decide) (fun c_8 => ?_) (fun c_8 => ?_)
        · rw [if_neg c_8] at hf
          refine lv_aload_n hx hb dX12_give_133 rfl (lv_at hl 0 rfl) ?_
          refine va_get (D := D) (ci := 12) (v := .ref (wa 0)) (C := RX12) (T := TX12) (N := 35) hx hb hts kb_inX12 hown hK.1 hP 0 rfl rfl 19 (by decide) (hK.2.w ww_5_219 rfl _) (fun _ h9 => h9) rfl dX12_give_134 ?_
          refine lv_iconst (v := (0 : Int32)) hx hb dX12_give_137 (by decide) ?_
          refine lv_iload_n hx hb dX12_give_138 rfl (lv_at hl 2 rfl) ?_
          refine lv_iadd hx hb dX12_give_139 ?_
          obtain ⟨h_9, hf⟩ := kb_if hf
          refine va_iald (D := D) hx hb hK.1 hP 1 0 rfl rfl h_9 dX12_give_140 ?_
          refine lv_istore_n (lv' := [(3, .int ((yW_r z1) (((0 : Int32) + v2)).toNatClampNeg)), (0, .ref (a 0)), (1, .int v1), (2, .int v2)]) hx hb dX12_give_141 rfl hl (by decide) rfl (fun ls hl => ?_)
          refine lv_aload_n hx hb dX12_give_142 rfl (lv_at hl 1 rfl) ?_
          refine lv_iload_n hx hb dX12_give_143 rfl (lv_at hl 3 rfl) ?_
          refine lv_bipush (v := (101 : Int32)) hx hb dX12_give_144 (by decide) ?_
          obtain ⟨r10, hc10, hf⟩ := kb_bind hf
          refine kb_cv (ws2 := (w_MO dA a (some (ba 0)) q1 g2 g3 g4 g5 (wa 0) g7 g8 g9 g10 g11 g12 g13 g14 g15 g16 g17 g18 mo ++ (w_W dA wa r10 ++ (w_Bus dA ba bu)))) (kb_rV (n := 2) (As := [.int v2, .int (101 : Int32)]) (rest := []) hx hb hml hown hK (c_X12_getsUp l D dA H.size a wa (some (ba 0)) q1 g2 g3 g4 g5 g7 g8 g9 g10 g11 g12 g13 g14 g15 g16 g17 g18 mo z1 v2 (101 : Int32) r10 hc10) ⟨ww_7_159, ww_7_156, ww_7_158, ws_79, ww_1_12, rfl, by decide, by decide⟩ rfl rfl (by decide +kernel) ⟨Nat.le_of_ble_eq_true rfl, Nat.le_of_ble_eq_true rfl⟩ hP hD hS hA hE [0, 1] rfl (by decide) 0 rfl rfl rfl hl.1 rfl (Nat.le_of_ble_eq_true rfl) dX12_give_146 ⟨Nat.le_of_ble_eq_true rfl, Nat.le_of_ble_eq_true rfl⟩) hP hD hS hA [0, 1] [2, 3, 4, 5, 6, 7, 8, 9, 10, 11, 12, 13, 14, 15, 16, 17] [16, 17, 0, 1, 2, 3, 4, 5, 6, 7, 8, 9, 10, 11, 12, 13, 14, 15] rfl rfl (by decide) (by decide) rfl (by decide) (fun H locs hP hD hS => ?_)
          exact B_149 k10 hk10 _ _ _ _ _ _ _ hf hP hD hS (lv_sub hl [1, 2, 3, 0] rfl)
        · rw [if_pos c_8] at hf
          refine lv_goto (tgt := 179) hx hb dX12_give_130 (by decide) ?_
          exact B_179 k10 hk10 _ _ _ _ _ hf hP hD hS (lv_sub hl [0, 1] rfl)
      · rw [if_neg c_7] at hf
        refine lv_aload_n hx hb dX12_give_67 rfl (lv_at hl 0 rfl) ?_
        refine lv_iload_n hx hb dX12_give_68 rfl (lv_at hl 3 rfl) ?_
        obtain ⟨r16, hc16, hf⟩ := kb_bind hf
        refine kb_ci (ws2 := (w_MO dA a (some (ba 0)) q1 g2 g3 g4 g5 (wa 0) g7 g8 g9 g10 g11 g12 g13 g14 g15 g16 g17 g18 mo ++ (w_W dA wa z1 ++ (w_Bus dA ba bu)))) (kb_rV (n := 1) (As := [.int v3]) (rest := []) hx hb hml hown hK (c_X12_isSitting l D dA H.size a wa (some (ba 0)) q1 g2 g3 g4 g5 g7 g8 g9 g10 g11 g12 g13 g14 g15 g16 g17 g18 mo z1 v3 r16 hc16) ⟨ww_7_132, ww_7_129, ww_7_131, ws_76, ww_1_12, rfl, by decide, by decide⟩ rfl rfl (by decide +kernel) ⟨Nat.le_of_ble_eq_true rfl, Nat.le_of_ble_eq_true rfl⟩ hP hD hS hA hE [0, 1] rfl (by decide) 0 rfl rfl rfl hl.1 rfl (Nat.le_of_ble_eq_true rfl) dX12_give_69 ⟨Nat.le_of_ble_eq_true rfl, Nat.le_of_ble_eq_true rfl⟩) hP hD hS hA [0, 1] [2, 3, 4, 5, 6, 7, 8, 9, 10, 11, 12, 13, 14, 15, 16, 17] [16, 17, 0, 1, 2, 3, 4, 5, 6, 7, 8, 9, 10, 11, 12, 13, 14, 15] rfl rfl (by decide) (by decide) rfl (by decide) (fun H locs hP hD hS => ?_)
        refine lv_if_eq (tgt := 118) hx hb dX12_give_72 (by decide) (fun c_17 => ?_) (fun c_17 => ?_)
        · rw [if_pos c_17] at hf
          refine lv_iinc (v := (v3 + (1 : Int32))) (lv' := [(3, .int (v3 + (1 : Int32))), (0, .ref (a 0)), (1, .int v1), (2, .int v2)]) hx hb dX12_give_118 hl (k := 3) rfl (by rfl) (by decide) rfl (fun ls hl => ?_)
          refine lv_goto (tgt := 56) hx hb dX12_give_121 (by decide) ?_
          exact ih _ _ _ _ _ _ _ hf hP hD hS (lv_sub hl [1, 2, 3, 0] rfl)
        · rw [if_neg c_17] at hf
          refine lv_aload_n hx hb dX12_give_75 rfl (lv_at hl 0 rfl) ?_
          refine va_get (D := D) (ci := 12) (v := .ref (ba 0)) (C := RX12) (T := TX12) (N := 35) hx hb hts kb_inX12 hown hK.1 hP 0 rfl rfl 3 (by decide) (hK.2.w ww_5_203 rfl _) (fun _ h9 => h9) rfl dX12_give_76 ?_
          refine va_getN (D := D) (ci := 11) (v := .ref (ba 7)) (C := RX11) (T := TX11) (N := 26) hx hb hts kb_inX11 hown hK.1 hP 2 rfl rfl 17 (by decide) (hK.2.nb ww_6_115 rfl rfl _) (fun _ h9 => h9) rfl dX12_give_79 ?_
          refine lv_iload_n hx hb dX12_give_82 rfl (lv_at hl 3 rfl) ?_
          obtain ⟨h_18, hf⟩ := kb_if hf
          refine va_iald (D := D) hx hb hK.1 hP 9 0 rfl rfl h_18 dX12_give_83 ?_
          refine lv_bipush (v := (40 : Int32)) hx hb dX12_give_84 (by decide) ?_
          refine lv_icmp_ge (tgt := 118) hx hb dX12_give_86 (by decide) (fun c_19 => ?_) (fun c_19 => ?_)
          · rw [if_pos c_19] at hf
            refine lv_iinc (v := (v3 + (1 : Int32))) (lv' := [(3, .int (v3 + (1 : Int32))), (0, .ref (a 0)), (1, .int v1), (2, .int v2)]) hx hb dX12_give_118 hl (k := 3) rfl (by rfl) (by decide) rfl (fun ls hl => ?_)
            refine lv_goto (tgt := 56) hx hb dX12_give_121 (by decide) ?_
            exact ih _ _ _ _ _ _ _ hf hP hD hS (lv_sub hl [1, 2, 3, 0] rfl)
          · rw [if_neg c_19] at hf
            refine lv_iload_n hx hb dX12_give_89 rfl (lv_at hl 2 rfl) ?_
            refine lv_bipush (v := (-2 : Int32)) hx hb dX12_give_90 (by decide) ?_
            refine lv_icmp_eq (tgt := 116) hx hb dX12_give_92 (by decide) (fun c_20 => ?_) (fun c_20 => ?_)
            · rw [if_pos c_20] at hf
              exact B_116 k10 hk10 (f_X12_give_b56 mo bu k10 n) ih _ _ _ _ _ _ hf hP hD hS (lv_sub hl [0, 1, 3] rfl)
            · rw [if_neg c_20] at hf
              refine lv_aload_n hx hb dX12_give_95 rfl (lv_at hl 0 rfl) ?_
              refine va_get (D := D) (ci := 12) (v := .ref (ba 0)) (C := RX12) (T := TX12) (N := 35) hx hb hts kb_inX12 hown hK.1 hP 0 rfl rfl 3 (by decide) (hK.2.w ww_5_203 rfl _) (fun _ h9 => h9) rfl dX12_give_96 ?_
              refine va_getN (D := D) (ci := 11) (v := .ref (ba 7)) (C := RX11) (T := TX11) (N := 26) hx hb hts kb_inX11 hown hK.1 hP 2 rfl rfl 17 (by decide) (hK.2.nb ww_6_115 rfl rfl _) (fun _ h9 => h9) rfl dX12_give_99 ?_
              refine lv_iload_n hx hb dX12_give_102 rfl (lv_at hl 3 rfl) ?_
              obtain ⟨h_21, hf⟩ := kb_if hf
              refine va_iald (D := D) hx hb hK.1 hP 9 0 rfl rfl h_21 dX12_give_103 ?_
              refine lv_aload_n hx hb dX12_give_104 rfl (lv_at hl 0 rfl) ?_
              refine va_get (D := D) (ci := 12) (v := .ref (ba 0)) (C := RX12) (T := TX12) (N := 35) hx hb hts kb_inX12 hown hK.1 hP 0 rfl rfl 3 (by decide) (hK.2.w ww_5_203 rfl _) (fun _ h9 => h9) rfl dX12_give_105 ?_
              refine va_getN (D := D) (ci := 11) (v := .ref (ba 7)) (C := RX11) (T := TX11) (N := 26) hx hb hts kb_inX11 hown hK.1 hP 2 rfl rfl 17 (by decide) (hK.2.nb ww_6_115 rfl rfl _) (fun _ h9 => h9) rfl dX12_give_108 ?_
              refine lv_iload_n hx hb dX12_give_111 rfl (lv_at hl 2 rfl) ?_
              obtain ⟨h_22, hf⟩ := kb_if hf
              refine va_iald (D := D) hx hb hK.1 hP 9 0 rfl rfl h_22 dX12_give_112 ?_
              refine lv_icmp_ge (tgt := 118) hx hb dX12_give_113 (by decide) (fun c_23 => ?_) (fun c_23 => ?_)
              · rw [if_pos c_23] at hf
                refine lv_iinc (v := (v3 + (1 : Int32))) (lv' := [(3, .int (v3 + (1 : Int32))), (0, .ref (a 0)), (1, .int v1), (2, .int v2)]) hx hb dX12_give_118 hl (k := 3) rfl (by rfl) (by decide) rfl (fun ls hl => ?_)
                refine lv_goto (tgt := 56) hx hb dX12_give_121 (by decide) ?_
                exact ih _ _ _ _ _ _ _ hf hP hD hS (lv_sub hl [1, 2, 3, 0] rfl)
              · rw [if_neg c_23] at hf
                exact B_116 k10 hk10 (f_X12_give_b56 mo bu k10 n) ih _ _ _ _ _ _ hf hP hD hS (lv_sub hl [0, 1, 3] rfl)
  have B_10 : ∀ (n : Nat) (v1 : Int32) (z1 : WT) (H : Heap) (locs : List Loc) (ls : Array Slot), f_X12_give_b10 mo bu n v1 z1 = some (u1) → va_P D vwCl (w_MO dA a (some (ba 0)) q1 g2 g3 g4 g5 (wa 0) g7 g8 g9 g10 g11 g12 g13 g14 g15 g16 g17 g18 mo ++ (w_W dA wa z1 ++ (w_Bus dA ba bu))) H → va_D A (w_MO dA a (some (ba 0)) q1 g2 g3 g4 g5 (wa 0) g7 g8 g9 g10 g11 g12 g13 g14 g15 g16 g17 g18 mo ++ (w_W dA wa z1 ++ (w_Bus dA ba bu))) → va_S A s.heap H locs → lv_has ls 4 [(0, .ref (a 0)), (1, .int v1)] → W p l e ({ frames := 4, cells := 0, slots := 0, locals := 88 } : Room) s m ([.ref (a 0)] : List Value).toArray below meth c H locs 0 0 Q (F0 m 10 ls []) := by
    intro n
    induction n with
    | zero =>
      intro v1 z1 H locs ls hf
      exact absurd hf (by simp [f_X12_give_b10])
    | succ n ih =>
      intro v1 z1 H locs ls hf hP hD hS hl
      rw [f_X12_give_b10] at hf
      refine lv_iload_n hx hb dX12_give_10 rfl (lv_at hl 1 rfl) ?_
      refine lv_aload_n hx hb dX12_give_11 rfl (lv_at hl 0 rfl) ?_
      refine va_get (D := D) (ci := 12) (v := .ref (ba 0)) (C := RX12) (T := TX12) (N := 35) hx hb hts kb_inX12 hown hK.1 hP 0 rfl rfl 3 (by decide) (hK.2.w ww_5_203 rfl _) (fun _ h9 => h9) rfl dX12_give_12 ?_
      refine va_getN (D := D) (ci := 11) (v := .int (bu_riders bu)) (C := RX11) (T := TX11) (N := 26) hx hb hts kb_inX11 hown hK.1 hP 2 rfl rfl 7 (by decide) (hK.2.nb ww_6_96 rfl rfl _) (fun _ h9 => h9) rfl dX12_give_15 ?_
      refine lv_icmp_ge (tgt := 185) hx hb dX12_give_18 (by decide) (fun c_2 => ?_) (fun c_2 => ?_)
      · rw [if_pos c_2] at hf
        exact RET _ H _ ls 185 hf hP hD hS dX12_give_185
      · rw [if_neg c_2] at hf
        refine lv_aload_n hx hb dX12_give_21 rfl (lv_at hl 0 rfl) ?_
        refine va_get (D := D) (ci := 12) (v := .ref (wa 0)) (C := RX12) (T := TX12) (N := 35) hx hb hts kb_inX12 hown hK.1 hP 0 rfl rfl 19 (by decide) (hK.2.w ww_5_219 rfl _) (fun _ h9 => h9) rfl dX12_give_22 ?_
        refine lv_iconst (v := (0 : Int32)) hx hb dX12_give_25 (by decide) ?_
        refine lv_iload_n hx hb dX12_give_26 rfl (lv_at hl 1 rfl) ?_
        refine lv_iadd hx hb dX12_give_27 ?_
        obtain ⟨h_3, hf⟩ := kb_if hf
        refine va_iald (D := D) hx hb hK.1 hP 1 0 rfl rfl h_3 dX12_give_28 ?_
        refine lv_bipush (v := (101 : Int32)) hx hb dX12_give_29 (by decide) ?_
        refine lv_icmp_ne (tgt := 179) hx hb dX12_give_31 (by decide) (fun c_4 => ?_) (fun c_4 => ?_)
        · rw [if_neg c_4] at hf
          refine lv_iinc (v := (v1 + (1 : Int32))) (lv' := [(1, .int (v1 + (1 : Int32))), (0, .ref (a 0))]) hx hb dX12_give_179 hl (k := 1) rfl (by rfl) (by decide) rfl (fun ls hl => ?_)
          refine lv_goto (tgt := 10) hx hb dX12_give_182 (by decide) ?_
          exact ih _ _ _ _ _ hf hP hD hS (lv_sub hl [1, 0] rfl)
        · rw [if_pos c_4] at hf
          refine lv_aload_n hx hb dX12_give_34 rfl (lv_at hl 0 rfl) ?_
          refine va_get (D := D) (ci := 12) (v := .ref (ba 0)) (C := RX12) (T := TX12) (N := 35) hx hb hts kb_inX12 hown hK.1 hP 0 rfl rfl 3 (by decide) (hK.2.w ww_5_203 rfl _) (fun _ h9 => h9) rfl dX12_give_35 ?_
          refine va_getN (D := D) (ci := 11) (v := .ref (ba 7)) (C := RX11) (T := TX11) (N := 26) hx hb hts kb_inX11 hown hK.1 hP 2 rfl rfl 17 (by decide) (hK.2.nb ww_6_115 rfl rfl _) (fun _ h9 => h9) rfl dX12_give_38 ?_
          refine lv_iload_n hx hb dX12_give_41 rfl (lv_at hl 1 rfl) ?_
          obtain ⟨h_5, hf⟩ := kb_if hf
          refine va_iald (D := D) hx hb hK.1 hP 9 0 rfl rfl h_5 dX12_give_42 ?_
          refine lv_bipush (v := (65 : Int32)) hx hb dX12_give_43 (by decide) ?_
          refine lv_icmp_ge (tgt := 51) hx hb dX12_give_45 (by decide) (fun c_6 => ?_) (fun c_6 => ?_)
          · rw [if_pos c_6] at hf
            refine lv_bipush (v := (-2 : Int32)) hx hb dX12_give_51 (by decide) ?_
            refine lv_istore_n (lv' := [(2, .int (-2 : Int32)), (0, .ref (a 0)), (1, .int v1)]) hx hb dX12_give_53 rfl hl (by decide) rfl (fun ls hl => ?_)
            refine lv_iconst (v := (0 : Int32)) hx hb dX12_give_54 (by decide) ?_
            refine lv_istore_n (lv' := [(3, .int (0 : Int32)), (2, .int (-2 : Int32)), (0, .ref (a 0)), (1, .int v1)]) hx hb dX12_give_55 rfl hl (by decide) rfl (fun ls hl => ?_)
            exact B_56 (f_X12_give_b10 mo bu n) ih 4096 _ _ _ _ _ _ _ hf hP hD hS (lv_sub hl [2, 3, 1, 0] rfl)
          · rw [if_neg c_6] at hf
            refine lv_goto (tgt := 179) hx hb dX12_give_48 (by decide) ?_
            exact B_179 (f_X12_give_b10 mo bu n) ih _ _ _ _ _ hf hP hD hS (lv_sub hl [0, 1] rfl)
  have B_8 : ∀ (z1 : WT) (H : Heap) (locs : List Loc) (ls : Array Slot), f_X12_give_b8 mo bu z1 = some (u1) → va_P D vwCl (w_MO dA a (some (ba 0)) q1 g2 g3 g4 g5 (wa 0) g7 g8 g9 g10 g11 g12 g13 g14 g15 g16 g17 g18 mo ++ (w_W dA wa z1 ++ (w_Bus dA ba bu))) H → va_D A (w_MO dA a (some (ba 0)) q1 g2 g3 g4 g5 (wa 0) g7 g8 g9 g10 g11 g12 g13 g14 g15 g16 g17 g18 mo ++ (w_W dA wa z1 ++ (w_Bus dA ba bu))) → va_S A s.heap H locs → lv_has ls 4 [(0, .ref (a 0))] → W p l e ({ frames := 4, cells := 0, slots := 0, locals := 88 } : Room) s m ([.ref (a 0)] : List Value).toArray below meth c H locs 0 0 Q (F0 m 8 ls []) := by
    intro z1 H locs ls hf hP hD hS hl
    rw [f_X12_give_b8] at hf
    refine lv_iconst (v := (0 : Int32)) hx hb dX12_give_8 (by decide) ?_
    refine lv_istore_n (lv' := [(1, .int (0 : Int32)), (0, .ref (a 0))]) hx hb dX12_give_9 rfl hl (by decide) rfl (fun ls hl => ?_)
    exact B_10 4096 _ _ _ _ _ hf hP hD hS (lv_sub hl [1, 0] rfl)
  have E0 : ∀ (H : Heap) (locs : List Loc), va_P D vwCl (w_MO dA a (some (ba 0)) q1 g2 g3 g4 g5 (wa 0) g7 g8 g9 g10 g11 g12 g13 g14 g15 g16 g17 g18 mo ++ (w_W dA wa y_w ++ (w_Bus dA ba bu))) H → va_D A (w_MO dA a (some (ba 0)) q1 g2 g3 g4 g5 (wa 0) g7 g8 g9 g10 g11 g12 g13 g14 g15 g16 g17 g18 mo ++ (w_W dA wa y_w ++ (w_Bus dA ba bu))) → va_S A s.heap H locs → W p l e ({ frames := 4, cells := 0, slots := 0, locals := 88 } : Room) s m ([.ref (a 0)] : List Value).toArray below meth c H locs 0 0 Q (F0 m 0 ls []) := by
    intro H locs hP hD hS
    rw [f_X12_give] at hf
    refine lv_aload_n hx hb dX12_give_0 rfl (lv_at hl 0 rfl) ?_
    refine va_get (D := D) (ci := 12) (v := .ref (wa 0)) (C := RX12) (T := TX12) (N := 35) hx hb hts kb_inX12 hown hK.1 hP 0 rfl rfl 19 (by decide) (hK.2.w ww_5_219 rfl _) (fun _ h9 => h9) rfl dX12_give_1 ?_
    refine lv_bipush (v := (55 : Int32)) hx hb dX12_give_4 (by decide) ?_
    refine lv_iconst (v := (0 : Int32)) hx hb dX12_give_6 (by decide) ?_
    obtain ⟨h_1, hf⟩ := kb_if hf
    refine va_iast (D := D) hx hb hK.1 hP hD hS 1 0 rfl rfl h_1 dX12_give_7 (fun H locs hP hD hS => ?_)
    have hP : va_P D vwCl (w_MO dA a (some (ba 0)) q1 g2 g3 g4 g5 (wa 0) g7 g8 g9 g10 g11 g12 g13 g14 g15 g16 g17 g18 mo ++ (w_W dA wa (yW_set_r y_w (upd (yW_r y_w) ((55 : Int32)).toNatClampNeg (0 : Int32))) ++ (w_Bus dA ba bu))) H := hP
    have hD : va_D A (w_MO dA a (some (ba 0)) q1 g2 g3 g4 g5 (wa 0) g7 g8 g9 g10 g11 g12 g13 g14 g15 g16 g17 g18 mo ++ (w_W dA wa (yW_set_r y_w (upd (yW_r y_w) ((55 : Int32)).toNatClampNeg (0 : Int32))) ++ (w_Bus dA ba bu))) := hD
    exact B_8 _ _ _ _ hf hP hD hS (lv_sub hl [0] rfl)
  exact E0 _ _ hP hD hS

noncomputable def f_X12_chooseStanding_b45 (mo : MOT) (y_looks : LooksT) (bu : BusT) (k2 : Int32 → WT → WhoT → LookT → Option (WT × WhoT × LookT)) (v1 : Int32) (z1 : WT) (z3 : WhoT) (z4 : LookT) : Option (WT × WhoT × LookT) := k2 (v1 + (1 : Int32)) z1 z3 z4
noncomputable def f_X12_chooseStanding_b2 (mo : MOT) (y_looks : LooksT) (bu : BusT) : Nat → Int32 → WT → WhoT → LookT → Option (WT × WhoT × LookT)
  | 0, _, _, _, _ => none
  | n + 1, v1, z1, z3, z4 => (if (bu_riders bu) ≤ v1 then some (z1, z3, z4) else if kb_in? ((0 : Int32) + v1) 56 then (if ((yW_r z1) (((0 : Int32) + v1)).toNatClampNeg) = (101 : Int32) then if kb_in? (55 : Int32) 56 then (f_X12_has ((yW_r z1) ((55 : Int32)).toNatClampNeg) v1).bind fun r5 => (if r5 = 0 then (f_X12_choosesNow mo z1 y_looks z3 z4 bu v1).bind fun r7 => f_X12_chooseStanding_b45 mo y_looks bu (f_X12_chooseStanding_b2 mo y_looks bu n) v1 r7.1 r7.2.1 r7.2.2 else f_X12_chooseStanding_b2 mo y_looks bu n (v1 + (1 : Int32)) z1 z3 z4) else none else f_X12_chooseStanding_b2 mo y_looks bu n (v1 + (1 : Int32)) z1 z3 z4) else none)
noncomputable def f_X12_chooseStanding (mo : MOT) (y_w : WT) (y_looks : LooksT) (y_who : WhoT) (y_look : LookT) (bu : BusT) : Option (WT × WhoT × LookT) := f_X12_chooseStanding_b2 mo y_looks bu 4096 (0 : Int32) y_w y_who y_look
set_option maxHeartbeats 4000000 in
set_option maxRecDepth 100000 in
theorem c_X12_chooseStanding (l : Launch) (D : va_G) (dA : Nat → ClassId) (sz : Nat) (a : Nat → Nat) (wa : Nat → Nat) (la : Nat → Nat) (ha : Nat → Nat) (ca : Nat → Nat) (ba : Nat → Nat) (q1 : Option Nat) (g2 : Nat) (g3 : Nat) (g4 : Nat) (g5 : Nat) (g10 : Nat) (g11 : Nat) (g12 : Nat) (g13 : Nat) (g14 : Nat) (g15 : Nat) (g16 : Nat) (g17 : Nat) (g18 : Nat) (mo : MOT) (y_w : WT) (y_looks : LooksT) (y_who : WhoT) (y_look : LookT) (bu : BusT) (u1 : WT) (u3 : WhoT) (u4 : LookT) (hf : f_X12_chooseStanding mo y_w y_looks y_who y_look bu = some (u1, u3, u4)) : kb_Mv l yX12_chooseStanding cX12_chooseStanding 2 none ({ frames := 8, cells := 0, slots := 0, locals := 189 } : Room) D dA [.ref (a 0)] sz (w_MO dA a (some (ba 0)) q1 g2 g3 g4 g5 (wa 0) (la 0) (ha 0) (ca 0) g10 g11 g12 g13 g14 g15 g16 g17 g18 mo ++ (w_W dA wa y_w ++ (w_Looks dA la y_looks ++ (w_Who dA ha y_who ++ (w_Look dA ca y_look ++ (w_Bus dA ba bu)))))) 0 0 (w_MO dA a (some (ba 0)) q1 g2 g3 g4 g5 (wa 0) (la 0) (ha 0) (ca 0) g10 g11 g12 g13 g14 g15 g16 g17 g18 mo ++ (w_W dA wa u1 ++ (w_Looks dA la y_looks ++ (w_Who dA ha u3 ++ (w_Look dA ca u4 ++ (w_Bus dA ba bu)))))) := by
  refine Met.ofW (cc := cX12_chooseStanding) (maxL := 2) (ret := none) (by decide) rfl ?_
  intro p e s m args below meth c s₁ B hml hv
  obtain ⟨rfl, hsz, hP, hK, hD0, hE⟩ := hv
  have hx := B.exec
  have hb := B.bytes
  have hr := B.returns
  have hown : s.vm.findClass RX12 = some m.cls := findClass_of_methodNamed B.named
  have hlocks := B.notSynchronized
  have hts : ∀ w ∈ kb_gw, w.before ([.ref (a 0)] : List Value).toArray s = true := fun w hw => hK.2.1 w hw _
  subst hsz
  have hD := hD0.self (sz := s.heap.size)
  generalize hAe : va_A (w_MO dA a (some (ba 0)) q1 g2 g3 g4 g5 (wa 0) (la 0) (ha 0) (ca 0) g10 g11 g12 g13 g14 g15 g16 g17 g18 mo ++ (w_W dA wa y_w ++ (w_Looks dA la y_looks ++ (w_Who dA ha y_who ++ (w_Look dA ca y_look ++ (w_Bus dA ba bu)))))) s.heap.size = A at hD hE ⊢
  have hA : ∀ q : Nat, s.heap.size ≤ q → A q := fun q h => by rw [← hAe]; exact Or.inr h
  have hS : va_S A s.heap s.heap [] := va_S.rf
  have hl := lv_entry ([.ref (a 0)]) (n := 2) (Nat.le_of_ble_eq_true rfl)
  rw [lg_entry_eq]
  generalize (lg_sl ([.ref (a 0)]) ++ List.replicate (2 - (lg_sl ([.ref (a 0)])).length) Slot.unset).toArray = ls at hl ⊢
  have hl : lv_has ls 2 [(0, .ref (a 0))] := hl
  generalize hQ : MQ below (va_Qv (fun (_ : Unit) => True) (kb_B D A (w_MO dA a (some (ba 0)) q1 g2 g3 g4 g5 (wa 0) (la 0) (ha 0) (ca 0) g10 g11 g12 g13 g14 g15 g16 g17 g18 mo ++ (w_W dA wa u1 ++ (w_Looks dA la y_looks ++ (w_Who dA ha u3 ++ (w_Look dA ca u4 ++ (w_Bus dA ba bu))))))) A) ([.ref (a 0)] : List Value).toArray s 0 0 A = Q
  show W p l e ({ frames := 8, cells := 0, slots := 0, locals := 189 } : Room) s m ([.ref (a 0)] : List Value).toArray below meth c s.heap [] 0 0 Q (F0 m 0 ls [])
  have RET : ∀ (w1 : WT) (w3 : WhoT) (w4 : LookT) (H : Heap) (locs : List Loc) (ls : Array Slot) (pc : Nat), some (w1, w3, w4) = some (u1, u3, u4) → va_P D vwCl (w_MO dA a (some (ba 0)) q1 g2 g3 g4 g5 (wa 0) (la 0) (ha 0) (ca 0) g10 g11 g12 g13 g14 g15 g16 g17 g18 mo ++ (w_W dA wa w1 ++ (w_Looks dA la y_looks ++ (w_Who dA ha w3 ++ (w_Look dA ca w4 ++ (w_Bus dA ba bu)))))) H → va_D A (w_MO dA a (some (ba 0)) q1 g2 g3 g4 g5 (wa 0) (la 0) (ha 0) (ca 0) g10 g11 g12 g13 g14 g15 g16 g17 g18 mo ++ (w_W dA wa w1 ++ (w_Looks dA la y_looks ++ (w_Who dA ha w3 ++ (w_Look dA ca w4 ++ (w_Bus dA ba bu)))))) → va_S A s.heap H locs → decode cX12_chooseStanding pc = .ok (.return_, 1) → W p l e ({ frames := 8, cells := 0, slots := 0, locals := 189 } : Room) s m ([.ref (a 0)] : List Value).toArray below meth c H locs 0 0 Q (F0 m pc ls []) := by
    intro w1 w3 w4 H locs ls pc hq hP hD hS hd
    cases hq
    rw [← hQ]
    exact W.vret hx hb hr (fun t ht hW => ⟨⟨(), rfl, trivial, by rw [ht]; exact hP, hD⟩, hS.F ht⟩) hS.2.2 hd
  have B_45 : ∀ (k2 : Int32 → WT → WhoT → LookT → Option (WT × WhoT × LookT)) (hk2 : ∀ (v1 : Int32) (z1 : WT) (z3 : WhoT) (z4 : LookT) (H : Heap) (locs : List Loc) (ls : Array Slot), k2 v1 z1 z3 z4 = some (u1, u3, u4) → va_P D vwCl (w_MO dA a (some (ba 0)) q1 g2 g3 g4 g5 (wa 0) (la 0) (ha 0) (ca 0) g10 g11 g12 g13 g14 g15 g16 g17 g18 mo ++ (w_W dA wa z1 ++ (w_Looks dA la y_looks ++ (w_Who dA ha z3 ++ (w_Look dA ca z4 ++ (w_Bus dA ba bu)))))) H → va_D A (w_MO dA a (some (ba 0)) q1 g2 g3 g4 g5 (wa 0) (la 0) (ha 0) (ca 0) g10 g11 g12 g13 g14 g15 g16 g17 g18 mo ++ (w_W dA wa z1 ++ (w_Looks dA la y_looks ++ (w_Who dA ha z3 ++ (w_Look dA ca z4 ++ (w_Bus dA ba bu)))))) → va_S A s.heap H locs → lv_has ls 2 [(0, .ref (a 0)), (1, .int v1)] → W p l e ({ frames := 8, cells := 0, slots := 0, locals := 189 } : Room) s m ([.ref (a 0)] : List Value).toArray below meth c H locs 0 0 Q (F0 m 2 ls [])) (v1 : Int32) (z1 : WT) (z3 : WhoT) (z4 : LookT) (H : Heap) (locs : List Loc) (ls : Array Slot), f_X12_chooseStanding_b45 mo y_looks bu k2 v1 z1 z3 z4 = some (u1, u3, u4) → va_P D vwCl (w_MO dA a (some (ba 0)) q1 g2 g3 g4 g5 (wa 0) (la 0) (ha 0) (ca 0) g10 g11 g12 g13 g14 g15 g16 g17 g18 mo ++ (w_W dA wa z1 ++ (w_Looks dA la y_looks ++ (w_Who dA ha z3 ++ (w_Look dA ca z4 ++ (w_Bus dA ba bu)))))) H → va_D A (w_MO dA a (some (ba 0)) q1 g2 g3 g4 g5 (wa 0) (la 0) (ha 0) (ca 0) g10 g11 g12 g13 g14 g15 g16 g17 g18 mo ++ (w_W dA wa z1 ++ (w_Looks dA la y_looks ++ (w_Who dA ha z3 ++ (w_Look dA ca z4 ++ (w_Bus dA ba bu)))))) → va_S A s.heap H locs → lv_has ls 2 [(0, .ref (a 0)), (1, .int v1)] → W p l e ({ frames := 8, cells := 0, slots := 0, locals := 189 } : Room) s m ([.ref (a 0)] : List Value).toArray below meth c H locs 0 0 Q (F0 m 45 ls []) := by
    intro k2 hk2 v1 z1 z3 z4 H locs ls hf hP hD hS hl
    rw [f_X12_chooseStanding_b45] at hf
    refine lv_iinc (v := (v1 + (1 : Int32))) (lv' := [(1, .int (v1 + (1 : Int32))), (0, .ref (a 0))]) hx hb dX12_chooseStanding_45 hl (k := 1) rfl (by rfl) (by decide) rfl (fun ls hl => ?_)
    refine lv_goto (tgt := 2) hx hb dX12_chooseStanding_48 (by decide) ?_
    exact hk2 _ _ _ _ _ _ _ hf hP hD hS (lv_sub hl [1, 0] rfl)
  have B_2 : ∀ (n : Nat) (v1 : Int32) (z1 : WT) (z3 : WhoT) (z4 : LookT) (H : Heap) (locs : List Loc) (ls : Array Slot), f_X12_chooseStanding_b2 mo y_looks bu n v1 z1 z3 z4 = some (u1, u3, u4) → va_P D vwCl (w_MO dA a (some (ba 0)) q1 g2 g3 g4 g5 (wa 0) (la 0) (ha 0) (ca 0) g10 g11 g12 g13 g14 g15 g16 g17 g18 mo ++ (w_W dA wa z1 ++ (w_Looks dA la y_looks ++ (w_Who dA ha z3 ++ (w_Look dA ca z4 ++ (w_Bus dA ba bu)))))) H → va_D A (w_MO dA a (some (ba 0)) q1 g2 g3 g4 g5 (wa 0) (la 0) (ha 0) (ca 0) g10 g11 g12 g13 g14 g15 g16 g17 g18 mo ++ (w_W dA wa z1 ++ (w_Looks dA la y_looks ++ (w_Who dA ha z3 ++ (w_Look dA ca z4 ++ (w_Bus dA ba bu)))))) → va_S A s.heap H locs → lv_has ls 2 [(0, .ref (a 0)), (1, .int v1)] → W p l e ({ frames := 8, cells := 0, slots := 0, locals := 189 } : Room) s m ([.ref (a 0)] : List Value).toArray below meth c H locs 0 0 Q (F0 m 2 ls []) := by
    intro n
    induction n with
    | zero =>
      intro v1 z1 z3 z4 H locs ls hf
      exact absurd hf (by simp [f_X12_chooseStanding_b2])
    | succ n ih =>
      intro v1 z1 z3 z4 H locs ls hf hP hD hS hl
      rw [f_X12_chooseStanding_b2] at hf
      refine lv_iload_n hx hb dX12_chooseStanding_2 rfl (lv_at hl 1 rfl) ?_
      refine lv_aload_n hx hb dX12_chooseStanding_3 rfl (lv_at hl 0 rfl) ?_
      refine va_get (D := D) (ci := 12) (v := .ref (ba 0)) (C := RX12) (T := TX12) (N := 35) hx hb hts kb_inX12 hown hK.1 hP 0 rfl rfl 3 (by decide) (hK.2.w ww_5_203 rfl _) (fun _ h9 => h9) rfl dX12_chooseStanding_4 ?_
      refine va_getN (D := D) (ci := 11) (v := .int (bu_riders bu)) (C := RX11) (T := TX11) (N := 26) hx hb hts kb_inX11 hown hK.1 hP 5 rfl rfl 7 (by decide) (hK.2.nb ww_6_96 rfl rfl _) (fun _ h9 => h9) rfl dX12_chooseStanding_7 ?_
      refine lv_icmp_ge (tgt := 51) hx hb dX12_chooseStanding_10 (by decide) (fun c_1 => ?_) (fun c_1 => ?_)
      · rw [if_pos c_1] at hf
        exact RET _ _ _ H _ ls 51 hf hP hD hS dX12_chooseStanding_51
      · rw [if_neg c_1] at hf
        refine lv_aload_n hx hb dX12_chooseStanding_13 rfl (lv_at hl 0 rfl) ?_
        refine va_get (D := D) (ci := 12) (v := .ref (wa 0)) (C := RX12) (T := TX12) (N := 35) hx hb hts kb_inX12 hown hK.1 hP 0 rfl rfl 19 (by decide) (hK.2.w ww_5_219 rfl _) (fun _ h9 => h9) rfl dX12_chooseStanding_14 ?_
        refine lv_iconst (v := (0 : Int32)) hx hb dX12_chooseStanding_17 (by decide) ?_
        refine lv_iload_n hx hb dX12_chooseStanding_18 rfl (lv_at hl 1 rfl) ?_
        refine lv_iadd hx hb dX12_chooseStanding_19 ?_
        obtain ⟨h_2, hf⟩ := kb_if hf
        refine va_iald (D := D) hx hb hK.1 hP 1 0 rfl rfl h_2 dX12_chooseStanding_20 ?_
        refine lv_bipush (v := (101 : Int32)) hx hb dX12_chooseStanding_21 (by decide) ?_
        refine lv_icmp_ne (tgt := 45) hx hb dX12_chooseStanding_23 (by decide) (fun c_3 => ?_) (fun c_3 => ?_)
        · rw [if_neg c_3] at hf
          refine lv_iinc (v := (v1 + (1 : Int32))) (lv' := [(1, .int (v1 + (1 : Int32))), (0, .ref (a 0))]) hx hb dX12_chooseStanding_45 hl (k := 1) rfl (by rfl) (by decide) rfl (fun ls hl => ?_)
          refine lv_goto (tgt := 2) hx hb dX12_chooseStanding_48 (by decide) ?_
          exact ih _ _ _ _ _ _ _ hf hP hD hS (lv_sub hl [1, 0] rfl)
        · rw [if_pos c_3] at hf
          refine lv_aload_n hx hb dX12_chooseStanding_26 rfl (lv_at hl 0 rfl) ?_
          refine va_get (D := D) (ci := 12) (v := .ref (wa 0)) (C := RX12) (T := TX12) (N := 35) hx hb hts kb_inX12 hown hK.1 hP 0 rfl rfl 19 (by decide) (hK.2.w ww_5_219 rfl _) (fun _ h9 => h9) rfl dX12_chooseStanding_27 ?_
          refine lv_bipush (v := (55 : Int32)) hx hb dX12_chooseStanding_30 (by decide) ?_
          obtain ⟨h_4, hf⟩ := kb_if hf
          refine va_iald (D := D) hx hb hK.1 hP 1 0 rfl rfl h_4 dX12_chooseStanding_32 ?_
          refine lv_iload_n hx hb dX12_chooseStanding_33 rfl (lv_at hl 1 rfl) ?_
          obtain ⟨r5, hc5, hf⟩ := kb_bind hf
          refine kb_ci (ws2 := (w_MO dA a (some (ba 0)) q1 g2 g3 g4 g5 (wa 0) (la 0) (ha 0) (ca 0) g10 g11 g12 g13 g14 g15 g16 g17 g18 mo ++ (w_W dA wa z1 ++ (w_Looks dA la y_looks ++ (w_Who dA ha z3 ++ (w_Look dA ca z4 ++ (w_Bus dA ba bu))))))) (kb_rS (n := 2) (As := [.int ((yW_r z1) ((55 : Int32)).toNatClampNeg), .int v1]) (rest := []) hx hb hml hown hK (c_X12_has l D dA H.size ((yW_r z1) ((55 : Int32)).toNatClampNeg) v1 r5 hc5) ⟨ww_7_182, ww_7_180, ww_7_181, ww_1_12, by decide, by decide⟩ rfl rfl (by decide +kernel) ⟨Nat.le_of_ble_eq_true rfl, Nat.le_of_ble_eq_true rfl⟩ hP hD hS hA hE [] rfl (by decide) rfl hl.1 rfl (Nat.le_of_ble_eq_true rfl) dX12_chooseStanding_34 ⟨Nat.le_of_ble_eq_true rfl, Nat.le_of_ble_eq_true rfl⟩) hP hD hS hA [] [0, 1, 2, 3, 4, 5, 6, 7, 8, 9, 10, 11, 12, 13, 14, 15, 16, 17, 18, 19, 20] [0, 1, 2, 3, 4, 5, 6, 7, 8, 9, 10, 11, 12, 13, 14, 15, 16, 17, 18, 19, 20] rfl rfl (by decide) (by decide) rfl (by decide) (fun H locs hP hD hS => ?_)
          refine lv_if_ne (tgt := 45) hx hb dX12_chooseStanding_37 (by decide) (fun c_6 => ?_) (fun c_6 => ?_)
          · rw [if_neg c_6] at hf
            refine lv_iinc (v := (v1 + (1 : Int32))) (lv' := [(1, .int (v1 + (1 : Int32))), (0, .ref (a 0))]) hx hb dX12_chooseStanding_45 hl (k := 1) rfl (by rfl) (by decide) rfl (fun ls hl => ?_)
            refine lv_goto (tgt := 2) hx hb dX12_chooseStanding_48 (by decide) ?_
            exact ih _ _ _ _ _ _ _ hf hP hD hS (lv_sub hl [1, 0] rfl)
          · rw [if_pos c_6] at hf
            refine lv_aload_n hx hb dX12_chooseStanding_40 rfl (lv_at hl 0 rfl) ?_
            refine lv_iload_n hx hb dX12_chooseStanding_41 rfl (lv_at hl 1 rfl) ?_
            obtain ⟨r7, hc7, hf⟩ := kb_bind hf
            refine kb_cv (ws2 := (w_MO dA a (some (ba 0)) q1 g2 g3 g4 g5 (wa 0) (la 0) (ha 0) (ca 0) g10 g11 g12 g13 g14 g15 g16 g17 g18 mo ++ (w_W dA wa r7.1 ++ (w_Looks dA la y_looks ++ (w_Who dA ha r7.2.1 ++ (w_Look dA ca r7.2.2 ++ (w_Bus dA ba bu))))))) (kb_rV (n := 1) (As := [.int v1]) (rest := []) hx hb hml hown hK (c_X12_choosesNow l D dA H.size a wa la ha ca ba q1 g2 g3 g4 g5 g10 g11 g12 g13 g14 g15 g16 g17 g18 mo z1 y_looks z3 z4 bu v1 r7.1 r7.2.1 r7.2.2 hc7) ⟨ww_7_190, ww_7_187, ww_7_189, ws_86, ww_1_12, rfl, by decide, by decide⟩ rfl rfl (by decide +kernel) ⟨Nat.le_of_ble_eq_true rfl, Nat.le_of_ble_eq_true rfl⟩ hP hD hS hA hE [0, 1, 2, 3, 4, 5, 6, 7, 8, 9, 10, 11, 12, 13, 14, 15, 16, 17, 18, 19, 20] rfl (by decide) 0 rfl rfl rfl hl.1 rfl (Nat.le_of_ble_eq_true rfl) dX12_chooseStanding_42 ⟨Nat.le_of_ble_eq_true rfl, Nat.le_of_ble_eq_true rfl⟩) hP hD hS hA [0, 1, 2, 3, 4, 5, 6, 7, 8, 9, 10, 11, 12, 13, 14, 15, 16, 17, 18, 19, 20] [] [0, 1, 2, 3, 4, 5, 6, 7, 8, 9, 10, 11, 12, 13, 14, 15, 16, 17, 18, 19, 20] rfl rfl (by decide) (by decide) rfl (by decide) (fun H locs hP hD hS => ?_)
            exact B_45 (f_X12_chooseStanding_b2 mo y_looks bu n) ih _ _ _ _ _ _ _ hf hP hD hS (lv_sub hl [0, 1] rfl)
  have E0 : ∀ (H : Heap) (locs : List Loc), va_P D vwCl (w_MO dA a (some (ba 0)) q1 g2 g3 g4 g5 (wa 0) (la 0) (ha 0) (ca 0) g10 g11 g12 g13 g14 g15 g16 g17 g18 mo ++ (w_W dA wa y_w ++ (w_Looks dA la y_looks ++ (w_Who dA ha y_who ++ (w_Look dA ca y_look ++ (w_Bus dA ba bu)))))) H → va_D A (w_MO dA a (some (ba 0)) q1 g2 g3 g4 g5 (wa 0) (la 0) (ha 0) (ca 0) g10 g11 g12 g13 g14 g15 g16 g17 g18 mo ++ (w_W dA wa y_w ++ (w_Looks dA la y_looks ++ (w_Who dA ha y_who ++ (w_Look dA ca y_look ++ (w_Bus dA ba bu)))))) → va_S A s.heap H locs → W p l e ({ frames := 8, cells := 0, slots := 0, locals := 189 } : Room) s m ([.ref (a 0)] : List Value).toArray below meth c H locs 0 0 Q (F0 m 0 ls []) := by
    intro H locs hP hD hS
    rw [f_X12_chooseStanding] at hf
    refine lv_iconst (v := (0 : Int32)) hx hb dX12_chooseStanding_0 (by decide) ?_
    refine lv_istore_n (lv' := [(1, .int (0 : Int32)), (0, .ref (a 0))]) hx hb dX12_chooseStanding_1 rfl hl (by decide) rfl (fun ls hl => ?_)
    exact B_2 4096 _ _ _ _ _ _ _ hf hP hD hS (lv_sub hl [1, 0] rfl)
  exact E0 _ _ hP hD hS

noncomputable def f_X12_beforeGettingOn_b13 (mo : MOT) (y_looks : LooksT) (bu : BusT) (z1 : WT) (z3 : WhoT) (z4 : LookT) : Option (WT × WhoT × LookT) := some (z1, z3, z4)
noncomputable def f_X12_beforeGettingOn_b9 (mo : MOT) (y_looks : LooksT) (bu : BusT) (z1 : WT) (z3 : WhoT) (z4 : LookT) : Option (WT × WhoT × LookT) := (f_X12_chooseStanding mo z1 y_looks z3 z4 bu).bind fun r3 => f_X12_beforeGettingOn_b13 mo y_looks bu r3.1 r3.2.1 r3.2.2
noncomputable def f_X12_beforeGettingOn_b5 (mo : MOT) (y_looks : LooksT) (bu : BusT) (z1 : WT) (z3 : WhoT) (z4 : LookT) : Option (WT × WhoT × LookT) := (f_X12_give mo z1 bu).bind fun r2 => f_X12_beforeGettingOn_b9 mo y_looks bu r2 z3 z4
noncomputable def f_X12_beforeGettingOn (mo : MOT) (y_w : WT) (y_looks : LooksT) (y_who : WhoT) (y_look : LookT) (bu : BusT) (x0 : Int32) : Option (WT × WhoT × LookT) := (f_X12_getOff mo y_w bu x0).bind fun r1 => f_X12_beforeGettingOn_b5 mo y_looks bu r1 y_who y_look
set_option maxHeartbeats 4000000 in
set_option maxRecDepth 100000 in
theorem c_X12_beforeGettingOn (l : Launch) (D : va_G) (dA : Nat → ClassId) (sz : Nat) (a : Nat → Nat) (wa : Nat → Nat) (la : Nat → Nat) (ha : Nat → Nat) (ca : Nat → Nat) (ba : Nat → Nat) (q1 : Option Nat) (g2 : Nat) (g3 : Nat) (g4 : Nat) (g5 : Nat) (g10 : Nat) (g11 : Nat) (g12 : Nat) (g13 : Nat) (g14 : Nat) (g15 : Nat) (g16 : Nat) (g17 : Nat) (g18 : Nat) (mo : MOT) (y_w : WT) (y_looks : LooksT) (y_who : WhoT) (y_look : LookT) (bu : BusT) (x0 : Int32) (u1 : WT) (u3 : WhoT) (u4 : LookT) (hf : f_X12_beforeGettingOn mo y_w y_looks y_who y_look bu x0 = some (u1, u3, u4)) : kb_Mv l yX12_beforeGettingOn cX12_beforeGettingOn 2 none ({ frames := 9, cells := 0, slots := 0, locals := 210 } : Room) D dA [.ref (a 0), .int x0] sz (w_MO dA a (some (ba 0)) q1 g2 g3 g4 g5 (wa 0) (la 0) (ha 0) (ca 0) g10 g11 g12 g13 g14 g15 g16 g17 g18 mo ++ (w_W dA wa y_w ++ (w_Looks dA la y_looks ++ (w_Who dA ha y_who ++ (w_Look dA ca y_look ++ (w_Bus dA ba bu)))))) 0 0 (w_MO dA a (some (ba 0)) q1 g2 g3 g4 g5 (wa 0) (la 0) (ha 0) (ca 0) g10 g11 g12 g13 g14 g15 g16 g17 g18 mo ++ (w_W dA wa u1 ++ (w_Looks dA la y_looks ++ (w_Who dA ha u3 ++ (w_Look dA ca u4 ++ (w_Bus dA ba bu)))))) := by
  refine Met.ofW (cc := cX12_beforeGettingOn) (maxL := 2) (ret := none) (by decide) rfl ?_
  intro p e s m args below meth c s₁ B hml hv
  obtain ⟨rfl, hsz, hP, hK, hD0, hE⟩ := hv
  have hx := B.exec
  have hb := B.bytes
  have hr := B.returns
  have hown : s.vm.findClass RX12 = some m.cls := findClass_of_methodNamed B.named
  have hlocks := B.notSynchronized
  have hts : ∀ w ∈ kb_gw, w.before ([.ref (a 0), .int x0] : List Value).toArray s = true := fun w hw => hK.2.1 w hw _
  subst hsz
  have hD := hD0.self (sz := s.heap.size)
  generalize hAe : va_A (w_MO dA a (some (ba 0)) q1 g2 g3 g4 g5 (wa 0) (la 0) (ha 0) (ca 0) g10 g11 g12 g13 g14 g15 g16 g17 g18 mo ++ (w_W dA wa y_w ++ (w_Looks dA la y_looks ++ (w_Who dA ha y_who ++ (w_Look dA ca y_look ++ (w_Bus dA ba bu)))))) s.heap.size = A at hD hE ⊢
  have hA : ∀ q : Nat, s.heap.size ≤ q → A q := fun q h => by rw [← hAe]; exact Or.inr h
  have hS : va_S A s.heap s.heap [] := va_S.rf
  have hl := lv_entry ([.ref (a 0), .int x0]) (n := 2) (Nat.le_of_ble_eq_true rfl)
  rw [lg_entry_eq]
  generalize (lg_sl ([.ref (a 0), .int x0]) ++ List.replicate (2 - (lg_sl ([.ref (a 0), .int x0])).length) Slot.unset).toArray = ls at hl ⊢
  have hl : lv_has ls 2 [(0, .ref (a 0)), (1, .int x0)] := hl
  generalize hQ : MQ below (va_Qv (fun (_ : Unit) => True) (kb_B D A (w_MO dA a (some (ba 0)) q1 g2 g3 g4 g5 (wa 0) (la 0) (ha 0) (ca 0) g10 g11 g12 g13 g14 g15 g16 g17 g18 mo ++ (w_W dA wa u1 ++ (w_Looks dA la y_looks ++ (w_Who dA ha u3 ++ (w_Look dA ca u4 ++ (w_Bus dA ba bu))))))) A) ([.ref (a 0), .int x0] : List Value).toArray s 0 0 A = Q
  show W p l e ({ frames := 9, cells := 0, slots := 0, locals := 210 } : Room) s m ([.ref (a 0), .int x0] : List Value).toArray below meth c s.heap [] 0 0 Q (F0 m 0 ls [])
  have RET : ∀ (w1 : WT) (w3 : WhoT) (w4 : LookT) (H : Heap) (locs : List Loc) (ls : Array Slot) (pc : Nat), some (w1, w3, w4) = some (u1, u3, u4) → va_P D vwCl (w_MO dA a (some (ba 0)) q1 g2 g3 g4 g5 (wa 0) (la 0) (ha 0) (ca 0) g10 g11 g12 g13 g14 g15 g16 g17 g18 mo ++ (w_W dA wa w1 ++ (w_Looks dA la y_looks ++ (w_Who dA ha w3 ++ (w_Look dA ca w4 ++ (w_Bus dA ba bu)))))) H → va_D A (w_MO dA a (some (ba 0)) q1 g2 g3 g4 g5 (wa 0) (la 0) (ha 0) (ca 0) g10 g11 g12 g13 g14 g15 g16 g17 g18 mo ++ (w_W dA wa w1 ++ (w_Looks dA la y_looks ++ (w_Who dA ha w3 ++ (w_Look dA ca w4 ++ (w_Bus dA ba bu)))))) → va_S A s.heap H locs → decode cX12_beforeGettingOn pc = .ok (.return_, 1) → W p l e ({ frames := 9, cells := 0, slots := 0, locals := 210 } : Room) s m ([.ref (a 0), .int x0] : List Value).toArray below meth c H locs 0 0 Q (F0 m pc ls []) := by
    intro w1 w3 w4 H locs ls pc hq hP hD hS hd
    cases hq
    rw [← hQ]
    exact W.vret hx hb hr (fun t ht hW => ⟨⟨(), rfl, trivial, by rw [ht]; exact hP, hD⟩, hS.F ht⟩) hS.2.2 hd
  have B_13 : ∀ (z1 : WT) (z3 : WhoT) (z4 : LookT) (H : Heap) (locs : List Loc) (ls : Array Slot), f_X12_beforeGettingOn_b13 mo y_looks bu z1 z3 z4 = some (u1, u3, u4) → va_P D vwCl (w_MO dA a (some (ba 0)) q1 g2 g3 g4 g5 (wa 0) (la 0) (ha 0) (ca 0) g10 g11 g12 g13 g14 g15 g16 g17 g18 mo ++ (w_W dA wa z1 ++ (w_Looks dA la y_looks ++ (w_Who dA ha z3 ++ (w_Look dA ca z4 ++ (w_Bus dA ba bu)))))) H → va_D A (w_MO dA a (some (ba 0)) q1 g2 g3 g4 g5 (wa 0) (la 0) (ha 0) (ca 0) g10 g11 g12 g13 g14 g15 g16 g17 g18 mo ++ (w_W dA wa z1 ++ (w_Looks dA la y_looks ++ (w_Who dA ha z3 ++ (w_Look dA ca z4 ++ (w_Bus dA ba bu)))))) → va_S A s.heap H locs → lv_has ls 2 [] → W p l e ({ frames := 9, cells := 0, slots := 0, locals := 210 } : Room) s m ([.ref (a 0), .int x0] : List Value).toArray below meth c H locs 0 0 Q (F0 m 13 ls []) := by
    intro z1 z3 z4 H locs ls hf hP hD hS hl
    rw [f_X12_beforeGettingOn_b13] at hf
    exact RET _ _ _ H _ ls 13 hf hP hD hS dX12_beforeGettingOn_13
  have B_9 : ∀ (z1 : WT) (z3 : WhoT) (z4 : LookT) (H : Heap) (locs : List Loc) (ls : Array Slot), f_X12_beforeGettingOn_b9 mo y_looks bu z1 z3 z4 = some (u1, u3, u4) → va_P D vwCl (w_MO dA a (some (ba 0)) q1 g2 g3 g4 g5 (wa 0) (la 0) (ha 0) (ca 0) g10 g11 g12 g13 g14 g15 g16 g17 g18 mo ++ (w_W dA wa z1 ++ (w_Looks dA la y_looks ++ (w_Who dA ha z3 ++ (w_Look dA ca z4 ++ (w_Bus dA ba bu)))))) H → va_D A (w_MO dA a (some (ba 0)) q1 g2 g3 g4 g5 (wa 0) (la 0) (ha 0) (ca 0) g10 g11 g12 g13 g14 g15 g16 g17 g18 mo ++ (w_W dA wa z1 ++ (w_Looks dA la y_looks ++ (w_Who dA ha z3 ++ (w_Look dA ca z4 ++ (w_Bus dA ba bu)))))) → va_S A s.heap H locs → lv_has ls 2 [(0, .ref (a 0))] → W p l e ({ frames := 9, cells := 0, slots := 0, locals := 210 } : Room) s m ([.ref (a 0), .int x0] : List Value).toArray below meth c H locs 0 0 Q (F0 m 9 ls []) := by
    intro z1 z3 z4 H locs ls hf hP hD hS hl
    rw [f_X12_beforeGettingOn_b9] at hf
    refine lv_aload_n hx hb dX12_beforeGettingOn_9 rfl (lv_at hl 0 rfl) ?_
    obtain ⟨r3, hc3, hf⟩ := kb_bind hf
    refine kb_cv (ws2 := (w_MO dA a (some (ba 0)) q1 g2 g3 g4 g5 (wa 0) (la 0) (ha 0) (ca 0) g10 g11 g12 g13 g14 g15 g16 g17 g18 mo ++ (w_W dA wa r3.1 ++ (w_Looks dA la y_looks ++ (w_Who dA ha r3.2.1 ++ (w_Look dA ca r3.2.2 ++ (w_Bus dA ba bu))))))) (kb_rV (n := 0) (As := []) (rest := []) hx hb hml hown hK (c_X12_chooseStanding l D dA H.size a wa la ha ca ba q1 g2 g3 g4 g5 g10 g11 g12 g13 g14 g15 g16 g17 g18 mo z1 y_looks z3 z4 bu r3.1 r3.2.1 r3.2.2 hc3) ⟨ww_7_186, ww_7_183, ww_7_185, ws_85, ww_1_12, rfl, by decide, by decide⟩ rfl rfl (by decide +kernel) ⟨Nat.le_of_ble_eq_true rfl, Nat.le_of_ble_eq_true rfl⟩ hP hD hS hA hE [0, 1, 2, 3, 4, 5, 6, 7, 8, 9, 10, 11, 12, 13, 14, 15, 16, 17, 18, 19, 20] rfl (by decide) 0 rfl rfl rfl hl.1 rfl (Nat.le_of_ble_eq_true rfl) dX12_beforeGettingOn_10 ⟨Nat.le_of_ble_eq_true rfl, Nat.le_of_ble_eq_true rfl⟩) hP hD hS hA [0, 1, 2, 3, 4, 5, 6, 7, 8, 9, 10, 11, 12, 13, 14, 15, 16, 17, 18, 19, 20] [] [0, 1, 2, 3, 4, 5, 6, 7, 8, 9, 10, 11, 12, 13, 14, 15, 16, 17, 18, 19, 20] rfl rfl (by decide) (by decide) rfl (by decide) (fun H locs hP hD hS => ?_)
    exact B_13 _ _ _ _ _ _ hf hP hD hS (lv_sub hl [] rfl)
  have B_5 : ∀ (z1 : WT) (z3 : WhoT) (z4 : LookT) (H : Heap) (locs : List Loc) (ls : Array Slot), f_X12_beforeGettingOn_b5 mo y_looks bu z1 z3 z4 = some (u1, u3, u4) → va_P D vwCl (w_MO dA a (some (ba 0)) q1 g2 g3 g4 g5 (wa 0) (la 0) (ha 0) (ca 0) g10 g11 g12 g13 g14 g15 g16 g17 g18 mo ++ (w_W dA wa z1 ++ (w_Looks dA la y_looks ++ (w_Who dA ha z3 ++ (w_Look dA ca z4 ++ (w_Bus dA ba bu)))))) H → va_D A (w_MO dA a (some (ba 0)) q1 g2 g3 g4 g5 (wa 0) (la 0) (ha 0) (ca 0) g10 g11 g12 g13 g14 g15 g16 g17 g18 mo ++ (w_W dA wa z1 ++ (w_Looks dA la y_looks ++ (w_Who dA ha z3 ++ (w_Look dA ca z4 ++ (w_Bus dA ba bu)))))) → va_S A s.heap H locs → lv_has ls 2 [(0, .ref (a 0))] → W p l e ({ frames := 9, cells := 0, slots := 0, locals := 210 } : Room) s m ([.ref (a 0), .int x0] : List Value).toArray below meth c H locs 0 0 Q (F0 m 5 ls []) := by
    intro z1 z3 z4 H locs ls hf hP hD hS hl
    rw [f_X12_beforeGettingOn_b5] at hf
    refine lv_aload_n hx hb dX12_beforeGettingOn_5 rfl (lv_at hl 0 rfl) ?_
    obtain ⟨r2, hc2, hf⟩ := kb_bind hf
    refine kb_cv (ws2 := (w_MO dA a (some (ba 0)) q1 g2 g3 g4 g5 (wa 0) (la 0) (ha 0) (ca 0) g10 g11 g12 g13 g14 g15 g16 g17 g18 mo ++ (w_W dA wa r2 ++ (w_Looks dA la y_looks ++ (w_Who dA ha z3 ++ (w_Look dA ca z4 ++ (w_Bus dA ba bu))))))) (kb_rV (n := 0) (As := []) (rest := []) hx hb hml hown hK (c_X12_give l D dA H.size a wa ba q1 g2 g3 g4 g5 (la 0) (ha 0) (ca 0) g10 g11 g12 g13 g14 g15 g16 g17 g18 mo z1 bu r2 hc2) ⟨ww_7_163, ww_7_160, ww_7_162, ws_80, ww_1_12, rfl, by decide, by decide⟩ rfl rfl (by decide +kernel) ⟨Nat.le_of_ble_eq_true rfl, Nat.le_of_ble_eq_true rfl⟩ hP hD hS hA hE [0, 1, 5, 6, 7, 8, 9, 10, 11, 12, 13, 14, 15, 16, 17, 18, 19, 20] rfl (by decide) 0 rfl rfl rfl hl.1 rfl (Nat.le_of_ble_eq_true rfl) dX12_beforeGettingOn_6 ⟨Nat.le_of_ble_eq_true rfl, Nat.le_of_ble_eq_true rfl⟩) hP hD hS hA [0, 1, 5, 6, 7, 8, 9, 10, 11, 12, 13, 14, 15, 16, 17, 18, 19, 20] [2, 3, 4] [3, 4, 0, 1, 2, 5, 6, 7, 8, 9, 10, 11, 12, 13, 14, 15, 16, 17, 18, 19, 20] rfl rfl (by decide) (by decide) rfl (by decide) (fun H locs hP hD hS => ?_)
    exact B_9 _ _ _ _ _ _ hf hP hD hS (lv_sub hl [0] rfl)
  have E0 : ∀ (H : Heap) (locs : List Loc), va_P D vwCl (w_MO dA a (some (ba 0)) q1 g2 g3 g4 g5 (wa 0) (la 0) (ha 0) (ca 0) g10 g11 g12 g13 g14 g15 g16 g17 g18 mo ++ (w_W dA wa y_w ++ (w_Looks dA la y_looks ++ (w_Who dA ha y_who ++ (w_Look dA ca y_look ++ (w_Bus dA ba bu)))))) H → va_D A (w_MO dA a (some (ba 0)) q1 g2 g3 g4 g5 (wa 0) (la 0) (ha 0) (ca 0) g10 g11 g12 g13 g14 g15 g16 g17 g18 mo ++ (w_W dA wa y_w ++ (w_Looks dA la y_looks ++ (w_Who dA ha y_who ++ (w_Look dA ca y_look ++ (w_Bus dA ba bu)))))) → va_S A s.heap H locs → W p l e ({ frames := 9, cells := 0, slots := 0, locals := 210 } : Room) s m ([.ref (a 0), .int x0] : List Value).toArray below meth c H locs 0 0 Q (F0 m 0 ls []) := by
    intro H locs hP hD hS
    rw [f_X12_beforeGettingOn] at hf
    refine lv_aload_n hx hb dX12_beforeGettingOn_0 rfl (lv_at hl 0 rfl) ?_
    refine lv_iload_n hx hb dX12_beforeGettingOn_1 rfl (lv_at hl 1 rfl) ?_
    obtain ⟨r1, hc1, hf⟩ := kb_bind hf
    refine kb_cv (ws2 := (w_MO dA a (some (ba 0)) q1 g2 g3 g4 g5 (wa 0) (la 0) (ha 0) (ca 0) g10 g11 g12 g13 g14 g15 g16 g17 g18 mo ++ (w_W dA wa r1 ++ (w_Looks dA la y_looks ++ (w_Who dA ha y_who ++ (w_Look dA ca y_look ++ (w_Bus dA ba bu))))))) (kb_rV (n := 1) (As := [.int x0]) (rest := []) hx hb hml hown hK (c_X12_getOff l D dA H.size a wa ba q1 g2 g3 g4 g5 (la 0) (ha 0) (ca 0) g10 g11 g12 g13 g14 g15 g16 g17 g18 mo y_w bu x0 r1 hc1) ⟨ww_7_124, ww_7_121, ww_7_123, ws_74, ww_1_12, rfl, by decide, by decide⟩ rfl rfl (by decide +kernel) ⟨Nat.le_of_ble_eq_true rfl, Nat.le_of_ble_eq_true rfl⟩ hP hD hS hA hE [0, 1, 5, 6, 7, 8, 9, 10, 11, 12, 13, 14, 15, 16, 17, 18, 19, 20] rfl (by decide) 0 rfl rfl rfl hl.1 rfl (Nat.le_of_ble_eq_true rfl) dX12_beforeGettingOn_2 ⟨Nat.le_of_ble_eq_true rfl, Nat.le_of_ble_eq_true rfl⟩) hP hD hS hA [0, 1, 5, 6, 7, 8, 9, 10, 11, 12, 13, 14, 15, 16, 17, 18, 19, 20] [2, 3, 4] [3, 4, 0, 1, 2, 5, 6, 7, 8, 9, 10, 11, 12, 13, 14, 15, 16, 17, 18, 19, 20] rfl rfl (by decide) (by decide) rfl (by decide) (fun H locs hP hD hS => ?_)
    exact B_5 _ _ _ _ _ _ hf hP hD hS (lv_sub hl [0] rfl)
  exact E0 _ _ hP hD hS

noncomputable def f_X12_passes_b61 (mo : MOT) (y_looks : LooksT) (bu : BusT) (z1 : WT) (z3 : WhoT) (z4 : LookT) : Option (WT × WhoT × LookT) := some (z1, z3, z4)
noncomputable def f_X12_passes_b44 (mo : MOT) (y_looks : LooksT) (bu : BusT) (k15 : Int32 → Int32 → WT → WhoT → LookT → Option (WT × WhoT × LookT)) (v1 : Int32) (v2 : Int32) (z1 : WT) (z3 : WhoT) (z4 : LookT) : Option (WT × WhoT × LookT) := k15 v1 (v2 + (1 : Int32)) z1 z3 z4
noncomputable def f_X12_passes_b15 (mo : MOT) (y_looks : LooksT) (bu : BusT) : Nat → Int32 → Int32 → WT → WhoT → LookT → Option (WT × WhoT × LookT)
  | 0, _, _, _, _, _ => none
  | n + 1, v1, v2, z1, z3, z4 => (if (bu_riders bu) ≤ v2 then if kb_in? (52 : Int32) 56 then if kb_in? (52 : Int32) 56 then f_X12_passes_b61 mo y_looks bu (yW_set_r z1 (upd (yW_r z1) ((52 : Int32)).toNatClampNeg (((yW_r z1) ((52 : Int32)).toNatClampNeg) + (1 : Int32)))) z3 z4 else none else none else if kb_in? v2 8 then (if ((bu_on bu) (v2).toNatClampNeg) = v1 then (f_X12_choosesNow mo z1 y_looks z3 z4 bu v2).bind fun r8 => f_X12_passes_b44 mo y_looks bu (f_X12_passes_b15 mo y_looks bu n) v1 v2 r8.1 r8.2.1 r8.2.2 else f_X12_passes_b15 mo y_looks bu n v1 (v2 + (1 : Int32)) z1 z3 z4) else none)
noncomputable def f_X12_passes_b13 (mo : MOT) (y_looks : LooksT) (bu : BusT) (v1 : Int32) (z1 : WT) (z3 : WhoT) (z4 : LookT) : Option (WT × WhoT × LookT) := f_X12_passes_b15 mo y_looks bu 4096 v1 (0 : Int32) z1 z3 z4
noncomputable def f_X12_passes (mo : MOT) (y_w : WT) (y_looks : LooksT) (y_who : WhoT) (y_look : LookT) (bu : BusT) : Option (WT × WhoT × LookT) := if kb_in? (52 : Int32) 56 then (f_X12_beforeGettingOn mo y_w y_looks y_who y_look bu ((yW_r y_w) ((52 : Int32)).toNatClampNeg)).bind fun r2 => f_X12_passes_b13 mo y_looks bu ((yW_r y_w) ((52 : Int32)).toNatClampNeg) r2.1 r2.2.1 r2.2.2 else none
set_option maxHeartbeats 4000000 in
set_option maxRecDepth 100000 in
theorem c_X12_passes (l : Launch) (D : va_G) (dA : Nat → ClassId) (sz : Nat) (a : Nat → Nat) (wa : Nat → Nat) (la : Nat → Nat) (ha : Nat → Nat) (ca : Nat → Nat) (ba : Nat → Nat) (q1 : Option Nat) (g2 : Nat) (g3 : Nat) (g4 : Nat) (g5 : Nat) (g10 : Nat) (g11 : Nat) (g12 : Nat) (g13 : Nat) (g14 : Nat) (g15 : Nat) (g16 : Nat) (g17 : Nat) (g18 : Nat) (mo : MOT) (y_w : WT) (y_looks : LooksT) (y_who : WhoT) (y_look : LookT) (bu : BusT) (u1 : WT) (u3 : WhoT) (u4 : LookT) (hf : f_X12_passes mo y_w y_looks y_who y_look bu = some (u1, u3, u4)) : kb_Mv l yX12_passes cX12_passes 3 none ({ frames := 10, cells := 0, slots := 0, locals := 231 } : Room) D dA [.ref (a 0)] sz (w_MO dA a (some (ba 0)) q1 g2 g3 g4 g5 (wa 0) (la 0) (ha 0) (ca 0) g10 g11 g12 g13 g14 g15 g16 g17 g18 mo ++ (w_W dA wa y_w ++ (w_Looks dA la y_looks ++ (w_Who dA ha y_who ++ (w_Look dA ca y_look ++ (w_Bus dA ba bu)))))) 0 0 (w_MO dA a (some (ba 0)) q1 g2 g3 g4 g5 (wa 0) (la 0) (ha 0) (ca 0) g10 g11 g12 g13 g14 g15 g16 g17 g18 mo ++ (w_W dA wa u1 ++ (w_Looks dA la y_looks ++ (w_Who dA ha u3 ++ (w_Look dA ca u4 ++ (w_Bus dA ba bu)))))) := by
  refine Met.ofW (cc := cX12_passes) (maxL := 3) (ret := none) (by decide) rfl ?_
  intro p e s m args below meth c s₁ B hml hv
  obtain ⟨rfl, hsz, hP, hK, hD0, hE⟩ := hv
  have hx := B.exec
  have hb := B.bytes
  have hr := B.returns
  have hown : s.vm.findClass RX12 = some m.cls := findClass_of_methodNamed B.named
  have hlocks := B.notSynchronized
  have hts : ∀ w ∈ kb_gw, w.before ([.ref (a 0)] : List Value).toArray s = true := fun w hw => hK.2.1 w hw _
  subst hsz
  have hD := hD0.self (sz := s.heap.size)
  generalize hAe : va_A (w_MO dA a (some (ba 0)) q1 g2 g3 g4 g5 (wa 0) (la 0) (ha 0) (ca 0) g10 g11 g12 g13 g14 g15 g16 g17 g18 mo ++ (w_W dA wa y_w ++ (w_Looks dA la y_looks ++ (w_Who dA ha y_who ++ (w_Look dA ca y_look ++ (w_Bus dA ba bu)))))) s.heap.size = A at hD hE ⊢
  have hA : ∀ q : Nat, s.heap.size ≤ q → A q := fun q h => by rw [← hAe]; exact Or.inr h
  have hS : va_S A s.heap s.heap [] := va_S.rf
  have hl := lv_entry ([.ref (a 0)]) (n := 3) (Nat.le_of_ble_eq_true rfl)
  rw [lg_entry_eq]
  generalize (lg_sl ([.ref (a 0)]) ++ List.replicate (3 - (lg_sl ([.ref (a 0)])).length) Slot.unset).toArray = ls at hl ⊢
  have hl : lv_has ls 3 [(0, .ref (a 0))] := hl
  generalize hQ : MQ below (va_Qv (fun (_ : Unit) => True) (kb_B D A (w_MO dA a (some (ba 0)) q1 g2 g3 g4 g5 (wa 0) (la 0) (ha 0) (ca 0) g10 g11 g12 g13 g14 g15 g16 g17 g18 mo ++ (w_W dA wa u1 ++ (w_Looks dA la y_looks ++ (w_Who dA ha u3 ++ (w_Look dA ca u4 ++ (w_Bus dA ba bu))))))) A) ([.ref (a 0)] : List Value).toArray s 0 0 A = Q
  show W p l e ({ frames := 10, cells := 0, slots := 0, locals := 231 } : Room) s m ([.ref (a 0)] : List Value).toArray below meth c s.heap [] 0 0 Q (F0 m 0 ls [])
  have RET : ∀ (w1 : WT) (w3 : WhoT) (w4 : LookT) (H : Heap) (locs : List Loc) (ls : Array Slot) (pc : Nat), some (w1, w3, w4) = some (u1, u3, u4) → va_P D vwCl (w_MO dA a (some (ba 0)) q1 g2 g3 g4 g5 (wa 0) (la 0) (ha 0) (ca 0) g10 g11 g12 g13 g14 g15 g16 g17 g18 mo ++ (w_W dA wa w1 ++ (w_Looks dA la y_looks ++ (w_Who dA ha w3 ++ (w_Look dA ca w4 ++ (w_Bus dA ba bu)))))) H → va_D A (w_MO dA a (some (ba 0)) q1 g2 g3 g4 g5 (wa 0) (la 0) (ha 0) (ca 0) g10 g11 g12 g13 g14 g15 g16 g17 g18 mo ++ (w_W dA wa w1 ++ (w_Looks dA la y_looks ++ (w_Who dA ha w3 ++ (w_Look dA ca w4 ++ (w_Bus dA ba bu)))))) → va_S A s.heap H locs → decode cX12_passes pc = .ok (.return_, 1) → W p l e ({ frames := 10, cells := 0, slots := 0, locals := 231 } : Room) s m ([.ref (a 0)] : List Value).toArray below meth c H locs 0 0 Q (F0 m pc ls []) := by
    intro w1 w3 w4 H locs ls pc hq hP hD hS hd
    cases hq
    rw [← hQ]
    exact W.vret hx hb hr (fun t ht hW => ⟨⟨(), rfl, trivial, by rw [ht]; exact hP, hD⟩, hS.F ht⟩) hS.2.2 hd
  have B_61 : ∀ (z1 : WT) (z3 : WhoT) (z4 : LookT) (H : Heap) (locs : List Loc) (ls : Array Slot), f_X12_passes_b61 mo y_looks bu z1 z3 z4 = some (u1, u3, u4) → va_P D vwCl (w_MO dA a (some (ba 0)) q1 g2 g3 g4 g5 (wa 0) (la 0) (ha 0) (ca 0) g10 g11 g12 g13 g14 g15 g16 g17 g18 mo ++ (w_W dA wa z1 ++ (w_Looks dA la y_looks ++ (w_Who dA ha z3 ++ (w_Look dA ca z4 ++ (w_Bus dA ba bu)))))) H → va_D A (w_MO dA a (some (ba 0)) q1 g2 g3 g4 g5 (wa 0) (la 0) (ha 0) (ca 0) g10 g11 g12 g13 g14 g15 g16 g17 g18 mo ++ (w_W dA wa z1 ++ (w_Looks dA la y_looks ++ (w_Who dA ha z3 ++ (w_Look dA ca z4 ++ (w_Bus dA ba bu)))))) → va_S A s.heap H locs → lv_has ls 3 [] → W p l e ({ frames := 10, cells := 0, slots := 0, locals := 231 } : Room) s m ([.ref (a 0)] : List Value).toArray below meth c H locs 0 0 Q (F0 m 61 ls []) := by
    intro z1 z3 z4 H locs ls hf hP hD hS hl
    rw [f_X12_passes_b61] at hf
    exact RET _ _ _ H _ ls 61 hf hP hD hS dX12_passes_61
  have B_44 : ∀ (k15 : Int32 → Int32 → WT → WhoT → LookT → Option (WT × WhoT × LookT)) (hk15 : ∀ (v1 : Int32) (v2 : Int32) (z1 : WT) (z3 : WhoT) (z4 : LookT) (H : Heap) (locs : List Loc) (ls : Array Slot), k15 v1 v2 z1 z3 z4 = some (u1, u3, u4) → va_P D vwCl (w_MO dA a (some (ba 0)) q1 g2 g3 g4 g5 (wa 0) (la 0) (ha 0) (ca 0) g10 g11 g12 g13 g14 g15 g16 g17 g18 mo ++ (w_W dA wa z1 ++ (w_Looks dA la y_looks ++ (w_Who dA ha z3 ++ (w_Look dA ca z4 ++ (w_Bus dA ba bu)))))) H → va_D A (w_MO dA a (some (ba 0)) q1 g2 g3 g4 g5 (wa 0) (la 0) (ha 0) (ca 0) g10 g11 g12 g13 g14 g15 g16 g17 g18 mo ++ (w_W dA wa z1 ++ (w_Looks dA la y_looks ++ (w_Who dA ha z3 ++ (w_Look dA ca z4 ++ (w_Bus dA ba bu)))))) → va_S A s.heap H locs → lv_has ls 3 [(0, .ref (a 0)), (1, .int v1), (2, .int v2)] → W p l e ({ frames := 10, cells := 0, slots := 0, locals := 231 } : Room) s m ([.ref (a 0)] : List Value).toArray below meth c H locs 0 0 Q (F0 m 15 ls [])) (v1 : Int32) (v2 : Int32) (z1 : WT) (z3 : WhoT) (z4 : LookT) (H : Heap) (locs : List Loc) (ls : Array Slot), f_X12_passes_b44 mo y_looks bu k15 v1 v2 z1 z3 z4 = some (u1, u3, u4) → va_P D vwCl (w_MO dA a (some (ba 0)) q1 g2 g3 g4 g5 (wa 0) (la 0) (ha 0) (ca 0) g10 g11 g12 g13 g14 g15 g16 g17 g18 mo ++ (w_W dA wa z1 ++ (w_Looks dA la y_looks ++ (w_Who dA ha z3 ++ (w_Look dA ca z4 ++ (w_Bus dA ba bu)))))) H → va_D A (w_MO dA a (some (ba 0)) q1 g2 g3 g4 g5 (wa 0) (la 0) (ha 0) (ca 0) g10 g11 g12 g13 g14 g15 g16 g17 g18 mo ++ (w_W dA wa z1 ++ (w_Looks dA la y_looks ++ (w_Who dA ha z3 ++ (w_Look dA ca z4 ++ (w_Bus dA ba bu)))))) → va_S A s.heap H locs → lv_has ls 3 [(0, .ref (a 0)), (1, .int v1), (2, .int v2)] → W p l e ({ frames := 10, cells := 0, slots := 0, locals := 231 } : Room) s m ([.ref (a 0)] : List Value).toArray below meth c H locs 0 0 Q (F0 m 44 ls []) := by
    intro k15 hk15 v1 v2 z1 z3 z4 H locs ls hf hP hD hS hl
    rw [f_X12_passes_b44] at hf
    refine lv_iinc (v := (v2 + (1 : Int32))) (lv' := [(2, .int (v2 + (1 : Int32))), (0, .ref (a 0)), (1, .int v1)]) hx hb dX12_passes_44 hl (k := 2) rfl (by rfl) (by decide) rfl (fun ls hl => ?_)
    refine lv_goto (tgt := 15) hx hb dX12_passes_47 (by decide) ?_
    exact hk15 _ _ _ _ _ _ _ _ hf hP hD hS (lv_sub hl [1, 2, 0] rfl)
  have B_15 : ∀ (n : Nat) (v1 : Int32) (v2 : Int32) (z1 : WT) (z3 : WhoT) (z4 : LookT) (H : Heap) (locs : List Loc) (ls : Array Slot), f_X12_passes_b15 mo y_looks bu n v1 v2 z1 z3 z4 = some (u1, u3, u4) → va_P D vwCl (w_MO dA a (some (ba 0)) q1 g2 g3 g4 g5 (wa 0) (la 0) (ha 0) (ca 0) g10 g11 g12 g13 g14 g15 g16 g17 g18 mo ++ (w_W dA wa z1 ++ (w_Looks dA la y_looks ++ (w_Who dA ha z3 ++ (w_Look dA ca z4 ++ (w_Bus dA ba bu)))))) H → va_D A (w_MO dA a (some (ba 0)) q1 g2 g3 g4 g5 (wa 0) (la 0) (ha 0) (ca 0) g10 g11 g12 g13 g14 g15 g16 g17 g18 mo ++ (w_W dA wa z1 ++ (w_Looks dA la y_looks ++ (w_Who dA ha z3 ++ (w_Look dA ca z4 ++ (w_Bus dA ba bu)))))) → va_S A s.heap H locs → lv_has ls 3 [(0, .ref (a 0)), (1, .int v1), (2, .int v2)] → W p l e ({ frames := 10, cells := 0, slots := 0, locals := 231 } : Room) s m ([.ref (a 0)] : List Value).toArray below meth c H locs 0 0 Q (F0 m 15 ls []) := by
    intro n
    induction n with
    | zero =>
      intro v1 v2 z1 z3 z4 H locs ls hf
      exact absurd hf (by simp [f_X12_passes_b15])
    | succ n ih =>
      intro v1 v2 z1 z3 z4 H locs ls hf hP hD hS hl
      rw [f_X12_passes_b15] at hf
      refine lv_iload_n hx hb dX12_passes_15 rfl (lv_at hl 2 rfl) ?_
      refine lv_aload_n hx hb dX12_passes_16 rfl (lv_at hl 0 rfl) ?_
      refine va_get (D := D) (ci := 12) (v := .ref (ba 0)) (C := RX12) (T := TX12) (N := 35) hx hb hts kb_inX12 hown hK.1 hP 0 rfl rfl 3 (by decide) (hK.2.w ww_5_203 rfl _) (fun _ h9 => h9) rfl dX12_passes_17 ?_
      refine va_getN (D := D) (ci := 11) (v := .int (bu_riders bu)) (C := RX11) (T := TX11) (N := 26) hx hb hts kb_inX11 hown hK.1 hP 5 rfl rfl 7 (by decide) (hK.2.nb ww_6_96 rfl rfl _) (fun _ h9 => h9) rfl dX12_passes_20 ?_
      refine lv_icmp_ge (tgt := 50) hx hb dX12_passes_23 (by decide) (fun c_3 => ?_) (fun c_3 => ?_)
      · rw [if_pos c_3] at hf
        refine lv_aload_n hx hb dX12_passes_50 rfl (lv_at hl 0 rfl) ?_
        refine va_get (D := D) (ci := 12) (v := .ref (wa 0)) (C := RX12) (T := TX12) (N := 35) hx hb hts kb_inX12 hown hK.1 hP 0 rfl rfl 19 (by decide) (hK.2.w ww_5_219 rfl _) (fun _ h9 => h9) rfl dX12_passes_51 ?_
        refine lv_bipush (v := (52 : Int32)) hx hb dX12_passes_54 (by decide) ?_
        refine lv_dup2_11 hx hb dX12_passes_56 rfl rfl ?_
        obtain ⟨h_4, hf⟩ := kb_if hf
        refine va_iald (D := D) hx hb hK.1 hP 1 0 rfl rfl h_4 dX12_passes_57 ?_
        refine lv_iconst (v := (1 : Int32)) hx hb dX12_passes_58 (by decide) ?_
        refine lv_iadd hx hb dX12_passes_59 ?_
        obtain ⟨h_5, hf⟩ := kb_if hf
        refine va_iast (D := D) hx hb hK.1 hP hD hS 1 0 rfl rfl h_5 dX12_passes_60 (fun H locs hP hD hS => ?_)
        have hP : va_P D vwCl (w_MO dA a (some (ba 0)) q1 g2 g3 g4 g5 (wa 0) (la 0) (ha 0) (ca 0) g10 g11 g12 g13 g14 g15 g16 g17 g18 mo ++ (w_W dA wa (yW_set_r z1 (upd (yW_r z1) ((52 : Int32)).toNatClampNeg (((yW_r z1) ((52 : Int32)).toNatClampNeg) + (1 : Int32)))) ++ (w_Looks dA la y_looks ++ (w_Who dA ha z3 ++ (w_Look dA ca z4 ++ (w_Bus dA ba bu)))))) H := hP
        have hD : va_D A (w_MO dA a (some (ba 0)) q1 g2 g3 g4 g5 (wa 0) (la 0) (ha 0) (ca 0) g10 g11 g12 g13 g14 g15 g16 g17 g18 mo ++ (w_W dA wa (yW_set_r z1 (upd (yW_r z1) ((52 : Int32)).toNatClampNeg (((yW_r z1) ((52 : Int32)).toNatClampNeg) + (1 : Int32)))) ++ (w_Looks dA la y_looks ++ (w_Who dA ha z3 ++ (w_Look dA ca z4 ++ (w_Bus dA ba bu)))))) := hD
        exact B_61 _ _ _ _ _ _ hf hP hD hS (lv_sub hl [] rfl)
      · rw [if_neg c_3] at hf
        refine lv_aload_n hx hb dX12_passes_26 rfl (lv_at hl 0 rfl) ?_
        refine va_get (D := D) (ci := 12) (v := .ref (ba 0)) (C := RX12) (T := TX12) (N := 35) hx hb hts kb_inX12 hown hK.1 hP 0 rfl rfl 3 (by decide) (hK.2.w ww_5_203 rfl _) (fun _ h9 => h9) rfl dX12_passes_27 ?_
        refine va_getN (D := D) (ci := 11) (v := .ref (ba 3)) (C := RX11) (T := TX11) (N := 26) hx hb hts kb_inX11 hown hK.1 hP 5 rfl rfl 13 (by decide) (hK.2.nb ww_6_107 rfl rfl _) (fun _ h9 => h9) rfl dX12_passes_30 ?_
        refine lv_iload_n hx hb dX12_passes_33 rfl (lv_at hl 2 rfl) ?_
        obtain ⟨h_6, hf⟩ := kb_if hf
        refine va_iald (D := D) hx hb hK.1 hP 8 0 rfl rfl h_6 dX12_passes_34 ?_
        refine lv_iload_n hx hb dX12_passes_35 rfl (lv_at hl 1 rfl) ?_
        refine lv_icmp_ne (tgt := 44) hx hb dX12_passes_36 (by decide) (fun c_7 => ?_) (fun c_7 => ?_)
        · rw [if_neg c_7] at hf
          refine lv_iinc (v := (v2 + (1 : Int32))) (lv' := [(2, .int (v2 + (1 : Int32))), (0, .ref (a 0)), (1, .int v1)]) hx hb dX12_passes_44 hl (k := 2) rfl (by rfl) (by decide) rfl (fun ls hl => ?_)
          refine lv_goto (tgt := 15) hx hb dX12_passes_47 (by decide) ?_
          exact ih _ _ _ _ _ _ _ _ hf hP hD hS (lv_sub hl [1, 2, 0] rfl)
        · rw [if_pos c_7] at hf
          refine lv_aload_n hx hb dX12_passes_39 rfl (lv_at hl 0 rfl) ?_
          refine lv_iload_n hx hb dX12_passes_40 rfl (lv_at hl 2 rfl) ?_
          obtain ⟨r8, hc8, hf⟩ := kb_bind hf
          refine kb_cv (ws2 := (w_MO dA a (some (ba 0)) q1 g2 g3 g4 g5 (wa 0) (la 0) (ha 0) (ca 0) g10 g11 g12 g13 g14 g15 g16 g17 g18 mo ++ (w_W dA wa r8.1 ++ (w_Looks dA la y_looks ++ (w_Who dA ha r8.2.1 ++ (w_Look dA ca r8.2.2 ++ (w_Bus dA ba bu))))))) (kb_rV (n := 1) (As := [.int v2]) (rest := []) hx hb hml hown hK (c_X12_choosesNow l D dA H.size a wa la ha ca ba q1 g2 g3 g4 g5 g10 g11 g12 g13 g14 g15 g16 g17 g18 mo z1 y_looks z3 z4 bu v2 r8.1 r8.2.1 r8.2.2 hc8) ⟨ww_7_190, ww_7_187, ww_7_189, ws_86, ww_1_12, rfl, by decide, by decide⟩ rfl rfl (by decide +kernel) ⟨Nat.le_of_ble_eq_true rfl, Nat.le_of_ble_eq_true rfl⟩ hP hD hS hA hE [0, 1, 2, 3, 4, 5, 6, 7, 8, 9, 10, 11, 12, 13, 14, 15, 16, 17, 18, 19, 20] rfl (by decide) 0 rfl rfl rfl hl.1 rfl (Nat.le_of_ble_eq_true rfl) dX12_passes_41 ⟨Nat.le_of_ble_eq_true rfl, Nat.le_of_ble_eq_true rfl⟩) hP hD hS hA [0, 1, 2, 3, 4, 5, 6, 7, 8, 9, 10, 11, 12, 13, 14, 15, 16, 17, 18, 19, 20] [] [0, 1, 2, 3, 4, 5, 6, 7, 8, 9, 10, 11, 12, 13, 14, 15, 16, 17, 18, 19, 20] rfl rfl (by decide) (by decide) rfl (by decide) (fun H locs hP hD hS => ?_)
          exact B_44 (f_X12_passes_b15 mo y_looks bu n) ih _ _ _ _ _ _ _ _ hf hP hD hS (lv_sub hl [0, 1, 2] rfl)
  have B_13 : ∀ (v1 : Int32) (z1 : WT) (z3 : WhoT) (z4 : LookT) (H : Heap) (locs : List Loc) (ls : Array Slot), f_X12_passes_b13 mo y_looks bu v1 z1 z3 z4 = some (u1, u3, u4) → va_P D vwCl (w_MO dA a (some (ba 0)) q1 g2 g3 g4 g5 (wa 0) (la 0) (ha 0) (ca 0) g10 g11 g12 g13 g14 g15 g16 g17 g18 mo ++ (w_W dA wa z1 ++ (w_Looks dA la y_looks ++ (w_Who dA ha z3 ++ (w_Look dA ca z4 ++ (w_Bus dA ba bu)))))) H → va_D A (w_MO dA a (some (ba 0)) q1 g2 g3 g4 g5 (wa 0) (la 0) (ha 0) (ca 0) g10 g11 g12 g13 g14 g15 g16 g17 g18 mo ++ (w_W dA wa z1 ++ (w_Looks dA la y_looks ++ (w_Who dA ha z3 ++ (w_Look dA ca z4 ++ (w_Bus dA ba bu)))))) → va_S A s.heap H locs → lv_has ls 3 [(0, .ref (a 0)), (1, .int v1)] → W p l e ({ frames := 10, cells := 0, slots := 0, locals := 231 } : Room) s m ([.ref (a 0)] : List Value).toArray below meth c H locs 0 0 Q (F0 m 13 ls []) := by
    intro v1 z1 z3 z4 H locs ls hf hP hD hS hl
    rw [f_X12_passes_b13] at hf
    refine lv_iconst (v := (0 : Int32)) hx hb dX12_passes_13 (by decide) ?_
    refine lv_istore_n (lv' := [(2, .int (0 : Int32)), (0, .ref (a 0)), (1, .int v1)]) hx hb dX12_passes_14 rfl hl (by decide) rfl (fun ls hl => ?_)
    exact B_15 4096 _ _ _ _ _ _ _ _ hf hP hD hS (lv_sub hl [1, 2, 0] rfl)
  have E0 : ∀ (H : Heap) (locs : List Loc), va_P D vwCl (w_MO dA a (some (ba 0)) q1 g2 g3 g4 g5 (wa 0) (la 0) (ha 0) (ca 0) g10 g11 g12 g13 g14 g15 g16 g17 g18 mo ++ (w_W dA wa y_w ++ (w_Looks dA la y_looks ++ (w_Who dA ha y_who ++ (w_Look dA ca y_look ++ (w_Bus dA ba bu)))))) H → va_D A (w_MO dA a (some (ba 0)) q1 g2 g3 g4 g5 (wa 0) (la 0) (ha 0) (ca 0) g10 g11 g12 g13 g14 g15 g16 g17 g18 mo ++ (w_W dA wa y_w ++ (w_Looks dA la y_looks ++ (w_Who dA ha y_who ++ (w_Look dA ca y_look ++ (w_Bus dA ba bu)))))) → va_S A s.heap H locs → W p l e ({ frames := 10, cells := 0, slots := 0, locals := 231 } : Room) s m ([.ref (a 0)] : List Value).toArray below meth c H locs 0 0 Q (F0 m 0 ls []) := by
    intro H locs hP hD hS
    rw [f_X12_passes] at hf
    refine lv_aload_n hx hb dX12_passes_0 rfl (lv_at hl 0 rfl) ?_
    refine va_get (D := D) (ci := 12) (v := .ref (wa 0)) (C := RX12) (T := TX12) (N := 35) hx hb hts kb_inX12 hown hK.1 hP 0 rfl rfl 19 (by decide) (hK.2.w ww_5_219 rfl _) (fun _ h9 => h9) rfl dX12_passes_1 ?_
    refine lv_bipush (v := (52 : Int32)) hx hb dX12_passes_4 (by decide) ?_
    obtain ⟨h_1, hf⟩ := kb_if hf
    refine va_iald (D := D) hx hb hK.1 hP 1 0 rfl rfl h_1 dX12_passes_6 ?_
    refine lv_istore_n (lv' := [(1, .int ((yW_r y_w) ((52 : Int32)).toNatClampNeg)), (0, .ref (a 0))]) hx hb dX12_passes_7 rfl hl (by decide) rfl (fun ls hl => ?_)
    refine lv_aload_n hx hb dX12_passes_8 rfl (lv_at hl 1 rfl) ?_
    refine lv_iload_n hx hb dX12_passes_9 rfl (lv_at hl 0 rfl) ?_
    obtain ⟨r2, hc2, hf⟩ := kb_bind hf
    refine kb_cv (ws2 := (w_MO dA a (some (ba 0)) q1 g2 g3 g4 g5 (wa 0) (la 0) (ha 0) (ca 0) g10 g11 g12 g13 g14 g15 g16 g17 g18 mo ++ (w_W dA wa r2.1 ++ (w_Looks dA la y_looks ++ (w_Who dA ha r2.2.1 ++ (w_Look dA ca r2.2.2 ++ (w_Bus dA ba bu))))))) (kb_rV (n := 1) (As := [.int ((yW_r y_w) ((52 : Int32)).toNatClampNeg)]) (rest := []) hx hb hml hown hK (c_X12_beforeGettingOn l D dA H.size a wa la ha ca ba q1 g2 g3 g4 g5 g10 g11 g12 g13 g14 g15 g16 g17 g18 mo y_w y_looks y_who y_look bu ((yW_r y_w) ((52 : Int32)).toNatClampNeg) r2.1 r2.2.1 r2.2.2 hc2) ⟨ww_7_120, ww_7_117, ww_7_119, ws_73, ww_1_12, rfl, by decide, by decide⟩ rfl rfl (by decide +kernel) ⟨Nat.le_of_ble_eq_true rfl, Nat.le_of_ble_eq_true rfl⟩ hP hD hS hA hE [0, 1, 2, 3, 4, 5, 6, 7, 8, 9, 10, 11, 12, 13, 14, 15, 16, 17, 18, 19, 20] rfl (by decide) 0 rfl rfl rfl hl.1 rfl (Nat.le_of_ble_eq_true rfl) dX12_passes_10 ⟨Nat.le_of_ble_eq_true rfl, Nat.le_of_ble_eq_true rfl⟩) hP hD hS hA [0, 1, 2, 3, 4, 5, 6, 7, 8, 9, 10, 11, 12, 13, 14, 15, 16, 17, 18, 19, 20] [] [0, 1, 2, 3, 4, 5, 6, 7, 8, 9, 10, 11, 12, 13, 14, 15, 16, 17, 18, 19, 20] rfl rfl (by decide) (by decide) rfl (by decide) (fun H locs hP hD hS => ?_)
    exact B_13 _ _ _ _ _ _ _ hf hP hD hS (lv_sub hl [1, 0] rfl)
  exact E0 _ _ hP hD hS

noncomputable def f_X12_runs_b18 (mo : MOT) (y_looks : LooksT) (bu : BusT) (k2 : Int32 → WT → WhoT → LookT → Option (Int32 × WT × WhoT × LookT)) (v1 : Int32) (z1 : WT) (z3 : WhoT) (z4 : LookT) : Option (Int32 × WT × WhoT × LookT) := if kb_in? (52 : Int32) 56 then if kb_in? (((40 : Int32) + ((yW_r z1) ((52 : Int32)).toNatClampNeg)) - (1 : Int32)) 56 then k2 (v1 + ((yW_r z1) ((((40 : Int32) + ((yW_r z1) ((52 : Int32)).toNatClampNeg)) - (1 : Int32))).toNatClampNeg)) z1 z3 z4 else none else none
noncomputable def f_X12_runs_b2 (mo : MOT) (y_looks : LooksT) (bu : BusT) : Nat → Int32 → WT → WhoT → LookT → Option (Int32 × WT × WhoT × LookT)
  | 0, _, _, _, _ => none
  | n + 1, v1, z1, z3, z4 => if kb_in? (52 : Int32) 56 then (if (12 : Int32) ≤ ((yW_r z1) ((52 : Int32)).toNatClampNeg) then some (v1, z1, z3, z4) else (f_X12_passes mo z1 y_looks z3 z4 bu).bind fun r3 => f_X12_runs_b18 mo y_looks bu (f_X12_runs_b2 mo y_looks bu n) v1 r3.1 r3.2.1 r3.2.2) else none
noncomputable def f_X12_runs (mo : MOT) (y_w : WT) (y_looks : LooksT) (y_who : WhoT) (y_look : LookT) (bu : BusT) : Option (Int32 × WT × WhoT × LookT) := f_X12_runs_b2 mo y_looks bu 4096 (0 : Int32) y_w y_who y_look
set_option maxHeartbeats 4000000 in
set_option maxRecDepth 100000 in
theorem c_X12_runs (l : Launch) (D : va_G) (dA : Nat → ClassId) (sz : Nat) (a : Nat → Nat) (wa : Nat → Nat) (la : Nat → Nat) (ha : Nat → Nat) (ca : Nat → Nat) (ba : Nat → Nat) (q1 : Option Nat) (g2 : Nat) (g3 : Nat) (g4 : Nat) (g5 : Nat) (g10 : Nat) (g11 : Nat) (g12 : Nat) (g13 : Nat) (g14 : Nat) (g15 : Nat) (g16 : Nat) (g17 : Nat) (g18 : Nat) (mo : MOT) (y_w : WT) (y_looks : LooksT) (y_who : WhoT) (y_look : LookT) (bu : BusT) (rv : Int32) (u1 : WT) (u3 : WhoT) (u4 : LookT) (hf : f_X12_runs mo y_w y_looks y_who y_look bu = some (rv, u1, u3, u4)) : kb_Mi l yX12_runs cX12_runs 2 (some .int) ({ frames := 11, cells := 0, slots := 0, locals := 253 } : Room) D dA [.ref (a 0)] sz (w_MO dA a (some (ba 0)) q1 g2 g3 g4 g5 (wa 0) (la 0) (ha 0) (ca 0) g10 g11 g12 g13 g14 g15 g16 g17 g18 mo ++ (w_W dA wa y_w ++ (w_Looks dA la y_looks ++ (w_Who dA ha y_who ++ (w_Look dA ca y_look ++ (w_Bus dA ba bu)))))) 0 0 rv (w_MO dA a (some (ba 0)) q1 g2 g3 g4 g5 (wa 0) (la 0) (ha 0) (ca 0) g10 g11 g12 g13 g14 g15 g16 g17 g18 mo ++ (w_W dA wa u1 ++ (w_Looks dA la y_looks ++ (w_Who dA ha u3 ++ (w_Look dA ca u4 ++ (w_Bus dA ba bu)))))) := by
  refine Met.ofW (cc := cX12_runs) (maxL := 2) (ret := (some .int)) (by decide) rfl ?_
  intro p e s m args below meth c s₁ B hml hv
  obtain ⟨rfl, hsz, hP, hK, hD0, hE⟩ := hv
  have hx := B.exec
  have hb := B.bytes
  have hr := B.returns
  have hown : s.vm.findClass RX12 = some m.cls := findClass_of_methodNamed B.named
  have hlocks := B.notSynchronized
  have hts : ∀ w ∈ kb_gw, w.before ([.ref (a 0)] : List Value).toArray s = true := fun w hw => hK.2.1 w hw _
  subst hsz
  have hD := hD0.self (sz := s.heap.size)
  generalize hAe : va_A (w_MO dA a (some (ba 0)) q1 g2 g3 g4 g5 (wa 0) (la 0) (ha 0) (ca 0) g10 g11 g12 g13 g14 g15 g16 g17 g18 mo ++ (w_W dA wa y_w ++ (w_Looks dA la y_looks ++ (w_Who dA ha y_who ++ (w_Look dA ca y_look ++ (w_Bus dA ba bu)))))) s.heap.size = A at hD hE ⊢
  have hA : ∀ q : Nat, s.heap.size ≤ q → A q := fun q h => by rw [← hAe]; exact Or.inr h
  have hS : va_S A s.heap s.heap [] := va_S.rf
  have hl := lv_entry ([.ref (a 0)]) (n := 2) (Nat.le_of_ble_eq_true rfl)
  rw [lg_entry_eq]
  generalize (lg_sl ([.ref (a 0)]) ++ List.replicate (2 - (lg_sl ([.ref (a 0)])).length) Slot.unset).toArray = ls at hl ⊢
  have hl : lv_has ls 2 [(0, .ref (a 0))] := hl
  generalize hQ : MQ below (va_Qi (fun r (_ : Unit) => r = rv) (kb_B D A (w_MO dA a (some (ba 0)) q1 g2 g3 g4 g5 (wa 0) (la 0) (ha 0) (ca 0) g10 g11 g12 g13 g14 g15 g16 g17 g18 mo ++ (w_W dA wa u1 ++ (w_Looks dA la y_looks ++ (w_Who dA ha u3 ++ (w_Look dA ca u4 ++ (w_Bus dA ba bu))))))) A) ([.ref (a 0)] : List Value).toArray s 0 0 A = Q
  show W p l e ({ frames := 11, cells := 0, slots := 0, locals := 253 } : Room) s m ([.ref (a 0)] : List Value).toArray below meth c s.heap [] 0 0 Q (F0 m 0 ls [])
  have RET : ∀ (r2 : Int32) (w1 : WT) (w3 : WhoT) (w4 : LookT) (H : Heap) (locs : List Loc) (ls : Array Slot) (pc : Nat), some (r2, w1, w3, w4) = some (rv, u1, u3, u4) → va_P D vwCl (w_MO dA a (some (ba 0)) q1 g2 g3 g4 g5 (wa 0) (la 0) (ha 0) (ca 0) g10 g11 g12 g13 g14 g15 g16 g17 g18 mo ++ (w_W dA wa w1 ++ (w_Looks dA la y_looks ++ (w_Who dA ha w3 ++ (w_Look dA ca w4 ++ (w_Bus dA ba bu)))))) H → va_D A (w_MO dA a (some (ba 0)) q1 g2 g3 g4 g5 (wa 0) (la 0) (ha 0) (ca 0) g10 g11 g12 g13 g14 g15 g16 g17 g18 mo ++ (w_W dA wa w1 ++ (w_Looks dA la y_looks ++ (w_Who dA ha w3 ++ (w_Look dA ca w4 ++ (w_Bus dA ba bu)))))) → va_S A s.heap H locs → decode cX12_runs pc = .ok (.ireturn, 1) → W p l e ({ frames := 11, cells := 0, slots := 0, locals := 253 } : Room) s m ([.ref (a 0)] : List Value).toArray below meth c H locs 0 0 Q (F0 m pc ls [.int r2]) := by
    intro r2 w1 w3 w4 H locs ls pc hq hP hD hS hd
    cases hq
    rw [← hQ]
    exact W.iret hx hb hr (fun t ht hW => ⟨⟨_, (), rfl, rfl, by rw [ht]; exact hP, hD⟩, hS.F ht⟩) hS.2.2 hd
  have B_18 : ∀ (k2 : Int32 → WT → WhoT → LookT → Option (Int32 × WT × WhoT × LookT)) (hk2 : ∀ (v1 : Int32) (z1 : WT) (z3 : WhoT) (z4 : LookT) (H : Heap) (locs : List Loc) (ls : Array Slot), k2 v1 z1 z3 z4 = some (rv, u1, u3, u4) → va_P D vwCl (w_MO dA a (some (ba 0)) q1 g2 g3 g4 g5 (wa 0) (la 0) (ha 0) (ca 0) g10 g11 g12 g13 g14 g15 g16 g17 g18 mo ++ (w_W dA wa z1 ++ (w_Looks dA la y_looks ++ (w_Who dA ha z3 ++ (w_Look dA ca z4 ++ (w_Bus dA ba bu)))))) H → va_D A (w_MO dA a (some (ba 0)) q1 g2 g3 g4 g5 (wa 0) (la 0) (ha 0) (ca 0) g10 g11 g12 g13 g14 g15 g16 g17 g18 mo ++ (w_W dA wa z1 ++ (w_Looks dA la y_looks ++ (w_Who dA ha z3 ++ (w_Look dA ca z4 ++ (w_Bus dA ba bu)))))) → va_S A s.heap H locs → lv_has ls 2 [(0, .ref (a 0)), (1, .int v1)] → W p l e ({ frames := 11, cells := 0, slots := 0, locals := 253 } : Room) s m ([.ref (a 0)] : List Value).toArray below meth c H locs 0 0 Q (F0 m 2 ls [])) (v1 : Int32) (z1 : WT) (z3 : WhoT) (z4 : LookT) (H : Heap) (locs : List Loc) (ls : Array Slot), f_X12_runs_b18 mo y_looks bu k2 v1 z1 z3 z4 = some (rv, u1, u3, u4) → va_P D vwCl (w_MO dA a (some (ba 0)) q1 g2 g3 g4 g5 (wa 0) (la 0) (ha 0) (ca 0) g10 g11 g12 g13 g14 g15 g16 g17 g18 mo ++ (w_W dA wa z1 ++ (w_Looks dA la y_looks ++ (w_Who dA ha z3 ++ (w_Look dA ca z4 ++ (w_Bus dA ba bu)))))) H → va_D A (w_MO dA a (some (ba 0)) q1 g2 g3 g4 g5 (wa 0) (la 0) (ha 0) (ca 0) g10 g11 g12 g13 g14 g15 g16 g17 g18 mo ++ (w_W dA wa z1 ++ (w_Looks dA la y_looks ++ (w_Who dA ha z3 ++ (w_Look dA ca z4 ++ (w_Bus dA ba bu)))))) → va_S A s.heap H locs → lv_has ls 2 [(0, .ref (a 0)), (1, .int v1)] → W p l e ({ frames := 11, cells := 0, slots := 0, locals := 253 } : Room) s m ([.ref (a 0)] : List Value).toArray below meth c H locs 0 0 Q (F0 m 18 ls []) := by
    intro k2 hk2 v1 z1 z3 z4 H locs ls hf hP hD hS hl
    rw [f_X12_runs_b18] at hf
    refine lv_iload_n hx hb dX12_runs_18 rfl (lv_at hl 1 rfl) ?_
    refine lv_aload_n hx hb dX12_runs_19 rfl (lv_at hl 0 rfl) ?_
    refine va_get (D := D) (ci := 12) (v := .ref (wa 0)) (C := RX12) (T := TX12) (N := 35) hx hb hts kb_inX12 hown hK.1 hP 0 rfl rfl 19 (by decide) (hK.2.w ww_5_219 rfl _) (fun _ h9 => h9) rfl dX12_runs_20 ?_
    refine lv_bipush (v := (40 : Int32)) hx hb dX12_runs_23 (by decide) ?_
    refine lv_aload_n hx hb dX12_runs_25 rfl (lv_at hl 0 rfl) ?_
    refine va_get (D := D) (ci := 12) (v := .ref (wa 0)) (C := RX12) (T := TX12) (N := 35) hx hb hts kb_inX12 hown hK.1 hP 0 rfl rfl 19 (by decide) (hK.2.w ww_5_219 rfl _) (fun _ h9 => h9) rfl dX12_runs_26 ?_
    refine lv_bipush (v := (52 : Int32)) hx hb dX12_runs_29 (by decide) ?_
    obtain ⟨h_4, hf⟩ := kb_if hf
    refine va_iald (D := D) hx hb hK.1 hP 1 0 rfl rfl h_4 dX12_runs_31 ?_
    refine lv_iadd hx hb dX12_runs_32 ?_
    refine lv_iconst (v := (1 : Int32)) hx hb dX12_runs_33 (by decide) ?_
    refine lv_isub hx hb dX12_runs_34 ?_
    obtain ⟨h_5, hf⟩ := kb_if hf
    refine va_iald (D := D) hx hb hK.1 hP 1 0 rfl rfl h_5 dX12_runs_35 ?_
    refine lv_iadd hx hb dX12_runs_36 ?_
    refine lv_istore_n (lv' := [(1, .int (v1 + ((yW_r z1) ((((40 : Int32) + ((yW_r z1) ((52 : Int32)).toNatClampNeg)) - (1 : Int32))).toNatClampNeg))), (0, .ref (a 0))]) hx hb dX12_runs_37 rfl hl (by decide) rfl (fun ls hl => ?_)
    refine lv_goto (tgt := 2) hx hb dX12_runs_38 (by decide) ?_
    exact hk2 _ _ _ _ _ _ _ hf hP hD hS (lv_sub hl [1, 0] rfl)
  have B_2 : ∀ (n : Nat) (v1 : Int32) (z1 : WT) (z3 : WhoT) (z4 : LookT) (H : Heap) (locs : List Loc) (ls : Array Slot), f_X12_runs_b2 mo y_looks bu n v1 z1 z3 z4 = some (rv, u1, u3, u4) → va_P D vwCl (w_MO dA a (some (ba 0)) q1 g2 g3 g4 g5 (wa 0) (la 0) (ha 0) (ca 0) g10 g11 g12 g13 g14 g15 g16 g17 g18 mo ++ (w_W dA wa z1 ++ (w_Looks dA la y_looks ++ (w_Who dA ha z3 ++ (w_Look dA ca z4 ++ (w_Bus dA ba bu)))))) H → va_D A (w_MO dA a (some (ba 0)) q1 g2 g3 g4 g5 (wa 0) (la 0) (ha 0) (ca 0) g10 g11 g12 g13 g14 g15 g16 g17 g18 mo ++ (w_W dA wa z1 ++ (w_Looks dA la y_looks ++ (w_Who dA ha z3 ++ (w_Look dA ca z4 ++ (w_Bus dA ba bu)))))) → va_S A s.heap H locs → lv_has ls 2 [(0, .ref (a 0)), (1, .int v1)] → W p l e ({ frames := 11, cells := 0, slots := 0, locals := 253 } : Room) s m ([.ref (a 0)] : List Value).toArray below meth c H locs 0 0 Q (F0 m 2 ls []) := by
    intro n
    induction n with
    | zero =>
      intro v1 z1 z3 z4 H locs ls hf
      exact absurd hf (by simp [f_X12_runs_b2])
    | succ n ih =>
      intro v1 z1 z3 z4 H locs ls hf hP hD hS hl
      rw [f_X12_runs_b2] at hf
      refine lv_aload_n hx hb dX12_runs_2 rfl (lv_at hl 0 rfl) ?_
      refine va_get (D := D) (ci := 12) (v := .ref (wa 0)) (C := RX12) (T := TX12) (N := 35) hx hb hts kb_inX12 hown hK.1 hP 0 rfl rfl 19 (by decide) (hK.2.w ww_5_219 rfl _) (fun _ h9 => h9) rfl dX12_runs_3 ?_
      refine lv_bipush (v := (52 : Int32)) hx hb dX12_runs_6 (by decide) ?_
      obtain ⟨h_1, hf⟩ := kb_if hf
      refine va_iald (D := D) hx hb hK.1 hP 1 0 rfl rfl h_1 dX12_runs_8 ?_
      refine lv_bipush (v := (12 : Int32)) hx hb dX12_runs_9 (by decide) ?_
      refine lv_icmp_ge (tgt := 41) hx hb dX12_runs_11 (by decide) (fun c_2 => ?_) (fun c_2 => ?_)
      · rw [if_pos c_2] at hf
        refine lv_iload_n hx hb dX12_runs_41 rfl (lv_at hl 1 rfl) ?_
        exact RET _ _ _ _ H _ ls 42 hf hP hD hS dX12_runs_42
      · rw [if_neg c_2] at hf
        refine lv_aload_n hx hb dX12_runs_14 rfl (lv_at hl 0 rfl) ?_
        obtain ⟨r3, hc3, hf⟩ := kb_bind hf
        refine kb_cv (ws2 := (w_MO dA a (some (ba 0)) q1 g2 g3 g4 g5 (wa 0) (la 0) (ha 0) (ca 0) g10 g11 g12 g13 g14 g15 g16 g17 g18 mo ++ (w_W dA wa r3.1 ++ (w_Looks dA la y_looks ++ (w_Who dA ha r3.2.1 ++ (w_Look dA ca r3.2.2 ++ (w_Bus dA ba bu))))))) (kb_rV (n := 0) (As := []) (rest := []) hx hb hml hown hK (c_X12_passes l D dA H.size a wa la ha ca ba q1 g2 g3 g4 g5 g10 g11 g12 g13 g14 g15 g16 g17 g18 mo z1 y_looks z3 z4 bu r3.1 r3.2.1 r3.2.2 hc3) ⟨ww_7_116, ww_7_113, ww_7_115, ws_72, ww_1_12, rfl, by decide, by decide⟩ rfl rfl (by decide +kernel) ⟨Nat.le_of_ble_eq_true rfl, Nat.le_of_ble_eq_true rfl⟩ hP hD hS hA hE [0, 1, 2, 3, 4, 5, 6, 7, 8, 9, 10, 11, 12, 13, 14, 15, 16, 17, 18, 19, 20] rfl (by decide) 0 rfl rfl rfl hl.1 rfl (Nat.le_of_ble_eq_true rfl) dX12_runs_15 ⟨Nat.le_of_ble_eq_true rfl, Nat.le_of_ble_eq_true rfl⟩) hP hD hS hA [0, 1, 2, 3, 4, 5, 6, 7, 8, 9, 10, 11, 12, 13, 14, 15, 16, 17, 18, 19, 20] [] [0, 1, 2, 3, 4, 5, 6, 7, 8, 9, 10, 11, 12, 13, 14, 15, 16, 17, 18, 19, 20] rfl rfl (by decide) (by decide) rfl (by decide) (fun H locs hP hD hS => ?_)
        exact B_18 (f_X12_runs_b2 mo y_looks bu n) ih _ _ _ _ _ _ _ hf hP hD hS (lv_sub hl [0, 1] rfl)
  have E0 : ∀ (H : Heap) (locs : List Loc), va_P D vwCl (w_MO dA a (some (ba 0)) q1 g2 g3 g4 g5 (wa 0) (la 0) (ha 0) (ca 0) g10 g11 g12 g13 g14 g15 g16 g17 g18 mo ++ (w_W dA wa y_w ++ (w_Looks dA la y_looks ++ (w_Who dA ha y_who ++ (w_Look dA ca y_look ++ (w_Bus dA ba bu)))))) H → va_D A (w_MO dA a (some (ba 0)) q1 g2 g3 g4 g5 (wa 0) (la 0) (ha 0) (ca 0) g10 g11 g12 g13 g14 g15 g16 g17 g18 mo ++ (w_W dA wa y_w ++ (w_Looks dA la y_looks ++ (w_Who dA ha y_who ++ (w_Look dA ca y_look ++ (w_Bus dA ba bu)))))) → va_S A s.heap H locs → W p l e ({ frames := 11, cells := 0, slots := 0, locals := 253 } : Room) s m ([.ref (a 0)] : List Value).toArray below meth c H locs 0 0 Q (F0 m 0 ls []) := by
    intro H locs hP hD hS
    rw [f_X12_runs] at hf
    refine lv_iconst (v := (0 : Int32)) hx hb dX12_runs_0 (by decide) ?_
    refine lv_istore_n (lv' := [(1, .int (0 : Int32)), (0, .ref (a 0))]) hx hb dX12_runs_1 rfl hl (by decide) rfl (fun ls hl => ?_)
    exact B_2 4096 _ _ _ _ _ _ _ hf hP hD hS (lv_sub hl [1, 0] rfl)
  exact E0 _ _ hP hD hS
